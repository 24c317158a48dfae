/-! ===== pure: the fewest works, by the class: the tables ===== -/
theorem gI_aI_c {h : AH} {k i a b c : Nat} {f : Nat → Int32} (hn : ¬ (a = k ∧ b = i)) : gI (aI h k i f) a b c = gI h a b c := if_neg hn
section C
variable {h : AH} {S R : Nat → Nat}
noncomputable def ofw (R : Nat → Nat) (sh : Nat) (h : AH) (k : Nat) : Nat → Int32 := fun j => if k ≤ j ∧ j < 2 ^ nC R then nI (o1 (aC R sh) j) else gI h 30 0 j
theorem c_learnOne (hT : LawT h R) (hn : nC R ≤ 12) (h6 : gI h 28 0 6 = nI (2 ^ nC R)) {sh : Nat} : jQ_learnOneWork h (nI sh) = some (aI h 30 0 (ofw R sh h 0)) := by
  have hp : 2 ^ nC R ≤ 2 ^ 12 := Nat.pow_le_pow_right (by decide) hn
  have hp0 := Nat.two_pow_pos (nC R)
  unfold jQ_learnOneWork
  rw [h6]
  have key := dn_ind (P := fun n k => k ≤ 2 ^ nC R → jQ_learnOneWork_7 (nI sh) n (nI k - nI 1) (aI h 30 0 (ofw R sh h k)) = some (aI h 30 0 (ofw R sh h 0))) (fun n _ => ?_) (fun n k ih hk => ?_)
  · have := key (2 ^ nC R) FU (FU_lt (by omega)) (Nat.le_refl _)
    rw [aI_id (f := ofw R sh h (2 ^ nC R)) (fun c => by unfold ofw; exact if_neg (by omega))] at this
    exact this
  · rw [jQ_learnOneWork_7]
    simp (disch := omega) only [litI, jbn, inb_nI, nI_clamp, nI_add, pk_sub, pk_mul, nI_and, nI_or, and31, sh1, nI_dif, nI_bit, nI_shr, nI_eq, nI_ltI, nI_leI, nI_eq_neg, neg_eq_nI, neg_eq_neg, neg_lt_nI, nI_lt_neg, neg_le_nI, nI_le_neg, cv_eq2, nI_tn0, nI_tn1, obind, if_pos, if_neg, Nat.not_lt_zero, eq_self, if_true, if_false, Nat.zero_le, Nat.add_sub_cancel, nI_m1, nI_dn]
  · have ih := ih (by omega)
    have hT2 : LawT (aI h 30 0 (ofw R sh h (k + 1))) R := fun j hj => (gI_aI_n (by omega)).trans (hT j hj)
    have h62 : gI (aI h 30 0 (ofw R sh h (k + 1))) 28 0 6 = nI (2 ^ nC R) := (gI_aI_n (by omega)).trans h6
    have hf : ∀ t, k < t → t < 2 ^ nC R → gI (aI h 30 0 (ofw R sh h (k + 1))) 30 0 t = nI (o1 (aC R sh) t) ∧ o1 (aC R sh) t ≤ 100 := by
      intro t h1 h2
      rw [gI_aI_s]
      exact ⟨if_pos ⟨by omega, h2⟩, o1_le _ _⟩
    have hall : ∀ x, aC R sh x = true → x < 2 ^ nC R := fun x hx => (aC_lt hx).1
    have hstep : ∀ v, v = o1 (aC R sh) k → uI (aI h 30 0 (ofw R sh h (k + 1))) 30 0 k (nI v) = aI h 30 0 (ofw R sh h k) := by
      rintro v rfl
      rw [uI_aI]
      refine aI_ext (fun c => ?_)
      unfold ofw
      by_cases hc : c = k
      · rw [if_pos hc, if_pos (by omega), hc]
      · rw [if_neg hc]
        by_cases h2 : k + 1 ≤ c ∧ c < 2 ^ nC R
        · rw [if_pos h2, if_pos (by omega)]
        · rw [if_neg h2, if_neg (by omega)]
    have hk2 : k < 2 ^ nC R := by omega
    have e69 : ∀ v, (v = 1 ∧ One (aC R sh) k ∨ v = 0 ∧ ¬ One (aC R sh) k) → jQ_learnOneWork_69 (nI sh) (jQ_learnOneWork_7 (nI sh) n) (nI k) (nI v) (aI h 30 0 (ofw R sh h (k + 1))) = some (aI h 30 0 (ofw R sh h 0)) := by
      intro v hv
      unfold jQ_learnOneWork_69
      rcases hv with ⟨rfl, hv⟩ | ⟨rfl, hv⟩
      · simp (disch := omega) only [litI, nI_eq, if_neg, inb_nI, nI_clamp, jbn, if_true, nI_dn]
        rw [hstep 1 (o1_t hv).symm]
        exact ih
      · simp (disch := omega) only [litI, if_true, inb_nI, nI_clamp, jbn, nI_dn]
        rw [hstep 100 (o1_f hv).symm]
        exact ih
    rw [jQ_learnOneWork_7]
    simp (disch := omega) only [litI, pk_sub, Nat.add_sub_cancel, nI_ltI, Nat.not_lt_zero, if_false, c_mayPaint hT2 hn hk2, obind]
    have hac : aC R sh k = adm R sh k := aC_of hk2
    cases had : adm R sh k
    · simp only [Bool.toNat_false]
      by_cases hone : ∃ j, j < nC R ∧ k.testBit j = false ∧ o1 (aC R sh) (k ||| 2 ^ j) = 1
      · rw [c_inner21 _ _ hn hk2 h62 hf 1 (Or.inl ⟨rfl, hone⟩)]
        refine e69 1 (Or.inl ⟨rfl, (one_step hall).mpr (Or.inr ?_)⟩)
        obtain ⟨j, q1, q2, q3⟩ := hone
        exact ⟨j, q1, q2, o1_eq1.mp q3⟩
      · rw [c_inner21 _ _ hn hk2 h62 hf 0 (Or.inr ⟨rfl, fun j q1 q2 q3 => hone ⟨j, q1, q2, q3⟩⟩)]
        refine e69 0 (Or.inr ⟨rfl, fun z => ?_⟩)
        rcases (one_step hall).mp z with z | ⟨j, q1, q2, q3⟩
        · rw [hac, had] at z; cases z
        · exact hone ⟨j, q1, q2, o1_eq1.mpr q3⟩
    · simp only [Bool.toNat_true]
      rw [show FU = 9999 + 1 from rfl, jQ_learnOneWork_21]
      have hone : One (aC R sh) k := (one_step hall).mpr (Or.inl (by rw [hac]; exact had))
      by_cases h1n : 1 < 2 ^ nC R
      · simp (disch := omega) only [litI, h62, nI_ltI, if_pos, nI_eq, if_neg]
        exact e69 1 (Or.inl ⟨rfl, hone⟩)
      · simp (disch := omega) only [litI, h62, nI_ltI, if_neg]
        exact e69 1 (Or.inl ⟨rfl, hone⟩)
theorem cov_pick {a : Nat → Bool} {p : Nat} : ∀ k s, Cov a (k + 1) s → s.testBit p = true → ∃ x, a x = true ∧ x.testBit p = true ∧ Cov a k (bD s x) := by
  intro k
  induction k with
  | zero =>
    rintro s ⟨x, hx, hr⟩ hp
    refine ⟨x, hx, ?_, hr⟩
    have hr : bD s x = 0 := hr
    rw [bD0] at hr
    exact hr p hp
  | succ k ih =>
    rintro s ⟨x0, hx0, hr0⟩ hp
    by_cases h0 : x0.testBit p = true
    · exact ⟨x0, hx0, h0, hr0⟩
    · obtain ⟨x, hx, hxp, hr⟩ := ih (bD s x0) hr0 (by
        rw [bD_tb, hp]
        cases hq : x0.testBit p
        · rfl
        · exact absurd hq h0)
      refine ⟨x, hx, hxp, x0, hx0, ?_⟩
      have : bD (bD s x) x0 = bD (bD s x0) x := by
        apply Nat.eq_of_testBit_eq
        intro i
        simp only [bD_tb]
        cases s.testBit i <;> cases x.testBit i <;> cases x0.testBit i <;> rfl
      rw [this]
      exact hr
theorem c_inTurn {a : Nat → Bool} {f : Nat → Nat} {s n : Nat} (ha0 : a 0 = true) (hn : n ≤ 12) (hs : s < 2 ^ n) (hs0 : s ≠ 0) (hf : ∀ t, t < 2 ^ n → gI h 30 0 t = nI (f t) ∧ f t ≤ 100) (hf1 : ∀ t, t < 2 ^ n → t ≠ 0 → (f t = 1 ↔ One a t)) (hf2 : ∀ t, t < s → bD t s = 0 → f t = mcv a t) (hns : ¬ One a s) : jQ_fewestInTurn h (nI s) = some (nI (mcv a s)) := by
  have hp : 2 ^ n ≤ 2 ^ 12 := Nat.pow_le_pow_right (by decide) hn
  have hs12 : s < 2 ^ 12 := by omega
  obtain ⟨hl, hbl, hlt, hlz⟩ := lw_spec hs hs0
  have hpw : 2 ^ lw s < 2 ^ n := Nat.pow_lt_pow_right (by decide) hl
  generalize hfi : 2 ^ lw s = fi at hbl hpw
  generalize ho : bD s fi = o
  have ho1 : o < 2 ^ n := by rw [← ho]; exact bD_lt hs
  have ho12 : o < 2 ^ 12 := by omega
  have hpc := bP_le o 12
  have hpc24 : bP o 24 = bP o 12 := bP_up ho12 (by omega)
  have hN : 2 ^ bP o 12 ≤ 2 ^ 12 := Nat.pow_le_pow_right (by decide) hpc
  have hN0 := Nat.two_pow_pos (bP o 12)
  have hfull := rk_full 12 o ho12
  have hfib : fi.testBit (lw s) = true := by rw [← hfi]; exact pow_tb.mpr rfl
  have hob : ∀ i, o.testBit i = true ↔ s.testBit i = true ∧ i ≠ lw s := by
    intro i
    rw [← ho, ← hfi, bD_tb, Nat.testBit_two_pow]
    simp only [Bool.and_eq_true, Bool.not_eq_true', decide_eq_false_iff_not]
    constructor
    · rintro ⟨q1, q2⟩; exact ⟨q1, fun z => q2 z.symm⟩
    · rintro ⟨q1, q2⟩; exact ⟨q1, fun z => q2 z.symm⟩
  have hos : o < s := by
    have h1 : o ≤ s := b_sub_le (fun i hi => ((hob i).mp hi).1)
    have h2 : o ≠ s := fun z => by
      have := (hob (lw s)).mp (by rw [z]; exact hlt)
      exact this.2 rfl
    omega
  have hm2 : 2 ≤ mcv a s := by
    have h1 := mcv_pos ha0 hs12 hs0
    have h2 : mcv a s ≠ 1 := fun z => hns ((one_mcv ha0 hs12 hs0).mp z)
    omega
  have hmb := mcv_b ha0 hs12
  -- a choice that one work can bring, with the first: a cover
  have hup : ∀ c, bD c o = 0 → One a (c ||| fi) → mcv a (bD o c) < 100 → 1 ≤ mcv a (bD o c) ∧ Cov a (mcv a (bD o c) + 1) s := by
    rintro c hc ⟨x, hx, hxs⟩ hlt100
    have hoc : bD o c < 2 ^ 12 := bD_lt ho12
    have h1 := mcv_cov ha0 hoc hlt100
    have hne : bD o c ≠ 0 := by
      intro z
      apply hns
      refine ⟨x, hx, ?_⟩
      rw [bD0] at hxs hc z ⊢
      intro i hi
      apply hxs
      rw [Nat.testBit_or, Bool.or_eq_true]
      by_cases hil : i = lw s
      · right; rw [hil]; exact hfib
      · left; exact z i ((hob i).mpr ⟨hi, hil⟩)
    refine ⟨mcv_pos ha0 hoc hne, x, hx, cov_mono _ (fun i hi => ?_) h1⟩
    rw [bD_tb] at hi ⊢
    simp only [Bool.and_eq_true, Bool.not_eq_true'] at hi ⊢
    rw [bD0] at hxs
    have hil : i ≠ lw s := by
      rintro rfl
      have := hxs (lw s) (by rw [Nat.testBit_or, hfib, Bool.or_true])
      rw [this] at hi
      exact absurd hi.2 (by decide)
    refine ⟨(hob i).mpr ⟨hi.1, hil⟩, ?_⟩
    cases hq : c.testBit i
    · rfl
    · have := hxs i (by rw [Nat.testBit_or, hq]; rfl)
      rw [this] at hi
      exact absurd hi.2 (by decide)
  have hend : ∀ least, (least = 100 ∨ 2 ≤ least ∧ Cov a least s) → (∀ c, bD c o = 0 → One a (c ||| fi) → least ≤ mcv a (bD o c) + 1) → least ≤ 100 → least = mcv a s := by
    intro least hL1 hL hle
    rcases mcv_spec ha0 hs12 with ⟨h1, h2⟩ | ⟨h1, h2, h3⟩
    · rcases hL1 with z | ⟨-, z⟩
      · omega
      · exact absurd z (h2 _)
    · have hge : mcv a s ≤ least := by
        rcases hL1 with z | ⟨-, z⟩
        · omega
        · exact h3 _ z
      obtain ⟨v, hv⟩ : ∃ v, mcv a s = v + 1 := ⟨mcv a s - 1, by omega⟩
      rw [hv] at h2
      obtain ⟨x, hx, hxp, hr⟩ := cov_pick v s h2 hlt
      have hc : bD (x &&& o) o = 0 := and_sub x o
      have hone : One a ((x &&& o) ||| fi) := by
        refine ⟨x, hx, ?_⟩
        rw [bD0]
        intro i hi
        rw [Nat.testBit_or, Nat.testBit_and] at hi
        simp only [Bool.or_eq_true, Bool.and_eq_true] at hi
        rcases hi with hi | hi
        · exact hi.1
        · rw [← hfi] at hi
          rw [pow_tb.mp hi]; exact hxp
      have hcov : Cov a v (bD o (x &&& o)) := by
        refine cov_mono v (fun i hi => ?_) hr
        rw [bD_tb, Nat.testBit_and] at hi
        rw [bD_tb]
        simp only [Bool.and_eq_true, Bool.not_eq_true', Bool.and_eq_false_iff] at hi ⊢
        refine ⟨((hob i).mp hi.1).1, ?_⟩
        rcases hi.2 with z | z
        · exact z
        · rw [hi.1] at z; cases z
      have := (mcv_le ha0 (bD_lt ho12) hcov).1
      have := hL _ hc hone
      omega
  unfold jQ_fewestInTurn
  rw [nI_low, hbl]
  simp only [litI, nI_dif, ho]
  rw [c_bitCount (a := o) (by omega), obind, hpc24]
  simp (disch := omega) only [nI_and, and31, nI_bit]
  have key := up_ind (P := fun fu k => ∀ (v6 : Int32) least, least ≤ 100 → (least = 100 ∨ 2 ≤ least ∧ Cov a least s) → (k < 2 ^ bP o 12 → ∃ c, v6 = nI c ∧ bD c o = 0 ∧ k + rk 12 o c + 1 = 2 ^ bP o 12 ∧ ∀ c', bD c' o = 0 → c < c' → One a (c' ||| fi) → least ≤ mcv a (bD o c') + 1) → (k = 2 ^ bP o 12 → ∀ c', bD c' o = 0 → One a (c' ||| fi) → least ≤ mcv a (bD o c') + 1) → jQ_fewestInTurn_29 h fu (nI fi) (nI o) (nI (2 ^ bP o 12)) (nI least) v6 (nI k) = some (nI (mcv a s))) (2 ^ bP o 12) (fun fu v6 least hle hL1 _ hall => ?_) (fun fu k hk ih v6 least hle hL1 hpart _ => ?_) (2 ^ bP o 12) 0 FU (by omega) (FU_lt (by omega))
  · refine key (nI o) 100 (Nat.le_refl _) (Or.inl rfl) (fun _ => ⟨o, rfl, by rw [bD0]; exact fun _ z => z, by omega, fun c' h1 h2 => ?_⟩) (fun z => by omega)
    have := bsub_le h1
    omega
  · rw [jQ_fewestInTurn_29]
    simp (disch := omega) only [nI_ltI, if_neg]
    rw [hend least hL1 (hall rfl) hle]
  · obtain ⟨c, rfl, hco, hrk, hpast⟩ := hpart hk
    have hc1 : c < 2 ^ n := Nat.lt_of_le_of_lt (bsub_le hco) ho1
    have hcf : c ||| fi < 2 ^ n := Nat.or_lt_two_pow hc1 hpw
    have hcf0 : c ||| fi ≠ 0 := fun z => by
      have : (c ||| fi).testBit (lw s) = true := by rw [Nat.testBit_or, hfib, Bool.or_true]
      rw [z, Nat.zero_testBit] at this
      cases this
    have hoc : bD o c < 2 ^ n := bD_lt ho1
    have hocs : bD o c < s := Nat.lt_of_le_of_lt (bD_le o c) hos
    have hocb : bD (bD o c) s = 0 := by
      rw [bD0]
      intro i hi
      exact ((hob i).mp (bD_sub o c i hi)).1
    obtain ⟨e1, e2⟩ := hf _ hcf
    obtain ⟨e3, e4⟩ := hf _ hoc
    have e5 := hf2 _ hocs hocb
    have e6 := hf1 _ hcf hcf0
    rw [jQ_fewestInTurn_29]
    unfold jQ_fewestInTurn_75
    simp (disch := omega) only [litI, nI_ltI, if_pos, nI_leI, nI_or, inb_nI, nI_clamp, e1, nI_eq, nI_dif, e3, jbn, nI_add, if_true]
    by_cases hl2 : least ≤ 2
    · rw [if_pos hl2]
      rcases hL1 with z | ⟨z1, z2⟩
      · omega
      · have := (mcv_le ha0 hs12 z2).1
        rw [show least = mcv a s by omega]
    · rw [if_neg hl2]
      have hnext : ∀ l2, l2 ≤ 100 → (l2 = 100 ∨ 2 ≤ l2 ∧ Cov a l2 s) → l2 ≤ least → (One a (c ||| fi) → l2 ≤ mcv a (bD o c) + 1) → jQ_fewestInTurn_29 h fu (nI fi) (nI o) (nI (2 ^ bP o 12)) (nI l2) ((nI c - nI 1) &&& nI o) (nI (k + 1)) = some (nI (mcv a s)) := by
        intro l2 q1 q2 q3 q4
        have hgap : ∀ c', bD c' o = 0 → (c < c' ∨ c' = c) → One a (c' ||| fi) → l2 ≤ mcv a (bD o c') + 1 := by
          intro c' r1 r2 r3
          rcases r2 with r2 | r2
          · have := hpast c' r1 r2 r3; omega
          · rw [r2] at r3 ⊢; exact q4 r3
        by_cases hc0 : c = 0
        · refine ih _ l2 q1 q2 (fun hk2 => ?_) (fun _ c' r1 r3 => hgap c' r1 (by omega) r3)
          rw [hc0, rk_0] at hrk
          omega
        · rw [pk_sub (by omega), nI_and]
          have hpr := rk_pred 12 o c (by omega) hco hc0
          refine ih _ l2 q1 q2 (fun hk2 => ⟨(c - 1) &&& o, rfl, and_sub _ _, by omega, fun c' r1 r2 r3 => hgap c' r1 ?_ r3⟩) (fun hk2 => by omega)
          apply Decidable.byContradiction
          intro z
          have := pred_gap (n := 12) (s := c') (by omega) r1 hco hc0 (by omega)
          omega
      by_cases h1 : f (c ||| fi) = 1
      · rw [if_pos h1]
        have hone := e6.mp h1
        unfold mmin
        simp (disch := omega) only [nI_ltI]
        have hmc := mcv_b ha0 (t := bD o c) (by omega)
        by_cases hlt2 : f (bD o c) + 1 < least
        · rw [if_pos hlt2]
          have hu := hup c hco hone (by omega)
          exact hnext _ (by omega) (Or.inr ⟨by omega, by rw [e5]; exact hu.2⟩) (by omega) (fun _ => by omega)
        · rw [if_neg hlt2]
          exact hnext _ hle hL1 (Nat.le_refl _) (fun _ => by omega)
      · rw [if_neg h1]
        exact hnext _ hle hL1 (Nat.le_refl _) (fun z => absurd (e6.mpr z) h1)
end C
