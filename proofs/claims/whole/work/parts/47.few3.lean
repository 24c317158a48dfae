/-! ===== pure: the fewest works, by the class: need, steps ===== -/
def FewT (h : AH) (a : Nat → Bool) (l : Nat) : Prop := ∀ t, bD t l = 0 → gI h 30 0 t = nI (mcv a t)
def CFew (h : AH) (R : Nat → Nat) : Prop := gI h 28 0 3 = -nI 1 ∨ ∃ s l, gI h 28 0 3 = nI s ∧ gI h 28 0 4 = nI l ∧ s < 2 ^ nC R ∧ l < 2 ^ nC R ∧ FewT h (aC R s) l
def FrF (h h' : AH) : Prop := (∀ k i j, ¬ (k = 28 ∧ i = 0 ∧ (j = 3 ∨ j = 4)) → ¬ (k = 30 ∧ i = 0) → gI h' k i j = gI h k i j) ∧ h'.2 = h.2
theorem FrF.trans {a b c : AH} (h1 : FrF a b) (h2 : FrF b c) : FrF a c := ⟨fun k i j q r => (h2.1 k i j q r).trans (h1.1 k i j q r), h2.2.trans h1.2⟩
theorem FrF_u (h : AH) (j : Nat) (v : Int32) (hj : j = 3 ∨ j = 4) : FrF h (uI h 28 0 j v) := ⟨fun k i c q _ => gI_uI_n (fun z => q ⟨z.1, z.2.1, by rw [z.2.2]; exact hj⟩), rfl⟩
theorem FrF_a (h : AH) (f : Nat → Int32) : FrF h (aI h 30 0 f) := ⟨fun k i c _ r => gI_aI_n r, rfl⟩
theorem FrF_rf (h : AH) : FrF h h := ⟨fun _ _ _ _ _ => rfl, rfl⟩
noncomputable def fk (a : Nat → Bool) (l k j : Nat) : Nat := if j < k ∧ bD j l = 0 then mcv a j else if j = 0 then 0 else o1 a j
theorem bD_tr {a b c : Nat} (h1 : bD a b = 0) (h2 : bD b c = 0) : bD a c = 0 := by
  rw [bD0] at h1 h2 ⊢
  exact fun i hi => h2 i (h1 i hi)
theorem bD_rf (a : Nat) : bD a a = 0 := by
  rw [bD0]
  exact fun _ z => z
theorem bD_0l (a : Nat) : bD 0 a = 0 := by
  rw [bD0]
  intro i hi
  rw [Nat.zero_testBit] at hi
  cases hi
section C
variable {h : AH} {S R : Nat → Nat}
theorem c_learnFewest (I : BkI R) (h0 : 1 ≤ R 0) (hT : LawT h R) (hn : nC R ≤ 12) (h6 : gI h 28 0 6 = nI (2 ^ nC R)) (hC : CFew h R) {l sh : Nat} (hl : l < 2 ^ nC R) (hsh : sh < 2 ^ nC R) : ∃ h', jQ_learnFewest h (nI l) (nI sh) = some h' ∧ FrF h h' ∧ FewT h' (aC R sh) l ∧ gI h' 28 0 3 = nI sh ∧ gI h' 28 0 4 = nI l := by
  have hp : 2 ^ nC R ≤ 2 ^ 12 := Nat.pow_le_pow_right (by decide) hn
  have hp0 := Nat.two_pow_pos (nC R)
  have ha0 := aC_0 I h0 sh
  have miss : ∃ h', jQ_learnFewest_17 (nI l) (nI sh) h = some h' ∧ FrF h h' ∧ FewT h' (aC R sh) l ∧ gI h' 28 0 3 = nI sh ∧ gI h' 28 0 4 = nI l := by
    have estart : uI (aI h 30 0 (ofw R sh h 0)) 30 0 0 (nI 0) = aI h 30 0 (fun j => if j < 2 ^ nC R then nI (fk (aC R sh) l 1 j) else gI h 30 0 j) := by
      rw [uI_aI]
      refine aI_ext (fun c => ?_)
      by_cases hc : c = 0
      · rw [if_pos hc, hc, if_pos hp0]
        unfold fk
        rw [if_pos ⟨by omega, bD_0l _⟩, mcv_0 ha0]
      · rw [if_neg hc]
        unfold ofw
        by_cases h2 : c < 2 ^ nC R
        · rw [if_pos ⟨Nat.zero_le _, h2⟩, if_pos h2]
          unfold fk
          rw [if_neg (by omega), if_neg hc]
        · rw [if_neg (fun z => h2 z.2), if_neg h2]
    have hval : ∀ k t, t < 2 ^ nC R → gI (aI h 30 0 (fun j => if j < 2 ^ nC R then nI (fk (aC R sh) l k j) else gI h 30 0 j)) 30 0 t = nI (fk (aC R sh) l k t) := by
      intro k t ht
      rw [gI_aI_s]
      exact if_pos ht
    have hfk : ∀ k t, t < 2 ^ nC R → fk (aC R sh) l k t ≤ 100 := by
      intro k t ht
      have := mcv_b ha0 (t := t) (by omega)
      unfold fk
      split
      · omega
      · split
        · omega
        · exact o1_le _ _
    have hf1 : ∀ k t, t < 2 ^ nC R → t ≠ 0 → (fk (aC R sh) l k t = 1 ↔ One (aC R sh) t) := by
      intro k t ht h0
      unfold fk
      by_cases hc : t < k ∧ bD t l = 0
      · rw [if_pos hc]
        exact one_mcv ha0 (by omega) h0
      · rw [if_neg hc, if_neg h0]
        exact o1_eq1
    have key := up_ind (P := fun n k => 1 ≤ k → jQ_learnFewest_31 (nI l) (nI sh) n (nI k) (aI h 30 0 (fun j => if j < 2 ^ nC R then nI (fk (aC R sh) l k j) else gI h 30 0 j)) = some (uI (uI (aI h 30 0 (fun j => if j < 2 ^ nC R then nI (fk (aC R sh) l (l + 1) j) else gI h 30 0 j)) 28 0 3 (nI sh)) 28 0 4 (nI l))) (l + 1) (fun n _ => ?_) (fun n k hk ih h1 => ?_) l 1 FU (by omega) (FU_lt (by omega)) (Nat.le_refl _)
    · refine ⟨uI (uI (aI h 30 0 (fun j => if j < 2 ^ nC R then nI (fk (aC R sh) l (l + 1) j) else gI h 30 0 j)) 28 0 3 (nI sh)) 28 0 4 (nI l), ?_, ((FrF_a h _).trans (FrF_u _ 3 _ (Or.inl rfl))).trans (FrF_u _ 4 _ (Or.inr rfl)), fun t ht => ?_, ?_, ?_⟩
      · unfold jQ_learnFewest_17
        rw [c_learnOne hT hn h6, obind]
        simp (disch := omega) only [litI, inb_nI, nI_clamp, if_true, jbn]
        rw [estart]
        exact key
      · have htl := bsub_le ht
        rw [gI_uI_n (by omega), gI_uI_n (by omega), hval _ _ (by omega)]
        unfold fk
        rw [if_pos ⟨by omega, ht⟩]
      · rw [gI_uI_n (by omega), gI_uI_s]
      · rw [gI_uI_s]
    · rw [jQ_learnFewest_31]
      unfold jQ_learnFewest_71
      simp (disch := omega) only [nI_leI, if_neg, jbn]
    · have ih := ih (by omega)
      have hkn : k < 2 ^ nC R := by omega
      have same : (bD k l = 0 → mcv (aC R sh) k = o1 (aC R sh) k) → aI h 30 0 (fun j => if j < 2 ^ nC R then nI (fk (aC R sh) l (k + 1) j) else gI h 30 0 j) = aI h 30 0 (fun j => if j < 2 ^ nC R then nI (fk (aC R sh) l k j) else gI h 30 0 j) := by
        intro he
        refine aI_ext (fun c => ?_)
        have : fk (aC R sh) l (k + 1) c = fk (aC R sh) l k c := by
          unfold fk
          by_cases hc : c = k
          · rw [hc]
            by_cases hs : bD k l = 0
            · rw [if_pos ⟨by omega, hs⟩, if_neg (by omega), if_neg (by omega), he hs]
            · rw [if_neg (c := k < k + 1 ∧ bD k l = 0) (fun z => hs z.2), if_neg (c := k < k ∧ bD k l = 0) (fun z => hs z.2)]
          · by_cases hs : c < k ∧ bD c l = 0
            · rw [if_pos hs, if_pos ⟨by omega, hs.2⟩]
            · rw [if_neg hs, if_neg (fun z => hs ⟨by omega, z.2⟩)]
        rw [this]
      have hdl : bD k l < 2 ^ 31 := by have := bD_le k l; omega
      rw [jQ_learnFewest_31]
      simp (disch := omega) only [litI, nI_leI, if_pos, nI_dif, inb_nI, nI_clamp, hval k k hkn, if_true, nI_add, jbn]
      simp only [show (nI (bD k l) = nI 0) = (bD k l = 0) from propext (nI_eq hdl (by omega)), show (nI (fk (aC R sh) l k k) = nI 1) = (fk (aC R sh) l k k = 1) from propext (nI_eq (by have := hfk k k hkn; omega) (by omega))]
      by_cases hs : bD k l = 0
      · rw [if_pos hs]
        by_cases hone : fk (aC R sh) l k k = 1
        · rw [if_pos hone]
          rw [same (fun _ => by
            have q := (hf1 k k hkn (by omega)).mp hone
            rw [(one_mcv ha0 (by omega) (by omega)).mpr q, o1_t q])] at ih
          exact ih
        · rw [if_neg hone]
          have hin := c_inTurn (h := aI h 30 0 (fun j => if j < 2 ^ nC R then nI (fk (aC R sh) l k j) else gI h 30 0 j)) (a := aC R sh) (f := fk (aC R sh) l k) (s := k) ha0 hn hkn (by omega) (fun t ht => ⟨hval k t ht, hfk k t ht⟩) (hf1 k) (fun t h1 h2 => by
            unfold fk
            rw [if_pos ⟨h1, bD_tr h2 hs⟩]) (fun z => hone ((hf1 k k hkn (by omega)).mpr z))
          rw [hin, obind, uI_aI]
          rw [aI_ext (g := fun j => if j < 2 ^ nC R then nI (fk (aC R sh) l (k + 1) j) else gI h 30 0 j) (fun c => ?_)]
          · exact ih
          · by_cases hc : c = k
            · rw [if_pos hc, hc, if_pos hkn]
              unfold fk
              rw [if_pos ⟨by omega, hs⟩]
            · rw [if_neg hc]
              have : fk (aC R sh) l (k + 1) c = fk (aC R sh) l k c := by
                unfold fk
                by_cases hs2 : c < k ∧ bD c l = 0
                · rw [if_pos hs2, if_pos ⟨by omega, hs2.2⟩]
                · rw [if_neg hs2, if_neg (fun z => hs2 ⟨by omega, z.2⟩)]
              rw [this]
      · rw [if_neg hs]
        rw [same (fun z => absurd z hs)] at ih
        exact ih
  unfold jQ_learnFewest
  by_cases hhit : gI h 28 0 3 = nI sh ∧ gI h 28 0 4 = nI l
  · rw [if_pos hhit.1, if_pos hhit.2]
    refine ⟨h, rfl, FrF_rf h, ?_, hhit.1, hhit.2⟩
    rcases hC with z | ⟨s', l', e1, e2, e3, e4, e5⟩
    · rw [hhit.1, nI_eq_neg (by omega) (by omega) (by omega)] at z
      exact z.elim
    · rw [hhit.1, nI_eq (by omega) (by omega)] at e1
      rw [hhit.2, nI_eq (by omega) (by omega)] at e2
      rw [e1, e2]
      exact e5
  · by_cases h3 : gI h 28 0 3 = nI sh
    · rw [if_pos h3, if_neg (fun z => hhit ⟨h3, z⟩)]
      exact miss
    · rw [if_neg h3]
      exact miss
def spo (R : Nat → Nat) (y : Nat) : Nat := bD (wnt R) (pay R y)
def lck (R S : Nat → Nat) (y : Nat) : Nat := bD (pay R y) (alk R S)
def adN (R : Nat → Nat) (y : Nat) : Nat → Bool := aC R (bar2 R y 100 ||| spo R y)
theorem spo_d (R : Nat → Nat) (y : Nat) : bD (wnt R) (pay R y) = spo R y := rfl
theorem lck_d (R S : Nat → Nat) (y : Nat) : bD (pay R y) (alk R S) = lck R S y := rfl
theorem spo_lt (R : Nat → Nat) (y : Nat) : spo R y < 2 ^ nC R := bD_lt (wnt_lt R)
theorem lck_lt (R S : Nat → Nat) (y : Nat) : lck R S y < 2 ^ nC R := bD_lt (pay_lt R y)
noncomputable def ndv (R S : Nat → Nat) (y : Nat) : Nat := if bD (spo R y) (alk R S) = 0 then mcv (adN R y) (lck R S y) else 100
def ndI (v : Nat) : Int32 := if v < 100 then nI v else -nI 2
theorem c_fewestWorks (I : BkI R) (h0 : 1 ≤ R 0) (hn : nC R ≤ 12) {y : Nat} (F : PlF h R S y 100) (hC : CFew h R) : ∃ h', jQ_fewestWorks h = some (ndI (ndv R S y), h') ∧ FrF h h' ∧ CFew h' R ∧ (bD (spo R y) (alk R S) = 0 → FewT h' (adN R y) (lck R S y)) := by
  have hp : 2 ^ nC R ≤ 2 ^ 12 := Nat.pow_le_pow_right (by decide) hn
  obtain ⟨f1, fT, f6, f7, f8, f9, f10⟩ := F
  have hlt := lck_lt R S y
  have hst := spo_lt R y
  have hbt : bar2 R y 100 ||| spo R y < 2 ^ nC R := Nat.or_lt_two_pow (bar2_lt R y 100) hst
  have hds : bD (spo R y) (alk R S) < 2 ^ 31 := by have := bD_le (spo R y) (alk R S); omega
  have hm := mcv_b (a := adN R y) (aC_0 I h0 _) (t := lck R S y) (by omega)
  unfold jQ_fewestWorks ndv
  rw [f7, f8, f9, f10, ← spo]
  simp only [litI, nI_dif, nI_or, lck_d]
  simp only [show (nI (bD (spo R y) (alk R S)) = nI 0) = (bD (spo R y) (alk R S) = 0) from propext (nI_eq hds (by omega))]
  by_cases hs : bD (spo R y) (alk R S) = 0
  · obtain ⟨h', e1, e2, e3, e4, e5⟩ := c_learnFewest I h0 fT hn f6 hC hlt hbt
    have e6 := e3 _ (bD_rf _)
    have e6 : gI h' 30 0 (lck R S y) = nI (mcv (adN R y) (lck R S y)) := e6
    refine ⟨h', ?_, e2, Or.inr ⟨_, _, e4, e5, hbt, hlt, e3⟩, fun _ => e3⟩
    rw [if_pos hs, if_pos hs, e1, obind]
    simp (disch := omega) only [inb_nI, nI_clamp, e6, nI_ltI, if_true]
    unfold ndI
    by_cases hc : mcv (adN R y) (lck R S y) < 100
    · rw [if_pos hc, if_pos hc]
    · rw [if_neg hc, if_neg hc]
  · refine ⟨h, ?_, FrF_rf h, hC, fun z => absurd z hs⟩
    rw [if_neg hs, if_neg hs]
    rfl
/-! steps -/
noncomputable def nxs (a : Nat → Bool) (l : Nat) : Nat → Nat → Nat
  | 0, _ => 0
  | d + 1, x => if a x = true ∧ mcv a (bD l x) + 1 = mcv a l then x else nxs a l d (x + 1)
noncomputable def nxt (a : Nat → Bool) (n l : Nat) : Nat := nxs a l (2 ^ n - 1) 1
noncomputable def lks (a : Nat → Bool) (n l : Nat) : Nat → Nat
  | 0 => l
  | k + 1 => bD (lks a n l k) (nxt a n (lks a n l k))
theorem lks_sub (a : Nat → Bool) (n l : Nat) : ∀ k, bD (lks a n l k) l = 0 := by
  intro k
  induction k with
  | zero => exact bD_rf l
  | succ k ih => exact bD_tr ((bD0 _ _).mpr (bD_sub _ _)) ih
theorem nxs_spec (a : Nat → Bool) (l : Nat) : ∀ d x, (∃ z, x ≤ z ∧ z < x + d ∧ a z = true ∧ mcv a (bD l z) + 1 = mcv a l) → a (nxs a l d x) = true ∧ mcv a (bD l (nxs a l d x)) + 1 = mcv a l ∧ x ≤ nxs a l d x ∧ nxs a l d x < x + d ∧ ∀ z, x ≤ z → z < nxs a l d x → ¬ (a z = true ∧ mcv a (bD l z) + 1 = mcv a l) := by
  intro d
  induction d with
  | zero => rintro x ⟨z, h1, h2, -⟩; omega
  | succ d ih =>
    intro x hz
    rw [nxs]
    by_cases hc : a x = true ∧ mcv a (bD l x) + 1 = mcv a l
    · rw [if_pos hc]
      exact ⟨hc.1, hc.2, Nat.le_refl _, by omega, fun z h1 h2 => by omega⟩
    · rw [if_neg hc]
      obtain ⟨z, h1, h2, h3, h4⟩ := hz
      have hzx : z ≠ x := by
        rintro rfl
        exact hc ⟨h3, h4⟩
      obtain ⟨q1, q2, q3, q4, q5⟩ := ih (x + 1) ⟨z, by omega, by omega, h3, h4⟩
      refine ⟨q1, q2, by omega, by omega, fun z h1 h2 => ?_⟩
      by_cases hzx : z = x
      · rw [hzx]; exact hc
      · exact q5 z (by omega) h2
theorem nxt_ex {a : Nat → Bool} (ha0 : a 0 = true) {n l : Nat} (hn : n ≤ 12) (ha : ∀ x, a x = true → x < 2 ^ n) (hl : l < 2 ^ n) (h1 : 1 ≤ mcv a l) (h2 : mcv a l < 100) : ∃ z, 1 ≤ z ∧ z < 1 + (2 ^ n - 1) ∧ a z = true ∧ mcv a (bD l z) + 1 = mcv a l := by
  have hp : 2 ^ n ≤ 2 ^ 12 := Nat.pow_le_pow_right (by decide) hn
  have hc := mcv_cov ha0 (by omega) h2
  obtain ⟨v, hv⟩ : ∃ v, mcv a l = v + 1 := ⟨mcv a l - 1, by omega⟩
  rw [hv] at hc
  obtain ⟨x, hx, hr⟩ := hc
  have hx2 := ha x hx
  have hbl : bD l x < 2 ^ 12 := by have := bD_le l x; omega
  have h3 := (mcv_le ha0 hbl hr).1
  have h4 := mcv_cov ha0 hbl (by omega)
  have h5 := (mcv_le ha0 (t := l) (j := mcv a (bD l x) + 1) (by omega) ⟨x, hx, h4⟩).1
  have hx0 : x ≠ 0 := by
    rintro rfl
    rw [bD_0] at h3
    omega
  exact ⟨x, by omega, by omega, hx, by omega⟩
theorem c_leastNext (I : BkI R) (h0 : 1 ≤ R 0) (hn : nC R ≤ 12) {y l l0 : Nat} (F : PlF h R S y 100) (hF : FewT h (adN R y) l0) (hl0 : l0 < 2 ^ nC R) (hl : bD l l0 = 0) (h1 : 1 ≤ mcv (adN R y) l) (h2 : mcv (adN R y) l < 100) : jQ_leastNext h (nI l) = some (nI (nxt (adN R y) (nC R) l)) := by
  have hp : 2 ^ nC R ≤ 2 ^ 12 := Nat.pow_le_pow_right (by decide) hn
  obtain ⟨f1, fT, f6, f7, f8, f9, f10⟩ := F
  have ha0 : adN R y 0 = true := aC_0 I h0 _
  have hll := bsub_le hl
  have el := hF l hl
  unfold jQ_leastNext nxt
  refine up_ind (P := fun n k => 1 ≤ k → jQ_leastNext_2 h (nI l) n (nI k) = some (nI (nxs (adN R y) l (2 ^ nC R - k) k))) (2 ^ nC R) (fun n _ => ?_) (fun n k hk ih hk1 => ?_) (2 ^ nC R - 1) 1 FU (by have := Nat.two_pow_pos (nC R); omega) (FU_lt (by omega)) (Nat.le_refl _)
  · rw [jQ_leastNext_2, Nat.sub_self]
    simp (disch := omega) only [f6, nI_ltI, if_neg]
    rfl
  · have hb := bD_le l k
    have eb := hF (bD l k) (bD_tr ((bD0 _ _).mpr (bD_sub _ _)) hl)
    have hm := mcv_b ha0 (t := bD l k) (by omega)
    have hac : adN R y k = adm R (bar2 R y 100 ||| spo R y) k := aC_of hk
    rw [jQ_leastNext_2, show 2 ^ nC R - k = (2 ^ nC R - (k + 1)) + 1 by omega, nxs]
    simp (disch := omega) only [litI, f6, nI_ltI, if_pos, nI_dif, inb_nI, nI_clamp, el, eb, if_true, pk_sub, nI_eq, f9, f10, spo_d, nI_or, c_mayPaint fT hn hk, obind, nI_add]
    have ih := ih (by omega)
    by_cases hc : mcv (adN R y) (bD l k) = mcv (adN R y) l - 1
    · rw [if_pos hc]
      cases had : adm R (bar2 R y 100 ||| spo R y) k
      · have hneg : ¬ (adN R y k = true ∧ mcv (adN R y) (bD l k) + 1 = mcv (adN R y) l) := fun z => by
          rw [hac, had] at z
          exact absurd z.1 (by decide)
        rw [if_neg hneg]
        simp only [Bool.toNat_false, if_true]
        exact ih
      · have hpos : adN R y k = true ∧ mcv (adN R y) (bD l k) + 1 = mcv (adN R y) l := ⟨by rw [hac]; exact had, by omega⟩
        rw [if_pos hpos]
        simp (disch := omega) only [Bool.toNat_true, nI_eq, if_neg]
    · have hneg : ¬ (adN R y k = true ∧ mcv (adN R y) (bD l k) + 1 = mcv (adN R y) l) := fun z => hc (by omega)
      rw [if_neg hc, if_neg hneg]
      exact ih
theorem adN_lt {R : Nat → Nat} {y x : Nat} (h : adN R y x = true) : x < 2 ^ nC R := (aC_lt h).1
theorem lks_mcv (I : BkI R) (h0 : 1 ≤ R 0) (hn : nC R ≤ 12) {y l : Nat} (hl : l < 2 ^ nC R) (h2 : mcv (adN R y) l < 100) : ∀ k, k ≤ mcv (adN R y) l → mcv (adN R y) (lks (adN R y) (nC R) l k) + k = mcv (adN R y) l := by
  have ha0 : adN R y 0 = true := aC_0 I h0 _
  intro k
  induction k with
  | zero => intro _; rfl
  | succ k ih =>
    intro hk
    have ih := ih (by omega)
    have hsub := bsub_le (lks_sub (adN R y) (nC R) l k)
    have := (nxs_spec (adN R y) (lks (adN R y) (nC R) l k) (2 ^ nC R - 1) 1 (nxt_ex ha0 hn (fun _ => adN_lt) (by omega) (by omega) (by omega))).2.1
    show mcv (adN R y) (bD _ (nxt _ _ _)) + (k + 1) = _
    unfold nxt
    omega
theorem c_stepCells (I : BkI R) (h0 : 1 ≤ R 0) (hn : nC R ≤ 12) {y i : Nat} (F : PlF h R S y 100) (hF : FewT h (adN R y) (lck R S y)) (hi : i < mcv (adN R y) (lck R S y)) (h2 : mcv (adN R y) (lck R S y) < 100) : jQ_stepCells h (nI i) = some (nI (nxt (adN R y) (nC R) (lks (adN R y) (nC R) (lck R S y) i))) := by
  have hl0 := lck_lt R S y
  have hp : 2 ^ nC R ≤ 2 ^ 12 := Nat.pow_le_pow_right (by decide) hn
  have ha0 : adN R y 0 = true := aC_0 I h0 _
  have hb := mcv_b ha0 (t := lck R S y) (by omega)
  have hmk := lks_mcv I h0 hn (y := y) hl0 h2
  have F2 := F
  obtain ⟨f1, fT, f6, f7, f8, f9, f10⟩ := F
  unfold jQ_stepCells
  rw [f7, f8]
  simp only [litI, nI_dif]
  rw [← lck]
  refine up_ind (P := fun n k => ∀ v3 : Int32, (k = i + 1 → v3 = nI (nxt (adN R y) (nC R) (lks (adN R y) (nC R) (lck R S y) i))) → jQ_stepCells_17 h (nI i) n (nI (lks (adN R y) (nC R) (lck R S y) k)) v3 (nI k) = some (nI (nxt (adN R y) (nC R) (lks (adN R y) (nC R) (lck R S y) i)))) (i + 1) (fun n v3 hv => ?_) (fun n k hk ih v3 hv => ?_) (i + 1) 0 FU (by omega) (FU_lt (by omega)) _ (fun z => by omega)
  · rw [jQ_stepCells_17]
    simp (disch := omega) only [nI_leI, if_neg]
    rw [hv rfl]
  · have hm := hmk k (by omega)
    rw [jQ_stepCells_17]
    simp (disch := omega) only [litI, nI_leI, nI_ltI, if_pos]
    rw [c_leastNext I h0 hn F2 hF hl0 (lks_sub _ _ _ k) (by omega) (by omega), obind]
    simp only [nI_dif, nI_add]
    exact ih _ (fun z => by rw [show k = i by omega])
end C
