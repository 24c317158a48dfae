/-! ===== pure: reach ===== -/
def un (a : Nat → Bool) (c : Nat) : Nat → Nat
  | 0 => 0
  | k + 1 => if a k = true ∧ bD k c = 0 then un a c k ||| k else un a c k
theorem un_tb (a : Nat → Bool) (c : Nat) : ∀ N i, (un a c N).testBit i = true ↔ ∃ x, x < N ∧ a x = true ∧ bD x c = 0 ∧ x.testBit i = true := by
  intro N
  induction N with
  | zero => intro i; simp [un]
  | succ N ih =>
    intro i
    unfold un
    by_cases hc : a N = true ∧ bD N c = 0
    · rw [if_pos hc, Nat.testBit_or, Bool.or_eq_true, ih]
      constructor
      · rintro (⟨x, h1, h2⟩ | h)
        · exact ⟨x, by omega, h2⟩
        · exact ⟨N, by omega, hc.1, hc.2, h⟩
      · rintro ⟨x, h1, h2⟩
        by_cases hx : x = N
        · rw [hx] at h2; exact Or.inr h2.2.2
        · exact Or.inl ⟨x, by omega, h2⟩
    · rw [if_neg hc, ih]
      constructor
      · rintro ⟨x, h1, h2⟩; exact ⟨x, by omega, h2⟩
      · rintro ⟨x, h1, h2⟩
        refine ⟨x, ?_, h2⟩
        apply Decidable.byContradiction
        intro z
        have : x = N := by omega
        rw [this] at h2
        exact hc ⟨h2.1, h2.2.1⟩
def uni (a : Nat → Bool) (c : Nat) : Nat := un a c (c + 1)
theorem uni_tb {a : Nat → Bool} {c i : Nat} : (uni a c).testBit i = true ↔ ∃ x, a x = true ∧ bD x c = 0 ∧ x.testBit i = true := by
  unfold uni
  rw [un_tb]
  constructor
  · rintro ⟨x, _, h⟩; exact ⟨x, h⟩
  · rintro ⟨x, h⟩
    have := bsub_le h.2.1
    exact ⟨x, by omega, h⟩
theorem uni_sub (a : Nat → Bool) (c : Nat) : bD (uni a c) c = 0 := by
  rw [bD0]
  intro i hi
  obtain ⟨x, h1, h2, h3⟩ := uni_tb.mp hi
  exact (bD0 x c).mp h2 i h3
theorem uni_a {a : Nat → Bool} {c : Nat} (h : a c = true) : uni a c = c :=
  bext ((bD0 _ _).mp (uni_sub a c)) (fun i hi => uni_tb.mpr ⟨c, h, bD_rf c, hi⟩)
theorem uni_rec {a : Nat → Bool} {c : Nat} (h : a c = false) (i : Nat) : (uni a c).testBit i = true ↔ ∃ b, c.testBit b = true ∧ (uni a (bD c (2 ^ b))).testBit i = true := by
  rw [uni_tb]
  constructor
  · rintro ⟨x, h1, h2, h3⟩
    have hne : x ≠ c := by
      rintro rfl
      rw [h] at h1
      cases h1
    have : ∃ b, c.testBit b = true ∧ x.testBit b = false := by
      apply Classical.byContradiction
      intro z
      apply hne
      refine bext ((bD0 x c).mp h2) (fun j hj => ?_)
      cases hq : x.testBit j
      · exact absurd ⟨j, hj, hq⟩ z
      · rfl
    obtain ⟨b, hb1, hb2⟩ := this
    refine ⟨b, hb1, uni_tb.mpr ⟨x, h1, ?_, h3⟩⟩
    rw [bD0] at h2 ⊢
    intro j hj
    rw [bD_tb, h2 j hj, Nat.testBit_two_pow]
    have : b ≠ j := by
      rintro rfl
      rw [hj] at hb2
      cases hb2
    simp [this]
  · rintro ⟨b, hb, hi⟩
    obtain ⟨x, h1, h2, h3⟩ := uni_tb.mp hi
    exact ⟨x, h1, bD_tr h2 ((bD0 _ _).mpr (bD_sub _ _)), h3⟩
def msf (a : Nat → Bool) (A P : Nat) : Nat → Nat
  | 0 => 0
  | k + 1 => if uni a k = k ∧ msf a A P k < alb A P k then alb A P k else msf a A P k
theorem msf_le (a : Nat → Bool) (A P : Nat) : ∀ k, msf a A P k ≤ 24 := by
  intro k
  induction k with
  | zero => exact Nat.zero_le _
  | succ k ih =>
    unfold msf
    split
    · exact bP_le _ _
    · exact ih
theorem msf_ge {a : Nat → Bool} {A P u : Nat} (hu : uni a u = u) : ∀ k, u < k → alb A P u ≤ msf a A P k := by
  intro k
  induction k with
  | zero => intro h; omega
  | succ k ih =>
    intro h
    unfold msf
    by_cases hk : u = k
    · rw [hk] at hu ⊢
      by_cases h2 : msf a A P k < alb A P k
      · rw [if_pos ⟨hu, h2⟩]; exact Nat.le_refl _
      · rw [if_neg (fun z => h2 z.2)]; omega
    · have := ih (by omega)
      split <;> omega
theorem msf_ex (a : Nat → Bool) (A P : Nat) : ∀ k, msf a A P k = 0 ∨ ∃ u, u < k ∧ uni a u = u ∧ msf a A P k = alb A P u := by
  intro k
  induction k with
  | zero => exact Or.inl rfl
  | succ k ih =>
    unfold msf
    by_cases hc : uni a k = k ∧ msf a A P k < alb A P k
    · rw [if_pos hc]
      exact Or.inr ⟨k, by omega, hc.1, rfl⟩
    · rw [if_neg hc]
      rcases ih with h | ⟨u, h1, h2⟩
      · exact Or.inl h
      · exact Or.inr ⟨u, by omega, h2⟩
theorem uni_0 (a : Nat → Bool) : uni a 0 = 0 := by
  have := bsub_le (uni_sub a 0)
  omega
theorem msf_ex2 (a : Nat → Bool) (A P : Nat) {k : Nat} (hk : 0 < k) : ∃ u, u < k ∧ uni a u = u ∧ msf a A P k = alb A P u := by
  rcases msf_ex a A P k with h | h
  · have := msf_ge (A := A) (P := P) (uni_0 a) k hk
    exact ⟨0, hk, uni_0 a, by omega⟩
  · exact h
section C
variable {h : AH} {S R : Nat → Nat}
theorem c_paintedWithin {a : Nat → Bool} {c : Nat} (hc : c < 2 ^ 12) (ha : a c = false) (hw : ∀ j, j < c → gI h 31 0 j = nI (uni a j)) : jQ_paintedWithin h (nI c) = some (nI (uni a c)) := by
  unfold jQ_paintedWithin
  refine up_ind (P := fun n k => ∀ T r, bD r c = 0 → bP r 12 + k ≤ 12 → (∀ i, T.testBit i = true ↔ ∃ b, c.testBit b = true ∧ r.testBit b = false ∧ (uni a (bD c (2 ^ b))).testBit i = true) → jQ_paintedWithin_7 h (nI c) n (nI T) (nI r) (nI k) = some (nI (uni a c))) 12 (fun n T r hr hb hT => ?_) (fun n k hk ih T r hr hb hT => ?_) 12 0 FU rfl (FU_lt (by omega)) 0 c (bD_rf c) (bP_le _ _) (fun i => ?_)
  · have hr12 : r < 2 ^ 12 := Nat.lt_of_le_of_lt (bsub_le hr) hc
    have hr0 : r = 0 := (bP_eq0 hr12).mp (by omega)
    have hTu : T = uni a c := by
      apply bext
      · intro i hi
        obtain ⟨b, h1, h2, h3⟩ := (hT i).mp hi
        exact (uni_rec ha i).mpr ⟨b, h1, h3⟩
      · intro i hi
        obtain ⟨b, h1, h2⟩ := (uni_rec ha i).mp hi
        exact (hT i).mpr ⟨b, h1, by rw [hr0, Nat.zero_testBit], h2⟩
    rw [jQ_paintedWithin_7]
    simp (disch := omega) only [litI, nI_ltI, if_neg]
    rw [hTu]
  · have hr12 : r < 2 ^ 12 := Nat.lt_of_le_of_lt (bsub_le hr) hc
    rw [jQ_paintedWithin_7]
    simp (disch := omega) only [litI, nI_ltI, if_pos, nI_eq]
    by_cases hr0 : r = 0
    · rw [if_pos hr0]
      have hTu : T = uni a c := by
        apply bext
        · intro i hi
          obtain ⟨b, h1, h2, h3⟩ := (hT i).mp hi
          exact (uni_rec ha i).mpr ⟨b, h1, h3⟩
        · intro i hi
          obtain ⟨b, h1, h2⟩ := (uni_rec ha i).mp hi
          exact (hT i).mpr ⟨b, h1, by rw [hr0, Nat.zero_testBit], h2⟩
      rw [hTu]
    · rw [if_neg hr0]
      obtain ⟨l1, l2, l3, l4⟩ := lw_spec hr12 hr0
      have hcb : c.testBit (lw r) = true := (bD0 r c).mp hr _ l3
      have hcl : bD c (2 ^ lw r) < c := by
        have h1 := bD_le c (2 ^ lw r)
        have h2 : bD c (2 ^ lw r) ≠ c := fun z => by
          have : (bD c (2 ^ lw r)).testBit (lw r) = false := by
            rw [bD_tb, Nat.testBit_two_pow]; simp
          rw [z, hcb] at this
          cases this
        omega
      have hcl1 := cl1_bD hr12 hr0
      have hdec : bP (bD r (2 ^ lw r)) 12 < bP r 12 := by
        refine bP_smono (fun i _ hi => bD_sub r _ i hi) l1 ?_ l3
        rw [bD_tb, Nat.testBit_two_pow]; simp
      rw [nI_low, l2]
      simp (disch := omega) only [nI_dif, inb_nI, nI_clamp, if_true, hw _ hcl, nI_or, jbn, pk_sub, nI_and, nI_add]
      rw [show r &&& (r - 1) = cl1 r from rfl, hcl1]
      refine ih _ _ (bD_tr ((bD0 _ _).mpr (bD_sub _ _)) hr) (by omega) (fun i => ?_)
      rw [Nat.testBit_or, Bool.or_eq_true, hT]
      constructor
      · rintro (⟨b, h1, h2, h3⟩ | h3)
        · exact ⟨b, h1, by rw [bD_tb, h2]; rfl, h3⟩
        · exact ⟨lw r, hcb, by rw [bD_tb, Nat.testBit_two_pow]; simp, h3⟩
      · rintro ⟨b, h1, h2, h3⟩
        by_cases hb2 : b = lw r
        · rw [hb2] at h3; exact Or.inr h3
        · refine Or.inl ⟨b, h1, ?_, h3⟩
          rw [bD_tb, Nat.testBit_two_pow] at h2
          have : ¬ lw r = b := fun z => hb2 z.symm
          simpa [this] using h2
  · constructor
    · intro z; rw [Nat.zero_testBit] at z; cases z
    · rintro ⟨b, h1, h2, -⟩
      rw [h1] at h2
      cases h2
def FrW (h h' : AH) : Prop := (∀ k i j, ¬ (k = 31 ∧ i = 0) → gI h' k i j = gI h k i j) ∧ h'.2 = h.2
theorem c_mostAlike (I : BkI R) (hn : nC R ≤ 12) {y : Nat} (F : PlF h R S y 100) : ∃ h', jQ_mostAlike h = some (nI (msf (aC R (bar2 R y 100)) (alk R S) (pay R y) (2 ^ nC R)), h') ∧ FrW h h' := by
  have hp : 2 ^ nC R ≤ 2 ^ 12 := Nat.pow_le_pow_right (by decide) hn
  obtain ⟨f1, fT, f6, f7, f8, f9, f10⟩ := F
  refine ⟨aI h 31 0 (fun j => if j < 2 ^ nC R then nI (uni (aC R (bar2 R y 100)) j) else gI h 31 0 j), ?_, fun k i j q => gI_aI_n q, rfl⟩
  unfold jQ_mostAlike
  have key := up_ind (P := fun n k => jQ_mostAlike_4 n (nI (msf (aC R (bar2 R y 100)) (alk R S) (pay R y) k)) (nI k) (aI h 31 0 (fun j => if j < k then nI (uni (aC R (bar2 R y 100)) j) else gI h 31 0 j)) = some (nI (msf (aC R (bar2 R y 100)) (alk R S) (pay R y) (2 ^ nC R)), aI h 31 0 (fun j => if j < 2 ^ nC R then nI (uni (aC R (bar2 R y 100)) j) else gI h 31 0 j))) (2 ^ nC R) (fun n => ?_) (fun n k hk ih => ?_) (2 ^ nC R) 0 FU (by omega) (FU_lt (by omega))
  · rw [aI_id (fun c => if_neg (by omega))] at key
    exact key
  · rw [jQ_mostAlike_4]
    simp (disch := omega) only [gI_aI_n, f6, nI_ltI, if_neg]
  · have hv : ∀ v, v = uni (aC R (bar2 R y 100)) k → uI (aI h 31 0 (fun j => if j < k then nI (uni (aC R (bar2 R y 100)) j) else gI h 31 0 j)) 31 0 k (nI v) = aI h 31 0 (fun j => if j < k + 1 then nI (uni (aC R (bar2 R y 100)) j) else gI h 31 0 j) := by
      rintro v rfl
      exact aI_up h 31 0 k (fun j => nI (uni (aC R (bar2 R y 100)) j)) _
    have hw : ∀ j, j < k → gI (aI h 31 0 (fun j => if j < k then nI (uni (aC R (bar2 R y 100)) j) else gI h 31 0 j)) 31 0 j = nI (uni (aC R (bar2 R y 100)) j) := fun j hj => by
      rw [gI_aI_s]
      exact if_pos hj
    have hT2 : LawT (aI h 31 0 (fun j => if j < k then nI (uni (aC R (bar2 R y 100)) j) else gI h 31 0 j)) R := fun j hj => (gI_aI_n (by omega)).trans (fT j hj)
    have hu := bsub_le (uni_sub (aC R (bar2 R y 100)) k)
    have hm1 := msf_le (aC R (bar2 R y 100)) (alk R S) (pay R y) k
    have hm2 : alb (alk R S) (pay R y) k ≤ 24 := bP_le _ _
    have e38 : ∀ v, v = uni (aC R (bar2 R y 100)) k → jQ_mostAlike_38 (jQ_mostAlike_4 n) (nI (msf (aC R (bar2 R y 100)) (alk R S) (pay R y) k)) (nI k) (nI v) (nI k) (aI h 31 0 (fun j => if j < k then nI (uni (aC R (bar2 R y 100)) j) else gI h 31 0 j)) = some (nI (msf (aC R (bar2 R y 100)) (alk R S) (pay R y) (2 ^ nC R)), aI h 31 0 (fun j => if j < 2 ^ nC R then nI (uni (aC R (bar2 R y 100)) j) else gI h 31 0 j)) := by
      intro v hveq
      have e3 : gI (aI h 31 0 (fun j => if j < k + 1 then nI (uni (aC R (bar2 R y 100)) j) else gI h 31 0 j)) 31 0 k = nI (uni (aC R (bar2 R y 100)) k) := by
        rw [gI_aI_s]
        exact if_pos (by omega)
      have e4 := c_alikeBehind (h := aI h 31 0 (fun j => if j < k + 1 then nI (uni (aC R (bar2 R y 100)) j) else gI h 31 0 j)) (x := k) I ((gI_aI_n (by omega)).trans f7) ((gI_aI_n (by omega)).trans f8) (alk_lt R S) (pay_lt R y)
      rw [msf] at ih
      unfold jQ_mostAlike_38 mmax
      simp (disch := omega) only [litI, inb_nI, nI_clamp, if_true, jbn, nI_add]
      rw [hv v hveq, e3, e4]
      simp (disch := omega) only [nI_eq, obind, nI_ltI]
      by_cases h1 : uni (aC R (bar2 R y 100)) k = k
      · rw [if_pos h1]
        by_cases h2 : msf (aC R (bar2 R y 100)) (alk R S) (pay R y) k < alb (alk R S) (pay R y) k
        · rw [if_pos h2]
          rw [if_pos ⟨h1, h2⟩] at ih
          exact ih
        · rw [if_neg h2]
          rw [if_neg (fun z => h2 z.2)] at ih
          exact ih
      · rw [if_neg h1]
        rw [if_neg (fun z => h1 z.1)] at ih
        exact ih
    have hac : aC R (bar2 R y 100) k = adm R (bar2 R y 100) k := aC_of hk
    rw [jQ_mostAlike_4]
    rw [gI_aI_n (by omega), gI_aI_n (by omega), f6, f10, c_mayPaint hT2 hn hk]
    simp (disch := omega) only [nI_ltI, if_pos, obind, litI]
    cases had : adm R (bar2 R y 100) k
    · simp only [Bool.toNat_false, if_true]
      rw [c_paintedWithin (a := aC R (bar2 R y 100)) (by omega) (by rw [hac]; exact had) hw, obind]
      exact e38 _ rfl
    · simp (disch := omega) only [Bool.toNat_true, nI_eq, if_neg]
      exact e38 k (uni_a (by rw [hac]; exact had)).symm
end C
/-! by the model -/
def ulo (a : Nat → Bool) (st l : Nat) : Nat → Nat
  | 0 => 0
  | k + 1 => if a k = true ∧ bD (k &&& st) l = 0 then ulo a st l k ||| k else ulo a st l k
theorem ulo_tb (a : Nat → Bool) (st l : Nat) : ∀ N i, (ulo a st l N).testBit i = true ↔ ∃ x, x < N ∧ a x = true ∧ bD (x &&& st) l = 0 ∧ x.testBit i = true := by
  intro N
  induction N with
  | zero => intro i; simp [ulo]
  | succ N ih =>
    intro i
    unfold ulo
    by_cases hc : a N = true ∧ bD (N &&& st) l = 0
    · rw [if_pos hc, Nat.testBit_or, Bool.or_eq_true, ih]
      constructor
      · rintro (⟨x, h1, h2⟩ | h)
        · exact ⟨x, by omega, h2⟩
        · exact ⟨N, by omega, hc.1, hc.2, h⟩
      · rintro ⟨x, h1, h2⟩
        by_cases hx : x = N
        · rw [hx] at h2; exact Or.inr h2.2.2
        · exact Or.inl ⟨x, by omega, h2⟩
    · rw [if_neg hc, ih]
      constructor
      · rintro ⟨x, h1, h2⟩; exact ⟨x, by omega, h2⟩
      · rintro ⟨x, h1, h2⟩
        refine ⟨x, ?_, h2⟩
        apply Decidable.byContradiction
        intro z
        have : x = N := by omega
        rw [this] at h2
        exact hc ⟨h2.1, h2.2.1⟩
theorem ulo_lt {a : Nat → Bool} {st l n : Nat} (ha : ∀ x, a x = true → x < 2 ^ n) (N : Nat) : ulo a st l N < 2 ^ n := by
  apply Nat.lt_pow_two_of_testBit
  intro i hi
  cases hq : (ulo a st l N).testBit i
  · rfl
  · obtain ⟨x, h1, h2, h3, h4⟩ := (ulo_tb a st l N i).mp hq
    have := out_n (ha x h2) h4
    omega
theorem ulo_uni {a : Nat → Bool} {st l N : Nat} : uni a (ulo a st l N) = ulo a st l N := by
  refine bext ((bD0 _ _).mp (uni_sub _ _)) (fun i hi => ?_)
  obtain ⟨x, h1, h2, h3, h4⟩ := (ulo_tb a st l N i).mp hi
  refine uni_tb.mpr ⟨x, h2, ?_, h4⟩
  rw [bD0]
  intro j hj
  exact (ulo_tb a st l N j).mpr ⟨x, h1, h2, h3, hj⟩
theorem alb_up {a : Nat → Bool} {A P u n : Nat} (ha : ∀ x, a x = true → x < 2 ^ n) (hu : uni a u = u) (hul : u < 2 ^ n) : alb A P u ≤ alb A P (ulo a (bD A P) (u &&& bD A P) (2 ^ n)) := by
  unfold alb
  refine bP_mono (fun i _ hi => ?_)
  have hsub : ∀ j, u.testBit j = true → (ulo a (bD A P) (u &&& bD A P) (2 ^ n)).testBit j = true := by
    intro j hj
    rw [← hu] at hj
    obtain ⟨x, h1, h2, h3⟩ := uni_tb.mp hj
    refine (ulo_tb _ _ _ _ _).mpr ⟨x, ha x h1, h1, ?_, h3⟩
    rw [bD0] at h2 ⊢
    intro q hq
    rw [Nat.testBit_and, Bool.and_eq_true] at hq
    rw [Nat.testBit_and, h2 q hq.1, hq.2]
    rfl
  rw [Nat.testBit_or, bD_tb, Nat.testBit_and] at hi ⊢
  simp only [Bool.or_eq_true, Bool.and_eq_true, Bool.not_eq_true'] at hi ⊢
  rcases hi with ⟨h1, h2⟩ | ⟨h1, h2⟩
  · cases hq : (ulo a (bD A P) (u &&& bD A P) (2 ^ n)).testBit i
    · exact Or.inl ⟨h1, rfl⟩
    · refine Or.inr ⟨?_, rfl⟩
      cases hpi : P.testBit i
      · exfalso
        obtain ⟨x, q1, q2, q3, q4⟩ := (ulo_tb _ _ _ _ _).mp hq
        rw [bD0] at q3
        have := q3 i (by rw [Nat.testBit_and, q4, bD_tb, h1, hpi]; rfl)
        rw [Nat.testBit_and, h2] at this
        cases this
      · rfl
  · exact Or.inr ⟨h1, hsub i h2⟩
section M
variable {h : AH} {S R : Nat → Nat}
theorem m_reach60 {y : Nat} (hn : nC R ≤ 12) (hL : LawM h R y) {A P st l : Nat} {most : Int32} (hst : st < 2 ^ 12) (K : Int32 → Int32 → Int32 → Int32 → Int32 → AH → Option (Int32 × AH)) : jM_reach_60 K FU (nI A) (nI P) (nI st) most (nI l) (nI 0) (nI 0) h = jM_reach_108 K (nI A) (nI P) (nI st) most (nI l) (nI (ulo (aC R (bar2 R y 100)) st l (2 ^ nC R))) h := by
  have hp : 2 ^ nC R ≤ 2 ^ 12 := Nat.pow_le_pow_right (by decide) hn
  have key := up_ind (P := fun fu k => jM_reach_60 K fu (nI A) (nI P) (nI st) most (nI l) (nI (ulo (aC R (bar2 R y 100)) st l (min k (2 ^ nC R)))) (nI k) h = jM_reach_108 K (nI A) (nI P) (nI st) most (nI l) (nI (ulo (aC R (bar2 R y 100)) st l (2 ^ nC R))) h) 4096 (fun fu => ?_) (fun fu k hk ih => ?_) 4096 0 FU rfl (FU_lt (by omega))
  · rw [Nat.zero_min] at key
    exact key
  · rw [jM_reach_60, Nat.min_eq_right (by omega)]
    simp (disch := omega) only [litI, nI_ltI, if_neg]
  · have hb : bD (k &&& st) l < 2 ^ 31 := by
      have h1 := bD_le (k &&& st) l
      have h2 : k &&& st ≤ k := Nat.and_le_left
      omega
    rw [jM_reach_60]
    unfold jM_reach_98
    simp (disch := omega) only [litI, nI_ltI, if_pos, inb_nI, nI_clamp, hL k, if_true, nI_and, nI_dif, nI_or, Nat.or_zero, nI_add]
    simp only [show (nI (bD (k &&& st) l) = nI 0) = (bD (k &&& st) l = 0) from propext (nI_eq hb (by omega))]
    by_cases hk2 : k < 2 ^ nC R
    · have hac : aC R (bar2 R y 100) k = adm R (bar2 R y 100) k := aC_of hk2
      rw [Nat.min_eq_left (by omega)]
      rw [Nat.min_eq_left (by omega), ulo, hac] at ih
      by_cases h1 : adm R (bar2 R y 100) k = true
      · rw [show (if k < 2 ^ nC R ∧ adm R (bar2 R y 100) k = true then 1 else 0) = 1 from if_pos ⟨hk2, h1⟩]
        simp (disch := omega) only [nI_eq, if_neg]
        by_cases h2 : bD (k &&& st) l = 0
        · rw [if_pos h2]
          rw [if_pos ⟨h1, h2⟩] at ih
          exact ih
        · rw [if_neg h2]
          rw [if_neg (fun z => h2 z.2)] at ih
          exact ih
      · rw [show (if k < 2 ^ nC R ∧ adm R (bar2 R y 100) k = true then 1 else 0) = 0 from if_neg (fun z => h1 z.2)]
        rw [if_neg (fun z => h1 z.1)] at ih
        simp (disch := omega) only [nI_eq, if_true]
        exact ih
    · rw [Nat.min_eq_right (by omega)]
      rw [Nat.min_eq_right (by omega)] at ih
      rw [show (if k < 2 ^ nC R ∧ adm R (bar2 R y 100) k = true then 1 else 0) = 0 from if_neg (fun z => hk2 z.1)]
      simp (disch := omega) only [nI_eq, if_true]
      exact ih
theorem m_reach54 (I : BkI R) {y : Nat} (hn : nC R ≤ 12) (hL : LawM h R y) : jM_reach_54 FU (nI (alk R S)) (nI (pay R y)) (nI (bD (alk R S) (pay R y))) (nI (bP (alk R S) 24)) (nI (bD (alk R S) (pay R y))) h = some (nI (msf (aC R (bar2 R y 100)) (alk R S) (pay R y) (2 ^ nC R)), h) := by
  have hp : 2 ^ nC R ≤ 2 ^ 12 := Nat.pow_le_pow_right (by decide) hn
  have hp0 := Nat.two_pow_pos (nC R)
  have hA := alk_lt R S
  have hst : bD (alk R S) (pay R y) < 2 ^ nC R := bD_lt hA
  have ha : ∀ x, aC R (bar2 R y 100) x = true → x < 2 ^ nC R := fun x hx => (aC_lt hx).1
  generalize hs : bD (alk R S) (pay R y) = st at hst ⊢
  -- what counts in the end
  have hend : ∀ most, (∃ u, u < 2 ^ nC R ∧ uni (aC R (bar2 R y 100)) u = u ∧ most = alb (alk R S) (pay R y) u) → (∀ l, bD l st = 0 → alb (alk R S) (pay R y) (ulo (aC R (bar2 R y 100)) st l (2 ^ nC R)) ≤ most) → most = msf (aC R (bar2 R y 100)) (alk R S) (pay R y) (2 ^ nC R) := by
    rintro most ⟨u, h1, h2, h3⟩ hall
    have q1 := msf_ge (A := alk R S) (P := pay R y) h2 (2 ^ nC R) h1
    obtain ⟨v, v1, v2, v3⟩ := msf_ex2 (aC R (bar2 R y 100)) (alk R S) (pay R y) hp0
    have q2 := alb_up (A := alk R S) (P := pay R y) ha v2 v1
    rw [hs] at q2
    have q3 := hall (v &&& st) (and_sub _ _)
    omega
  have key : ∀ l, bD l st = 0 → ∀ fuel, l < fuel → ∀ most, most ≤ 24 → (∃ u, u < 2 ^ nC R ∧ uni (aC R (bar2 R y 100)) u = u ∧ most = alb (alk R S) (pay R y) u) → (∀ l', bD l' st = 0 → l < l' → alb (alk R S) (pay R y) (ulo (aC R (bar2 R y 100)) st l' (2 ^ nC R)) ≤ most) → jM_reach_54 fuel (nI (alk R S)) (nI (pay R y)) (nI st) (nI most) (nI l) h = some (nI (msf (aC R (bar2 R y 100)) (alk R S) (pay R y) (2 ^ nC R)), h) := by
    intro l
    induction l using Nat.strongRecOn with
    | ind l ih =>
      intro hl fuel hf most hm hex hpast
      obtain ⟨fuel, rfl⟩ : ∃ f, fuel = f + 1 := ⟨fuel - 1, by omega⟩
      have hll := bsub_le hl
      have hu1 := ulo_lt (st := st) (l := l) ha (2 ^ nC R)
      have hu2 := ulo_uni (a := aC R (bar2 R y 100)) (st := st) (l := l) (N := 2 ^ nC R)
      rw [jM_reach_54]
      simp only [litI]
      rw [m_reach60 hn hL (by omega)]
      generalize hU : ulo (aC R (bar2 R y 100)) st l (2 ^ nC R) = U at hu1 hu2
      have hmask : bD (alk R S) (bD U (pay R y)) ||| (U &&& pay R y) = bD (alk R S) U ||| (pay R y &&& U) := by
        apply Nat.eq_of_testBit_eq
        intro i
        simp only [Nat.testBit_or, bD_tb, Nat.testBit_and]
        cases (alk R S).testBit i <;> cases U.testBit i <;> cases (pay R y).testBit i <;> rfl
      have hb24 : bD (alk R S) U ||| (pay R y &&& U) < 2 ^ 24 := lt24 I (alb_lt hA (pay_lt R y))
      have hab : alb (alk R S) (pay R y) U ≤ 24 := bP_le _ _
      unfold jM_reach_108 jM_reach_144
      simp only [litI, nI_dif, nI_and, nI_or]
      rw [hmask, m_bits (by omega), obind, show bP (bD (alk R S) U ||| (pay R y &&& U)) 24 = alb (alk R S) (pay R y) U from rfl]
      simp (disch := omega) only [nI_leI, nI_eq]
      have hnext : ∀ m2, m2 ≤ 24 → (∃ u, u < 2 ^ nC R ∧ uni (aC R (bar2 R y 100)) u = u ∧ m2 = alb (alk R S) (pay R y) u) → most ≤ m2 → alb (alk R S) (pay R y) U ≤ m2 → (if l = 0 then some (nI m2, h) else jM_reach_54 fuel (nI (alk R S)) (nI (pay R y)) (nI st) (nI m2) ((nI l - nI 1) &&& nI st) h) = some (nI (msf (aC R (bar2 R y 100)) (alk R S) (pay R y) (2 ^ nC R)), h) := by
        intro m2 q1 q2 q3 q4
        by_cases hl0 : l = 0
        · rw [if_pos hl0, hend m2 q2 (fun l' r1 => ?_)]
          by_cases h2 : l < l'
          · have := hpast l' r1 h2; omega
          · rw [show l' = l by omega, hU]; exact q4
        · rw [if_neg hl0, pk_sub (by omega), nI_and]
          have hpl := pred_lt (o := st) hl0
          refine ih _ hpl (and_sub _ _) fuel (by omega) m2 q1 q2 (fun l' r1 r2 => ?_)
          by_cases h2 : l < l'
          · have := hpast l' r1 h2; omega
          · by_cases h3 : l' = l
            · rw [h3, hU]; exact q4
            · have := pred_gap (n := 12) (s := l') (by omega) r1 hl hl0 (by omega)
              omega
      by_cases hc : alb (alk R S) (pay R y) U ≤ most
      · rw [if_pos hc]
        have := hnext most hm hex (Nat.le_refl _) hc
        by_cases hl0 : l = 0
        · rw [if_pos hl0] at this ⊢
          exact this
        · rw [if_neg hl0] at this ⊢
          rw [pk_sub (by omega), nI_and] at this
          simp (disch := omega) only [pk_sub, nI_and]
          exact this
      · rw [if_neg hc]
        have := hnext _ hab ⟨U, hu1, hu2, rfl⟩ (by omega) (Nat.le_refl _)
        by_cases hl0 : l = 0
        · rw [if_pos hl0] at this ⊢
          exact this
        · rw [if_neg hl0] at this ⊢
          rw [pk_sub (by omega), nI_and] at this
          simp (disch := omega) only [pk_sub, nI_and]
          exact this
  refine key st (bD_rf st) FU (FU_lt (by omega)) _ (bP_le _ _) ⟨0, hp0, uni_0 _, ?_⟩ (fun l' r1 r2 => ?_)
  · unfold alb
    rw [bD_0, Nat.and_zero, Nat.or_zero]
  · have := bsub_le r1
    omega
end M
