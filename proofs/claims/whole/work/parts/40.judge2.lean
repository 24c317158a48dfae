/-! ===== pure: judging, breaking, by the model ===== -/
section M
variable {h : AH} {S R : Nat → Nat}
theorem m_judgedCells (MR : MoR h R) (I : BkI R) (h0 : 1 ≤ R 0) {s y : Nat} (hs : s < 2 ^ 24) (hy : y < 2 ^ 31) : jM_judgedCells h (nI s) (nI y) = some (nI (jcl R s y)) := by
  have hR := Rsm I
  have hk24 : bD (2 ^ nC R - 1) s < 2 ^ 24 := lt24 I (bD_lt (full_lt _))
  have hb := bP_le (bD (2 ^ nC R - 1) s) 24
  have hnp := npt_le (R 0) 24 (bD (2 ^ nC R - 1) s)
  have ha : s &&& brd R y 100 (R 6) < 2 ^ 31 := Nat.lt_of_le_of_lt Nat.and_le_left (by omega)
  have e1 := m_bits (a := bD (2 ^ nC R - 1) s) (by omega)
  have e2 := m_partsOf MR I h0 (s := bD (2 ^ nC R - 1) s) (bD_lt (full_lt _))
  have hl : lawK R s = if bP (bD (2 ^ nC R - 1) s) 24 < R 2 then 1 else if R 3 ≠ 0 ∧ R 3 < npt (R 0) 24 (bD (2 ^ nC R - 1) s) then 2 else 0 := by
    unfold lawK
    exact Eq.refl _
  have e49 : lawK R s = 0 → jM_judgedCells_49 h (nI s) (nI y) = some (nI (jcl R s y)) := by
    intro hl
    unfold jM_judgedCells_49 jcl
    rw [hl, if_neg (show ¬ (0 : Nat) ≠ 0 from fun z => z rfl)]
    simp (disch := omega) only [litI, m_barred MR I hy, obind, nI_and, nI_eq]
    by_cases h2 : s &&& brd R y 100 (R 6) = 0
    · rw [if_pos h2, if_pos h2]
    · rw [if_neg h2, if_neg h2]
  have hk : ∀ k, lawK R s = k → k ≠ 0 → jcl R s y = k := by
    intro k hk h0
    unfold jcl
    rw [hk, if_pos h0]
  unfold jM_judgedCells
  rw [m_allCells MR I]
  simp (disch := omega) only [litI, obind, nI_dif, e1, e2, inb_nI, nI_clamp, MR 2, MR 3, if_true]
  generalize bP (bD (2 ^ nC R - 1) s) 24 = A at hb hl ⊢
  generalize npt (R 0) 24 (bD (2 ^ nC R - 1) s) = P at hnp hl ⊢
  clear hk24 e1 e2 ha
  simp (disch := omega) only [nI_ltI, nI_eq, nI_leI]
  by_cases h2 : A < R 2
  · rw [if_pos h2]
    rw [if_pos h2] at hl
    rw [hk 1 hl (by decide)]
  · rw [if_neg h2]
    rw [if_neg h2] at hl
    by_cases h3 : R 3 ≤ 0
    · rw [if_pos h3]
      rw [if_neg (by omega)] at hl
      exact e49 hl
    · rw [if_neg h3]
      by_cases h4 : P ≤ R 3
      · rw [if_pos h4]
        rw [if_neg (by omega)] at hl
        exact e49 hl
      · rw [if_neg h4]
        rw [if_pos (by omega)] at hl
        rw [hk 2 hl (by decide)]
/-- the first of a set of cells: 0 none, else one more -/
def fst1 (s : Nat) : Nat := if s = 0 then 0 else lw s + 1
theorem m_tooNew (MR : MoR h R) (MS : MoS h S) (WI : WkI R S) (I : BkI R) {r : Nat} (hr : r < S 0 + S 1) : jM_tooNew h (nI r) = some (cv (fst1 (unt R S r))) := by
  have hR := Rsm I
  have hw := WI.1
  have hy := (WI.2.2.2 r hr).2.1
  unfold jM_tooNew
  refine up_ind (P := fun n k => (∀ j, j < k → (unt R S r).testBit j = false) → jM_tooNew_2 h (nI r) n (nI k) = some (cv (fst1 (unt R S r)))) (nC R) (fun n hz => ?_) (fun n k hk ih hz => ?_) (nC R) 0 FU (by omega) (FU_lt (by omega)) (fun j hj => by omega)
  · have h0 : unt R S r = 0 := by
      apply Nat.eq_of_testBit_eq
      intro i
      rw [Nat.zero_testBit]
      by_cases hi : i < nC R
      · exact hz i hi
      · exact Nat.testBit_lt_two_pow (Nat.lt_of_lt_of_le (unt_lt R S r) (Nat.pow_le_pow_right (by decide) (by omega)))
    rw [jM_tooNew_2]
    simp (disch := omega) only [litI, jb_eq, inb_nI, nI_clamp, nI_add, pk_sub, pk_mul, nI_and, nI_or, and31, sh1, nI_dif, nI_bit, nI_shr, nI_eq, nI_ltI, nI_leI, nI_eq_neg, neg_eq_nI, neg_eq_neg, neg_lt_nI, nI_lt_neg, neg_le_nI, nI_le_neg, cv_eq2, nI_tn0, nI_tn1, obind, if_pos, if_neg, Nat.not_lt_zero, eq_self, if_true, if_false, Nat.zero_le, Nat.add_sub_cancel, nI_m1, nI_dn, m_cellMany MR]
    unfold fst1
    rw [if_pos h0]
    rfl
  · have hp := ((WI.2.2.2 r hr).2.2 k (by omega)).1
    have hb : (unt R S r).testBit k = (decide (pt S r k ≠ 0) && decide (¬ R (16 + pt S r k) ≤ yr S r)) := by
      unfold unt
      rw [bM_tb]
      simp [hk]
    have hnext : (unt R S r).testBit k = false → ∀ j, j < k + 1 → (unt R S r).testBit j = false := by
      intro h1 j hj
      by_cases hjk : j = k
      · rw [hjk]; exact h1
      · exact hz j (by omega)
    rw [jM_tooNew_2]
    simp (disch := omega) only [litI, jb_eq, inb_nI, nI_clamp, nI_add, pk_sub, pk_mul, nI_and, nI_or, and31, sh1, nI_dif, nI_bit, nI_shr, nI_eq, nI_ltI, nI_leI, nI_eq_neg, neg_eq_nI, neg_eq_neg, neg_lt_nI, nI_lt_neg, neg_le_nI, nI_le_neg, cv_eq2, nI_tn0, nI_tn1, obind, if_pos, if_neg, Nat.not_lt_zero, eq_self, if_true, if_false, Nat.zero_le, Nat.add_sub_cancel, nI_m1, nI_dn, m_cellMany MR, m_paintOf MS (w := r) (c := k) (by omega) (by omega) (by omega), m_yearOf MS (w := r) (by omega)]
    by_cases h0 : pt S r k = 0
    · rw [if_pos h0]
      exact ih (hnext (by rw [hb]; simp [h0]))
    · rw [if_neg h0, cv_pos (by omega)]
      have h3 := (I.2.1 (pt S r k - 1) (by omega)).2.2
      simp (disch := omega) only [litI, jb_eq, inb_nI, nI_clamp, nI_add, pk_sub, pk_mul, nI_and, nI_or, and31, sh1, nI_dif, nI_bit, nI_shr, nI_eq, nI_ltI, nI_leI, nI_eq_neg, neg_eq_nI, neg_eq_neg, neg_lt_nI, nI_lt_neg, neg_le_nI, nI_le_neg, cv_eq2, nI_tn0, nI_tn1, obind, if_pos, if_neg, Nat.not_lt_zero, eq_self, if_true, if_false, Nat.zero_le, Nat.add_sub_cancel, nI_m1, nI_dn, MR (17 + (pt S r k - 1))]
      rw [show 17 + (pt S r k - 1) = 16 + pt S r k by omega]
      by_cases h2 : R (16 + pt S r k) ≤ yr S r
      · rw [if_pos h2]
        exact ih (hnext (by rw [hb]; simp [h2]))
      · rw [if_neg h2]
        have ht : (unt R S r).testBit k = true := by rw [hb]; simp [h0, h2]
        have hl := lw_uniq ht hz
        unfold fst1
        rw [if_neg (fun z => by rw [z] at ht; simp at ht), hl]
        rfl
theorem fst1_0 {s : Nat} : fst1 s = 0 ↔ s = 0 := by
  unfold fst1
  split <;> omega
theorem fst1_le {s : Nat} (h : s < 2 ^ 24) : fst1 s ≤ 24 := by
  unfold fst1
  split
  · omega
  · rename_i h0
    have := (lw_spec h h0).1
    omega
theorem m_judgedOf (MR : MoR h R) (MS : MoS h S) (WI : WkI R S) (I : BkI R) {r : Nat} (hr : r < S 0 + S 1) : jM_judgedOf h (nI r) = some (nI (jdg R S r)) := by
  have hw := WI.1
  have hy := (WI.2.2.2 r hr).2.1
  have h1 := nC_ne WI I hr
  have hj := jcl_le R (cel S r) (yr S r)
  have hf := fst1_le (lt24 I (unt_lt R S r))
  unfold jM_judgedOf jdg
  rw [m_painted MR MS WI I hr, obind, m_yearOf MS (by omega), obind, m_judgedCells MR I h1 (cel_lt S r) (by omega), obind]
  simp (disch := omega) only [litI, nI_eq, m_tooNew MR MS WI I hr, obind, cv_eq2]
  by_cases h2 : jcl R (cel S r) (yr S r) = 0
  · rw [if_pos h2, if_neg (show ¬ jcl R (cel S r) (yr S r) ≠ 0 from fun z => z h2)]
    by_cases h3 : unt R S r = 0
    · rw [if_pos h3, if_pos (fst1_0.mpr h3)]
    · rw [if_neg h3, if_neg (fun z => h3 (fst1_0.mp z))]
  · rw [if_neg h2, if_pos h2]
theorem m_lowest {s : Nat} (hs : s < 2 ^ 24) : jM_lowest (nI s) = some (cv (fst1 s)) := by
  unfold jM_lowest
  refine up_ind (P := fun n k => (∀ j, j < k → s.testBit j = false) → jM_lowest_2 (nI s) n (nI k) = some (cv (fst1 s))) 24 (fun n hz => ?_) (fun n k hk ih hz => ?_) 24 0 FU rfl (by decide) (fun j hj => by omega)
  · have h0 : s = 0 := by
      apply Nat.eq_of_testBit_eq
      intro i
      rw [Nat.zero_testBit]
      by_cases hi : i < 24
      · exact hz i hi
      · exact Nat.testBit_lt_two_pow (Nat.lt_of_lt_of_le hs (Nat.pow_le_pow_right (by decide) (by omega)))
    rw [jM_lowest_2]
    simp (disch := omega) only [litI, jb_eq, inb_nI, nI_clamp, nI_add, pk_sub, pk_mul, nI_and, nI_or, and31, sh1, nI_dif, nI_bit, nI_shr, nI_eq, nI_ltI, nI_leI, nI_eq_neg, neg_eq_nI, neg_eq_neg, neg_lt_nI, nI_lt_neg, neg_le_nI, nI_le_neg, cv_eq2, nI_tn0, nI_tn1, obind, if_pos, if_neg, Nat.not_lt_zero, eq_self, if_true, if_false, Nat.zero_le, Nat.add_sub_cancel, nI_m1, nI_dn]
    unfold fst1
    rw [if_pos h0]
    rfl
  · rw [jM_lowest_2]
    simp (disch := omega) only [litI, nI_ltI, if_pos, m_has, obind, nI_add]
    cases ht : s.testBit k
    · simp (disch := omega) only [Bool.toNat_false, nI_eq, if_true]
      refine ih (fun j hj => ?_)
      by_cases hjk : j = k
      · rw [hjk]; exact ht
      · exact hz j (by omega)
    · simp (disch := omega) only [Bool.toNat_true, nI_eq, if_neg]
      unfold fst1
      rw [if_neg (fun z => by rw [z] at ht; simp at ht), lw_uniq ht hz]
      rfl
theorem m_breaksAt (MR : MoR h R) (MS : MoS h S) (WI : WkI R S) (I : BkI R) {r : Nat} (hr : r < S 0 + S 1) : jM_breaksAt h (nI r) = some (cv (brk R S r)) := by
  have hR := Rsm I
  have hw := WI.1
  have hy := (WI.2.2.2 r hr).2.1
  have h1 := nC_ne WI I hr
  have hj := jdg_le R S r
  have hfb := full_bP WI I hr
  have hc24 := cel_lt S r
  unfold jM_breaksAt brk
  rw [m_painted MR MS WI I hr, obind, m_judgedOf MR MS WI I hr, obind]
  simp (disch := omega) only [litI, nI_eq]
  by_cases e1 : jdg R S r = 1
  · have hd := jdg1 e1
    have hk : R 2 ≤ nC R := by
      rcases I.1 with z | z
      · omega
      · exact z.2.2.2.2.1
    rw [if_pos e1, if_pos e1, m_cellMany MR, obind]
    have hrb := bP_rmv hc24 (nC R - R 2) (by omega)
    refine up_ind (P := fun n k => bP (cel S r) k ≤ nC R - R 2 → jM_breaksAt_48 h n (nI (cel S r)) (nI (nC R - bP (cel S r) k)) (nI k) = some (cv (lw (rmv (cel S r) (nC R - R 2)) + 1))) (nC R) (fun n hz => ?_) (fun n k hk ih hz => ?_) (nC R) 0 FU (by omega) (FU_lt (by omega)) (Nat.zero_le _)
    · have := bP_up (cel_ltn WI I hr) hR.2.2.2.2.2.2.2
      omega
    · have hbk := bP_le (cel S r) k
      have hb1 : bP (cel S r) (k + 1) = bP (cel S r) k + ((cel S r).testBit k).toNat := rfl
      rw [jM_breaksAt_48]
      simp (disch := omega) only [litI, m_cellMany MR, obind, nI_ltI, if_pos, m_has]
      cases ht : (cel S r).testBit k
      · rw [ht] at hb1
        simp only [Bool.toNat_false, Nat.add_zero] at hb1
        unfold jM_breaksAt_72
        simp (disch := omega) only [Bool.toNat_false, litI, nI_eq, if_true, inb_nI, nI_clamp, MR 2, pk_sub, nI_ltI, if_neg, nI_add, Nat.sub_zero]
        rw [hb1] at ih
        exact ih hz
      · rw [ht] at hb1
        simp only [Bool.toNat_true] at hb1
        unfold jM_breaksAt_72
        simp (disch := omega) only [Bool.toNat_true, litI, nI_eq, if_neg, inb_nI, nI_clamp, MR 2, if_true, pk_sub, nI_add]
        by_cases hx : bP (cel S r) k = nC R - R 2
        · have ht2 : (rmv (cel S r) (nC R - R 2)).testBit k = true := by
            have a1 := hrb (k + 1)
            have a0 := hrb k
            have : bP (rmv (cel S r) (nC R - R 2)) (k + 1) = bP (rmv (cel S r) (nC R - R 2)) k + ((rmv (cel S r) (nC R - R 2)).testBit k).toNat := rfl
            cases hq : (rmv (cel S r) (nC R - R 2)).testBit k
            · rw [hq] at this
              simp only [Bool.toNat_false] at this
              omega
            · rfl
          have hz2 : ∀ j, j < k → (rmv (cel S r) (nC R - R 2)).testBit j = false := by
            intro j hj
            have a0 := hrb k
            cases hq : (rmv (cel S r) (nC R - R 2)).testBit j
            · rfl
            · have := bP_smono (s := 0) (n := k) (fun i _ z => by simp at z) hj (Nat.zero_testBit j) hq
              omega
          rw [lw_uniq ht2 hz2]
          simp (disch := omega) only [nI_ltI, if_pos]
          rfl
        · rw [hb1] at ih
          simp (disch := omega) only [nI_ltI, if_neg]
          rw [show nC R - bP (cel S r) k - 1 = nC R - (bP (cel S r) k + 1) by omega]
          exact ih (by omega)
  · rw [if_neg e1, if_neg e1]
    by_cases e2 : jdg R S r = 2
    · rw [if_pos e2, if_pos e2, m_allCells MR I, obind]
      simp (disch := omega) only [inb_nI, nI_clamp, MR 3, if_true, nI_dif, m_partAt MR I h1 (bD_lt (full_lt _)), obind]
    · rw [if_neg e2, if_neg e2]
      by_cases e3 : jdg R S r = 3
      · have h2 := jdg3 e3
        have ha : cel S r &&& brd R (yr S r) 100 (R 6) < 2 ^ 24 := Nat.lt_of_le_of_lt Nat.and_le_left (cel_lt S r)
        rw [if_pos e3, if_pos e3, m_yearOf MS (by omega), obind, m_barred MR I (by omega), obind, nI_and, m_lowest ha, obind]
        unfold fst1
        rw [if_neg h2]
      · rw [if_neg e3, if_neg e3]
        by_cases e4 : jdg R S r = 4
        · have h2 := jdg4 e4
          rw [if_pos e4, if_pos e4, m_tooNew MR MS WI I hr, obind]
          unfold fst1
          rw [if_neg h2]
        · rw [if_neg e4, if_neg e4]
          rfl
end M
