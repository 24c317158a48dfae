/-! ===== pure: contracts, judging ===== -/
def prt (wi x0 x1 y0 y x i : Nat) : Bool := decide (x0 ≤ i % wi ∧ i % wi ≤ x1 ∧ y0 ≤ i / wi ∧ (i / wi < y ∨ i / wi = y ∧ i % wi < x))
theorem prt_x {wi x0 x1 y0 y x n : Nat} (h1 : 1 ≤ wi) (h2 : wi ≤ 6) (hx : x0 ≤ x) (hx1 : x ≤ x1) (hw : x < wi) (hy : y0 ≤ y) (hn : wi * y + x < n) : bM (prt wi x0 x1 y0 y (x + 1)) n = bM (prt wi x0 x1 y0 y x) n ||| 2 ^ (wi * y + x) := by
  apply Nat.eq_of_testBit_eq
  intro i
  rw [Nat.testBit_or, bM_tb, bM_tb, Nat.testBit_two_pow]
  have e : (i < n ∧ x0 ≤ i % wi ∧ i % wi ≤ x1 ∧ y0 ≤ i / wi ∧ (i / wi < y ∨ i / wi = y ∧ i % wi < x + 1)) ↔ ((i < n ∧ x0 ≤ i % wi ∧ i % wi ≤ x1 ∧ y0 ≤ i / wi ∧ (i / wi < y ∨ i / wi = y ∧ i % wi < x)) ∨ wi * y + x = i) := by
    rcases wi_cases h1 h2 with rfl | rfl | rfl | rfl | rfl | rfl <;> omega
  unfold prt
  rw [← Bool.decide_and, ← Bool.decide_and, ← Bool.decide_or]
  exact decide_eq_decide.mpr e
theorem prt_y {wi x0 x1 y0 y n : Nat} (h1 : 1 ≤ wi) (h2 : wi ≤ 6) (hx : x0 ≤ x1) (hy : y0 ≤ y) : bM (prt wi x0 x1 y0 y (x1 + 1)) n = bM (prt wi x0 x1 y0 (y + 1) x0) n := by
  refine bM_ext (fun i _ => decide_eq_decide.mpr ?_)
  rcases wi_cases h1 h2 with rfl | rfl | rfl | rfl | rfl | rfl <;> omega
theorem prt_0 {wi x0 x1 y0 n : Nat} : bM (prt wi x0 x1 y0 y0 x0) n = 0 := by
  apply Nat.eq_of_testBit_eq
  intro i
  rw [bM_tb, Nat.zero_testBit]
  unfold prt
  rw [← Bool.decide_and]
  exact decide_eq_false (by omega)
theorem prt_e {wi x0 x1 y0 y1 n : Nat} (hx : x0 ≤ x1) : bM (prt wi x0 x1 y0 (y1 + 1) x0) n = bM (inr wi x0 y0 x1 y1) n := by
  refine bM_ext (fun i _ => decide_eq_decide.mpr ?_)
  omega
def brd (R : Nat → Nat) (y L : Nat) : Nat → Nat
  | 0 => 0
  | k + 1 => if k ≠ L ∧ R (26 + 6 * k) ≤ y ∧ y ≤ R (27 + 6 * k) then brd R y L k ||| rcm R k else brd R y L k
theorem rcm_lt (R : Nat → Nat) (k : Nat) : rcm R k < 2 ^ nC R := bM_lt _ _
theorem brd_lt (R : Nat → Nat) (y L k : Nat) : brd R y L k < 2 ^ nC R := by
  induction k with
  | zero => exact Nat.two_pow_pos _
  | succ k ih =>
    unfold brd
    split
    · exact Nat.or_lt_two_pow ih (rcm_lt R k)
    · exact ih
section C
variable {h : AH} {b : Nat} {R : Nat → Nat}
theorem c_patchCells (B : BkC h b R) (I : BkI R) {x0 y0 x1 y1 : Nat} (hx : x0 ≤ x1) (hx1 : x1 < R 0) (hy : y0 ≤ y1) (hy1 : y1 < R 1) : jB_patchCells h b (nI x0) (nI y0) (nI x1) (nI y1) = some (nI (bM (inr (R 0) x0 y0 x1 y1) (nC R))) := by
  have hR := Rsm I
  have h1 : 1 ≤ R 0 := by omega
  unfold jB_patchCells
  have inner : ∀ (K : Int32 → Int32 → Option Int32) y, y0 ≤ y → y ≤ y1 → jB_patchCells_25 h b (nI x0) (nI x1) (nI y1) K FU (nI (bM (prt (R 0) x0 x1 y0 y x0) (nC R))) (nI y) (nI x0) = K (nI (bM (prt (R 0) x0 x1 y0 (y + 1) x0) (nC R))) (nI (y + 1)) := by
    intro K y hya hyb
    refine up_ind (P := fun n k => x0 ≤ k → jB_patchCells_25 h b (nI x0) (nI x1) (nI y1) K n (nI (bM (prt (R 0) x0 x1 y0 y k) (nC R))) (nI y) (nI k) = K (nI (bM (prt (R 0) x0 x1 y0 (y + 1) x0) (nC R))) (nI (y + 1))) (x1 + 1) (fun n _ => ?_) (fun n k hk ih hka => ?_) (x1 + 1 - x0) x0 FU (by omega) (FU_lt (by omega)) (Nat.le_refl _)
    · rw [jB_patchCells_25]
      simp (disch := omega) only [litI, jb_eq, inb_nI, nI_clamp, nI_add, pk_sub, pk_mul, nI_and, nI_or, and31, sh1, nI_dif, nI_bit, nI_shr, nI_eq, nI_ltI, nI_leI, nI_eq_neg, neg_eq_nI, neg_eq_neg, neg_lt_nI, nI_lt_neg, neg_le_nI, nI_le_neg, cv_eq2, nI_tn0, nI_tn1, Option.bind_some, if_pos, if_neg, Nat.not_lt_zero, eq_self, if_true, if_false, Nat.zero_le, Nat.add_sub_cancel, nI_m1, nI_dn]
      rw [prt_y h1 hR.1 hx hya]
    · have hc := cellb I (x := k) (y := y) (by omega) (by omega)
      have ih := ih (by omega)
      rw [prt_x h1 hR.1 hka (by omega) (by omega) hya hc.1] at ih
      rw [jB_patchCells_25]
      simp (disch := omega) only [litI, jb_eq, inb_nI, nI_clamp, nI_add, pk_sub, pk_mul, nI_and, nI_or, and31, sh1, nI_dif, nI_bit, nI_shr, nI_eq, nI_ltI, nI_leI, nI_eq_neg, neg_eq_nI, neg_eq_neg, neg_lt_nI, nI_lt_neg, neg_le_nI, nI_le_neg, cv_eq2, nI_tn0, nI_tn1, Option.bind_some, if_pos, if_neg, Nat.not_lt_zero, eq_self, if_true, if_false, Nat.zero_le, Nat.add_sub_cancel, nI_m1, nI_dn, B.1.1, c_cellAt B]
      exact ih
  have key := up_ind (P := fun n k => y0 ≤ k → jB_patchCells_6 h b (nI x0) (nI x1) (nI y1) n (nI (bM (prt (R 0) x0 x1 y0 k x0) (nC R))) (nI k) = some (nI (bM (inr (R 0) x0 y0 x1 y1) (nC R)))) (y1 + 1) (fun n _ => ?_) (fun n k hk ih hka => ?_) (y1 + 1 - y0) y0 FU (by omega) (FU_lt (by omega)) (Nat.le_refl _)
  · rw [prt_0] at key
    exact key
  · rw [jB_patchCells_6]
    simp (disch := omega) only [litI, jb_eq, inb_nI, nI_clamp, nI_add, pk_sub, pk_mul, nI_and, nI_or, and31, sh1, nI_dif, nI_bit, nI_shr, nI_eq, nI_ltI, nI_leI, nI_eq_neg, neg_eq_nI, neg_eq_neg, neg_lt_nI, nI_lt_neg, neg_le_nI, nI_le_neg, cv_eq2, nI_tn0, nI_tn1, Option.bind_some, if_pos, if_neg, Nat.not_lt_zero, eq_self, if_true, if_false, Nat.zero_le, Nat.add_sub_cancel, nI_m1, nI_dn]
    rw [prt_e hx]
  · rw [jB_patchCells_6]
    simp (disch := omega) only [litI, jb_eq, inb_nI, nI_clamp, nI_add, pk_sub, pk_mul, nI_and, nI_or, and31, sh1, nI_dif, nI_bit, nI_shr, nI_eq, nI_ltI, nI_leI, nI_eq_neg, neg_eq_nI, neg_eq_neg, neg_lt_nI, nI_lt_neg, neg_le_nI, nI_le_neg, cv_eq2, nI_tn0, nI_tn1, Option.bind_some, if_pos, if_neg, Nat.not_lt_zero, eq_self, if_true, if_false, Nat.zero_le, Nat.add_sub_cancel, nI_m1, nI_dn, B.1.2.1]
    rw [inner _ k hka (by omega)]
    exact ih (by omega)
theorem c_guardedIn (B : BkC h b R) (I : BkI R) {y L : Nat} {lo : Int32} (hy : y < 2 ^ 31) (hlo : ∀ k, k < 4 → (nI k = lo ↔ k = L)) : jB_guardedIn h b (nI y) lo = some (nI (brd R y L (R 6))) := by
  have hR := Rsm I
  unfold jB_guardedIn
  refine up_ind (P := fun n k => jB_guardedIn_5 h b (nI y) lo n (nI (brd R y L k)) (nI k) = some (nI (brd R y L (R 6)))) (R 6) (fun n => ?_) (fun n k hk ih => ?_) (R 6) 0 FU (by omega) (FU_lt (by omega))
  · rw [jB_guardedIn_5]
    simp (disch := omega) only [litI, jb_eq, inb_nI, nI_clamp, nI_add, pk_sub, pk_mul, nI_and, nI_or, and31, sh1, nI_dif, nI_bit, nI_shr, nI_eq, nI_ltI, nI_leI, nI_eq_neg, neg_eq_nI, neg_eq_neg, neg_lt_nI, nI_lt_neg, neg_le_nI, nI_le_neg, cv_eq2, nI_tn0, nI_tn1, Option.bind_some, if_pos, if_neg, Nat.not_lt_zero, eq_self, if_true, if_false, Nat.zero_le, Nat.add_sub_cancel, nI_m1, nI_dn, B.1.2.2.2.2.2.2]
  · obtain ⟨g1, g2, g3⟩ := B.2.2.1 k hk
    obtain ⟨-, -, -, -, k1, k2⟩ := I.2.2.1 k hk
    rw [brd] at ih
    rw [jB_guardedIn_5]
    simp (disch := omega) only [litI, jb_eq, inb_nI, nI_clamp, nI_add, pk_sub, pk_mul, nI_and, nI_or, and31, sh1, nI_dif, nI_bit, nI_shr, nI_eq, nI_ltI, nI_leI, nI_eq_neg, neg_eq_nI, neg_eq_neg, neg_lt_nI, nI_lt_neg, neg_le_nI, nI_le_neg, cv_eq2, nI_tn0, nI_tn1, Option.bind_some, if_pos, if_neg, Nat.not_lt_zero, eq_self, if_true, if_false, Nat.zero_le, Nat.add_sub_cancel, nI_m1, nI_dn, B.1.2.2.2.2.2.2, g1, g2, g3, hlo]
    by_cases hL : k = L
    · rw [if_pos hL]
      rw [if_neg (by omega)] at ih
      exact ih
    · rw [if_neg hL]
      by_cases ha : R (26 + 6 * k) ≤ y
      · rw [if_pos ha]
        by_cases hb : y ≤ R (27 + 6 * k)
        · rw [if_pos hb]
          rw [if_pos ⟨hL, ha, hb⟩] at ih
          exact ih
        · rw [if_neg hb]
          rw [if_neg (by omega)] at ih
          exact ih
      · rw [if_neg ha]
        rw [if_neg (by omega)] at ih
        exact ih
end C
section M
variable {h : AH} {S R : Nat → Nat}
theorem m_barred (MR : MoR h R) (I : BkI R) {y : Nat} (hy : y < 2 ^ 31) : jM_barred h (nI y) = some (nI (brd R y 100 (R 6))) := by
  have hR := Rsm I
  unfold jM_barred
  refine up_ind (P := fun n k => jM_barred_4 h (nI y) n (nI (brd R y 100 k)) (nI k) = some (nI (brd R y 100 (R 6)))) (R 6) (fun n => ?_) (fun n k hk ih => ?_) (R 6) 0 FU (by omega) (FU_lt (by omega))
  · rw [jM_barred_4]
    simp (disch := omega) only [litI, jb_eq, inb_nI, nI_clamp, nI_add, pk_sub, pk_mul, nI_and, nI_or, and31, sh1, nI_dif, nI_bit, nI_shr, nI_eq, nI_ltI, nI_leI, nI_eq_neg, neg_eq_nI, neg_eq_neg, neg_lt_nI, nI_lt_neg, neg_le_nI, nI_le_neg, cv_eq2, nI_tn0, nI_tn1, Option.bind_some, if_pos, if_neg, Nat.not_lt_zero, eq_self, if_true, if_false, Nat.zero_le, Nat.add_sub_cancel, nI_m1, nI_dn, MR 6]
  · obtain ⟨q1, q2, q3, q4, k1, k2⟩ := I.2.2.1 k hk
    have h1 : 1 ≤ R 0 := by omega
    have r1 := MR (22 + 6 * k) (by omega)
    have r2 := MR (22 + 6 * k + 1) (by omega)
    have r3 := MR (22 + 6 * k + 2) (by omega)
    have r4 := MR (22 + 6 * k + 3) (by omega)
    have r5 := MR (22 + 6 * k + 4) (by omega)
    have r6 := MR (22 + 6 * k + 5) (by omega)
    rw [show 22 + 6 * k + 1 = 23 + 6 * k by omega] at r2
    rw [show 22 + 6 * k + 2 = 24 + 6 * k by omega] at r3
    rw [show 22 + 6 * k + 3 = 25 + 6 * k by omega] at r4
    rw [show 22 + 6 * k + 4 = 26 + 6 * k by omega] at r5
    rw [show 22 + 6 * k + 5 = 27 + 6 * k by omega] at r6
    have inner : ∀ (Q : Nat) (K : Int32 → Int32 → Int32 → Int32 → Option Int32) y', R (23 + 6 * k) ≤ y' → y' ≤ R (25 + 6 * k) → jM_barred_86 h (nI y) K FU (nI (Q ||| bM (prt (R 0) (R (22 + 6 * k)) (R (24 + 6 * k)) (R (23 + 6 * k)) y' (R (22 + 6 * k))) (nC R))) (nI k) (nI (22 + 6 * k)) (nI y') (nI (R (22 + 6 * k))) = K (nI (Q ||| bM (prt (R 0) (R (22 + 6 * k)) (R (24 + 6 * k)) (R (23 + 6 * k)) (y' + 1) (R (22 + 6 * k))) (nC R))) (nI k) (nI (22 + 6 * k)) (nI (y' + 1)) := by
      intro Q K y' hya hyb
      refine up_ind (P := fun n x => R (22 + 6 * k) ≤ x → jM_barred_86 h (nI y) K n (nI (Q ||| bM (prt (R 0) (R (22 + 6 * k)) (R (24 + 6 * k)) (R (23 + 6 * k)) y' x) (nC R))) (nI k) (nI (22 + 6 * k)) (nI y') (nI x) = K (nI (Q ||| bM (prt (R 0) (R (22 + 6 * k)) (R (24 + 6 * k)) (R (23 + 6 * k)) (y' + 1) (R (22 + 6 * k))) (nC R))) (nI k) (nI (22 + 6 * k)) (nI (y' + 1))) (R (24 + 6 * k) + 1) (fun n _ => ?_) (fun n x hx ih hxa => ?_) (R (24 + 6 * k) + 1 - R (22 + 6 * k)) (R (22 + 6 * k)) FU (by omega) (FU_lt (by omega)) (Nat.le_refl _)
      · rw [jM_barred_86]
        simp (disch := omega) only [litI, jb_eq, inb_nI, nI_clamp, nI_add, pk_sub, pk_mul, nI_and, nI_or, and31, sh1, nI_dif, nI_bit, nI_shr, nI_eq, nI_ltI, nI_leI, nI_eq_neg, neg_eq_nI, neg_eq_neg, neg_lt_nI, nI_lt_neg, neg_le_nI, nI_le_neg, cv_eq2, nI_tn0, nI_tn1, Option.bind_some, if_pos, if_neg, Nat.not_lt_zero, eq_self, if_true, if_false, Nat.zero_le, Nat.add_sub_cancel, nI_m1, nI_dn]
        rw [show 22 + 6 * k + 2 = 24 + 6 * k by omega, r3]
        simp (disch := omega) only [litI, jb_eq, inb_nI, nI_clamp, nI_add, pk_sub, pk_mul, nI_and, nI_or, and31, sh1, nI_dif, nI_bit, nI_shr, nI_eq, nI_ltI, nI_leI, nI_eq_neg, neg_eq_nI, neg_eq_neg, neg_lt_nI, nI_lt_neg, neg_le_nI, nI_le_neg, cv_eq2, nI_tn0, nI_tn1, Option.bind_some, if_pos, if_neg, Nat.not_lt_zero, eq_self, if_true, if_false, Nat.zero_le, Nat.add_sub_cancel, nI_m1, nI_dn]
        rw [prt_y h1 hR.1 q1 hya]
      · have hc := cellb I (x := x) (y := y') (by omega) (by omega)
        have ih := ih (by omega)
        rw [prt_x h1 hR.1 hxa (by omega) (by omega) hya hc.1] at ih
        rw [jM_barred_86]
        simp (disch := omega) only [litI, jb_eq, inb_nI, nI_clamp, nI_add, pk_sub, pk_mul, nI_and, nI_or, and31, sh1, nI_dif, nI_bit, nI_shr, nI_eq, nI_ltI, nI_leI, nI_eq_neg, neg_eq_nI, neg_eq_neg, neg_lt_nI, nI_lt_neg, neg_le_nI, nI_le_neg, cv_eq2, nI_tn0, nI_tn1, Option.bind_some, if_pos, if_neg, Nat.not_lt_zero, eq_self, if_true, if_false, Nat.zero_le, Nat.add_sub_cancel, nI_m1, nI_dn, m_cellOf MR]
        rw [show 22 + 6 * k + 2 = 24 + 6 * k by omega, r3]
        simp (disch := omega) only [litI, jb_eq, inb_nI, nI_clamp, nI_add, pk_sub, pk_mul, nI_and, nI_or, and31, sh1, nI_dif, nI_bit, nI_shr, nI_eq, nI_ltI, nI_leI, nI_eq_neg, neg_eq_nI, neg_eq_neg, neg_lt_nI, nI_lt_neg, neg_le_nI, nI_le_neg, cv_eq2, nI_tn0, nI_tn1, Option.bind_some, if_pos, if_neg, Nat.not_lt_zero, eq_self, if_true, if_false, Nat.zero_le, Nat.add_sub_cancel, nI_m1, nI_dn]
        rw [Nat.or_assoc]
        exact ih
    have outer : ∀ (Q : Nat) (K : Int32 → Int32 → Option Int32), jM_barred_63 h (nI y) K FU (nI Q) (nI k) (nI (22 + 6 * k)) (nI (R (23 + 6 * k))) = K (nI (Q ||| rcm R k)) (nI (k + 1)) := by
      intro Q K
      have key := up_ind (P := fun n y' => R (23 + 6 * k) ≤ y' → jM_barred_63 h (nI y) K n (nI (Q ||| bM (prt (R 0) (R (22 + 6 * k)) (R (24 + 6 * k)) (R (23 + 6 * k)) y' (R (22 + 6 * k))) (nC R))) (nI k) (nI (22 + 6 * k)) (nI y') = K (nI (Q ||| rcm R k)) (nI (k + 1))) (R (25 + 6 * k) + 1) (fun n _ => ?_) (fun n x hx ih hxa => ?_) (R (25 + 6 * k) + 1 - R (23 + 6 * k)) (R (23 + 6 * k)) FU (by omega) (FU_lt (by omega)) (Nat.le_refl _)
      · rw [prt_0, Nat.or_zero] at key
        exact key
      · rw [jM_barred_63]
        simp (disch := omega) only [litI, jb_eq, inb_nI, nI_clamp, nI_add, pk_sub, pk_mul, nI_and, nI_or, and31, sh1, nI_dif, nI_bit, nI_shr, nI_eq, nI_ltI, nI_leI, nI_eq_neg, neg_eq_nI, neg_eq_neg, neg_lt_nI, nI_lt_neg, neg_le_nI, nI_le_neg, cv_eq2, nI_tn0, nI_tn1, Option.bind_some, if_pos, if_neg, Nat.not_lt_zero, eq_self, if_true, if_false, Nat.zero_le, Nat.add_sub_cancel, nI_m1, nI_dn]
        rw [show 22 + 6 * k + 3 = 25 + 6 * k by omega, r4]
        simp (disch := omega) only [litI, jb_eq, inb_nI, nI_clamp, nI_add, pk_sub, pk_mul, nI_and, nI_or, and31, sh1, nI_dif, nI_bit, nI_shr, nI_eq, nI_ltI, nI_leI, nI_eq_neg, neg_eq_nI, neg_eq_neg, neg_lt_nI, nI_lt_neg, neg_le_nI, nI_le_neg, cv_eq2, nI_tn0, nI_tn1, Option.bind_some, if_pos, if_neg, Nat.not_lt_zero, eq_self, if_true, if_false, Nat.zero_le, Nat.add_sub_cancel, nI_m1, nI_dn]
        rw [prt_e q1]
        rfl
      · rw [jM_barred_63]
        simp (disch := omega) only [litI, jb_eq, inb_nI, nI_clamp, nI_add, pk_sub, pk_mul, nI_and, nI_or, and31, sh1, nI_dif, nI_bit, nI_shr, nI_eq, nI_ltI, nI_leI, nI_eq_neg, neg_eq_nI, neg_eq_neg, neg_lt_nI, nI_lt_neg, neg_le_nI, nI_le_neg, cv_eq2, nI_tn0, nI_tn1, Option.bind_some, if_pos, if_neg, Nat.not_lt_zero, eq_self, if_true, if_false, Nat.zero_le, Nat.add_sub_cancel, nI_m1, nI_dn]
        rw [show 22 + 6 * k + 3 = 25 + 6 * k by omega, r4]
        simp (disch := omega) only [litI, jb_eq, inb_nI, nI_clamp, nI_add, pk_sub, pk_mul, nI_and, nI_or, and31, sh1, nI_dif, nI_bit, nI_shr, nI_eq, nI_ltI, nI_leI, nI_eq_neg, neg_eq_nI, neg_eq_neg, neg_lt_nI, nI_lt_neg, neg_le_nI, nI_le_neg, cv_eq2, nI_tn0, nI_tn1, Option.bind_some, if_pos, if_neg, Nat.not_lt_zero, eq_self, if_true, if_false, Nat.zero_le, Nat.add_sub_cancel, nI_m1, nI_dn, r1]
        rw [inner Q _ x hxa (by omega)]
        exact ih (by omega)
    rw [brd] at ih
    rw [jM_barred_4]
    simp (disch := omega) only [litI, jb_eq, inb_nI, nI_clamp, nI_add, pk_sub, pk_mul, nI_and, nI_or, and31, sh1, nI_dif, nI_bit, nI_shr, nI_eq, nI_ltI, nI_leI, nI_eq_neg, neg_eq_nI, neg_eq_neg, neg_lt_nI, nI_lt_neg, neg_le_nI, nI_le_neg, cv_eq2, nI_tn0, nI_tn1, Option.bind_some, if_pos, if_neg, Nat.not_lt_zero, eq_self, if_true, if_false, Nat.zero_le, Nat.add_sub_cancel, nI_m1, nI_dn, MR 6]
    rw [show 22 + 6 * k + 4 = 26 + 6 * k by omega, show 22 + 6 * k + 5 = 27 + 6 * k by omega, show 22 + 6 * k + 1 = 23 + 6 * k by omega, r2, r5, r6]
    by_cases hc : R (26 + 6 * k) ≤ y ∧ y ≤ R (27 + 6 * k)
    · rw [m_within_t hc.1 hc.2 (by omega)]
      rw [if_pos ⟨by omega, hc.1, hc.2⟩] at ih
      simp (disch := omega) only [litI, jb_eq, inb_nI, nI_clamp, nI_add, pk_sub, pk_mul, nI_and, nI_or, and31, sh1, nI_dif, nI_bit, nI_shr, nI_eq, nI_ltI, nI_leI, nI_eq_neg, neg_eq_nI, neg_eq_neg, neg_lt_nI, nI_lt_neg, neg_le_nI, nI_le_neg, cv_eq2, nI_tn0, nI_tn1, Option.bind_some, if_pos, if_neg, Nat.not_lt_zero, eq_self, if_true, if_false, Nat.zero_le, Nat.add_sub_cancel, nI_m1, nI_dn]
      rw [outer]
      exact ih
    · rw [m_within_n hc (by omega) (by omega) (by omega)]
      rw [if_neg (fun z => hc z.2)] at ih
      simp (disch := omega) only [litI, jb_eq, inb_nI, nI_clamp, nI_add, pk_sub, pk_mul, nI_and, nI_or, and31, sh1, nI_dif, nI_bit, nI_shr, nI_eq, nI_ltI, nI_leI, nI_eq_neg, neg_eq_nI, neg_eq_neg, neg_lt_nI, nI_lt_neg, neg_le_nI, nI_le_neg, cv_eq2, nI_tn0, nI_tn1, Option.bind_some, if_pos, if_neg, Nat.not_lt_zero, eq_self, if_true, if_false, Nat.zero_le, Nat.add_sub_cancel, nI_m1, nI_dn]
      exact ih
end M
