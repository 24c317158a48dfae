/-! ===== pure: what is told of both: r, the works, as naturals ===== -/
theorem nI_m1 : nI 0 - nI 1 = -nI 1 := by decide
theorem nI_dn (k : Nat) : nI k + -nI 1 = nI k - nI 1 := (Int32.sub_eq_add_neg _ _).symm
def nC (R : Nat → Nat) : Nat := R 0 * R 1
def pt (S : Nat → Nat) (w c : Nat) : Nat := S (4 + 26 * w + c)
def yr (S : Nat → Nat) (w : Nat) : Nat := S (3 + 26 * w)
def hd (S : Nat → Nat) (w : Nat) : Nat := S (2 + 26 * w)
/-- is the cell i in the rectangle -/
def inr (wi x0 y0 x1 y1 i : Nat) : Bool := decide (x0 ≤ i % wi ∧ i % wi ≤ x1 ∧ y0 ≤ i / wi ∧ i / wi ≤ y1)
def rcm (R : Nat → Nat) (k : Nat) : Nat := bM (inr (R 0) (R (22 + 6 * k)) (R (23 + 6 * k)) (R (24 + 6 * k)) (R (25 + 6 * k))) (nC R)
def BkI (R : Nat → Nat) : Prop :=
  (R 0 = 0 ∧ R 1 = 0 ∧ R 2 = 0 ∧ R 3 = 0 ∧ R 4 = 0 ∧ R 5 = 0 ∧ R 6 = 0 ∨ 1 ≤ R 0 ∧ R 0 ≤ 6 ∧ 1 ≤ R 1 ∧ R 1 ≤ 4 ∧ R 2 ≤ nC R ∧ R 3 ≤ 9 ∧ R 4 ≤ 5 ∧ R 5 ≤ 5 ∧ R 6 ≤ 4)
  ∧ (∀ c, c < R 4 → R (7 + c) ≤ 9 ∧ R (12 + c) ≤ 999 ∧ R (17 + c) ≤ 999)
  ∧ (∀ k, k < R 6 → R (22 + 6 * k) ≤ R (24 + 6 * k) ∧ R (24 + 6 * k) < R 0 ∧ R (23 + 6 * k) ≤ R (25 + 6 * k) ∧ R (25 + 6 * k) < R 1 ∧ R (26 + 6 * k) ≤ 1001 ∧ R (27 + 6 * k) ≤ 999)
  ∧ (∀ c, c < 24 → R (46 + c) ≤ R 4 ∧ (nC R ≤ c → R (46 + c) = 0))
def WkI (R S : Nat → Nat) : Prop :=
  S 0 + S 1 ≤ 12 ∧ S 1 ≤ 1 ∧ (R 0 = 0 → S 0 = 0 ∧ S 1 = 0) ∧ ∀ w, w < S 0 + S 1 → hd S w ≤ 4 ∧ yr S w ≤ 999 ∧ ∀ c, c < 24 → pt S w c ≤ R 4 ∧ (nC R ≤ c → pt S w c = 0)
def BkC (h : AH) (b : Nat) (R : Nat → Nat) : Prop :=
  (gI h 3 b 0 = nI (R 0) ∧ gI h 3 b 1 = nI (R 1) ∧ gI h 3 b 2 = nI (R 2) ∧ gI h 3 b 3 = nI (R 3) ∧ gI h 3 b 4 = nI (R 4) ∧ gI h 3 b 5 = nI (R 5) ∧ gI h 3 b 6 = nI (R 6))
  ∧ (∀ c, c < R 4 → gI h 5 b c = nI (R (7 + c)) ∧ gI h 6 b c = nI (R (12 + c)) ∧ gI h 7 b c = nI (R (17 + c)))
  ∧ (∀ k, k < R 6 → gI h 9 b k = nI (rcm R k) ∧ gI h 10 b k = nI (R (26 + 6 * k)) ∧ gI h 11 b k = nI (R (27 + 6 * k)))
  ∧ (∀ c, c < nC R → gI h 12 b c = cv (R (46 + c)))
def WkC (h : AH) (w : Nat) (S : Nat → Nat) : Prop :=
  gI h 13 w 0 = nI (S 0) ∧ gI h 13 w 1 = nI (S 1) ∧ ∀ r, r < S 0 + S 1 → gI h 14 w r = nI (hd S r) ∧ gI h 15 w r = nI (yr S r) ∧ ∀ c, c < 24 → gI h 16 w (r * 24 + c) = cv (pt S r c)
theorem nC_le {R : Nat → Nat} (I : BkI R) : nC R ≤ 24 := by
  unfold nC
  rcases I.1 with h | h
  · rw [h.1]; omega
  · exact Nat.le_trans (Nat.mul_le_mul h.2.1 h.2.2.2.1) (by omega)
theorem Rsm {R : Nat → Nat} (I : BkI R) : R 0 ≤ 6 ∧ R 1 ≤ 4 ∧ R 2 ≤ 24 ∧ R 3 ≤ 9 ∧ R 4 ≤ 5 ∧ R 5 ≤ 5 ∧ R 6 ≤ 4 ∧ nC R ≤ 24 := by
  have := nC_le I
  rcases I.1 with h | h <;> omega
theorem nC_pos {R : Nat → Nat} (I : BkI R) (h0 : R 0 ≠ 0) : 1 ≤ nC R ∧ 1 ≤ R 1 := by
  rcases I.1 with h | h
  · omega
  · exact ⟨Nat.mul_pos (by omega) (by omega), by omega⟩
/-! ===== the class's leaves ===== -/
section Bk
variable {h : AH} {b : Nat} {R : Nat → Nat}
theorem c_cells (B : BkC h b R) : jB_cells h b = some (nI (nC R)) := by
  unfold jB_cells
  rw [B.1.1, B.1.2.1, pk_mul]
  rfl
theorem two_lt {n : Nat} (h : n ≤ 24) : 2 ^ n ≤ 2 ^ 24 := Nat.pow_le_pow_right (by decide) h
theorem c_allCells (B : BkC h b R) (I : BkI R) : jB_allCells h b = some (nI (2 ^ nC R - 1)) := by
  have h2 := nC_le I
  have h3 := Nat.two_pow_pos (nC R)
  unfold jB_allCells
  simp (disch := omega) only [litI, jb_eq, inb_nI, nI_clamp, nI_add, pk_sub, pk_mul, nI_and, nI_or, and31, sh1, nI_dif, nI_bit, nI_shr, nI_eq, nI_ltI, nI_leI, nI_eq_neg, neg_eq_nI, neg_eq_neg, neg_lt_nI, nI_lt_neg, neg_le_nI, nI_le_neg, cv_eq2, nI_tn0, nI_tn1, Option.bind_some, if_pos, if_neg, Nat.not_lt_zero, eq_self, if_true, if_false, Nat.zero_le, Nat.add_sub_cancel, nI_m1, nI_dn, c_cells B]
theorem c_cellAt (B : BkC h b R) (x y : Nat) : jB_cellAt h b (nI x) (nI y) = some (nI (R 0 * y + x)) := by
  unfold jB_cellAt
  simp (disch := omega) only [litI, jb_eq, inb_nI, nI_clamp, nI_add, pk_sub, pk_mul, nI_and, nI_or, and31, sh1, nI_dif, nI_bit, nI_shr, nI_eq, nI_ltI, nI_leI, nI_eq_neg, neg_eq_nI, neg_eq_neg, neg_lt_nI, nI_lt_neg, neg_le_nI, nI_le_neg, cv_eq2, nI_tn0, nI_tn1, Option.bind_some, if_pos, if_neg, Nat.not_lt_zero, eq_self, if_true, if_false, Nat.zero_le, Nat.add_sub_cancel, nI_m1, nI_dn, B.1.1]
theorem c_hasCell_t (B : BkC h b R) (I : BkI R) {x y : Nat} (hx : x < R 0) (hy : y < R 1) : jB_hasCell h b (nI x) (nI y) = some (nI 1) := by
  have hR := Rsm I
  unfold jB_hasCell
  simp (disch := omega) only [litI, jb_eq, inb_nI, nI_clamp, nI_add, pk_sub, pk_mul, nI_and, nI_or, and31, sh1, nI_dif, nI_bit, nI_shr, nI_eq, nI_ltI, nI_leI, nI_eq_neg, neg_eq_nI, neg_eq_neg, neg_lt_nI, nI_lt_neg, neg_le_nI, nI_le_neg, cv_eq2, nI_tn0, nI_tn1, Option.bind_some, if_pos, if_neg, Nat.not_lt_zero, eq_self, if_true, if_false, Nat.zero_le, Nat.add_sub_cancel, nI_m1, nI_dn, B.1.1, B.1.2.1]
def inN (v : Int32) (n : Nat) : Prop := ∃ x, x < n ∧ v = nI x
theorem inN_or (v : Int32) {n : Nat} (hn : n < 2 ^ 31) : inN v n ∨ v < nI 0 ∨ ¬ v < nI n := by
  rcases pk_ix v hn with h | h | ⟨j, hj, e⟩
  · exact Or.inr (Or.inl h)
  · exact Or.inr (Or.inr (Int32.not_lt.mpr h))
  · exact Or.inl ⟨j, hj, e⟩
theorem range_f {v : Int32} {n : Nat} (hn : n < 2 ^ 31) (h : ¬ inN v n) : (if v < nI 0 then some (nI 0) else if v < nI n then some (nI 1) else some (nI 0)) = some (nI 0) := by
  rcases inN_or v hn with h1 | h1 | h1
  · exact absurd h1 h
  · rw [if_pos h1]
  · rw [if_neg h1]; split <;> rfl
theorem c_hasCell_f (B : BkC h b R) (I : BkI R) {v1 v2 : Int32} (hn : ¬ (inN v1 (R 0) ∧ inN v2 (R 1))) : jB_hasCell h b v1 v2 = some (nI 0) := by
  have hR := Rsm I
  unfold jB_hasCell
  simp only [litI, B.1.1, B.1.2.1]
  rcases inN_or v1 (n := R 0) (by omega) with h1 | h1 | h1
  · rcases inN_or v2 (n := R 1) (by omega) with h2 | h2 | h2
    · exact absurd ⟨h1, h2⟩ hn
    · obtain ⟨x, hx, rfl⟩ := h1
      simp (disch := omega) only [litI, jb_eq, inb_nI, nI_clamp, nI_add, pk_sub, pk_mul, nI_and, nI_or, and31, sh1, nI_dif, nI_bit, nI_shr, nI_eq, nI_ltI, nI_leI, nI_eq_neg, neg_eq_nI, neg_eq_neg, neg_lt_nI, nI_lt_neg, neg_le_nI, nI_le_neg, cv_eq2, nI_tn0, nI_tn1, Option.bind_some, if_pos, if_neg, Nat.not_lt_zero, eq_self, if_true, if_false, Nat.zero_le, Nat.add_sub_cancel, nI_m1, nI_dn, h2]
    · obtain ⟨x, hx, rfl⟩ := h1
      simp (disch := omega) only [litI, jb_eq, inb_nI, nI_clamp, nI_add, pk_sub, pk_mul, nI_and, nI_or, and31, sh1, nI_dif, nI_bit, nI_shr, nI_eq, nI_ltI, nI_leI, nI_eq_neg, neg_eq_nI, neg_eq_neg, neg_lt_nI, nI_lt_neg, neg_le_nI, nI_le_neg, cv_eq2, nI_tn0, nI_tn1, Option.bind_some, if_pos, if_neg, Nat.not_lt_zero, eq_self, if_true, if_false, Nat.zero_le, Nat.add_sub_cancel, nI_m1, nI_dn, h2]
      split <;> rfl
  · rw [if_pos h1]
  · rw [if_neg h1]; split <;> rfl
theorem c_hasColour_t (B : BkC h b R) (I : BkI R) {c : Nat} (hc : c < R 4) : jB_hasColour h b (nI c) = some (nI 1) := by
  have hR := Rsm I
  unfold jB_hasColour
  simp (disch := omega) only [litI, jb_eq, inb_nI, nI_clamp, nI_add, pk_sub, pk_mul, nI_and, nI_or, and31, sh1, nI_dif, nI_bit, nI_shr, nI_eq, nI_ltI, nI_leI, nI_eq_neg, neg_eq_nI, neg_eq_neg, neg_lt_nI, nI_lt_neg, neg_le_nI, nI_le_neg, cv_eq2, nI_tn0, nI_tn1, Option.bind_some, if_pos, if_neg, Nat.not_lt_zero, eq_self, if_true, if_false, Nat.zero_le, Nat.add_sub_cancel, nI_m1, nI_dn, B.1.2.2.2.2.1]
theorem c_hasColour_f (B : BkC h b R) (I : BkI R) {v : Int32} (hc : ¬ inN v (R 4)) : jB_hasColour h b v = some (nI 0) := by
  have hR := Rsm I
  unfold jB_hasColour
  simp only [litI, B.1.2.2.2.2.1]
  exact range_f (by omega) hc
theorem c_hasHand_t (B : BkC h b R) (I : BkI R) {c : Nat} (hc : c < R 5) : jB_hasHand h b (nI c) = some (nI 1) := by
  have hR := Rsm I
  unfold jB_hasHand
  simp (disch := omega) only [litI, jb_eq, inb_nI, nI_clamp, nI_add, pk_sub, pk_mul, nI_and, nI_or, and31, sh1, nI_dif, nI_bit, nI_shr, nI_eq, nI_ltI, nI_leI, nI_eq_neg, neg_eq_nI, neg_eq_neg, neg_lt_nI, nI_lt_neg, neg_le_nI, nI_le_neg, cv_eq2, nI_tn0, nI_tn1, Option.bind_some, if_pos, if_neg, Nat.not_lt_zero, eq_self, if_true, if_false, Nat.zero_le, Nat.add_sub_cancel, nI_m1, nI_dn, B.1.2.2.2.2.2.1]
theorem c_hasHand_f (B : BkC h b R) (I : BkI R) {v : Int32} (hc : ¬ inN v (R 5)) : jB_hasHand h b v = some (nI 0) := by
  have hR := Rsm I
  unfold jB_hasHand
  simp only [litI, B.1.2.2.2.2.2.1]
  exact range_f (by omega) hc
theorem cv2_not (n : Nat) : ¬ inN (-nI 2) n ∨ 2 ^ 31 - 1 ≤ n := by
  by_cases hn : 2 ^ 31 - 1 ≤ n
  · exact Or.inr hn
  · refine Or.inl ?_
    rintro ⟨x, hx, e⟩
    exact (neg_eq_nI (a := x) (b := 2) (by omega) (by omega) (by omega)).mp e
theorem c_isTold (B : BkC h b R) (I : BkI R) : jB_isTold h b = some (nI (if R 0 = 0 then 0 else 1)) := by
  have hR := Rsm I
  unfold jB_isTold
  rw [B.1.1]
  by_cases h0 : R 0 = 0
  · rw [h0]; rfl
  · simp (disch := omega) only [litI, jb_eq, inb_nI, nI_clamp, nI_add, pk_sub, pk_mul, nI_and, nI_or, and31, sh1, nI_dif, nI_bit, nI_shr, nI_eq, nI_ltI, nI_leI, nI_eq_neg, neg_eq_nI, neg_eq_neg, neg_lt_nI, nI_lt_neg, neg_le_nI, nI_le_neg, cv_eq2, nI_tn0, nI_tn1, Option.bind_some, if_pos, if_neg, Nat.not_lt_zero, eq_self, if_true, if_false, Nat.zero_le, Nat.add_sub_cancel, nI_m1, nI_dn]
theorem c_thickOf (B : BkC h b R) (I : BkI R) {m : Nat} (hm : m ≤ R 4) : jB_thickOf h b (cv m) = some (nI (if m = 0 then 0 else R (6 + m))) := by
  have hR := Rsm I
  unfold jB_thickOf
  by_cases h0 : m = 0
  · subst h0
    rw [cv_0, c_hasColour_f B I ((cv2_not _).resolve_right (by omega))]
    rfl
  · obtain ⟨c, rfl⟩ : ∃ c, m = c + 1 := ⟨m - 1, by omega⟩
    rw [cv_s, c_hasColour_t B I (by omega)]
    simp (disch := omega) only [litI, jb_eq, inb_nI, nI_clamp, nI_add, pk_sub, pk_mul, nI_and, nI_or, and31, sh1, nI_dif, nI_bit, nI_shr, nI_eq, nI_ltI, nI_leI, nI_eq_neg, neg_eq_nI, neg_eq_neg, neg_lt_nI, nI_lt_neg, neg_le_nI, nI_le_neg, cv_eq2, nI_tn0, nI_tn1, Option.bind_some, if_pos, if_neg, Nat.not_lt_zero, eq_self, if_true, if_false, Nat.zero_le, Nat.add_sub_cancel, nI_m1, nI_dn, (B.2.1 c (by omega)).1]
    rw [show 6 + (c + 1) = 7 + c by omega]
theorem c_isFaded (B : BkC h b R) (I : BkI R) {c a : Nat} (hc : c < R 4) (ha : a < 2 ^ 31) : jB_isFaded h b (nI c) (nI a) = some (nI (if R (12 + c) = 0 ∨ a < R (12 + c) then 0 else 1)) := by
  have hR := Rsm I
  have h1 := (I.2.1 c hc)
  unfold jB_isFaded
  rw [c_hasColour_t B I hc]
  simp (disch := omega) only [litI, jb_eq, inb_nI, nI_clamp, nI_add, pk_sub, pk_mul, nI_and, nI_or, and31, sh1, nI_dif, nI_bit, nI_shr, nI_eq, nI_ltI, nI_leI, nI_eq_neg, neg_eq_nI, neg_eq_neg, neg_lt_nI, nI_lt_neg, neg_le_nI, nI_le_neg, cv_eq2, nI_tn0, nI_tn1, Option.bind_some, if_pos, if_neg, Nat.not_lt_zero, eq_self, if_true, if_false, Nat.zero_le, Nat.add_sub_cancel, nI_m1, nI_dn, (B.2.1 c hc).2.1]
  by_cases h0 : R (12 + c) = 0
  · simp only [h0, true_or, if_true]
  · by_cases h2 : a < R (12 + c)
    · simp only [h0, h2, or_true, if_true, if_false]
    · simp only [h0, h2, or_self, if_false]
theorem c_hadComeUp (B : BkC h b R) (I : BkI R) {m y : Nat} (hm : m ≤ R 4) (hy : y < 2 ^ 31) : jB_hadComeUp h b (cv m) (nI y) = some (nI (if m ≠ 0 ∧ R (16 + m) ≤ y then 1 else 0)) := by
  have hR := Rsm I
  unfold jB_hadComeUp
  by_cases h0 : m = 0
  · subst h0
    rw [cv_0, c_hasColour_f B I ((cv2_not _).resolve_right (by omega))]
    rfl
  · obtain ⟨c, rfl⟩ : ∃ c, m = c + 1 := ⟨m - 1, by omega⟩
    have h1 := (I.2.1 c (by omega))
    rw [cv_s, c_hasColour_t B I (by omega)]
    simp (disch := omega) only [litI, jb_eq, inb_nI, nI_clamp, nI_add, pk_sub, pk_mul, nI_and, nI_or, and31, sh1, nI_dif, nI_bit, nI_shr, nI_eq, nI_ltI, nI_leI, nI_eq_neg, neg_eq_nI, neg_eq_neg, neg_lt_nI, nI_lt_neg, neg_le_nI, nI_le_neg, cv_eq2, nI_tn0, nI_tn1, Option.bind_some, if_pos, if_neg, Nat.not_lt_zero, eq_self, if_true, if_false, Nat.zero_le, Nat.add_sub_cancel, nI_m1, nI_dn, (B.2.1 c (by omega)).2.2]
    rw [show 16 + (c + 1) = 17 + c by omega]
    by_cases h2 : R (17 + c) ≤ y
    · simp [h2]
    · simp [h2]
theorem c_wantedAt (B : BkC h b R) (I : BkI R) {c : Nat} (hc : c < nC R) : jB_wantedAt h b (nI c) = some (cv (R (46 + c))) := by
  have hR := Rsm I
  unfold jB_wantedAt
  simp (disch := omega) only [litI, jb_eq, inb_nI, nI_clamp, nI_add, pk_sub, pk_mul, nI_and, nI_or, and31, sh1, nI_dif, nI_bit, nI_shr, nI_eq, nI_ltI, nI_leI, nI_eq_neg, neg_eq_nI, neg_eq_neg, neg_lt_nI, nI_lt_neg, neg_le_nI, nI_le_neg, cv_eq2, nI_tn0, nI_tn1, Option.bind_some, if_pos, if_neg, Nat.not_lt_zero, eq_self, if_true, if_false, Nat.zero_le, Nat.add_sub_cancel, nI_m1, nI_dn, c_cells B, B.2.2.2 c hc]
end Bk
section Wk
variable {h : AH} {w : Nat} {S R : Nat → Nat}
theorem c_colourAt (W : WkC h w S) (WI : WkI R S) {r c : Nat} (hr : r < S 0 + S 1) (hc : c < 24) : jW_colourAt h w (nI r) (nI c) = some (cv (pt S r c)) := by
  have h1 := WI.1
  unfold jW_colourAt jW_colourAt_25
  simp (disch := omega) only [litI, jb_eq, inb_nI, nI_clamp, nI_add, pk_sub, pk_mul, nI_and, nI_or, and31, sh1, nI_dif, nI_bit, nI_shr, nI_eq, nI_ltI, nI_leI, nI_eq_neg, neg_eq_nI, neg_eq_neg, neg_lt_nI, nI_lt_neg, neg_le_nI, nI_le_neg, cv_eq2, nI_tn0, nI_tn1, Option.bind_some, if_pos, if_neg, Nat.not_lt_zero, eq_self, if_true, if_false, Nat.zero_le, Nat.add_sub_cancel, nI_m1, nI_dn, (W.2.2 r hr).2.2 c hc]
theorem c_yearOf (W : WkC h w S) (WI : WkI R S) {r : Nat} (hr : r < S 0 + S 1) : jW_yearOf h w (nI r) = some (nI (yr S r)) := by
  have h1 := WI.1
  unfold jW_yearOf jW_isRow
  simp (disch := omega) only [litI, jb_eq, inb_nI, nI_clamp, nI_add, pk_sub, pk_mul, nI_and, nI_or, and31, sh1, nI_dif, nI_bit, nI_shr, nI_eq, nI_ltI, nI_leI, nI_eq_neg, neg_eq_nI, neg_eq_neg, neg_lt_nI, nI_lt_neg, neg_le_nI, nI_le_neg, cv_eq2, nI_tn0, nI_tn1, Option.bind_some, if_pos, if_neg, Nat.not_lt_zero, eq_self, if_true, if_false, Nat.zero_le, Nat.add_sub_cancel, nI_m1, nI_dn, (W.2.2 r hr).2.1]
theorem c_handOf (W : WkC h w S) (WI : WkI R S) {r : Nat} (hr : r < S 0 + S 1) : jW_handOf h w (nI r) = some (nI (hd S r)) := by
  have h1 := WI.1
  unfold jW_handOf jW_isRow
  simp (disch := omega) only [litI, jb_eq, inb_nI, nI_clamp, nI_add, pk_sub, pk_mul, nI_and, nI_or, and31, sh1, nI_dif, nI_bit, nI_shr, nI_eq, nI_ltI, nI_leI, nI_eq_neg, neg_eq_nI, neg_eq_neg, neg_lt_nI, nI_lt_neg, neg_le_nI, nI_le_neg, cv_eq2, nI_tn0, nI_tn1, Option.bind_some, if_pos, if_neg, Nat.not_lt_zero, eq_self, if_true, if_false, Nat.zero_le, Nat.add_sub_cancel, nI_m1, nI_dn, (W.2.2 r hr).1]
def cel (S : Nat → Nat) (r : Nat) : Nat := bM (fun c => decide (pt S r c ≠ 0)) 24
theorem cel_lt (S : Nat → Nat) (r : Nat) : cel S r < 2 ^ 24 := bM_lt _ 24
theorem ptb (WI : WkI R S) (I : BkI R) {r c : Nat} (hr : r < S 0 + S 1) (hc : c < 24) : pt S r c ≤ 5 := by
  have h1 := Rsm I
  have h2 := ((WI.2.2.2 r hr).2.2 c hc).1
  omega
theorem c_cellsOf (W : WkC h w S) (WI : WkI R S) (I : BkI R) {r : Nat} (hr : r < S 0 + S 1) : jW_cellsOf h w (nI r) = some (nI (cel S r)) := by
  unfold jW_cellsOf cel
  refine up_ind (P := fun n k => jW_cellsOf_4 h w (nI r) n (nI (bM (fun c => decide (pt S r c ≠ 0)) k)) (nI k) = some (nI (bM (fun c => decide (pt S r c ≠ 0)) 24))) 24 (fun n => ?_) (fun n k hk ih => ?_) 24 0 FU rfl (by decide)
  · rw [jW_cellsOf_4]
    simp (disch := omega) only [litI, jb_eq, inb_nI, nI_clamp, nI_add, pk_sub, pk_mul, nI_and, nI_or, and31, sh1, nI_dif, nI_bit, nI_shr, nI_eq, nI_ltI, nI_leI, nI_eq_neg, neg_eq_nI, neg_eq_neg, neg_lt_nI, nI_lt_neg, neg_le_nI, nI_le_neg, cv_eq2, nI_tn0, nI_tn1, Option.bind_some, if_pos, if_neg, Nat.not_lt_zero, eq_self, if_true, if_false, Nat.zero_le, Nat.add_sub_cancel, nI_m1, nI_dn]
  · have hp := ptb WI I hr hk
    rw [jW_cellsOf_4]
    simp (disch := omega) only [litI, jb_eq, inb_nI, nI_clamp, nI_add, pk_sub, pk_mul, nI_and, nI_or, and31, sh1, nI_dif, nI_bit, nI_shr, nI_eq, nI_ltI, nI_leI, nI_eq_neg, neg_eq_nI, neg_eq_neg, neg_lt_nI, nI_lt_neg, neg_le_nI, nI_le_neg, cv_eq2, nI_tn0, nI_tn1, Option.bind_some, if_pos, if_neg, Nat.not_lt_zero, eq_self, if_true, if_false, Nat.zero_le, Nat.add_sub_cancel, nI_m1, nI_dn, c_colourAt W WI hr hk]
    by_cases h0 : pt S r k = 0
    · rw [if_pos h0]
      rw [bM_f (by simp [h0])] at ih
      exact ih
    · rw [if_neg h0]
      rw [bM_t (by simp [h0])] at ih
      exact ih
/-- of n works the one so many below the latest: 0 none, else one more than its number -/
def und (S : Nat → Nat) (c : Nat) : Nat → Nat → Nat
  | 0, _ => 0
  | n + 1, d => if pt S n c = 0 then und S c n d else if d = 0 then n + 1 else und S c n (d - 1)
theorem und_le (S : Nat → Nat) (c : Nat) : ∀ n d, und S c n d ≤ n := by
  intro n
  induction n with
  | zero => intro d; exact Nat.le_refl 0
  | succ n ih =>
    intro d
    unfold und
    split
    · exact Nat.le_trans (ih d) (by omega)
    · split
      · omega
      · exact Nat.le_trans (ih _) (by omega)
theorem und_pt {S : Nat → Nat} {c : Nat} : ∀ {n d w}, und S c n d = w + 1 → pt S w c ≠ 0 := by
  intro n
  induction n with
  | zero => intro d w z; cases z
  | succ n ih =>
    intro d w z
    unfold und at z
    split at z
    · exact ih z
    · split at z
      · rename_i h1 h2
        obtain rfl : n = w := by omega
        exact h1
      · exact ih z
theorem c_below (W : WkC h w S) (WI : WkI R S) (I : BkI R) {c d : Nat} (hc : c < 24) (hd : d < 2 ^ 31) : jW_below h w (nI c) (nI d) = some (cv (und S c (S 0) d)) := by
  have h1 := WI.1
  unfold jW_below
  rw [W.1]
  have key := dn_ind (P := fun n k => k ≤ S 0 → ∀ a, a ≤ d → jW_below_10 h w (nI c) (nI d) n (nI a) (nI k - nI 1) = some (cv (und S c k (d - a)))) (fun n _ a ha => ?_) (fun n k ih hk a ha => ?_)
  · exact key (S 0) FU (FU_lt (by omega)) (Nat.le_refl _) 0 (Nat.zero_le _)
  · rw [jW_below_10]
    simp (disch := omega) only [litI, jb_eq, inb_nI, nI_clamp, nI_add, pk_sub, pk_mul, nI_and, nI_or, and31, sh1, nI_dif, nI_bit, nI_shr, nI_eq, nI_ltI, nI_leI, nI_eq_neg, neg_eq_nI, neg_eq_neg, neg_lt_nI, nI_lt_neg, neg_le_nI, nI_le_neg, cv_eq2, nI_tn0, nI_tn1, Option.bind_some, if_pos, if_neg, Nat.not_lt_zero, eq_self, if_true, if_false, Nat.zero_le, Nat.add_sub_cancel, nI_m1, nI_dn]
    rfl
  · have hp := ptb WI I (r := k) (c := c) (by omega) hc
    rw [jW_below_10]
    simp (disch := omega) only [litI, jb_eq, inb_nI, nI_clamp, nI_add, pk_sub, pk_mul, nI_and, nI_or, and31, sh1, nI_dif, nI_bit, nI_shr, nI_eq, nI_ltI, nI_leI, nI_eq_neg, neg_eq_nI, neg_eq_neg, neg_lt_nI, nI_lt_neg, neg_le_nI, nI_le_neg, cv_eq2, nI_tn0, nI_tn1, Option.bind_some, if_pos, if_neg, Nat.not_lt_zero, eq_self, if_true, if_false, Nat.zero_le, Nat.add_sub_cancel, nI_m1, nI_dn, c_colourAt W WI (r := k) (by omega) hc]
    unfold und
    by_cases h0 : pt S k c = 0
    · rw [if_pos h0, if_pos h0]
      exact ih (by omega) a ha
    · rw [if_neg h0, if_neg h0]
      by_cases h2 : a = d
      · rw [if_pos h2, if_pos (by omega)]
        rfl
      · rw [if_neg h2, if_neg (by omega), ih (by omega) (a + 1) (by omega), show d - a - 1 = d - (a + 1) by omega]
end Wk
