/-! ===== pure: what the class reads ===== -/
def shn (S : Nat → Nat) (c : Nat) : Nat := if und S c (S 0) 0 = 0 then 0 else pt S (und S c (S 0) 0 - 1) c
def lyr (S : Nat → Nat) (c : Nat) : Nat → Nat
  | 0 => 0
  | k + 1 => if pt S k c = 0 then lyr S c k else lyr S c k + 1
theorem lyr_le (S : Nat → Nat) (c k : Nat) : lyr S c k ≤ k := by
  induction k with
  | zero => exact Nat.le_refl 0
  | succ k ih => unfold lyr; split <;> omega
/-- the cells by which w shows, of the first k works -/
def shw (S : Nat → Nat) (w k : Nat) : Nat := bM (fun c => decide (und S c k 0 = w + 1)) 24
theorem shw_lt (S : Nat → Nat) (w k : Nat) : shw S w k < 2 ^ 24 := bM_lt _ 24
theorem shw_0 (S : Nat → Nat) (w : Nat) : shw S w (w + 1) = cel S w := by
  refine bM_ext (fun c _ => ?_)
  have := und_le S c w 0
  unfold und
  by_cases h : pt S w c = 0
  · rw [if_pos h]; simp [h]; omega
  · rw [if_neg h, if_pos rfl]; simp [h]
theorem shw_s (S : Nat → Nat) {w k : Nat} (hk : w < k) : shw S w (k + 1) = bD (shw S w k) (cel S k) := by
  apply Nat.eq_of_testBit_eq
  intro c
  unfold shw cel
  rw [bD_tb, bM_tb, bM_tb, bM_tb]
  by_cases hc : c < 24
  · simp only [hc, decide_true, Bool.true_and]
    rw [und]
    by_cases h : pt S k c = 0
    · rw [if_pos h]; simp [h]
    · rw [if_neg h, if_pos rfl]; simp [h]; omega
  · simp [hc]
def ltr (S : Nat → Nat) (y : Nat) : Nat → Nat
  | 0 => 0
  | k + 1 => if yr S k ≤ y then ltr S y k else ltr S y k ||| cel S k
theorem ltr_lt (S : Nat → Nat) (y k : Nat) : ltr S y k < 2 ^ 24 := by
  induction k with
  | zero => exact Nat.two_pow_pos 24
  | succ k ih =>
    unfold ltr
    split
    · exact ih
    · exact Nat.or_lt_two_pow ih (cel_lt S k)
/-- what a cell shows in a year, by the first n works -/
def cin (R S : Nat → Nat) (c y : Nat) : Nat → Nat
  | 0 => 0
  | n + 1 => if pt S n c = 0 then cin R S c y n else if y < yr S n then cin R S c y n else if R (11 + pt S n c) = 0 ∨ y - yr S n < R (11 + pt S n c) then pt S n c else cin R S c y n
def fcy (f : Nat → Nat) (first : Nat) : Nat → Nat → Nat
  | 0, _ => 0
  | d + 1, y => if f y = first then fcy f first d (y + 1) else y + 1
def rlf (R S : Nat → Nat) (c : Nat) : Nat → Nat
  | 0 => 0
  | n + 1 => rlf R S c n + (if pt S n c = 0 then 0 else R (6 + pt S n c))
def cnt (p : Nat → Bool) : Nat → Nat
  | 0 => 0
  | n + 1 => cnt p n + (p n).toNat
theorem cnt_le (p : Nat → Bool) (n : Nat) : cnt p n ≤ n := by
  induction n with
  | zero => exact Nat.le_refl 0
  | succ n ih => unfold cnt; cases p n <;> simp <;> omega
section Wk
variable {h : AH} {w : Nat} {S R : Nat → Nat}
theorem c_colourAt_m (x : Nat) : jW_colourAt h w (-nI 2) (nI x) = some (-nI 2) := by
  unfold jW_colourAt jW_colourAt_24 jW_colourAt_25
  simp (disch := omega) only [litI, jb_eq, inb_nI, nI_clamp, nI_add, pk_sub, pk_mul, nI_and, nI_or, and31, sh1, nI_dif, nI_bit, nI_shr, nI_eq, nI_ltI, nI_leI, nI_eq_neg, neg_eq_nI, neg_eq_neg, neg_lt_nI, nI_lt_neg, neg_le_nI, nI_le_neg, cv_eq2, nI_tn0, nI_tn1, Option.bind_some, if_pos, if_neg, Nat.not_lt_zero, eq_self, if_true, if_false, Nat.zero_le, Nat.add_sub_cancel, nI_m1, nI_dn]
theorem c_handOf_m : jW_handOf h w (-nI 2) = some (-nI 2) := by
  unfold jW_handOf jW_isRow
  simp (disch := omega) only [litI, jb_eq, inb_nI, nI_clamp, nI_add, pk_sub, pk_mul, nI_and, nI_or, and31, sh1, nI_dif, nI_bit, nI_shr, nI_eq, nI_ltI, nI_leI, nI_eq_neg, neg_eq_nI, neg_eq_neg, neg_lt_nI, nI_lt_neg, neg_le_nI, nI_le_neg, cv_eq2, nI_tn0, nI_tn1, Option.bind_some, if_pos, if_neg, Nat.not_lt_zero, eq_self, if_true, if_false, Nat.zero_le, Nat.add_sub_cancel, nI_m1, nI_dn]
theorem c_shownAt (W : WkC h w S) (WI : WkI R S) (I : BkI R) {c : Nat} (hc : c < 24) : jW_shownAt h w (nI c) = some (cv (shn S c)) := by
  unfold jW_shownAt shn
  simp only [litI]
  rw [c_below W WI I hc (by omega)]
  have hu := und_le S c (S 0) 0
  by_cases h0 : und S c (S 0) 0 = 0
  · rw [h0, cv_0]
    simp only [Option.bind_some, c_colourAt_m, if_true]
    rfl
  · rw [if_neg h0, cv_pos (by omega)]
    simp (disch := omega) only [Option.bind_some, c_colourAt W WI]
theorem c_shownHandAt (W : WkC h w S) (WI : WkI R S) (I : BkI R) {c : Nat} (hc : c < 24) : jW_shownHandAt h w (nI c) = some (if und S c (S 0) 0 = 0 then -nI 2 else nI (hd S (und S c (S 0) 0 - 1))) := by
  unfold jW_shownHandAt
  simp only [litI]
  rw [c_below W WI I hc (by omega)]
  have hu := und_le S c (S 0) 0
  by_cases h0 : und S c (S 0) 0 = 0
  · rw [h0, cv_0]
    simp only [Option.bind_some, c_handOf_m, if_true]
  · rw [if_neg h0, cv_pos (by omega)]
    simp (disch := omega) only [Option.bind_some, c_handOf W WI]
theorem c_has_t (W : WkC h w S) (WI : WkI R S) {r : Nat} (hr : r < S 0) : jW_has h w (nI r) = some (nI 1) := by
  have h1 := WI.1
  unfold jW_has
  simp (disch := omega) only [litI, jb_eq, inb_nI, nI_clamp, nI_add, pk_sub, pk_mul, nI_and, nI_or, and31, sh1, nI_dif, nI_bit, nI_shr, nI_eq, nI_ltI, nI_leI, nI_eq_neg, neg_eq_nI, neg_eq_neg, neg_lt_nI, nI_lt_neg, neg_le_nI, nI_le_neg, cv_eq2, nI_tn0, nI_tn1, Option.bind_some, if_pos, if_neg, Nat.not_lt_zero, eq_self, if_true, if_false, Nat.zero_le, Nat.add_sub_cancel, nI_m1, nI_dn, W.1]
theorem c_has_f (W : WkC h w S) (WI : WkI R S) {v : Int32} (hr : ¬ inN v (S 0)) : jW_has h w v = some (nI 0) := by
  have h1 := WI.1
  unfold jW_has
  simp only [litI, W.1]
  exact range_f (by omega) hr
theorem c_layersAt (W : WkC h w S) (WI : WkI R S) (I : BkI R) {c : Nat} (hc : c < 24) : jW_layersAt h w (nI c) = some (nI (lyr S c (S 0))) := by
  have h1 := WI.1
  unfold jW_layersAt
  refine up_ind (P := fun n k => jW_layersAt_4 h w (nI c) n (nI (lyr S c k)) (nI k) = some (nI (lyr S c (S 0)))) (S 0) (fun n => ?_) (fun n k hk ih => ?_) (S 0) 0 FU (by omega) (FU_lt (by omega))
  · rw [jW_layersAt_4]
    simp (disch := omega) only [litI, jb_eq, inb_nI, nI_clamp, nI_add, pk_sub, pk_mul, nI_and, nI_or, and31, sh1, nI_dif, nI_bit, nI_shr, nI_eq, nI_ltI, nI_leI, nI_eq_neg, neg_eq_nI, neg_eq_neg, neg_lt_nI, nI_lt_neg, neg_le_nI, nI_le_neg, cv_eq2, nI_tn0, nI_tn1, Option.bind_some, if_pos, if_neg, Nat.not_lt_zero, eq_self, if_true, if_false, Nat.zero_le, Nat.add_sub_cancel, nI_m1, nI_dn, W.1]
  · have hp := ptb WI I (r := k) (c := c) (by omega) hc
    rw [jW_layersAt_4]
    simp (disch := omega) only [litI, jb_eq, inb_nI, nI_clamp, nI_add, pk_sub, pk_mul, nI_and, nI_or, and31, sh1, nI_dif, nI_bit, nI_shr, nI_eq, nI_ltI, nI_leI, nI_eq_neg, neg_eq_nI, neg_eq_neg, neg_lt_nI, nI_lt_neg, neg_le_nI, nI_le_neg, cv_eq2, nI_tn0, nI_tn1, Option.bind_some, if_pos, if_neg, Nat.not_lt_zero, eq_self, if_true, if_false, Nat.zero_le, Nat.add_sub_cancel, nI_m1, nI_dn, W.1, c_colourAt W WI (r := k) (by omega) hc]
    rw [lyr] at ih
    by_cases h0 : pt S k c = 0
    · rw [if_pos h0]; rw [if_pos h0] at ih; exact ih
    · rw [if_neg h0]; rw [if_neg h0] at ih; exact ih
theorem c_shownCells (W : WkC h w S) (WI : WkI R S) (I : BkI R) {r : Nat} (hr : r < S 0) : jW_shownCells h w (nI r) = some (nI (shw S r (S 0))) := by
  have h1 := WI.1
  unfold jW_shownCells
  rw [c_cellsOf W WI I (by omega), ← shw_0]
  simp only [Option.bind_some, litI, nI_add]
  refine up_ind (P := fun n k => r < k → jW_shownCells_10 h w n (nI (shw S r k)) (nI k) = some (nI (shw S r (S 0)))) (S 0) (fun n _ => ?_) (fun n k hk ih hrk => ?_) (S 0 - (r + 1)) (r + 1) FU (by omega) (FU_lt (by omega)) (by omega)
  · rw [jW_shownCells_10]
    simp (disch := omega) only [litI, jb_eq, inb_nI, nI_clamp, nI_add, pk_sub, pk_mul, nI_and, nI_or, and31, sh1, nI_dif, nI_bit, nI_shr, nI_eq, nI_ltI, nI_leI, nI_eq_neg, neg_eq_nI, neg_eq_neg, neg_lt_nI, nI_lt_neg, neg_le_nI, nI_le_neg, cv_eq2, nI_tn0, nI_tn1, Option.bind_some, if_pos, if_neg, Nat.not_lt_zero, eq_self, if_true, if_false, Nat.zero_le, Nat.add_sub_cancel, nI_m1, nI_dn, W.1]
  · have ih := ih (by omega)
    rw [shw_s S hrk] at ih
    rw [jW_shownCells_10]
    simp (disch := omega) only [litI, jb_eq, inb_nI, nI_clamp, nI_add, pk_sub, pk_mul, nI_and, nI_or, and31, sh1, nI_dif, nI_bit, nI_shr, nI_eq, nI_ltI, nI_leI, nI_eq_neg, neg_eq_nI, neg_eq_neg, neg_lt_nI, nI_lt_neg, neg_le_nI, nI_le_neg, cv_eq2, nI_tn0, nI_tn1, Option.bind_some, if_pos, if_neg, Nat.not_lt_zero, eq_self, if_true, if_false, Nat.zero_le, Nat.add_sub_cancel, nI_m1, nI_dn, W.1, c_cellsOf W WI I (r := k) (by omega)]
    exact ih
theorem c_cellsLaterThan (W : WkC h w S) (WI : WkI R S) (I : BkI R) {y : Nat} (hy : y < 2 ^ 31) : jW_cellsLaterThan h w (nI y) = some (nI (ltr S y (S 0))) := by
  have h1 := WI.1
  unfold jW_cellsLaterThan
  refine up_ind (P := fun n k => jW_cellsLaterThan_4 h w (nI y) n (nI (ltr S y k)) (nI k) = some (nI (ltr S y (S 0)))) (S 0) (fun n => ?_) (fun n k hk ih => ?_) (S 0) 0 FU (by omega) (FU_lt (by omega))
  · rw [jW_cellsLaterThan_4]
    simp (disch := omega) only [litI, jb_eq, inb_nI, nI_clamp, nI_add, pk_sub, pk_mul, nI_and, nI_or, and31, sh1, nI_dif, nI_bit, nI_shr, nI_eq, nI_ltI, nI_leI, nI_eq_neg, neg_eq_nI, neg_eq_neg, neg_lt_nI, nI_lt_neg, neg_le_nI, nI_le_neg, cv_eq2, nI_tn0, nI_tn1, Option.bind_some, if_pos, if_neg, Nat.not_lt_zero, eq_self, if_true, if_false, Nat.zero_le, Nat.add_sub_cancel, nI_m1, nI_dn, W.1]
  · have hp := (WI.2.2.2 k (by omega)).2.1
    rw [jW_cellsLaterThan_4]
    simp (disch := omega) only [litI, jb_eq, inb_nI, nI_clamp, nI_add, pk_sub, pk_mul, nI_and, nI_or, and31, sh1, nI_dif, nI_bit, nI_shr, nI_eq, nI_ltI, nI_leI, nI_eq_neg, neg_eq_nI, neg_eq_neg, neg_lt_nI, nI_lt_neg, neg_le_nI, nI_le_neg, cv_eq2, nI_tn0, nI_tn1, Option.bind_some, if_pos, if_neg, Nat.not_lt_zero, eq_self, if_true, if_false, Nat.zero_le, Nat.add_sub_cancel, nI_m1, nI_dn, W.1, c_yearOf W WI (r := k) (by omega), c_cellsOf W WI I (r := k) (by omega)]
    rw [ltr] at ih
    by_cases h0 : yr S k ≤ y
    · rw [if_pos h0]; rw [if_pos h0] at ih; exact ih
    · rw [if_neg h0]; rw [if_neg h0] at ih; exact ih
theorem c_latestYear (W : WkC h w S) (WI : WkI R S) : jW_latestYear h w = some (nI (if S 0 = 0 then 0 else yr S (S 0 - 1))) := by
  have h1 := WI.1
  unfold jW_latestYear
  rw [W.1]
  by_cases h0 : S 0 = 0
  · rw [h0]
    unfold jW_yearOf jW_isRow
    simp (disch := omega) only [litI, jb_eq, inb_nI, nI_clamp, nI_add, pk_sub, pk_mul, nI_and, nI_or, and31, sh1, nI_dif, nI_bit, nI_shr, nI_eq, nI_ltI, nI_leI, nI_eq_neg, neg_eq_nI, neg_eq_neg, neg_lt_nI, nI_lt_neg, neg_le_nI, nI_le_neg, cv_eq2, nI_tn0, nI_tn1, Option.bind_some, if_pos, if_neg, Nat.not_lt_zero, eq_self, if_true, if_false, Nat.zero_le, Nat.add_sub_cancel, nI_m1, nI_dn]
  · simp (disch := omega) only [litI, jb_eq, inb_nI, nI_clamp, nI_add, pk_sub, pk_mul, nI_and, nI_or, and31, sh1, nI_dif, nI_bit, nI_shr, nI_eq, nI_ltI, nI_leI, nI_eq_neg, neg_eq_nI, neg_eq_neg, neg_lt_nI, nI_lt_neg, neg_le_nI, nI_le_neg, cv_eq2, nI_tn0, nI_tn1, Option.bind_some, if_pos, if_neg, Nat.not_lt_zero, eq_self, if_true, if_false, Nat.zero_le, Nat.add_sub_cancel, nI_m1, nI_dn, c_yearOf W WI (r := S 0 - 1) (by omega), h0]
end Wk
section X
variable {h : AH} {S R : Nat → Nat}
theorem c_isYear_t {y : Nat} (hy : y < 1000) : jX_isYear (nI y) = some (nI 1) := by
  unfold jX_isYear
  simp (disch := omega) only [litI, jb_eq, inb_nI, nI_clamp, nI_add, pk_sub, pk_mul, nI_and, nI_or, and31, sh1, nI_dif, nI_bit, nI_shr, nI_eq, nI_ltI, nI_leI, nI_eq_neg, neg_eq_nI, neg_eq_neg, neg_lt_nI, nI_lt_neg, neg_le_nI, nI_le_neg, cv_eq2, nI_tn0, nI_tn1, Option.bind_some, if_pos, if_neg, Nat.not_lt_zero, eq_self, if_true, if_false, Nat.zero_le, Nat.add_sub_cancel, nI_m1, nI_dn]
theorem c_isYear_f {v : Int32} (hy : ¬ inN v 1000) : jX_isYear v = some (nI 0) := by
  unfold jX_isYear
  simp only [litI]
  rcases inN_or v (n := 1000) (by omega) with h1 | h1 | h1
  · exact absurd h1 hy
  · simp only [h1, if_true]
  · have h2 : ¬ v ≤ nI 999 := by
      rw [Int32.lt_iff_toInt_lt, nI_toInt (by omega)] at h1
      rw [Int32.le_iff_toInt_le, nI_toInt (by omega)]
      omega
    simp only [h2, if_false]
    split <;> rfl
theorem c_colourIn (B : BkC h (gB h 0).toNat R) (I : BkI R) (W : WkC h (gB h 1).toNat S) (WI : WkI R S) {c y : Nat} (hc : c < 24) (hy : y < 1000) : jX_colourIn h (nI c) (nI y) = some (cv (cin R S c y (S 0))) := by
  have h1 := WI.1
  have hR := Rsm I
  unfold jX_colourIn
  rw [W.1]
  have key := dn_ind (P := fun n k => k ≤ S 0 → jX_colourIn_10 h (nI c) (nI y) n (nI k - nI 1) = some (cv (cin R S c y k))) (fun n _ => ?_) (fun n k ih hk => ?_)
  · exact key (S 0) FU (FU_lt (by omega)) (Nat.le_refl _)
  · rw [jX_colourIn_10]
    simp (disch := omega) only [litI, jb_eq, inb_nI, nI_clamp, nI_add, pk_sub, pk_mul, nI_and, nI_or, and31, sh1, nI_dif, nI_bit, nI_shr, nI_eq, nI_ltI, nI_leI, nI_eq_neg, neg_eq_nI, neg_eq_neg, neg_lt_nI, nI_lt_neg, neg_le_nI, nI_le_neg, cv_eq2, nI_tn0, nI_tn1, Option.bind_some, if_pos, if_neg, Nat.not_lt_zero, eq_self, if_true, if_false, Nat.zero_le, Nat.add_sub_cancel, nI_m1, nI_dn]
    rfl
  · have ih := ih (by omega)
    have hp := ((WI.2.2.2 k (by omega)).2.2 c hc).1
    have hyr := (WI.2.2.2 k (by omega)).2.1
    rw [jX_colourIn_10]
    simp (disch := omega) only [litI, jb_eq, inb_nI, nI_clamp, nI_add, pk_sub, pk_mul, nI_and, nI_or, and31, sh1, nI_dif, nI_bit, nI_shr, nI_eq, nI_ltI, nI_leI, nI_eq_neg, neg_eq_nI, neg_eq_neg, neg_lt_nI, nI_lt_neg, neg_le_nI, nI_le_neg, cv_eq2, nI_tn0, nI_tn1, Option.bind_some, if_pos, if_neg, Nat.not_lt_zero, eq_self, if_true, if_false, Nat.zero_le, Nat.add_sub_cancel, nI_m1, nI_dn, c_colourAt W WI (r := k) (by omega) hc, c_yearOf W WI (r := k) (by omega)]
    unfold cin
    by_cases h0 : pt S k c = 0
    · rw [if_pos h0, if_pos h0]; exact ih
    · rw [if_neg h0, if_neg h0]
      by_cases h2 : y < yr S k
      · rw [if_pos (show nI y - nI (yr S k) < nI 0 from pk_sneg (by omega) h2), if_pos h2]; exact ih
      · rw [if_neg h2, cv_pos (by omega)]
        have h3 := (I.2.1 (pt S k c - 1) (by omega)).2.1
        simp (disch := omega) only [litI, jb_eq, inb_nI, nI_clamp, nI_add, pk_sub, pk_mul, nI_and, nI_or, and31, sh1, nI_dif, nI_bit, nI_shr, nI_eq, nI_ltI, nI_leI, nI_eq_neg, neg_eq_nI, neg_eq_neg, neg_lt_nI, nI_lt_neg, neg_le_nI, nI_le_neg, cv_eq2, nI_tn0, nI_tn1, Option.bind_some, if_pos, if_neg, Nat.not_lt_zero, eq_self, if_true, if_false, Nat.zero_le, Nat.add_sub_cancel, nI_m1, nI_dn, c_isFaded B I (c := pt S k c - 1) (a := y - yr S k) (by omega) (by omega)]
        rw [show 12 + (pt S k c - 1) = 11 + pt S k c by omega]
        by_cases h4 : R (11 + pt S k c) = 0 ∨ y - yr S k < R (11 + pt S k c)
        · rw [if_pos h4, if_pos h4, cv_pos (by omega)]; rfl
        · rw [if_neg h4, if_neg h4]; exact ih
theorem cin_le (WI : WkI R S) {c y : Nat} (hc : c < 24) : ∀ {k}, k ≤ S 0 → cin R S c y k ≤ R 4 := by
  intro k
  induction k with
  | zero => intro _; exact Nat.zero_le _
  | succ k ih =>
    intro hk
    have hp := ((WI.2.2.2 k (by omega)).2.2 c hc).1
    have ih := ih (by omega)
    unfold cin
    split
    · exact ih
    · split
      · exact ih
      · split
        · exact hp
        · exact ih
theorem c_firstChange (B : BkC h (gB h 0).toNat R) (I : BkI R) (W : WkC h (gB h 1).toNat S) (WI : WkI R S) {c : Nat} (hc : c < 24) : jX_firstChange h (nI c) = some (cv (if S 0 = 0 then 0 else fcy (fun y => cin R S c y (S 0)) (cin R S c (yr S (S 0 - 1)) (S 0)) (1000 - (yr S (S 0 - 1) + 1)) (yr S (S 0 - 1) + 1))) := by
  have h1 := WI.1
  have hR := Rsm I
  unfold jX_firstChange
  rw [W.1]
  by_cases h0 : S 0 = 0
  · rw [h0]; rfl
  · have hyr := (WI.2.2.2 (S 0 - 1) (by omega)).2.1
    simp (disch := omega) only [litI, jb_eq, inb_nI, nI_clamp, nI_add, pk_sub, pk_mul, nI_and, nI_or, and31, sh1, nI_dif, nI_bit, nI_shr, nI_eq, nI_ltI, nI_leI, nI_eq_neg, neg_eq_nI, neg_eq_neg, neg_lt_nI, nI_lt_neg, neg_le_nI, nI_le_neg, cv_eq2, nI_tn0, nI_tn1, Option.bind_some, if_pos, if_neg, Nat.not_lt_zero, eq_self, if_true, if_false, Nat.zero_le, Nat.add_sub_cancel, nI_m1, nI_dn, c_latestYear W WI, c_colourIn B I W WI hc, h0]
    generalize hf : cin R S c (yr S (S 0 - 1)) (S 0) = f
    have hf2 : f ≤ 5 := by rw [← hf]; exact Nat.le_trans (cin_le WI hc (Nat.le_refl _)) (by omega)
    refine up_ind (P := fun n k => jX_firstChange_33 h (nI c) n (cv f) (nI k) = some (cv (fcy (fun y => cin R S c y (S 0)) f (1000 - k) k))) 1000 (fun n => ?_) (fun n k hk ih => ?_) (1000 - (yr S (S 0 - 1) + 1)) (yr S (S 0 - 1) + 1) FU (by omega) (FU_lt (by omega))
    · rw [jX_firstChange_33]
      simp (disch := omega) only [litI, jb_eq, inb_nI, nI_clamp, nI_add, pk_sub, pk_mul, nI_and, nI_or, and31, sh1, nI_dif, nI_bit, nI_shr, nI_eq, nI_ltI, nI_leI, nI_eq_neg, neg_eq_nI, neg_eq_neg, neg_lt_nI, nI_lt_neg, neg_le_nI, nI_le_neg, cv_eq2, nI_tn0, nI_tn1, Option.bind_some, if_pos, if_neg, Nat.not_lt_zero, eq_self, if_true, if_false, Nat.zero_le, Nat.add_sub_cancel, nI_m1, nI_dn]
      rfl
    · have hq := Nat.le_trans (cin_le WI (y := k) hc (Nat.le_refl _)) (by omega : R 4 ≤ 5)
      rw [jX_firstChange_33]
      simp (disch := omega) only [litI, jb_eq, inb_nI, nI_clamp, nI_add, pk_sub, pk_mul, nI_and, nI_or, and31, sh1, nI_dif, nI_bit, nI_shr, nI_eq, nI_ltI, nI_leI, nI_eq_neg, neg_eq_nI, neg_eq_neg, neg_lt_nI, nI_lt_neg, neg_le_nI, nI_le_neg, cv_eq2, nI_tn0, nI_tn1, Option.bind_some, if_pos, if_neg, Nat.not_lt_zero, eq_self, if_true, if_false, Nat.zero_le, Nat.add_sub_cancel, nI_m1, nI_dn, c_colourIn B I W WI hc hk, cv_inj]
      rw [show 1000 - k = (1000 - (k + 1)) + 1 by omega, fcy]
      by_cases h2 : cin R S c k (S 0) = f
      · rw [if_pos h2, if_pos h2]; exact ih
      · rw [if_neg h2, if_neg h2]; rfl
theorem rlf_le (I : BkI R) (WI : WkI R S) {c : Nat} (hc : c < 24) : ∀ {k}, k ≤ S 0 → rlf R S c k ≤ 9 * k := by
  intro k
  induction k with
  | zero => intro _; exact Nat.zero_le _
  | succ k ih =>
    intro hk
    have hp := ((WI.2.2.2 k (by omega)).2.2 c hc).1
    have ih := ih (by omega)
    unfold rlf
    split
    · omega
    · have := (I.2.1 (pt S k c - 1) (by omega)).1
      rw [show 7 + (pt S k c - 1) = 6 + pt S k c by omega] at this
      omega
theorem c_thickAt_t (B : BkC h (gB h 0).toNat R) (I : BkI R) (W : WkC h (gB h 1).toNat S) (WI : WkI R S) {x y : Nat} (hx : x < R 0) (hy : y < R 1) (hc : R 0 * y + x < 24) : jX_thickAt h (nI x) (nI y) = some (nI (rlf R S (R 0 * y + x) (S 0))) := by
  have h1 := WI.1
  have hR := Rsm I
  unfold jX_thickAt
  simp (disch := omega) only [litI, jb_eq, inb_nI, nI_clamp, nI_add, pk_sub, pk_mul, nI_and, nI_or, and31, sh1, nI_dif, nI_bit, nI_shr, nI_eq, nI_ltI, nI_leI, nI_eq_neg, neg_eq_nI, neg_eq_neg, neg_lt_nI, nI_lt_neg, neg_le_nI, nI_le_neg, cv_eq2, nI_tn0, nI_tn1, Option.bind_some, if_pos, if_neg, Nat.not_lt_zero, eq_self, if_true, if_false, Nat.zero_le, Nat.add_sub_cancel, nI_m1, nI_dn, c_hasCell_t B I hx hy, c_cellAt B]
  generalize R 0 * y + x = c at hc
  refine up_ind (P := fun n k => jX_thickAt_30 h n (nI c) (nI (rlf R S c k)) (nI k) = some (nI (rlf R S c (S 0)))) (S 0) (fun n => ?_) (fun n k hk ih => ?_) (S 0) 0 FU (by omega) (FU_lt (by omega))
  · rw [jX_thickAt_30]
    simp (disch := omega) only [litI, jb_eq, inb_nI, nI_clamp, nI_add, pk_sub, pk_mul, nI_and, nI_or, and31, sh1, nI_dif, nI_bit, nI_shr, nI_eq, nI_ltI, nI_leI, nI_eq_neg, neg_eq_nI, neg_eq_neg, neg_lt_nI, nI_lt_neg, neg_le_nI, nI_le_neg, cv_eq2, nI_tn0, nI_tn1, Option.bind_some, if_pos, if_neg, Nat.not_lt_zero, eq_self, if_true, if_false, Nat.zero_le, Nat.add_sub_cancel, nI_m1, nI_dn, W.1]
  · have hp := ((WI.2.2.2 k (by omega)).2.2 c hc).1
    rw [jX_thickAt_30]
    simp (disch := omega) only [litI, jb_eq, inb_nI, nI_clamp, nI_add, pk_sub, pk_mul, nI_and, nI_or, and31, sh1, nI_dif, nI_bit, nI_shr, nI_eq, nI_ltI, nI_leI, nI_eq_neg, neg_eq_nI, neg_eq_neg, neg_lt_nI, nI_lt_neg, neg_le_nI, nI_le_neg, cv_eq2, nI_tn0, nI_tn1, Option.bind_some, if_pos, if_neg, Nat.not_lt_zero, eq_self, if_true, if_false, Nat.zero_le, Nat.add_sub_cancel, nI_m1, nI_dn, W.1, c_colourAt W WI (r := k) (by omega) hc, c_thickOf B I hp]
    exact ih
theorem c_thickAt_f (B : BkC h (gB h 0).toNat R) (I : BkI R) {v1 v2 : Int32} (hn : ¬ (inN v1 (R 0) ∧ inN v2 (R 1))) : jX_thickAt h v1 v2 = some (nI 0) := by
  unfold jX_thickAt
  simp (disch := omega) only [litI, jb_eq, inb_nI, nI_clamp, nI_add, pk_sub, pk_mul, nI_and, nI_or, and31, sh1, nI_dif, nI_bit, nI_shr, nI_eq, nI_ltI, nI_leI, nI_eq_neg, neg_eq_nI, neg_eq_neg, neg_lt_nI, nI_lt_neg, neg_le_nI, nI_le_neg, cv_eq2, nI_tn0, nI_tn1, Option.bind_some, if_pos, if_neg, Nat.not_lt_zero, eq_self, if_true, if_false, Nat.zero_le, Nat.add_sub_cancel, nI_m1, nI_dn, c_hasCell_f B I hn]
theorem cellb (I : BkI R) {x y : Nat} (hx : x < R 0) (hy : y < R 1) : R 0 * y + x < nC R ∧ R 0 * y + x < 24 := by
  have h1 : R 0 * y + x < nC R := by
    have : R 0 * (y + 1) ≤ R 0 * R 1 := Nat.mul_le_mul (Nat.le_refl _) hy
    rw [Nat.mul_add, Nat.mul_one] at this
    unfold nC
    omega
  have := nC_le I
  omega
end X
