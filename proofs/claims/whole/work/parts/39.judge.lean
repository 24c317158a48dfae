/-! ===== pure: judging, breaking ===== -/
theorem obind {α β : Type} (a : α) (f : α → Option β) : (some a).bind f = f a := by
  rw [Option.bind_some]
def lawK (R : Nat → Nat) (s : Nat) : Nat := if bP (bD (2 ^ nC R - 1) s) 24 < R 2 then 1 else if R 3 ≠ 0 ∧ R 3 < npt (R 0) 24 (bD (2 ^ nC R - 1) s) then 2 else 0
def jcl (R : Nat → Nat) (s y : Nat) : Nat := if lawK R s ≠ 0 then lawK R s else if s &&& brd R y 100 (R 6) = 0 then 0 else 3
def unt (R S : Nat → Nat) (w : Nat) : Nat := bM (fun c => decide (pt S w c ≠ 0) && decide (¬ R (16 + pt S w c) ≤ yr S w)) (nC R)
def jdg (R S : Nat → Nat) (w : Nat) : Nat := if jcl R (cel S w) (yr S w) ≠ 0 then jcl R (cel S w) (yr S w) else if unt R S w = 0 then 0 else 4
theorem jdg_eq (R S : Nat → Nat) (w : Nat) : jdg R S w = if lawK R (cel S w) ≠ 0 then lawK R (cel S w) else if cel S w &&& brd R (yr S w) 100 (R 6) ≠ 0 then 3 else if unt R S w = 0 then 0 else 4 := by
  unfold jdg jcl
  by_cases h1 : lawK R (cel S w) = 0
  · rw [if_neg (show ¬ lawK R (cel S w) ≠ 0 from fun z => z h1), if_neg (show ¬ lawK R (cel S w) ≠ 0 from fun z => z h1)]
    by_cases h2 : cel S w &&& brd R (yr S w) 100 (R 6) = 0
    · rw [if_pos h2, if_neg (show ¬ (0 : Nat) ≠ 0 from fun z => z rfl), if_neg (show ¬ (cel S w &&& brd R (yr S w) 100 (R 6)) ≠ 0 from fun z => z h2)]
    · rw [if_neg h2, if_pos (show (3 : Nat) ≠ 0 by decide), if_pos h2]
  · rw [if_pos h1, if_pos h1, if_pos h1]
theorem jdg_k {R S : Nat → Nat} {w k : Nat} (h : lawK R (cel S w) = k) (hk : k ≠ 0) : jdg R S w = k := by
  rw [jdg_eq, h, if_pos hk]
theorem full_lt (n : Nat) : 2 ^ n - 1 < 2 ^ n := by have := Nat.two_pow_pos n; omega
theorem lawK_le (R : Nat → Nat) (s : Nat) : lawK R s ≤ 2 := by
  unfold lawK
  split
  · omega
  · split <;> omega
theorem jcl_le (R : Nat → Nat) (s y : Nat) : jcl R s y ≤ 3 := by
  have := lawK_le R s
  unfold jcl
  split
  · omega
  · split <;> omega
theorem jdg_le (R S : Nat → Nat) (w : Nat) : jdg R S w ≤ 4 := by
  have := jcl_le R (cel S w) (yr S w)
  unfold jdg
  split
  · omega
  · split <;> omega
/-- without the lowest one -/
def cl1 (s : Nat) : Nat := s &&& (s - 1)
def rmv (s : Nat) : Nat → Nat
  | 0 => s
  | m + 1 => cl1 (rmv s m)
theorem cl1_bD {s n : Nat} (hs : s < 2 ^ n) (h0 : s ≠ 0) : cl1 s = bD s (2 ^ lw s) := by
  obtain ⟨-, e, -, -⟩ := lw_spec hs h0
  apply Nat.eq_of_testBit_eq
  intro i
  have e2 := congrArg (fun x => x.testBit i) e
  unfold bL at e2
  simp only [bD_tb] at e2
  unfold cl1
  rw [Nat.testBit_and, bD_tb, ← e2]
  cases s.testBit i <;> cases (s - 1).testBit i <;> rfl
theorem bP_cl1 {s n : Nat} (hs : s < 2 ^ n) (h0 : s ≠ 0) : ∀ i, bP (cl1 s) i = bP s i - 1 := by
  obtain ⟨-, -, ht, hz⟩ := lw_spec hs h0
  rw [cl1_bD hs h0]
  have key : ∀ i, (i ≤ lw s → bP (bD s (2 ^ lw s)) i = 0 ∧ bP s i = 0) ∧ (lw s < i → bP s i = bP (bD s (2 ^ lw s)) i + 1) := by
    intro i
    induction i with
    | zero => exact ⟨fun _ => ⟨rfl, rfl⟩, fun h => by omega⟩
    | succ i ih =>
      refine ⟨fun h => ?_, fun h => ?_⟩
      · obtain ⟨a, b⟩ := ih.1 (by omega)
        unfold bP
        rw [a, b, bD_tb, hz i (by omega)]
        exact ⟨rfl, rfl⟩
      · by_cases hi : i = lw s
        · obtain ⟨a, b⟩ := ih.1 (by omega)
          unfold bP
          rw [a, b, bD_tb, hi, ht, Nat.testBit_two_pow]
          simp
        · have := ih.2 (by omega)
          unfold bP
          rw [this, bD_tb, Nat.testBit_two_pow]
          have h3 : ¬ lw s = i := fun z => hi z.symm
          simp only [h3, decide_false, Bool.not_false, Bool.and_true]
          omega
  intro i
  by_cases h : i ≤ lw s
  · have := (key i).1 h; omega
  · have := (key i).2 (by omega); omega
theorem rmv_lt {s n : Nat} (hs : s < 2 ^ n) : ∀ m, rmv s m < 2 ^ n := by
  intro m
  induction m with
  | zero => exact hs
  | succ m ih => exact Nat.lt_of_le_of_lt Nat.and_le_left ih
theorem bP_rmv {s : Nat} (hs : s < 2 ^ 24) : ∀ m, m ≤ bP s 24 → ∀ i, bP (rmv s m) i = bP s i - m := by
  intro m
  induction m with
  | zero => intro _ i; rfl
  | succ m ih =>
    intro hm i
    have h1 := ih (by omega)
    have h0 : rmv s m ≠ 0 := fun z => by
      have := h1 24
      rw [z, bP_0] at this
      omega
    rw [rmv, bP_cl1 (rmv_lt hs m) h0, h1]
    omega
section C
variable {h : AH} {b w : Nat} {S R : Nat → Nat}
theorem nC_ne (WI : WkI R S) (I : BkI R) {r : Nat} (hr : r < S 0 + S 1) : 1 ≤ R 0 := by
  apply Decidable.byContradiction
  intro z
  have := WI.2.2.1 (by omega)
  omega
theorem cel_ltn (WI : WkI R S) (I : BkI R) {r : Nat} (hr : r < S 0 + S 1) : cel S r < 2 ^ nC R := by
  rw [← cel_eq WI I hr]
  exact bM_lt _ _
theorem unt_lt (R S : Nat → Nat) (r : Nat) : unt R S r < 2 ^ nC R := bM_lt _ _
theorem c_untimely (B : BkC h b R) (I : BkI R) (W : WkC h w S) (WI : WkI R S) {r : Nat} (hr : r < S 0 + S 1) : jL_untimelyCells h b w (nI r) = some (nI (unt R S r)) := by
  have hR := Rsm I
  have hy := (WI.2.2.2 r hr).2.1
  unfold jL_untimelyCells
  refine up_ind (P := fun n k => jL_untimelyCells_5 h b w (nI r) n (nI (bM (fun c => decide (pt S r c ≠ 0) && decide (¬ R (16 + pt S r c) ≤ yr S r)) k)) (nI k) = some (nI (unt R S r))) (nC R) (fun n => ?_) (fun n k hk ih => ?_) (nC R) 0 FU (by omega) (FU_lt (by omega))
  · rw [jL_untimelyCells_5]
    simp (disch := omega) only [litI, jb_eq, inb_nI, nI_clamp, nI_add, pk_sub, pk_mul, nI_and, nI_or, and31, sh1, nI_dif, nI_bit, nI_shr, nI_eq, nI_ltI, nI_leI, nI_eq_neg, neg_eq_nI, neg_eq_neg, neg_lt_nI, nI_lt_neg, neg_le_nI, nI_le_neg, cv_eq2, nI_tn0, nI_tn1, Option.bind_some, if_pos, if_neg, Nat.not_lt_zero, eq_self, if_true, if_false, Nat.zero_le, Nat.add_sub_cancel, nI_m1, nI_dn, c_cells B]
    rfl
  · have hp := ((WI.2.2.2 r hr).2.2 k (by omega)).1
    rw [jL_untimelyCells_5]
    simp (disch := omega) only [litI, jb_eq, inb_nI, nI_clamp, nI_add, pk_sub, pk_mul, nI_and, nI_or, and31, sh1, nI_dif, nI_bit, nI_shr, nI_eq, nI_ltI, nI_leI, nI_eq_neg, neg_eq_nI, neg_eq_neg, neg_lt_nI, nI_lt_neg, neg_le_nI, nI_le_neg, cv_eq2, nI_tn0, nI_tn1, Option.bind_some, if_pos, if_neg, Nat.not_lt_zero, eq_self, if_true, if_false, Nat.zero_le, Nat.add_sub_cancel, nI_m1, nI_dn, c_cells B, c_colourAt W WI hr (c := k), c_yearOf W WI hr, c_hadComeUp B I hp (y := yr S r)]
    by_cases h0 : pt S r k = 0
    · rw [if_pos h0]
      rw [bM_f (by simp [h0])] at ih
      exact ih
    · rw [if_neg h0]
      by_cases h2 : R (16 + pt S r k) ≤ yr S r
      · rw [show (if pt S r k ≠ 0 ∧ R (16 + pt S r k) ≤ yr S r then 1 else 0) = 1 from if_pos ⟨h0, h2⟩]
        rw [bM_f (by simp [h2])] at ih
        simp (disch := omega) only [litI, jb_eq, inb_nI, nI_clamp, nI_add, pk_sub, pk_mul, nI_and, nI_or, and31, sh1, nI_dif, nI_bit, nI_shr, nI_eq, nI_ltI, nI_leI, nI_eq_neg, neg_eq_nI, neg_eq_neg, neg_lt_nI, nI_lt_neg, neg_le_nI, nI_le_neg, cv_eq2, nI_tn0, nI_tn1, Option.bind_some, if_pos, if_neg, Nat.not_lt_zero, eq_self, if_true, if_false, Nat.zero_le, Nat.add_sub_cancel, nI_m1, nI_dn]
        exact ih
      · rw [show (if pt S r k ≠ 0 ∧ R (16 + pt S r k) ≤ yr S r then 1 else 0) = 0 from if_neg (fun z => h2 z.2)]
        rw [bM_t (by simp [h0, h2])] at ih
        simp (disch := omega) only [litI, jb_eq, inb_nI, nI_clamp, nI_add, pk_sub, pk_mul, nI_and, nI_or, and31, sh1, nI_dif, nI_bit, nI_shr, nI_eq, nI_ltI, nI_leI, nI_eq_neg, neg_eq_nI, neg_eq_neg, neg_lt_nI, nI_lt_neg, neg_le_nI, nI_le_neg, cv_eq2, nI_tn0, nI_tn1, Option.bind_some, if_pos, if_neg, Nat.not_lt_zero, eq_self, if_true, if_false, Nat.zero_le, Nat.add_sub_cancel, nI_m1, nI_dn]
        exact ih
theorem hlo_none : ∀ k, k < 4 → (nI k = -nI 1 ↔ k = 100) := by
  intro k hk
  rw [nI_eq_neg (by omega) (by omega) (by omega)]
  exact ⟨fun z => z.elim, fun z => by omega⟩
theorem c_verdict (B : BkC h b R) (I : BkI R) (W : WkC h w S) (WI : WkI R S) {r : Nat} (hr : r < S 0 + S 1) : jL_verdict h b w (nI r) = some (nI (jdg R S r)) := by
  have hR := Rsm I
  have hy := (WI.2.2.2 r hr).2.1
  have h1 := nC_ne WI I hr
  have hk24 : bD (2 ^ nC R - 1) (cel S r) < 2 ^ 24 := lt24 I (bD_lt (full_lt _))
  have hb := bP_le (bD (2 ^ nC R - 1) (cel S r)) 24
  have hnp := npt_le (R 0) 24 (bD (2 ^ nC R - 1) (cel S r))
  have hcl : cel S r < 2 ^ 31 := by have := cel_lt S r; omega
  have hu : unt R S r < 2 ^ 31 := by have := lt24 I (unt_lt R S r); omega
  have ha : cel S r &&& brd R (yr S r) 100 (R 6) < 2 ^ 31 := Nat.lt_of_le_of_lt Nat.and_le_left hcl
  have e52 : lawK R (cel S r) = 0 → jL_verdict_52 h b w (nI r) (nI (cel S r)) = some (nI (jdg R S r)) := by
    intro hl
    unfold jL_verdict_52
    rw [jdg_eq, hl, if_neg (show ¬ (0 : Nat) ≠ 0 from fun z => z rfl)]
    simp (disch := omega) only [litI, c_yearOf W WI hr, Option.bind_some, c_guardedIn B I (y := yr S r) (by omega) hlo_none, nI_and, nI_eq, c_untimely B I W WI hr]
    by_cases h2 : cel S r &&& brd R (yr S r) 100 (R 6) = 0
    · rw [if_pos h2, if_neg (show ¬ (cel S r &&& brd R (yr S r) 100 (R 6)) ≠ 0 from fun z => z h2)]
      by_cases h3 : unt R S r = 0
      · rw [if_pos h3, if_pos h3]
      · rw [if_neg h3, if_neg h3]
    · rw [if_neg h2, if_pos h2]
  have e1 := c_bitCount hk24
  have e2 := c_partsOf B I h1 (r := bD (2 ^ nC R - 1) (cel S r)) (bD_lt (full_lt _))
  have hl : lawK R (cel S r) = if bP (bD (2 ^ nC R - 1) (cel S r)) 24 < R 2 then 1 else if R 3 ≠ 0 ∧ R 3 < npt (R 0) 24 (bD (2 ^ nC R - 1) (cel S r)) then 2 else 0 := by
    unfold lawK
    exact Eq.refl _
  unfold jL_verdict
  rw [c_cellsOf W WI I hr, c_allCells B I]
  simp only [litI, obind, nI_dif, e1, e2, B.1.2.2.1, B.1.2.2.2.1]
  generalize bP (bD (2 ^ nC R - 1) (cel S r)) 24 = A at hb hl ⊢
  generalize npt (R 0) 24 (bD (2 ^ nC R - 1) (cel S r)) = P at hnp hl ⊢
  clear hk24 e1 e2 ha hu hcl
  simp (disch := omega) only [nI_ltI, nI_eq, nI_leI]
  by_cases h2 : A < R 2
  · rw [if_pos h2]
    rw [if_pos h2] at hl
    rw [jdg_k hl (by decide)]
  · rw [if_neg h2]
    rw [if_neg h2] at hl
    by_cases h3 : R 3 = 0
    · rw [if_pos h3]
      rw [if_neg (fun z => z.1 h3)] at hl
      exact e52 hl
    · rw [if_neg h3]
      by_cases h4 : P ≤ R 3
      · rw [if_pos h4]
        rw [if_neg (by omega)] at hl
        exact e52 hl
      · rw [if_neg h4]
        rw [if_pos (by omega)] at hl
        rw [jdg_k hl (by decide)]
/-- where it breaks: 0 nowhere, else one more than the cell -/
def brk (R S : Nat → Nat) (w : Nat) : Nat :=
  if jdg R S w = 1 then lw (rmv (cel S w) (nC R - R 2)) + 1
  else if jdg R S w = 2 then pat (R 0) 24 (bD (2 ^ nC R - 1) (cel S w)) (R 3)
  else if jdg R S w = 3 then lw (cel S w &&& brd R (yr S w) 100 (R 6)) + 1
  else if jdg R S w = 4 then lw (unt R S w) + 1 else 0
theorem c_cellBehind {s m : Nat} (hs : s < 2 ^ 24) (hm : m < bP s 24) : jL_cellBehind (nI s) (nI m) = some (nI (lw (rmv s m))) := by
  have hb := bP_le s 24
  have hne : ∀ k, k ≤ m → rmv s k ≠ 0 := fun k hk z => by
    have := bP_rmv hs k (by omega) 24
    rw [z, bP_0] at this
    omega
  unfold jL_cellBehind
  refine up_ind (P := fun n k => jL_cellBehind_4 (nI m) n (nI (rmv s k)) (nI k) = some (nI (lw (rmv s m)))) m (fun n => ?_) (fun n k hk ih => ?_) m 0 FU (by omega) (FU_lt (by omega))
  · rw [jL_cellBehind_4]
    simp (disch := omega) only [litI, jb_eq, inb_nI, nI_clamp, nI_add, pk_sub, pk_mul, nI_and, nI_or, and31, sh1, nI_dif, nI_bit, nI_shr, nI_eq, nI_ltI, nI_leI, nI_eq_neg, neg_eq_nI, neg_eq_neg, neg_lt_nI, nI_lt_neg, neg_le_nI, nI_le_neg, cv_eq2, nI_tn0, nI_tn1, Option.bind_some, if_pos, if_neg, Nat.not_lt_zero, eq_self, if_true, if_false, Nat.zero_le, Nat.add_sub_cancel, nI_m1, nI_dn, c_firstOf (rmv_lt hs m) (hne m (Nat.le_refl _))]
  · have h0 := hne k (by omega)
    rw [jL_cellBehind_4]
    simp (disch := omega) only [litI, jb_eq, inb_nI, nI_clamp, nI_add, pk_sub, pk_mul, nI_and, nI_or, and31, sh1, nI_dif, nI_bit, nI_shr, nI_eq, nI_ltI, nI_leI, nI_eq_neg, neg_eq_nI, neg_eq_neg, neg_lt_nI, nI_lt_neg, neg_le_nI, nI_le_neg, cv_eq2, nI_tn0, nI_tn1, Option.bind_some, if_pos, if_neg, Nat.not_lt_zero, eq_self, if_true, if_false, Nat.zero_le, Nat.add_sub_cancel, nI_m1, nI_dn]
    exact ih
theorem jdg1 {R S : Nat → Nat} {r : Nat} (h : jdg R S r = 1) : bP (bD (2 ^ nC R - 1) (cel S r)) 24 < R 2 := by
  apply Decidable.byContradiction
  intro z
  have hl : lawK R (cel S r) ≠ 1 := by
    unfold lawK
    rw [if_neg z]
    split <;> omega
  rw [jdg_eq] at h
  split at h
  · exact hl h
  · split at h
    · omega
    · split at h <;> omega
theorem jdg2 {R S : Nat → Nat} {r : Nat} (h : jdg R S r = 2) : R 3 < npt (R 0) 24 (bD (2 ^ nC R - 1) (cel S r)) := by
  apply Decidable.byContradiction
  intro z
  have hl : lawK R (cel S r) ≠ 2 := by
    unfold lawK
    rw [if_neg (c := R 3 ≠ 0 ∧ R 3 < npt (R 0) 24 (bD (2 ^ nC R - 1) (cel S r))) (fun q => z q.2)]
    split <;> omega
  rw [jdg_eq] at h
  split at h
  · exact hl h
  · split at h
    · omega
    · split at h <;> omega
theorem jdg3 {R S : Nat → Nat} {r : Nat} (h : jdg R S r = 3) : cel S r &&& brd R (yr S r) 100 (R 6) ≠ 0 := by
  have hl := lawK_le R (cel S r)
  rw [jdg_eq] at h
  split at h
  · omega
  · split at h
    · assumption
    · split at h <;> omega
theorem jdg4 {R S : Nat → Nat} {r : Nat} (h : jdg R S r = 4) : unt R S r ≠ 0 := by
  have hl := lawK_le R (cel S r)
  rw [jdg_eq] at h
  split at h
  · omega
  · split at h
    · omega
    · split at h
      · omega
      · assumption
theorem full_bP (WI : WkI R S) (I : BkI R) {r : Nat} (hr : r < S 0 + S 1) : bP (bD (2 ^ nC R - 1) (cel S r)) 24 = nC R - bP (cel S r) 24 ∧ bP (cel S r) 24 ≤ nC R := by
  have hn := nC_le I
  have h1 := cel_ltn WI I hr
  have h2 : ∀ i, (cel S r).testBit i = true → (2 ^ nC R - 1).testBit i = true := by
    intro i hi
    rw [Nat.testBit_two_pow_sub_one]
    apply decide_eq_true
    apply Decidable.byContradiction
    intro z
    rw [Nat.testBit_lt_two_pow (Nat.lt_of_lt_of_le h1 (Nat.pow_le_pow_right (by decide) (by omega)))] at hi
    cases hi
  have h3 : bP (2 ^ nC R - 1) 24 = nC R := by
    rw [bP_up (full_lt _) hn, bP_full _ _ (Nat.le_refl _)]
  rw [bP_dif _ _ _ h2, h3]
  refine ⟨rfl, ?_⟩
  rw [bP_up h1 hn]
  exact bP_le _ _
theorem c_breach (B : BkC h b R) (I : BkI R) (W : WkC h w S) (WI : WkI R S) {r : Nat} (hr : r < S 0 + S 1) : jL_breach h b w (nI r) = some (cv (brk R S r)) := by
  have hR := Rsm I
  have hy := (WI.2.2.2 r hr).2.1
  have h1 := nC_ne WI I hr
  have hj := jdg_le R S r
  have hfb := full_bP WI I hr
  unfold jL_breach brk
  rw [c_cellsOf W WI I hr, c_verdict B I W WI hr]
  simp (disch := omega) only [litI, Option.bind_some, nI_eq]
  by_cases e1 : jdg R S r = 1
  · have := jdg1 e1
    have hk : R 2 ≤ nC R := by
      rcases I.1 with z | z
      · omega
      · exact z.2.2.2.2.1
    rw [if_pos e1, if_pos e1]
    simp (disch := omega) only [c_cells B, B.1.2.2.1, Option.bind_some, pk_sub, c_cellBehind (cel_lt S r) (m := nC R - R 2)]
    rfl
  · rw [if_neg e1, if_neg e1]
    by_cases e2 : jdg R S r = 2
    · have h2 := jdg2 e2
      have h3 : pat (R 0) 24 (bD (2 ^ nC R - 1) (cel S r)) (R 3) ≠ 0 := fun z => by
        have := (pat_npt _ _ _ _).mp z
        omega
      rw [if_pos e2, if_pos e2]
      simp (disch := omega) only [c_allCells B I, B.1.2.2.2.1, Option.bind_some, nI_dif, c_partStart B I h1 (bD_lt (full_lt _)) h2 (Nat.le_refl _)]
      rw [cv_pos (by omega)]
    · rw [if_neg e2, if_neg e2]
      by_cases e3 : jdg R S r = 3
      · have h2 := jdg3 e3
        have ha : cel S r &&& brd R (yr S r) 100 (R 6) < 2 ^ 24 := Nat.lt_of_le_of_lt Nat.and_le_left (cel_lt S r)
        rw [if_pos e3, if_pos e3]
        simp (disch := omega) only [c_yearOf W WI hr, c_guardedIn B I (y := yr S r) (by omega) hlo_none, Option.bind_some, nI_and, c_firstOf ha h2]
        rfl
      · rw [if_neg e3, if_neg e3]
        by_cases e4 : jdg R S r = 4
        · have h2 := jdg4 e4
          rw [if_pos e4, if_pos e4]
          simp (disch := omega) only [c_untimely B I W WI hr, Option.bind_some, c_firstOf (lt24 I (unt_lt R S r)) h2]
          rfl
        · rw [if_neg e4, if_neg e4]
          rfl
end C
