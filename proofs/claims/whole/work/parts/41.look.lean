/-! ===== pure: arrays put anew, what is wanted, what can be brought ===== -/
def aI (h : AH) (k i : Nat) (f : Nat → Int32) : AH := (fun a b c => if a = k ∧ b = i then f c else h.1 a b c, h.2.1, h.2.2)
theorem gI_aI (h : AH) (k i : Nat) (f : Nat → Int32) (a b c : Nat) : gI (aI h k i f) a b c = if a = k ∧ b = i then f c else gI h a b c := rfl
theorem gL_aI (h : AH) (k i : Nat) (f : Nat → Int32) (a b c : Nat) : gL (aI h k i f) a b c = gL h a b c := rfl
theorem gB_aI (h : AH) (k i : Nat) (f : Nat → Int32) (a : Nat) : gB (aI h k i f) a = gB h a := rfl
theorem gI_aI_s (h : AH) (k i : Nat) (f : Nat → Int32) (c : Nat) : gI (aI h k i f) k i c = f c := if_pos ⟨rfl, rfl⟩
theorem gI_aI_n {h : AH} {k i a b c : Nat} {f : Nat → Int32} (hn : ¬ (a = k ∧ b = i)) : gI (aI h k i f) a b c = gI h a b c := if_neg hn
theorem gI_uI_s (h : AH) (k i j : Nat) (v : Int32) : gI (uI h k i j v) k i j = v := if_pos ⟨rfl, rfl, rfl⟩
theorem gI_uI_n {h : AH} {k i j a b c : Nat} {v : Int32} (hn : ¬ (a = k ∧ b = i ∧ c = j)) : gI (uI h k i j v) a b c = gI h a b c := if_neg hn
theorem uI_uI (h : AH) (k i j : Nat) (v v' : Int32) : uI (uI h k i j v) k i j v' = uI h k i j v' := by
  refine Prod.ext ?_ rfl
  funext a b c
  show (if a = k ∧ b = i ∧ c = j then v' else if a = k ∧ b = i ∧ c = j then v else h.1 a b c) = if a = k ∧ b = i ∧ c = j then v' else h.1 a b c
  by_cases hh : a = k ∧ b = i ∧ c = j
  · rw [if_pos hh, if_pos hh]
  · rw [if_neg hh, if_neg hh, if_neg hh]
theorem aI_aI (h : AH) (k i : Nat) (f g : Nat → Int32) : aI (aI h k i f) k i g = aI h k i g := by
  refine Prod.ext ?_ rfl
  funext a b c
  show (if a = k ∧ b = i then g c else if a = k ∧ b = i then f c else h.1 a b c) = if a = k ∧ b = i then g c else h.1 a b c
  by_cases hh : a = k ∧ b = i
  · rw [if_pos hh, if_pos hh]
  · rw [if_neg hh, if_neg hh, if_neg hh]
theorem aI_self (h : AH) (k i : Nat) : aI h k i (gI h k i) = h := by
  refine Prod.ext ?_ rfl
  funext a b c
  show (if a = k ∧ b = i then gI h k i c else h.1 a b c) = h.1 a b c
  by_cases hh : a = k ∧ b = i
  · rw [if_pos hh, hh.1, hh.2]; rfl
  · rw [if_neg hh]
theorem aI_id {h : AH} {k i : Nat} {f : Nat → Int32} (e : ∀ c, f c = gI h k i c) : aI h k i f = h := by
  have : f = gI h k i := funext e
  rw [this, aI_self]
theorem uI_aI (h : AH) (k i j : Nat) (f : Nat → Int32) (v : Int32) : uI (aI h k i f) k i j v = aI h k i (fun c => if c = j then v else f c) := by
  refine Prod.ext ?_ rfl
  funext a b c
  show (if a = k ∧ b = i ∧ c = j then v else if a = k ∧ b = i then f c else h.1 a b c) = if a = k ∧ b = i then (if c = j then v else f c) else h.1 a b c
  by_cases hh : a = k ∧ b = i
  · rw [if_pos hh, if_pos hh]
    by_cases hc : c = j
    · rw [if_pos hc, if_pos ⟨hh.1, hh.2, hc⟩]
    · rw [if_neg hc, if_neg (fun z => hc z.2.2)]
  · rw [if_neg hh, if_neg hh, if_neg (fun z => hh ⟨z.1, z.2.1⟩)]
theorem aI_ext {h : AH} {k i : Nat} {f g : Nat → Int32} (e : ∀ c, f c = g c) : aI h k i f = aI h k i g := by
  rw [show f = g from funext e]
theorem aI_up (h : AH) (K i k : Nat) (f g : Nat → Int32) : uI (aI h K i (fun j => if j < k then f j else g j)) K i k (f k) = aI h K i (fun j => if j < k + 1 then f j else g j) := by
  rw [uI_aI]
  refine aI_ext (fun c => ?_)
  by_cases hc : c = k
  · rw [if_pos hc, hc, if_pos (by omega)]
  · rw [if_neg hc]
    by_cases h2 : c < k
    · rw [if_pos h2, if_pos (by omega)]
    · rw [if_neg h2, if_neg (by omega)]
/-! frames -/
theorem BkC_of {h h' : AH} {b : Nat} {R : Nat → Nat} (B : BkC h b R) (e : ∀ k j, (k = 3 ∨ 5 ≤ k ∧ k ≤ 7 ∨ 9 ≤ k ∧ k ≤ 12) → gI h' k b j = gI h k b j) : BkC h' b R := by
  obtain ⟨⟨a0, a1, a2, a3, a4, a5, a6⟩, b1, b2, b3⟩ := B
  refine ⟨⟨?_, ?_, ?_, ?_, ?_, ?_, ?_⟩, fun c hc => ?_, fun k hk => ?_, fun c hc => ?_⟩
  · rw [e 3 0 (by omega)]; exact a0
  · rw [e 3 1 (by omega)]; exact a1
  · rw [e 3 2 (by omega)]; exact a2
  · rw [e 3 3 (by omega)]; exact a3
  · rw [e 3 4 (by omega)]; exact a4
  · rw [e 3 5 (by omega)]; exact a5
  · rw [e 3 6 (by omega)]; exact a6
  · rw [e 5 c (by omega), e 6 c (by omega), e 7 c (by omega)]; exact b1 c hc
  · rw [e 9 k (by omega), e 10 k (by omega), e 11 k (by omega)]; exact b2 k hk
  · rw [e 12 c (by omega)]; exact b3 c hc
theorem WkC_of {h h' : AH} {w : Nat} {S : Nat → Nat} (W : WkC h w S) (e : ∀ k j, 13 ≤ k ∧ k ≤ 16 → gI h' k w j = gI h k w j) : WkC h' w S := by
  obtain ⟨a0, a1, a2⟩ := W
  refine ⟨?_, ?_, fun r hr => ⟨?_, ?_, fun c hc => ?_⟩⟩
  · rw [e 13 0 (by omega)]; exact a0
  · rw [e 13 1 (by omega)]; exact a1
  · rw [e 14 r (by omega)]; exact (a2 r hr).1
  · rw [e 15 r (by omega)]; exact (a2 r hr).2.1
  · rw [e 16 _ (by omega)]; exact (a2 r hr).2.2 c hc
/-! what is wanted -/
def alk (R S : Nat → Nat) : Nat := bM (fun c => decide (R (46 + c) ≠ 0) && decide (shn S c = R (46 + c))) (nC R)
def wnt (R : Nat → Nat) : Nat := bM (fun c => decide (R (46 + c) ≠ 0)) (nC R)
def pay (R : Nat → Nat) (y : Nat) : Nat := bM (fun c => decide (R (46 + c) ≠ 0) && decide (R (16 + R (46 + c)) ≤ y)) (nC R)
def hco (R : Nat → Nat) (y : Nat) : Nat → Bool
  | 0 => false
  | k + 1 => hco R y k || decide (R (17 + k) ≤ y)
theorem hco_tr {R : Nat → Nat} {y k : Nat} (h : hco R y k = true) : ∀ d, hco R y (k + d) = true := by
  intro d
  induction d with
  | zero => exact h
  | succ d ih => rw [← Nat.add_assoc, hco, ih]; rfl
theorem alk_lt (R S : Nat → Nat) : alk R S < 2 ^ nC R := bM_lt _ _
theorem wnt_lt (R : Nat → Nat) : wnt R < 2 ^ nC R := bM_lt _ _
theorem pay_lt (R : Nat → Nat) (y : Nat) : pay R y < 2 ^ nC R := bM_lt _ _
section C
variable {h : AH} {b w : Nat} {S R : Nat → Nat}
theorem c_wantedCells (B : BkC h b R) (I : BkI R) : jB_wantedCells h b = some (nI (wnt R)) := by
  have hR := Rsm I
  unfold jB_wantedCells
  refine up_ind (P := fun n k => jB_wantedCells_4 h b n (nI (bM (fun c => decide (R (46 + c) ≠ 0)) k)) (nI k) = some (nI (wnt R))) (nC R) (fun n => ?_) (fun n k hk ih => ?_) (nC R) 0 FU (by omega) (FU_lt (by omega))
  · rw [jB_wantedCells_4]
    simp (disch := omega) only [litI, jb_eq, inb_nI, nI_clamp, nI_add, pk_sub, pk_mul, nI_and, nI_or, and31, sh1, nI_dif, nI_bit, nI_shr, nI_eq, nI_ltI, nI_leI, nI_eq_neg, neg_eq_nI, neg_eq_neg, neg_lt_nI, nI_lt_neg, neg_le_nI, nI_le_neg, cv_eq2, nI_tn0, nI_tn1, obind, if_pos, if_neg, Nat.not_lt_zero, eq_self, if_true, if_false, Nat.zero_le, Nat.add_sub_cancel, nI_m1, nI_dn, c_cells B]
    rfl
  · have h1 := (I.2.2.2 k (by omega)).1
    rw [jB_wantedCells_4]
    simp (disch := omega) only [litI, jb_eq, inb_nI, nI_clamp, nI_add, pk_sub, pk_mul, nI_and, nI_or, and31, sh1, nI_dif, nI_bit, nI_shr, nI_eq, nI_ltI, nI_leI, nI_eq_neg, neg_eq_nI, neg_eq_neg, neg_lt_nI, nI_lt_neg, neg_le_nI, nI_le_neg, cv_eq2, nI_tn0, nI_tn1, obind, if_pos, if_neg, Nat.not_lt_zero, eq_self, if_true, if_false, Nat.zero_le, Nat.add_sub_cancel, nI_m1, nI_dn, c_cells B, c_wantedAt B I hk]
    by_cases h0 : R (46 + k) = 0
    · rw [if_pos h0]
      rw [bM_f (by simp [h0])] at ih
      exact ih
    · rw [if_neg h0]
      rw [bM_t (by simp [h0])] at ih
      exact ih
theorem c_alikeCells (B : BkC h b R) (I : BkI R) (W : WkC h w S) (WI : WkI R S) : jQ_alikeCells h b w = some (nI (alk R S)) := by
  have hR := Rsm I
  unfold jQ_alikeCells
  refine up_ind (P := fun n k => jQ_alikeCells_4 h b w n (nI (bM (fun c => decide (R (46 + c) ≠ 0) && decide (shn S c = R (46 + c))) k)) (nI k) = some (nI (alk R S))) (nC R) (fun n => ?_) (fun n k hk ih => ?_) (nC R) 0 FU (by omega) (FU_lt (by omega))
  · rw [jQ_alikeCells_4]
    simp (disch := omega) only [litI, jb_eq, inb_nI, nI_clamp, nI_add, pk_sub, pk_mul, nI_and, nI_or, and31, sh1, nI_dif, nI_bit, nI_shr, nI_eq, nI_ltI, nI_leI, nI_eq_neg, neg_eq_nI, neg_eq_neg, neg_lt_nI, nI_lt_neg, neg_le_nI, nI_le_neg, cv_eq2, nI_tn0, nI_tn1, obind, if_pos, if_neg, Nat.not_lt_zero, eq_self, if_true, if_false, Nat.zero_le, Nat.add_sub_cancel, nI_m1, nI_dn, c_cells B]
    rfl
  · have h1 := (I.2.2.2 k (by omega)).1
    have h2 := shn_le WI I (c := k) (by omega)
    rw [jQ_alikeCells_4]
    simp (disch := omega) only [litI, jb_eq, inb_nI, nI_clamp, nI_add, pk_sub, pk_mul, nI_and, nI_or, and31, sh1, nI_dif, nI_bit, nI_shr, nI_eq, nI_ltI, nI_leI, nI_eq_neg, neg_eq_nI, neg_eq_neg, neg_lt_nI, nI_lt_neg, neg_le_nI, nI_le_neg, cv_eq2, nI_tn0, nI_tn1, obind, if_pos, if_neg, Nat.not_lt_zero, eq_self, if_true, if_false, Nat.zero_le, Nat.add_sub_cancel, nI_m1, nI_dn, c_cells B, c_wantedAt B I hk, c_shownAt W WI I (c := k), cv_inj]
    by_cases h0 : R (46 + k) = 0
    · rw [if_pos h0]
      rw [bM_f (by simp [h0])] at ih
      exact ih
    · rw [if_neg h0]
      by_cases h3 : shn S k = R (46 + k)
      · rw [if_pos h3]
        rw [bM_t (by simp [h0, h3])] at ih
        exact ih
      · rw [if_neg h3]
        rw [bM_f (by simp [h3])] at ih
        exact ih
theorem c_hadAny (B : BkC h b R) (I : BkI R) {y : Nat} (hy : y < 2 ^ 31) : jB_hadAnyComeUp h b (nI y) = some (nI (hco R y (R 4)).toNat) := by
  have hR := Rsm I
  unfold jB_hadAnyComeUp
  refine up_ind (P := fun n k => hco R y k = false → jB_hadAnyComeUp_2 h b (nI y) n (nI k) = some (nI (hco R y (R 4)).toNat)) (R 4) (fun n hz => ?_) (fun n k hk ih hz => ?_) (R 4) 0 FU (by omega) (FU_lt (by omega)) rfl
  · rw [jB_hadAnyComeUp_2]
    simp (disch := omega) only [litI, jb_eq, inb_nI, nI_clamp, nI_add, pk_sub, pk_mul, nI_and, nI_or, and31, sh1, nI_dif, nI_bit, nI_shr, nI_eq, nI_ltI, nI_leI, nI_eq_neg, neg_eq_nI, neg_eq_neg, neg_lt_nI, nI_lt_neg, neg_le_nI, nI_le_neg, cv_eq2, nI_tn0, nI_tn1, obind, if_pos, if_neg, Nat.not_lt_zero, eq_self, if_true, if_false, Nat.zero_le, Nat.add_sub_cancel, nI_m1, nI_dn, B.1.2.2.2.2.1]
    rw [hz]
    rfl
  · have e := c_hadComeUp B I (m := k + 1) (y := y) (by omega) hy
    rw [cv_s] at e
    have e2 : hco R y (k + 1) = decide (R (17 + k) ≤ y) := by rw [hco, hz]; rfl
    rw [jB_hadAnyComeUp_2]
    simp (disch := omega) only [litI, B.1.2.2.2.2.1, nI_ltI, if_pos, e, obind, nI_add]
    rw [show 16 + (k + 1) = 17 + k by omega]
    by_cases h1 : R (17 + k) ≤ y
    · rw [show (if k + 1 ≠ 0 ∧ R (17 + k) ≤ y then 1 else 0) = 1 from if_pos ⟨by omega, h1⟩]
      simp (disch := omega) only [nI_eq, if_neg]
      have := hco_tr (R := R) (y := y) (k := k + 1) (by rw [e2]; exact decide_eq_true h1) (R 4 - (k + 1))
      rw [show k + 1 + (R 4 - (k + 1)) = R 4 by omega] at this
      rw [this]
      rfl
    · rw [show (if k + 1 ≠ 0 ∧ R (17 + k) ≤ y then 1 else 0) = 0 from if_neg (fun z => h1 z.2)]
      simp (disch := omega) only [nI_eq, if_true]
      exact ih (by rw [e2]; exact decide_eq_false h1)
/-- the law's table -/
def lwf (R : Nat → Nat) (h : AH) : Nat → Int32 := fun j => if j < 2 ^ nC R then nI (if lawK R j = 0 then 1 else 0) else gI h 29 0 j
theorem nar1 : vp_nar .byte ((nI 1).toInt8.toInt32) = nI 1 := by decide +kernel
theorem nar0 : vp_nar .byte ((nI 0).toInt8.toInt32) = nI 0 := by decide +kernel
theorem c_learnLaw (B : BkC h b R) (I : BkI R) (h0 : 1 ≤ R 0) (hn : nC R ≤ 12) (hs : gI h 28 0 6 = nI (2 ^ nC R)) (hk : gI h 28 0 1 = nI 0) : jQ_learnLaw h b = some (uI (aI h 29 0 (lwf R h)) 28 0 1 (nI 1)) := by
  have hR := Rsm I
  have hp : 2 ^ nC R ≤ 2 ^ 12 := Nat.pow_le_pow_right (by decide) hn
  have hp0 := Nat.two_pow_pos (nC R)
  unfold jQ_learnLaw
  rw [hk, show (0 : Int32) = nI 0 from rfl, if_pos rfl]
  have key := up_ind (P := fun n k => jQ_learnLaw_10 b n (nI k) (aI h 29 0 (fun j => if j < k then nI (if lawK R j = 0 then 1 else 0) else gI h 29 0 j)) = some (uI (aI h 29 0 (lwf R h)) 28 0 1 (nI 1))) (2 ^ nC R) (fun n => ?_) (fun n k hk2 ih => ?_) (2 ^ nC R) 0 FU (by omega) (FU_lt (by omega))
  · rw [aI_id (fun c => if_neg (by omega))] at key
    exact key
  · rw [jQ_learnLaw_10]
    simp (disch := omega) only [litI, jb_eq, inb_nI, nI_clamp, nI_add, pk_sub, pk_mul, nI_and, nI_or, and31, sh1, nI_dif, nI_bit, nI_shr, nI_eq, nI_ltI, nI_leI, nI_eq_neg, neg_eq_nI, neg_eq_neg, neg_lt_nI, nI_lt_neg, neg_le_nI, nI_le_neg, cv_eq2, nI_tn0, nI_tn1, obind, if_pos, if_neg, Nat.not_lt_zero, eq_self, if_true, if_false, Nat.zero_le, Nat.add_sub_cancel, nI_m1, nI_dn, gI_aI_n, hs]
    rfl
  · generalize hg : aI h 29 0 (fun j => if j < k then nI (if lawK R j = 0 then 1 else 0) else gI h 29 0 j) = g at ih ⊢
    have e29 : ∀ (v : Nat), v = (if lawK R k = 0 then 1 else 0) → uI g 29 0 k (nI v) = aI h 29 0 (fun j => if j < k + 1 then nI (if lawK R j = 0 then 1 else 0) else gI h 29 0 j) := by
      rintro v rfl
      rw [← hg]
      exact aI_up h 29 0 k (fun j => nI (if lawK R j = 0 then 1 else 0)) _
    have B2 : BkC g b R := by
      rw [← hg]
      exact BkC_of B (fun k j hk => gI_aI_n (by omega))
    have hs2 : gI g 28 0 6 = nI (2 ^ nC R) := by
      rw [← hg, gI_aI_n (by omega)]
      exact hs
    clear hg
    have hk24 : bD (2 ^ nC R - 1) k < 2 ^ 24 := lt24 I (bD_lt (full_lt _))
    have hb := bP_le (bD (2 ^ nC R - 1) k) 24
    have hnp := npt_le (R 0) 24 (bD (2 ^ nC R - 1) k)
    have e1 := c_bitCount hk24
    have e2 := c_partsOf B2 I h0 (r := bD (2 ^ nC R - 1) k) (bD_lt (full_lt _))
    have hl : lawK R k = if bP (bD (2 ^ nC R - 1) k) 24 < R 2 then 1 else if R 3 ≠ 0 ∧ R 3 < npt (R 0) 24 (bD (2 ^ nC R - 1) k) then 2 else 0 := by
      unfold lawK
      exact Eq.refl _
    have e74 : ∀ v, v = 0 ∨ v = 1 → jQ_learnLaw_74 b (jQ_learnLaw_10 b n) (nI k) (nI v) g = jQ_learnLaw_10 b n (nI (k + 1)) (uI g 29 0 k (nI v)) := by
      intro v hv
      unfold jQ_learnLaw_74
      rcases hv with rfl | rfl
      · simp (disch := omega) only [litI, nI_eq, if_true, inb_nI, nI_clamp, jb_eq, nar0, nI_add]
      · simp (disch := omega) only [litI, nI_eq, if_neg, inb_nI, nI_clamp, jb_eq, nar1, nI_add, if_true]
    rw [jQ_learnLaw_10]
    simp (disch := omega) only [litI, hs2, nI_ltI, if_pos, c_allCells B2 I, obind, nI_dif, e1, B2.1.2.2.1]
    unfold jQ_learnLaw_43 jQ_learnLaw_69 jQ_learnLaw_73
    simp only [litI, e2, obind, B2.1.2.2.2.1]
    generalize bP (bD (2 ^ nC R - 1) k) 24 = A at hb hl ⊢
    generalize npt (R 0) 24 (bD (2 ^ nC R - 1) k) = P at hnp hl ⊢
    simp (disch := omega) only [nI_ltI, nI_eq, nI_leI, e74, if_true]
    by_cases h2 : A < R 2
    · rw [if_pos h2]
      rw [if_pos h2] at hl
      rw [e29 0 (by rw [hl]; rfl)]
      exact ih
    · rw [if_neg h2]
      rw [if_neg h2] at hl
      simp (disch := omega) only [if_neg]
      by_cases h3 : R 3 = 0
      · rw [if_pos h3]
        rw [if_neg (fun z => z.1 h3)] at hl
        rw [e29 1 (by rw [hl]; rfl)]
        exact ih
      · rw [if_neg h3]
        by_cases h4 : P ≤ R 3
        · rw [if_pos h4]
          rw [if_neg (by omega)] at hl
          rw [e29 1 (by rw [hl]; rfl)]
          exact ih
        · rw [if_neg h4]
          rw [if_pos (by omega)] at hl
          rw [e29 0 (by rw [hl]; rfl)]
          exact ih
end C
