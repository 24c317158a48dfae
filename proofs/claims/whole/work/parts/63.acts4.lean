/-! ===== pure: undo, images, back ===== -/
theorem op_undo : so_undo Rel := by
  intro hc hm hr
  obtain ⟨R, S, U, K, T, tp, un, im, nx, fa, tr, pl, V, A, C, M, htr, h10, h11, h4⟩ := hr
  have I := V.1; have WI := V.2.1; have B := A.1; have W := A.2.1; have MR := M.1; have MS := M.2.1; have hb := M.2.2.2.2.2.2.2.2; have MR1 := (MA_G M).1; have MS1 := (MA_G M).2.1; have hb1 := (MA_G M).2.2.2.2.2.2.2.2; have hR := Rsm I; have hw := WI.1
  have hle := V.2.2.2.2.1
  by_cases hu : un = 0
  · refine ⟨nI 0, cX hc 6, mX (mG hm) 6, ?_, ?_, RelX V A C (MA_G M) (by omega)⟩
    · unfold jX_undo jP_giveBack
      rw [A.2.2.2.2.1.1, hu]
      simp (disch := omega) only [litI, obind, nI_eq, if_true, if_false, if_neg, if_pos, c_accept, c_refuse, c_deny, c_grant, m_good, m_no, m_isNot, isZ0]
    · unfold jM_undo
      rw [m_good, obind, (MA_G M).2.2.2.2.2.1, hu]
      simp (disch := omega) only [litI, obind, nI_eq, if_true, if_false, if_neg, if_pos, c_accept, c_refuse, c_deny, c_grant, m_good, m_no, m_isNot, isZ0]
  · have h0 : R 0 ≠ 0 := fun z => by have := V.2.2.2.2.2.2 z; omega
    have WI' := V.2.2.1 (un - 1) (by omega)
    have hb := gBle hc 1
    have hslot := A.2.2.2.2.1.2.2 (un - 1) (by omega)
    rw [show (nx + 8 - un + (un - 1)) % 8 = (nx + 7) % 8 by omega] at hslot
    have hF : ∀ k w j, 13 ≤ k ∧ k ≤ 16 → gI (uI (uI hc 21 0 0 (nI (un - 1))) 21 0 1 (nI ((nx + 7) % 8))) k w j = gI hc k w j := fun k w j hk => by rw [gI_uI_n (by omega), gI_uI_n (by omega)]
    obtain ⟨h2, e1, F, W2⟩ := c_become (h := uI (uI hc 21 0 0 (nI (un - 1))) 21 0 1 (nI ((nx + 7) % 8))) (w := (gB hc 1).toNat) (w2 := 2 + (nx + 7) % 8) (by omega) (WkC_of hslot (fun k j hk => hF k _ j hk)) WI'.1 WI'.2.1
    have V2 : Inv R (row U (un - 1)) U K T tp (un - 1) im ((nx + 7) % 8) fa := ⟨I, WI', fun i hi => V.2.2.1 i (by omega), V.2.2.2.1, by omega, V.2.2.2.2.2.1, fun z => absurd z h0⟩
    have A2 : CA h2 R (row U (un - 1)) U K T tp (un - 1) im ((nx + 7) % 8) fa := by
      obtain ⟨a1, a2, a3, a4, a5, a6, a7⟩ := A
      have eb : ∀ b, gB h2 b = gB hc b := fun b => by unfold gB; rw [F.2]; rfl
      have e : ∀ k i j, ¬ (13 ≤ k ∧ k ≤ 16 ∧ i = (gB hc 1).toNat) → k ≠ 21 → gI h2 k i j = gI hc k i j := fun k i j q1 q2 => by
        rw [F.1 k i j q1, gI_uI_n (by omega), gI_uI_n (by omega)]
      have ew : ∀ w S, 2 ≤ w → WkC hc w S → WkC h2 w S := fun w S hw W => WkC_of W (fun k j hk => e k w j (by omega) (by omega))
      refine ⟨?_, ?_, ?_, ⟨?_, fun i hi => ?_⟩, ⟨?_, ?_, fun i hi => ?_⟩, ⟨?_, fun i hi => ew _ _ (by omega) (a6.2 i hi)⟩, ?_⟩
      · rw [eb]; exact BkC_of a1 (fun k j hk => e k _ j (by omega) (by omega))
      · rw [eb]; exact W2
      · rw [eb, eb, eb, eb]; exact a3
      · rw [e 0 0 1 (by omega) (by omega)]; exact a4.1
      · rw [e 1 0 i (by omega) (by omega)]; exact a4.2 i hi
      · rw [F.1 21 0 0 (by omega), gI_uI_n (by omega), gI_uI_s]
      · rw [F.1 21 0 1 (by omega), gI_uI_s]
      · rw [show ((nx + 7) % 8 + 8 - (un - 1) + i) % 8 = (nx + 8 - un + i) % 8 by omega]
        exact ew _ _ (by omega) (a5.2.2 i (by omega))
      · rw [e 0 0 7 (by omega) (by omega)]; exact a6.1
      · rw [e 2 0 0 (by omega) (by omega)]; exact a7
    have hcopy := m_copy (h := uI (mG hm) 32 0 22 (nI (un - 1))) (k1 := 40) (k2 := 37) (s := 340 * (un - 1)) (d := 0) (n := 340) (N1 := 2720) (N2 := 340) (by decide) rfl rfl (by omega) (by omega) (by omega)
    have hU : ∀ j, j < 340 → gI (mG hm) 40 0 (340 * (un - 1) + j) = nI (row U (un - 1) j) := fun j hj => (MA_G M).2.2.1 _ (by omega)
    have M2 : MA (aI (uI (mG hm) 32 0 22 (nI (un - 1))) 37 0 (fun j => if 0 ≤ j ∧ j < 0 + 340 then gI (uI (mG hm) 32 0 22 (nI (un - 1))) 40 0 (340 * (un - 1) + (j - 0)) else gI (uI (mG hm) 32 0 22 (nI (un - 1))) 37 0 j)) R (row U (un - 1)) U K T tp (un - 1) im fa := by
      obtain ⟨a1, a2, a3, a4, a5, a6, a7, a8, a9⟩ := MA_G M
      have e : ∀ k i j, k ≠ 37 → ¬ (k = 32 ∧ j = 22) → gI (aI (uI (mG hm) 32 0 22 (nI (un - 1))) 37 0 (fun j => if 0 ≤ j ∧ j < 0 + 340 then gI (uI (mG hm) 32 0 22 (nI (un - 1))) 40 0 (340 * (un - 1) + (j - 0)) else gI (uI (mG hm) 32 0 22 (nI (un - 1))) 37 0 j)) k i j = gI (mG hm) k i j := fun k i j q1 q2 => by rw [gI_aI_n (by omega), gI_uI_n (by omega)]
      refine ⟨fun i hi => ?_, fun i hi => ?_, fun i hi => ?_, fun i hi => ?_, ⟨?_, fun i hi => ?_⟩, ?_, ?_, ?_, ?_⟩
      · rw [e 35 0 i (by omega) (by omega)]; exact a1 i hi
      · rw [gI_aI_s, if_pos (by omega), gI_uI_n (by omega), Nat.sub_zero]; exact hU i hi
      · rw [e 40 0 i (by omega) (by omega)]; exact a3 i hi
      · rw [e 41 0 i (by omega) (by omega)]; exact a4 i hi
      · rw [e 32 0 2 (by omega) (by omega)]; exact a5.1
      · rw [e 33 0 i (by omega) (by omega)]; exact a5.2 i hi
      · rw [gI_aI_n (by omega), gI_uI_s]
      · rw [e 32 0 23 (by omega) (by omega)]; exact a7
      · rw [e 32 0 9 (by omega) (by omega)]; exact a8
      · rw [e 32 0 14 (by omega) (by omega)]; exact a9
    refine ⟨nI 1, cX h2 0, aI (uI (mG hm) 32 0 22 (nI (un - 1))) 37 0 (fun j => if 0 ≤ j ∧ j < 0 + 340 then gI (uI (mG hm) 32 0 22 (nI (un - 1))) 40 0 (340 * (un - 1) + (j - 0)) else gI (uI (mG hm) 32 0 22 (nI (un - 1))) 37 0 j), ?_, ?_, RelM V2 (CA_X A2) (Cch_X (Cch_of C (fun k i j hk => by rw [F.1 k i j (by omega), gI_uI_n (by omega), gI_uI_n (by omega)]))) M2 cX_10 ((gI_aI_n (by omega)).trans ((gI_uI_n (by omega)).trans mG_11)) (by omega)⟩
    · unfold jX_undo jP_giveBack
      rw [A.2.2.2.2.1.1]
      simp (disch := omega) only [litI, nI_eq, if_neg, pk_sub, jbn, gI_uI_n, A.2.2.2.2.1.2.1, nI_add]
      rw [pk_rem (by omega) (by omega) (by omega), gI_uI_s, show (nx + 8 - 1) % 8 = (nx + 7) % 8 by omega]
      simp (disch := omega) only [inb_nI, nI_clamp, if_true, e1, obind, c_grant, isZ1, nI_eq, if_neg]
    · unfold jM_undo
      rw [m_good, obind, (MA_G M).2.2.2.2.2.1]
      simp (disch := omega) only [litI, nI_eq, if_neg, pk_sub, jbn, gI_uI_s, pk_mul, hcopy, obind]
theorem op_image : so_image Rel := by
  intro hc hm hr
  obtain ⟨R, S, U, K, T, tp, un, im, nx, fa, tr, pl, V, A, C, M, htr, h10, h11, h4⟩ := hr
  have I := V.1; have WI := V.2.1; have B := A.1; have W := A.2.1; have MR := M.1; have MS := M.2.1; have hb := M.2.2.2.2.2.2.2.2; have MR1 := (MA_G M).1; have MS1 := (MA_G M).2.1; have hb1 := (MA_G M).2.2.2.2.2.2.2.2; have hR := Rsm I; have hw := WI.1
  have hle := V.2.2.2.2.1
  have hb := gBle hc 1
  by_cases h0 : R 0 = 0
  · refine ⟨-nI 1, cX hc 1, mX (mG hm) 1, ?_, ?_, RelX V A C (MA_G M) (by omega)⟩
    · unfold jX_image
      simp (disch := omega) only [litI, obind, nI_eq, if_true, if_false, if_neg, if_pos, c_accept, c_refuse, c_deny, c_grant, m_good, m_no, m_isNot, isTold_R B I, hbk_0 h0]
    · unfold jM_image
      simp (disch := omega) only [litI, obind, nI_eq, if_true, if_false, if_neg, if_pos, c_accept, c_refuse, c_deny, c_grant, m_good, m_no, m_isNot, hb1, hbk_0 h0]
  · by_cases h3 : im = 3
    · refine ⟨-nI 1, cX hc 3, mX (mG hm) 3, ?_, ?_, RelX V A C (MA_G M) (by omega)⟩
      · unfold jX_image
        simp (disch := omega) only [litI, obind, nI_eq, if_true, if_false, if_neg, if_pos, c_accept, c_refuse, c_deny, c_grant, m_good, m_no, m_isNot, isTold_R B I, hbk_1 h0, A.2.2.2.2.2.1.1, nI_ltI]
      · unfold jM_image
        simp (disch := omega) only [litI, obind, nI_eq, if_true, if_false, if_neg, if_pos, c_accept, c_refuse, c_deny, c_grant, m_good, m_no, m_isNot, hb1, hbk_1 h0, (MA_G M).2.2.2.2.2.2.1]
    · obtain ⟨h2, e1, F, W2⟩ := c_become (h := hc) (w := 10 + im) (w2 := (gB hc 1).toNat) (by omega) W WI.1 WI.2.1
      generalize hK : (fun j => if 340 * im ≤ j ∧ j < 340 * im + 340 then S (j - 340 * im) else K j) = K'
      have hK1 : ∀ i j, i < im → j < 340 → row K' i j = row K i j := fun i j hi hj => by
        rw [← hK]
        show (if _ then _ else _) = _
        rw [if_neg (by omega)]
        rfl
      have hK2 : ∀ j, j < 340 → row K' im j = S j := fun j hj => by
        rw [← hK]
        show (if 340 * im ≤ 340 * im + j ∧ 340 * im + j < 340 * im + 340 then _ else _) = _
        rw [if_pos (by omega)]
        exact congrArg S (by omega)
      have V2 : Inv R S U K' T tp un (im + 1) nx fa := by
        refine ⟨I, WI, V.2.2.1, fun i hi => ?_, by omega, V.2.2.2.2.2.1, fun z => absurd z h0⟩
        by_cases him : i = im
        · rw [him]; exact WkI_ext WI (hK2)
        · exact WkI_ext (V.2.2.2.1 i (by omega)) (fun j hj => hK1 i j (by omega) hj)
      have A2 : CA (uI h2 0 0 7 (nI (im + 1))) R S U K' T tp un (im + 1) nx fa := by
        obtain ⟨a1, a2, a3, a4, a5, a6, a7⟩ := A
        have eb : ∀ b, gB (uI h2 0 0 7 (nI (im + 1))) b = gB hc b := fun b => by
          show h2.2.2 b = hc.2.2 b
          rw [F.2]
        have e : ∀ k i j, ¬ (13 ≤ k ∧ k ≤ 16 ∧ i = 10 + im) → ¬ (k = 0 ∧ j = 7) → gI (uI h2 0 0 7 (nI (im + 1))) k i j = gI hc k i j := fun k i j q1 q2 => by
          rw [gI_uI_n (by omega), F.1 k i j q1]
        have ew : ∀ w S, w ≠ 10 + im → WkC hc w S → WkC (uI h2 0 0 7 (nI (im + 1))) w S := fun w S hw W => WkC_of W (fun k j hk => e k w j (by omega) (by omega))
        refine ⟨?_, ?_, ?_, ⟨?_, fun i hi => ?_⟩, ⟨?_, ?_, fun i hi => ew _ _ (by omega) (a5.2.2 i hi)⟩, ⟨gI_uI_s _ _ _ _ _, fun i hi => ?_⟩, ?_⟩
        · rw [eb]; exact BkC_of a1 (fun k j hk => e k _ j (by omega) (by omega))
        · rw [eb]; exact ew _ _ (by omega) a2
        · rw [eb, eb, eb, eb]; exact a3
        · rw [e 0 0 1 (by omega) (by omega)]; exact a4.1
        · rw [e 1 0 i (by omega) (by omega)]; exact a4.2 i hi
        · rw [e 21 0 0 (by omega) (by omega)]; exact a5.1
        · rw [e 21 0 1 (by omega) (by omega)]; exact a5.2.1
        · by_cases him : i = im
          · rw [him]
            exact WkC_ext WI.1 hK2 (WkC_of W2 (fun k j hk => gI_uI_n (by omega)))
          · exact WkC_ext (V.2.2.2.1 i (by omega)).1 (fun j hj => hK1 i j (by omega) hj) (ew _ _ (by omega) (a6.2 i (by omega)))
        · rw [e 2 0 0 (by omega) (by omega)]; exact a7
      have hcopy := m_copy (h := mG hm) (k1 := 37) (k2 := 41) (s := 0) (d := 340 * im) (n := 340) (N1 := 340) (N2 := 1020) (by decide) rfl rfl (by omega) (by omega) (by omega)
      generalize hg : aI (mG hm) 41 0 (fun j => if 340 * im ≤ j ∧ j < 340 * im + 340 then gI (mG hm) 37 0 (0 + (j - 340 * im)) else gI (mG hm) 41 0 j) = g at hcopy
      have hgn : ∀ k i j, ¬ (k = 41 ∧ i = 0) → gI g k i j = gI (mG hm) k i j := fun k i j q => by rw [← hg]; exact gI_aI_n q
      have M2 : MA (uI g 32 0 23 (nI (im + 1))) R S U K' T tp un (im + 1) fa := by
        obtain ⟨a1, a2, a3, a4, a5, a6, a7, a8, a9⟩ := MA_G M
        have e : ∀ k i j, ¬ (k = 41 ∧ i = 0) → ¬ (k = 32 ∧ j = 23) → gI (uI g 32 0 23 (nI (im + 1))) k i j = gI (mG hm) k i j := fun k i j q1 q2 => by rw [gI_uI_n (by omega), hgn k i j q1]
        refine ⟨fun i hi => ?_, fun i hi => ?_, fun i hi => ?_, fun i hi => ?_, ⟨?_, fun i hi => ?_⟩, ?_, gI_uI_s _ _ _ _ _, ?_, ?_⟩
        · rw [e 35 0 i (by omega) (by omega)]; exact a1 i hi
        · rw [e 37 0 i (by omega) (by omega)]; exact a2 i hi
        · rw [e 40 0 i (by omega) (by omega)]; exact a3 i hi
        · rw [gI_uI_n (by omega), ← hg, gI_aI_s, ← hK]
          show _ = nI (if 340 * im ≤ i ∧ i < 340 * im + 340 then S (i - 340 * im) else K i)
          by_cases hq : 340 * im ≤ i ∧ i < 340 * im + 340
          · rw [if_pos hq, if_pos hq, a2 _ (by omega), show 0 + (i - 340 * im) = i - 340 * im by omega]
          · rw [if_neg hq, if_neg hq]
            exact a4 i hi
        · rw [e 32 0 2 (by omega) (by omega)]; exact a5.1
        · rw [e 33 0 i (by omega) (by omega)]; exact a5.2 i hi
        · rw [e 32 0 22 (by omega) (by omega)]; exact a6
        · rw [e 32 0 9 (by omega) (by omega)]; exact a8
        · rw [e 32 0 14 (by omega) (by omega)]; exact a9
      refine ⟨nI im, cX (uI h2 0 0 7 (nI (im + 1))) 0, uI g 32 0 23 (nI (im + 1)), ?_, ?_, RelM V2 (CA_X A2) (Cch_X (Cch_of C (fun k i j hk => by rw [gI_uI_n (by omega), F.1 k i j (by omega)]))) M2 cX_10 ((gI_uI_n (by omega)).trans ((hgn 32 0 11 (by omega)).trans mG_11)) (by omega)⟩
      · unfold jX_image
        simp (disch := omega) only [litI, obind, nI_eq, if_true, if_false, if_neg, if_pos, c_accept, c_refuse, c_deny, c_grant, m_good, m_no, m_isNot, isTold_R B I, hbk_1 h0, A.2.2.2.2.2.1.1, nI_ltI, inb_nI, nI_clamp, e1, jbn, F.1 0 0 7, nI_add, gI_uI_s, pk_sub, Nat.add_sub_cancel]
      · unfold jM_image
        simp (disch := omega) only [litI, obind, nI_eq, if_true, if_false, if_neg, if_pos, c_accept, c_refuse, c_deny, c_grant, m_good, m_no, m_isNot, hb1, hbk_1 h0, (MA_G M).2.2.2.2.2.2.1, pk_mul, hcopy, jbn, hgn 32 0 23, nI_add, gI_uI_s, pk_sub, Nat.add_sub_cancel]
theorem op_back : so_back Rel := by
  intro hc hm hr a
  obtain ⟨R, S, U, K, T, tp, un, im, nx, fa, tr, pl, V, A, C, M, htr, h10, h11, h4⟩ := hr
  have I := V.1; have WI := V.2.1; have B := A.1; have W := A.2.1; have MR := M.1; have MS := M.2.1; have hb := M.2.2.2.2.2.2.2.2; have MR1 := (MA_G M).1; have MS1 := (MA_G M).2.1; have hb1 := (MA_G M).2.2.2.2.2.2.2.2; have hR := Rsm I; have hw := WI.1
  have hle := V.2.2.2.2.1
  have hb := gBle hc 1
  by_cases ha : inN a im
  · obtain ⟨i, hi, rfl⟩ := ha
    have h0 : R 0 ≠ 0 := fun z => by have := V.2.2.2.2.2.2 z; omega
    have WI' := V.2.2.2.1 i hi
    obtain ⟨h2, e1, F, W2⟩ := c_become (h := hc) (w := (gB hc 1).toNat) (w2 := 10 + i) (by omega) (A.2.2.2.2.2.1.2 i hi) WI'.1 WI'.2.1
    have V2 : Inv R (row K i) U K T tp 0 im nx fa := ⟨I, WI', fun i hi => by omega, V.2.2.2.1, by omega, V.2.2.2.2.2.1, fun z => absurd z h0⟩
    have A1 : CA h2 R (row K i) U K T tp un im nx fa := CA_S A (fun k i j q1 q2 q3 => F.1 k i j q1) (by rw [F.2]) W2
    have A2 : CA (uI h2 21 0 0 (nI 0)) R (row K i) U K T tp 0 im nx fa := by
      obtain ⟨a1, a2, a3, a4, a5, a6, a7⟩ := A1
      have ew : ∀ w S, WkC h2 w S → WkC (uI h2 21 0 0 (nI 0)) w S := fun w S W => WkC_of W (fun k j hk => gI_uI_n (by omega))
      exact ⟨BkC_of a1 (fun k j hk => gI_uI_n (by omega)), ew _ _ a2, a3, ⟨(gI_uI_n (by omega)).trans a4.1, fun i hi => (gI_uI_n (by omega)).trans (a4.2 i hi)⟩, ⟨gI_uI_s _ _ _ _ _, (gI_uI_n (by omega)).trans a5.2.1, fun i hi => by omega⟩, ⟨(gI_uI_n (by omega)).trans a6.1, fun i hi => ew _ _ (a6.2 i hi)⟩, (gI_uI_n (by omega)).trans a7⟩
    have hcopy := m_copy (h := mG hm) (k1 := 41) (k2 := 37) (s := 340 * i) (d := 0) (n := 340) (N1 := 1020) (N2 := 340) (by decide) rfl rfl (by omega) (by omega) (by omega)
    generalize hg : aI (mG hm) 37 0 (fun j => if 0 ≤ j ∧ j < 0 + 340 then gI (mG hm) 41 0 (340 * i + (j - 0)) else gI (mG hm) 37 0 j) = g at hcopy
    have hgn : ∀ k i j, ¬ (k = 37 ∧ i = 0) → gI g k i j = gI (mG hm) k i j := fun k i j q => by rw [← hg]; exact gI_aI_n q
    have M2 : MA (uI g 32 0 22 (nI 0)) R (row K i) U K T tp 0 im fa := by
      obtain ⟨a1, a2, a3, a4, a5, a6, a7, a8, a9⟩ := MA_G M
      have e : ∀ k i j, ¬ (k = 37 ∧ i = 0) → ¬ (k = 32 ∧ j = 22) → gI (uI g 32 0 22 (nI 0)) k i j = gI (mG hm) k i j := fun k i j q1 q2 => by rw [gI_uI_n (by omega), hgn k i j q1]
      refine ⟨fun i hi => ?_, fun j hj => ?_, fun i hi => ?_, fun i hi => ?_, ⟨?_, fun i hi => ?_⟩, gI_uI_s _ _ _ _ _, ?_, ?_, ?_⟩
      · rw [e 35 0 i (by omega) (by omega)]; exact a1 i hi
      · rw [gI_uI_n (by omega), ← hg, gI_aI_s, if_pos (by omega), Nat.sub_zero]
        exact a4 _ (by omega)
      · rw [e 40 0 i (by omega) (by omega)]; exact a3 i hi
      · rw [e 41 0 i (by omega) (by omega)]; exact a4 i hi
      · rw [e 32 0 2 (by omega) (by omega)]; exact a5.1
      · rw [e 33 0 i (by omega) (by omega)]; exact a5.2 i hi
      · rw [e 32 0 23 (by omega) (by omega)]; exact a7
      · rw [e 32 0 9 (by omega) (by omega)]; exact a8
      · rw [e 32 0 14 (by omega) (by omega)]; exact a9
    refine ⟨nI 1, cX (uI h2 21 0 0 (nI 0)) 0, uI g 32 0 22 (nI 0), ?_, ?_, RelM V2 (CA_X A2) (Cch_X (Cch_of C (fun k i j hk => by rw [gI_uI_n (by omega), F.1 k i j (by omega)]))) M2 cX_10 ((gI_uI_n (by omega)).trans ((hgn 32 0 11 (by omega)).trans mG_11)) (by omega)⟩
    · unfold jX_back jP_forget
      simp (disch := omega) only [litI, obind, nI_eq, if_true, if_false, if_neg, if_pos, c_accept, c_refuse, c_deny, c_grant, m_good, m_no, m_isNot, A.2.2.2.2.2.1.1, nI_ltI, Nat.not_lt_zero, inb_nI, nI_clamp, e1, jbn, isZ1]
    · unfold jM_back
      simp (disch := omega) only [litI, obind, nI_eq, if_true, if_false, if_neg, if_pos, c_accept, c_refuse, c_deny, c_grant, m_good, m_no, m_isNot, (MA_G M).2.2.2.2.2.2.1, m_in_t hi, pk_mul, hcopy, jbn]
  · refine ⟨nI 0, cX hc 1, mX (mG hm) 1, ?_, ?_, RelX V A C (MA_G M) (by omega)⟩
    · unfold jX_back
      simp (disch := omega) only [litI, obind, nI_eq, if_true, if_false, if_neg, if_pos, c_accept, c_refuse, c_deny, c_grant, m_good, m_no, m_isNot, A.2.2.2.2.2.1.1, isZ0]
      rcases inN_or a (n := im) (by omega) with q | q | q
      · exact absurd q ha
      · simp only [q, if_true]
      · simp only [q, if_false]
        split <;> rfl
    · unfold jM_back
      rw [m_good, obind, (MA_G M).2.2.2.2.2.2.1]
      simp (disch := omega) only [litI, obind, nI_eq, if_true, if_false, if_neg, if_pos, c_accept, c_refuse, c_deny, c_grant, m_good, m_no, m_isNot, m_in_f (n := im) (by omega) ha, isZ0]
