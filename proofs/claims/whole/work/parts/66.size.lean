/-! ===== pure: size ===== -/
theorem op_size : so_size Rel := by
  intro hc hm hr a
  have hr2 := RelT hr (nI 0)
  obtain ⟨R, S, U, K, T, tp, un, im, nx, fa, tr, pl, V, A, C, M, htr, h10, h11, h4⟩ := hr
  have I := V.1; have WI := V.2.1; have B := A.1; have W := A.2.1; have MR := M.1; have MS := M.2.1; have hb := M.2.2.2.2.2.2.2.2; have MR1 := (MA_G M).1; have MS1 := (MA_G M).2.1; have hb1 := (MA_G M).2.2.2.2.2.2.2.2; have hR := Rsm I; have hw := WI.1
  have hwn := lt24 I (wnt_lt R)
  have hw1 := WI.2.1
  have M1 : MA (uI hm 32 0 0 (nI 0)) R S U K T tp un im fa := MA_of M (fun k i j hk => gI_uI_n (by omega))
  have fin : ∀ v, jX_size hc a = some v → jM_size hm a = some (v, uI hm 32 0 0 (nI 0)) → ∃ r hm', jX_size hc a = some r ∧ jM_size hm a = some (r, hm') ∧ Rel hc hm' := fun v q1 q2 => ⟨v, _, q1, q2, hr2⟩
  by_cases ha : inN a 13
  · obtain ⟨k, hk, rfl⟩ := ha
    by_cases h0 : R 0 = 0
    · have hz := V.2.2.2.2.2.2 h0
      have hS := WI.2.2.1 h0
      have hRz : R 1 = 0 ∧ R 2 = 0 ∧ R 3 = 0 ∧ R 4 = 0 ∧ R 5 = 0 ∧ R 6 = 0 := by
        rcases I.1 with q | q <;> omega
      have hnc : nC R = 0 := by unfold nC; rw [h0, Nat.zero_mul]
      have hwz : wnt R = 0 := by
        have := wnt_lt R
        rw [hnc] at this
        omega
      by_cases h12 : k = 12
      · refine fin (nI tp) ?_ ?_
        · unfold jX_size
          simp (disch := omega) only [litI, nI_eq, h12, if_neg, if_pos, if_true, if_false, A.2.2.2.1.1]
        · unfold jM_size
          rw [jbn, if_pos (show nI k = 12 by rw [h12]; rfl)]
          exact congrArg (fun x => some (x, uI hm 32 0 0 (nI 0))) M1.2.2.2.2.1.1
      · refine fin (nI 0) ?_ ?_
        · unfold jX_size
          have hcase : k = 0 ∨ k = 1 ∨ k = 2 ∨ k = 3 ∨ k = 4 ∨ k = 5 ∨ k = 6 ∨ k = 7 ∨ k = 8 ∨ k = 9 ∨ k = 10 ∨ k = 11 := by omega
          rcases hcase with rfl | rfl | rfl | rfl | rfl | rfl | rfl | rfl | rfl | rfl | rfl | rfl <;> simp (disch := omega) only [litI, nI_eq, if_neg, if_pos, if_true, if_false, B.1.1, B.1.2.1, B.1.2.2.1, B.1.2.2.2.1, B.1.2.2.2.2.1, B.1.2.2.2.2.2.1, B.1.2.2.2.2.2.2, W.1, W.2.1, hRz.1, hRz.2.1, hRz.2.2.1, hRz.2.2.2.1, hRz.2.2.2.2.1, hRz.2.2.2.2.2, h0, hS.1, hS.2, A.2.2.2.2.1.1, A.2.2.2.2.2.1.1, hz.1, hz.2, c_wantedCells B I, obind, hwz]
          rw [c_bitCount (by decide), obind, bP_0]
        · unfold jM_size
          have e14 : gI (uI hm 32 0 0 0) 32 0 14 = 0 := M1.2.2.2.2.2.2.2.2.trans (by rw [hbk_0 h0]; rfl)
          have e12 : ¬ nI k = 12 := fun z => h12 ((nI_eq (by omega) (by omega)).1 (z : nI k = nI 12))
          have ew : jM_within (nI k) 0 11 = some (nI 1) := m_within_t (a := 0) (b := 11) (Nat.zero_le _) (by omega) (by decide)
          have e1 : ¬ nI 1 = 0 := by decide
          rw [jbn, if_neg e12, if_pos e14, ew, obind, if_neg e1]
          rfl
    · have hcase : k = 0 ∨ k = 1 ∨ k = 2 ∨ k = 3 ∨ k = 4 ∨ k = 5 ∨ k = 6 ∨ k = 7 ∨ k = 8 ∨ k = 9 ∨ k = 10 ∨ k = 11 ∨ k = 12 := by omega
      rcases hcase with rfl | rfl | rfl | rfl | rfl | rfl | rfl | rfl | rfl | rfl | rfl | rfl | rfl
      · exact fin (nI (R 0)) (by unfold jX_size; simp (disch := omega) only [litI, nI_eq, if_neg, if_pos, if_true, if_false, B.1.1]) (by unfold jM_size; simp (disch := omega) only [litI, nI_eq, if_neg, if_pos, if_true, if_false, jbn, M1.2.2.2.2.2.2.2.2, hbk_1 h0, inb_nI, nI_clamp, M1.1 0])
      · exact fin (nI (R 1)) (by unfold jX_size; simp (disch := omega) only [litI, nI_eq, if_neg, if_pos, if_true, if_false, B.1.2.1]) (by unfold jM_size; simp (disch := omega) only [litI, nI_eq, if_neg, if_pos, if_true, if_false, jbn, M1.2.2.2.2.2.2.2.2, hbk_1 h0, inb_nI, nI_clamp, M1.1 1])
      · exact fin (nI (R 2)) (by unfold jX_size; simp (disch := omega) only [litI, nI_eq, if_neg, if_pos, if_true, if_false, B.1.2.2.1]) (by unfold jM_size; simp (disch := omega) only [litI, nI_eq, if_neg, if_pos, if_true, if_false, jbn, M1.2.2.2.2.2.2.2.2, hbk_1 h0, inb_nI, nI_clamp, M1.1 2])
      · exact fin (nI (R 3)) (by unfold jX_size; simp (disch := omega) only [litI, nI_eq, if_neg, if_pos, if_true, if_false, B.1.2.2.2.1]) (by unfold jM_size; simp (disch := omega) only [litI, nI_eq, if_neg, if_pos, if_true, if_false, jbn, M1.2.2.2.2.2.2.2.2, hbk_1 h0, inb_nI, nI_clamp, M1.1 3])
      · exact fin (nI (R 4)) (by unfold jX_size; simp (disch := omega) only [litI, nI_eq, if_neg, if_pos, if_true, if_false, B.1.2.2.2.2.1]) (by unfold jM_size; simp (disch := omega) only [litI, nI_eq, if_neg, if_pos, if_true, if_false, jbn, M1.2.2.2.2.2.2.2.2, hbk_1 h0, inb_nI, nI_clamp, M1.1 4])
      · exact fin (nI (R 5)) (by unfold jX_size; simp (disch := omega) only [litI, nI_eq, if_neg, if_pos, if_true, if_false, B.1.2.2.2.2.2.1]) (by unfold jM_size; simp (disch := omega) only [litI, nI_eq, if_neg, if_pos, if_true, if_false, jbn, M1.2.2.2.2.2.2.2.2, hbk_1 h0, inb_nI, nI_clamp, M1.1 5])
      · exact fin (nI (S 0)) (by unfold jX_size; simp (disch := omega) only [litI, nI_eq, if_neg, if_pos, if_true, if_false, W.1]) (by unfold jM_size; simp (disch := omega) only [litI, nI_eq, if_neg, if_pos, if_true, if_false, jbn, M1.2.2.2.2.2.2.2.2, hbk_1 h0, inb_nI, nI_clamp, M1.2.1 0])
      · exact fin (nI (R 6)) (by unfold jX_size; simp (disch := omega) only [litI, nI_eq, if_neg, if_pos, if_true, if_false, B.1.2.2.2.2.2.2]) (by unfold jM_size; simp (disch := omega) only [litI, nI_eq, if_neg, if_pos, if_true, if_false, jbn, M1.2.2.2.2.2.2.2.2, hbk_1 h0, inb_nI, nI_clamp, M1.1 6])
      · refine fin (nI (bP (wnt R) 24)) ?_ ?_
        · unfold jX_size
          simp (disch := omega) only [litI, nI_eq, if_neg, if_pos, if_true, if_false, c_wantedCells B I, obind]
          rw [c_bitCount hwn, obind]
        · unfold jM_size
          simp (disch := omega) only [litI, nI_eq, if_neg, if_pos, if_true, if_false, jbn, M1.2.2.2.2.2.2.2.2, hbk_1 h0, m_wantedCells M1.1 I, obind, m_bits (a := wnt R)]
      · refine fin (nI (S 1)) ?_ ?_
        · unfold jX_size
          simp (disch := omega) only [litI, nI_eq, if_neg, if_pos, if_true, if_false, W.2.1]
          by_cases hq : S 1 = 0
          · rw [if_pos hq, hq]
          · rw [if_neg hq, show S 1 = 1 by omega]
        · unfold jM_size
          simp (disch := omega) only [litI, nI_eq, if_neg, if_pos, if_true, if_false, jbn, M1.2.2.2.2.2.2.2.2, hbk_1 h0, inb_nI, nI_clamp, M1.2.1 1]
      · exact fin (nI un) (by unfold jX_size; simp (disch := omega) only [litI, nI_eq, if_neg, if_pos, if_true, if_false, A.2.2.2.2.1.1]) (by unfold jM_size; simp (disch := omega) only [litI, nI_eq, if_neg, if_pos, if_true, if_false, jbn, M1.2.2.2.2.2.2.2.2, hbk_1 h0, M1.2.2.2.2.2.1])
      · exact fin (nI im) (by unfold jX_size; simp (disch := omega) only [litI, nI_eq, if_neg, if_pos, if_true, if_false, A.2.2.2.2.2.1.1]) (by unfold jM_size; simp (disch := omega) only [litI, nI_eq, if_neg, if_pos, if_true, if_false, jbn, M1.2.2.2.2.2.2.2.2, hbk_1 h0, M1.2.2.2.2.2.2.1])
      · exact fin (nI tp) (by unfold jX_size; simp (disch := omega) only [litI, nI_eq, if_neg, if_pos, if_true, if_false, A.2.2.2.1.1]) (by unfold jM_size; simp (disch := omega) only [litI, nI_eq, if_neg, if_pos, if_true, if_false, jbn, M1.2.2.2.2.1.1])
  · have hne : ∀ k, k < 13 → ¬ a = nI k := fun k hk z => ha ⟨k, hk, z⟩
    have hn12 : ¬ inN a (11 + 1) := fun ⟨k, hk, z⟩ => ha ⟨k, by omega, z⟩
    refine fin (-nI 1) ?_ ?_
    · unfold jX_size
      simp only [litI, hne 0 (by omega), hne 1 (by omega), hne 2 (by omega), hne 3 (by omega), hne 4 (by omega), hne 5 (by omega), hne 6 (by omega), hne 7 (by omega), hne 8 (by omega), hne 9 (by omega), hne 10 (by omega), hne 11 (by omega), hne 12 (by omega), if_false]
    · unfold jM_size
      simp only [litI, jbn, hne 0 (by omega), hne 1 (by omega), hne 2 (by omega), hne 3 (by omega), hne 4 (by omega), hne 5 (by omega), hne 6 (by omega), hne 7 (by omega), hne 8 (by omega), hne 9 (by omega), hne 10 (by omega), hne 11 (by omega), hne 12 (by omega), if_false, m_within_f (b := 11) (by omega) hn12, obind, if_true]
      split <;> rfl
