/-! ===== pure: what is asked, one after the other ===== -/
theorem RelT {hc hm : AH} (hr : Rel hc hm) (v : Int32) : Rel hc (uI hm 32 0 0 v) := by
  obtain ⟨R, S, U, K, T, tp, un, im, nx, fa, tr, pl, V, A, C, M, htr, h10, h11, h4⟩ := hr
  exact ⟨R, S, U, K, T, tp, un, im, nx, fa, tr, pl, V, A, C, MA_of M (fun k i j hk => gI_uI_n (by omega)), htr, h10, (gI_uI_n (by omega)).trans h11, fun z => ⟨(h4 z).1, (gI_uI_n (by omega)).trans (h4 z).2⟩⟩
theorem hbk_1 {R : Nat → Nat} (h : R 0 ≠ 0) : hbk R = 1 := if_neg h
theorem hbk_0 {R : Nat → Nat} (h : R 0 = 0) : hbk R = 0 := if_pos h
theorem op_fault : so_fault Rel := by
  intro hc hm hr
  have hr2 := RelT hr (nI 0)
  obtain ⟨R, S, U, K, T, tp, un, im, nx, fa, tr, pl, V, A, C, M, htr, h10, h11, h4⟩ := hr
  refine ⟨nI fa, uI hm 32 0 0 (nI 0), ?_, ?_, hr2⟩
  · unfold jX_fault
    rw [A.2.2.2.2.2.2]
  · unfold jM_fault
    simp only [jbn, litI]
    rw [gI_uI_n (by omega), M.2.2.2.2.2.2.2.1]
theorem op_trouble : so_trouble Rel := by
  intro hc hm hr
  have hr2 := RelT hr (nI 0)
  obtain ⟨R, S, U, K, T, tp, un, im, nx, fa, tr, pl, V, A, C, M, htr, h10, h11, h4⟩ := hr
  refine ⟨nI tr, uI hm 32 0 0 (nI 0), ?_, ?_, hr2⟩
  · unfold jX_trouble
    rw [h10]
  · unfold jM_trouble
    simp only [jbn, litI]
    rw [gI_uI_n (by omega), h11]
theorem op_where : so_where Rel := by
  intro hc hm hr
  have hr2 := RelT hr (nI 0)
  obtain ⟨R, S, U, K, T, tp, un, im, nx, fa, tr, pl, V, A, C, M, htr, h10, h11, h4⟩ := hr
  refine ⟨if tr = 4 then nI pl else -nI 1, uI hm 32 0 0 (nI 0), ?_, ?_, hr2⟩
  · unfold jX_where
    rw [h10]
    simp (disch := omega) only [litI, nI_eq]
    by_cases ht : tr = 4
    · rw [if_pos ht, if_pos ht, (h4 ht).1]
    · rw [if_neg ht, if_neg ht]
  · unfold jM_where
    simp only [jbn, litI]
    rw [gI_uI_n (by omega), gI_uI_n (by omega), h11]
    simp (disch := omega) only [nI_eq]
    by_cases ht : tr = 4
    · rw [if_pos ht, if_pos ht, (h4 ht).2]
    · rw [if_neg ht, if_neg ht]
theorem op_shows : so_shows Rel := by
  intro hc hm hr a b
  obtain ⟨R, S, U, K, T, tp, un, im, nx, fa, tr, pl, V, A, C, M, htr, h10, h11, h4⟩ := hr
  have I := V.1; have WI := V.2.1; have B := A.1; have W := A.2.1; have MR := M.1; have MS := M.2.1; have hb := M.2.2.2.2.2.2.2.2; have MR1 := (MA_G M).1; have MS1 := (MA_G M).2.1; have hb1 := (MA_G M).2.2.2.2.2.2.2.2; have hR := Rsm I; have hw := WI.1
  by_cases hcell : inN a (R 0) ∧ inN b (R 1)
  · obtain ⟨⟨x, hx, rfl⟩, ⟨y, hy, rfl⟩⟩ := hcell
    obtain ⟨c1, c2⟩ := cellb I hx hy
    refine ⟨cv (shn S (R 0 * y + x)), cX hc 0, mG hm, ?_, ?_, RelG V A C M⟩
    · unfold jX_shows
      simp (disch := omega) only [litI, obind, nI_eq, if_true, if_false, if_neg, if_pos, c_accept, c_refuse, c_deny, c_grant, m_good, m_no, m_isNot, c_hasCell_t B I hx hy, c_cellAt B, c_shownAt W WI I c2]
    · unfold jM_shows
      simp (disch := omega) only [litI, obind, nI_eq, if_true, if_false, if_neg, if_pos, c_accept, c_refuse, c_deny, c_grant, m_good, m_no, m_isNot, m_isCell_t MR1 I hb1 hx hy, m_cellOf MR1, m_shown MS1 WI I c2]
  · refine ⟨-nI 1, cX hc 1, mX (mG hm) 1, ?_, ?_, RelX V A C (MA_G M) (by omega)⟩
    · unfold jX_shows
      simp (disch := omega) only [litI, obind, nI_eq, if_true, if_false, if_neg, if_pos, c_accept, c_refuse, c_deny, c_grant, m_good, m_no, m_isNot, c_hasCell_f B I hcell]
    · unfold jM_shows
      simp (disch := omega) only [litI, obind, nI_eq, if_true, if_false, if_neg, if_pos, c_accept, c_refuse, c_deny, c_grant, m_good, m_no, m_isNot, m_isCell_f MR1 I hb1 hcell]
theorem op_whose : so_whose Rel := by
  intro hc hm hr a b
  obtain ⟨R, S, U, K, T, tp, un, im, nx, fa, tr, pl, V, A, C, M, htr, h10, h11, h4⟩ := hr
  have I := V.1; have WI := V.2.1; have B := A.1; have W := A.2.1; have MR := M.1; have MS := M.2.1; have hb := M.2.2.2.2.2.2.2.2; have MR1 := (MA_G M).1; have MS1 := (MA_G M).2.1; have hb1 := (MA_G M).2.2.2.2.2.2.2.2; have hR := Rsm I; have hw := WI.1
  by_cases hcell : inN a (R 0) ∧ inN b (R 1)
  · obtain ⟨⟨x, hx, rfl⟩, ⟨y, hy, rfl⟩⟩ := hcell
    obtain ⟨c1, c2⟩ := cellb I hx hy
    refine ⟨if und S (R 0 * y + x) (S 0) 0 = 0 then -nI 2 else nI (hd S (und S (R 0 * y + x) (S 0) 0 - 1)), cX hc 0, mG hm, ?_, ?_, RelG V A C M⟩
    · unfold jX_whose
      simp (disch := omega) only [litI, obind, nI_eq, if_true, if_false, if_neg, if_pos, c_accept, c_refuse, c_deny, c_grant, m_good, m_no, m_isNot, c_hasCell_t B I hx hy, c_cellAt B, c_shownHandAt W WI I c2]
    · have hu := und_le S (R 0 * y + x) (S 0) 0
      unfold jM_whose
      simp (disch := omega) only [litI, obind, nI_eq, if_true, if_false, if_neg, if_pos, c_accept, c_refuse, c_deny, c_grant, m_good, m_no, m_isNot, m_isCell_t MR1 I hb1 hx hy, m_cellOf MR1, m_under MS1 WI I c2, cv_eq2]
      by_cases h0 : und S (R 0 * y + x) (S 0) 0 = 0
      · rw [if_pos h0, if_pos h0]
      · rw [if_neg h0, if_neg h0, cv_pos (by omega)]
        simp (disch := omega) only [pk_mul, nI_add, inb_nI, nI_clamp, if_true, MS_hd MS1]
  · refine ⟨-nI 1, cX hc 1, mX (mG hm) 1, ?_, ?_, RelX V A C (MA_G M) (by omega)⟩
    · unfold jX_whose
      simp (disch := omega) only [litI, obind, nI_eq, if_true, if_false, if_neg, if_pos, c_accept, c_refuse, c_deny, c_grant, m_good, m_no, m_isNot, c_hasCell_f B I hcell]
    · unfold jM_whose
      simp (disch := omega) only [litI, obind, nI_eq, if_true, if_false, if_neg, if_pos, c_accept, c_refuse, c_deny, c_grant, m_good, m_no, m_isNot, m_isCell_f MR1 I hb1 hcell]
theorem op_was : so_was Rel := by
  intro hc hm hr a b c
  obtain ⟨R, S, U, K, T, tp, un, im, nx, fa, tr, pl, V, A, C, M, htr, h10, h11, h4⟩ := hr
  have I := V.1; have WI := V.2.1; have B := A.1; have W := A.2.1; have MR := M.1; have MS := M.2.1; have hb := M.2.2.2.2.2.2.2.2; have MR1 := (MA_G M).1; have MS1 := (MA_G M).2.1; have hb1 := (MA_G M).2.2.2.2.2.2.2.2; have hR := Rsm I; have hw := WI.1
  by_cases hcell : inN a (R 0) ∧ inN b (R 1)
  · obtain ⟨⟨x, hx, rfl⟩, ⟨y, hy, rfl⟩⟩ := hcell
    obtain ⟨c1, c2⟩ := cellb I hx hy
    by_cases hyr : inN c 1000
    · obtain ⟨z, hz, rfl⟩ := hyr
      refine ⟨cv (cin R S (R 0 * y + x) z (S 0)), cX hc 0, mG hm, ?_, ?_, RelG V A C M⟩
      · unfold jX_was
        simp (disch := omega) only [litI, obind, nI_eq, if_true, if_false, if_neg, if_pos, c_accept, c_refuse, c_deny, c_grant, m_good, m_no, m_isNot, c_hasCell_t B I hx hy, c_isYear_t hz, c_cellAt B, c_colourIn B I W WI c2 hz]
      · unfold jM_was
        simp (disch := omega) only [litI, obind, nI_eq, if_true, if_false, if_neg, if_pos, c_accept, c_refuse, c_deny, c_grant, m_good, m_no, m_isNot, m_isCell_t MR1 I hb1 hx hy, m_within_t, m_cellOf MR1, m_shownIn MR1 MS1 WI I c2 hz]
    · refine ⟨-nI 1, cX hc 2, mX (mG hm) 2, ?_, ?_, RelX V A C (MA_G M) (by omega)⟩
      · unfold jX_was
        simp (disch := omega) only [litI, obind, nI_eq, if_true, if_false, if_neg, if_pos, c_accept, c_refuse, c_deny, c_grant, m_good, m_no, m_isNot, c_hasCell_t B I hx hy, c_isYear_f hyr]
      · unfold jM_was
        simp (disch := omega) only [litI, obind, nI_eq, if_true, if_false, if_neg, if_pos, c_accept, c_refuse, c_deny, c_grant, m_good, m_no, m_isNot, m_isCell_t MR1 I hb1 hx hy, m_within_f (b := 999) (by omega) hyr]
  · refine ⟨-nI 1, cX hc 1, mX (mG hm) 1, ?_, ?_, RelX V A C (MA_G M) (by omega)⟩
    · unfold jX_was
      simp (disch := omega) only [litI, obind, nI_eq, if_true, if_false, if_neg, if_pos, c_accept, c_refuse, c_deny, c_grant, m_good, m_no, m_isNot, c_hasCell_f B I hcell]
    · unfold jM_was
      simp (disch := omega) only [litI, obind, nI_eq, if_true, if_false, if_neg, if_pos, c_accept, c_refuse, c_deny, c_grant, m_good, m_no, m_isNot, m_isCell_f MR1 I hb1 hcell]
theorem op_scraped : so_scraped Rel := by
  intro hc hm hr a b c
  obtain ⟨R, S, U, K, T, tp, un, im, nx, fa, tr, pl, V, A, C, M, htr, h10, h11, h4⟩ := hr
  have I := V.1; have WI := V.2.1; have B := A.1; have W := A.2.1; have MR := M.1; have MS := M.2.1; have hb := M.2.2.2.2.2.2.2.2; have MR1 := (MA_G M).1; have MS1 := (MA_G M).2.1; have hb1 := (MA_G M).2.2.2.2.2.2.2.2; have hR := Rsm I; have hw := WI.1
  by_cases hcell : inN a (R 0) ∧ inN b (R 1)
  · obtain ⟨⟨x, hx, rfl⟩, ⟨y, hy, rfl⟩⟩ := hcell
    obtain ⟨c1, c2⟩ := cellb I hx hy
    by_cases hd : c < 0
    · have hd2 : ¬ nI 0 ≤ c := fun z => (Int32.not_lt.mpr z) hd
      refine ⟨-nI 1, cX hc 2, mX (mG hm) 2, ?_, ?_, RelX V A C (MA_G M) (by omega)⟩
      · unfold jX_scraped
        simp (disch := omega) only [litI, obind, nI_eq, if_true, if_false, if_neg, if_pos, c_accept, c_refuse, c_deny, c_grant, m_good, m_no, m_isNot, c_hasCell_t B I hx hy, hd2, if_false]
      · unfold jM_scraped
        simp (disch := omega) only [litI, obind, nI_eq, if_true, if_false, if_neg, if_pos, c_accept, c_refuse, c_deny, c_grant, m_good, m_no, m_isNot, m_isCell_t MR1 I hb1 hx hy, hd2, if_false]
    · obtain ⟨d, hd1, rfl⟩ := nI_of hd
      refine ⟨cv (und S (R 0 * y + x) (S 0) d), cX hc 0, mG hm, ?_, ?_, RelG V A C M⟩
      · unfold jX_scraped
        simp (disch := omega) only [litI, obind, nI_eq, if_true, if_false, if_neg, if_pos, c_accept, c_refuse, c_deny, c_grant, m_good, m_no, m_isNot, c_hasCell_t B I hx hy, nI_leI, c_cellAt B, c_below W WI I c2 hd1]
      · unfold jM_scraped
        simp (disch := omega) only [litI, obind, nI_eq, if_true, if_false, if_neg, if_pos, c_accept, c_refuse, c_deny, c_grant, m_good, m_no, m_isNot, m_isCell_t MR1 I hb1 hx hy, nI_leI, m_cellOf MR1, m_under MS1 WI I c2 hd1]
  · refine ⟨-nI 1, cX hc 1, mX (mG hm) 1, ?_, ?_, RelX V A C (MA_G M) (by omega)⟩
    · unfold jX_scraped
      simp (disch := omega) only [litI, obind, nI_eq, if_true, if_false, if_neg, if_pos, c_accept, c_refuse, c_deny, c_grant, m_good, m_no, m_isNot, c_hasCell_f B I hcell]
    · unfold jM_scraped
      simp (disch := omega) only [litI, obind, nI_eq, if_true, if_false, if_neg, if_pos, c_accept, c_refuse, c_deny, c_grant, m_good, m_no, m_isNot, m_isCell_f MR1 I hb1 hcell]
theorem m_deep24 {h : AH} {R S : Nat → Nat} (MR : MoR h R) (MS : MoS h S) (WI : WkI R S) (I : BkI R) {x y : Nat} (c2 : R 0 * y + x < 24) : jM_deep_24 (nI x) (nI y) FU (nI 0) (nI 0) h = some (nI (lyr S (R 0 * y + x) (S 0)), h) := by
  have h1 := WI.1
  refine up_ind (P := fun n k => jM_deep_24 (nI x) (nI y) n (nI (lyr S (R 0 * y + x) k)) (nI k) h = some (nI (lyr S (R 0 * y + x) (S 0)), h)) (S 0) (fun n => ?_) (fun n k hk ih => ?_) (S 0) 0 FU (by omega) (FU_lt (by omega))
  · rw [jM_deep_24]
    simp (disch := omega) only [litI, jbn, inb_nI, nI_clamp, nI_add, pk_sub, pk_mul, nI_and, nI_or, and31, sh1, nI_dif, nI_bit, nI_shr, nI_eq, nI_ltI, nI_leI, nI_eq_neg, neg_eq_nI, neg_eq_neg, neg_lt_nI, nI_lt_neg, neg_le_nI, nI_le_neg, cv_eq2, nI_tn0, nI_tn1, obind, if_pos, if_neg, Nat.not_lt_zero, eq_self, if_true, if_false, Nat.zero_le, Nat.add_sub_cancel, nI_m1, nI_dn, MS 0]
  · have hp := ptb WI I (r := k) (c := R 0 * y + x) (by omega) c2
    rw [lyr] at ih
    rw [jM_deep_24]
    simp (disch := omega) only [litI, jbn, inb_nI, nI_clamp, nI_add, pk_sub, pk_mul, nI_and, nI_or, and31, sh1, nI_dif, nI_bit, nI_shr, nI_eq, nI_ltI, nI_leI, nI_eq_neg, neg_eq_nI, neg_eq_neg, neg_lt_nI, nI_lt_neg, neg_le_nI, nI_le_neg, cv_eq2, nI_tn0, nI_tn1, obind, if_pos, if_neg, Nat.not_lt_zero, eq_self, if_true, if_false, Nat.zero_le, Nat.add_sub_cancel, nI_m1, nI_dn, MS 0, m_cellOf MR, m_paintOf MS (w := k) (by omega) c2 hp, Nat.add_zero]
    by_cases h0 : pt S k (R 0 * y + x) = 0
    · rw [if_pos h0]; rw [if_pos h0] at ih; exact ih
    · rw [if_neg h0]; rw [if_neg h0] at ih; exact ih
theorem op_deep : so_deep Rel := by
  intro hc hm hr a b
  obtain ⟨R, S, U, K, T, tp, un, im, nx, fa, tr, pl, V, A, C, M, htr, h10, h11, h4⟩ := hr
  have I := V.1; have WI := V.2.1; have B := A.1; have W := A.2.1; have MR := M.1; have MS := M.2.1; have hb := M.2.2.2.2.2.2.2.2; have MR1 := (MA_G M).1; have MS1 := (MA_G M).2.1; have hb1 := (MA_G M).2.2.2.2.2.2.2.2; have hR := Rsm I; have hw := WI.1
  by_cases hcell : inN a (R 0) ∧ inN b (R 1)
  · obtain ⟨⟨x, hx, rfl⟩, ⟨y, hy, rfl⟩⟩ := hcell
    obtain ⟨c1, c2⟩ := cellb I hx hy
    refine ⟨nI (lyr S (R 0 * y + x) (S 0)), cX hc 0, mG hm, ?_, ?_, RelG V A C M⟩
    · unfold jX_deep
      simp (disch := omega) only [litI, obind, nI_eq, if_true, if_false, if_neg, if_pos, c_accept, c_refuse, c_deny, c_grant, m_good, m_no, m_isNot, c_hasCell_t B I hx hy, c_cellAt B, c_layersAt W WI I c2]
    · unfold jM_deep
      simp (disch := omega) only [litI, obind, nI_eq, if_true, if_false, if_neg, if_pos, c_accept, c_refuse, c_deny, c_grant, m_good, m_no, m_isNot, m_isCell_t MR1 I hb1 hx hy, m_deep24 MR1 MS1 WI I c2]
  · refine ⟨-nI 1, cX hc 1, mX (mG hm) 1, ?_, ?_, RelX V A C (MA_G M) (by omega)⟩
    · unfold jX_deep
      simp (disch := omega) only [litI, obind, nI_eq, if_true, if_false, if_neg, if_pos, c_accept, c_refuse, c_deny, c_grant, m_good, m_no, m_isNot, c_hasCell_f B I hcell]
    · unfold jM_deep
      simp (disch := omega) only [litI, obind, nI_eq, if_true, if_false, if_neg, if_pos, c_accept, c_refuse, c_deny, c_grant, m_good, m_no, m_isNot, m_isCell_f MR1 I hb1 hcell]
theorem op_relief : so_relief Rel := by
  intro hc hm hr a b
  obtain ⟨R, S, U, K, T, tp, un, im, nx, fa, tr, pl, V, A, C, M, htr, h10, h11, h4⟩ := hr
  have I := V.1; have WI := V.2.1; have B := A.1; have W := A.2.1; have MR := M.1; have MS := M.2.1; have hb := M.2.2.2.2.2.2.2.2; have MR1 := (MA_G M).1; have MS1 := (MA_G M).2.1; have hb1 := (MA_G M).2.2.2.2.2.2.2.2; have hR := Rsm I; have hw := WI.1
  by_cases hcell : inN a (R 0) ∧ inN b (R 1)
  · obtain ⟨⟨x, hx, rfl⟩, ⟨y, hy, rfl⟩⟩ := hcell
    obtain ⟨c1, c2⟩ := cellb I hx hy
    refine ⟨nI (rlf R S (R 0 * y + x) (S 0)), cX hc 0, mG hm, ?_, ?_, RelG V A C M⟩
    · unfold jX_relief
      simp (disch := omega) only [litI, obind, nI_eq, if_true, if_false, if_neg, if_pos, c_accept, c_refuse, c_deny, c_grant, m_good, m_no, m_isNot, c_hasCell_t B I hx hy, c_thickAt_t B I W WI hx hy c2]
    · unfold jM_relief
      simp (disch := omega) only [litI, obind, nI_eq, if_true, if_false, if_neg, if_pos, c_accept, c_refuse, c_deny, c_grant, m_good, m_no, m_isNot, m_isCell_t MR1 I hb1 hx hy, m_cellOf MR1, m_reliefOf MR1 MS1 WI I c2]
  · refine ⟨-nI 1, cX hc 1, mX (mG hm) 1, ?_, ?_, RelX V A C (MA_G M) (by omega)⟩
    · unfold jX_relief
      simp (disch := omega) only [litI, obind, nI_eq, if_true, if_false, if_neg, if_pos, c_accept, c_refuse, c_deny, c_grant, m_good, m_no, m_isNot, c_hasCell_f B I hcell]
    · unfold jM_relief
      simp (disch := omega) only [litI, obind, nI_eq, if_true, if_false, if_neg, if_pos, c_accept, c_refuse, c_deny, c_grant, m_good, m_no, m_isNot, m_isCell_f MR1 I hb1 hcell]
theorem op_light : so_light Rel := by
  intro hc hm hr a b
  obtain ⟨R, S, U, K, T, tp, un, im, nx, fa, tr, pl, V, A, C, M, htr, h10, h11, h4⟩ := hr
  have I := V.1; have WI := V.2.1; have B := A.1; have W := A.2.1; have MR := M.1; have MS := M.2.1; have hb := M.2.2.2.2.2.2.2.2; have MR1 := (MA_G M).1; have MS1 := (MA_G M).2.1; have hb1 := (MA_G M).2.2.2.2.2.2.2.2; have hR := Rsm I; have hw := WI.1
  by_cases hcell : inN a (R 0) ∧ inN b (R 1)
  · obtain ⟨⟨x, hx, rfl⟩, ⟨y, hy, rfl⟩⟩ := hcell
    obtain ⟨c1, c2⟩ := cellb I hx hy
    have q1 := rlf_le I WI c2 (Nat.le_refl (S 0))
    by_cases hx0 : x = 0
    · have hn : ¬ (inN (nI x - nI 1) (R 0) ∧ inN (nI y) (R 1)) := by
        rintro ⟨⟨z, hz, e⟩, -⟩
        rw [hx0, nI_m1, neg_eq_nI (by omega) (by omega) (by omega)] at e
        exact e
      refine ⟨if rlf R S (R 0 * y + x) (S 0) ≤ 0 then nI 0 else nI 1, cX hc 0, mG hm, ?_, ?_, RelG V A C M⟩
      · unfold jX_light
        simp (disch := omega) only [litI, obind, nI_eq, if_true, if_false, if_neg, if_pos, c_accept, c_refuse, c_deny, c_grant, m_good, m_no, m_isNot, c_hasCell_t B I hx hy, c_thickAt_t B I W WI hx hy c2, c_thickAt_f B I hn, nI_leI]
        split <;> rfl
      · unfold jM_light jM_light_39
        simp (disch := omega) only [litI, obind, nI_eq, if_true, if_false, if_neg, if_pos, c_accept, c_refuse, c_deny, c_grant, m_good, m_no, m_isNot, m_isCell_t MR1 I hb1 hx hy, m_cellOf MR1, m_reliefOf MR1 MS1 WI I c2, nI_leI]
        split <;> rfl
    · obtain ⟨c3, c4⟩ := cellb I (x := x - 1) (y := y) (by omega) hy
      have q2 := rlf_le I WI c4 (Nat.le_refl (S 0))
      refine ⟨if rlf R S (R 0 * y + x) (S 0) ≤ rlf R S (R 0 * y + (x - 1)) (S 0) then nI 0 else nI 1, cX hc 0, mG hm, ?_, ?_, RelG V A C M⟩
      · unfold jX_light
        simp (disch := omega) only [litI, obind, nI_eq, if_true, if_false, if_neg, if_pos, c_accept, c_refuse, c_deny, c_grant, m_good, m_no, m_isNot, c_hasCell_t B I hx hy, pk_sub, c_thickAt_t B I W WI hx hy c2, c_thickAt_t B I W WI (x := x - 1) (by omega) hy c4, nI_leI]
        split <;> rfl
      · unfold jM_light jM_light_39
        simp (disch := omega) only [litI, obind, nI_eq, if_true, if_false, if_neg, if_pos, c_accept, c_refuse, c_deny, c_grant, m_good, m_no, m_isNot, m_isCell_t MR1 I hb1 hx hy, pk_sub, m_cellOf MR1, m_reliefOf MR1 MS1 WI I c2, m_reliefOf MR1 MS1 WI I c4, nI_leI]
        split <;> rfl
  · refine ⟨-nI 1, cX hc 1, mX (mG hm) 1, ?_, ?_, RelX V A C (MA_G M) (by omega)⟩
    · unfold jX_light
      simp (disch := omega) only [litI, obind, nI_eq, if_true, if_false, if_neg, if_pos, c_accept, c_refuse, c_deny, c_grant, m_good, m_no, m_isNot, c_hasCell_f B I hcell]
    · unfold jM_light
      simp (disch := omega) only [litI, obind, nI_eq, if_true, if_false, if_neg, if_pos, c_accept, c_refuse, c_deny, c_grant, m_good, m_no, m_isNot, m_isCell_f MR1 I hb1 hcell]
theorem op_wanted : so_wanted Rel := by
  intro hc hm hr a b
  obtain ⟨R, S, U, K, T, tp, un, im, nx, fa, tr, pl, V, A, C, M, htr, h10, h11, h4⟩ := hr
  have I := V.1; have WI := V.2.1; have B := A.1; have W := A.2.1; have MR := M.1; have MS := M.2.1; have hb := M.2.2.2.2.2.2.2.2; have MR1 := (MA_G M).1; have MS1 := (MA_G M).2.1; have hb1 := (MA_G M).2.2.2.2.2.2.2.2; have hR := Rsm I; have hw := WI.1
  by_cases hcell : inN a (R 0) ∧ inN b (R 1)
  · obtain ⟨⟨x, hx, rfl⟩, ⟨y, hy, rfl⟩⟩ := hcell
    obtain ⟨c1, c2⟩ := cellb I hx hy
    refine ⟨cv (R (46 + (R 0 * y + x))), cX hc 0, mG hm, ?_, ?_, RelG V A C M⟩
    · unfold jX_wanted
      simp (disch := omega) only [litI, obind, nI_eq, if_true, if_false, if_neg, if_pos, c_accept, c_refuse, c_deny, c_grant, m_good, m_no, m_isNot, c_hasCell_t B I hx hy, c_cellAt B, c_wantedAt B I c1]
    · unfold jM_wanted
      simp (disch := omega) only [litI, obind, nI_eq, if_true, if_false, if_neg, if_pos, c_accept, c_refuse, c_deny, c_grant, m_good, m_no, m_isNot, m_isCell_t MR1 I hb1 hx hy, m_cellOf MR1, m_wantedAt MR1 I c2]
  · refine ⟨-nI 1, cX hc 1, mX (mG hm) 1, ?_, ?_, RelX V A C (MA_G M) (by omega)⟩
    · unfold jX_wanted
      simp (disch := omega) only [litI, obind, nI_eq, if_true, if_false, if_neg, if_pos, c_accept, c_refuse, c_deny, c_grant, m_good, m_no, m_isNot, c_hasCell_f B I hcell]
    · unfold jM_wanted
      simp (disch := omega) only [litI, obind, nI_eq, if_true, if_false, if_neg, if_pos, c_accept, c_refuse, c_deny, c_grant, m_good, m_no, m_isNot, m_isCell_f MR1 I hb1 hcell]
theorem op_wet : so_wet Rel := by
  intro hc hm hr a b
  obtain ⟨R, S, U, K, T, tp, un, im, nx, fa, tr, pl, V, A, C, M, htr, h10, h11, h4⟩ := hr
  have I := V.1; have WI := V.2.1; have B := A.1; have W := A.2.1; have MR := M.1; have MS := M.2.1; have hb := M.2.2.2.2.2.2.2.2; have MR1 := (MA_G M).1; have MS1 := (MA_G M).2.1; have hb1 := (MA_G M).2.2.2.2.2.2.2.2; have hR := Rsm I; have hw := WI.1
  have hw1 := WI.2.1
  by_cases hcell : inN a (R 0) ∧ inN b (R 1)
  · obtain ⟨⟨x, hx, rfl⟩, ⟨y, hy, rfl⟩⟩ := hcell
    obtain ⟨c1, c2⟩ := cellb I hx hy
    by_cases hwt : S 1 = 0
    · refine ⟨-nI 1, cX hc 6, mX (mG hm) 6, ?_, ?_, RelX V A C (MA_G M) (by omega)⟩
      · unfold jX_wet
        simp (disch := omega) only [litI, obind, nI_eq, if_true, if_false, if_neg, if_pos, c_accept, c_refuse, c_deny, c_grant, m_good, m_no, m_isNot, c_hasCell_t B I hx hy, W.2.1]
      · unfold jM_wet
        simp (disch := omega) only [litI, obind, nI_eq, if_true, if_false, if_neg, if_pos, c_accept, c_refuse, c_deny, c_grant, m_good, m_no, m_isNot, m_isCell_t MR1 I hb1 hx hy, inb_nI, nI_clamp, MS1 1]
    · refine ⟨cv (pt S (S 0) (R 0 * y + x)), cX hc 0, mG hm, ?_, ?_, RelG V A C M⟩
      · unfold jX_wet
        simp (disch := omega) only [litI, obind, nI_eq, if_true, if_false, if_neg, if_pos, c_accept, c_refuse, c_deny, c_grant, m_good, m_no, m_isNot, c_hasCell_t B I hx hy, W.2.1, W.1, c_cellAt B, c_colourAt W WI (r := S 0) (by omega) c2]
      · have hp := ptb WI I (r := S 0) (c := R 0 * y + x) (by omega) c2
        unfold jM_wet
        simp (disch := omega) only [litI, obind, nI_eq, if_true, if_false, if_neg, if_pos, c_accept, c_refuse, c_deny, c_grant, m_good, m_no, m_isNot, m_isCell_t MR1 I hb1 hx hy, inb_nI, nI_clamp, MS1 1, MS1 0, m_cellOf MR1, m_paintOf MS1 (w := S 0) (by omega) c2 hp]
  · refine ⟨-nI 1, cX hc 1, mX (mG hm) 1, ?_, ?_, RelX V A C (MA_G M) (by omega)⟩
    · unfold jX_wet
      simp (disch := omega) only [litI, obind, nI_eq, if_true, if_false, if_neg, if_pos, c_accept, c_refuse, c_deny, c_grant, m_good, m_no, m_isNot, c_hasCell_f B I hcell]
    · unfold jM_wet
      simp (disch := omega) only [litI, obind, nI_eq, if_true, if_false, if_neg, if_pos, c_accept, c_refuse, c_deny, c_grant, m_good, m_no, m_isNot, m_isCell_f MR1 I hb1 hcell]
theorem op_paint : so_paint Rel := by
  intro hc hm hr w a b
  obtain ⟨R, S, U, K, T, tp, un, im, nx, fa, tr, pl, V, A, C, M, htr, h10, h11, h4⟩ := hr
  have I := V.1; have WI := V.2.1; have B := A.1; have W := A.2.1; have MR := M.1; have MS := M.2.1; have hb := M.2.2.2.2.2.2.2.2; have MR1 := (MA_G M).1; have MS1 := (MA_G M).2.1; have hb1 := (MA_G M).2.2.2.2.2.2.2.2; have hR := Rsm I; have hw := WI.1
  by_cases hwk : inN w (S 0)
  · obtain ⟨r, hr, rfl⟩ := hwk
    by_cases hcell : inN a (R 0) ∧ inN b (R 1)
    · obtain ⟨⟨x, hx, rfl⟩, ⟨y, hy, rfl⟩⟩ := hcell
      obtain ⟨c1, c2⟩ := cellb I hx hy
      have hp := ptb WI I (r := r) (c := R 0 * y + x) (by omega) c2
      refine ⟨cv (pt S r (R 0 * y + x)), cX hc 0, mG hm, ?_, ?_, RelG V A C M⟩
      · unfold jX_paint
        simp (disch := omega) only [litI, obind, nI_eq, if_true, if_false, if_neg, if_pos, c_accept, c_refuse, c_deny, c_grant, m_good, m_no, m_isNot, c_has_t W WI hr, c_hasCell_t B I hx hy, c_cellAt B, c_colourAt W WI (r := r) (by omega) c2]
      · unfold jM_paint
        simp (disch := omega) only [litI, obind, nI_eq, if_true, if_false, if_neg, if_pos, c_accept, c_refuse, c_deny, c_grant, m_good, m_no, m_isNot, m_isWork_t MS1 WI hb1 hr, m_isCell_t MR1 I hb1 hx hy, m_cellOf MR1, m_paintOf MS1 (w := r) (by omega) c2 hp]
    · refine ⟨-nI 1, cX hc 1, mX (mG hm) 1, ?_, ?_, RelX V A C (MA_G M) (by omega)⟩
      · unfold jX_paint
        simp (disch := omega) only [litI, obind, nI_eq, if_true, if_false, if_neg, if_pos, c_accept, c_refuse, c_deny, c_grant, m_good, m_no, m_isNot, c_has_t W WI hr, c_hasCell_f B I hcell]
      · unfold jM_paint
        simp (disch := omega) only [litI, obind, nI_eq, if_true, if_false, if_neg, if_pos, c_accept, c_refuse, c_deny, c_grant, m_good, m_no, m_isNot, m_isWork_t MS1 WI hb1 hr, m_isCell_f MR1 I hb1 hcell]
  · refine ⟨-nI 1, cX hc 1, mX (mG hm) 1, ?_, ?_, RelX V A C (MA_G M) (by omega)⟩
    · unfold jX_paint
      simp (disch := omega) only [litI, obind, nI_eq, if_true, if_false, if_neg, if_pos, c_accept, c_refuse, c_deny, c_grant, m_good, m_no, m_isNot, c_has_f W WI hwk]
    · unfold jM_paint
      simp (disch := omega) only [litI, obind, nI_eq, if_true, if_false, if_neg, if_pos, c_accept, c_refuse, c_deny, c_grant, m_good, m_no, m_isNot, m_isWork_f MS1 WI hb1 hwk]
theorem op_judged : so_judged Rel := by
  intro hc hm hr w
  obtain ⟨R, S, U, K, T, tp, un, im, nx, fa, tr, pl, V, A, C, M, htr, h10, h11, h4⟩ := hr
  have I := V.1; have WI := V.2.1; have B := A.1; have W := A.2.1; have MR := M.1; have MS := M.2.1; have hb := M.2.2.2.2.2.2.2.2; have MR1 := (MA_G M).1; have MS1 := (MA_G M).2.1; have hb1 := (MA_G M).2.2.2.2.2.2.2.2; have hR := Rsm I; have hw := WI.1
  by_cases hwk : inN w (S 0)
  · obtain ⟨r, hr, rfl⟩ := hwk
    refine ⟨nI (jdg R S r), cX hc 0, mG hm, ?_, ?_, RelG V A C M⟩
    · unfold jX_judged
      simp (disch := omega) only [litI, obind, nI_eq, if_true, if_false, if_neg, if_pos, c_accept, c_refuse, c_deny, c_grant, m_good, m_no, m_isNot, c_has_t W WI hr, c_verdict B I W WI (r := r) (by omega)]
    · unfold jM_judged
      simp (disch := omega) only [litI, obind, nI_eq, if_true, if_false, if_neg, if_pos, c_accept, c_refuse, c_deny, c_grant, m_good, m_no, m_isNot, m_isWork_t MS1 WI hb1 hr, m_judgedOf MR1 MS1 WI I (r := r) (by omega)]
  · refine ⟨-nI 1, cX hc 1, mX (mG hm) 1, ?_, ?_, RelX V A C (MA_G M) (by omega)⟩
    · unfold jX_judged
      simp (disch := omega) only [litI, obind, nI_eq, if_true, if_false, if_neg, if_pos, c_accept, c_refuse, c_deny, c_grant, m_good, m_no, m_isNot, c_has_f W WI hwk]
    · unfold jM_judged
      simp (disch := omega) only [litI, obind, nI_eq, if_true, if_false, if_neg, if_pos, c_accept, c_refuse, c_deny, c_grant, m_good, m_no, m_isNot, m_isWork_f MS1 WI hb1 hwk]
theorem op_breaks : so_breaks Rel := by
  intro hc hm hr w
  obtain ⟨R, S, U, K, T, tp, un, im, nx, fa, tr, pl, V, A, C, M, htr, h10, h11, h4⟩ := hr
  have I := V.1; have WI := V.2.1; have B := A.1; have W := A.2.1; have MR := M.1; have MS := M.2.1; have hb := M.2.2.2.2.2.2.2.2; have MR1 := (MA_G M).1; have MS1 := (MA_G M).2.1; have hb1 := (MA_G M).2.2.2.2.2.2.2.2; have hR := Rsm I; have hw := WI.1
  by_cases hwk : inN w (S 0)
  · obtain ⟨r, hr, rfl⟩ := hwk
    refine ⟨cv (brk R S r), cX hc 0, mG hm, ?_, ?_, RelG V A C M⟩
    · unfold jX_breaks
      simp (disch := omega) only [litI, obind, nI_eq, if_true, if_false, if_neg, if_pos, c_accept, c_refuse, c_deny, c_grant, m_good, m_no, m_isNot, c_has_t W WI hr, c_breach B I W WI (r := r) (by omega)]
    · unfold jM_breaks
      simp (disch := omega) only [litI, obind, nI_eq, if_true, if_false, if_neg, if_pos, c_accept, c_refuse, c_deny, c_grant, m_good, m_no, m_isNot, m_isWork_t MS1 WI hb1 hr, m_breaksAt MR1 MS1 WI I (r := r) (by omega)]
  · refine ⟨-nI 1, cX hc 1, mX (mG hm) 1, ?_, ?_, RelX V A C (MA_G M) (by omega)⟩
    · unfold jX_breaks
      simp (disch := omega) only [litI, obind, nI_eq, if_true, if_false, if_neg, if_pos, c_accept, c_refuse, c_deny, c_grant, m_good, m_no, m_isNot, c_has_f W WI hwk]
    · unfold jM_breaks
      simp (disch := omega) only [litI, obind, nI_eq, if_true, if_false, if_neg, if_pos, c_accept, c_refuse, c_deny, c_grant, m_good, m_no, m_isNot, m_isWork_f MS1 WI hb1 hwk]
theorem op_wetJudged : so_wetJudged Rel := by
  intro hc hm hr
  obtain ⟨R, S, U, K, T, tp, un, im, nx, fa, tr, pl, V, A, C, M, htr, h10, h11, h4⟩ := hr
  have I := V.1; have WI := V.2.1; have B := A.1; have W := A.2.1; have MR := M.1; have MS := M.2.1; have hb := M.2.2.2.2.2.2.2.2; have MR1 := (MA_G M).1; have MS1 := (MA_G M).2.1; have hb1 := (MA_G M).2.2.2.2.2.2.2.2; have hR := Rsm I; have hw := WI.1
  have hw1 := WI.2.1
  by_cases hwt : S 1 = 0
  · refine ⟨-nI 1, cX hc 6, mX (mG hm) 6, ?_, ?_, RelX V A C (MA_G M) (by omega)⟩
    · unfold jX_wetJudged
      simp (disch := omega) only [litI, obind, nI_eq, if_true, if_false, if_neg, if_pos, c_accept, c_refuse, c_deny, c_grant, m_good, m_no, m_isNot, W.2.1]
    · unfold jM_wetJudged
      simp (disch := omega) only [litI, obind, nI_eq, if_true, if_false, if_neg, if_pos, c_accept, c_refuse, c_deny, c_grant, m_good, m_no, m_isNot, hb1, inb_nI, nI_clamp, MS1 1]
      split <;> rfl
  · have h0 : R 0 ≠ 0 := fun z => by have := WI.2.2.1 z; omega
    refine ⟨nI (jdg R S (S 0)), cX hc 0, mG hm, ?_, ?_, RelG V A C M⟩
    · unfold jX_wetJudged
      simp (disch := omega) only [litI, obind, nI_eq, if_true, if_false, if_neg, if_pos, c_accept, c_refuse, c_deny, c_grant, m_good, m_no, m_isNot, W.2.1, W.1, c_verdict B I W WI (r := S 0) (by omega)]
    · unfold jM_wetJudged
      simp (disch := omega) only [litI, obind, nI_eq, if_true, if_false, if_neg, if_pos, c_accept, c_refuse, c_deny, c_grant, m_good, m_no, m_isNot, hb1, hbk_1 h0, inb_nI, nI_clamp, MS1 1, MS1 0, m_judgedOf MR1 MS1 WI I (r := S 0) (by omega)]
