/-! ===== pure: the calls that look ahead ===== -/
theorem CA_L {h h' : AH} {R S U K T : Nat → Nat} {tp un im nx fa : Nat} (F : FrL h h') (A : CA h R S U K T tp un im nx fa) : CA h' R S U K T tp un im nx fa := CA_of A (fun k i j _ hk => F.1 k i j (by omega) (by omega)) (by rw [F.2])
theorem CA_F {h h' : AH} {R S U K T : Nat → Nat} {tp un im nx fa : Nat} (F : FrF h h') (A : CA h R S U K T tp un im nx fa) : CA h' R S U K T tp un im nx fa := CA_of A (fun k i j _ hk => F.1 k i j (by omega) (by omega)) (by rw [F.2])
theorem CA_W {h h' : AH} {R S U K T : Nat → Nat} {tp un im nx fa : Nat} (F : FrW h h') (A : CA h R S U K T tp un im nx fa) : CA h' R S U K T tp un im nx fa := CA_of A (fun k i j _ hk => F.1 k i j (by omega)) (by rw [F.2])
theorem CFew_of {h h' : AH} {R : Nat → Nat} (C : CFew h R) (e3 : gI h' 28 0 3 = gI h 28 0 3) (e4 : gI h' 28 0 4 = gI h 28 0 4) (e : ∀ t, gI h' 30 0 t = gI h 30 0 t) : CFew h' R := by
  unfold CFew at *
  rw [e3, e4]
  rcases C with c | ⟨s, l, d1, d2, d3, d4, d5⟩
  · exact Or.inl c
  · exact Or.inr ⟨s, l, d1, d2, d3, d4, fun t ht => (e t).trans (d5 t ht)⟩
theorem Cch_L {h h' : AH} {R S : Nat → Nat} {y L : Nat} (F : FrL h h') (P : PlF h' R S y L) (C : Cch h R) : Cch h' R := fun h0 hn => ⟨Or.inr ⟨P.1, P.2.1⟩, CFew_of (C h0 hn).2 (F.1 28 0 3 (by omega) (by omega)) (F.1 28 0 4 (by omega) (by omega)) (fun t => F.1 30 0 t (by omega) (by omega))⟩
theorem Cch_F {h h' : AH} {R S : Nat → Nat} {y L : Nat} (F : FrF h h') (P : PlF h R S y L) (C : CFew h' R) : Cch h' R := fun h0 hn => ⟨Or.inr ⟨(F.1 28 0 1 (by omega) (by omega)).trans P.1, fun j hj => (F.1 29 0 j (by omega) (by omega)).trans (P.2.1 j hj)⟩, C⟩
theorem Cch_W {h h' : AH} {R : Nat → Nat} (F : FrW h h') (C : Cch h R) : Cch h' R := Cch_of C (fun k i j hk => F.1 k i j (by omega))
theorem PlF_X {h : AH} {R S : Nat → Nat} {y L t : Nat} (P : PlF h R S y L) : PlF (cX h t) R S y L := by
  obtain ⟨a1, a2, a3, a4, a5, a6, a7⟩ := P
  exact ⟨(gI_uI_n (by omega)).trans a1, fun j hj => (gI_uI_n (by omega)).trans (a2 j hj), (gI_uI_n (by omega)).trans a3, (gI_uI_n (by omega)).trans a4, (gI_uI_n (by omega)).trans a5, (gI_uI_n (by omega)).trans a6, (gI_uI_n (by omega)).trans a7⟩
section A
variable {hc hm : AH} {R S U K T : Nat → Nat} {tp un im nx fa : Nat}
theorem c_ahead_y {a : Int32} (hn : ¬ inN a 1000) : jX_looksAhead hc a = some (nI 0, cX hc 2) := by
  unfold jX_looksAhead
  simp (disch := omega) only [litI, obind, nI_eq, if_true, if_false, if_neg, if_pos, c_accept, c_refuse, c_deny, c_grant, m_good, m_no, m_isNot, c_isYear_f hn, isZ0]
theorem c_ahead_n (V : Inv R S U K T tp un im nx fa) (A : CA hc R S U K T tp un im nx fa) {y : Nat} (hy : y < 1000) (hn : 12 < nC R) : jX_looksAhead hc (nI y) = some (nI 0, cX hc 3) := by
  have hR := Rsm V.1
  unfold jX_looksAhead
  simp (disch := omega) only [litI, obind, nI_eq, if_true, if_false, if_neg, if_pos, c_accept, c_refuse, c_deny, c_grant, m_good, m_no, m_isNot, c_isYear_t hy, c_cells A.1, nI_leI, isZ0]
theorem c_ahead_t (V : Inv R S U K T tp un im nx fa) (A : CA hc R S U K T tp un im nx fa) (C : Cch hc R) (h0 : 1 ≤ R 0) {y : Nat} (hy : y < 1000) (hn : nC R ≤ 12) : ∃ h', jX_looksAhead hc (nI y) = some (nI 1, cX h' 0) ∧ PlF (cX h' 0) R S y 100 ∧ CA (cX h' 0) R S U K T tp un im nx fa ∧ Cch (cX h' 0) R ∧ gB (cX h' 0) = gB hc := by
  obtain ⟨h', e1, F, P⟩ := c_look (lo := -nI 1) A.1 V.1 A.2.1 V.2.1 h0 hn hy hlo_none (C h0 hn).1
  refine ⟨h', ?_, PlF_X P, CA_X (CA_L F A), Cch_X (Cch_L F P C), ?_⟩
  · unfold jX_looksAhead
    simp (disch := omega) only [litI, obind, nI_eq, if_true, if_false, if_neg, if_pos, c_accept, c_refuse, c_deny, c_grant, m_good, m_no, m_isNot, c_isYear_t hy, c_cells A.1, nI_leI, e1, isZ1]
  · funext b
    show h'.2.2 b = hc.2.2 b
    rw [F.2]
theorem m_why_y (M : MA hm R S U K T tp un im fa) (h0 : R 0 ≠ 0) {a : Int32} (hn : ¬ inN a 1000) : jM_yearWhy (mG hm) a = some (nI 2) := by
  have hb1 := (MA_G M).2.2.2.2.2.2.2.2
  unfold jM_yearWhy
  simp (disch := omega) only [litI, obind, nI_eq, if_true, if_false, if_neg, if_pos, c_accept, c_refuse, c_deny, c_grant, m_good, m_no, m_isNot, hb1, hbk_1 h0, m_within_f (b := 999) (by omega) hn]
theorem m_why_n (V : Inv R S U K T tp un im nx fa) (M : MA hm R S U K T tp un im fa) (h0 : R 0 ≠ 0) {y : Nat} (hy : y < 1000) (hn : 12 < nC R) : jM_yearWhy (mG hm) (nI y) = some (nI 3) := by
  have hb1 := (MA_G M).2.2.2.2.2.2.2.2
  have hR := Rsm V.1
  unfold jM_yearWhy
  simp (disch := omega) only [litI, obind, nI_eq, if_true, if_false, if_neg, if_pos, c_accept, c_refuse, c_deny, c_grant, m_good, m_no, m_isNot, hb1, hbk_1 h0, m_within_t, m_cellMany (MA_G M).1, nI_leI]
theorem m_why_t (V : Inv R S U K T tp un im nx fa) (M : MA hm R S U K T tp un im fa) (h0 : R 0 ≠ 0) {y : Nat} (hy : y < 1000) (hn : nC R ≤ 12) : jM_yearWhy (mG hm) (nI y) = some (nI 0) := by
  have hb1 := (MA_G M).2.2.2.2.2.2.2.2
  unfold jM_yearWhy
  simp (disch := omega) only [litI, obind, nI_eq, if_true, if_false, if_neg, if_pos, c_accept, c_refuse, c_deny, c_grant, m_good, m_no, m_isNot, hb1, hbk_1 h0, m_within_t, m_cellMany (MA_G M).1, nI_leI]
theorem m_why_0 (M : MA hm R S U K T tp un im fa) (h0 : R 0 = 0) {a : Int32} : jM_yearWhy (mG hm) a = some (nI 1) := by
  have hb1 := (MA_G M).2.2.2.2.2.2.2.2
  unfold jM_yearWhy
  simp (disch := omega) only [litI, obind, nI_eq, if_true, if_false, if_neg, if_pos, c_accept, c_refuse, c_deny, c_grant, m_good, m_no, m_isNot, hb1, hbk_0 h0]
theorem MA_bs {b a : Nat} (M : MA hm R S U K T tp un im fa) : MA (hbs hm b a) R S U K T tp un im fa := MA_of M (fun k i j hk => (gI_uI_n (by omega)).trans (gI_uI_n (by omega)))
theorem hbs_11 {b a : Nat} : gI (hbs (mG hm) b a) 32 0 11 = nI 0 := ((gI_uI_n (by omega)).trans (gI_uI_n (by omega))).trans mG_11
end A
theorem op_best : so_best Rel := by
  intro hc hm hr a w
  obtain ⟨R, S, U, K, T, tp, un, im, nx, fa, tr, pl, V, A, C, M, htr, h10, h11, h4⟩ := hr
  have I := V.1; have WI := V.2.1; have B := A.1; have W := A.2.1; have MR := M.1; have MS := M.2.1; have hb := M.2.2.2.2.2.2.2.2; have MR1 := (MA_G M).1; have MS1 := (MA_G M).2.1; have hb1 := (MA_G M).2.2.2.2.2.2.2.2; have hR := Rsm I; have hw := WI.1
  by_cases h0 : R 0 = 0
  · refine ⟨-nI 1, cX hc 1, mX (mG hm) 1, ?_, ?_, RelX V A C (MA_G M) (by omega)⟩
    · unfold jX_best
      simp (disch := omega) only [litI, obind, nI_eq, if_true, if_false, if_neg, if_pos, c_accept, c_refuse, c_deny, c_grant, m_good, m_no, m_isNot, isTold_R B I, hbk_0 h0]
    · unfold jM_best
      simp (disch := omega) only [litI, obind, nI_eq, if_true, if_false, if_neg, if_pos, c_accept, c_refuse, c_deny, c_grant, m_good, m_no, m_isNot, hb1, hbk_0 h0]
  · have h0' : 1 ≤ R 0 := by omega
    by_cases hwh : inN w 3
    · obtain ⟨q, hq, rfl⟩ := hwh
      by_cases hyr : inN a 1000
      · obtain ⟨y, hy, rfl⟩ := hyr
        by_cases hn : nC R ≤ 12
        · have hp : 2 ^ nC R ≤ 2 ^ 12 := Nat.pow_le_pow_right (by decide) hn
          have hp0 := Nat.two_pow_pos (nC R)
          obtain ⟨h', e1, P, A2, C2, eb⟩ := c_ahead_t V A C h0' hy hn
          have e2 := c_bestCells I h0' hn P
          have e3 := m_layBest MR1 MS1 WI I h0' hn hy
          have hlt := bsf_lt R (alk R S) (pay R y) (bar2 R y 100) (2 ^ nC R)
          have e4 := c_alikeBehind (h := cX h' 0) (x := bsf R (alk R S) (pay R y) (bar2 R y 100) (2 ^ nC R)) I P.2.2.2.1 P.2.2.2.2.1 (alk_lt R S) (pay_lt R y)
          refine ⟨if q = 0 then nI (alb (alk R S) (pay R y) (bsf R (alk R S) (pay R y) (bar2 R y 100) (2 ^ nC R))) else if q = 1 then nI (bP (bsf R (alk R S) (pay R y) (bar2 R y 100) (2 ^ nC R)) 24) else nI (bsf R (alk R S) (pay R y) (bar2 R y 100) (2 ^ nC R)), cX (cX h' 0) 0, hbs (mG hm) (bsf R (alk R S) (pay R y) (bar2 R y 100) (2 ^ nC R)) (alb (alk R S) (pay R y) (bsf R (alk R S) (pay R y) (bar2 R y 100) (2 ^ nC R))), ?_, ?_, RelM V (CA_X A2) (Cch_X C2) (MA_bs (MA_G M)) cX_10 hbs_11 (by omega)⟩
          · unfold jX_best
            simp (disch := omega) only [litI, obind, nI_eq, if_true, if_false, if_neg, if_pos, c_accept, c_refuse, c_deny, c_grant, m_good, m_no, m_isNot, isTold_R B I, hbk_1 h0, nI_ltI, Nat.not_lt_zero, nI_leI, e1, e2, e4]
            by_cases hq0 : q = 0
            · rw [if_pos hq0, if_pos hq0]
            · rw [if_neg hq0, if_neg hq0]
              by_cases hq1 : q = 1
              · rw [if_pos hq1, if_pos hq1, c_bitCount (by omega), obind]
              · rw [if_neg hq1, if_neg hq1]
          · unfold jM_best
            simp (disch := omega) only [litI, obind, nI_eq, if_true, if_false, if_neg, if_pos, c_accept, c_refuse, c_deny, c_grant, m_good, m_no, m_isNot, hb1, hbk_1 h0, m_within_t, m_why_t V M h0 hy hn, e3, hbs_30, hbs_31]
            by_cases hq0 : q = 0
            · rw [if_pos hq0, if_pos hq0]
            · rw [if_neg hq0, if_neg hq0]
              by_cases hq1 : q = 1
              · rw [if_pos hq1, if_pos hq1, m_bits (by omega), obind]
              · rw [if_neg hq1, if_neg hq1]
        · refine ⟨-nI 1, cX hc 3, mX (mG hm) 3, ?_, ?_, RelX V A C (MA_G M) (by omega)⟩
          · unfold jX_best
            simp (disch := omega) only [litI, obind, nI_eq, if_true, if_false, if_neg, if_pos, c_accept, c_refuse, c_deny, c_grant, m_good, m_no, m_isNot, isTold_R B I, hbk_1 h0, nI_ltI, Nat.not_lt_zero, nI_leI, c_ahead_n V A hy (by omega)]
          · unfold jM_best
            simp (disch := omega) only [litI, obind, nI_eq, if_true, if_false, if_neg, if_pos, c_accept, c_refuse, c_deny, c_grant, m_good, m_no, m_isNot, hb1, hbk_1 h0, m_within_t, m_why_n V M h0 hy (by omega)]
      · refine ⟨-nI 1, cX hc 2, mX (mG hm) 2, ?_, ?_, RelX V A C (MA_G M) (by omega)⟩
        · unfold jX_best
          simp (disch := omega) only [litI, obind, nI_eq, if_true, if_false, if_neg, if_pos, c_accept, c_refuse, c_deny, c_grant, m_good, m_no, m_isNot, isTold_R B I, hbk_1 h0, nI_ltI, Nat.not_lt_zero, nI_leI, c_ahead_y hyr]
        · unfold jM_best
          simp (disch := omega) only [litI, obind, nI_eq, if_true, if_false, if_neg, if_pos, c_accept, c_refuse, c_deny, c_grant, m_good, m_no, m_isNot, hb1, hbk_1 h0, m_within_t, m_why_y M h0 hyr]
    · refine ⟨-nI 1, cX hc 1, mX (mG hm) 1, ?_, ?_, RelX V A C (MA_G M) (by omega)⟩
      · unfold jX_best
        simp (disch := omega) only [litI, obind, nI_eq, if_true, if_false, if_neg, if_pos, c_accept, c_refuse, c_deny, c_grant, m_good, m_no, m_isNot, isTold_R B I, hbk_1 h0]
        rcases inN_or w (n := 3) (by omega) with q | q | q
        · exact absurd q hwh
        · simp only [q, if_true]
        · have q2 : ¬ w ≤ nI 2 := by
            rw [Int32.lt_iff_toInt_lt, nI_toInt (by omega)] at q
            rw [Int32.le_iff_toInt_le, nI_toInt (by omega)]
            omega
          simp only [q2, if_false]
          split <;> rfl
      · unfold jM_best
        simp (disch := omega) only [litI, obind, nI_eq, if_true, if_false, if_neg, if_pos, c_accept, c_refuse, c_deny, c_grant, m_good, m_no, m_isNot, hb1, hbk_1 h0, m_within_f (b := 2) (by omega) hwh]
theorem FrN_MA {h h' : AH} {R S U K T : Nat → Nat} {tp un im fa : Nat} (F : FrN h h') (A : MA h R S U K T tp un im fa) : MA h' R S U K T tp un im fa := MA_of A (fun k i j hk => F.1 k i j (by omega) (by omega))
theorem op_need : so_need Rel := by
  intro hc hm hr a
  obtain ⟨R, S, U, K, T, tp, un, im, nx, fa, tr, pl, V, A, C, M, htr, h10, h11, h4⟩ := hr
  have I := V.1; have WI := V.2.1; have B := A.1; have W := A.2.1; have MR := M.1; have MS := M.2.1; have hb := M.2.2.2.2.2.2.2.2; have MR1 := (MA_G M).1; have MS1 := (MA_G M).2.1; have hb1 := (MA_G M).2.2.2.2.2.2.2.2; have hR := Rsm I; have hw := WI.1
  by_cases h0 : R 0 = 0
  · refine ⟨-nI 1, cX hc 1, mX (mG hm) 1, ?_, ?_, RelX V A C (MA_G M) (by omega)⟩
    · unfold jX_need
      simp (disch := omega) only [litI, obind, nI_eq, if_true, if_false, if_neg, if_pos, c_accept, c_refuse, c_deny, c_grant, m_good, m_no, m_isNot, isTold_R B I, hbk_0 h0]
    · unfold jM_need
      simp (disch := omega) only [litI, obind, nI_eq, if_true, if_false, if_neg, if_pos, c_accept, c_refuse, c_deny, c_grant, m_good, m_no, m_isNot, m_why_0 M h0]
  · have h0' : 1 ≤ R 0 := by omega
    by_cases hyr : inN a 1000
    · obtain ⟨y, hy, rfl⟩ := hyr
      by_cases hn : nC R ≤ 12
      · obtain ⟨h', e1, P, A2, C2, eb⟩ := c_ahead_t V A C h0' hy hn
        obtain ⟨h2, e2, F2, D2, -⟩ := c_fewestWorks I h0' hn P (C2 h0' hn).2
        obtain ⟨g2, e3, G2, -⟩ := m_needOf MR1 MS1 WI I h0' hn hy
        refine ⟨ndI (ndv R S y), cX h2 0, g2, ?_, ?_, RelM V (CA_X (CA_F F2 A2)) (Cch_X (Cch_F F2 P D2)) (FrN_MA G2 (MA_G M)) cX_10 ((G2.1 32 0 11 (by omega) (by omega)).trans mG_11) (by omega)⟩
        · unfold jX_need
          simp (disch := omega) only [litI, obind, nI_eq, if_true, if_false, if_neg, if_pos, c_accept, c_refuse, c_deny, c_grant, m_good, m_no, m_isNot, isTold_R B I, hbk_1 h0, e1, e2]
        · unfold jM_need
          simp (disch := omega) only [litI, obind, nI_eq, if_true, if_false, if_neg, if_pos, c_accept, c_refuse, c_deny, c_grant, m_good, m_no, m_isNot, m_why_t V M h0 hy hn, e3]
      · refine ⟨-nI 1, cX hc 3, mX (mG hm) 3, ?_, ?_, RelX V A C (MA_G M) (by omega)⟩
        · unfold jX_need
          simp (disch := omega) only [litI, obind, nI_eq, if_true, if_false, if_neg, if_pos, c_accept, c_refuse, c_deny, c_grant, m_good, m_no, m_isNot, isTold_R B I, hbk_1 h0, c_ahead_n V A hy (by omega)]
        · unfold jM_need
          simp (disch := omega) only [litI, obind, nI_eq, if_true, if_false, if_neg, if_pos, c_accept, c_refuse, c_deny, c_grant, m_good, m_no, m_isNot, m_why_n V M h0 hy (by omega)]
    · refine ⟨-nI 1, cX hc 2, mX (mG hm) 2, ?_, ?_, RelX V A C (MA_G M) (by omega)⟩
      · unfold jX_need
        simp (disch := omega) only [litI, obind, nI_eq, if_true, if_false, if_neg, if_pos, c_accept, c_refuse, c_deny, c_grant, m_good, m_no, m_isNot, isTold_R B I, hbk_1 h0, c_ahead_y hyr]
      · unfold jM_need
        simp (disch := omega) only [litI, obind, nI_eq, if_true, if_false, if_neg, if_pos, c_accept, c_refuse, c_deny, c_grant, m_good, m_no, m_isNot, m_why_y M h0 hyr]
theorem op_step : so_step Rel := by
  intro hc hm hr a b
  obtain ⟨R, S, U, K, T, tp, un, im, nx, fa, tr, pl, V, A, C, M, htr, h10, h11, h4⟩ := hr
  have I := V.1; have WI := V.2.1; have B := A.1; have W := A.2.1; have MR := M.1; have MS := M.2.1; have hb := M.2.2.2.2.2.2.2.2; have MR1 := (MA_G M).1; have MS1 := (MA_G M).2.1; have hb1 := (MA_G M).2.2.2.2.2.2.2.2; have hR := Rsm I; have hw := WI.1
  by_cases h0 : R 0 = 0
  · refine ⟨-nI 1, cX hc 1, mX (mG hm) 1, ?_, ?_, RelX V A C (MA_G M) (by omega)⟩
    · unfold jX_step
      simp (disch := omega) only [litI, obind, nI_eq, if_true, if_false, if_neg, if_pos, c_accept, c_refuse, c_deny, c_grant, m_good, m_no, m_isNot, isTold_R B I, hbk_0 h0]
    · unfold jM_step
      simp (disch := omega) only [litI, obind, nI_eq, if_true, if_false, if_neg, if_pos, c_accept, c_refuse, c_deny, c_grant, m_good, m_no, m_isNot, hb1, hbk_0 h0]
  · have h0' : 1 ≤ R 0 := by omega
    by_cases hbn : b < 0
    · have hd2 : ¬ nI 0 ≤ b := fun z => (Int32.not_lt.mpr z) hbn
      refine ⟨-nI 1, cX hc 1, mX (mG hm) 1, ?_, ?_, RelX V A C (MA_G M) (by omega)⟩
      · unfold jX_step
        simp (disch := omega) only [litI, obind, nI_eq, if_true, if_false, if_neg, if_pos, c_accept, c_refuse, c_deny, c_grant, m_good, m_no, m_isNot, isTold_R B I, hbk_1 h0, hd2]
      · unfold jM_step
        simp (disch := omega) only [litI, obind, nI_eq, if_true, if_false, if_neg, if_pos, c_accept, c_refuse, c_deny, c_grant, m_good, m_no, m_isNot, hb1, hbk_1 h0, hd2]
    · obtain ⟨i, hi, rfl⟩ := nI_of hbn
      by_cases hyr : inN a 1000
      · obtain ⟨y, hy, rfl⟩ := hyr
        by_cases hn : nC R ≤ 12
        · have hp : 2 ^ nC R ≤ 2 ^ 12 := Nat.pow_le_pow_right (by decide) hn
          obtain ⟨h', e1, P, A2, C2, eb⟩ := c_ahead_t V A C h0' hy hn
          obtain ⟨h2, e2, F2, D2, E2⟩ := c_fewestWorks I h0' hn P (C2 h0' hn).2
          obtain ⟨g2, e3, G2, E3⟩ := m_needOf MR1 MS1 WI I h0' hn hy
          have P2 : PlF h2 R S y 100 := by
            obtain ⟨a1, a2, a3, a4, a5, a6, a7⟩ := P
            exact ⟨(F2.1 28 0 1 (by omega) (by omega)).trans a1, fun j hj => (F2.1 29 0 j (by omega) (by omega)).trans (a2 j hj), (F2.1 28 0 6 (by omega) (by omega)).trans a3, (F2.1 28 0 7 (by omega) (by omega)).trans a4, (F2.1 28 0 8 (by omega) (by omega)).trans a5, (F2.1 28 0 9 (by omega) (by omega)).trans a6, (F2.1 28 0 10 (by omega) (by omega)).trans a7⟩
          have M2 := FrN_MA G2 (MA_G M)
          have hg11 : gI g2 32 0 11 = nI 0 := (G2.1 32 0 11 (by omega) (by omega)).trans mG_11
          by_cases hv : ndv R S y < 100
          · have hnd : ndI (ndv R S y) = nI (ndv R S y) := if_pos hv
            by_cases hlt : i < ndv R S y
            · obtain ⟨s1, s2, s3, lev, s4, s5⟩ := E3 hv (by omega)
              have s6 := lck_opn s1
              have hb12 := mcv_b (a := adN R y) (aC_0 I h0' _) (t := opn R S) (by have := opn_lt R S; omega)
              have e4 := c_stepCells I h0' hn P2 (E2 s1) (i := i) (by rw [s6, ← s2]; exact hlt) (by rw [s6, ← s2]; exact hv)
              rw [s6] at e4
              have e5 := m_steps (h := g2) I h0' hn (i := i) (n := ndv R S y) s1 s2.symm (by omega) hlt s3 s4 s5
              refine ⟨nI (nxt (adN R y) (nC R) (lks (adN R y) (nC R) (opn R S) i)), cX h2 0, g2, ?_, ?_, RelM V (CA_X (CA_F F2 A2)) (Cch_X (Cch_F F2 P D2)) M2 cX_10 hg11 (by omega)⟩
              · unfold jX_step
                simp (disch := omega) only [litI, obind, nI_eq, if_true, if_false, if_neg, if_pos, c_accept, c_refuse, c_deny, c_grant, m_good, m_no, m_isNot, isTold_R B I, hbk_1 h0, nI_leI, e1, e2, hnd, nI_ltI, e4]
              · unfold jM_step
                simp (disch := omega) only [litI, obind, nI_eq, if_true, if_false, if_neg, if_pos, c_accept, c_refuse, c_deny, c_grant, m_good, m_no, m_isNot, hb1, hbk_1 h0, nI_leI, m_why_t V M h0 hy hn, e3, hnd, nI_eq_neg, nI_ltI, m_wantedCells M2.1 I, m_alikeCells M2.1 M2.2.1 WI I]
                have est : jM_staying g2 (nI y) = some (nI (bD (alk R S) (pay R y))) := by
                  unfold jM_staying
                  rw [m_alikeCells M2.1 M2.2.1 WI I, obind, m_payable M2.1 I (by omega), obind]
                  simp only [litI, nI_dif]
                rw [est, obind, nI_dif]
                exact e5
            · refine ⟨-nI 1, cX h2 1, mX g2 1, ?_, ?_, RelX V (CA_F F2 A2) (Cch_F F2 P D2) M2 (by omega)⟩
              · unfold jX_step
                simp (disch := omega) only [litI, obind, nI_eq, if_true, if_false, if_neg, if_pos, c_accept, c_refuse, c_deny, c_grant, m_good, m_no, m_isNot, isTold_R B I, hbk_1 h0, nI_leI, e1, e2, hnd, nI_ltI]
              · unfold jM_step
                simp (disch := omega) only [litI, obind, nI_eq, if_true, if_false, if_neg, if_pos, c_accept, c_refuse, c_deny, c_grant, m_good, m_no, m_isNot, hb1, hbk_1 h0, nI_leI, m_why_t V M h0 hy hn, e3, hnd, nI_eq_neg, nI_ltI]
          · have hnd : ndI (ndv R S y) = -nI 2 := if_neg hv
            refine ⟨-nI 1, cX h2 6, mX g2 6, ?_, ?_, RelX V (CA_F F2 A2) (Cch_F F2 P D2) M2 (by omega)⟩
            · unfold jX_step
              simp (disch := omega) only [litI, obind, nI_eq, if_true, if_false, if_neg, if_pos, c_accept, c_refuse, c_deny, c_grant, m_good, m_no, m_isNot, isTold_R B I, hbk_1 h0, nI_leI, e1, e2, hnd, nI_le_neg]
            · unfold jM_step
              simp (disch := omega) only [litI, obind, nI_eq, if_true, if_false, if_neg, if_pos, c_accept, c_refuse, c_deny, c_grant, m_good, m_no, m_isNot, hb1, hbk_1 h0, nI_leI, m_why_t V M h0 hy hn, e3, hnd]
        · refine ⟨-nI 1, cX hc 3, mX (mG hm) 3, ?_, ?_, RelX V A C (MA_G M) (by omega)⟩
          · unfold jX_step
            simp (disch := omega) only [litI, obind, nI_eq, if_true, if_false, if_neg, if_pos, c_accept, c_refuse, c_deny, c_grant, m_good, m_no, m_isNot, isTold_R B I, hbk_1 h0, nI_leI, c_ahead_n V A hy (by omega)]
          · unfold jM_step
            simp (disch := omega) only [litI, obind, nI_eq, if_true, if_false, if_neg, if_pos, c_accept, c_refuse, c_deny, c_grant, m_good, m_no, m_isNot, hb1, hbk_1 h0, nI_leI, m_why_n V M h0 hy (by omega)]
      · refine ⟨-nI 1, cX hc 2, mX (mG hm) 2, ?_, ?_, RelX V A C (MA_G M) (by omega)⟩
        · unfold jX_step
          simp (disch := omega) only [litI, obind, nI_eq, if_true, if_false, if_neg, if_pos, c_accept, c_refuse, c_deny, c_grant, m_good, m_no, m_isNot, isTold_R B I, hbk_1 h0, nI_leI, c_ahead_y hyr]
        · unfold jM_step
          simp (disch := omega) only [litI, obind, nI_eq, if_true, if_false, if_neg, if_pos, c_accept, c_refuse, c_deny, c_grant, m_good, m_no, m_isNot, hb1, hbk_1 h0, nI_leI, m_why_y M h0 hyr]
theorem op_reach : so_reach Rel := by
  intro hc hm hr a
  obtain ⟨R, S, U, K, T, tp, un, im, nx, fa, tr, pl, V, A, C, M, htr, h10, h11, h4⟩ := hr
  have I := V.1; have WI := V.2.1; have B := A.1; have W := A.2.1; have MR := M.1; have MS := M.2.1; have hb := M.2.2.2.2.2.2.2.2; have MR1 := (MA_G M).1; have MS1 := (MA_G M).2.1; have hb1 := (MA_G M).2.2.2.2.2.2.2.2; have hR := Rsm I; have hw := WI.1
  by_cases h0 : R 0 = 0
  · refine ⟨-nI 1, cX hc 1, mX (mG hm) 1, ?_, ?_, RelX V A C (MA_G M) (by omega)⟩
    · unfold jX_reach
      simp (disch := omega) only [litI, obind, nI_eq, if_true, if_false, if_neg, if_pos, c_accept, c_refuse, c_deny, c_grant, m_good, m_no, m_isNot, isTold_R B I, hbk_0 h0]
    · unfold jM_reach
      simp (disch := omega) only [litI, obind, nI_eq, if_true, if_false, if_neg, if_pos, c_accept, c_refuse, c_deny, c_grant, m_good, m_no, m_isNot, m_why_0 M h0]
  · have h0' : 1 ≤ R 0 := by omega
    by_cases hyr : inN a 1000
    · obtain ⟨y, hy, rfl⟩ := hyr
      by_cases hn : nC R ≤ 12
      · obtain ⟨h', e1, P, A2, C2, eb⟩ := c_ahead_t V A C h0' hy hn
        obtain ⟨h2, e2, F2⟩ := c_mostAlike I hn P
        have e3 := m_layLawful MR1 I h0' hn hy
        have M2 : MA (aI (mG hm) 45 0 (lwm R y (mG hm))) R S U K T tp un im fa := MA_of (MA_G M) (fun k i j hk => gI_aI_n (by omega))
        have hal := lt24 I (alk_lt R S)
        have e4 := m_reach54 (h := aI (mG hm) 45 0 (lwm R y (mG hm))) (S := S) I hn (LawM_lay (h := mG hm) (R := R) (y := y))
        refine ⟨nI (msf (aC R (bar2 R y 100)) (alk R S) (pay R y) (2 ^ nC R)), cX h2 0, aI (mG hm) 45 0 (lwm R y (mG hm)), ?_, ?_, RelM V (CA_X (CA_W F2 A2)) (Cch_X (Cch_W F2 C2)) M2 cX_10 ((gI_aI_n (by omega)).trans mG_11) (by omega)⟩
        · unfold jX_reach
          simp (disch := omega) only [litI, obind, nI_eq, if_true, if_false, if_neg, if_pos, c_accept, c_refuse, c_deny, c_grant, m_good, m_no, m_isNot, isTold_R B I, hbk_1 h0, e1, e2]
        · have est : jM_staying (aI (mG hm) 45 0 (lwm R y (mG hm))) (nI y) = some (nI (bD (alk R S) (pay R y))) := by
            unfold jM_staying
            rw [m_alikeCells M2.1 M2.2.1 WI I, obind, m_payable M2.1 I (by omega), obind]
            simp only [litI, nI_dif]
          unfold jM_reach
          simp (disch := omega) only [litI, obind, nI_eq, if_true, if_false, if_neg, if_pos, c_accept, c_refuse, c_deny, c_grant, m_good, m_no, m_isNot, m_why_t V M h0 hy hn, e3, m_alikeCells M2.1 M2.2.1 WI I, m_payable M2.1 I (y := y), est, m_bits (a := alk R S)]
          exact e4
      · refine ⟨-nI 1, cX hc 3, mX (mG hm) 3, ?_, ?_, RelX V A C (MA_G M) (by omega)⟩
        · unfold jX_reach
          simp (disch := omega) only [litI, obind, nI_eq, if_true, if_false, if_neg, if_pos, c_accept, c_refuse, c_deny, c_grant, m_good, m_no, m_isNot, isTold_R B I, hbk_1 h0, c_ahead_n V A hy (by omega)]
        · unfold jM_reach
          simp (disch := omega) only [litI, obind, nI_eq, if_true, if_false, if_neg, if_pos, c_accept, c_refuse, c_deny, c_grant, m_good, m_no, m_isNot, m_why_n V M h0 hy (by omega)]
    · refine ⟨-nI 1, cX hc 2, mX (mG hm) 2, ?_, ?_, RelX V A C (MA_G M) (by omega)⟩
      · unfold jX_reach
        simp (disch := omega) only [litI, obind, nI_eq, if_true, if_false, if_neg, if_pos, c_accept, c_refuse, c_deny, c_grant, m_good, m_no, m_isNot, isTold_R B I, hbk_1 h0, c_ahead_y hyr]
      · unfold jM_reach
        simp (disch := omega) only [litI, obind, nI_eq, if_true, if_false, if_neg, if_pos, c_accept, c_refuse, c_deny, c_grant, m_good, m_no, m_isNot, m_why_y M h0 hyr]
theorem op_least : so_least Rel := by
  intro hc hm hr w a
  obtain ⟨R, S, U, K, T, tp, un, im, nx, fa, tr, pl, V, A, C, M, htr, h10, h11, h4⟩ := hr
  have I := V.1; have WI := V.2.1; have B := A.1; have W := A.2.1; have MR := M.1; have MS := M.2.1; have hb := M.2.2.2.2.2.2.2.2; have MR1 := (MA_G M).1; have MS1 := (MA_G M).2.1; have hb1 := (MA_G M).2.2.2.2.2.2.2.2; have hR := Rsm I; have hw := WI.1
  by_cases hwk : inN w (S 0)
  · obtain ⟨x, hx, rfl⟩ := hwk
    have h0' := nC_ne WI I (r := x) (by omega)
    have h0 : R 0 ≠ 0 := by omega
    by_cases hyr : inN a 1000
    · obtain ⟨y, hy, rfl⟩ := hyr
      by_cases hn : nC R ≤ 12
      · obtain ⟨h', e1, P, A2, C2, eb⟩ := c_ahead_t V A C h0' hy hn
        have e2 := c_fewestLeft I hn P (shw_lt S x (S 0))
        have e3 := m_layLawful MR1 I h0' hn hy
        have M2 : MA (aI (mG hm) 45 0 (lwm R y (mG hm))) R S U K T tp un im fa := MA_of (MA_G M) (fun k i j hk => gI_aI_n (by omega))
        have hsh := shw_lt S x (S 0)
        refine ⟨nI (lsf R (bar2 R y 100) (shw S x (S 0)) (2 ^ nC R)), cX (cX h' 0) 0, aI (mG hm) 45 0 (lwm R y (mG hm)), ?_, ?_, RelM V (CA_X A2) (Cch_X C2) M2 cX_10 ((gI_aI_n (by omega)).trans mG_11) (by omega)⟩
        · unfold jX_least
          simp (disch := omega) only [litI, obind, nI_eq, if_true, if_false, if_neg, if_pos, c_accept, c_refuse, c_deny, c_grant, m_good, m_no, m_isNot, c_has_t W WI hx, e1, c_shownCells A2.2.1 WI I hx, e2]
        · unfold jM_least
          simp (disch := omega) only [litI, obind, nI_eq, if_true, if_false, if_neg, if_pos, c_accept, c_refuse, c_deny, c_grant, m_good, m_no, m_isNot, m_isWork_t MS1 WI hb1 hx, m_why_t V M h0 hy hn, e3, m_shownBy M2.1 M2.2.1 WI I hx, m_bits (a := shw S x (S 0))]
          exact m_least56 LawM_lay hn hsh
      · refine ⟨-nI 1, cX hc 3, mX (mG hm) 3, ?_, ?_, RelX V A C (MA_G M) (by omega)⟩
        · unfold jX_least
          simp (disch := omega) only [litI, obind, nI_eq, if_true, if_false, if_neg, if_pos, c_accept, c_refuse, c_deny, c_grant, m_good, m_no, m_isNot, c_has_t W WI hx, c_ahead_n V A hy (by omega)]
        · unfold jM_least
          simp (disch := omega) only [litI, obind, nI_eq, if_true, if_false, if_neg, if_pos, c_accept, c_refuse, c_deny, c_grant, m_good, m_no, m_isNot, m_isWork_t MS1 WI hb1 hx, m_why_n V M h0 hy (by omega)]
    · refine ⟨-nI 1, cX hc 2, mX (mG hm) 2, ?_, ?_, RelX V A C (MA_G M) (by omega)⟩
      · unfold jX_least
        simp (disch := omega) only [litI, obind, nI_eq, if_true, if_false, if_neg, if_pos, c_accept, c_refuse, c_deny, c_grant, m_good, m_no, m_isNot, c_has_t W WI hx, c_ahead_y hyr]
      · unfold jM_least
        simp (disch := omega) only [litI, obind, nI_eq, if_true, if_false, if_neg, if_pos, c_accept, c_refuse, c_deny, c_grant, m_good, m_no, m_isNot, m_isWork_t MS1 WI hb1 hx, m_why_y M h0 hyr]
  · refine ⟨-nI 1, cX hc 1, mX (mG hm) 1, ?_, ?_, RelX V A C (MA_G M) (by omega)⟩
    · unfold jX_least
      simp (disch := omega) only [litI, obind, nI_eq, if_true, if_false, if_neg, if_pos, c_accept, c_refuse, c_deny, c_grant, m_good, m_no, m_isNot, c_has_f W WI hwk]
    · unfold jM_least
      simp (disch := omega) only [litI, obind, nI_eq, if_true, if_false, if_neg, if_pos, c_accept, c_refuse, c_deny, c_grant, m_good, m_no, m_isNot, m_isWork_f MS1 WI hb1 hwk]
