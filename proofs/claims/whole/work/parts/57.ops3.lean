/-! ===== pure: orders, plans, size ===== -/
theorem isZ0 : isZ (nI 0) = true := by decide
theorem isZ1 : isZ (nI 1) = true := by decide
theorem CA_O {h h' : AH} {R S U K T : Nat → Nat} {tp un im nx fa : Nat} (F : FrO h h') (A : CA h R S U K T tp un im nx fa) : CA h' R S U K T tp un im nx fa := CA_of A (fun k i j _ hk => F.1 k i j (by omega)) (by rw [F.2])
theorem Cch_O {h h' : AH} {R : Nat → Nat} (F : FrO h h') (C : Cch h R) : Cch h' R := Cch_of C (fun k i j hk => F.1 k i j (by omega))
theorem MA_S {h h' : AH} {R S U K T : Nat → Nat} {tp un im fa : Nat} (F : FrS h h') (A : MA h R S U K T tp un im fa) : MA h' R S U K T tp un im fa := MA_of A (fun k i j hk => F.1 k i j (by omega))
theorem CA_1 {h h' : AH} {R S U K T : Nat → Nat} {tp un im nx fa : Nat} (e : h'.1 = h.1) (e2 : h'.2.2 = h.2.2) (A : CA h R S U K T tp un im nx fa) : CA h' R S U K T tp un im nx fa := CA_of A (fun k i j _ _ => by unfold gI; rw [e]) e2
theorem Cch_1 {h h' : AH} {R : Nat → Nat} (e : h'.1 = h.1) (C : Cch h R) : Cch h' R := Cch_of C (fun k i j _ => by unfold gI; rw [e])
theorem MA_1 {h h' : AH} {R S U K T : Nat → Nat} {tp un im fa : Nat} (e : h'.1 = h.1) (A : MA h R S U K T tp un im fa) : MA h' R S U K T tp un im fa := MA_of A (fun k i j _ => by unfold gI; rw [e])
theorem c_unlike_t {h : AH} {R S : Nat → Nat} (W : WkC h (gB h 1).toNat S) (WI : WkI R S) {x y : Nat} (hx : x < S 0) (hy : y < S 0) (hxy : x ≠ y) : jX_areUnlike h (nI x) (nI y) = some (nI 1) := by
  have hw := WI.1
  unfold jX_areUnlike
  simp (disch := omega) only [litI, obind, nI_eq, if_true, if_false, if_neg, if_pos, c_accept, c_refuse, c_deny, c_grant, m_good, m_no, m_isNot, c_has_t W WI hx, c_has_t W WI hy]
theorem c_unlike_f {h : AH} {R S : Nat → Nat} (W : WkC h (gB h 1).toNat S) (WI : WkI R S) {a b : Int32} (hn : ¬ (inN a (S 0) ∧ inN b (S 0) ∧ a ≠ b)) : jX_areUnlike h a b = some (nI 0) := by
  have hw := WI.1
  unfold jX_areUnlike
  by_cases h1 : inN a (S 0)
  · by_cases h2 : inN b (S 0)
    · have h3 : a = b := Classical.byContradiction (fun z => hn ⟨h1, h2, z⟩)
      rw [← h3] at h2 ⊢
      obtain ⟨x, hx, rfl⟩ := h1
      simp (disch := omega) only [litI, obind, nI_eq, if_true, if_false, if_neg, if_pos, c_accept, c_refuse, c_deny, c_grant, m_good, m_no, m_isNot, c_has_t W WI hx]
    · obtain ⟨x, hx, rfl⟩ := h1
      simp (disch := omega) only [litI, obind, nI_eq, if_true, if_false, if_neg, if_pos, c_accept, c_refuse, c_deny, c_grant, m_good, m_no, m_isNot, c_has_t W WI hx, c_has_f W WI h2]
  · simp (disch := omega) only [litI, obind, nI_eq, if_true, if_false, if_neg, if_pos, c_accept, c_refuse, c_deny, c_grant, m_good, m_no, m_isNot, c_has_f W WI h1]
theorem op_before : so_before Rel := by
  intro hc hm hr a b
  obtain ⟨R, S, U, K, T, tp, un, im, nx, fa, tr, pl, V, A, C, M, htr, h10, h11, h4⟩ := hr
  have I := V.1; have WI := V.2.1; have B := A.1; have W := A.2.1; have MR := M.1; have MS := M.2.1; have hb := M.2.2.2.2.2.2.2.2; have MR1 := (MA_G M).1; have MS1 := (MA_G M).2.1; have hb1 := (MA_G M).2.2.2.2.2.2.2.2; have hR := Rsm I; have hw := WI.1
  by_cases hn : inN a (S 0) ∧ inN b (S 0) ∧ a ≠ b
  · obtain ⟨⟨x, hx, rfl⟩, ⟨y, hy, rfl⟩, hxy⟩ := hn
    have hxy2 : x ≠ y := fun z => hxy (by rw [z])
    obtain ⟨h2, e1, F1, O1⟩ := c_sure W WI I
    obtain ⟨g2, e2, F2, O2⟩ := m_laySure MR1 MS1 WI I
    have hs := sur_lt12 (S := S) (w := y) (by omega)
    refine ⟨nI ((sur S y).testBit x).toNat, cX h2 0, g2, ?_, ?_, RelM V (CA_X (CA_O F1 A)) (Cch_X (Cch_O F1 C)) (MA_S F2 (MA_G M)) cX_10 ((F2.1 32 0 11 (by omega)).trans mG_11) (by omega)⟩
    · unfold jX_before
      simp (disch := omega) only [litI, obind, nI_eq, if_true, if_false, if_neg, if_pos, c_accept, c_refuse, c_deny, c_grant, m_good, m_no, m_isNot, c_unlike_t W WI hx hy hxy2, e1, c_isSure O1 WI (x := x) (y := y), nI_tn0]
      cases (sur S y).testBit x <;> rfl
    · unfold jM_before
      simp (disch := omega) only [litI, obind, nI_eq, if_true, if_false, if_neg, if_pos, c_accept, c_refuse, c_deny, c_grant, m_good, m_no, m_isNot, m_isWork_t MS1 WI hb1 hx, m_isWork_t MS1 WI hb1 hy, e2, inb_nI, nI_clamp, O2 y hy, m_has, nI_tn0]
      cases (sur S y).testBit x <;> rfl
  · refine ⟨-nI 1, cX hc 1, mX (mG hm) 1, ?_, ?_, RelX V A C (MA_G M) (by omega)⟩
    · unfold jX_before
      simp (disch := omega) only [litI, obind, nI_eq, if_true, if_false, if_neg, if_pos, c_accept, c_refuse, c_deny, c_grant, m_good, m_no, m_isNot, c_unlike_f W WI hn]
    · unfold jM_before
      by_cases h1 : inN a (S 0)
      · by_cases h2 : inN b (S 0)
        · have h3 : a = b := Classical.byContradiction (fun z => hn ⟨h1, h2, z⟩)
          obtain ⟨x, hx, rfl⟩ := h1
          rw [← h3]
          simp (disch := omega) only [litI, obind, nI_eq, if_true, if_false, if_neg, if_pos, c_accept, c_refuse, c_deny, c_grant, m_good, m_no, m_isNot, m_isWork_t MS1 WI hb1 hx]
        · obtain ⟨x, hx, rfl⟩ := h1
          simp (disch := omega) only [litI, obind, nI_eq, if_true, if_false, if_neg, if_pos, c_accept, c_refuse, c_deny, c_grant, m_good, m_no, m_isNot, m_isWork_t MS1 WI hb1 hx, m_isWork_f MS1 WI hb1 h2]
      · simp (disch := omega) only [litI, obind, nI_eq, if_true, if_false, if_neg, if_pos, c_accept, c_refuse, c_deny, c_grant, m_good, m_no, m_isNot, m_isWork_f MS1 WI hb1 h1]
theorem op_untold : so_untold Rel := by
  intro hc hm hr
  obtain ⟨R, S, U, K, T, tp, un, im, nx, fa, tr, pl, V, A, C, M, htr, h10, h11, h4⟩ := hr
  have I := V.1; have WI := V.2.1; have B := A.1; have W := A.2.1; have MR := M.1; have MS := M.2.1; have hb := M.2.2.2.2.2.2.2.2; have MR1 := (MA_G M).1; have MS1 := (MA_G M).2.1; have hb1 := (MA_G M).2.2.2.2.2.2.2.2; have hR := Rsm I; have hw := WI.1
  by_cases h0 : R 0 = 0
  · refine ⟨-nI 1, cX hc 1, mX (mG hm) 1, ?_, ?_, RelX V A C (MA_G M) (by omega)⟩
    · unfold jX_untold
      simp (disch := omega) only [litI, obind, nI_eq, if_true, if_false, if_neg, if_pos, c_accept, c_refuse, c_deny, c_grant, m_good, m_no, m_isNot, isTold_R B I, hbk_0 h0]
    · unfold jM_untold
      simp (disch := omega) only [litI, obind, nI_eq, if_true, if_false, if_neg, if_pos, c_accept, c_refuse, c_deny, c_grant, m_good, m_no, m_isNot, hb1, hbk_0 h0]
  · obtain ⟨h2, e1, F1, O1⟩ := c_sure W WI I
    obtain ⟨g2, e2, F2, O2⟩ := m_laySure MR1 MS1 WI I
    have MS2 := (MA_S F2 (MA_G M)).2.1
    refine ⟨nI (S 0 * (S 0 - 1) / 2 - spr S (S 0)), cX h2 0, g2, ?_, ?_, RelM V (CA_X (CA_O F1 A)) (Cch_X (Cch_O F1 C)) (MA_S F2 (MA_G M)) cX_10 ((F2.1 32 0 11 (by omega)).trans mG_11) (by omega)⟩
    · unfold jX_untold
      simp (disch := omega) only [litI, obind, nI_eq, if_true, if_false, if_neg, if_pos, c_accept, c_refuse, c_deny, c_grant, m_good, m_no, m_isNot, isTold_R B I, hbk_1 h0, e1, c_openPairs O1 WI]
    · unfold jM_untold
      simp (disch := omega) only [litI, obind, nI_eq, if_true, if_false, if_neg, if_pos, c_accept, c_refuse, c_deny, c_grant, m_good, m_no, m_isNot, hb1, hbk_1 h0, e2, m_untold25 MS2 WI O2]
theorem op_placed : so_placed Rel := by
  intro hc hm hr a b hb01
  obtain ⟨R, S, U, K, T, tp, un, im, nx, fa, tr, pl, V, A, C, M, htr, h10, h11, h4⟩ := hr
  have I := V.1; have WI := V.2.1; have B := A.1; have W := A.2.1; have MR := M.1; have MS := M.2.1; have hb := M.2.2.2.2.2.2.2.2; have MR1 := (MA_G M).1; have MS1 := (MA_G M).2.1; have hb1 := (MA_G M).2.2.2.2.2.2.2.2; have hR := Rsm I; have hw := WI.1
  by_cases hwk : inN a (S 0)
  · obtain ⟨x, hx, rfl⟩ := hwk
    obtain ⟨h2, e1, F1, O1⟩ := c_sure W WI I
    obtain ⟨g2, e2, F2, O2⟩ := m_laySure MR1 MS1 WI I
    have MS2 := (MA_S F2 (MA_G M)).2.1
    have hs := sur_lt12 (S := S) (w := x) (by omega)
    rcases hb01 with rfl | rfl
    · refine ⟨nI (bP (sur S x) 24), cX h2 0, g2, ?_, ?_, RelM V (CA_X (CA_O F1 A)) (Cch_X (Cch_O F1 C)) (MA_S F2 (MA_G M)) cX_10 ((F2.1 32 0 11 (by omega)).trans mG_11) (by omega)⟩
      · unfold jX_placed
        simp (disch := omega) only [litI, obind, nI_eq, if_true, if_false, if_neg, if_pos, c_accept, c_refuse, c_deny, c_grant, m_good, m_no, m_isNot, c_has_t W WI hx, e1, c_earliest O1 WI hx]
      · unfold jM_placed
        simp (disch := omega) only [litI, obind, nI_eq, if_true, if_false, if_neg, if_pos, c_accept, c_refuse, c_deny, c_grant, m_good, m_no, m_isNot, m_isWork_t MS1 WI hb1 hx, e2, inb_nI, nI_clamp, O2 x hx, m_bits (a := sur S x)]
    · refine ⟨nI (S 0 - 1 - beh S x (S 0)), cX h2 0, g2, ?_, ?_, RelM V (CA_X (CA_O F1 A)) (Cch_X (Cch_O F1 C)) (MA_S F2 (MA_G M)) cX_10 ((F2.1 32 0 11 (by omega)).trans mG_11) (by omega)⟩
      · unfold jX_placed
        simp (disch := omega) only [litI, obind, nI_eq, if_true, if_false, if_neg, if_pos, c_accept, c_refuse, c_deny, c_grant, m_good, m_no, m_isNot, c_has_t W WI hx, e1, c_latest O1 WI hx]
      · unfold jM_placed
        simp (disch := omega) only [litI, obind, nI_eq, if_true, if_false, if_neg, if_pos, c_accept, c_refuse, c_deny, c_grant, m_good, m_no, m_isNot, m_isWork_t MS1 WI hb1 hx, e2, m_placed41 MS2 WI O2 hx]
  · refine ⟨-nI 1, cX hc 1, mX (mG hm) 1, ?_, ?_, RelX V A C (MA_G M) (by omega)⟩
    · unfold jX_placed
      simp (disch := omega) only [litI, obind, nI_eq, if_true, if_false, if_neg, if_pos, c_accept, c_refuse, c_deny, c_grant, m_good, m_no, m_isNot, c_has_f W WI hwk]
    · unfold jM_placed
      simp (disch := omega) only [litI, obind, nI_eq, if_true, if_false, if_neg, if_pos, c_accept, c_refuse, c_deny, c_grant, m_good, m_no, m_isNot, m_isWork_f MS1 WI hb1 hwk]
theorem OrF_1 {h h' : AH} {S : Nat → Nat} (e : ∀ k i j, 24 ≤ k ∧ k ≤ 26 → gI h' k i j = gI h k i j) (O : OrF h S) : OrF h' S := ⟨(e 24 0 0 (by omega)).trans O.1, fun r hr => (e 26 0 r (by omega)).trans (O.2 r hr)⟩
theorem op_orders : so_orders Rel := by
  intro hc hm hr
  obtain ⟨R, S, U, K, T, tp, un, im, nx, fa, tr, pl, V, A, C, M, htr, h10, h11, h4⟩ := hr
  have I := V.1; have WI := V.2.1; have B := A.1; have W := A.2.1; have MR := M.1; have MS := M.2.1; have hb := M.2.2.2.2.2.2.2.2; have MR1 := (MA_G M).1; have MS1 := (MA_G M).2.1; have hb1 := (MA_G M).2.2.2.2.2.2.2.2; have hR := Rsm I; have hw := WI.1
  by_cases h0 : R 0 = 0
  · refine ⟨(-nI 1).toInt64, cX hc 1, mX (mG hm) 1, ?_, ?_, RelX V A C (MA_G M) (by omega)⟩
    · unfold jX_orders
      simp (disch := omega) only [litI, obind, nI_eq, if_true, if_false, if_neg, if_pos, c_accept, c_refuse, c_deny, c_grant, m_good, m_no, m_isNot, isTold_R B I, hbk_0 h0]
    · unfold jM_orders
      simp (disch := omega) only [litI, obind, nI_eq, if_true, if_false, if_neg, if_pos, c_accept, c_refuse, c_deny, c_grant, m_good, m_no, m_isNot, hb1, hbk_0 h0]
  · obtain ⟨h2, e1, F1, O1⟩ := c_sure W WI I
    obtain ⟨g2, e2, F2, O2⟩ := m_laySure MR1 MS1 WI I
    have M2 := MA_S F2 (MA_G M)
    have hp := Nat.two_pow_pos (S 0)
    obtain ⟨h4', e3, q1, q2⟩ := c_countAll (h := cX h2 0) (a := 0) (b := 100) (v1 := -nI 1) (v2 := -nI 1) (OrF_1 (fun k i j hk => gI_uI_n (by omega)) O1) WI (fun w hw => by rw [nI_eq_neg (by omega) (by omega) (by omega)]; exact ⟨fun z => z.elim, fun z => by omega⟩) (fun z => by omega)
    obtain ⟨g4, e4, q3, q4⟩ := m_orders_run (n := S 0) (by omega) rfl M2.2.1 O2
    refine ⟨wy (okO S 0 100) (S 0) (2 ^ S 0 - 1), h4', g4, ?_, ?_, RelM V (CA_1 q1 q2 (CA_X (CA_O F1 A))) (Cch_1 q1 (Cch_X (Cch_O F1 C))) (MA_1 q3 M2) (t := 0) ?_ ?_ (by omega)⟩
    · unfold jX_orders
      simp (disch := omega) only [litI, obind, nI_eq, if_true, if_false, if_neg, if_pos, c_accept, c_refuse, c_deny, c_grant, m_good, m_no, m_isNot, isTold_R B I, hbk_1 h0, e1, jbn]
      rw [show uI h2 0 0 10 (nI 0) = cX h2 0 from rfl, e3, obind]
    · unfold jM_orders
      simp (disch := omega) only [litI, obind, nI_eq, if_true, if_false, if_neg, if_pos, c_accept, c_refuse, c_deny, c_grant, m_good, m_no, m_isNot, hb1, hbk_1 h0, e2, jbn, inb_nI, nI_clamp, gI_uL]
      rw [M2.2.1 0 (by omega)]
      simp (disch := omega) only [nI_and, and31, nI_bit, pk_sub]
      exact e4
    · unfold gI
      rw [q1]
      exact cX_10
    · unfold gI
      rw [q3]
      exact (F2.1 32 0 11 (by omega)).trans mG_11
theorem op_ahead : so_ahead Rel := by
  intro hc hm hr a b
  obtain ⟨R, S, U, K, T, tp, un, im, nx, fa, tr, pl, V, A, C, M, htr, h10, h11, h4⟩ := hr
  have I := V.1; have WI := V.2.1; have B := A.1; have W := A.2.1; have MR := M.1; have MS := M.2.1; have hb := M.2.2.2.2.2.2.2.2; have MR1 := (MA_G M).1; have MS1 := (MA_G M).2.1; have hb1 := (MA_G M).2.2.2.2.2.2.2.2; have hR := Rsm I; have hw := WI.1
  by_cases hn : inN a (S 0) ∧ inN b (S 0) ∧ a ≠ b
  · obtain ⟨⟨x, hx, rfl⟩, ⟨y, hy, rfl⟩, hxy⟩ := hn
    have hxy2 : x ≠ y := fun z => hxy (by rw [z])
    obtain ⟨h2, e1, F1, O1⟩ := c_sure W WI I
    obtain ⟨g2, e2, F2, O2⟩ := m_laySure MR1 MS1 WI I
    have M2 := MA_S F2 (MA_G M)
    have hp := Nat.two_pow_pos (S 0)
    obtain ⟨h4', e3, q1, q2⟩ := c_countAll (h := cX h2 0) (a := x) (b := y) (v1 := nI x) (v2 := nI y) (OrF_1 (fun k i j hk => gI_uI_n (by omega)) O1) WI (fun w hw => nI_eq (by omega) (by omega)) (fun z => ⟨rfl, hx⟩)
    obtain ⟨g4, e4, q3, q4⟩ := m_ahead_run (n := S 0) (by omega) hx hy rfl M2.2.1 O2
    refine ⟨wy (okO S x y) (S 0) (2 ^ S 0 - 1), h4', g4, ?_, ?_, RelM V (CA_1 q1 q2 (CA_X (CA_O F1 A))) (Cch_1 q1 (Cch_X (Cch_O F1 C))) (MA_1 q3 M2) (t := 0) ?_ ?_ (by omega)⟩
    · unfold jX_ahead
      simp (disch := omega) only [litI, obind, nI_eq, if_true, if_false, if_neg, if_pos, c_accept, c_refuse, c_deny, c_grant, m_good, m_no, m_isNot, c_unlike_t W WI hx hy hxy2, e1, jbn]
      rw [show uI h2 0 0 10 (nI 0) = cX h2 0 from rfl, e3, obind]
    · unfold jM_ahead
      simp (disch := omega) only [litI, obind, nI_eq, if_true, if_false, if_neg, if_pos, c_accept, c_refuse, c_deny, c_grant, m_good, m_no, m_isNot, m_isWork_t MS1 WI hb1 hx, m_isWork_t MS1 WI hb1 hy, e2, jbn, inb_nI, nI_clamp, gI_uL]
      rw [M2.2.1 0 (by omega)]
      simp (disch := omega) only [nI_and, and31, nI_bit, pk_sub]
      exact e4
    · unfold gI
      rw [q1]
      exact cX_10
    · unfold gI
      rw [q3]
      exact (F2.1 32 0 11 (by omega)).trans mG_11
  · refine ⟨(-nI 1).toInt64, cX hc 1, mX (mG hm) 1, ?_, ?_, RelX V A C (MA_G M) (by omega)⟩
    · unfold jX_ahead
      simp (disch := omega) only [litI, obind, nI_eq, if_true, if_false, if_neg, if_pos, c_accept, c_refuse, c_deny, c_grant, m_good, m_no, m_isNot, c_unlike_f W WI hn]
    · unfold jM_ahead
      by_cases h1 : inN a (S 0)
      · by_cases h2 : inN b (S 0)
        · have h3 : a = b := Classical.byContradiction (fun z => hn ⟨h1, h2, z⟩)
          obtain ⟨x, hx, rfl⟩ := h1
          rw [← h3]
          simp (disch := omega) only [litI, obind, nI_eq, if_true, if_false, if_neg, if_pos, c_accept, c_refuse, c_deny, c_grant, m_good, m_no, m_isNot, m_isWork_t MS1 WI hb1 hx]
        · obtain ⟨x, hx, rfl⟩ := h1
          simp (disch := omega) only [litI, obind, nI_eq, if_true, if_false, if_neg, if_pos, c_accept, c_refuse, c_deny, c_grant, m_good, m_no, m_isNot, m_isWork_t MS1 WI hb1 hx, m_isWork_f MS1 WI hb1 h2]
      · simp (disch := omega) only [litI, obind, nI_eq, if_true, if_false, if_neg, if_pos, c_accept, c_refuse, c_deny, c_grant, m_good, m_no, m_isNot, m_isWork_f MS1 WI hb1 h1]
