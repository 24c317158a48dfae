/-! ===== pure: freed ===== -/
section Fr
variable {R S : Nat → Nat} {c : Nat}
theorem Rc_n {i v : Nat} (h : i ≠ 26 + 6 * c) : upn R (26 + 6 * c) v i = R i := upn_n h
theorem Rc_nC : nC (upn R (26 + 6 * c) 1001) = nC R := by
  unfold nC
  rw [Rc_n (by omega), Rc_n (by omega)]
theorem Rc_I (I : BkI R) (hc : c < R 6) : BkI (upn R (26 + 6 * c) 1001) := by
  have hR := Rsm I
  obtain ⟨i1, i2, i3, i4⟩ := I
  refine ⟨?_, fun k hk => ?_, fun k hk => ?_, fun k hk => ?_⟩
  · rw [Rc_nC, Rc_n (by omega), Rc_n (by omega), Rc_n (by omega), Rc_n (by omega), Rc_n (by omega), Rc_n (by omega), Rc_n (by omega)]
    exact i1
  · rw [Rc_n (by omega)] at hk
    rw [Rc_n (by omega), Rc_n (by omega), Rc_n (by omega)]
    exact i2 k hk
  · rw [Rc_n (by omega)] at hk
    obtain ⟨q1, q2, q3, q4, q5, q6⟩ := i3 k hk
    rw [Rc_n (i := 22 + 6 * k) (by omega), Rc_n (i := 24 + 6 * k) (by omega), Rc_n (i := 0) (by omega), Rc_n (i := 23 + 6 * k) (by omega), Rc_n (i := 25 + 6 * k) (by omega), Rc_n (i := 1) (by omega), Rc_n (i := 27 + 6 * k) (by omega)]
    refine ⟨q1, q2, q3, q4, ?_, q6⟩
    by_cases hkc : k = c
    · rw [hkc]
      unfold upn
      rw [if_pos rfl]
      exact Nat.le_refl _
    · rw [Rc_n (by omega)]
      exact q5
  · rw [Rc_n (i := 46 + k) (by omega), Rc_n (i := 4) (by omega), Rc_nC]
    exact i4 k hk
theorem Rc_W (WI : WkI R S) : WkI (upn R (26 + 6 * c) 1001) S := by
  obtain ⟨w1, w2, w3, w4⟩ := WI
  refine ⟨w1, w2, ?_, ?_⟩
  · rw [Rc_n (by omega)]; exact w3
  · rw [Rc_n (i := 4) (by omega), Rc_nC]; exact w4
theorem Rc_alk (I : BkI R) (hc : c < R 6) : alk (upn R (26 + 6 * c) 1001) S = alk R S := by
  have hR := Rsm I
  unfold alk
  rw [Rc_nC]
  refine bM_ext (fun i hi => ?_)
  rw [Rc_n (by omega)]
theorem Rc_pay (I : BkI R) (hc : c < R 6) (y : Nat) : pay (upn R (26 + 6 * c) 1001) y = pay R y := by
  have hR := Rsm I
  unfold pay
  rw [Rc_nC]
  refine bM_ext (fun i hi => ?_)
  have h1 := (I.2.2.2 i (by omega)).1
  rw [Rc_n (i := 46 + i) (by omega), Rc_n (i := 16 + R (46 + i)) (by omega)]
theorem Rc_hco (I : BkI R) (y : Nat) : ∀ k, k ≤ 5 → hco (upn R (26 + 6 * c) 1001) y k = hco R y k := by
  intro k
  induction k with
  | zero => intro _; rfl
  | succ k ih =>
    intro hk
    unfold hco
    rw [ih (by omega), Rc_n (by omega)]
theorem Rc_lawK (s : Nat) : lawK (upn R (26 + 6 * c) 1001) s = lawK R s := by
  unfold lawK
  rw [Rc_nC, Rc_n (by omega), Rc_n (by omega), Rc_n (by omega)]
theorem Rc_rcm (k : Nat) : rcm (upn R (26 + 6 * c) 1001) k = rcm R k := by
  unfold rcm
  rw [Rc_nC, Rc_n (by omega), Rc_n (by omega), Rc_n (by omega), Rc_n (by omega), Rc_n (by omega)]
theorem Rc_brd {y : Nat} (hy : y < 1000) : ∀ k, k ≤ 4 → brd (upn R (26 + 6 * c) 1001) y 100 k = brd R y c k := by
  intro k
  induction k with
  | zero => intro _; rfl
  | succ k ih =>
    intro hk
    unfold brd
    rw [ih (by omega), Rc_rcm, Rc_n (i := 27 + 6 * k) (by omega)]
    by_cases hkc : k = c
    · rw [if_neg, if_neg (fun z => z.1 hkc)]
      rw [hkc]
      unfold upn
      rw [if_pos rfl]
      omega
    · rw [Rc_n (by omega)]
      by_cases hq : R (26 + 6 * k) ≤ y ∧ y ≤ R (27 + 6 * k)
      · rw [if_pos ⟨by omega, hq⟩, if_pos ⟨hkc, hq⟩]
      · rw [if_neg (fun z => hq z.2), if_neg (fun z => hq z.2)]
theorem Rc_bar2 (I : BkI R) {y : Nat} (hy : y < 1000) : bar2 (upn R (26 + 6 * c) 1001) y 100 = bar2 R y c := by
  have hR := Rsm I
  unfold bar2
  rw [Rc_n (i := 4) (by omega), Rc_n (i := 6) (by omega), Rc_hco I y _ (by omega), Rc_brd hy _ (by omega), Rc_nC]
theorem Rc_bsf (A P sh : Nat) : ∀ k, bsf (upn R (26 + 6 * c) 1001) A P sh k = bsf R A P sh k := by
  intro k
  induction k with
  | zero => rfl
  | succ k ih =>
    have had : adm (upn R (26 + 6 * c) 1001) sh k = adm R sh k := by
      unfold adm
      rw [Rc_lawK]
    unfold bsf
    rw [ih, had]
end Fr
theorem op_freed : so_freed Rel := by
  intro hc hm hr a b
  obtain ⟨R, S, U, K, T, tp, un, im, nx, fa, tr, pl, V, A, C, M, htr, h10, h11, h4⟩ := hr
  have I := V.1; have WI := V.2.1; have B := A.1; have W := A.2.1; have MR := M.1; have MS := M.2.1; have hb := M.2.2.2.2.2.2.2.2; have MR1 := (MA_G M).1; have MS1 := (MA_G M).2.1; have hb1 := (MA_G M).2.2.2.2.2.2.2.2; have hR := Rsm I; have hw := WI.1
  by_cases hcl : inN a (R 6)
  · obtain ⟨c, hcc, rfl⟩ := hcl
    have h0 : R 0 ≠ 0 := fun z => by
      rcases I.1 with q | q <;> omega
    have h0' : 1 ≤ R 0 := by omega
    by_cases hyr : inN b 1000
    · obtain ⟨y, hy, rfl⟩ := hyr
      by_cases hn : nC R ≤ 12
      · have hlo : ∀ k, k < 4 → (nI k = nI c ↔ k = c) := fun k hk => nI_eq (by omega) (by omega)
        obtain ⟨h', e1, P, A2, C2, eb⟩ := c_ahead_t V A C h0' hy hn
        have e2 := c_bestCells I h0' hn P
        have e4 := c_alikeBehind (h := cX h' 0) (x := bsf R (alk R S) (pay R y) (bar2 R y 100) (2 ^ nC R)) I P.2.2.2.1 P.2.2.2.2.1 (alk_lt R S) (pay_lt R y)
        obtain ⟨h3, f1, F3, P3⟩ := c_look (lo := nI c) (L := c) A2.1 I A2.2.1 WI h0' hn hy hlo (C2 h0' hn).1
        have e5 := c_bestCells I h0' hn P3
        have e6 := c_alikeBehind (h := h3) (x := bsf R (alk R S) (pay R y) (bar2 R y c) (2 ^ nC R)) I P3.2.2.2.1 P3.2.2.2.2.1 (alk_lt R S) (pay_lt R y)
        have g1 := m_layBest MR1 MS1 WI I h0' hn hy
        generalize hB1 : bsf R (alk R S) (pay R y) (bar2 R y 100) (2 ^ nC R) = B1 at e2 e4 g1
        generalize hB2 : bsf R (alk R S) (pay R y) (bar2 R y c) (2 ^ nC R) = B2 at e5 e6
        -- the model's second look, with the contract moved out of all years
        have MR6 : MoR (uI (hbs (mG hm) B1 (alb (alk R S) (pay R y) B1)) 35 0 (26 + 6 * c) (nI 1001)) (upn R (26 + 6 * c) 1001) := by
          intro i hi
          by_cases hic : i = 26 + 6 * c
          · rw [hic, gI_uI_s, upn_s]
          · rw [gI_uI_n (by omega), upn_n hic]
            exact (MA_bs (MA_G M)).1 i hi
        have MS6 : MoS (uI (hbs (mG hm) B1 (alb (alk R S) (pay R y) B1)) 35 0 (26 + 6 * c) (nI 1001)) S := fun i hi => (gI_uI_n (by omega)).trans ((MA_bs (MA_G M)).2.1 i hi)
        have g2 := m_layBest MR6 MS6 (Rc_W WI) (Rc_I I hcc) (by rw [Rc_n (by omega)]; exact h0') (by rw [Rc_nC]; exact hn) hy
        rw [Rc_nC, Rc_alk I hcc, Rc_pay I hcc, Rc_bar2 I hy, Rc_bsf, hB2] at g2
        have hf : gI (hbs (mG hm) B1 (alb (alk R S) (pay R y) B1)) 35 0 (26 + 6 * c) = nI (R (26 + 6 * c)) := (MA_bs (MA_G M)).1 _ (by omega)
        refine ⟨nI (alb (alk R S) (pay R y) B2) - nI (alb (alk R S) (pay R y) B1), cX h3 0, uI (hbs (uI (hbs (mG hm) B1 (alb (alk R S) (pay R y) B1)) 35 0 (26 + 6 * c) (nI 1001)) B2 (alb (alk R S) (pay R y) B2)) 35 0 (26 + 6 * c) (nI (R (26 + 6 * c))), ?_, ?_, RelM V (CA_X (CA_L F3 A2)) (Cch_X (Cch_L F3 P3 C2)) (MA_of (MA_G M) (fun k i j hk => ?_)) cX_10 ?_ (by omega)⟩
        · unfold jX_freed
          simp (disch := omega) only [litI, obind, nI_eq, if_true, if_false, if_neg, if_pos, c_accept, c_refuse, c_deny, c_grant, m_good, m_no, m_isNot, B.1.2.2.2.2.2.2, nI_ltI, Nat.not_lt_zero, e1, e2, e4, f1, e5, e6]
        · unfold jM_freed
          simp (disch := omega) only [litI, obind, nI_eq, if_true, if_false, if_neg, if_pos, c_accept, c_refuse, c_deny, c_grant, m_good, m_no, m_isNot, hb1, hbk_1 h0, inb_nI, nI_clamp, MR1 6, m_in_t hcc, m_why_t V M h0 hy hn, g1, pk_mul, nI_add, jbn]
          rw [show 22 + 6 * c + 4 = 26 + 6 * c by omega, g2, obind, hf, hbs_31]
          simp (disch := omega) only [gI_uI_n, hbs_31]
        · by_cases hkk : k = 35 ∧ i = 0 ∧ j = 26 + 6 * c
          · rw [hkk.1, hkk.2.1, hkk.2.2, gI_uI_s]
            exact ((MA_G M).1 _ (by omega)).symm
          · unfold hbs
            rw [gI_uI_n hkk, gI_uI_n (by omega), gI_uI_n (by omega), gI_uI_n hkk, gI_uI_n (by omega), gI_uI_n (by omega)]
        · unfold hbs
          rw [gI_uI_n (by omega), gI_uI_n (by omega), gI_uI_n (by omega), gI_uI_n (by omega), gI_uI_n (by omega), gI_uI_n (by omega)]
          exact mG_11
      · refine ⟨-nI 1, cX hc 3, mX (mG hm) 3, ?_, ?_, RelX V A C (MA_G M) (by omega)⟩
        · unfold jX_freed
          simp (disch := omega) only [litI, obind, nI_eq, if_true, if_false, if_neg, if_pos, c_accept, c_refuse, c_deny, c_grant, m_good, m_no, m_isNot, B.1.2.2.2.2.2.2, nI_ltI, Nat.not_lt_zero, c_ahead_n V A hy (by omega)]
        · unfold jM_freed
          simp (disch := omega) only [litI, obind, nI_eq, if_true, if_false, if_neg, if_pos, c_accept, c_refuse, c_deny, c_grant, m_good, m_no, m_isNot, hb1, hbk_1 h0, inb_nI, nI_clamp, MR1 6, m_in_t hcc, m_why_n V M h0 hy (by omega)]
    · refine ⟨-nI 1, cX hc 2, mX (mG hm) 2, ?_, ?_, RelX V A C (MA_G M) (by omega)⟩
      · unfold jX_freed
        simp (disch := omega) only [litI, obind, nI_eq, if_true, if_false, if_neg, if_pos, c_accept, c_refuse, c_deny, c_grant, m_good, m_no, m_isNot, B.1.2.2.2.2.2.2, nI_ltI, Nat.not_lt_zero, c_ahead_y hyr]
      · unfold jM_freed
        simp (disch := omega) only [litI, obind, nI_eq, if_true, if_false, if_neg, if_pos, c_accept, c_refuse, c_deny, c_grant, m_good, m_no, m_isNot, hb1, hbk_1 h0, inb_nI, nI_clamp, MR1 6, m_in_t hcc, m_why_y M h0 hyr]
  · refine ⟨-nI 1, cX hc 1, mX (mG hm) 1, ?_, ?_, RelX V A C (MA_G M) (by omega)⟩
    · unfold jX_freed
      simp (disch := omega) only [litI, obind, nI_eq, if_true, if_false, if_neg, if_pos, c_accept, c_refuse, c_deny, c_grant, m_good, m_no, m_isNot, B.1.2.2.2.2.2.2]
      rcases inN_or a (n := R 6) (by omega) with q | q | q
      · exact absurd q hcl
      · simp only [q, if_true]
      · simp only [q, if_false]
        split <;> rfl
    · unfold jM_freed
      simp (disch := omega) only [litI, obind, nI_eq, if_true, if_false, if_neg, if_pos, c_accept, c_refuse, c_deny, c_grant, m_good, m_no, m_isNot, hb1, inb_nI, nI_clamp, MR1 6, m_in_f (n := R 6) (by omega) hcl]
      split <;> rfl
