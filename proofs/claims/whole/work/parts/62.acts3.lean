/-! ===== pure: patch, scrape, undo, image, back ===== -/
/-- a row of works with a patch: the mask m, v what stands there then -/
def paS (S : Nat → Nat) (n m v : Nat) : Nat → Nat := fun j => if 4 + 26 * n ≤ j ∧ j < 28 + 26 * n ∧ m.testBit (j - (4 + 26 * n)) = true then v else S j
theorem paS_o {S : Nat → Nat} {n m v j : Nat} (h : ¬ (4 + 26 * n ≤ j ∧ j < 28 + 26 * n)) : paS S n m v j = S j := if_neg (fun z => h ⟨z.1, z.2.1⟩)
theorem paS_c {S : Nat → Nat} {n m v q : Nat} (hq : q < 24) : paS S n m v (4 + 26 * n + q) = if m.testBit q = true then v else S (4 + 26 * n + q) := by
  unfold paS
  by_cases hm : m.testBit q = true
  · rw [if_pos hm, if_pos ⟨by omega, by omega, by rw [show 4 + 26 * n + q - (4 + 26 * n) = q by omega]; exact hm⟩]
  · rw [if_neg hm, if_neg]
    rintro ⟨_, _, z⟩
    rw [show 4 + 26 * n + q - (4 + 26 * n) = q by omega] at z
    exact hm z
theorem paS_WkI {R S : Nat → Nat} {n m v : Nat} (WI : WkI R S) (hv : v ≤ R 4) (hm : m < 2 ^ nC R) : WkI R (paS S n m v) := by
  obtain ⟨w1, w2, w3, w4⟩ := WI
  unfold WkI hd yr pt at *
  rw [paS_o (show ¬ (4 + 26 * n ≤ 0 ∧ 0 < 28 + 26 * n) by omega), paS_o (show ¬ (4 + 26 * n ≤ 1 ∧ 1 < 28 + 26 * n) by omega)]
  refine ⟨w1, w2, w3, fun r hr => ?_⟩
  rw [paS_o (by omega), paS_o (by omega)]
  refine ⟨(w4 r hr).1, (w4 r hr).2.1, fun q hq => ?_⟩
  by_cases hrn : r = n
  · rw [hrn, paS_c hq]
    have h4 := (w4 r hr).2.2 q hq
    rw [hrn] at h4
    by_cases hb : m.testBit q = true
    · rw [if_pos hb]
      exact ⟨hv, fun z => absurd (out_n hm hb) (by omega)⟩
    · rw [if_neg hb]
      exact h4
  · rw [paS_o (by omega)]
    exact (w4 r hr).2.2 q hq
theorem paS_WkC {h : AH} {w n m v : Nat} {R S : Nat → Nat} (W : WkC h w S) (hn : n < 12) : WkC (aI h 16 w (lyA h w n m (cv v) 24)) w (paS S n m v) := by
  obtain ⟨a, b, c⟩ := W
  unfold WkC hd yr pt at *
  rw [paS_o (show ¬ (4 + 26 * n ≤ 0 ∧ 0 < 28 + 26 * n) by omega), paS_o (show ¬ (4 + 26 * n ≤ 1 ∧ 1 < 28 + 26 * n) by omega)]
  refine ⟨(gI_aI_n (by omega)).trans a, (gI_aI_n (by omega)).trans b, fun r hr => ?_⟩
  rw [paS_o (by omega), paS_o (by omega), gI_aI_n (by omega), gI_aI_n (by omega)]
  refine ⟨(c r hr).1, (c r hr).2.1, fun q hq => ?_⟩
  rw [gI_aI_s]
  unfold lyA
  by_cases hrn : r = n
  · rw [hrn, paS_c hq]
    by_cases hb : m.testBit q = true
    · rw [if_pos hb, if_pos ⟨by omega, by omega, by rw [show n * 24 + q - n * 24 = q by omega]; exact hb⟩]
    · rw [if_neg hb, if_neg]
      · have := (c r hr).2.2 q hq
        rw [hrn] at this
        exact this
      · rintro ⟨_, _, z⟩
        rw [show n * 24 + q - n * 24 = q by omega] at z
        exact hb z
  · rw [paS_o (by omega), if_neg (by omega)]
    exact (c r hr).2.2 q hq
theorem flA_MoS {g : AH} {S : Nat → Nat} {n m c : Nat} (MS : MoS g S) : MoS (aI g 37 0 (flA g 37 (4 + 26 * n) m c)) (paS S n m (c + 1)) := by
  intro i hi
  rw [gI_aI_s]
  unfold flA paS
  by_cases hq : 4 + 26 * n ≤ i ∧ i < 28 + 26 * n ∧ m.testBit (i - (4 + 26 * n)) = true
  · rw [if_pos hq, if_pos ⟨hq.1, by omega, hq.2.2⟩]
  · rw [if_neg hq, if_neg (fun z => hq ⟨z.1, by omega, z.2.2⟩)]
    exact MS i hi
def PaOK (R : Nat → Nat) (a b c d : Int32) : Prop := ∃ x0 y0 x1 y1 : Nat, a = nI x0 ∧ b = nI y0 ∧ c = nI x1 ∧ d = nI y1 ∧ x0 ≤ x1 ∧ x1 < R 0 ∧ y0 ≤ y1 ∧ y1 < R 1
theorem c_hasPatch_t {h : AH} {b : Nat} {R : Nat → Nat} (B : BkC h b R) (I : BkI R) {x0 y0 x1 y1 : Nat} (h1 : x0 ≤ x1) (h2 : x1 < R 0) (h3 : y0 ≤ y1) (h4 : y1 < R 1) : jB_hasPatch h b (nI x0) (nI y0) (nI x1) (nI y1) = some (nI 1) := by
  have hR := Rsm I
  unfold jB_hasPatch
  simp (disch := omega) only [litI, obind, nI_eq, if_true, if_false, if_neg, if_pos, c_accept, c_refuse, c_deny, c_grant, m_good, m_no, m_isNot, c_hasCell_t B I (x := x0) (y := y0) (by omega) (by omega), c_hasCell_t B I h2 h4, nI_ltI]
theorem c_hasPatch_f {h : AH} {bb : Nat} {R : Nat → Nat} (B : BkC h bb R) (I : BkI R) {a b c d : Int32} (hn : ¬ PaOK R a b c d) : jB_hasPatch h bb a b c d = some (nI 0) := by
  have hR := Rsm I
  unfold jB_hasPatch
  by_cases h1 : inN a (R 0) ∧ inN b (R 1)
  · by_cases h2 : inN c (R 0) ∧ inN d (R 1)
    · obtain ⟨⟨x0, hx0, rfl⟩, ⟨y0, hy0, rfl⟩⟩ := h1
      obtain ⟨⟨x1, hx1, rfl⟩, ⟨y1, hy1, rfl⟩⟩ := h2
      simp (disch := omega) only [litI, obind, nI_eq, if_true, if_false, if_neg, if_pos, c_accept, c_refuse, c_deny, c_grant, m_good, m_no, m_isNot, c_hasCell_t B I hx0 hy0, c_hasCell_t B I hx1 hy1, nI_ltI]
      by_cases q1 : x1 < x0
      · rw [if_pos q1]
      · rw [if_neg q1]
        by_cases q2 : y1 < y0
        · rw [if_pos q2]
        · exact absurd ⟨x0, y0, x1, y1, rfl, rfl, rfl, rfl, by omega, hx1, by omega, hy1⟩ hn
    · obtain ⟨⟨x0, hx0, rfl⟩, ⟨y0, hy0, rfl⟩⟩ := h1
      simp (disch := omega) only [litI, obind, nI_eq, if_true, if_false, if_neg, if_pos, c_accept, c_refuse, c_deny, c_grant, m_good, m_no, m_isNot, c_hasCell_t B I hx0 hy0, c_hasCell_f B I h2]
  · simp (disch := omega) only [litI, obind, nI_eq, if_true, if_false, if_neg, if_pos, c_accept, c_refuse, c_deny, c_grant, m_good, m_no, m_isNot, c_hasCell_f B I h1]
theorem op_patch : so_patch Rel := by
  intro hc hm hr a b c d e
  obtain ⟨R, S, U, K, T, tp, un, im, nx, fa, tr, pl, V, A, C, M, htr, h10, h11, h4⟩ := hr
  have I := V.1; have WI := V.2.1; have B := A.1; have W := A.2.1; have MR := M.1; have MS := M.2.1; have hb := M.2.2.2.2.2.2.2.2; have MR1 := (MA_G M).1; have MS1 := (MA_G M).2.1; have hb1 := (MA_G M).2.2.2.2.2.2.2.2; have hR := Rsm I; have hw := WI.1
  have hw1 := WI.2.1
  by_cases hcl : inN a (R 4)
  · obtain ⟨cl, hcc, rfl⟩ := hcl
    have h0 : R 0 ≠ 0 := fun z => by
      rcases I.1 with q | q <;> omega
    by_cases hp : PaOK R b c d e
    · obtain ⟨x0, y0, x1, y1, rfl, rfl, rfl, rfl, p1, p2, p3, p4⟩ := hp
      by_cases hwt : S 1 = 0
      · refine ⟨nI 0, cX hc 6, mX (mG hm) 6, ?_, ?_, RelX V A C (MA_G M) (by omega)⟩
        · unfold jX_patch
          simp (disch := omega) only [litI, obind, nI_eq, if_true, if_false, if_neg, if_pos, c_accept, c_refuse, c_deny, c_grant, m_good, m_no, m_isNot, c_hasColour_t B I hcc, c_hasPatch_t B I p1 p2 p3 p4, W.2.1, isZ0]
        · unfold jM_patch
          simp (disch := omega) only [litI, obind, nI_eq, if_true, if_false, if_neg, if_pos, c_accept, c_refuse, c_deny, c_grant, m_good, m_no, m_isNot, hb1, hbk_1 h0, inb_nI, nI_clamp, MR1 4, m_in_t hcc, m_isCell_t MR1 I hb1 (x := x0) (y := y0) (by omega) (by omega), m_isCell_t MR1 I hb1 p2 p4, nI_ltI, MS1 1, isZ0]
      · obtain ⟨h2, e1, eB, A2, C2⟩ := c_keep V A C
        obtain ⟨g1, n0, n1, -, n2⟩ := m_note (MA_G M)
        have eb0 : gB h2 0 = gB hc 0 := by unfold gB; rw [eB]
        have hm24 := bM_lt (inr (R 0) x0 y0 x1 y1) (nC R)
        have hMS1 : MoS g1 S := fun i hi => (n1 37 0 i (by omega)).trans (MS1 i hi)
        have WI' := paS_WkI (n := S 0) (m := bM (inr (R 0) x0 y0 x1 y1) (nC R)) (v := cl + 1) WI (by omega) hm24
        have hg : ∀ k i j, ¬ (k = 32 ∧ 24 ≤ j ∧ j ≤ 27) → gI (uI (uI (uI (uI g1 32 0 24 (nI x0)) 32 0 25 (nI y0)) 32 0 26 (nI x1)) 32 0 27 (nI y1)) k i j = gI g1 k i j := fun k i j q => by rw [gI_uI_n (by omega), gI_uI_n (by omega), gI_uI_n (by omega), gI_uI_n (by omega)]
        have hMS2 : MoS (uI (uI (uI (uI g1 32 0 24 (nI x0)) 32 0 25 (nI y0)) 32 0 26 (nI x1)) 32 0 27 (nI y1)) S := fun i hi => (hg 37 0 i (by omega)).trans (hMS1 i hi)
        have hfill := m_fill (h := uI (uI (uI (uI g1 32 0 24 (nI x0)) 32 0 25 (nI y0)) 32 0 26 (nI x1)) 32 0 27 (nI y1)) (k1 := 37) (base := 4 + 26 * S 0) (c := cl) (wi := R 0) (x0 := x0) (y0 := y0) (x1 := x1) (y1 := y1) (N := nC R) (NN := 340) (by decide) rfl (by omega) (by omega) (by omega) (by omega) hR.1 p1 p2 p3 (Nat.mul_le_mul (Nat.le_refl _) p4) hR.2.2.2.2.2.2.2 (by rw [gI_uI_n (by omega), gI_uI_n (by omega), gI_uI_n (by omega), gI_uI_s]) (by rw [gI_uI_n (by omega), gI_uI_n (by omega), gI_uI_s]) (by rw [gI_uI_n (by omega), gI_uI_s]) (by rw [gI_uI_s])
        generalize hG : uI (uI (uI (uI g1 32 0 24 (nI x0)) 32 0 25 (nI y0)) 32 0 26 (nI x1)) 32 0 27 (nI y1) = G at hg hMS2 hfill
        obtain ⟨g3, d1, M3, d11⟩ := m_act (S' := paS S (S 0) (bM (inr (R 0) x0 y0 x1 y1) (nC R)) (cl + 1)) (g2 := aI G 37 0 (flA G 37 (4 + 26 * S 0) (bM (inr (R 0) x0 y0 x1 y1) (nC R)) cl)) (MA_G M) V.2.2.2.2.1.2.1 n1 n2 (fun k i j q1 q2 => by rw [gI_aI_n (by omega)]; exact hg k i j q2) (flA_MoS hMS2)
        have hlay := c_lay (h := h2) (w := (gB h2 1).toNat) (r := S 0) (m := bM (inr (R 0) x0 y0 x1 y1) (nC R)) (v := cv (cl + 1)) (by omega) (lt24 I hm24)
        have A3 : CA (aI h2 16 (gB h2 1).toNat (lyA h2 (gB h2 1).toNat (S 0) (bM (inr (R 0) x0 y0 x1 y1) (nC R)) (cv (cl + 1)) 24)) R (paS S (S 0) (bM (inr (R 0) x0 y0 x1 y1) (nC R)) (cl + 1)) (psh U S un) K T tp (un1 un) im ((nx + 1) % 8) fa := CA_S A2 (fun k i j q1 q2 q3 => gI_aI_n (by omega)) rfl (paS_WkC (R := R) A2.2.1 (by omega))
        refine ⟨nI 1, cX (aI h2 16 (gB h2 1).toNat (lyA h2 (gB h2 1).toNat (S 0) (bM (inr (R 0) x0 y0 x1 y1) (nC R)) (cv (cl + 1)) 24)) 0, g3, ?_, ?_, RelM (Inv_act V WI' h0) (CA_X A3) (Cch_X (Cch_of C2 (fun k i j hk => gI_aI_n (by omega)))) M3 cX_10 (d11.trans mG_11) (by omega)⟩
        · unfold jX_patch
          rw [W.2.1]
          rw [cv_s] at hlay ⊢
          simp (disch := omega) only [litI, obind, nI_eq, if_true, if_false, if_neg, if_pos, c_accept, c_refuse, c_deny, c_grant, m_good, m_no, m_isNot, c_hasColour_t B I hcc, c_hasPatch_t B I p1 p2 p3 p4, e1, c_patchCells A2.1 I p1 p2 p3 p4, A2.2.1.1, hlay, isZ1]
        · unfold jM_patch
          simp (disch := omega) only [litI, obind, nI_eq, if_true, if_false, if_neg, if_pos, c_accept, c_refuse, c_deny, c_grant, m_good, m_no, m_isNot, hb1, hbk_1 h0, inb_nI, nI_clamp, MR1 4, m_in_t hcc, m_isCell_t MR1 I hb1 (x := x0) (y := y0) (by omega) (by omega), m_isCell_t MR1 I hb1 p2 p4, nI_ltI, MS1 1, n0, jbn]
          have hG35 : gI G 35 0 0 = nI (R 0) := (hg 35 0 0 (by omega)).trans ((n1 35 0 0 (by omega)).trans (MR1 0 (by omega)))
          rw [hG, hMS2 0 (by omega), hG35]
          simp only [pk_mul, nI_add]
          rw [show 2 + 26 * S 0 + 2 = 4 + 26 * S 0 by omega, hfill, obind, d1]
          simp only [obind, isZ1, if_true]
    · refine ⟨nI 0, cX hc 2, mX (mG hm) 2, ?_, ?_, RelX V A C (MA_G M) (by omega)⟩
      · unfold jX_patch
        simp (disch := omega) only [litI, obind, nI_eq, if_true, if_false, if_neg, if_pos, c_accept, c_refuse, c_deny, c_grant, m_good, m_no, m_isNot, c_hasColour_t B I hcc, c_hasPatch_f B I hp, isZ0]
      · unfold jM_patch
        by_cases h1 : inN b (R 0) ∧ inN c (R 1)
        · by_cases h2 : inN d (R 0) ∧ inN e (R 1)
          · obtain ⟨⟨x0, hx0, rfl⟩, ⟨y0, hy0, rfl⟩⟩ := h1
            obtain ⟨⟨x1, hx1, rfl⟩, ⟨y1, hy1, rfl⟩⟩ := h2
            simp (disch := omega) only [litI, obind, nI_eq, if_true, if_false, if_neg, if_pos, c_accept, c_refuse, c_deny, c_grant, m_good, m_no, m_isNot, hb1, hbk_1 h0, inb_nI, nI_clamp, MR1 4, m_in_t hcc, m_isCell_t MR1 I hb1 hx0 hy0, m_isCell_t MR1 I hb1 hx1 hy1, nI_ltI, isZ0]
            by_cases q1 : x1 < x0
            · rw [if_pos q1]
            · rw [if_neg q1]
              by_cases q2 : y1 < y0
              · rw [if_pos q2]
              · exact absurd ⟨x0, y0, x1, y1, rfl, rfl, rfl, rfl, by omega, hx1, by omega, hy1⟩ hp
          · obtain ⟨⟨x0, hx0, rfl⟩, ⟨y0, hy0, rfl⟩⟩ := h1
            simp (disch := omega) only [litI, obind, nI_eq, if_true, if_false, if_neg, if_pos, c_accept, c_refuse, c_deny, c_grant, m_good, m_no, m_isNot, hb1, hbk_1 h0, inb_nI, nI_clamp, MR1 4, m_in_t hcc, m_isCell_t MR1 I hb1 hx0 hy0, m_isCell_f MR1 I hb1 h2, isZ0]
        · simp (disch := omega) only [litI, obind, nI_eq, if_true, if_false, if_neg, if_pos, c_accept, c_refuse, c_deny, c_grant, m_good, m_no, m_isNot, hb1, hbk_1 h0, inb_nI, nI_clamp, MR1 4, m_in_t hcc, m_isCell_f MR1 I hb1 h1, isZ0]
  · refine ⟨nI 0, cX hc 1, mX (mG hm) 1, ?_, ?_, RelX V A C (MA_G M) (by omega)⟩
    · unfold jX_patch
      simp (disch := omega) only [litI, obind, nI_eq, if_true, if_false, if_neg, if_pos, c_accept, c_refuse, c_deny, c_grant, m_good, m_no, m_isNot, c_hasColour_f B I hcl, isZ0]
    · unfold jM_patch
      rw [m_good, obind, hb1]
      by_cases h0 : R 0 = 0
      · rw [hbk_0 h0, if_pos (show nI 0 = (0 : Int32) from rfl)]
        simp only [litI, m_isNot, obind, isZ0, if_true]
      · have e : jM_within a 0 ((gI (mG hm) 35 0 (Int32.toNatClampNeg 4)) - 1) = some (nI 0) := by
          rw [show Int32.toNatClampNeg 4 = 4 from rfl, MR1 4 (by omega)]
          exact m_in_f (by omega) hcl
        rw [hbk_1 h0, if_neg (show ¬ nI 1 = (0 : Int32) by decide), if_pos (show inb 4 161 = true by decide), e, obind, if_pos (show nI 0 = (0 : Int32) from rfl)]
        simp only [litI, m_isNot, obind, isZ0, if_true]
theorem op_scrape : so_scrape Rel := by
  intro hc hm hr a b
  obtain ⟨R, S, U, K, T, tp, un, im, nx, fa, tr, pl, V, A, C, M, htr, h10, h11, h4⟩ := hr
  have I := V.1; have WI := V.2.1; have B := A.1; have W := A.2.1; have MR := M.1; have MS := M.2.1; have hb := M.2.2.2.2.2.2.2.2; have MR1 := (MA_G M).1; have MS1 := (MA_G M).2.1; have hb1 := (MA_G M).2.2.2.2.2.2.2.2; have hR := Rsm I; have hw := WI.1
  by_cases hcell : inN a (R 0) ∧ inN b (R 1)
  · obtain ⟨⟨x, hx, rfl⟩, ⟨y, hy, rfl⟩⟩ := hcell
    obtain ⟨c1, c2⟩ := cellb I hx hy
    have h0 : R 0 ≠ 0 := by omega
    have hu := und_le S (R 0 * y + x) (S 0) 0
    by_cases hz : und S (R 0 * y + x) (S 0) 0 = 0
    · refine ⟨nI 0, cX hc 6, mX (mG hm) 6, ?_, ?_, RelX V A C (MA_G M) (by omega)⟩
      · unfold jX_scrape
        simp (disch := omega) only [litI, obind, nI_eq, if_true, if_false, if_neg, if_pos, c_accept, c_refuse, c_deny, c_grant, m_good, m_no, m_isNot, c_hasCell_t B I hx hy, c_cellAt B, c_below W WI I c2, cv_eq2, isZ0]
      · unfold jM_scrape
        simp (disch := omega) only [litI, obind, nI_eq, if_true, if_false, if_neg, if_pos, c_accept, c_refuse, c_deny, c_grant, m_good, m_no, m_isNot, m_isCell_t MR1 I hb1 hx hy, m_cellOf MR1, m_under MS1 WI I c2, cv_eq2, isZ0]
    · obtain ⟨h2, e1, eB, A2, C2⟩ := c_keep V A C
      obtain ⟨g1, n0, n1, -, n2⟩ := m_note (MA_G M)
      have hMS1 : MoS g1 S := fun i hi => (n1 37 0 i (by omega)).trans (MS1 i hi)
      have hMR1 : MoR g1 R := fun i hi => (n1 35 0 i (by omega)).trans (MR1 i hi)
      have hm24 : 2 ^ (R 0 * y + x) < 2 ^ nC R := Nat.pow_lt_pow_right (by decide) c1
      generalize ht : und S (R 0 * y + x) (S 0) 0 - 1 = t
      have htb : t < S 0 := by omega
      have WI' := paS_WkI (n := t) (m := 2 ^ (R 0 * y + x)) (v := 0) WI (Nat.zero_le _) hm24
      have MS3 : MoS (uI g1 37 0 (4 + 26 * t + (R 0 * y + x)) (nI 0)) (paS S t (2 ^ (R 0 * y + x)) 0) := by
        intro i hi
        unfold paS
        by_cases hq : i = 4 + 26 * t + (R 0 * y + x)
        · rw [hq, gI_uI_s, if_pos ⟨by omega, by omega, by rw [show 4 + 26 * t + (R 0 * y + x) - (4 + 26 * t) = R 0 * y + x by omega]; exact pow_tb.mpr rfl⟩]
        · rw [gI_uI_n (by omega), if_neg]
          · exact hMS1 i hi
          · rintro ⟨z1, z2, z3⟩
            have := pow_tb.mp z3
            omega
      obtain ⟨g3, d1, M3, d11⟩ := m_act (S' := paS S t (2 ^ (R 0 * y + x)) 0) (g2 := uI g1 37 0 (4 + 26 * t + (R 0 * y + x)) (nI 0)) (MA_G M) V.2.2.2.2.1.2.1 n1 n2 (fun k i j q1 q2 => gI_uI_n (by omega)) MS3
      have hlay := c_lay (h := h2) (w := (gB h2 1).toNat) (r := t) (m := 2 ^ (R 0 * y + x)) (v := cv 0) (by omega) (lt24 I hm24)
      have A3 : CA (aI h2 16 (gB h2 1).toNat (lyA h2 (gB h2 1).toNat t (2 ^ (R 0 * y + x)) (cv 0) 24)) R (paS S t (2 ^ (R 0 * y + x)) 0) (psh U S un) K T tp (un1 un) im ((nx + 1) % 8) fa := CA_S A2 (fun k i j q1 q2 q3 => gI_aI_n (by omega)) rfl (paS_WkC (R := R) A2.2.1 (by omega))
      refine ⟨nI 1, cX (aI h2 16 (gB h2 1).toNat (lyA h2 (gB h2 1).toNat t (2 ^ (R 0 * y + x)) (cv 0) 24)) 0, g3, ?_, ?_, RelM (Inv_act V WI' h0) (CA_X A3) (Cch_X (Cch_of C2 (fun k i j hk => gI_aI_n (by omega)))) M3 cX_10 (d11.trans mG_11) (by omega)⟩
      · rw [cv_0] at hlay ⊢
        unfold jX_scrape
        simp (disch := omega) only [litI, obind, nI_eq, if_true, if_false, if_neg, if_pos, c_accept, c_refuse, c_deny, c_grant, m_good, m_no, m_isNot, c_hasCell_t B I hx hy, c_cellAt B, c_below W WI I c2, cv_eq2, e1, cv_pos, ht, nI_eq_neg, nI_and, and31, nI_bit, hlay, isZ1]
      · unfold jM_scrape
        simp (disch := omega) only [litI, obind, nI_eq, if_true, if_false, if_neg, if_pos, c_accept, c_refuse, c_deny, c_grant, m_good, m_no, m_isNot, m_isCell_t MR1 I hb1 hx hy, m_cellOf MR1, m_under MS1 WI I c2, cv_eq2, n0, m_cellOf hMR1, cv_pos, ht, nI_eq_neg, pk_mul, nI_add, inb_nI, nI_clamp, jbn]
        rw [show 2 + 26 * t + 2 + (R 0 * y + x) = 4 + 26 * t + (R 0 * y + x) by omega, d1]
        simp only [obind, isZ1, if_true]
  · refine ⟨nI 0, cX hc 1, mX (mG hm) 1, ?_, ?_, RelX V A C (MA_G M) (by omega)⟩
    · unfold jX_scrape
      simp (disch := omega) only [litI, obind, nI_eq, if_true, if_false, if_neg, if_pos, c_accept, c_refuse, c_deny, c_grant, m_good, m_no, m_isNot, c_hasCell_f B I hcell, isZ0]
    · unfold jM_scrape
      simp (disch := omega) only [litI, obind, nI_eq, if_true, if_false, if_neg, if_pos, c_accept, c_refuse, c_deny, c_grant, m_good, m_no, m_isNot, m_isCell_f MR1 I hb1 hcell, isZ0]
