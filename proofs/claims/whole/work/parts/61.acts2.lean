/-! ===== pure: begin, patch, wipe, scrape ===== -/
def zrS (S : Nat → Nat) (n : Nat) : Nat → Nat := fun j => if 2 + 26 * n ≤ j ∧ j < 28 + 26 * n then 0 else S j
theorem zrS_n {S : Nat → Nat} {n j : Nat} (h : ¬ (2 + 26 * n ≤ j ∧ j < 28 + 26 * n)) : zrS S n j = S j := if_neg h
theorem zrS_i {S : Nat → Nat} {n j : Nat} (h : 2 + 26 * n ≤ j ∧ j < 28 + 26 * n) : zrS S n j = 0 := if_pos h
def zrA (h : AH) (n k : Nat) : Nat → Int32 := fun j => if 2 + 26 * n ≤ j ∧ j < 2 + 26 * n + k then nI 0 else gI h 37 0 j
theorem zrA_0 (h : AH) (n : Nat) : aI h 37 0 (zrA h n 0) = h := aI_id (fun c => by unfold zrA; rw [if_neg (by omega)])
theorem zrA_s (h : AH) (n k : Nat) : uI (aI h 37 0 (zrA h n k)) 37 0 (2 + 26 * n + k) (nI 0) = aI h 37 0 (zrA h n (k + 1)) := by
  rw [uI_aI]
  refine aI_ext (fun c => ?_)
  unfold zrA
  by_cases hc : c = 2 + 26 * n + k
  · rw [if_pos hc, if_pos (by omega)]
  · rw [if_neg hc]
    by_cases hc2 : 2 + 26 * n ≤ c ∧ c < 2 + 26 * n + k
    · rw [if_pos hc2, if_pos (by omega)]
    · rw [if_neg hc2, if_neg (by omega)]
theorem zrA_S {h : AH} {S : Nat → Nat} {n : Nat} (MS : MoS h S) : MoS (aI h 37 0 (zrA h n 26)) (zrS S n) := by
  intro i hi
  rw [gI_aI_s]
  unfold zrA zrS
  by_cases hq : 2 + 26 * n ≤ i ∧ i < 28 + 26 * n
  · rw [if_pos (by omega), if_pos hq]
  · rw [if_neg (by omega), if_neg hq]
    exact MS i hi
theorem m_zero {h : AH} {a y n : Nat} (hn : n < 12) : jM_begin_126 (nI a) (nI y) FU (nI (2 + 26 * n)) (nI 0) h = jM_begin_149 (nI a) (nI y) (nI (2 + 26 * n)) (aI h 37 0 (zrA h n 26)) := by
  have key := up_ind (P := fun fu k => jM_begin_126 (nI a) (nI y) fu (nI (2 + 26 * n)) (nI k) (aI h 37 0 (zrA h n k)) = jM_begin_149 (nI a) (nI y) (nI (2 + 26 * n)) (aI h 37 0 (zrA h n 26))) 26 (fun fu => ?_) (fun fu k hk ih => ?_) 26 0 FU rfl (by decide)
  · rw [zrA_0] at key
    exact key
  · rw [jM_begin_126]
    simp (disch := omega) only [litI, nI_ltI, if_neg]
  · rw [jM_begin_126]
    simp (disch := omega) only [litI, nI_ltI, if_pos, nI_add, inb_nI, nI_clamp, if_true, jbn]
    rw [zrA_s]
    exact ih
theorem m_zero2 {h : AH} {n : Nat} (hn : n < 12) (h37 : gI h 37 0 0 = nI n) : jM_wipe_33 FU (nI 0) h = jM_wipe_64 (aI h 37 0 (zrA h n 26)) := by
  have key := up_ind (P := fun fu k => jM_wipe_33 fu (nI k) (aI h 37 0 (zrA h n k)) = jM_wipe_64 (aI h 37 0 (zrA h n 26))) 26 (fun fu => ?_) (fun fu k hk ih => ?_) 26 0 FU rfl (by decide)
  · rw [zrA_0] at key
    exact key
  · rw [jM_wipe_33]
    simp (disch := omega) only [litI, nI_ltI, if_neg]
  · have e0 : gI (aI h 37 0 (zrA h n k)) 37 0 0 = nI n := by
      rw [gI_aI_s]
      unfold zrA
      rw [if_neg (by omega)]
      exact h37
    rw [jM_wipe_33]
    simp (disch := omega) only [litI, nI_ltI, if_pos, nI_clamp, e0, pk_mul, nI_add, inb_nI, if_true, jbn]
    rw [zrA_s]
    exact ih
theorem op_wipe : so_wipe Rel := by
  intro hc hm hr
  obtain ⟨R, S, U, K, T, tp, un, im, nx, fa, tr, pl, V, A, C, M, htr, h10, h11, h4⟩ := hr
  have I := V.1; have WI := V.2.1; have B := A.1; have W := A.2.1; have MR := M.1; have MS := M.2.1; have hb := M.2.2.2.2.2.2.2.2; have MR1 := (MA_G M).1; have MS1 := (MA_G M).2.1; have hb1 := (MA_G M).2.2.2.2.2.2.2.2; have hR := Rsm I; have hw := WI.1
  have hw1 := WI.2.1
  by_cases hwt : S 1 = 0
  · refine ⟨nI 0, cX hc 6, mX (mG hm) 6, ?_, ?_, RelX V A C (MA_G M) (by omega)⟩
    · unfold jX_wipe
      simp (disch := omega) only [litI, obind, nI_eq, if_true, if_false, if_neg, if_pos, c_accept, c_refuse, c_deny, c_grant, m_good, m_no, m_isNot, W.2.1, isZ0]
    · unfold jM_wipe
      simp (disch := omega) only [litI, obind, nI_eq, if_true, if_false, if_neg, if_pos, c_accept, c_refuse, c_deny, c_grant, m_good, m_no, m_isNot, hb1, inb_nI, nI_clamp, MS1 1, isZ0]
      split <;> rfl
  · have h0 : R 0 ≠ 0 := fun z => by have := WI.2.2.1 z; omega
    obtain ⟨h2, e1, eB, A2, C2⟩ := c_keep V A C
    obtain ⟨g1, n0, n1, -, n2⟩ := m_note (MA_G M)
    have eb1 : gB h2 1 = gB hc 1 := by unfold gB; rw [eB]
    have WI' : WkI R (upn (zrS S (S 0)) 1 0) := by
      obtain ⟨w1, w2, w3, w4⟩ := WI
      unfold WkI hd yr pt at *
      rw [upn_s, upn_n (show (0 : Nat) ≠ 1 by omega), zrS_n (by omega)]
      refine ⟨by omega, by omega, fun z => absurd z h0, fun r hr => ?_⟩
      rw [upn_n (by omega), upn_n (by omega), zrS_n (by omega), zrS_n (by omega)]
      refine ⟨(w4 r (by omega)).1, (w4 r (by omega)).2.1, fun q hq => ?_⟩
      rw [upn_n (by omega), zrS_n (by omega)]
      exact (w4 r (by omega)).2.2 q hq
    have hMS1 : MoS g1 S := fun i hi => (n1 37 0 i (by omega)).trans (MS1 i hi)
    have MS3 : MoS (uI (aI g1 37 0 (zrA g1 (S 0) 26)) 37 0 1 (nI 0)) (upn (zrS S (S 0)) 1 0) := by
      intro i hi
      by_cases hi1 : i = 1
      · rw [hi1, gI_uI_s, upn_s]
      · rw [gI_uI_n (by omega), upn_n hi1]
        exact zrA_S hMS1 i hi
    obtain ⟨g3, d1, M3, d11⟩ := m_act (S' := upn (zrS S (S 0)) 1 0) (g2 := uI (aI g1 37 0 (zrA g1 (S 0) 26)) 37 0 1 (nI 0)) (MA_G M) V.2.2.2.2.1.2.1 n1 n2 (fun k i j q1 q2 => by rw [gI_uI_n (by omega), gI_aI_n (by omega)]) MS3
    have A3 : CA (uI h2 13 (gB h2 1).toNat 1 (nI 0)) R (upn (zrS S (S 0)) 1 0) (psh U S un) K T tp (un1 un) im ((nx + 1) % 8) fa := by
      refine CA_S A2 (fun k i j q1 q2 q3 => gI_uI_n (by omega)) rfl ?_
      obtain ⟨a, b, c⟩ := A2.2.1
      unfold WkC hd yr pt at *
      rw [upn_s, upn_n (show (0 : Nat) ≠ 1 by omega), zrS_n (by omega)]
      refine ⟨(gI_uI_n (by omega)).trans a, gI_uI_s _ _ _ _ _, fun r hr => ?_⟩
      rw [gI_uI_n (by omega), gI_uI_n (by omega), upn_n (by omega), upn_n (by omega), zrS_n (by omega), zrS_n (by omega)]
      refine ⟨(c r (by omega)).1, (c r (by omega)).2.1, fun q hq => ?_⟩
      rw [gI_uI_n (by omega), upn_n (by omega), zrS_n (by omega)]
      exact (c r (by omega)).2.2 q hq
    refine ⟨nI 1, cX (uI h2 13 (gB h2 1).toNat 1 (nI 0)) 0, g3, ?_, ?_, RelM (Inv_act V WI' h0) (CA_X A3) (Cch_X (Cch_of C2 (fun k i j hk => gI_uI_n (by omega)))) M3 cX_10 (d11.trans mG_11) (by omega)⟩
    · unfold jX_wipe
      rw [W.2.1]
      simp (disch := omega) only [litI, obind, nI_eq, if_true, if_false, if_neg, if_pos, c_accept, c_refuse, c_deny, c_grant, m_good, m_no, m_isNot, e1, jbn, isZ1]
    · unfold jM_wipe
      simp (disch := omega) only [litI, obind, nI_eq, if_true, if_false, if_neg, if_pos, c_accept, c_refuse, c_deny, c_grant, m_good, m_no, m_isNot, hb1, hbk_1 h0, inb_nI, nI_clamp, MS1 1, n0]
      rw [m_zero2 (n := S 0) (by omega) (hMS1 0 (by omega))]
      unfold jM_wipe_64
      simp (disch := omega) only [litI, obind, nI_eq, if_true, if_false, if_neg, if_pos, c_accept, c_refuse, c_deny, c_grant, m_good, m_no, m_isNot, inb_nI, nI_clamp, jbn, d1, isZ1]
def bgS (S : Nat → Nat) (n a y : Nat) : Nat → Nat := upn (upn (upn (zrS S n) (2 + 26 * n) a) (3 + 26 * n) y) 1 1
theorem bgS_1 (S : Nat → Nat) (n a y : Nat) : bgS S n a y 1 = 1 := upn_s _ _ _
theorem bgS_n {S : Nat → Nat} {n a y j : Nat} (h1 : j ≠ 1) (h : ¬ (2 + 26 * n ≤ j ∧ j < 28 + 26 * n)) : bgS S n a y j = S j := by
  unfold bgS
  rw [upn_n h1, upn_n (by omega), upn_n (by omega), zrS_n h]
theorem bgS_h (S : Nat → Nat) (n a y : Nat) : bgS S n a y (2 + 26 * n) = a := by
  unfold bgS
  rw [upn_n (by omega), upn_n (by omega), upn_s]
theorem bgS_y (S : Nat → Nat) (n a y : Nat) : bgS S n a y (3 + 26 * n) = y := by
  unfold bgS
  rw [upn_n (by omega), upn_s]
theorem bgS_c {S : Nat → Nat} {n a y q : Nat} (hq : q < 24) : bgS S n a y (4 + 26 * n + q) = 0 := by
  unfold bgS
  rw [upn_n (by omega), upn_n (by omega), upn_n (by omega), zrS_i (by omega)]
theorem op_begin : so_begin Rel := by
  intro hc hm hr a b
  obtain ⟨R, S, U, K, T, tp, un, im, nx, fa, tr, pl, V, A, C, M, htr, h10, h11, h4⟩ := hr
  have I := V.1; have WI := V.2.1; have B := A.1; have W := A.2.1; have MR := M.1; have MS := M.2.1; have hb := M.2.2.2.2.2.2.2.2; have MR1 := (MA_G M).1; have MS1 := (MA_G M).2.1; have hb1 := (MA_G M).2.2.2.2.2.2.2.2; have hR := Rsm I; have hw := WI.1
  have hw1 := WI.2.1
  have hlast : (if S 0 = 0 then 0 else yr S (S 0 - 1)) ≤ 999 := by
    split
    · omega
    · exact (WI.2.2.2 (S 0 - 1) (by omega)).2.1
  by_cases hcl : inN a (R 5)
  · obtain ⟨c, hcc, rfl⟩ := hcl
    have h0 : R 0 ≠ 0 := fun z => by
      rcases I.1 with q | q <;> omega
    -- the model's road to its second half
    have mroad : jM_begin hm (nI c) b = jM_begin_59 (nI c) b (nI (if S 0 = 0 then 0 else yr S (S 0 - 1))) b (mG hm) := by
      unfold jM_begin
      simp (disch := omega) only [litI, obind, nI_eq, if_true, if_false, if_neg, if_pos, c_accept, c_refuse, c_deny, c_grant, m_good, m_no, m_isNot, hb1, hbk_1 h0, inb_nI, nI_clamp, MR1 5, MS1 0, m_in_t hcc]
      by_cases hs : S 0 = 0
      · rw [if_pos hs, if_pos hs]
      · rw [if_neg hs, if_neg hs, pk_sub (by omega), m_yearOf MS1 (by omega), obind]
    have hly := c_latestYear W WI
    generalize (if S 0 = 0 then 0 else yr S (S 0 - 1)) = l at hlast hly mroad
    by_cases hyr : inN b 1000
    · obtain ⟨y, hy, rfl⟩ := hyr
      by_cases hlt : y < l
      · refine ⟨nI 0, cX hc 2, mX (mG hm) 2, ?_, ?_, RelX V A C (MA_G M) (by omega)⟩
        · unfold jX_begin
          simp (disch := omega) only [litI, obind, nI_eq, if_true, if_false, if_neg, if_pos, c_accept, c_refuse, c_deny, c_grant, m_good, m_no, m_isNot, c_hasHand_t B I hcc, c_isYear_t hy, hly, nI_ltI, isZ0]
        · rw [mroad]
          unfold jM_begin_59
          simp only [litI]
          rw [m_within_n (by omega) (by omega) (by omega) (by omega)]
          simp (disch := omega) only [litI, obind, nI_eq, if_true, if_false, if_neg, if_pos, c_accept, c_refuse, c_deny, c_grant, m_good, m_no, m_isNot, isZ0]
      · have hwt : jM_within (nI y) (nI l) (nI 999) = some (nI 1) := m_within_t (by omega) (by omega) (by omega)
        by_cases h12 : S 0 = 12
        · refine ⟨nI 0, cX hc 3, mX (mG hm) 3, ?_, ?_, RelX V A C (MA_G M) (by omega)⟩
          · unfold jX_begin
            simp (disch := omega) only [litI, obind, nI_eq, if_true, if_false, if_neg, if_pos, c_accept, c_refuse, c_deny, c_grant, m_good, m_no, m_isNot, c_hasHand_t B I hcc, c_isYear_t hy, hly, nI_ltI, isZ0, W.1]
          · rw [mroad]
            unfold jM_begin_59
            simp (disch := omega) only [litI, obind, nI_eq, if_true, if_false, if_neg, if_pos, c_accept, c_refuse, c_deny, c_grant, m_good, m_no, m_isNot, hwt, inb_nI, nI_clamp, MS1 0, isZ0]
        · by_cases hwet : S 1 = 1
          · refine ⟨nI 0, cX hc 5, mX (mG hm) 5, ?_, ?_, RelX V A C (MA_G M) (by omega)⟩
            · unfold jX_begin
              simp (disch := omega) only [litI, obind, nI_eq, if_true, if_false, if_neg, if_pos, c_accept, c_refuse, c_deny, c_grant, m_good, m_no, m_isNot, c_hasHand_t B I hcc, c_isYear_t hy, hly, nI_ltI, isZ0, W.1, W.2.1]
            · rw [mroad]
              unfold jM_begin_59
              simp (disch := omega) only [litI, obind, nI_eq, if_true, if_false, if_neg, if_pos, c_accept, c_refuse, c_deny, c_grant, m_good, m_no, m_isNot, hwt, inb_nI, nI_clamp, MS1 0, MS1 1, isZ0]
          · obtain ⟨h2, e1, eB, A2, C2⟩ := c_keep V A C
            obtain ⟨g1, n0, n1, -, n2⟩ := m_note (MA_G M)
            have eb1 : gB h2 1 = gB hc 1 := by unfold gB; rw [eB]
            have hMS1 : MoS g1 S := fun i hi => (n1 37 0 i (by omega)).trans (MS1 i hi)
            have WI' : WkI R (bgS S (S 0) c y) := by
              obtain ⟨w1, w2, w3, w4⟩ := WI
              unfold WkI hd yr pt at *
              rw [bgS_1, bgS_n (show (0 : Nat) ≠ 1 by omega) (by omega)]
              refine ⟨by omega, by omega, fun z => absurd z h0, fun r hr => ?_⟩
              by_cases hrn : r = S 0
              · rw [hrn, bgS_h, bgS_y]
                refine ⟨by omega, by omega, fun q hq => ?_⟩
                rw [bgS_c hq]
                exact ⟨Nat.zero_le _, fun _ => rfl⟩
              · rw [bgS_n (by omega) (by omega), bgS_n (by omega) (by omega)]
                refine ⟨(w4 r (by omega)).1, (w4 r (by omega)).2.1, fun q hq => ?_⟩
                rw [bgS_n (by omega) (by omega)]
                exact (w4 r (by omega)).2.2 q hq
            have MS3 : MoS (uI (uI (uI (aI g1 37 0 (zrA g1 (S 0) 26)) 37 0 (2 + 26 * S 0) (nI c)) 37 0 (3 + 26 * S 0) (nI y)) 37 0 1 (nI 1)) (bgS S (S 0) c y) := by
              intro i hi
              unfold bgS
              by_cases hi1 : i = 1
              · rw [hi1, gI_uI_s, upn_s]
              · rw [gI_uI_n (by omega), upn_n hi1]
                by_cases hi2 : i = 3 + 26 * S 0
                · rw [hi2, gI_uI_s, upn_s]
                · rw [gI_uI_n (by omega), upn_n hi2]
                  by_cases hi3 : i = 2 + 26 * S 0
                  · rw [hi3, gI_uI_s, upn_s]
                  · rw [gI_uI_n (by omega), upn_n hi3]
                    exact zrA_S hMS1 i hi
            obtain ⟨g3, d1, M3, d11⟩ := m_act (S' := bgS S (S 0) c y) (g2 := uI (uI (uI (aI g1 37 0 (zrA g1 (S 0) 26)) 37 0 (2 + 26 * S 0) (nI c)) 37 0 (3 + 26 * S 0) (nI y)) 37 0 1 (nI 1)) (MA_G M) V.2.2.2.2.1.2.1 n1 n2 (fun k i j q1 q2 => by rw [gI_uI_n (by omega), gI_uI_n (by omega), gI_uI_n (by omega), gI_aI_n (by omega)]) MS3
            have hst := c_start (h := h2) (w := (gB h2 1).toNat) (n := S 0) (a := c) (y := y) A2.2.1.1 (by omega)
            have A3 : CA (uI (aI (uI (uI h2 14 (gB h2 1).toNat (S 0) (nI c)) 15 (gB h2 1).toNat (S 0) (nI y)) 16 (gB h2 1).toNat (fun j => if S 0 * 24 ≤ j ∧ j < S 0 * 24 + 24 then -nI 2 else gI h2 16 (gB h2 1).toNat j)) 13 (gB h2 1).toNat 1 (nI 1)) R (bgS S (S 0) c y) (psh U S un) K T tp (un1 un) im ((nx + 1) % 8) fa := by
              refine CA_S A2 (fun k i j q1 q2 q3 => by rw [gI_uI_n (by omega), gI_aI_n (by omega), gI_uI_n (by omega), gI_uI_n (by omega)]) rfl ?_
              obtain ⟨a, b, d⟩ := A2.2.1
              unfold WkC hd yr pt at *
              rw [bgS_1, bgS_n (show (0 : Nat) ≠ 1 by omega) (by omega)]
              refine ⟨?_, gI_uI_s _ _ _ _ _, fun r hr => ?_⟩
              · rw [gI_uI_n (by omega), gI_aI_n (by omega), gI_uI_n (by omega), gI_uI_n (by omega)]
                exact a
              · by_cases hrn : r = S 0
                · rw [hrn, bgS_h, bgS_y]
                  refine ⟨?_, ?_, fun q hq => ?_⟩
                  · rw [gI_uI_n (by omega), gI_aI_n (by omega), gI_uI_n (by omega), gI_uI_s]
                  · rw [gI_uI_n (by omega), gI_aI_n (by omega), gI_uI_s]
                  · rw [gI_uI_n (by omega), gI_aI_s, if_pos (by omega), bgS_c hq]
                    rfl
                · rw [bgS_n (by omega) (by omega), bgS_n (by omega) (by omega)]
                  refine ⟨?_, ?_, fun q hq => ?_⟩
                  · rw [gI_uI_n (by omega), gI_aI_n (by omega), gI_uI_n (by omega), gI_uI_n (by omega)]
                    exact (d r (by omega)).1
                  · rw [gI_uI_n (by omega), gI_aI_n (by omega), gI_uI_n (by omega), gI_uI_n (by omega)]
                    exact (d r (by omega)).2.1
                  · rw [gI_uI_n (by omega), gI_aI_s, if_neg (by omega), bgS_n (by omega) (by omega)]
                    exact (d r (by omega)).2.2 q hq
            refine ⟨nI 1, cX (uI (aI (uI (uI h2 14 (gB h2 1).toNat (S 0) (nI c)) 15 (gB h2 1).toNat (S 0) (nI y)) 16 (gB h2 1).toNat (fun j => if S 0 * 24 ≤ j ∧ j < S 0 * 24 + 24 then -nI 2 else gI h2 16 (gB h2 1).toNat j)) 13 (gB h2 1).toNat 1 (nI 1)) 0, g3, ?_, ?_, RelM (Inv_act V WI' h0) (CA_X A3) (Cch_X (Cch_of C2 (fun k i j hk => by rw [gI_uI_n (by omega), gI_aI_n (by omega), gI_uI_n (by omega), gI_uI_n (by omega)]))) M3 cX_10 (d11.trans mG_11) (by omega)⟩
            · unfold jX_begin
              rw [W.1, W.2.1]
              simp (disch := omega) only [litI, obind, nI_eq, if_true, if_false, if_neg, if_pos, c_accept, c_refuse, c_deny, c_grant, m_good, m_no, m_isNot, c_hasHand_t B I hcc, c_isYear_t hy, hly, nI_ltI, e1, hst, jbn, gB_aI, gB_uI, isZ1]
            · rw [mroad]
              unfold jM_begin_59
              simp (disch := omega) only [litI, obind, nI_eq, if_true, if_false, if_neg, if_pos, c_accept, c_refuse, c_deny, c_grant, m_good, m_no, m_isNot, hwt, inb_nI, nI_clamp, MS1 0, MS1 1, n0, hMS1 0, jbn, pk_mul, nI_add]
              rw [m_zero (n := S 0) (by omega)]
              unfold jM_begin_149
              simp (disch := omega) only [litI, obind, nI_eq, if_true, if_false, if_neg, if_pos, c_accept, c_refuse, c_deny, c_grant, m_good, m_no, m_isNot, nI_add, Nat.add_zero, inb_nI, nI_clamp, jbn]
              rw [show 2 + 26 * S 0 + 1 = 3 + 26 * S 0 by omega, d1]
              simp only [obind, isZ1, if_true]
    · refine ⟨nI 0, cX hc 2, mX (mG hm) 2, ?_, ?_, RelX V A C (MA_G M) (by omega)⟩
      · unfold jX_begin
        simp (disch := omega) only [litI, obind, nI_eq, if_true, if_false, if_neg, if_pos, c_accept, c_refuse, c_deny, c_grant, m_good, m_no, m_isNot, c_hasHand_t B I hcc, c_isYear_f hyr, isZ0]
      · rw [mroad]
        unfold jM_begin_59
        have hw0 : jM_within b (nI l) (nI 999) = some (nI 0) := by
          unfold jM_within
          simp only [litI]
          rcases inN_or b (n := 1000) (by omega) with q | q | q
          · exact absurd q hyr
          · have q2 : b < nI l := by
              rw [Int32.lt_iff_toInt_lt, nI_toInt (by omega)] at q ⊢
              omega
            simp only [q2, if_true]
          · have q2 : ¬ b ≤ nI 999 := by
              rw [Int32.lt_iff_toInt_lt, nI_toInt (by omega)] at q
              rw [Int32.le_iff_toInt_le, nI_toInt (by omega)]
              omega
            simp only [q2, if_false]
            split <;> rfl
        simp (disch := omega) only [litI, obind, nI_eq, if_true, if_false, if_neg, if_pos, c_accept, c_refuse, c_deny, c_grant, m_good, m_no, m_isNot, hw0, isZ0]
  · refine ⟨nI 0, cX hc 1, mX (mG hm) 1, ?_, ?_, RelX V A C (MA_G M) (by omega)⟩
    · unfold jX_begin
      simp (disch := omega) only [litI, obind, nI_eq, if_true, if_false, if_neg, if_pos, c_accept, c_refuse, c_deny, c_grant, m_good, m_no, m_isNot, c_hasHand_f B I hcl, isZ0]
    · unfold jM_begin
      simp (disch := omega) only [litI, obind, nI_eq, if_true, if_false, if_neg, if_pos, c_accept, c_refuse, c_deny, c_grant, m_good, m_no, m_isNot, hb1, inb_nI, nI_clamp, MR1 5, m_in_f (n := R 5) (by omega) hcl, isZ0]
      split <;> rfl
