/-! ===== pure: the contracts' line ===== -/
theorem c_addContract {h : AH} {b c : Nat} {x y z : Int32} (e : gI h 3 b 6 = nI c) (hc : c < 4) : jB_addContract h b x y z = some (uI (uI (uI (uI h 9 b c x) 10 b c y) 11 b c z) 3 b 6 (nI (c + 1))) := by
  unfold jB_addContract
  simp (disch := omega) only [litI, e, nI_ltI, if_pos, inb_nI, nI_clamp, jbn, gI_uI_n, if_true, nI_add]
theorem contract_bad {h : AH} {n : Nat} (B : Bad h n) : ∃ h', jR_contractLine_32 h = some h' ∧ FcB (gB h 2).toNat (gB h 3).toNat h h' := by
  have B1 := bad_a B
  have B8 := bad_corners_ok B1
  have B9 := bad_a B8
  have B10 := bad_a B9
  have B11 := bad_a B10
  have B12 := bad_a B11
  obtain ⟨u, hu⟩ := bad_corners B1
  refine ⟨_, ?_, ((((((((((((FcB_a (gB h 2).toNat (gB h 3).toNat h).trans (FcB_a _ _ _)).trans (FcB_a _ _ _)).trans (FcB_a _ _ _)).trans (FcB_a _ _ _)).trans (FcB_a _ _ _)).trans (FcB_a _ _ _)).trans (FcB_a _ _ _)).trans (FcB_a _ _ _)).trans (FcB_a _ _ _)).trans (FcB_a _ _ _)).trans (FcB_a _ _ _))⟩
  rw [jR_contractLine_32, jbn, show uI h 2 0 5 (gI h 2 0 5 + 1) = adH h from rfl, hu, obind, bad_word B8, obind, bad_whole B9, obind, bad_word B10, obind, bad_whole B11, obind, if_neg (Bad_nz B12)]
def ctH (g : AH) (k : Nat) (v w : Int32) : AH := uI (uI (uI (uI (uI (uI g 36 0 (22 + 6 * k) (gI g 32 0 24)) 36 0 (23 + 6 * k) (gI g 32 0 25)) 36 0 (24 + 6 * k) (gI g 32 0 26)) 36 0 (25 + 6 * k) (gI g 32 0 27)) 36 0 (26 + 6 * k) v) 36 0 (27 + 6 * k) w
theorem l_contract {hc hm : AH} {T R S : Nat → Nat} {L n i : Nat} (hb : ∀ i, T i < 256) (hL : L ≤ 900) (G : RG (adH hc) hm T L n i) (C : SBc hc (gB hc 2).toNat (gB hc 3).toNat R S) (M : SBm hm R S) (I : SBI R S) (h0 : R 0 ≠ 0) (h6 : R 6 < 4) : ∃ hc' hm', jR_contractLine_32 hc = some hc' ∧ jM_contractLine hm = some hm' ∧ LnO hc hm hc' hm' T L n i := by
  have e13 : gI hm 32 0 13 = 0 := G.2.2.2.2.2.2
  have m6 : gI hm 36 0 (Int32.toNatClampNeg 6) = nI (R 6) := M.1 6 (by omega)
  obtain ⟨i1, i2, i3, i4, i5, i6, i7, i8⟩ := I
  have C1 := SBc_r C (FcR_a hc)
  obtain ⟨c1, g1, u1, k1, a1, b1, F1, H1, S1, t1⟩ := p_corners (R := R) hb hL G C1.1.1.1 C1.1.1.2.1 (M.1 0 (by omega)) (M.1 1 (by omega)) (by omega) (by omega)
  obtain ⟨w2, c2, g2, u2, v2, k2, x2, a2, b2, d2, F2, F2', H2, S2, t2, z2⟩ := s_told (t := 15) (A := 0) (B := 999) (A' := 0) (B' := 999) 0 999 hb hL S1 (by decide) (fun _ => ⟨rfl, rfl, rfl, rfl, by decide, by decide⟩)
  obtain ⟨w3, c3, g3, u3, v3, k3, x3, a3, b3, d3, F3, F3', H3, S3, t3, z3⟩ := s_told (t := 16) (A := u2) (B := 999) (A' := v2) (B' := 999) x2 999 hb hL S2 (by decide) (fun z => by
    have q := t2 z
    exact ⟨q.2.2.2.1, rfl, q.2.2.2.2, rfl, by omega, by decide⟩)
  have FC : FcR hc c3 := ((FcR_a hc).trans F1).trans ((F2.trans F2').trans (F3.trans F3'))
  have FM : FmS hm g3 := (H1.s.trans H2.s).trans H3.s
  have eb : gB c3 2 = gB hc 2 := gB_r FC
  have eC : jR_contractLine_32 hc = if gI c3 2 0 0 = 0 then (jB_addContract c3 (gB c3 2).toNat u1 u2 u3).bind (fun h9 => some h9) else some c3 := by
    rw [jR_contractLine_32, jbn, show uI hc 2 0 5 (gI hc 2 0 5 + 1) = adH hc from rfl, a1, obind, pkW_15, a2, obind, b2, obind, pkW_16, a3, obind, b3, obind]
  have hy : (22 : Int32) + 6 * nI (R 6) = nI (22 + 6 * R 6) := by
    rw [show (22 : Int32) = nI 22 from rfl, show (6 : Int32) = nI 6 from rfl, pk_mul, nI_add]
  have hyk : ∀ k, k < 100 → nI (22 + 6 * R 6) + nI k = nI (22 + k + 6 * R 6) := fun k _ => by rw [nI_add, show 22 + 6 * R 6 + k = 22 + k + 6 * R 6 by omega]
  have hy1 : nI (22 + 6 * R 6) + 1 = nI (23 + 6 * R 6) := hyk 1 (by omega)
  have hy2 : nI (22 + 6 * R 6) + 2 = nI (24 + 6 * R 6) := hyk 2 (by omega)
  have hy3 : nI (22 + 6 * R 6) + 3 = nI (25 + 6 * R 6) := hyk 3 (by omega)
  have hy4 : nI (22 + 6 * R 6) + 4 = nI (26 + 6 * R 6) := hyk 4 (by omega)
  have hy5 : nI (22 + 6 * R 6) + 5 = nI (27 + 6 * R 6) := hyk 5 (by omega)
  have eM : jM_contractLine hm = if gI g3 32 0 13 = 0 then some (uI (ctH g3 (R 6) v2 v3) 36 0 6 (gI (ctH g3 (R 6) v2 v3) 36 0 6 + 1)) else some g3 := by
    rw [jM_contractLine, if_pos e13, if_pos (by decide), jbn, m6, hy, b1, obind, d2, obind, d3, obind, inb_nI (by omega) (by decide), if_pos rfl, jbn, hy1, inb_nI (by omega) (by decide), if_pos rfl, jbn, hy2, inb_nI (by omega) (by decide), if_pos rfl, jbn, hy3, inb_nI (by omega) (by decide), if_pos rfl, jbn, hy4, inb_nI (by omega) (by decide), if_pos rfl, jbn, hy5, inb_nI (by omega) (by decide), if_pos rfl, jbn, if_pos (show inb 6 161 = true by decide), if_pos (show inb 6 161 = true by decide), jbn, nI_clamp (by omega), nI_clamp (by omega), nI_clamp (by omega), nI_clamp (by omega), nI_clamp (by omega), nI_clamp (by omega)]
    rfl
  cases hk : k3 with
  | false =>
    rw [hk] at S3
    have F := S3.2 rfl
    have ne : ¬ gI g3 32 0 13 = 0 := by
      rw [RF_13 F]
      decide
    exact ⟨_, _, by rw [eC, if_neg (Bad_nz (F.bad hL))], by rw [eM, if_neg ne], LnO_fail (FC.s _ _) FM F⟩
  | true =>
    rw [hk] at S3 t3
    have G3 := S3.1 rfl
    have p3 := t3 rfl
    have p2 := t2 p3.1
    obtain ⟨x0, y0, xx, yy, o1, o2, o3, o4, o5, o6, o7, o8, o9⟩ := t1 p2.1
    have e4 : gI g3 32 0 13 = 0 := G3.2.2.2.2.2.2
    have C3 := SBc_r C FC
    rw [eb, c_addContract C3.1.1.2.2.2.2.2.2 h6] at eC
    have f32 : ∀ j, 24 ≤ j → j ≤ 27 → gI g3 32 0 j = gI g1 32 0 j := fun j h1 h2 => by
      rw [H3.1 32 0 j (by omega) (by decide), H2.1 32 0 j (by omega) (by decide)]
    have E0 : ∀ j, j < 161 → gI g3 36 0 j = nI (R j) := m36_r (m36_r (fun j hj => (H1 36 0 j (by omega) (by decide)).trans (M.1 j hj)) H2) H3
    have E1 := m36_u (p := 27 + 6 * R 6) (m36_u (p := 26 + 6 * R 6) (m36_u (p := 25 + 6 * R 6) (m36_u (p := 24 + 6 * R 6) (m36_u (p := 23 + 6 * R 6) (m36_u (p := 22 + 6 * R 6) E0 ((f32 24 (by omega) (by omega)).trans o6)) ((f32 25 (by omega) (by omega)).trans o7)) ((f32 26 (by omega) (by omega)).trans o8)) ((f32 27 (by omega) (by omega)).trans o9)) p2.2.2.2.2) p3.2.2.2.2
    have eF : ∀ k i j, ¬ (k = 36 ∧ i = 0) → gI (uI (ctH g3 (R 6) v2 v3) 36 0 6 (nI (R 6 + 1))) k i j = gI g3 k i j := fun k i j hk => by
      unfold ctH
      rw [gI_uI_n (by omega), gI_uI_n (by omega), gI_uI_n (by omega), gI_uI_n (by omega), gI_uI_n (by omega), gI_uI_n (by omega), gI_uI_n (by omega)]
    have e66 : gI (ctH g3 (R 6) v2 v3) 36 0 6 + 1 = nI (R 6 + 1) := by
      unfold ctH
      rw [E1 6 (by omega), upn_n (by omega), upn_n (by omega), upn_n (by omega), upn_n (by omega), upn_n (by omega), upn_n (by omega)]
      exact nI_add (R 6) 1
    have E2 := m36_u (p := 6) (x := R 6 + 1) E1 rfl
    rw [e66] at eM
    have eR : ∀ j, j ≠ 6 → ¬ (22 + 6 * R 6 ≤ j ∧ j ≤ 27 + 6 * R 6) → upn (upn (upn (upn (upn (upn (upn R (22 + 6 * R 6) x0) (23 + 6 * R 6) y0) (24 + 6 * R 6) xx) (25 + 6 * R 6) yy) (26 + 6 * R 6) x2) (27 + 6 * R 6) x3) 6 (R 6 + 1) j = R j := fun j h1 h2 => by
      rw [upn_n h1, upn_n (by omega), upn_n (by omega), upn_n (by omega), upn_n (by omega), upn_n (by omega), upn_n (by omega)]
    have r6 : upn (upn (upn (upn (upn (upn (upn R (22 + 6 * R 6) x0) (23 + 6 * R 6) y0) (24 + 6 * R 6) xx) (25 + 6 * R 6) yy) (26 + 6 * R 6) x2) (27 + 6 * R 6) x3) 6 (R 6 + 1) 6 = R 6 + 1 := upn_s _ _ _
    have r22 : upn (upn (upn (upn (upn (upn (upn R (22 + 6 * R 6) x0) (23 + 6 * R 6) y0) (24 + 6 * R 6) xx) (25 + 6 * R 6) yy) (26 + 6 * R 6) x2) (27 + 6 * R 6) x3) 6 (R 6 + 1) (22 + 6 * R 6) = x0 := by
      rw [upn_n (by omega), upn_n (by omega), upn_n (by omega), upn_n (by omega), upn_n (by omega), upn_n (by omega), upn_s]
    have r23 : upn (upn (upn (upn (upn (upn (upn R (22 + 6 * R 6) x0) (23 + 6 * R 6) y0) (24 + 6 * R 6) xx) (25 + 6 * R 6) yy) (26 + 6 * R 6) x2) (27 + 6 * R 6) x3) 6 (R 6 + 1) (23 + 6 * R 6) = y0 := by
      rw [upn_n (by omega), upn_n (by omega), upn_n (by omega), upn_n (by omega), upn_n (by omega), upn_s]
    have r24 : upn (upn (upn (upn (upn (upn (upn R (22 + 6 * R 6) x0) (23 + 6 * R 6) y0) (24 + 6 * R 6) xx) (25 + 6 * R 6) yy) (26 + 6 * R 6) x2) (27 + 6 * R 6) x3) 6 (R 6 + 1) (24 + 6 * R 6) = xx := by
      rw [upn_n (by omega), upn_n (by omega), upn_n (by omega), upn_n (by omega), upn_s]
    have r25 : upn (upn (upn (upn (upn (upn (upn R (22 + 6 * R 6) x0) (23 + 6 * R 6) y0) (24 + 6 * R 6) xx) (25 + 6 * R 6) yy) (26 + 6 * R 6) x2) (27 + 6 * R 6) x3) 6 (R 6 + 1) (25 + 6 * R 6) = yy := by
      rw [upn_n (by omega), upn_n (by omega), upn_n (by omega), upn_s]
    have r26 : upn (upn (upn (upn (upn (upn (upn R (22 + 6 * R 6) x0) (23 + 6 * R 6) y0) (24 + 6 * R 6) xx) (25 + 6 * R 6) yy) (26 + 6 * R 6) x2) (27 + 6 * R 6) x3) 6 (R 6 + 1) (26 + 6 * R 6) = x2 := by
      rw [upn_n (by omega), upn_n (by omega), upn_s]
    have r27 : upn (upn (upn (upn (upn (upn (upn R (22 + 6 * R 6) x0) (23 + 6 * R 6) y0) (24 + 6 * R 6) xx) (25 + 6 * R 6) yy) (26 + 6 * R 6) x2) (27 + 6 * R 6) x3) 6 (R 6 + 1) (27 + 6 * R 6) = x3 := by
      rw [upn_n (by omega), upn_s]
    generalize upn (upn (upn (upn (upn (upn (upn R (22 + 6 * R 6) x0) (23 + 6 * R 6) y0) (24 + 6 * R 6) xx) (25 + 6 * R 6) yy) (26 + 6 * R 6) x2) (27 + 6 * R 6) x3) 6 (R 6 + 1) = R' at eR r6 r22 r23 r24 r25 r26 r27 E2
    have enC : nC R' = nC R := by unfold nC; rw [eR 0 (by omega) (by omega), eR 1 (by omega) (by omega)]
    have h24 : nC R ≤ 24 := nC_24 (by omega) (by omega)
    have FO : FcS (gB hc 2).toNat (gB hc 3).toNat hc (uI (uI (uI (uI c3 9 (gB hc 2).toNat (R 6) u1) 10 (gB hc 2).toNat (R 6) u2) 11 (gB hc 2).toNat (R 6) u3) 3 (gB hc 2).toNat 6 (nI (R 6 + 1))) := (((((FC.s (gB hc 2).toNat (gB hc 3).toNat).trans (FcS_u (by omega))).trans (FcS_u (by omega))).trans (FcS_u (by omega))).trans (FcS_u (by omega)))
    refine ⟨_, _, by rw [eC, if_pos (show gI c3 2 0 0 = 0 from G3.2.2.2.1), obind], by rw [eM, if_pos e4], FO, fun k i j q1 q2 q3 q4 => (eF k i j (by omega)).trans (FM k i j q1 q2 q3 q4), Or.inl ⟨i + 7 + 2 + 2, R', S, by omega, RG_fr G3 (fun k i j hk => by rw [gI_uI_n (by omega), gI_uI_n (by omega), gI_uI_n (by omega), gI_uI_n (by omega)]) (fun j => rfl) (fun k i j hk => eF k i j (by omega)), ?_, ⟨E2, fun j hj => ?_⟩, ?_⟩⟩
    · rw [gB_s FO, gB_s FO]
      generalize (gB hc 2).toNat = b at *
      obtain ⟨⟨B1, B2, B3, B4⟩, C2, C3', C4, C5⟩ := C3
      refine ⟨⟨⟨?_, ?_, ?_, ?_, ?_, ?_, ?_⟩, fun q hq => ?_, fun k hk => ?_, fun q hq => ?_⟩, fun q hq => ?_, ?_, ⟨?_, ?_, fun q hq => ?_, fun q hq => ?_⟩, WkC_of C5 (fun k j hk => ?_)⟩
      · rw [gI_uI_n (by omega), gI_uI_n (by omega), gI_uI_n (by omega), gI_uI_n (by omega), eR 0 (by omega) (by omega)]; exact B1.1
      · rw [gI_uI_n (by omega), gI_uI_n (by omega), gI_uI_n (by omega), gI_uI_n (by omega), eR 1 (by omega) (by omega)]; exact B1.2.1
      · rw [gI_uI_n (by omega), gI_uI_n (by omega), gI_uI_n (by omega), gI_uI_n (by omega), eR 2 (by omega) (by omega)]; exact B1.2.2.1
      · rw [gI_uI_n (by omega), gI_uI_n (by omega), gI_uI_n (by omega), gI_uI_n (by omega), eR 3 (by omega) (by omega)]; exact B1.2.2.2.1
      · rw [gI_uI_n (by omega), gI_uI_n (by omega), gI_uI_n (by omega), gI_uI_n (by omega), eR 4 (by omega) (by omega)]; exact B1.2.2.2.2.1
      · rw [gI_uI_n (by omega), gI_uI_n (by omega), gI_uI_n (by omega), gI_uI_n (by omega), eR 5 (by omega) (by omega)]; exact B1.2.2.2.2.2.1
      · rw [gI_uI_s, r6]
      · have n4 := i8.1
        rw [eR 4 (by omega) (by omega)] at hq
        rw [gI_uI_n (by omega), gI_uI_n (by omega), gI_uI_n (by omega), gI_uI_n (by omega), gI_uI_n (by omega), gI_uI_n (by omega), gI_uI_n (by omega), gI_uI_n (by omega), gI_uI_n (by omega), gI_uI_n (by omega), gI_uI_n (by omega), gI_uI_n (by omega), eR (7 + q) (by omega) (by omega), eR (12 + q) (by omega) (by omega), eR (17 + q) (by omega) (by omega)]
        exact B2 q hq
      · by_cases hke : k = R 6
        · have er : rcm R' (R 6) = bM (inr (R 0) x0 y0 xx yy) (nC R) := by
            unfold rcm
            rw [enC, eR 0 (by omega) (by omega), r22, r23, r24, r25]
          rw [hke, er, r26, r27, gI_uI_n (by omega), gI_uI_n (by omega), gI_uI_n (by omega), gI_uI_s, gI_uI_n (by omega), gI_uI_n (by omega), gI_uI_s, gI_uI_n (by omega), gI_uI_s]
          exact ⟨o5, p2.2.2.2.1, p3.2.2.2.1⟩
        · have hk' : k < R 6 := by omega
          have er : rcm R' k = rcm R k := by
            unfold rcm
            rw [enC, eR 0 (by omega) (by omega), eR (22 + 6 * k) (by omega) (by omega), eR (23 + 6 * k) (by omega) (by omega), eR (24 + 6 * k) (by omega) (by omega), eR (25 + 6 * k) (by omega) (by omega)]
          rw [er, eR (26 + 6 * k) (by omega) (by omega), eR (27 + 6 * k) (by omega) (by omega), gI_uI_n (by omega), gI_uI_n (by omega), gI_uI_n (by omega), gI_uI_n (by omega), gI_uI_n (by omega), gI_uI_n (by omega), gI_uI_n (by omega), gI_uI_n (by omega), gI_uI_n (by omega), gI_uI_n (by omega), gI_uI_n (by omega), gI_uI_n (by omega)]
          exact B3 k hk'
      · rw [enC] at hq
        rw [gI_uI_n (by omega), gI_uI_n (by omega), gI_uI_n (by omega), gI_uI_n (by omega), eR (46 + q) (by omega) (by omega)]
        exact B4 q hq
      · rw [gI_uI_n (by omega), gI_uI_n (by omega), gI_uI_n (by omega), gI_uI_n (by omega), eR (46 + q) (by omega) (by omega)]
        exact C2 q hq
      · rw [gI_uI_n (by omega), gI_uI_n (by omega), gI_uI_n (by omega), gI_uI_n (by omega), eR 70 (by omega) (by omega)]
        exact C3'
      · rw [gI_uI_n (by omega), gI_uI_n (by omega), gI_uI_n (by omega), gI_uI_n (by omega), eR 4 (by omega) (by omega)]; exact B1.2.2.2.2.1
      · rw [gI_uI_n (by omega), gI_uI_n (by omega), gI_uI_n (by omega), gI_uI_n (by omega), eR 5 (by omega) (by omega)]; exact B1.2.2.2.2.2.1
      · rw [eR 4 (by omega) (by omega)] at hq
        have e : nmF R' q = nmF R q := funext fun j => eR _ (by omega) (by omega)
        rw [e, eR (71 + q) (by omega) (by omega)]
        exact C4.2.2.1 q hq
      · rw [eR 5 (by omega) (by omega)] at hq
        have e : nmF R' (5 + q) = nmF R (5 + q) := funext fun j => eR _ (by omega) (by omega)
        rw [e, eR (71 + (5 + q)) (by omega) (by omega)]
        exact C4.2.2.2 q hq
      · rw [gI_uI_n (by omega), gI_uI_n (by omega), gI_uI_n (by omega), gI_uI_n (by omega)]
    · rw [eF 38 0 j (by omega), H3.1 38 0 j (by omega) (by decide), H2.1 38 0 j (by omega) (by decide), H1 38 0 j (by omega) (by decide)]
      exact M.2 j hj
    · have n4 := i8.1
      refine ⟨?_, ?_, fun q hq => ?_, fun k hk => ?_, fun q hq => ?_, fun w hw => ?_, i7, ?_⟩
      · rw [enC, eR 0 (by omega) (by omega), eR 1 (by omega) (by omega), eR 2 (by omega) (by omega), eR 3 (by omega) (by omega)]
        omega
      · rw [r6, eR 70 (by omega) (by omega)]
        omega
      · rw [eR 4 (by omega) (by omega)] at hq
        rw [eR (7 + q) (by omega) (by omega), eR (12 + q) (by omega) (by omega), eR (17 + q) (by omega) (by omega)]
        exact i3 q hq
      · rw [eR 0 (by omega) (by omega), eR 1 (by omega) (by omega)]
        by_cases hke : k = R 6
        · rw [hke, r22, r23, r24, r25, r26, r27]
          omega
        · rw [eR (22 + 6 * k) (by omega) (by omega), eR (23 + 6 * k) (by omega) (by omega), eR (24 + 6 * k) (by omega) (by omega), eR (25 + 6 * k) (by omega) (by omega), eR (26 + 6 * k) (by omega) (by omega), eR (27 + 6 * k) (by omega) (by omega)]
          exact i4 k (by omega)
      · rw [enC, eR 4 (by omega) (by omega), eR (46 + q) (by omega) (by omega)]
        exact i5 q hq
      · rw [enC, eR 4 (by omega) (by omega)]
        exact i6 w hw
      · have eFn : ∀ k, nmF R' k = nmF R k := fun k => funext fun j => eR _ (by omega) (by omega)
        unfold NmI nmH at *
        simp only [eFn, eR 4 (show 4 ≠ 6 by omega) (show ¬ (22 + 6 * R 6 ≤ 4 ∧ 4 ≤ 27 + 6 * R 6) by omega), eR 5 (show 5 ≠ 6 by omega) (show ¬ (22 + 6 * R 6 ≤ 5 ∧ 5 ≤ 27 + 6 * R 6) by omega), fun k => eR (71 + k) (show 71 + k ≠ 6 by omega) (show ¬ (22 + 6 * R 6 ≤ 71 + k ∧ 71 + k ≤ 27 + 6 * R 6) by omega)]
        refine ⟨i8.1, i8.2.1, i8.2.2.1, i8.2.2.2.1, i8.2.2.2.2.1, fun j h1 h2 => ?_⟩
        rw [eR j (by omega) (by omega)]
        exact i8.2.2.2.2.2 j h1 h2
