/-! ===== pure: the colours' line ===== -/
theorem Bad_nz {h : AH} {n : Nat} (B : Bad h n) : ¬ gI h 2 0 0 = 0 := fun z => by
  obtain ⟨_, _, g, a, b, c⟩ := B
  have := (nI_eq (by omega) (by decide)).1 ((c.symm.trans z : nI g = nI 0))
  omega
theorem c_addColour {h : AH} {b c : Nat} {V : Int64} {x y z : Int32} (e : gI h 3 b 4 = nI c) (hc : c < 5) : jB_addColour h b V x y z = some (uI (uI (uI (uI (uL h 4 b c V) 5 b c x) 6 b c y) 7 b c z) 3 b 4 (nI (c + 1))) := by
  unfold jB_addColour
  simp (disch := omega) only [litI, e, nI_ltI, if_pos, inb_nI, nI_clamp, jbn, gI_uL, gI_uI_n, if_true, nI_add]
theorem m36_r {g g' : AH} {R : Nat → Nat} (e : ∀ j, j < 161 → gI g 36 0 j = nI (R j)) (F : FmR g g') : ∀ j, j < 161 → gI g' 36 0 j = nI (R j) := fun j hj => (F.1 36 0 j (by omega) (by decide)).trans (e j hj)
theorem m36_u {g : AH} {R : Nat → Nat} {p x : Nat} {v : Int32} (e : ∀ j, j < 161 → gI g 36 0 j = nI (R j)) (hv : v = nI x) : ∀ j, j < 161 → gI (uI g 36 0 p v) 36 0 j = nI (upn R p x j) := fun j hj => by
  by_cases h : j = p
  · rw [h, gI_uI_s, upn_s, hv]
  · rw [gI_uI_n (by omega), upn_n h]
    exact e j hj
theorem LnO_trans {hc hm h1 m1 hc' hm' : AH} {T : Nat → Nat} {L n i i1 : Nat} (F : FcS (gB hc 2).toNat (gB hc 3).toNat hc h1) (F2 : FmS hm m1) (hi : i ≤ i1) (O : LnO h1 m1 hc' hm' T L n i1) : LnO hc hm hc' hm' T L n i := by
  obtain ⟨a, b, c⟩ := O
  rw [gB_s F, gB_s F] at a
  refine ⟨F.trans a, F2.trans b, ?_⟩
  rcases c with ⟨j, R, S, d, e⟩ | c
  · exact Or.inl ⟨j, R, S, by omega, e⟩
  · exact Or.inr c
theorem LnO_fail {hc hm hc' hm' : AH} {T : Nat → Nat} {L n i : Nat} (F : FcS (gB hc 2).toNat (gB hc 3).toNat hc hc') (F2 : FmS hm hm') (R : RF hc' hm' T L n) : LnO hc hm hc' hm' T L n i := ⟨F, F2, Or.inr R⟩
/-- a name that is no new one: both have failed -/
theorem new_fail {hc hm : AH} {T : Nat → Nat} {L n i f : Nat} (G : RG (adH hc) hm T L n i) (h1 : 1 ≤ f) (h2 : f ≤ 6) (b w : Nat) : RF (adH (flH (adH hc) f)) (wrH hm f (tS T L i)) T L n ∧ FcS b w hc (adH (flH (adH hc) f)) ∧ FmS hm (wrH hm f (tS T L i)) :=
  ⟨RF_a (RG_fail G ⟨h1, h2⟩), (((FcR_a hc).trans (FcR_f _ f)).trans (FcR_a _)).s b w, (FmR_w hm f _).s⟩
theorem l_colour {hc hm : AH} {T R S : Nat → Nat} {L n i : Nat} (hb : ∀ i, T i < 256) (hL : L ≤ 900) (G : RG (adH hc) hm T L n i) (C : SBc hc (gB hc 2).toNat (gB hc 3).toNat R S) (M : SBm hm R S) (I : SBI R S) (h4 : R 4 < 5) : ∃ hc' hm', jR_colourLine_16 hc = some hc' ∧ jM_colourLine hm = some hm' ∧ LnO hc hm hc' hm' T L n i := by
  have e13 : gI hm 32 0 13 = 0 := G.2.2.2.2.2.2
  have m4 : gI hm 36 0 (Int32.toNatClampNeg 4) = nI (R 4) := M.1 4 (by omega)
  have N : NmI R := I.2.2.2.2.2.2.2
  rcases p_new hL G (NmC_r C.2.2.2.1 (FcR_a hc)) (fun j h1 h2 => M.1 j h2) N with ⟨h2, nw, mN, cN, -, hi⟩ | ⟨f, f1, f2, mN, cN⟩
  · have k8 := (kd_2 h2).2.2
    have kl := kd2_let h2
    have k1' : 1 ≤ enT T L (tS T L i) - tS T L i := by
      have := enT_b (T := T) (kd_2 h2).1
      omega
    obtain ⟨hm2, q1, G2, K2, E2⟩ := p_keep hb hL G h2 hi (k := R 4) (by omega) M.1
    obtain ⟨w1, c1, g1, u1, v1, k1, x1, a1, b1, d1, F1, F1', H1, S1, t1, z1⟩ := s_told (t := 10) (A := 0) (B := 9) (A' := 0) (B' := 9) 0 9 hb hL (St_t G2) (by decide) (fun _ => ⟨rfl, rfl, rfl, rfl, by decide, by decide⟩)
    have S1' : St c1 (uI g1 36 0 (7 + R 4) v1) T L n k1 (i + 1 + 2) := St_m S1 (fun k i j hk => gI_uI_n (by omega))
    obtain ⟨w2, c2, g2, u2, v2, k2, x2, a2, b2, d2, F2, F2', H2, S2, t2, z2⟩ := s_told (t := 11) (A := 0) (B := 999) (A' := 0) (B' := 999) 0 999 hb hL S1' (by decide) (fun _ => ⟨rfl, rfl, rfl, rfl, by decide, by decide⟩)
    have S2' : St c2 (uI g2 36 0 (12 + R 4) v2) T L n k2 (i + 1 + 2 + 2) := St_m S2 (fun k i j hk => gI_uI_n (by omega))
    obtain ⟨w3, c3, g3, u3, v3, k3, x3, a3, b3, d3, F3, F3', H3, S3, t3, z3⟩ := s_told (t := 12) (A := 0) (B := 999) (A' := 0) (B' := 999) 0 999 hb hL S2' (by decide) (fun _ => ⟨rfl, rfl, rfl, rfl, by decide, by decide⟩)
    have FC : FcR hc c3 := ((FcR_a hc).trans (FcR_a _)).trans (((F1.trans F1').trans (F2.trans F2')).trans (F3.trans F3'))
    have FM : FmS hm (uI g3 36 0 (17 + R 4) v3) := (((((K2.s.trans H1.s).trans (FmS_u (by omega))).trans H2.s).trans (FmS_u (by omega))).trans H3.s).trans (FmS_u (by omega))
    have eC : jR_colourLine_16 hc = if gI c3 2 0 0 = 0 then (jB_addColour c3 (gB c3 2).toNat (lqI (paF (ltT T (tS T L i)) (enT T L (tS T L i) - tS T L i))) u1 u2 u3).bind (fun h9 => some h9) else some c3 := by
      rw [jR_colourLine_16, jbn, show uI hc 2 0 5 (gI hc 2 0 5 + 1) = adH hc from rfl, cN, obind, pkW_10, a1, obind, b1, obind, pkW_11, a2, obind, b2, obind, pkW_12, a3, obind, b3, obind]
    have eM : jM_colourLine hm = if gI (uI g3 36 0 (17 + R 4) v3) 32 0 13 = 0 then some (uI (uI g3 36 0 (17 + R 4) v3) 36 0 4 (gI (uI g3 36 0 (17 + R 4) v3) 36 0 4 + 1)) else some (uI g3 36 0 (17 + R 4) v3) := by
      rw [jM_colourLine, if_pos e13, if_pos (by decide), mN, obind, if_pos e13, m4, q1, obind, d1, obind, show (7 : Int32) + nI (R 4) = nI (7 + R 4) from nI_add 7 (R 4), inb_nI (by omega) (by decide), if_pos rfl, nI_clamp (by omega), jbn, d2, obind, show (12 : Int32) + nI (R 4) = nI (12 + R 4) from nI_add 12 (R 4), inb_nI (by omega) (by decide), if_pos rfl, nI_clamp (by omega), jbn, d3, obind, show (17 : Int32) + nI (R 4) = nI (17 + R 4) from nI_add 17 (R 4), inb_nI (by omega) (by decide), if_pos rfl, nI_clamp (by omega), jbn, if_pos (show inb 4 161 = true by decide), if_pos (show inb 4 161 = true by decide), jbn]
      rfl
    cases hk : k3 with
    | false =>
      rw [hk] at S3
      have F := S3.2 rfl
      have ne : ¬ gI (uI g3 36 0 (17 + R 4) v3) 32 0 13 = 0 := by
        rw [gI_uI_n (by omega), RF_13 F]
        decide
      exact ⟨_, _, by rw [eC, if_neg (Bad_nz (F.bad hL))], by rw [eM, if_neg ne], LnO_fail (FC.s _ _) FM (RF_fr F (fun _ _ _ _ => rfl) (fun _ => rfl) (fun k i j hk => gI_uI_n (by omega)))⟩
    | true =>
      rw [hk] at S3 t3
      have G3 := S3.1 rfl
      have p3 := t3 rfl
      have p2 := t2 p3.1
      have p1 := t1 p2.1
      have e4 : gI (uI g3 36 0 (17 + R 4) v3) 32 0 13 = 0 := by
        rw [gI_uI_n (by omega)]
        exact G3.2.2.2.2.2.2
      have E3 := m36_u (p := 17 + R 4) (m36_r (m36_u (p := 12 + R 4) (m36_r (m36_u (p := 7 + R 4) (m36_r E2 H1) p1.2.2.2.2) H2) p2.2.2.2.2) H3) p3.2.2.2.2
      have eb : gB c3 2 = gB hc 2 := gB_r FC
      have eb3 : gB c3 3 = gB hc 3 := gB_r FC
      have E38 : ∀ j, gI (uI g3 36 0 (17 + R 4) v3) 38 0 j = gI hm 38 0 j := fun j => by
        rw [gI_uI_n (by omega), H3.1 38 0 j (by omega) (by decide), gI_uI_n (by omega), H2.1 38 0 j (by omega) (by decide), gI_uI_n (by omega), H1.1 38 0 j (by omega) (by decide), K2 38 0 j (by omega) (by decide) (by decide)]
      have e44 : gI (uI g3 36 0 (17 + R 4) v3) 36 0 4 + 1 = nI (R 4 + 1) := by
        rw [E3 4 (by omega), upn_n (by omega), upn_n (by omega), upn_n (by omega), nmR_lo (by omega)]
        exact nI_add (R 4) 1
      have C3 := SBc_r C FC
      have eadd := c_addColour (h := c3) (b := (gB hc 2).toNat) (V := lqI (paF (ltT T (tS T L i)) (enT T L (tS T L i) - tS T L i))) (x := u1) (y := u2) (z := u3) C3.1.1.2.2.2.2.1 h4
      rw [eb] at eC
      rw [eadd] at eC
      rw [e44] at eM
      generalize hb' : (gB hc 2).toNat = b at *
      have eR : ∀ j, j ≠ 4 → j < 71 → j ≠ 7 + R 4 → j ≠ 12 + R 4 → j ≠ 17 + R 4 → upn (upn (upn (upn (nmR R (R 4) (enT T L (tS T L i) - tS T L i) (ltT T (tS T L i))) (7 + R 4) x1) (12 + R 4) x2) (17 + R 4) x3) 4 (R 4 + 1) j = R j := fun j h1 h2 h3 h5 h6 => by
        rw [upn_n h1, upn_n h6, upn_n h5, upn_n h3, nmR_lo h2]
      have eN : ∀ j, 71 ≤ j → upn (upn (upn (upn (nmR R (R 4) (enT T L (tS T L i) - tS T L i) (ltT T (tS T L i))) (7 + R 4) x1) (12 + R 4) x2) (17 + R 4) x3) 4 (R 4 + 1) j = nmR R (R 4) (enT T L (tS T L i) - tS T L i) (ltT T (tS T L i)) j := fun j hj => by
        rw [upn_n (by omega), upn_n (by omega), upn_n (by omega), upn_n (by omega)]
      have e4' : upn (upn (upn (upn (nmR R (R 4) (enT T L (tS T L i) - tS T L i) (ltT T (tS T L i))) (7 + R 4) x1) (12 + R 4) x2) (17 + R 4) x3) 4 (R 4 + 1) 4 = R 4 + 1 := upn_s _ _ _
      have e7' : upn (upn (upn (upn (nmR R (R 4) (enT T L (tS T L i) - tS T L i) (ltT T (tS T L i))) (7 + R 4) x1) (12 + R 4) x2) (17 + R 4) x3) 4 (R 4 + 1) (7 + R 4) = x1 := by
        rw [upn_n (by omega), upn_n (by omega), upn_n (by omega), upn_s]
      have e12' : upn (upn (upn (upn (nmR R (R 4) (enT T L (tS T L i) - tS T L i) (ltT T (tS T L i))) (7 + R 4) x1) (12 + R 4) x2) (17 + R 4) x3) 4 (R 4 + 1) (12 + R 4) = x2 := by
        rw [upn_n (by omega), upn_n (by omega), upn_s]
      have e17' : upn (upn (upn (upn (nmR R (R 4) (enT T L (tS T L i) - tS T L i) (ltT T (tS T L i))) (7 + R 4) x1) (12 + R 4) x2) (17 + R 4) x3) 4 (R 4 + 1) (17 + R 4) = x3 := by
        rw [upn_n (by omega), upn_s]
      have E4 := m36_u (p := 4) (x := R 4 + 1) E3 rfl
      generalize upn (upn (upn (upn (nmR R (R 4) (enT T L (tS T L i) - tS T L i) (ltT T (tS T L i))) (7 + R 4) x1) (12 + R 4) x2) (17 + R 4) x3) 4 (R 4 + 1) = R' at eR eN e4' e7' e12' e17' E4
      have hH : ∀ j, j < 10 → (nmH R' j ↔ nmH R j ∨ j = R 4) := fun j hj => by
        unfold nmH
        rw [e4', eR 5 (by omega) (by omega) (by omega) (by omega) (by omega)]
        omega
      obtain ⟨i1, i2, i3, i4, i5, i6, i7, i8⟩ := I
      have hnk : ¬ nmH R (R 4) := fun z => by unfold nmH at z; omega
      have n5 := N.2.1
      have N' : NmI R' := NmI_add (k := R 4) N (by omega) hnk ⟨k1', k8⟩ (fun j hj => kl j hj) nw eN (by omega) (by rw [eR 5 (by omega) (by omega) (by omega) (by omega) (by omega)]; omega) hH
      have enC : nC R' = nC R := by unfold nC; rw [eR 0 (by omega) (by omega) (by omega) (by omega) (by omega), eR 1 (by omega) (by omega) (by omega) (by omega) (by omega)]
      have FO : FcS b (gB hc 3).toNat hc (uI (uI (uI (uI (uL c3 4 b (R 4) (lqI (paF (ltT T (tS T L i)) (enT T L (tS T L i) - tS T L i)))) 5 b (R 4) u1) 6 b (R 4) u2) 7 b (R 4) u3) 3 b 4 (nI (R 4 + 1))) := ((((((FC.s b (gB hc 3).toNat).trans (FcS_uL (by decide))).trans (FcS_u (by omega))).trans (FcS_u (by omega))).trans (FcS_u (by omega))).trans (FcS_u (by omega)))
      refine ⟨_, _, by rw [eC, if_pos (show gI c3 2 0 0 = 0 from G3.2.2.2.1), obind], by rw [eM, if_pos e4], ?_, FM.trans (FmS_u (by omega)), Or.inl ⟨i + 1 + 2 + 2 + 2, R', S, by omega, RG_fr G3 (fun k i j hk => by rw [gI_uI_n (by omega), gI_uI_n (by omega), gI_uI_n (by omega), gI_uI_n (by omega), gI_uL]) (fun j => by rw [gL_uI, gL_uI, gL_uI, gL_uI, gL_uL, if_neg (by omega)]) (fun k i j hk => (gI_uI_n (by omega)).trans (gI_uI_n (by omega))), ?_, ⟨E4, fun j hj => ?_⟩, ?_⟩⟩
      · rw [hb']
        exact FO
      · rw [gB_s FO, gB_s FO, hb']
        obtain ⟨⟨B1, B2, B3, B4⟩, C2, C3', C4, C5⟩ := C3
        refine ⟨⟨⟨?_, ?_, ?_, ?_, ?_, ?_, ?_⟩, fun q hq => ?_, fun k hk => ?_, fun q hq => ?_⟩, fun q hq => ?_, ?_, ⟨?_, ?_, fun q hq => ?_, fun q hq => ?_⟩, WkC_of C5 (fun k j hk => ?_)⟩
        · rw [gI_uI_n (by omega), gI_uI_n (by omega), gI_uI_n (by omega), gI_uI_n (by omega), gI_uL, eR 0 (by omega) (by omega) (by omega) (by omega) (by omega)]; exact B1.1
        · rw [gI_uI_n (by omega), gI_uI_n (by omega), gI_uI_n (by omega), gI_uI_n (by omega), gI_uL, eR 1 (by omega) (by omega) (by omega) (by omega) (by omega)]; exact B1.2.1
        · rw [gI_uI_n (by omega), gI_uI_n (by omega), gI_uI_n (by omega), gI_uI_n (by omega), gI_uL, eR 2 (by omega) (by omega) (by omega) (by omega) (by omega)]; exact B1.2.2.1
        · rw [gI_uI_n (by omega), gI_uI_n (by omega), gI_uI_n (by omega), gI_uI_n (by omega), gI_uL, eR 3 (by omega) (by omega) (by omega) (by omega) (by omega)]; exact B1.2.2.2.1
        · rw [gI_uI_s, e4']
        · rw [gI_uI_n (by omega), gI_uI_n (by omega), gI_uI_n (by omega), gI_uI_n (by omega), gI_uL, eR 5 (by omega) (by omega) (by omega) (by omega) (by omega)]; exact B1.2.2.2.2.2.1
        · rw [gI_uI_n (by omega), gI_uI_n (by omega), gI_uI_n (by omega), gI_uI_n (by omega), gI_uL, eR 6 (by omega) (by omega) (by omega) (by omega) (by omega)]; exact B1.2.2.2.2.2.2
        · by_cases hqe : q = R 4
          · rw [hqe, gI_uI_n (by omega), gI_uI_n (by omega), gI_uI_n (by omega), gI_uI_s, gI_uI_n (by omega), gI_uI_n (by omega), gI_uI_s, gI_uI_n (by omega), gI_uI_s, e7', e12', e17']
            exact ⟨p1.2.2.2.1, p2.2.2.2.1, p3.2.2.2.1⟩
          · rw [gI_uI_n (by omega), gI_uI_n (by omega), gI_uI_n (by omega), gI_uI_n (by omega), gI_uL, gI_uI_n (by omega), gI_uI_n (by omega), gI_uI_n (by omega), gI_uI_n (by omega), gI_uL, gI_uI_n (by omega), gI_uI_n (by omega), gI_uI_n (by omega), gI_uI_n (by omega), gI_uL, eR _ (by omega) (by omega) (by omega) (by omega) (by omega), eR _ (by omega) (by omega) (by omega) (by omega) (by omega), eR _ (by omega) (by omega) (by omega) (by omega) (by omega)]
            exact B2 q (by omega)
        · rw [eR 6 (by omega) (by omega) (by omega) (by omega) (by omega)] at hk
          have er : rcm R' k = rcm R k := by
            unfold rcm
            rw [enC, eR 0 (by omega) (by omega) (by omega) (by omega) (by omega), eR (22 + 6 * k) (by omega) (by omega) (by omega) (by omega) (by omega), eR (23 + 6 * k) (by omega) (by omega) (by omega) (by omega) (by omega), eR (24 + 6 * k) (by omega) (by omega) (by omega) (by omega) (by omega), eR (25 + 6 * k) (by omega) (by omega) (by omega) (by omega) (by omega)]
          rw [er, eR (26 + 6 * k) (by omega) (by omega) (by omega) (by omega) (by omega), eR (27 + 6 * k) (by omega) (by omega) (by omega) (by omega) (by omega), gI_uI_n (by omega), gI_uI_n (by omega), gI_uI_n (by omega), gI_uI_n (by omega), gI_uL, gI_uI_n (by omega), gI_uI_n (by omega), gI_uI_n (by omega), gI_uI_n (by omega), gI_uL, gI_uI_n (by omega), gI_uI_n (by omega), gI_uI_n (by omega), gI_uI_n (by omega), gI_uL]
          exact B3 k hk
        · have h24 : nC R ≤ 24 := nC_24 (by omega) (by omega)
          rw [enC] at hq
          rw [gI_uI_n (by omega), gI_uI_n (by omega), gI_uI_n (by omega), gI_uI_n (by omega), gI_uL, eR (46 + q) (by omega) (by omega) (by omega) (by omega) (by omega)]
          exact B4 q hq
        · rw [gI_uI_n (by omega), gI_uI_n (by omega), gI_uI_n (by omega), gI_uI_n (by omega), gI_uL, eR (46 + q) (by omega) (by omega) (by omega) (by omega) (by omega)]
          exact C2 q hq
        · rw [gI_uI_n (by omega), gI_uI_n (by omega), gI_uI_n (by omega), gI_uI_n (by omega), gI_uL, eR 70 (by omega) (by omega) (by omega) (by omega) (by omega)]
          exact C3'
        · rw [gI_uI_s, e4']
        · rw [gI_uI_n (by omega), gI_uI_n (by omega), gI_uI_n (by omega), gI_uI_n (by omega), gI_uL, eR 5 (by omega) (by omega) (by omega) (by omega) (by omega)]; exact B1.2.2.2.2.2.1
        · rw [gL_uI, gL_uI, gL_uI, gL_uI, gL_uL]
          by_cases hqe : q = R 4
          · rw [hqe, if_pos ⟨rfl, rfl, rfl⟩, nm_pk2 (by omega) k8 eN]
          · rw [if_neg (fun z => hqe z.2.2), nm_pk N (by omega) k8 eN (by omega) (Or.inl (by omega)) hqe]
            exact C4.2.2.1 q (by omega)
        · rw [eR 5 (by omega) (by omega) (by omega) (by omega) (by omega)] at hq
          rw [gL_uI, gL_uI, gL_uI, gL_uI, gL_uL, if_neg (by omega), nm_pk N (by omega) k8 eN (by omega) (Or.inr ⟨by omega, by omega⟩) (by omega)]
          exact C4.2.2.2 q hq
        · rw [gI_uI_n (by omega), gI_uI_n (by omega), gI_uI_n (by omega), gI_uI_n (by omega), gI_uL]
      · rw [gI_uI_n (by omega), E38]
        exact M.2 j hj
      · refine ⟨?_, ?_, fun q hq => ?_, fun k hk => ?_, fun q hq => ?_, fun w hw => ?_, i7, N'⟩
        · rw [enC, eR 0 (by omega) (by omega) (by omega) (by omega) (by omega), eR 1 (by omega) (by omega) (by omega) (by omega) (by omega), eR 2 (by omega) (by omega) (by omega) (by omega) (by omega), eR 3 (by omega) (by omega) (by omega) (by omega) (by omega), eR 6 (by omega) (by omega) (by omega) (by omega) (by omega), eR 70 (by omega) (by omega) (by omega) (by omega) (by omega)]
          exact i1
        · rw [eR 6 (by omega) (by omega) (by omega) (by omega) (by omega), eR 70 (by omega) (by omega) (by omega) (by omega) (by omega)]
          exact i2
        · by_cases hqe : q = R 4
          · rw [hqe, e7', e12', e17']
            omega
          · rw [eR _ (by omega) (by omega) (by omega) (by omega) (by omega), eR _ (by omega) (by omega) (by omega) (by omega) (by omega), eR _ (by omega) (by omega) (by omega) (by omega) (by omega)]
            exact i3 q (by omega)
        · rw [eR 6 (by omega) (by omega) (by omega) (by omega) (by omega)] at hk
          rw [eR 0 (by omega) (by omega) (by omega) (by omega) (by omega), eR 1 (by omega) (by omega) (by omega) (by omega) (by omega), eR (22 + 6 * k) (by omega) (by omega) (by omega) (by omega) (by omega), eR (23 + 6 * k) (by omega) (by omega) (by omega) (by omega) (by omega), eR (24 + 6 * k) (by omega) (by omega) (by omega) (by omega) (by omega), eR (25 + 6 * k) (by omega) (by omega) (by omega) (by omega) (by omega), eR (26 + 6 * k) (by omega) (by omega) (by omega) (by omega) (by omega), eR (27 + 6 * k) (by omega) (by omega) (by omega) (by omega) (by omega)]
          exact i4 k hk
        · have := i5 q hq
          rw [enC, e4', eR (46 + q) (by omega) (by omega) (by omega) (by omega) (by omega)]
          exact ⟨by omega, this.2⟩
        · have := i6 w hw
          refine ⟨this.1, this.2.1, fun q hq => ?_⟩
          have := this.2.2 q hq
          rw [enC, e4']
          exact ⟨by omega, this.2⟩
  · obtain ⟨u, cN⟩ := cN 0
    obtain ⟨F, FS, FM⟩ := new_fail G f1 f2 (gB hc 2).toNat (gB hc 3).toNat
    have B := F.bad hL
    have B1 := bad_a B
    have B2 := bad_a B1
    have B3 := bad_a B2
    have B4 := bad_a B3
    have B5 := bad_a B4
    have B6 := bad_a B5
    have FB := ((((((FcB_a (gB hc 2).toNat (gB hc 3).toNat (adH (flH (adH hc) f))).trans (FcB_a _ _ _)).trans (FcB_a _ _ _)).trans (FcB_a _ _ _)).trans (FcB_a _ _ _)).trans (FcB_a _ _ _))
    refine ⟨_, _, ?_, ?_, LnO_fail (FS.trans FB.1) FM (RF_b F FB)⟩
    · rw [jR_colourLine_16, jbn, show uI hc 2 0 5 (gI hc 2 0 5 + 1) = adH hc from rfl, cN, obind, bad_word B, obind, bad_whole B1, obind, bad_word B2, obind, bad_whole B3, obind, bad_word B4, obind, bad_whole B5, obind, if_neg (Bad_nz B6)]
    · rw [jM_colourLine, if_pos e13, if_pos (by decide), mN, obind, if_neg (wrH_13 _ _ _)]
