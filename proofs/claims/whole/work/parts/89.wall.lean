/-! ===== pure: the wall's line ===== -/
def SBI (R S : Nat → Nat) : Prop :=
  (R 0 = 0 ∧ R 1 = 0 ∧ R 2 = 0 ∧ R 3 = 0 ∧ R 6 = 0 ∧ R 70 = 0 ∧ S 0 = 0 ∨ 1 ≤ R 0 ∧ R 0 ≤ 6 ∧ 1 ≤ R 1 ∧ R 1 ≤ 4 ∧ R 2 ≤ nC R ∧ R 3 ≤ 9)
  ∧ (R 6 ≤ 4 ∧ R 70 ≤ 1 ∧ S 0 ≤ 9 ∧ S 1 = 0)
  ∧ (∀ c, c < R 4 → R (7 + c) ≤ 9 ∧ R (12 + c) ≤ 999 ∧ R (17 + c) ≤ 999)
  ∧ (∀ k, k < R 6 → R (22 + 6 * k) ≤ R (24 + 6 * k) ∧ R (24 + 6 * k) < R 0 ∧ R (23 + 6 * k) ≤ R (25 + 6 * k) ∧ R (25 + 6 * k) < R 1 ∧ R (26 + 6 * k) ≤ 1001 ∧ R (27 + 6 * k) ≤ 999)
  ∧ (∀ c, c < 24 → R (46 + c) ≤ R 4 ∧ (nC R ≤ c → R (46 + c) = 0))
  ∧ (∀ w, w < S 0 → hd S w ≤ 4 ∧ yr S w ≤ 999 ∧ ∀ c, c < 24 → pt S w c ≤ R 4 ∧ (nC R ≤ c → pt S w c = 0))
  ∧ (∀ w, S 0 ≤ w → w < 12 → ∀ c, c < 24 → pt S w c = 0)
  ∧ NmI R
def SBc (h : AH) (b w : Nat) (R S : Nat → Nat) : Prop := BkC h b R ∧ (∀ c, c < 24 → gI h 12 b c = cv (R (46 + c))) ∧ gI h 3 b 7 = nI (R 70) ∧ NmC h b R ∧ WkC h w S
def SBm (h : AH) (R S : Nat → Nat) : Prop := (∀ i, i < 161 → gI h 36 0 i = nI (R i)) ∧ (∀ i, i < 340 → gI h 38 0 i = nI (S i))
def LnS (hc hm : AH) (T : Nat → Nat) (L n i : Nat) (R S : Nat → Nat) : Prop := RG hc hm T L n i ∧ SBc hc (gB hc 2).toNat (gB hc 3).toNat R S ∧ SBm hm R S ∧ SBI R S
def LnO (hc hm hc' hm' : AH) (T : Nat → Nat) (L n i : Nat) : Prop := FcS (gB hc 2).toNat (gB hc 3).toNat hc hc' ∧ FmS hm hm' ∧ ((∃ i' R' S', i ≤ i' ∧ LnS hc' hm' T L n i' R' S') ∨ RF hc' hm' T L n)
theorem SBc_fr {h h' : AH} {b w : Nat} {R S : Nat → Nat} (B : SBc h b w R S) (e : ∀ k i j, 3 ≤ k → k ≤ 16 → gI h' k i j = gI h k i j) (e2 : ∀ k i j, k = 4 ∨ k = 8 → gL h' k i j = gL h k i j) : SBc h' b w R S := by
  obtain ⟨a, c, d, f, g⟩ := B
  exact ⟨BkC_of a (fun k j hk => e k b j (by omega) (by omega)), fun q hq => (e 12 b q (by omega) (by omega)).trans (c q hq), (e 3 b 7 (by omega) (by omega)).trans d, NmC_of f (fun j => e 3 b j (by omega) (by omega)) e2, WkC_of g (fun k j hk => e k w j (by omega) (by omega))⟩
theorem SBc_r {h h' : AH} {b w : Nat} {R S : Nat → Nat} (B : SBc h b w R S) (F : FcR h h') : SBc h' b w R S := SBc_fr B (fun k i j h1 h2 => F.1 k i j (by omega)) (fun k i j _ => by unfold gL; rw [F.2])
theorem SBm_fr {h h' : AH} {R S : Nat → Nat} (B : SBm h R S) (e : ∀ k i j, k = 36 ∨ k = 38 → gI h' k i j = gI h k i j) : SBm h' R S := ⟨fun i hi => (e 36 0 i (by omega)).trans (B.1 i hi), fun i hi => (e 38 0 i (by omega)).trans (B.2 i hi)⟩
theorem SBm_r {h h' : AH} {R S : Nat → Nat} (B : SBm h R S) (F : FmR h h') : SBm h' R S := SBm_fr B (fun k i j hk => F.1 k i j (by omega) (by omega))
theorem wall_bad {h : AH} {n : Nat} (B : Bad h n) : ∃ h', jR_wallLine_15 h = some h' ∧ FcB (gB h 2).toNat (gB h 3).toNat h h' := by
  have B1 := bad_a B
  have B2 := bad_a B1
  have B3 := bad_a B2
  have F3 : FcB (gB h 2).toNat (gB h 3).toNat h (uI (adH (adH (adH h))) 3 (gB h 2).toNat 0 0) := (((FcB_a _ _ _).trans (FcB_a _ _ _)).trans (FcB_a _ _ _)).trans (FcB_u (by omega))
  have B4 := Bad_b B F3
  have B5 := bad_a B4
  have F4 := F3.trans (((FcB_a _ _ _).trans (FcB_a _ _ _)).trans (FcB_u (k := 3) (i := (gB h 2).toNat) (j := 1) (v := 0) (by omega)))
  have B6 := Bad_b B F4
  have B7 := bad_a B6
  have F5 := F4.trans (((FcB_a _ _ _).trans (FcB_a _ _ _)).trans (FcB_u (k := 3) (i := (gB h 2).toNat) (j := 2) (v := 0) (by omega)))
  have B8 := Bad_b B F5
  have B9 := bad_a B8
  have F6 := F5.trans (((FcB_a _ _ _).trans (FcB_a _ _ _)).trans (FcB_u (k := 3) (i := (gB h 2).toNat) (j := 3) (v := 0) (by omega)))
  refine ⟨_, ?_, F6⟩
  rw [jR_wallLine_15, jbn, show uI h 2 0 5 (gI h 2 0 5 + 1) = adH h from rfl, bad_word B1, obind, bad_whole B2, obind, jbn]
  show (jR_readWord (uI (adH (adH (adH h))) 3 (gB h 2).toNat 0 0) 1751738216).bind _ = _
  rw [bad_word B4, obind, bad_whole B5, obind, jbn]
  show (jR_readWord (uI (adH (adH (uI (adH (adH (adH h))) 3 (gB h 2).toNat 0 0))) 3 (gB h 2).toNat 1 0) 461262647411).bind _ = _
  rw [bad_word B6, obind, jB_cells, obind, bad_whole B7, obind, jbn]
  show (jR_readWord (uI (adH (adH (uI (adH (adH (uI (adH (adH (adH h))) 3 (gB h 2).toNat 0 0))) 3 (gB h 2).toNat 1 0))) 3 (gB h 2).toNat 2 0) 482671228019).bind _ = _
  rw [bad_word B8, obind, bad_whole B9, obind, jbn]
  rfl
theorem l_wall {hc hm : AH} {T R S : Nat → Nat} {L n i : Nat} (hb : ∀ i, T i < 256) (hL : L ≤ 900) (G : RG (adH hc) hm T L n i) (C : SBc hc (gB hc 2).toNat (gB hc 3).toNat R S) (M : SBm hm R S) (I : SBI R S) (h0 : R 0 = 0) : ∃ hc' hm', jR_wallLine_15 hc = some hc' ∧ jM_wallLine hm = some hm' ∧ LnO hc hm hc' hm' T L n i := by
  have e13 : gI hm 32 0 13 = 0 := G.2.2.2.2.2.2
  obtain ⟨w1, c1, g1, u1, v1, k1, x1, a1, b1, d1, F1, F1', H1, S1, t1, z1⟩ := s_told (t := 6) (A := 1) (B := 6) (A' := 1) (B' := 6) 1 6 hb hL (St_t G) (by decide) (fun _ => ⟨rfl, rfl, rfl, rfl, by decide, by decide⟩)
  have eb1 : gB w1 2 = gB hc 2 := gB_r ((FcR_a hc).trans F1)
  generalize hB : (gB hc 2).toNat = b at *
  have S1' : St (uI c1 3 b 0 u1) g1 T L n k1 (i + 2) := St_fr S1 (fun k i j hk => gI_uI_n (by omega)) (fun _ => rfl) (fun _ _ _ _ => rfl)
  obtain ⟨w2, c2, g2, u2, v2, k2, x2, a2, b2, d2, F2, F2', H2, S2, t2, z2⟩ := s_told (t := 7) (A := 1) (B := 4) (A' := 1) (B' := 4) 1 4 hb hL S1' (by decide) (fun _ => ⟨rfl, rfl, rfl, rfl, by decide, by decide⟩)
  have eg1 : ∀ x, gB (uI c1 3 b 0 u1) x = gB hc x := fun x => (gB_r (x := x) (h := hc) (h' := c1) (((FcR_a hc).trans F1).trans F1'))
  have eb2 : gB w2 2 = gB hc 2 := (gB_r F2).trans (eg1 2)
  have S2' : St (uI c2 3 b 1 u2) (uI g2 36 0 1 v2) T L n k2 (i + 2 + 2) := St_fr S2 (fun k i j hk => gI_uI_n (by omega)) (fun _ => rfl) (fun k i j hk => gI_uI_n (by omega))
  obtain ⟨w3, c3, g3, u3, v3, k3, x3, a3, b3, d3, F3, F3', H3, S3, t3, z3⟩ := s_told (t := 8) (A := 0) (B := u1 * u2) (A' := 0) (B' := v1 * v2) 0 (x1 * x2) hb hL S2' (by decide) (fun z => by
    have q2 := t2 z
    have q1 := t1 q2.1
    rw [q1.2.2.2.1, q1.2.2.2.2, q2.2.2.2.1, q2.2.2.2.2, pk_mul]
    have := Nat.mul_le_mul q1.2.2.1 q2.2.2.1
    exact ⟨rfl, rfl, rfl, rfl, by decide, by omega⟩)
  have eg2 : ∀ x, gB (uI c2 3 b 1 u2) x = gB hc x := fun x => (gB_r (x := x) (F2.trans F2')).trans (eg1 x)
  have eb3 : gB w3 2 = gB hc 2 := (gB_r F3).trans (eg2 2)
  have S3' : St (uI c3 3 b 2 u3) (uI g3 36 0 2 v3) T L n k3 (i + 2 + 2 + 2) := St_fr S3 (fun k i j hk => gI_uI_n (by omega)) (fun _ => rfl) (fun k i j hk => gI_uI_n (by omega))
  obtain ⟨w4, c4, g4, u4, v4, k4, x4, a4, b4, d4, F4, F4', H4, S4, t4, z4⟩ := s_told (t := 9) (A := 0) (B := 9) (A' := 0) (B' := 9) 0 9 hb hL S3' (by decide) (fun _ => ⟨rfl, rfl, rfl, rfl, by decide, by decide⟩)
  have eg3 : ∀ x, gB (uI c3 3 b 2 u3) x = gB hc x := fun x => (gB_r (x := x) (F3.trans F3')).trans (eg2 x)
  have eb4 : gB w4 2 = gB hc 2 := (gB_r F4).trans (eg3 2)
  have eg4 : ∀ x, gB (uI c4 3 b 3 u4) x = gB hc x := fun x => (gB_r (x := x) (F4.trans F4')).trans (eg3 x)
  -- what the class's book holds
  have y30 : gI w3 3 b 0 = u1 := by
    rw [F3.1 3 b 0 (by omega), gI_uI_n (by omega), (F2.trans F2').1 3 b 0 (by omega), gI_uI_s]
  have y31 : gI w3 3 b 1 = u2 := by rw [F3.1 3 b 1 (by omega), gI_uI_s]
  have y0 : gI (uI c4 3 b 3 u4) 3 b 0 = u1 := by
    rw [gI_uI_n (by omega), (F4.trans F4').1 3 b 0 (by omega), gI_uI_n (by omega), F3'.1 3 b 0 (by omega), y30]
  have y1 : gI (uI c4 3 b 3 u4) 3 b 1 = u2 := by
    rw [gI_uI_n (by omega), (F4.trans F4').1 3 b 1 (by omega), gI_uI_n (by omega), F3'.1 3 b 1 (by omega), y31]
  have y2 : gI (uI c4 3 b 3 u4) 3 b 2 = u3 := by
    rw [gI_uI_n (by omega), (F4.trans F4').1 3 b 2 (by omega), gI_uI_s]
  have y3 : gI (uI c4 3 b 3 u4) 3 b 3 = u4 := gI_uI_s _ _ _ _ _
  have yo : ∀ k i j, 3 ≤ k → k ≤ 16 → ¬ (k = 3 ∧ i = b ∧ j ≤ 3) → gI (uI c4 3 b 3 u4) k i j = gI hc k i j := fun k i j h1 h2 h3 => by
    rw [gI_uI_n (by omega), (F4.trans F4').1 k i j (by omega), gI_uI_n (by omega), (F3.trans F3').1 k i j (by omega), gI_uI_n (by omega), (F2.trans F2').1 k i j (by omega), gI_uI_n (by omega), ((FcR_a hc).trans (F1.trans F1')).1 k i j (by omega)]
  have yL : ∀ k i j, gL (uI c4 3 b 3 u4) k i j = gL hc k i j := fun k i j => by
    have l1 : c1.2 = hc.2 := ((FcR_a hc).trans (F1.trans F1')).2
    have l2 : c2.2 = hc.2 := (F2.trans F2').2.trans l1
    have l3 : c3.2 = hc.2 := (F3.trans F3').2.trans l2
    have l4 : c4.2 = hc.2 := (F4.trans F4').2.trans l3
    rw [gL_uI]; unfold gL; rw [l4]
  have FC : FcS b (gB hc 3).toNat hc (uI c4 3 b 3 u4) := by
    have f1 := (((FcR_a hc).trans (F1.trans F1')).s b (gB hc 3).toNat).trans (FcS_u (k := 3) (i := b) (j := 0) (v := u1) (by omega))
    have f2 := (f1.trans ((F2.trans F2').s b (gB hc 3).toNat)).trans (FcS_u (k := 3) (i := b) (j := 1) (v := u2) (by omega))
    have f3 := (f2.trans ((F3.trans F3').s b (gB hc 3).toNat)).trans (FcS_u (k := 3) (i := b) (j := 2) (v := u3) (by omega))
    exact (f3.trans ((F4.trans F4').s b (gB hc 3).toNat)).trans (FcS_u (by omega))
  have eC : jR_wallLine_15 hc = some (uI c4 3 b 3 u4) := by
    rw [jR_wallLine_15, jbn, show uI hc 2 0 5 (gI hc 2 0 5 + 1) = adH hc from rfl, pkW_6, a1, obind, b1, obind, jbn, eb1, hB, pkW_7, a2, obind, b2, obind, jbn, eb2, hB, pkW_8, a3, obind, eb3, hB, jB_cells, obind, y30, y31, b3, obind, jbn, pkW_9, a4, obind, b4, obind, jbn, eb4, hB]
  -- the model
  have H14 : FmS hm (uI g4 36 0 3 v4) := ((((((H1.s.trans H2.s).trans (FmS_u (by omega))).trans H3.s).trans (FmS_u (by omega))).trans H4.s).trans (FmS_u (by omega)))
  have r36 : ∀ j, 3 < j ∨ j = 0 → gI (uI g4 36 0 3 v4) 36 0 j = gI hm 36 0 j := fun j hj => by
    rw [gI_uI_n (by omega), H4.1 36 0 j (by omega) (by decide), gI_uI_n (by omega), H3.1 36 0 j (by omega) (by decide), gI_uI_n (by omega), (H1.trans H2).1 36 0 j (by omega) (by decide)]
  have r1 : gI (uI g4 36 0 3 v4) 36 0 1 = v2 := by
    rw [gI_uI_n (by omega), H4.1 36 0 1 (by omega) (by decide), gI_uI_n (by omega), H3.1 36 0 1 (by omega) (by decide), gI_uI_s]
  have r2 : gI (uI g4 36 0 3 v4) 36 0 2 = v3 := by
    rw [gI_uI_n (by omega), H4.1 36 0 2 (by omega) (by decide), gI_uI_s]
  have r38 : ∀ j, gI (uI g4 36 0 3 v4) 38 0 j = gI hm 38 0 j := fun j => by
    rw [gI_uI_n (by omega), H4.1 38 0 j (by omega) (by decide), gI_uI_n (by omega), H3.1 38 0 j (by omega) (by decide), gI_uI_n (by omega), (H1.trans H2).1 38 0 j (by omega) (by decide)]
  have eM : jM_wallLine hm = if gI (uI g4 36 0 3 v4) 32 0 13 = 0 then some (uI (uI g4 36 0 3 v4) 36 0 0 v1) else some (uI g4 36 0 3 v4) := by
    rw [jM_wallLine, if_pos e13, d1, obind, d2, obind, if_pos (by decide), jbn, if_pos (by decide)]
    show (jM_told (uI g2 36 0 1 v2) 8 0 (v1 * gI (uI g2 36 0 1 v2) 36 0 1)).bind _ = _
    rw [gI_uI_s, d3, obind, if_pos (by decide), jbn]
    show (jM_told (uI g3 36 0 2 v3) 9 0 9).bind _ = _
    rw [d4, obind, if_pos (by decide), jbn]
    show (if gI (uI g4 36 0 3 v4) 32 0 13 = 0 then _ else _) = _
    rw [if_pos (show inb 0 161 = true by decide), jbn]
    rfl
  cases hk : k4 with
  | false =>
    rw [hk] at S4 t4
    have F := S4.2 rfl
    have ne : ¬ gI (uI g4 36 0 3 v4) 32 0 13 = 0 := by
      rw [gI_uI_n (by omega), RF_13 F]
      decide
    refine ⟨_, _, eC, by rw [eM, if_neg ne], ?_, H14, Or.inr (RF_fr F (fun k i j hk => gI_uI_n (by omega)) (fun _ => rfl) (fun k i j hk => gI_uI_n (by omega)))⟩
    rw [hB]
    exact FC
  | true =>
    rw [hk] at S4 t4
    have G4 := S4.1 rfl
    have p4 := t4 rfl
    have p3 := t3 p4.1
    have p2 := t2 p3.1
    have p1 := t1 p2.1
    have e4 : gI (uI g4 36 0 3 v4) 32 0 13 = 0 := by
      rw [gI_uI_n (by omega)]
      exact G4.2.2.2.2.2.2
    refine ⟨_, _, eC, by rw [eM, if_pos e4], ?_, H14.trans (FmS_u (by omega)), Or.inl ⟨i + 2 + 2 + 2 + 2, upn (upn (upn (upn R 1 x2) 2 x3) 3 x4) 0 x1, S, by omega, RG_fr G4 (fun k i j hk => gI_uI_n (by omega)) (fun _ => rfl) (fun k i j hk => (gI_uI_n (by omega)).trans (gI_uI_n (by omega))), ?_, ?_, ?_⟩⟩
    · rw [hB]
      exact FC
    · rw [eg4, eg4, hB]
      obtain ⟨⟨B1, B2, B3, B4⟩, C2, C3, C4, C5⟩ := C
      have i1 := I.1
      have eR : ∀ j, 3 < j → upn (upn (upn (upn R 1 x2) 2 x3) 3 x4) 0 x1 j = R j := fun j hj => by
        rw [upn_n (by omega), upn_n (by omega), upn_n (by omega), upn_n (by omega)]
      have eR0 : upn (upn (upn (upn R 1 x2) 2 x3) 3 x4) 0 x1 0 = x1 := upn_s _ _ _
      have eR1 : upn (upn (upn (upn R 1 x2) 2 x3) 3 x4) 0 x1 1 = x2 := by rw [upn_n (by omega), upn_n (by omega), upn_n (by omega), upn_s]
      have eR2 : upn (upn (upn (upn R 1 x2) 2 x3) 3 x4) 0 x1 2 = x3 := by rw [upn_n (by omega), upn_n (by omega), upn_s]
      have eR3 : upn (upn (upn (upn R 1 x2) 2 x3) 3 x4) 0 x1 3 = x4 := by rw [upn_n (by omega), upn_s]
      generalize upn (upn (upn (upn R 1 x2) 2 x3) 3 x4) 0 x1 = R' at eR eR0 eR1 eR2 eR3
      have hN : NmC (uI c4 3 b 3 u4) b R' := by
        obtain ⟨n1, n2, n3, n4⟩ := C4
        have eF : ∀ k, nmF R' k = nmF R k := fun k => funext fun j => eR _ (by omega)
        refine ⟨?_, ?_, fun c hc => ?_, fun c hc => ?_⟩
        · rw [yo 3 b 4 (by omega) (by omega) (by omega), eR 4 (by omega)]; exact n1
        · rw [yo 3 b 5 (by omega) (by omega) (by omega), eR 5 (by omega)]; exact n2
        · rw [eR 4 (by omega)] at hc; rw [yL, eF, eR _ (by omega)]; exact n3 c hc
        · rw [eR 5 (by omega)] at hc; rw [yL, eF, eR _ (by omega)]; exact n4 c hc
      refine ⟨⟨⟨?_, ?_, ?_, ?_, ?_, ?_, ?_⟩, fun c hc => ?_, fun k hk => ?_, fun c hc => ?_⟩, fun c hc => ?_, ?_, hN, WkC_of C5 (fun k j hk => yo k _ j (by omega) (by omega) (by omega))⟩
      · rw [y0, eR0]; exact p1.2.2.2.1
      · rw [y1, eR1]; exact p2.2.2.2.1
      · rw [y2, eR2]; exact p3.2.2.2.1
      · rw [y3, eR3]; exact p4.2.2.2.1
      · exact hN.1
      · exact hN.2.1
      · rw [yo 3 b 6 (by omega) (by omega) (by omega), eR 6 (by omega)]; exact B1.2.2.2.2.2.2
      · rw [eR 4 (by omega)] at hc
        rw [yo 5 b c (by omega) (by omega) (by omega), yo 6 b c (by omega) (by omega) (by omega), yo 7 b c (by omega) (by omega) (by omega), eR _ (by omega), eR _ (by omega), eR _ (by omega)]
        exact B2 c hc
      · rw [eR 6 (by omega)] at hk
        omega
      · have h24 : nC R' ≤ 24 := nC_24 (by omega) (by omega)
        rw [yo 12 b c (by omega) (by omega) (by omega), eR _ (by omega)]
        exact C2 c (by omega)
      · rw [yo 12 b c (by omega) (by omega) (by omega), eR _ (by omega)]
        exact C2 c hc
      · rw [yo 3 b 7 (by omega) (by omega) (by omega), eR 70 (by omega)]
        exact C3
    · refine ⟨fun j hj => ?_, fun j hj => ?_⟩
      · by_cases j0 : j = 0
        · rw [j0, gI_uI_s, upn_s]; exact p1.2.2.2.2
        · rw [gI_uI_n (by omega), upn_n j0]
          by_cases j3 : j = 3
          · rw [j3, gI_uI_s, upn_s]; exact p4.2.2.2.2
          · rw [upn_n j3]
            by_cases j2 : j = 2
            · rw [j2, r2, upn_s]; exact p3.2.2.2.2
            · rw [upn_n j2]
              by_cases j1 : j = 1
              · rw [j1, r1, upn_s]; exact p2.2.2.2.2
              · rw [upn_n j1, r36 j (by omega)]
                exact M.1 j hj
      · rw [gI_uI_n (by omega), r38]
        exact M.2 j hj
    · have eR : ∀ j, 3 < j → upn (upn (upn (upn R 1 x2) 2 x3) 3 x4) 0 x1 j = R j := fun j hj => by
        rw [upn_n (by omega), upn_n (by omega), upn_n (by omega), upn_n (by omega)]
      have eR0 : upn (upn (upn (upn R 1 x2) 2 x3) 3 x4) 0 x1 0 = x1 := upn_s _ _ _
      have eR1 : upn (upn (upn (upn R 1 x2) 2 x3) 3 x4) 0 x1 1 = x2 := by rw [upn_n (by omega), upn_n (by omega), upn_n (by omega), upn_s]
      have eR2 : upn (upn (upn (upn R 1 x2) 2 x3) 3 x4) 0 x1 2 = x3 := by rw [upn_n (by omega), upn_n (by omega), upn_s]
      have eR3 : upn (upn (upn (upn R 1 x2) 2 x3) 3 x4) 0 x1 3 = x4 := by rw [upn_n (by omega), upn_s]
      generalize upn (upn (upn (upn R 1 x2) 2 x3) 3 x4) 0 x1 = R' at eR eR0 eR1 eR2 eR3
      obtain ⟨i1, i2, i3, i4, i5, i6, i7, i8⟩ := I
      have hz : R 6 = 0 ∧ S 0 = 0 := by omega
      have nz : nC R = 0 := by unfold nC; rw [h0, Nat.zero_mul]
      refine ⟨Or.inr ?_, ?_, fun c hc => ?_, fun k hk => ?_, fun c hc => ?_, fun w hw => ?_, i7, ?_⟩
      · have hn : nC R' = x1 * x2 := by unfold nC; rw [eR0, eR1]
        rw [hn, eR0, eR1, eR2, eR3]
        omega
      · rw [eR 6 (by omega), eR 70 (by omega)]; exact i2
      · rw [eR 4 (by omega)] at hc
        rw [eR _ (by omega), eR _ (by omega), eR _ (by omega)]
        exact i3 c hc
      · rw [eR 6 (by omega)] at hk
        omega
      · have := (i5 c hc).2 (by omega)
        rw [eR _ (by omega), eR 4 (by omega)]
        omega
      · omega
      · have eF : ∀ k, nmF R' k = nmF R k := fun k => funext fun j => eR _ (by omega)
        unfold NmI nmH at *
        simp only [eF, eR 4 (show 3 < 4 by omega), eR 5 (show 3 < 5 by omega), fun k => eR (71 + k) (show 3 < 71 + k by omega)]
        refine ⟨i8.1, i8.2.1, i8.2.2.1, i8.2.2.2.1, i8.2.2.2.2.1, fun j h1 h2 => ?_⟩
        rw [eR j (by omega)]
        exact i8.2.2.2.2.2 j h1 h2
