/-! ===== pure: the hands' line ===== -/
theorem c_addHand {h : AH} {b c : Nat} {V : Int64} (e : gI h 3 b 5 = nI c) (hc : c < 5) : jB_addHand h b V = some (uI (uL h 8 b c V) 3 b 5 (nI (c + 1))) := by
  unfold jB_addHand
  simp (disch := omega) only [litI, e, nI_ltI, if_pos, inb_nI, nI_clamp, jbn, gI_uL, gI_uI_n, if_true, nI_add]
theorem hand_stop (f : Nat) (v : Int32) (h : AH) : jR_handLine_4 (f + 1) 0 v h = some h := by
  rw [jR_handLine_4]
  split
  · rw [if_pos rfl]
  · rfl
theorem hand_59bad {h : AH} {n : Nat} (B : Bad h n) (f : Nat) (v : Int32) : jR_handLine_59 (jR_handLine_4 (f + 1)) v h = some h := by
  rw [jR_handLine_59, if_neg (Bad_nz B), hand_stop]
theorem hand_40bad {h h' : AH} {n : Nat} {u : Int64} {s v : Int32} (f : Nat) (e : jR_readNewName h s = some (u, h')) (B : Bad h' n) : jR_handLine_40 (jR_handLine_4 (f + 1)) v s h = some h' := by
  rw [jR_handLine_40, e, obind, if_neg (Bad_nz B), hand_59bad B]
theorem l_hand0 {T : Nat → Nat} {L n : Nat} (hb : ∀ i, T i < 256) (hL : L ≤ 900) : ∀ d k i (hc hm : AH) (R S : Nat → Nat), R 5 + d = 5 → k ≤ R 5 → RG (adH hc) hm T L n i → SBc hc (gB hc 2).toNat (gB hc 3).toNat R S → SBm hm R S → SBI R S → ∀ fu fv, d + 1 < fu → d + 1 < fv → ∃ hc' hm', jR_handLine_4 fu 1 (nI k) hc = some hc' ∧ jM_handLine_13 fv 1 hm = some hm' ∧ LnO hc hm hc' hm' T L n i := by
  intro d
  induction d with
  | zero =>
    intro k i hc hm R S hd hk G C M I fu fv hfu hfv
    obtain ⟨a, rfl⟩ : ∃ a, fu = a + 1 + 1 := ⟨fu - 2, by omega⟩
    obtain ⟨c, rfl⟩ : ∃ c, fv = c + 1 + 1 := ⟨fv - 2, by omega⟩
    have e13 : gI hm 32 0 13 = 0 := G.2.2.2.2.2.2
    have m5 : gI hm 36 0 (Int32.toNatClampNeg 5) = nI (R 5) := M.1 5 (by omega)
    have N : NmI R := I.2.2.2.2.2.2.2
    have c5 : gI (adH hc) 3 (gB (adH hc) 2).toNat 5 = nI (R 5) := (gI_uI_n (by omega)).trans C.2.2.2.1.2.1
    have eC : jR_handLine_4 (a + 1 + 1) 1 (nI k) hc = jR_handLine_40 (jR_handLine_4 (a + 1)) (nI k) 1 (adH hc) := by
      rw [jR_handLine_4, if_pos (show nI k ≤ 5 from (nI_leI (by omega) (by decide)).2 (show k ≤ 5 by omega)), if_neg (by decide), jbn, show uI hc 2 0 5 (gI hc 2 0 5 + 1) = adH hc from rfl, c5, if_neg (show ¬ nI (R 5) < 5 from fun z => by have := (nI_ltI (by omega) (show 5 < 2 ^ 31 by decide)).1 (z : nI (R 5) < nI 5); omega)]
    rcases p_new hL G (NmC_r C.2.2.2.1 (FcR_a hc)) (fun j h1 h2 => M.1 j h2) N with ⟨h2, nw, mN, -, ⟨u, cN⟩, hi⟩ | ⟨f, f1, f2, mN, cN⟩
    · obtain ⟨F, FS, FM⟩ := new_fail G (f := 5) (by omega) (by omega) (gB hc 2).toNat (gB hc 3).toNat
      refine ⟨_, _, by rw [eC, hand_40bad a cN (F.bad hL)], ?_, LnO_fail FS FM F⟩
      rw [jM_handLine_13, if_neg (by decide), mN, obind, if_pos e13, if_pos (by decide), m5, if_pos (show nI (R 5) = 5 by rw [show R 5 = 5 by omega]; rfl), G.2.2.2.2.2.1.1, show jM_wrong hm 5 (nI (tS T L i)) = _ from m_wrong_t G.2.2.2.2.2.2 5 _, obind, jM_handLine_47, if_neg (wrH_13 _ _ _)]
    · obtain ⟨u, cN⟩ := cN 1
      obtain ⟨F, FS, FM⟩ := new_fail G f1 f2 (gB hc 2).toNat (gB hc 3).toNat
      refine ⟨_, _, by rw [eC, hand_40bad a cN (F.bad hL)], ?_, LnO_fail FS FM F⟩
      rw [jM_handLine_13, if_neg (by decide), mN, obind, if_neg (wrH_13 _ _ _), jM_handLine_47, if_neg (wrH_13 _ _ _)]
  | succ d ih =>
    intro k i hc hm R S hd hk G C M I fu fv hfu hfv
    obtain ⟨a, rfl⟩ : ∃ a, fu = a + 1 + 1 := ⟨fu - 2, by omega⟩
    obtain ⟨c, rfl⟩ : ∃ c, fv = c + 1 + 1 := ⟨fv - 2, by omega⟩
    have e13 : gI hm 32 0 13 = 0 := G.2.2.2.2.2.2
    have m5 : gI hm 36 0 (Int32.toNatClampNeg 5) = nI (R 5) := M.1 5 (by omega)
    have N : NmI R := I.2.2.2.2.2.2.2
    have c5 : gI (adH hc) 3 (gB (adH hc) 2).toNat 5 = nI (R 5) := (gI_uI_n (by omega)).trans C.2.2.2.1.2.1
    have eC : jR_handLine_4 (a + 1 + 1) 1 (nI k) hc = jR_handLine_40 (jR_handLine_4 (a + 1)) (nI k) 0 (adH hc) := by
      rw [jR_handLine_4, if_pos (show nI k ≤ 5 from (nI_leI (by omega) (by decide)).2 (show k ≤ 5 by omega)), if_neg (by decide), jbn, show uI hc 2 0 5 (gI hc 2 0 5 + 1) = adH hc from rfl, c5, if_pos (show nI (R 5) < 5 from (nI_ltI (by omega) (by decide)).2 (show R 5 < 5 by omega))]
    rcases p_new hL G (NmC_r C.2.2.2.1 (FcR_a hc)) (fun j h1 h2 => M.1 j h2) N with ⟨h2, nw, mN, cN, -, hi⟩ | ⟨f, f1, f2, mN, cN⟩
    · have k8 := (kd_2 h2).2.2
      have kl := kd2_let h2
      have k1' : 1 ≤ enT T L (tS T L i) - tS T L i := by
        have := enT_b (T := T) (kd_2 h2).1
        omega
      obtain ⟨hm2, q1, G2, K2, E2⟩ := p_keep hb hL G h2 hi (k := 5 + R 5) (by omega) M.1
      have FC : FcR hc (adH (adH hc)) := (FcR_a hc).trans (FcR_a _)
      have C3 := SBc_r C FC
      have eb : gB (adH (adH hc)) 2 = gB hc 2 := rfl
      have eadd := c_addHand (h := adH (adH hc)) (b := (gB hc 2).toNat) (V := lqI (paF (ltT T (tS T L i)) (enT T L (tS T L i) - tS T L i))) C3.1.1.2.2.2.2.2.1 (by omega)
      have e55 : gI hm2 36 0 5 + 1 = nI (R 5 + 1) := by
        rw [E2 5 (by omega), nmR_lo (by omega)]
        exact nI_add (R 5) 1
      have E5 := m36_u (p := 5) (x := R 5 + 1) E2 rfl
      generalize hb' : (gB hc 2).toNat = b at *
      have eR : ∀ j, j ≠ 5 → j < 71 → upn (nmR R (5 + R 5) (enT T L (tS T L i) - tS T L i) (ltT T (tS T L i))) 5 (R 5 + 1) j = R j := fun j h1 h2 => by
        rw [upn_n h1, nmR_lo h2]
      have eN : ∀ j, 71 ≤ j → upn (nmR R (5 + R 5) (enT T L (tS T L i) - tS T L i) (ltT T (tS T L i))) 5 (R 5 + 1) j = nmR R (5 + R 5) (enT T L (tS T L i) - tS T L i) (ltT T (tS T L i)) j := fun j hj => upn_n (by omega)
      have e5' : upn (nmR R (5 + R 5) (enT T L (tS T L i) - tS T L i) (ltT T (tS T L i))) 5 (R 5 + 1) 5 = R 5 + 1 := upn_s _ _ _
      generalize upn (nmR R (5 + R 5) (enT T L (tS T L i) - tS T L i) (ltT T (tS T L i))) 5 (R 5 + 1) = R' at eR eN e5' E5
      obtain ⟨i1, i2, i3, i4, i5, i6, i7, i8⟩ := I
      have n4 := N.1
      have hH : ∀ j, j < 10 → (nmH R' j ↔ nmH R j ∨ j = 5 + R 5) := fun j hj => by
        unfold nmH
        rw [e5', eR 4 (by omega) (by omega)]
        omega
      have hnk : ¬ nmH R (5 + R 5) := fun z => by unfold nmH at z; omega
      have N' : NmI R' := NmI_add (k := 5 + R 5) N (by omega) hnk ⟨k1', k8⟩ (fun j hj => kl j hj) nw eN (by rw [eR 4 (by omega) (by omega)]; omega) (by omega) hH
      have enC : nC R' = nC R := by unfold nC; rw [eR 0 (by omega) (by omega), eR 1 (by omega) (by omega)]
      have I' : SBI R' S := by
        refine ⟨?_, ?_, fun q hq => ?_, fun k hk => ?_, fun q hq => ?_, fun w hw => ?_, i7, N'⟩
        · rw [enC, eR 0 (by omega) (by omega), eR 1 (by omega) (by omega), eR 2 (by omega) (by omega), eR 3 (by omega) (by omega), eR 6 (by omega) (by omega), eR 70 (by omega) (by omega)]
          exact i1
        · rw [eR 6 (by omega) (by omega), eR 70 (by omega) (by omega)]
          exact i2
        · rw [eR 4 (by omega) (by omega)] at hq
          rw [eR _ (by omega) (by omega), eR _ (by omega) (by omega), eR _ (by omega) (by omega)]
          exact i3 q hq
        · rw [eR 6 (by omega) (by omega)] at hk
          rw [eR 0 (by omega) (by omega), eR 1 (by omega) (by omega), eR (22 + 6 * k) (by omega) (by omega), eR (23 + 6 * k) (by omega) (by omega), eR (24 + 6 * k) (by omega) (by omega), eR (25 + 6 * k) (by omega) (by omega), eR (26 + 6 * k) (by omega) (by omega), eR (27 + 6 * k) (by omega) (by omega)]
          exact i4 k hk
        · rw [enC, eR 4 (by omega) (by omega), eR (46 + q) (by omega) (by omega)]
          exact i5 q hq
        · rw [enC, eR 4 (by omega) (by omega)]
          exact i6 w hw
      have FO : FcS b (gB hc 3).toNat hc (uI (uL (adH (adH hc)) 8 b (R 5) (lqI (paF (ltT T (tS T L i)) (enT T L (tS T L i) - tS T L i)))) 3 b 5 (nI (R 5 + 1))) := (((FC.s b (gB hc 3).toNat).trans (FcS_uL (by decide))).trans (FcS_u (by omega)))
      have C' : SBc (uI (uL (adH (adH hc)) 8 b (R 5) (lqI (paF (ltT T (tS T L i)) (enT T L (tS T L i) - tS T L i)))) 3 b 5 (nI (R 5 + 1))) b (gB hc 3).toNat R' S := by
        obtain ⟨⟨B1, B2, B3, B4⟩, C2, C3', C4, C5⟩ := C3
        refine ⟨⟨⟨?_, ?_, ?_, ?_, ?_, ?_, ?_⟩, fun q hq => ?_, fun k hk => ?_, fun q hq => ?_⟩, fun q hq => ?_, ?_, ⟨?_, ?_, fun q hq => ?_, fun q hq => ?_⟩, WkC_of C5 (fun k j hk => ?_)⟩
        · rw [gI_uI_n (by omega), gI_uL, eR 0 (by omega) (by omega)]; exact B1.1
        · rw [gI_uI_n (by omega), gI_uL, eR 1 (by omega) (by omega)]; exact B1.2.1
        · rw [gI_uI_n (by omega), gI_uL, eR 2 (by omega) (by omega)]; exact B1.2.2.1
        · rw [gI_uI_n (by omega), gI_uL, eR 3 (by omega) (by omega)]; exact B1.2.2.2.1
        · rw [gI_uI_n (by omega), gI_uL, eR 4 (by omega) (by omega)]; exact B1.2.2.2.2.1
        · rw [gI_uI_s, e5']
        · rw [gI_uI_n (by omega), gI_uL, eR 6 (by omega) (by omega)]; exact B1.2.2.2.2.2.2
        · rw [eR 4 (by omega) (by omega)] at hq
          rw [gI_uI_n (by omega), gI_uL, gI_uI_n (by omega), gI_uL, gI_uI_n (by omega), gI_uL, eR _ (by omega) (by omega), eR _ (by omega) (by omega), eR _ (by omega) (by omega)]
          exact B2 q hq
        · rw [eR 6 (by omega) (by omega)] at hk
          have er : rcm R' k = rcm R k := by
            unfold rcm
            rw [enC, eR 0 (by omega) (by omega), eR (22 + 6 * k) (by omega) (by omega), eR (23 + 6 * k) (by omega) (by omega), eR (24 + 6 * k) (by omega) (by omega), eR (25 + 6 * k) (by omega) (by omega)]
          rw [er, eR (26 + 6 * k) (by omega) (by omega), eR (27 + 6 * k) (by omega) (by omega), gI_uI_n (by omega), gI_uL, gI_uI_n (by omega), gI_uL, gI_uI_n (by omega), gI_uL]
          exact B3 k hk
        · have h24 : nC R ≤ 24 := nC_24 (by omega) (by omega)
          rw [enC] at hq
          rw [gI_uI_n (by omega), gI_uL, eR (46 + q) (by omega) (by omega)]
          exact B4 q hq
        · rw [gI_uI_n (by omega), gI_uL, eR (46 + q) (by omega) (by omega)]
          exact C2 q hq
        · rw [gI_uI_n (by omega), gI_uL, eR 70 (by omega) (by omega)]
          exact C3'
        · rw [gI_uI_n (by omega), gI_uL, eR 4 (by omega) (by omega)]; exact B1.2.2.2.2.1
        · rw [gI_uI_s, e5']
        · rw [eR 4 (by omega) (by omega)] at hq
          rw [gL_uI, gL_uL, if_neg (by omega), nm_pk N (by omega) k8 eN (by omega) (Or.inl hq) (by omega)]
          exact C4.2.2.1 q hq
        · rw [gL_uI, gL_uL]
          by_cases hqe : q = R 5
          · rw [hqe, if_pos ⟨rfl, rfl, rfl⟩, nm_pk2 (by omega) k8 eN]
          · rw [if_neg (fun z => hqe z.2.2), nm_pk N (by omega) k8 eN (by omega) (Or.inr ⟨by omega, by omega⟩) (by omega)]
            exact C4.2.2.2 q (by omega)
        · rw [gI_uI_n (by omega), gI_uL]
      have M' : SBm (uI hm2 36 0 5 (nI (R 5 + 1))) R' S := ⟨E5, fun j hj => by
        rw [gI_uI_n (by omega), K2 38 0 j (by omega) (by decide) (by decide)]
        exact M.2 j hj⟩
      have G3 : RG (uI (uL (adH (adH hc)) 8 b (R 5) (lqI (paF (ltT T (tS T L i)) (enT T L (tS T L i) - tS T L i)))) 3 b 5 (nI (R 5 + 1))) (uI hm2 36 0 5 (nI (R 5 + 1))) T L n (i + 1) := RG_fr G2 (fun k i j hk => by rw [gI_uI_n (by omega), gI_uL]) (fun j => by rw [gL_uI, gL_uL, if_neg (by omega)]) (fun k i j hk => gI_uI_n (by omega))
      have FM : FmS hm (uI hm2 36 0 5 (nI (R 5 + 1))) := K2.s.trans (FmS_u (by omega))
      have e20 : gI (adH (adH hc)) 2 0 0 = 0 := G2.2.2.2.1
      have eC2 : jR_handLine_4 (a + 1 + 1) 1 (nI k) hc = jR_handLine_59 (jR_handLine_4 (a + 1)) (nI k) (uI (uL (adH (adH hc)) 8 b (R 5) (lqI (paF (ltT T (tS T L i)) (enT T L (tS T L i) - tS T L i)))) 3 b 5 (nI (R 5 + 1))) := by
        rw [eC, jR_handLine_40, cN, obind, if_pos e20, eb, hb', eadd, obind]
      have eM2 : jM_handLine_13 (c + 1 + 1) 1 hm = (jM_comma (uI hm2 36 0 5 (nI (R 5 + 1)))).bind fun q3 => jM_handLine_13 (c + 1) q3.1 q3.2 := by
        rw [jM_handLine_13, if_neg (by decide), mN, obind, if_pos e13, if_pos (by decide), m5, if_neg (show ¬ nI (R 5) = 5 from fun z => by have := (nI_eq (by omega) (show 5 < 2 ^ 31 by decide)).1 (z : nI (R 5) = nI 5); omega), jM_handLine_47, if_pos e13, if_pos (by decide), m5, show (5 : Int32) + nI (R 5) = nI (5 + R 5) from nI_add 5 (R 5), q1, obind, if_pos (by decide), if_pos (by decide), jbn, show gI hm2 36 0 (Int32.toNatClampNeg 5) + 1 = nI (R 5 + 1) from e55]
        rfl
      generalize uI (uL (adH (adH hc)) 8 b (R 5) (lqI (paF (ltT T (tS T L i)) (enT T L (tS T L i) - tS T L i)))) 3 b 5 (nI (R 5 + 1)) = hd2 at FO C' G3 eC2
      generalize uI hm2 36 0 5 (nI (R 5 + 1)) = md2 at M' G3 FM eM2
      have G3' := G3
      obtain ⟨D, e5, hi3, e0, P, Mk, e13'⟩ := G3'
      have k6 := kd_6 T L (tS T L (i + 1))
      have FO' : FcS (gB hc 2).toNat (gB hc 3).toNat hc hd2 := by rw [hb']; exact FO
      have eb2 : (gB hd2 2).toNat = b := by rw [gB_s FO, hb']
      have eb3 : gB hd2 3 = gB hc 3 := gB_s FO
      rw [jR_handLine_59, if_pos (show gI hd2 2 0 0 = 0 from e0), e5, show (5 : Int32) = nI 5 from rfl, c_isKind D hL hi3 (by decide), obind] at eC2
      by_cases hk5 : kdT T L (tS T L (i + 1)) = 5
      · obtain ⟨m3, r1, r2, r3⟩ := RG_next hb hL G3 (kd_in D hi3 (by rw [hk5]; decide))
        obtain ⟨hc', hm', s1, s2, s3⟩ := ih (k + 1) (i + 1 + 1) hd2 m3 R' S (by omega) (by omega) r3 (by rw [eb2, eb3]; exact C') (SBm_r M' r2.r) I' (a + 1) (c + 1) (by omega) (by omega)
        refine ⟨hc', hm', ?_, ?_, LnO_trans FO' (FM.trans r2.r.s) (by omega) s3⟩
        · rw [eC2, decide_eq_true hk5, if_neg bI_t, show nI k + 1 = nI (k + 1) from nI_add k 1]
          exact s1
        · rw [eM2, jM_comma, if_pos (show gI md2 32 0 13 = 0 from e13'), Mk.2.2.1, if_pos ((kmT_44 k6).2 hk5), r1, obind, obind]
          exact s2
      · refine ⟨hd2, md2, ?_, ?_, ⟨FO', FM, Or.inl ⟨i + 1, R', S, by omega, G3, by rw [eb2, eb3]; exact C', M', I'⟩⟩⟩
        · rw [eC2, decide_eq_false hk5, if_pos bI_f, hand_stop]
        · rw [eM2, jM_comma, if_pos (show gI md2 32 0 13 = 0 from e13'), Mk.2.2.1, if_neg (fun z => hk5 ((kmT_44 k6).1 z)), obind, jM_handLine_13, if_pos rfl]
    · obtain ⟨u, cN⟩ := cN 0
      obtain ⟨F, FS, FM⟩ := new_fail G f1 f2 (gB hc 2).toNat (gB hc 3).toNat
      refine ⟨_, _, by rw [eC, hand_40bad a cN (F.bad hL)], ?_, LnO_fail FS FM F⟩
      rw [jM_handLine_13, if_neg (by decide), mN, obind, if_neg (wrH_13 _ _ _), jM_handLine_47, if_neg (wrH_13 _ _ _)]
theorem l_hand {hc hm : AH} {T R S : Nat → Nat} {L n i : Nat} (hb : ∀ i, T i < 256) (hL : L ≤ 900) (G : RG (adH hc) hm T L n i) (C : SBc hc (gB hc 2).toNat (gB hc 3).toNat R S) (M : SBm hm R S) (I : SBI R S) : ∃ hc' hm', jR_handLine hc = some hc' ∧ jM_handLine hm = some hm' ∧ LnO hc hm hc' hm' T L n i := by
  have h5 := I.2.2.2.2.2.2.2.2.1
  obtain ⟨hc', hm', a, b, c⟩ := l_hand0 hb hL (5 - R 5) 0 i hc hm R S (by omega) (Nat.zero_le _) G C M I FU FU (by unfold FU; omega) (by unfold FU; omega)
  refine ⟨hc', hm', a, ?_, c⟩
  rw [jM_handLine, if_pos (show gI hm 32 0 13 = 0 from G.2.2.2.2.2.2)]
  exact b
