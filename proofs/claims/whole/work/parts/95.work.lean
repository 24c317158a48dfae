/-! ===== pure: the works' line ===== -/
theorem WkI_of {R S : Nat → Nat} (I : SBI R S) : WkI R S := by
  obtain ⟨i1, i2, i3, i4, i5, i6, i7, i8⟩ := I
  refine ⟨by omega, by omega, fun z => by omega, fun w hw => i6 w (by omega)⟩
theorem FcP.s {kc ic bc b w : Nat} {x y : AH} (h : FcP kc ic bc x y) (hk : kc = 12 ∧ ic = b ∨ kc = 16 ∧ ic = w) : FcS b w x y := ⟨fun k i j a c d => h.1 k i j a (fun z => by omega), by rw [h.2], fun i j => by unfold gL; rw [h.2]⟩
theorem FmP.s {k1 base : Nat} {x y : AH} (h : FmP k1 base x y) (hk : k1 = 36 ∨ k1 = 38) : FmS x y := fun k i j a c d e => h k i j a c (fun z => by omega)
def stH (h : AH) (w n : Nat) (a y : Int32) : AH := aI (uI (uI h 14 w n a) 15 w n y) 16 w (fun j => if n * 24 ≤ j ∧ j < n * 24 + 24 then -nI 2 else gI h 16 w j)
theorem FcS_st {h : AH} {b w n : Nat} {a y : Int32} : FcS b w h (stH h w n a y) := ((FcS_u (k := 14) (by omega)).trans (FcS_u (k := 15) (by omega))).trans (FcS_aI (by omega))
theorem FcB_st {h : AH} {b w n : Nat} {a y : Int32} : FcB b w h (stH h w n a y) := ((FcB_u (k := 14) (by omega)).trans (FcB_u (k := 15) (by omega))).trans (FcB_aI (by omega))
theorem c_start2 {h : AH} {w n : Nat} {u v : Int32} (hn : gI h 13 w 0 = nI n) (h12 : n < 12) : jW_start h w u v = some (stH h w n u v) := by
  obtain ⟨a, rfl⟩ := i32N u
  obtain ⟨y, rfl⟩ := i32N v
  exact c_start hn h12
theorem st_n {h : AH} {w n k i j : Nat} {a y : Int32} (hk : ¬ (14 ≤ k ∧ k ≤ 16 ∧ i = w)) : gI (stH h w n a y) k i j = gI h k i j := by
  unfold stH
  rw [gI_aI_n (by omega), gI_uI_n (by omega), gI_uI_n (by omega)]
/-- the colours' search where all has failed -/
theorem bad_named {h : AH} {b : Nat} {R : Nat → Nat} (NC : NmC h b R) (N : NmI R) : (∀ v, ∃ r, jB_colourNamed h b v = some r) ∧ (∀ v, ∃ r, jB_handNamed h b v = some r) :=
  ⟨fun v => ⟨_, c_colourNamed NC.1 N.1 (fun k hk => NC.2.2.1 k hk)⟩, fun v => ⟨_, c_handNamed NC.2.1 N.2.1 (fun k hk => NC.2.2.2 k hk)⟩⟩
theorem bad_hand {h : AH} {n : Nat} {R : Nat → Nat} (B : Bad h n) (NC : NmC h (gB h 2).toNat R) (N : NmI R) : ∃ u, jR_readHand h = some (u, adH h) := by
  obtain ⟨v, hv⟩ := tt_valueOf B.1 B.2.1 (gI h 2 0 5)
  obtain ⟨r, hr⟩ := (bad_named NC N).2 v
  obtain ⟨s, hs⟩ := tt_isName B.1 B.2.1 (gI h 2 0 5)
  refine ⟨r, ?_⟩
  rw [jR_readHand, hv, obind, hr, obind, hs, obind, bad_fail B, obind, t_hand38 B]
  split <;> rfl
/-- from the hand on, where all has failed -/
theorem work_bad2 {h h1 : AH} {n : Nat} {R S : Nat → Nat} {u : Int32} (e : jR_readHand (adH h) = some (u, h1)) (B : Bad h1 n) (F : FcR h h1) (C : SBc h (gB h 2).toNat (gB h 3).toNat R S) (I : SBI R S) : ∃ h', jR_workLine_33 h = some h' ∧ FcB (gB h 2).toNat (gB h 3).toNat h1 h' := by
  have B1 := bad_a B
  have B2 := bad_a B1
  have F2 : FcR h (adH h1) := F.trans (FcR_a _)
  have F3 : FcR h (adH (adH h1)) := F2.trans (FcR_a _)
  have C2 := SBc_r C F2
  have C3 := SBc_r C F3
  have N : NmI R := I.2.2.2.2.2.2.2
  have s9 := I.2.1.2.2.1
  have eb3 : gB (adH (adH h1)) 3 = gB h 3 := gB_r F3
  have eb23 : gB (adH h1) 3 = gB h 3 := gB_r F2
  have est := c_start2 (h := adH (adH h1)) (w := (gB h 3).toNat) (u := u) (v := 0) C3.2.2.2.2.1 (by omega)
  have FX : FcB (gB h 2).toNat (gB h 3).toNat h1 (stH (adH (adH h1)) (gB h 3).toNat (S 0) u 0) := ((FcB_a _ _ _).trans (FcB_a _ _ _)).trans FcB_st
  have BX := Bad_b B FX
  have NX : NmC (stH (adH (adH h1)) (gB h 3).toNat (S 0) u 0) (gB (stH (adH (adH h1)) (gB h 3).toNat (S 0) u 0) 2).toNat R := by
    have : gB (stH (adH (adH h1)) (gB h 3).toNat (S 0) u 0) 2 = gB h 2 := (gB_s (FcS_st (b := 0))).trans (gB_r F3)
    rw [this]
    exact NmC_of C3.2.2.2.1 (fun j => st_n (by omega)) (fun _ _ _ _ => rfl)
  obtain ⟨h', p1, p2⟩ := bad_patches BX (gI (stH (adH (adH h1)) (gB h 3).toNat (S 0) u 0) 13 (gB (stH (adH (adH h1)) (gB h 3).toNat (S 0) u 0) 3).toNat 0) (bad_named NX N).1
  refine ⟨h', ?_, FX.trans (p2 _ _)⟩
  rw [jR_workLine_33, jbn, show uI h 2 0 5 (gI h 2 0 5 + 1) = adH h from rfl, e, obind, bad_word B, obind, eb23, c_latestYear C2.2.2.2.2 (WkI_of I), obind, bad_whole B1, obind, est, obind, p1, obind, if_neg (Bad_nz (Bad_b BX (p2 0 0)))]
theorem work_bad {h : AH} {n : Nat} {R S : Nat → Nat} (B : Bad h n) (C : SBc h (gB h 2).toNat (gB h 3).toNat R S) (I : SBI R S) : ∃ h', jR_workLine_33 h = some h' ∧ FcB (gB h 2).toNat (gB h 3).toNat h h' := by
  obtain ⟨u, hu⟩ := bad_hand (bad_a B) (NmC_r C.2.2.2.1 (FcR_a h)) I.2.2.2.2.2.2.2
  obtain ⟨h', a, b⟩ := work_bad2 hu (bad_a (bad_a B)) ((FcR_a h).trans (FcR_a _)) C I
  exact ⟨h', a, ((FcB_a _ _ _).trans (FcB_a _ _ _)).trans b⟩
def wkS (S : Nat → Nat) (c y : Nat) (Q : Nat → Nat) : Nat → Nat := fun j => if j = 0 then S 0 + 1 else if j = 2 + 26 * S 0 then c else if j = 3 + 26 * S 0 then y else if 4 + 26 * S 0 ≤ j ∧ j < 28 + 26 * S 0 then Q (j - (4 + 26 * S 0)) else S j
section
variable {S Q : Nat → Nat} {c y : Nat}
theorem wkS_o {j : Nat} (h0 : j ≠ 0) (h : ¬ (2 + 26 * S 0 ≤ j ∧ j < 28 + 26 * S 0)) : wkS S c y Q j = S j := by
  unfold wkS
  rw [if_neg h0, if_neg (by omega), if_neg (by omega), if_neg (by omega)]
theorem wkS_0 : wkS S c y Q 0 = S 0 + 1 := if_pos rfl
theorem wkS_h : wkS S c y Q (2 + 26 * S 0) = c := by
  unfold wkS
  rw [if_neg (by omega), if_pos rfl]
theorem wkS_y : wkS S c y Q (3 + 26 * S 0) = y := by
  unfold wkS
  rw [if_neg (by omega), if_neg (by omega), if_pos rfl]
theorem wkS_c {q : Nat} (hq : q < 24) : wkS S c y Q (4 + 26 * S 0 + q) = Q q := by
  unfold wkS
  rw [if_neg (by omega), if_neg (by omega), if_neg (by omega), if_pos (by omega), show 4 + 26 * S 0 + q - (4 + 26 * S 0) = q by omega]
end
theorem l_work {hc hm : AH} {T R S : Nat → Nat} {L n i : Nat} (hb : ∀ i, T i < 256) (hL : L ≤ 900) (G : RG (adH hc) hm T L n i) (C : SBc hc (gB hc 2).toNat (gB hc 3).toNat R S) (M : SBm hm R S) (I : SBI R S) (h0 : R 0 ≠ 0) (h9 : S 0 < 9) : ∃ hc' hm', jR_workLine_33 hc = some hc' ∧ jM_workLine hm = some hm' ∧ LnO hc hm hc' hm' T L n i := by
  have e13 : gI hm 32 0 13 = 0 := G.2.2.2.2.2.2
  have m0 : gI hm 38 0 (Int32.toNatClampNeg 0) = nI (S 0) := M.2 0 (by omega)
  have N : NmI R := I.2.2.2.2.2.2.2
  have hy : (2 : Int32) + 26 * nI (S 0) = nI (2 + 26 * S 0) := by
    rw [show (2 : Int32) = nI 2 from rfl, show (26 : Int32) = nI 26 from rfl, pk_mul, nI_add]
  rcases p_hand hL G (NmC_r C.2.2.2.1 (FcR_a hc)) (fun j h1 h2 => M.1 j h2) N with ⟨c, hc5, mN, cN, hi⟩ | ⟨f, f1, f2, mN, u, cN⟩
  · obtain ⟨m1, s1, s2, s3⟩ := RG_next hb hL G hi
    generalize hyy : (if S 0 = 0 then 0 else yr S (S 0 - 1)) = yy
    have hy9 : yy ≤ 999 := by
      rw [← hyy]
      split
      · omega
      · exact (I.2.2.2.2.2.1 (S 0 - 1) (by omega)).2.1
    obtain ⟨w1, c1, g1, u1, v1, k1, x1, a1, b1, d1, F1, F1', H1, S1, t1, z1⟩ := s_told (t := 14) (A := nI yy) (B := 999) (A' := nI yy) (B' := 999) yy 999 hb hL (St_t s3) (by decide) (fun _ => ⟨rfl, rfl, rfl, rfl, by omega, by decide⟩)
    have FW : FcR hc w1 := ((FcR_a hc).trans (FcR_a _)).trans F1
    have FC : FcR hc c1 := FW.trans F1'
    have CW := SBc_r C FW
    have C1 := SBc_r C FC
    have ebw : gB w1 3 = gB hc 3 := gB_r FW
    have eb3 : gB c1 3 = gB hc 3 := gB_r FC
    have eb2 : gB c1 2 = gB hc 2 := gB_r FC
    have ely := c_latestYear CW.2.2.2.2 (WkI_of I)
    rw [hyy] at ely
    have est := c_start2 (h := c1) (w := (gB hc 3).toNat) (u := nI c) (v := u1) C1.2.2.2.2.1 (by omega)
    have ebX2 : gB (stH c1 (gB hc 3).toNat (S 0) (nI c) u1) 2 = gB hc 2 := (gB_s (FcS_st (b := 0))).trans eb2
    have ebX3 : gB (stH c1 (gB hc 3).toNat (S 0) (nI c) u1) 3 = gB hc 3 := (gB_s (FcS_st (b := 0))).trans eb3
    have FX : FcS (gB hc 2).toNat (gB hc 3).toNat hc (stH c1 (gB hc 3).toNat (S 0) (nI c) u1) := (FC.s _ _).trans FcS_st
    have eX13 : gI (stH c1 (gB hc 3).toNat (S 0) (nI c) u1) 13 (gB hc 3).toNat 0 = nI (S 0) := (st_n (by omega)).trans C1.2.2.2.2.1
    have eC : jR_workLine_33 hc = (jR_readPatches (stH c1 (gB hc 3).toNat (S 0) (nI c) u1) (nI (S 0))).bind fun h7 => if gI h7 2 0 0 = 0 then some (uI h7 13 (gB h7 3).toNat 0 (gI h7 13 (gB h7 3).toNat 0 + 1)) else some h7 := by
      rw [jR_workLine_33, jbn, show uI hc 2 0 5 (gI hc 2 0 5 + 1) = adH hc from rfl, cN, obind, pkW_14, a1, obind, ebw, ely, obind, b1, obind, est, obind, ebX3, eX13]
      rfl
    have hm1_38 : ∀ j, gI m1 38 0 j = gI hm 38 0 j := fun j => s2.1 38 0 j (by omega) (by decide)
    have hh0 : nI (2 + 26 * S 0) + 0 = nI (2 + 26 * S 0) := nI_add (2 + 26 * S 0) 0
    have hh1 : nI (2 + 26 * S 0) + 1 = nI (3 + 26 * S 0) := by
      have := nI_add (2 + 26 * S 0) 1
      rw [show 2 + 26 * S 0 + 1 = 3 + 26 * S 0 by omega] at this
      exact this
    have hh2 : nI (2 + 26 * S 0) + 2 = nI (4 + 26 * S 0) := by
      have := nI_add (2 + 26 * S 0) 2
      rw [show 2 + 26 * S 0 + 2 = 4 + 26 * S 0 by omega] at this
      exact this
    have eM0 : jM_workLine hm = jM_workLine_65 (nI (2 + 26 * S 0)) (nI c) (nI yy) m1 := by
      rw [jM_workLine, if_pos e13, if_pos (by decide), jbn, m0, hy, mN, obind, if_pos e13, s1, obind, if_pos (show inb 0 340 = true by decide), show gI m1 38 0 (Int32.toNatClampNeg 0) = nI (S 0) from (hm1_38 0).trans m0]
      by_cases hs : S 0 = 0
      · rw [if_pos (show nI (S 0) = 0 by rw [hs]; rfl), ← hyy, if_pos hs]
        rfl
      · have e1 : nI (2 + 26 * S 0) - 26 + 1 = nI (3 + 26 * (S 0 - 1)) := by
          rw [show (26 : Int32) = nI 26 from rfl, show (1 : Int32) = nI 1 from rfl, pk_sub (show 26 ≤ 2 + 26 * S 0 by omega), nI_add, show 2 + 26 * S 0 - 26 + 1 = 3 + 26 * (S 0 - 1) by omega]
        rw [if_neg (show ¬ nI (S 0) = 0 from fun z => hs ((nI_eq (by omega) (show 0 < 2 ^ 31 by decide)).1 (z : nI (S 0) = nI 0))), e1, inb_nI (by omega) (by decide), if_pos rfl, nI_clamp (by omega), hm1_38, M.2 _ (by omega), ← hyy, if_neg hs]
        rfl
    have eM : jM_workLine hm = if gI (uI (uI g1 38 0 (2 + 26 * S 0) (nI c)) 38 0 (3 + 26 * S 0) v1) 32 0 13 = 0 then (jM_patches (uI (uI g1 38 0 (2 + 26 * S 0) (nI c)) 38 0 (3 + 26 * S 0) v1) 38 (nI (4 + 26 * S 0))).bind (fun h4 => jM_workLine_108 h4) else jM_workLine_108 (uI (uI g1 38 0 (2 + 26 * S 0) (nI c)) 38 0 (3 + 26 * S 0) v1) := by
      rw [eM0, jM_workLine_65, d1, obind, hh0, inb_nI (by omega) (by decide), if_pos rfl, jbn, hh1, inb_nI (by omega) (by decide), if_pos rfl, jbn, nI_clamp (by omega), nI_clamp (by omega), hh2]
    have FY : FmR hm g1 := s2.r.trans H1
    have FYS : FmS hm (uI (uI g1 38 0 (2 + 26 * S 0) (nI c)) 38 0 (3 + 26 * S 0) v1) := (FY.s.trans (FmS_u (by omega))).trans (FmS_u (by omega))
    cases hk : k1 with
    | false =>
      rw [hk] at S1
      have F := S1.2 rfl
      have RFX : RF (stH c1 (gB hc 3).toNat (S 0) (nI c) u1) (uI (uI g1 38 0 (2 + 26 * S 0) (nI c)) 38 0 (3 + 26 * S 0) v1) T L n := RF_fr (RF_b F (FcB_st (b := (gB hc 2).toNat) (w := (gB hc 3).toNat) (n := S 0) (a := nI c) (y := u1))) (fun _ _ _ _ => rfl) (fun _ => rfl) (fun k i j hk => (gI_uI_n (by omega)).trans (gI_uI_n (by omega)))
      have ne : ¬ gI (uI (uI g1 38 0 (2 + 26 * S 0) (nI c)) 38 0 (3 + 26 * S 0) v1) 32 0 13 = 0 := by
        rw [RF_13 RFX]
        decide
      have NX : NmC (stH c1 (gB hc 3).toNat (S 0) (nI c) u1) (gB (stH c1 (gB hc 3).toNat (S 0) (nI c) u1) 2).toNat R := by
        rw [ebX2]
        exact NmC_of C1.2.2.2.1 (fun j => st_n (by omega)) (fun _ _ _ _ => rfl)
      obtain ⟨h', p1, p2⟩ := bad_patches (RFX.bad hL) (nI (S 0)) (bad_named NX N).1
      have RFh := RF_b RFX (p2 (gB hc 2).toNat (gB hc 3).toNat)
      exact ⟨h', _, by rw [eC, p1, obind, if_neg (Bad_nz (RFh.bad hL))], by rw [eM, if_neg ne, jM_workLine_108, if_neg ne], LnO_fail (FX.trans (p2 _ _).1) FYS RFh⟩
    | true =>
      rw [hk] at S1 t1
      have G1 := S1.1 rfl
      have q1 := t1 rfl
      obtain ⟨i1, i2, i3, i4, i5, i6, i7, i8⟩ := I
      have GX : RG (stH c1 (gB hc 3).toNat (S 0) (nI c) u1) (uI (uI g1 38 0 (2 + 26 * S 0) (nI c)) 38 0 (3 + 26 * S 0) v1) T L n (i + 1 + 2) := RG_fr G1 (fun k i j hk => st_n (by omega)) (fun _ => rfl) (fun k i j hk => (gI_uI_n (by omega)).trans (gI_uI_n (by omega)))
      have f36 : ∀ j, gI (uI (uI g1 38 0 (2 + 26 * S 0) (nI c)) 38 0 (3 + 26 * S 0) v1) 36 0 j = gI hm 36 0 j := fun j => by
        rw [gI_uI_n (by omega), gI_uI_n (by omega), FY.1 36 0 j (by omega) (by decide)]
      have f38 : ∀ j, j ≠ 2 + 26 * S 0 → j ≠ 3 + 26 * S 0 → gI (uI (uI g1 38 0 (2 + 26 * S 0) (nI c)) 38 0 (3 + 26 * S 0) v1) 38 0 j = gI hm 38 0 j := fun j h1 h2 => by
        rw [gI_uI_n (by omega), gI_uI_n (by omega), FY.1 38 0 j (by omega) (by decide)]
      have hTQ : TQ (stH c1 (gB hc 3).toNat (S 0) (nI c) u1) (uI (uI g1 38 0 (2 + 26 * S 0) (nI c)) 38 0 (3 + 26 * S 0) v1) 16 (gB hc 3).toNat (S 0 * 24) 38 (4 + 26 * S 0) (fun _ => 0) := by
        refine ⟨fun q hq => ?_, fun q hq => ?_⟩
        · unfold stH
          rw [gI_aI_s, if_pos (by omega)]
          rfl
        · rw [f38 _ (by omega) (by omega), M.2 _ (by omega)]
          exact congrArg nI (i7 (S 0) (Nat.le_refl _) (by omega) q hq)
      have C1b := C1.1.1
      obtain ⟨hc', hm', y1, y2, y3, y4, y5⟩ := p_patches hb hL N (v1 := nI (S 0)) (kc := 16) (ic := (gB hc 3).toNat) (bc := S 0 * 24) (k1 := 38) (base := 4 + 26 * S 0) (b := (gB hc 2).toNat) (w := (gB hc 3).toNat) (by omega) (by omega) (Or.inr ⟨S 0, by omega, rfl, rfl, rfl, rfl⟩) (Or.inr ⟨rfl, by omega⟩) 4 0 (i + 1 + 2) _ _ _ (by omega) GX (NmC_of C1.2.2.2.1 (fun j => st_n (by omega)) (fun _ _ _ _ => rfl)) ((st_n (by omega)).trans C1b.1) ((st_n (by omega)).trans C1b.2.1) (fun j h1 h2 => (f36 j).trans (M.1 j h2)) ((f36 0).trans (M.1 0 (by omega))) ((f36 1).trans (M.1 1 (by omega))) hTQ (fun q hq => ⟨Nat.zero_le _, fun _ => rfl⟩) (by rw [ebX2]) (by rw [ebX3]) FU FU (by unfold FU; omega) (by unfold FU; omega)
      have y1' : jR_readPatches (stH c1 (gB hc 3).toNat (S 0) (nI c) u1) (nI (S 0)) = some hc' := y1
      have y2' : jM_patches (uI (uI g1 38 0 (2 + 26 * S 0) (nI c)) 38 0 (3 + 26 * S 0) v1) 38 (nI (4 + 26 * S 0)) = some hm' := y2
      rw [y1', obind] at eC
      rw [if_pos (show gI (uI (uI g1 38 0 (2 + 26 * S 0) (nI c)) 38 0 (3 + 26 * S 0) v1) 32 0 13 = 0 from GX.2.2.2.2.2.2), y2', obind] at eM
      have FZ : FcS (gB hc 2).toNat (gB hc 3).toNat hc hc' := FX.trans (y3.s (Or.inr ⟨rfl, rfl⟩))
      have FZm : FmS hm hm' := FYS.trans (y4.s (by omega))
      have ebc : gB hc' 3 = gB hc 3 := gB_s FZ
      have ebc2 : gB hc' 2 = gB hc 2 := gB_s FZ
      rw [ebc] at eC
      rcases y5 with ⟨i', Q', e1, e2, e3, e4⟩ | F
      · -- what stands in the class
        have fc : ∀ k i j, 3 ≤ k → k ≤ 13 → gI hc' k i j = gI hc k i j := fun k i j h1 h2 => by
          rw [y3.1 k i j (by omega) (by omega), st_n (by omega), FC.1 k i j (by omega)]
        have fr : ∀ k j, 14 ≤ k → k ≤ 16 → ¬ (k < 16 ∧ j = S 0) → ¬ (k = 16 ∧ S 0 * 24 ≤ j ∧ j < S 0 * 24 + 24) → gI hc' k (gB hc 3).toNat j = gI hc k (gB hc 3).toNat j := fun k j h1 h2 h3 h4 => by
          rw [y3.1 k _ j (by omega) (by omega), ← FC.1 k (gB hc 3).toNat j (by omega)]
          unfold stH
          by_cases hk16 : k = 16
          · subst hk16
            rw [gI_aI_s, if_neg (by omega)]
          · rw [gI_aI_n (by omega), gI_uI_n (by omega), gI_uI_n (by omega)]
        have fL : ∀ k i j, gL hc' k i j = gL hc k i j := fun k i j => by
          unfold gL
          rw [y3.2]
          show (stH c1 (gB hc 3).toNat (S 0) (nI c) u1).2.1 k i j = _
          show c1.2.1 k i j = _
          rw [FC.2]
        have fm36 : ∀ j, gI hm' 36 0 j = gI hm 36 0 j := fun j => by
          rw [y4 36 0 j (by omega) (by decide) (by omega), f36]
        have fm38 : ∀ j, ¬ (2 + 26 * S 0 ≤ j ∧ j < 28 + 26 * S 0) → gI hm' 38 0 j = gI hm 38 0 j := fun j hj => by
          rw [y4 38 0 j (by omega) (by decide) (by omega), f38 j (by omega) (by omega)]
        have c13 : gI hc' 13 (gB hc 3).toNat 0 + 1 = nI (S 0 + 1) := by
          rw [fc 13 _ 0 (by omega) (by omega), C.2.2.2.2.1]
          exact nI_add (S 0) 1
        have m38 : gI hm' 38 0 0 + 1 = nI (S 0 + 1) := by
          rw [fm38 0 (by omega), M.2 0 (by omega)]
          exact nI_add (S 0) 1
        have eM2 : jM_workLine hm = some (uI hm' 38 0 0 (nI (S 0 + 1))) := by
          rw [eM, jM_workLine_108, if_pos (show gI hm' 32 0 13 = 0 from e2.2.2.2.2.2.2), if_pos (by decide), if_pos (by decide), jbn, show gI hm' 38 0 (Int32.toNatClampNeg 0) + 1 = nI (S 0 + 1) from m38]
          rfl
        refine ⟨uI hc' 13 (gB hc 3).toNat 0 (nI (S 0 + 1)), uI hm' 38 0 0 (nI (S 0 + 1)), by rw [eC, if_pos (show gI hc' 2 0 0 = 0 from e2.2.2.2.1), c13], eM2, FZ.trans (FcS_u (by omega)), FZm.trans (FmS_u (by omega)), Or.inl ⟨i', R, wkS S c x1 Q', by omega, RG_fr e2 (fun k i j hk => gI_uI_n (by omega)) (fun _ => rfl) (fun k i j hk => gI_uI_n (by omega)), ?_, ⟨fun j hj => ?_, fun j hj => ?_⟩, ?_⟩⟩
        · rw [show gB (uI hc' 13 (gB hc 3).toNat 0 (nI (S 0 + 1))) 2 = gB hc 2 from ebc2, show gB (uI hc' 13 (gB hc 3).toNat 0 (nI (S 0 + 1))) 3 = gB hc 3 from ebc]
          obtain ⟨D1, D2, D3, D4, D5⟩ := C
          refine ⟨BkC_of D1 (fun k j hk => (gI_uI_n (by omega)).trans (fc k _ j (by omega) (by omega))), fun q hq => ((gI_uI_n (by omega)).trans (fc 12 _ q (by omega) (by omega))).trans (D2 q hq), ((gI_uI_n (by omega)).trans (fc 3 _ 7 (by omega) (by omega))).trans D3, NmC_of D4 (fun j => (gI_uI_n (by omega)).trans (fc 3 _ j (by omega) (by omega))) (fun k i j _ => (gL_uI _ _ _ _ _ _ _ _).trans (fL k i j)), ?_⟩
          obtain ⟨W1, W2, W3⟩ := D5
          unfold WkC hd yr pt at *
          rw [wkS_0, wkS_o (show 1 ≠ 0 by omega) (by omega)]
          refine ⟨gI_uI_s _ _ _ _ _, ?_, fun r hr => ?_⟩
          · rw [gI_uI_n (by omega), fc 13 _ 1 (by omega) (by omega)]
            exact W2
          · by_cases hre : r = S 0
            · subst hre
              rw [wkS_h, wkS_y]
              refine ⟨?_, ?_, fun q hq => ?_⟩
              · rw [gI_uI_n (by omega), y3.1 14 _ _ (by omega) (by omega)]
                unfold stH
                rw [gI_aI_n (by omega), gI_uI_n (by omega), gI_uI_s]
              · rw [gI_uI_n (by omega), y3.1 15 _ _ (by omega) (by omega)]
                unfold stH
                rw [gI_aI_n (by omega), gI_uI_s]
                exact q1.2.2.2.1
              · rw [wkS_c hq, gI_uI_n (by omega)]
                exact e3.1 q hq
            · have hr' : r < S 0 := by omega
              rw [wkS_o (by omega) (by omega), wkS_o (by omega) (by omega)]
              have W := W3 r (by omega)
              refine ⟨?_, ?_, fun q hq => ?_⟩
              · rw [gI_uI_n (by omega), fr 14 r (by omega) (by omega) (by omega) (by omega)]
                exact W.1
              · rw [gI_uI_n (by omega), fr 15 r (by omega) (by omega) (by omega) (by omega)]
                exact W.2.1
              · rw [wkS_o (by omega) (by omega), gI_uI_n (by omega), fr 16 (r * 24 + q) (by omega) (by omega) (by omega) (by omega)]
                exact W.2.2 q hq
        · rw [gI_uI_n (by omega), fm36]
          exact M.1 j hj
        · by_cases h0j : j = 0
          · rw [h0j, gI_uI_s, wkS_0]
          · rw [gI_uI_n (by omega)]
            by_cases hin : 2 + 26 * S 0 ≤ j ∧ j < 28 + 26 * S 0
            · by_cases hj2 : j = 2 + 26 * S 0
              · rw [hj2, wkS_h, y4 38 0 _ (by omega) (by decide) (by omega), gI_uI_n (by omega), gI_uI_s]
              · by_cases hj3 : j = 3 + 26 * S 0
                · rw [hj3, wkS_y, y4 38 0 _ (by omega) (by decide) (by omega), gI_uI_s]
                  exact q1.2.2.2.2
                · have hq : j - (4 + 26 * S 0) < 24 := by omega
                  have h1 := e3.2 (j - (4 + 26 * S 0)) hq
                  have h2 := wkS_c (S := S) (c := c) (y := x1) (Q := Q') hq
                  rw [show 4 + 26 * S 0 + (j - (4 + 26 * S 0)) = j by omega] at h1 h2
                  rw [h2]
                  exact h1
            · rw [wkS_o h0j hin, fm38 j hin]
              exact M.2 j hj
        · refine ⟨?_, ?_, i3, i4, i5, fun r hr => ?_, fun r h1 h2 q hq => ?_, i8⟩
          · rw [wkS_0]
            omega
          · rw [wkS_0, wkS_o (show 1 ≠ 0 by omega) (by omega)]
            omega
          · rw [wkS_0] at hr
            unfold hd yr pt at *
            by_cases hre : r = S 0
            · subst hre
              rw [wkS_h, wkS_y]
              refine ⟨by have := N.2.1; omega, by omega, fun q hq => ?_⟩
              rw [wkS_c hq]
              exact e4 q hq
            · rw [wkS_o (by omega) (by omega), wkS_o (by omega) (by omega)]
              have W := i6 r (by omega)
              refine ⟨W.1, W.2.1, fun q hq => ?_⟩
              rw [wkS_o (by omega) (by omega)]
              exact W.2.2 q hq
          · rw [wkS_0] at h1
            unfold pt at *
            rw [wkS_o (by omega) (by omega)]
            exact i7 r (by omega) h2 q hq
      · have ne : ¬ gI hm' 32 0 13 = 0 := by
          rw [RF_13 F]
          decide
        exact ⟨hc', hm', by rw [eC, if_neg (Bad_nz (F.bad hL))], by rw [eM, jM_workLine_108, if_neg ne], LnO_fail FZ FZm F⟩
  · obtain ⟨F, FS, FM⟩ := new_fail G f1 f2 (gB hc 2).toNat (gB hc 3).toNat
    obtain ⟨h', p1, p2⟩ := work_bad2 cN (F.bad hL) (((FcR_a hc).trans (FcR_f _ f)).trans (FcR_a _)) C I
    refine ⟨h', _, p1, ?_, LnO_fail (FS.trans p2.1) FM (RF_b F p2)⟩
    rw [jM_workLine, if_pos e13, if_pos (by decide), jbn, mN, obind, if_neg (wrH_13 _ _ _)]
