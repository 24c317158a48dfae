/-! ===== pure: the figure's line ===== -/
theorem want_bad {h : AH} {n : Nat} {R : Nat → Nat} (B : Bad h n) (NC : NmC h (gB h 2).toNat R) (N : NmI R) : ∃ h', jR_wantLine_31 h = some h' ∧ FcB (gB h 2).toNat (gB h 3).toNat h h' := by
  have F1 : FcB (gB h 2).toNat (gB h 3).toNat h (adH (uI h 3 (gB h 2).toNat 7 1)) := (FcB_u (by omega)).trans (FcB_a _ _ _)
  have NX : NmC (adH (uI h 3 (gB h 2).toNat 7 1)) (gB h 2).toNat R := by
    obtain ⟨a, b, c, d⟩ := NC
    exact ⟨((gI_uI_n (by omega)).trans (gI_uI_n (by omega))).trans a, ((gI_uI_n (by omega)).trans (gI_uI_n (by omega))).trans b, c, d⟩
  obtain ⟨h', p1, p2⟩ := bad_patches (Bad_b B F1) (-1) (bad_named NX N).1
  exact ⟨h', by rw [jR_wantLine_31, jbn, jbn, show uI (uI h 3 (gB h 2).toNat 7 1) 2 0 5 (gI (uI h 3 (gB h 2).toNat 7 1) 2 0 5 + 1) = adH (uI h 3 (gB h 2).toNat 7 1) from rfl, p1, obind], F1.trans (p2 _ _)⟩
def wtR (R Q : Nat → Nat) : Nat → Nat := fun j => if j = 70 then 1 else if 46 ≤ j ∧ j < 70 then Q (j - 46) else R j
section
variable {R Q : Nat → Nat}
theorem wtR_o {j : Nat} (h : ¬ (46 ≤ j ∧ j ≤ 70)) : wtR R Q j = R j := by
  unfold wtR
  rw [if_neg (by omega), if_neg (by omega)]
theorem wtR_70 : wtR R Q 70 = 1 := if_pos rfl
theorem wtR_c {q : Nat} (hq : q < 24) : wtR R Q (46 + q) = Q q := by
  unfold wtR
  rw [if_neg (by omega), if_pos (by omega), show 46 + q - 46 = q by omega]
end
theorem adH_of {h h' : AH} (e : ∀ j, gI h' 2 0 j = gI h 2 0 j) {k i j : Nat} (e2 : gI h' k i j = gI h k i j) : gI (adH h') k i j = gI (adH h) k i j := by
  by_cases q : k = 2 ∧ i = 0 ∧ j = 5
  · obtain ⟨rfl, rfl, rfl⟩ := q
    unfold adH
    rw [gI_uI_s, gI_uI_s, e 5]
  · unfold adH
    rw [gI_uI_n q, gI_uI_n q, e2]
theorem l_want {hc hm : AH} {T R S : Nat → Nat} {L n i : Nat} (hb : ∀ i, T i < 256) (hL : L ≤ 900) (G : RG (adH hc) hm T L n i) (C : SBc hc (gB hc 2).toNat (gB hc 3).toNat R S) (M : SBm hm R S) (I : SBI R S) (h0 : R 0 ≠ 0) : ∃ hc' hm', jR_wantLine_31 hc = some hc' ∧ jM_wantLine hm = some hm' ∧ LnO hc hm hc' hm' T L n i := by
  have e13 : gI hm 32 0 13 = 0 := G.2.2.2.2.2.2
  have N : NmI R := I.2.2.2.2.2.2.2
  have GX : RG (adH (uI hc 3 (gB hc 2).toNat 7 1)) (uI hm 36 0 70 1) T L n i := RG_fr G (fun k i j hk => adH_of (fun j => gI_uI_n (by omega)) (gI_uI_n (by omega))) (fun _ => rfl) (fun k i j hk => gI_uI_n (by omega))
  have FX : FcS (gB hc 2).toNat (gB hc 3).toNat hc (adH (uI hc 3 (gB hc 2).toNat 7 1)) := (FcS_u (by omega)).trans ((FcR_a _).s _ _)
  have FY : FmS hm (uI hm 36 0 70 1) := FmS_u (by omega)
  obtain ⟨i1, i2, i3, i4, i5, i6, i7, i8⟩ := I
  obtain ⟨D1, D2, D3, D4, D5⟩ := C
  have cx : ∀ k j, 3 ≤ k → k ≤ 16 → ¬ (k = 3 ∧ j = 7) → ∀ i, gI (adH (uI hc 3 (gB hc 2).toNat 7 1)) k i j = gI hc k i j := fun k j h1 h2 h3 i => (gI_uI_n (by omega)).trans (gI_uI_n (by omega))
  have hTQ : TQ (adH (uI hc 3 (gB hc 2).toNat 7 1)) (uI hm 36 0 70 1) 12 (gB hc 2).toNat 0 36 46 (fun q => R (46 + q)) := by
    refine ⟨fun q hq => ?_, fun q hq => ?_⟩
    · rw [Nat.zero_add, cx 12 q (by omega) (by omega) (by omega)]
      exact D2 q hq
    · rw [gI_uI_n (by omega)]
      exact M.1 (46 + q) (by omega)
  obtain ⟨hc', hm', y1, y2, y3, y4, y5⟩ := p_patches hb hL N (v1 := -1) (kc := 12) (ic := (gB hc 2).toNat) (bc := 0) (k1 := 36) (base := 46) (b := (gB hc 2).toNat) (w := (gB hc 3).toNat) (by omega) (by omega) (Or.inl ⟨rfl, rfl, rfl, rfl⟩) (Or.inl ⟨rfl, rfl⟩) 4 0 i _ _ _ (by omega) GX ⟨(cx 3 4 (by omega) (by omega) (by omega) _).trans D4.1, (cx 3 5 (by omega) (by omega) (by omega) _).trans D4.2.1, D4.2.2.1, D4.2.2.2⟩ ((cx 3 0 (by omega) (by omega) (by omega) _).trans D1.1.1) ((cx 3 1 (by omega) (by omega) (by omega) _).trans D1.1.2.1) (fun j h1 h2 => (gI_uI_n (by omega)).trans (M.1 j h2)) ((gI_uI_n (by omega)).trans (M.1 0 (by omega))) ((gI_uI_n (by omega)).trans (M.1 1 (by omega))) hTQ i5 rfl rfl FU FU (by unfold FU; omega) (by unfold FU; omega)
  have eC : jR_wantLine_31 hc = some hc' := by
    rw [jR_wantLine_31, jbn, jbn, show uI (uI hc 3 (gB hc 2).toNat 7 1) 2 0 5 (gI (uI hc 3 (gB hc 2).toNat 7 1) 2 0 5 + 1) = adH (uI hc 3 (gB hc 2).toNat 7 1) from rfl, show jR_readPatches (adH (uI hc 3 (gB hc 2).toNat 7 1)) (-1) = some hc' from y1, obind]
  have eM : jM_wantLine hm = some hm' := by
    rw [jM_wantLine, if_pos e13, if_pos (by decide), jbn, show jM_patches (uI hm 36 0 (Int32.toNatClampNeg 70) 1) 36 46 = some hm' from y2, obind]
  have FZ : FcS (gB hc 2).toNat (gB hc 3).toNat hc hc' := FX.trans (y3.s (Or.inl ⟨rfl, rfl⟩))
  have FZm : FmS hm hm' := FY.trans (y4.s (by omega))
  refine ⟨hc', hm', eC, eM, FZ, FZm, ?_⟩
  rcases y5 with ⟨i', Q', e1, e2, e3, e4⟩ | F
  · refine Or.inl ⟨i', wtR R Q', S, e1, e2, ?_, ⟨fun j hj => ?_, fun j hj => ?_⟩, ?_⟩
    · rw [gB_s FZ, gB_s FZ]
      have fc : ∀ k i j, 3 ≤ k → k ≤ 16 → ¬ (k = 3 ∧ j = 7) → ¬ (k = 12 ∧ i = (gB hc 2).toNat ∧ j < 24) → gI hc' k i j = gI hc k i j := fun k i j h1 h2 h3 h4 => by
        rw [y3.1 k i j (by omega) (by omega), cx k j h1 h2 h3]
      have fL : ∀ k i j, gL hc' k i j = gL hc k i j := fun k i j => by
        unfold gL
        rw [y3.2]
        rfl
      have hF : ∀ k, nmF (wtR R Q') k = nmF R k := fun k => funext fun j => wtR_o (by omega)
      have enC : nC (wtR R Q') = nC R := by unfold nC; rw [wtR_o (by omega), wtR_o (by omega)]
      obtain ⟨B1, B2, B3, B4⟩ := D1
      have n4 := N.1
      have h12 : ∀ q, q < 24 → gI hc' 12 (gB hc 2).toNat q = cv (wtR R Q' (46 + q)) := fun q hq => by
        rw [wtR_c hq]
        have := e3.1 q hq
        rw [Nat.zero_add] at this
        exact this
      refine ⟨⟨⟨?_, ?_, ?_, ?_, ?_, ?_, ?_⟩, fun q hq => ?_, fun k hk => ?_, fun q hq => ?_⟩, h12, ?_, ⟨?_, ?_, fun q hq => ?_, fun q hq => ?_⟩, WkC_of D5 (fun k j hk => fc k _ j (by omega) (by omega) (by omega) (by omega))⟩
      · rw [fc 3 _ 0 (by omega) (by omega) (by omega) (by omega), wtR_o (by omega)]; exact B1.1
      · rw [fc 3 _ 1 (by omega) (by omega) (by omega) (by omega), wtR_o (by omega)]; exact B1.2.1
      · rw [fc 3 _ 2 (by omega) (by omega) (by omega) (by omega), wtR_o (by omega)]; exact B1.2.2.1
      · rw [fc 3 _ 3 (by omega) (by omega) (by omega) (by omega), wtR_o (by omega)]; exact B1.2.2.2.1
      · rw [fc 3 _ 4 (by omega) (by omega) (by omega) (by omega), wtR_o (by omega)]; exact B1.2.2.2.2.1
      · rw [fc 3 _ 5 (by omega) (by omega) (by omega) (by omega), wtR_o (by omega)]; exact B1.2.2.2.2.2.1
      · rw [fc 3 _ 6 (by omega) (by omega) (by omega) (by omega), wtR_o (by omega)]; exact B1.2.2.2.2.2.2
      · rw [wtR_o (by omega)] at hq
        rw [fc 5 _ q (by omega) (by omega) (by omega) (by omega), fc 6 _ q (by omega) (by omega) (by omega) (by omega), fc 7 _ q (by omega) (by omega) (by omega) (by omega), wtR_o (by omega), wtR_o (by omega), wtR_o (by omega)]
        exact B2 q hq
      · rw [wtR_o (by omega)] at hk
        have er : rcm (wtR R Q') k = rcm R k := by
          unfold rcm
          rw [enC, wtR_o (show ¬ (46 ≤ 0 ∧ 0 ≤ 70) by omega), wtR_o (show ¬ (46 ≤ 22 + 6 * k ∧ 22 + 6 * k ≤ 70) by omega), wtR_o (show ¬ (46 ≤ 23 + 6 * k ∧ 23 + 6 * k ≤ 70) by omega), wtR_o (show ¬ (46 ≤ 24 + 6 * k ∧ 24 + 6 * k ≤ 70) by omega), wtR_o (show ¬ (46 ≤ 25 + 6 * k ∧ 25 + 6 * k ≤ 70) by omega)]
        rw [er, fc 9 _ k (by omega) (by omega) (by omega) (by omega), fc 10 _ k (by omega) (by omega) (by omega) (by omega), fc 11 _ k (by omega) (by omega) (by omega) (by omega), wtR_o (show ¬ (46 ≤ 26 + 6 * k ∧ 26 + 6 * k ≤ 70) by omega), wtR_o (show ¬ (46 ≤ 27 + 6 * k ∧ 27 + 6 * k ≤ 70) by omega)]
        exact B3 k hk
      · have h24 : nC R ≤ 24 := nC_24 (by omega) (by omega)
        rw [enC] at hq
        exact h12 q (by omega)
      · rw [y3.1 3 _ 7 (by omega) (by omega), wtR_70]
        unfold adH
        rw [gI_uI_n (by omega), gI_uI_s]
        rfl
      · rw [fc 3 _ 4 (by omega) (by omega) (by omega) (by omega), wtR_o (by omega)]; exact B1.2.2.2.2.1
      · rw [fc 3 _ 5 (by omega) (by omega) (by omega) (by omega), wtR_o (by omega)]; exact B1.2.2.2.2.2.1
      · rw [wtR_o (by omega)] at hq
        rw [fL, hF, wtR_o (by omega)]
        exact D4.2.2.1 q hq
      · rw [wtR_o (by omega)] at hq
        rw [fL, hF, wtR_o (by omega)]
        exact D4.2.2.2 q hq
    · by_cases h70 : j = 70
      · rw [h70, wtR_70, y4 36 0 70 (by omega) (by decide) (by omega), gI_uI_s]
        rfl
      · by_cases hin : 46 ≤ j ∧ j < 70
        · have h1 := e3.2 (j - 46) (by omega)
          have h2 := wtR_c (R := R) (Q := Q') (q := j - 46) (by omega)
          rw [show 46 + (j - 46) = j by omega] at h1 h2
          rw [h2]
          exact h1
        · rw [wtR_o (by omega), y4 36 0 j (by omega) (by decide) (by omega), gI_uI_n (by omega)]
          exact M.1 j hj
    · rw [y4 38 0 j (by omega) (by decide) (by omega), gI_uI_n (by omega)]
      exact M.2 j hj
    · have hF : ∀ k, nmF (wtR R Q') k = nmF R k := fun k => funext fun j => wtR_o (by omega)
      have enC : nC (wtR R Q') = nC R := by unfold nC; rw [wtR_o (by omega), wtR_o (by omega)]
      have n4 := N.1
      refine ⟨Or.inr ?_, ?_, fun q hq => ?_, fun k hk => ?_, fun q hq => ?_, fun w hw => ?_, i7, ?_⟩
      · rw [enC, wtR_o (show ¬ (46 ≤ 0 ∧ 0 ≤ 70) by omega), wtR_o (show ¬ (46 ≤ 1 ∧ 1 ≤ 70) by omega), wtR_o (show ¬ (46 ≤ 2 ∧ 2 ≤ 70) by omega), wtR_o (show ¬ (46 ≤ 3 ∧ 3 ≤ 70) by omega)]
        omega
      · rw [wtR_70, wtR_o (show ¬ (46 ≤ 6 ∧ 6 ≤ 70) by omega)]
        omega
      · rw [wtR_o (by omega)] at hq
        rw [wtR_o (show ¬ (46 ≤ 7 + q ∧ 7 + q ≤ 70) by omega), wtR_o (show ¬ (46 ≤ 12 + q ∧ 12 + q ≤ 70) by omega), wtR_o (show ¬ (46 ≤ 17 + q ∧ 17 + q ≤ 70) by omega)]
        exact i3 q hq
      · rw [wtR_o (by omega)] at hk
        rw [wtR_o (show ¬ (46 ≤ 0 ∧ 0 ≤ 70) by omega), wtR_o (show ¬ (46 ≤ 1 ∧ 1 ≤ 70) by omega), wtR_o (show ¬ (46 ≤ 22 + 6 * k ∧ 22 + 6 * k ≤ 70) by omega), wtR_o (show ¬ (46 ≤ 23 + 6 * k ∧ 23 + 6 * k ≤ 70) by omega), wtR_o (show ¬ (46 ≤ 24 + 6 * k ∧ 24 + 6 * k ≤ 70) by omega), wtR_o (show ¬ (46 ≤ 25 + 6 * k ∧ 25 + 6 * k ≤ 70) by omega), wtR_o (show ¬ (46 ≤ 26 + 6 * k ∧ 26 + 6 * k ≤ 70) by omega), wtR_o (show ¬ (46 ≤ 27 + 6 * k ∧ 27 + 6 * k ≤ 70) by omega)]
        exact i4 k hk
      · rw [enC, wtR_c hq, wtR_o (show ¬ (46 ≤ 4 ∧ 4 ≤ 70) by omega)]
        exact e4 q hq
      · rw [enC, wtR_o (show ¬ (46 ≤ 4 ∧ 4 ≤ 70) by omega)]
        exact i6 w hw
      · unfold NmI nmH at *
        simp only [hF, wtR_o (show ¬ (46 ≤ 4 ∧ 4 ≤ 70) by omega), wtR_o (show ¬ (46 ≤ 5 ∧ 5 ≤ 70) by omega), fun k => (wtR_o (show ¬ (46 ≤ 71 + k ∧ 71 + k ≤ 70) by omega) : wtR R Q' (71 + k) = R (71 + k))]
        refine ⟨i8.1, i8.2.1, i8.2.2.1, i8.2.2.2.1, i8.2.2.2.2.1, fun j h1 h2 => ?_⟩
        rw [wtR_o (by omega)]
        exact i8.2.2.2.2.2 j h1 h2
  · exact Or.inr F
