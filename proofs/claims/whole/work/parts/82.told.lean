/-! ===== pure: a word and its number; frames of the pair ===== -/
theorem TkC_fr {h h' : AH} {T : Nat → Nat} {L n : Nat} (C : TkC h T L n) (e : ∀ k i j, k = 2 ∨ k = 17 ∨ k = 18 ∨ k = 19 → gI h' k i j = gI h k i j) (e2 : ∀ i, gL h' 20 0 i = gL h 20 0 i) : TkC h' T L n := by
  obtain ⟨a, b, c, d, f⟩ := C
  exact ⟨(e 17 0 0 (by omega)).trans a, b, fun i hi => TkO_of (c i hi) ⟨e 18 0 i (by omega), e 19 0 i (by omega), e2 i⟩, d, f⟩
theorem RG_fr {hc hm hc' hm' : AH} {T : Nat → Nat} {L n i : Nat} (G : RG hc hm T L n i) (e : ∀ k i j, k = 2 ∨ k = 17 ∨ k = 18 ∨ k = 19 → gI hc' k i j = gI hc k i j) (e2 : ∀ i, gL hc' 20 0 i = gL hc 20 0 i) (e3 : ∀ k i j, k = 32 ∧ j ≤ 13 ∨ k = 33 ∨ k = 34 → gI hm' k i j = gI hm k i j) : RG hc' hm' T L n i := by
  obtain ⟨C, e5, hi, e0, P, M, e13⟩ := G
  refine ⟨TkC_fr C e e2, (e 2 0 5 (by omega)).trans e5, hi, (e 2 0 0 (by omega)).trans e0, ⟨(e3 32 0 3 (by omega)).trans P.1, fun j hj => (e3 33 0 j (by omega)).trans (P.2.1 j hj), (e3 32 0 9 (by omega)).trans P.2.2⟩, ⟨(e3 32 0 4 (by omega)).trans M.1, (e3 32 0 5 (by omega)).trans M.2.1, (e3 32 0 6 (by omega)).trans M.2.2.1, fun z => ⟨(e3 32 0 8 (by omega)).trans (M.2.2.2.1 z).1, fun j hj => (e3 34 0 j (by omega)).trans ((M.2.2.2.1 z).2 j hj)⟩, fun z => (e3 32 0 7 (by omega)).trans (M.2.2.2.2 z)⟩, (e3 32 0 13 (by omega)).trans e13⟩
theorem RF_fr {hc hm hc' hm' : AH} {T : Nat → Nat} {L n : Nat} (F : RF hc hm T L n) (e : ∀ k i j, k = 2 ∨ k = 17 ∨ k = 18 ∨ k = 19 → gI hc' k i j = gI hc k i j) (e2 : ∀ i, gL hc' 20 0 i = gL hc 20 0 i) (e3 : ∀ k i j, k = 32 ∧ j ≤ 13 ∨ k = 33 ∨ k = 34 → gI hm' k i j = gI hm k i j) : RF hc' hm' T L n :=
  RF_of F (TkC_fr F.1 e e2) (e 2 0 0 (by omega)) (e 2 0 6 (by omega)) (e3 32 0 13 (by omega)) (e3 32 0 9 (by omega)) (e3 32 0 10 (by omega))
theorem p_told {hc hm : AH} {T : Nat → Nat} {L n i t a b : Nat} (hb : ∀ i, T i < 256) (hL : L ≤ 900) (G : RG hc hm T L n i ∨ RF hc hm T L n) (ht : t < 17) (ha : a < 1024) (hb2 : b < 1024) : ∃ h1 hc' hm' u v, jR_readWord hc (lqI (pkW t)) = some h1 ∧ jR_readWhole h1 (nI a) (nI b) = some (u, hc') ∧ jM_told hm t (nI a) (nI b) = some (v, hm') ∧ FcR hc h1 ∧ FcR h1 hc' ∧ FmR hm hm' ∧ ((RG hc hm T L n i ∧ RG hc' hm' T L n (i + 2) ∧ ∃ x, a ≤ x ∧ x ≤ b ∧ u = nI x ∧ v = nI x) ∨ (RF hc' hm' T L n ∧ u = 0 ∧ v = nI a)) := by
  have bad : ∀ h1 hm1, RF h1 hm1 T L n → jR_readWhole h1 (nI a) (nI b) = some (0, adH h1) ∧ jM_number hm1 (nI a) (nI b) = some (nI a, hm1) ∧ RF (adH h1) hm1 T L n := by
    intro h1 hm1 F
    have F0 := F
    obtain ⟨_, f, j, _, _, _, _, _, e13, _⟩ := F0
    exact ⟨bad_whole (F.bad hL) _ _, (m_bad e13).2.1 _ _, RF_a F⟩
  rcases G with G | F
  · obtain ⟨h1, hm1, q1, q2, q3, q4, q5⟩ := p_word hb hL G ht
    rcases q5 with G1 | F1
    · obtain ⟨hc', hm', u, v, p1, p2, p3, p4, p5⟩ := p_number hb hL G1 ha hb2
      refine ⟨h1, hc', hm', u, v, q1, p1, ?_, q3, p3, q4.trans p4, ?_⟩
      · rw [jM_told, q2, obind, p2, obind]
      · rcases p5 with ⟨g, x⟩ | x
        · exact Or.inl ⟨G, g, x⟩
        · exact Or.inr x
    · obtain ⟨b1, b2, b3⟩ := bad h1 hm1 F1
      refine ⟨h1, adH h1, hm1, 0, nI a, q1, b1, ?_, q3, FcR_a h1, q4, Or.inr ⟨b3, rfl, rfl⟩⟩
      rw [jM_told, q2, obind, b2, obind]
  · have F0 := F
    obtain ⟨_, f, j, _, _, _, _, _, e13, _⟩ := F0
    have F1 := RF_a F
    obtain ⟨b1, b2, b3⟩ := bad (adH hc) hm F1
    refine ⟨adH hc, adH (adH hc), hm, 0, nI a, bad_word (F.bad hL) _, b1, ?_, FcR_a hc, FcR_a _, FmR.refl hm, Or.inr ⟨b3, rfl, rfl⟩⟩
    rw [jM_told, (m_bad e13).1, obind, b2, obind]
