/-! ===== pure: the text, line after line ===== -/
theorem p_line {hc hm : AH} {T R S : Nat → Nat} {L n i : Nat} (hb : ∀ i, T i < 256) (hL : L ≤ 900) (X : LnS hc hm T L n i R S) : ∃ hc' hm', (∀ K, dspC hc K = K hc') ∧ jM_readLine hm = some hm' ∧ LnO hc hm hc' hm' T L n i := by
  have X0 := X
  obtain ⟨G, C, M, I⟩ := X0
  have i1 := I.1
  have i2 := I.2.1
  have n4 := I.2.2.2.2.2.2.2.1
  have D := G.1
  have e5 := G.2.1
  have hi := G.2.2.1
  have w : ∀ t, t < 17 → jT_isWord hc (gI hc 2 0 5) (lqI (pkW t)) = some (bI (isW T L (tS T L i) t)) := fun t ht => by rw [e5]; exact c_isWord D hL hi ht
  have q0 : gI hm 36 0 (Int32.toNatClampNeg 0) = nI (R 0) := M.1 0 (by omega)
  have q4 : gI hm 36 0 (Int32.toNatClampNeg 4) = nI (R 4) := M.1 4 (by omega)
  have q6 : gI hm 36 0 (Int32.toNatClampNeg 6) = nI (R 6) := M.1 6 (by omega)
  have q70 : gI hm 36 0 (Int32.toNatClampNeg 70) = nI (R 70) := M.1 70 (by omega)
  have s0 : gI hm 38 0 (Int32.toNatClampNeg 0) = nI (S 0) := M.2 0 (by omega)
  have eL : jM_readLine hm = jM_readLine_17 (if R 0 = 0 then 1 else 0) hm := by
    rw [jM_readLine, if_pos (by decide), q0]
    by_cases h : R 0 = 0
    · rw [if_pos h, h]; rfl
    · rw [if_neg h, if_neg (show ¬ nI (R 0) = 0 from fun z => h ((nI_eq (by omega) (show 0 < 2 ^ 31 by decide)).1 (z : nI (R 0) = nI 0)))]
  cases e0 : isW T L (tS T L i) 0 with
  | true =>
    obtain ⟨hc', hm', a, b, c⟩ := p_wall hb hL X e0
    refine ⟨hc', hm', fun K => ?_, ?_, c⟩
    · rw [dspC, pkW_0, w 0 (by decide), obind, e0, if_neg bI_t, a, obind]
    · rw [eL, jM_readLine_17]
      by_cases h : R 0 = 0
      · obtain ⟨m1, z1, -, -⟩ := m_begins_t (R := R) hb hL G (M.1 0 (by omega)) (by omega) (t := 0) (by decide) e0 3 0 (Or.inl rfl)
        rw [if_pos h] at b ⊢
        rw [z1, obind] at b ⊢
        rw [if_neg (show ¬ (1 : Int32) = 0 by decide), b, obind]
      · rw [if_neg h] at b ⊢
        rw [show jM_begins hm 0 0 3 0 = _ from m_begins_b (R := R) G (M.1 0 (by omega)) (by decide) e0 3 0, obind] at b ⊢
        rw [if_neg (show ¬ (1 : Int32) = 0 by decide), b, obind]
  | false =>
    have f0 := m_begins_f G (t := 0) (by decide) e0
    have eL1 : jM_readLine hm = jM_readLine_50 (if R 4 < 5 then 1 else 0) hm := by
      rw [eL, jM_readLine_17, f0, obind, if_pos rfl, if_pos (by decide), q4]
      by_cases h : R 4 < 5
      · rw [if_pos h, if_pos (show nI (R 4) < 5 from (nI_ltI (by omega) (show 5 < 2 ^ 31 by decide)).2 h)]
      · rw [if_neg h, if_neg (show ¬ nI (R 4) < 5 from fun z => h ((nI_ltI (by omega) (show 5 < 2 ^ 31 by decide)).1 (z : nI (R 4) < nI 5)))]
    cases e1 : isW T L (tS T L i) 1 with
    | true =>
      obtain ⟨hc', hm', a, b, c⟩ := p_colour hb hL X e1
      refine ⟨hc', hm', fun K => ?_, ?_, c⟩
      · rw [dspC, pkW_0, w 0 (by decide), obind, e0, if_pos bI_f, pkW_1, w 1 (by decide), obind, e1, if_neg bI_t, a, obind]
      · rw [eL1, jM_readLine_50]
        by_cases h : R 4 < 5
        · obtain ⟨m1, z1, -, -⟩ := m_begins_t (R := R) hb hL G (M.1 0 (by omega)) (by omega) (t := 1) (by decide) e1 5 0 (Or.inl rfl)
          rw [if_pos h] at b ⊢
          rw [z1, obind] at b ⊢
          rw [if_neg (show ¬ (1 : Int32) = 0 by decide), b, obind]
        · rw [if_neg h] at b ⊢
          rw [show jM_begins hm 1 0 5 0 = _ from m_begins_b (R := R) G (M.1 0 (by omega)) (by decide) e1 5 0, obind] at b ⊢
          rw [if_neg (show ¬ (1 : Int32) = 0 by decide), b, obind]
    | false =>
      have f1 := m_begins_f G (t := 1) (by decide) e1
      cases e2 : isW T L (tS T L i) 2 with
      | true =>
        obtain ⟨hc', hm', a, b, c⟩ := p_handl hb hL X e2
        obtain ⟨m1, z1, -, -⟩ := m_begins_t (R := R) hb hL G (M.1 0 (by omega)) (by omega) (t := 2) (by decide) e2 1 0 (Or.inl rfl)
        refine ⟨hc', hm', fun K => ?_, ?_, c⟩
        · rw [dspC, pkW_0, w 0 (by decide), obind, e0, if_pos bI_f, pkW_1, w 1 (by decide), obind, e1, if_pos bI_f, pkW_2, w 2 (by decide), obind, e2, if_neg bI_t, a, obind]
        · rw [z1, obind] at b
          rw [eL1, jM_readLine_50, f1, obind, if_pos rfl, z1, obind, if_neg (show ¬ (1 : Int32) = 0 by decide), b, obind]
      | false =>
        have f2 := m_begins_f G (t := 2) (by decide) e2
        have eL2 : jM_readLine hm = jM_readLine_103 (if S 0 < 9 then 1 else 0) hm := by
          rw [eL1, jM_readLine_50, f1, obind, if_pos rfl, f2, obind, if_pos rfl, if_pos (by decide), s0]
          by_cases h : S 0 < 9
          · rw [if_pos h, if_pos (show nI (S 0) < 9 from (nI_ltI (by omega) (show 9 < 2 ^ 31 by decide)).2 h)]
          · rw [if_neg h, if_neg (show ¬ nI (S 0) < 9 from fun z => h ((nI_ltI (by omega) (show 9 < 2 ^ 31 by decide)).1 (z : nI (S 0) < nI 9)))]
        cases e3 : isW T L (tS T L i) 3 with
        | true =>
          obtain ⟨hc', hm', a, b, c⟩ := p_workl hb hL X e3
          have hq : ∃ m, jM_begins hm 3 (if S 0 < 9 then 1 else 0) 5 1 = some (1, m) := by
            by_cases h : S 0 < 9
            · rw [if_pos h]
              by_cases h0 : R 0 = 0
              · exact ⟨_, m_begins_6 (R := R) G (M.1 0 (by omega)) h0 (by decide) e3 5⟩
              · obtain ⟨m1, z1, -, -⟩ := m_begins_t (R := R) hb hL G (M.1 0 (by omega)) (by omega) (t := 3) (by decide) e3 5 1 (Or.inr h0)
                exact ⟨m1, z1⟩
            · rw [if_neg h]
              exact ⟨_, m_begins_b (R := R) G (M.1 0 (by omega)) (by decide) e3 5 1⟩
          obtain ⟨m, hq⟩ := hq
          refine ⟨hc', hm', fun K => ?_, ?_, c⟩
          · rw [dspC, pkW_0, w 0 (by decide), obind, e0, if_pos bI_f, pkW_1, w 1 (by decide), obind, e1, if_pos bI_f, pkW_2, w 2 (by decide), obind, e2, if_pos bI_f, pkW_3, w 3 (by decide), obind, e3, if_neg bI_t, a, obind]
          · rw [hq, obind] at b
            rw [eL2, jM_readLine_103, hq, obind, if_neg (show ¬ (1 : Int32) = 0 by decide), b, obind]
        | false =>
          have f3 := m_begins_f G (t := 3) (by decide) e3
          have eL3 : jM_readLine hm = jM_readLine_137 (if R 6 < 4 then 1 else 0) hm := by
            rw [eL2, jM_readLine_103, f3, obind, if_pos rfl, if_pos (by decide), q6]
            by_cases h : R 6 < 4
            · rw [if_pos h, if_pos (show nI (R 6) < 4 from (nI_ltI (by omega) (show 4 < 2 ^ 31 by decide)).2 h)]
            · rw [if_neg h, if_neg (show ¬ nI (R 6) < 4 from fun z => h ((nI_ltI (by omega) (show 4 < 2 ^ 31 by decide)).1 (z : nI (R 6) < nI 4)))]
          cases e4 : isW T L (tS T L i) 4 with
          | true =>
            obtain ⟨hc', hm', a, b, c⟩ := p_contractl hb hL X e4
            have hq : ∃ m, jM_begins hm 4 (if R 6 < 4 then 1 else 0) 5 1 = some (1, m) := by
              by_cases h : R 6 < 4
              · rw [if_pos h]
                by_cases h0 : R 0 = 0
                · exact ⟨_, m_begins_6 (R := R) G (M.1 0 (by omega)) h0 (by decide) e4 5⟩
                · obtain ⟨m1, z1, -, -⟩ := m_begins_t (R := R) hb hL G (M.1 0 (by omega)) (by omega) (t := 4) (by decide) e4 5 1 (Or.inr h0)
                  exact ⟨m1, z1⟩
              · rw [if_neg h]
                exact ⟨_, m_begins_b (R := R) G (M.1 0 (by omega)) (by decide) e4 5 1⟩
            obtain ⟨m, hq⟩ := hq
            refine ⟨hc', hm', fun K => ?_, ?_, c⟩
            · rw [dspC, pkW_0, w 0 (by decide), obind, e0, if_pos bI_f, pkW_1, w 1 (by decide), obind, e1, if_pos bI_f, pkW_2, w 2 (by decide), obind, e2, if_pos bI_f, pkW_3, w 3 (by decide), obind, e3, if_pos bI_f, pkW_4, w 4 (by decide), obind, e4, if_neg bI_t, a, obind]
            · rw [hq, obind] at b
              rw [eL3, jM_readLine_137, hq, obind, if_neg (show ¬ (1 : Int32) = 0 by decide), b, obind]
          | false =>
            have f4 := m_begins_f G (t := 4) (by decide) e4
            have eL4 : jM_readLine hm = jM_readLine_170 (if R 70 = 0 then 1 else 0) hm := by
              rw [eL3, jM_readLine_137, f4, obind, if_pos rfl, if_pos (by decide), q70]
              by_cases h : R 70 = 0
              · rw [if_pos h, if_pos (show nI (R 70) = 0 by rw [h]; rfl)]
              · rw [if_neg h, if_neg (show ¬ nI (R 70) = 0 from fun z => h ((nI_eq (by omega) (show 0 < 2 ^ 31 by decide)).1 (z : nI (R 70) = nI 0)))]
            cases e5' : isW T L (tS T L i) 5 with
            | true =>
              obtain ⟨hc', hm', a, b, c⟩ := p_wantl hb hL X e5'
              have hq : ∃ m, jM_begins hm 5 (if R 70 = 0 then 1 else 0) 3 1 = some (1, m) := by
                by_cases h : R 70 = 0
                · rw [if_pos h]
                  by_cases h0 : R 0 = 0
                  · exact ⟨_, m_begins_6 (R := R) G (M.1 0 (by omega)) h0 (by decide) e5' 3⟩
                  · obtain ⟨m1, z1, -, -⟩ := m_begins_t (R := R) hb hL G (M.1 0 (by omega)) (by omega) (t := 5) (by decide) e5' 3 1 (Or.inr h0)
                    exact ⟨m1, z1⟩
                · rw [if_neg h]
                  exact ⟨_, m_begins_b (R := R) G (M.1 0 (by omega)) (by decide) e5' 3 1⟩
              obtain ⟨m, hq⟩ := hq
              refine ⟨hc', hm', fun K => ?_, ?_, c⟩
              · rw [dspC, pkW_0, w 0 (by decide), obind, e0, if_pos bI_f, pkW_1, w 1 (by decide), obind, e1, if_pos bI_f, pkW_2, w 2 (by decide), obind, e2, if_pos bI_f, pkW_3, w 3 (by decide), obind, e3, if_pos bI_f, pkW_4, w 4 (by decide), obind, e4, if_pos bI_f, pkW_5, w 5 (by decide), obind, e5', if_neg bI_t, a, obind]
              · rw [hq, obind] at b
                rw [eL4, jM_readLine_170, hq, obind, if_neg (show ¬ (1 : Int32) = 0 by decide), b, obind]
            | false =>
              have f5 := m_begins_f G (t := 5) (by decide) e5'
              refine ⟨flH hc 1, wrH hm 1 (tS T L i), fun K => ?_, ?_, LnO_fail ((FcR_f hc 1).s _ _) (FmR_w hm 1 _).s (RG_fail G (by omega))⟩
              · rw [dspC, pkW_0, w 0 (by decide), obind, e0, if_pos bI_f, pkW_1, w 1 (by decide), obind, e1, if_pos bI_f, pkW_2, w 2 (by decide), obind, e2, if_pos bI_f, pkW_3, w 3 (by decide), obind, e3, if_pos bI_f, pkW_4, w 4 (by decide), obind, e4, if_pos bI_f, pkW_5, w 5 (by decide), obind, e5', if_pos bI_f, show jR_fail hc 1 = _ from c_fail_t G.2.2.2.1 1, obind]
              · rw [eL4, jM_readLine_170, f5, obind, if_pos rfl, G.2.2.2.2.2.1.1, show jM_wrong hm 1 (nI (tS T L i)) = _ from m_wrong_t G.2.2.2.2.2.2 1 _, obind]
