/-! ===== pure: a comma, a number; and where both have failed ===== -/
theorem tt_at {h : AH} {n : Nat} (e : gI h 17 0 0 = nI (n + 1)) (hn : n ≤ 900) (v : Int32) : (v < 0) ∨ (¬ v < 0 ∧ v < gI h 17 0 0 ∧ inb v 901 = true) ∨ (¬ v < 0 ∧ ¬ v < gI h 17 0 0) := by
  by_cases h1 : v < 0
  · exact Or.inl h1
  · by_cases h2 : v < gI h 17 0 0
    · refine Or.inr (Or.inl ⟨h1, h2, ?_⟩)
      rw [e] at h2
      have a1 := Int32.lt_iff_toInt_lt.1 h2
      rw [nI_toInt (by omega)] at a1
      have a2 : ¬ v.toInt < 0 := fun z => h1 (Int32.lt_iff_toInt_lt.2 z)
      have ev : v = nI v.toInt.toNat := by
        apply Int32.toInt_inj.1
        rw [nI_toInt (by omega)]
        omega
      rw [ev]
      exact inb_nI (by omega) (by decide)
    · exact Or.inr (Or.inr ⟨h1, h2⟩)
theorem tt_isWord {h : AH} {n : Nat} (e : gI h 17 0 0 = nI (n + 1)) (hn : n ≤ 900) (v : Int32) (w : Int64) : ∃ r, jT_isWord h v w = some r := by
  unfold jT_isWord
  rcases tt_at e hn v with h1 | ⟨h1, h2, h3⟩ | ⟨h1, h2⟩
  · exact ⟨0, by rw [if_pos h1]⟩
  · rw [if_neg h1, if_pos h2, if_pos h3, if_pos h3]
    split
    · split <;> exact ⟨_, rfl⟩
    · exact ⟨_, rfl⟩
  · exact ⟨0, by rw [if_neg h1, if_neg h2]⟩
theorem tt_isKind {h : AH} {n : Nat} (e : gI h 17 0 0 = nI (n + 1)) (hn : n ≤ 900) (v k : Int32) : ∃ r, jT_isKind h v k = some r := by
  unfold jT_isKind
  rcases tt_at e hn v with h1 | ⟨h1, h2, h3⟩ | ⟨h1, h2⟩
  · exact ⟨0, by rw [if_pos h1]⟩
  · rw [if_neg h1, if_pos h2, if_pos h3]
    split <;> exact ⟨_, rfl⟩
  · exact ⟨0, by rw [if_neg h1, if_neg h2]⟩
theorem tt_valueOf {h : AH} {n : Nat} (e : gI h 17 0 0 = nI (n + 1)) (hn : n ≤ 900) (v : Int32) : ∃ r, jT_valueOf h v = some r := by
  unfold jT_valueOf
  rcases tt_at e hn v with h1 | ⟨h1, h2, h3⟩ | ⟨h1, h2⟩
  · exact ⟨0, by rw [if_pos h1]⟩
  · rw [if_neg h1, if_pos h2, if_pos h3]
    exact ⟨_, rfl⟩
  · exact ⟨0, by rw [if_neg h1, if_neg h2]⟩
/-- what failed stays failed -/
def Bad (h : AH) (n : Nat) : Prop := gI h 17 0 0 = nI (n + 1) ∧ n ≤ 900 ∧ ∃ g, 1 ≤ g ∧ g ≤ 6 ∧ gI h 2 0 0 = nI g
theorem RF.bad {hc hm : AH} {T : Nat → Nat} {L n : Nat} (F : RF hc hm T L n) (hL : L ≤ 900) : Bad hc n := by
  obtain ⟨C, f, j, a, b, _, d, _⟩ := F
  exact ⟨C.1, by have := C.2.1; omega, f, a, b, d⟩
theorem bad_fail {h : AH} {n : Nat} (B : Bad h n) (v : Int32) : jR_fail h v = some h := by
  obtain ⟨_, _, g, a, b, c⟩ := B
  exact c_fail_f c ⟨a, b⟩ v
theorem bad_a {h : AH} {n : Nat} (B : Bad h n) : Bad (adH h) n := by
  obtain ⟨a, b, g, c, d, e⟩ := B
  exact ⟨(gI_uI_n (by omega)).trans a, b, g, c, d, (gI_uI_n (by omega)).trans e⟩
theorem bad_word {h : AH} {n : Nat} (B : Bad h n) (w : Int64) : jR_readWord h w = some (adH h) := by
  obtain ⟨r, hr⟩ := tt_isWord B.1 B.2.1 (gI h 2 0 5) w
  rw [jR_readWord, hr, obind, bad_fail B, obind, jbn]
  split <;> rfl
theorem bad_comma {h : AH} {n : Nat} (B : Bad h n) : jR_readComma h = some (adH h) := by
  obtain ⟨r, hr⟩ := tt_isKind B.1 B.2.1 (gI h 2 0 5) 5
  rw [jR_readComma, hr, obind, bad_fail B, obind, jbn]
  split <;> rfl
theorem bad_51 {h : AH} {n : Nat} (B : Bad h n) (v : Int64) : jR_readWhole_51 v h = some (0, adH h) := by
  obtain ⟨_, _, g, a, b, c⟩ := B
  have e : gI (adH h) 2 0 0 = nI g := (gI_uI_n (by omega)).trans c
  rw [jR_readWhole_51, jbn]
  exact if_neg (fun z => by have := (nI_eq (by omega) (by decide)).1 ((e.symm.trans z : nI g = nI 0)); omega)
theorem bad_whole {h : AH} {n : Nat} (B : Bad h n) (a b : Int32) : jR_readWhole h a b = some (0, adH h) := by
  obtain ⟨r, hr⟩ := tt_isKind B.1 B.2.1 (gI h 2 0 5) 3
  obtain ⟨v, hv⟩ := tt_valueOf B.1 B.2.1 (gI h 2 0 5)
  have e46 : jR_readWhole_46 v h = some (0, adH h) := by rw [jR_readWhole_46, bad_fail B, obind, bad_51 B]
  have e32 : jR_readWhole_32 a b v h = some (0, adH h) := by
    rw [jR_readWhole_32, e46, bad_51 B]
    split
    · rfl
    · split <;> rfl
  rw [jR_readWhole, hv, obind, hr, obind, bad_fail B, obind, e32]
  split <;> rfl
/-- readComma against mustComma -/
theorem p_comma {hc hm : AH} {T : Nat → Nat} {L n i : Nat} (hb : ∀ i, T i < 256) (hL : L ≤ 900) (G : RG hc hm T L n i) : ∃ hc' hm', jR_readComma hc = some hc' ∧ jM_mustComma hm = some hm' ∧ FcR hc hc' ∧ FmR hm hm' ∧ (RG hc' hm' T L n (i + 1) ∨ RF hc' hm' T L n) := by
  have G0 := G
  obtain ⟨C, e5, hi, e0, P, M, e13⟩ := G0
  have k6 := kd_6 T L (tS T L i)
  rw [jR_readComma, e5, show (5 : Int32) = nI 5 from rfl, c_isKind C hL hi (by decide), obind, jM_mustComma, if_pos (show gI hm 32 0 13 = 0 from e13), jM_comma, if_pos (show gI hm 32 0 13 = 0 from e13), M.2.2.1]
  by_cases hk : kdT T L (tS T L i) = 5
  · obtain ⟨hm', q1, q2, q3⟩ := RG_next hb hL G (kd_in C hi (by rw [hk]; decide))
    refine ⟨adH hc, hm', ?_, ?_, FcR_a hc, q2.r, Or.inl q3⟩
    · rw [decide_eq_true hk, if_neg bI_t, jbn, adH, e5]
    · rw [if_pos ((kmT_44 k6).2 hk), q1, obind, obind, if_neg (show ¬ (1 : Int32) = 0 by decide)]
  · refine ⟨adH (flH hc 1), wrH hm 1 (tS T L i), ?_, ?_, (FcR_f hc 1).trans (FcR_a _), FmR_w hm _ _, Or.inr (RF_a (RG_fail G (by omega)))⟩
    · rw [decide_eq_false hk, if_pos bI_f, show jR_fail hc 1 = _ from c_fail_t e0 1, obind, jbn]; rfl
    · rw [if_neg (fun z => hk ((kmT_44 k6).1 z)), obind, if_pos rfl, M.1, show jM_wrong hm 1 (nI (tS T L i)) = _ from m_wrong_t e13 1 _, obind]
