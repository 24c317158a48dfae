/-! ===== pure: a whole number ===== -/
theorem lqI_i : ∀ a, a < 1024 → (lqI a).toInt = (a : Int) ∧ (nI a).toInt64 = lqI a ∧ (lqI a).toInt32 = nI a := by decide +kernel
theorem lg_neg {a b : Nat} (ha : a < 1024) (hb : b < 1024) : (lg_cmp (lqI a) (lqI b) < 0) ↔ a < b := by
  have e1 : (lqI a > lqI b) ↔ b < a := by
    show (lqI b < lqI a) ↔ _
    rw [Int64.lt_iff_toInt_lt, (lqI_i a ha).1, (lqI_i b hb).1]
    omega
  have e2 : (lqI a = lqI b) ↔ a = b := lqI_inj (by omega) (by omega)
  unfold lg_cmp
  by_cases h1 : b < a
  · rw [if_pos (e1.2 h1)]; exact ⟨fun z => absurd z (by decide), fun z => by omega⟩
  · rw [if_neg (fun z => h1 (e1.1 z))]
    by_cases h2 : a = b
    · rw [if_pos (e2.2 h2)]; exact ⟨fun z => absurd z (by decide), fun z => by omega⟩
    · rw [if_neg (fun z => h2 (e2.1 z))]; exact ⟨fun _ => by omega, fun _ => by decide⟩
theorem lg_le {a b : Nat} (ha : a < 1024) (hb : b < 1024) : (lg_cmp (lqI a) (lqI b) ≤ 0) ↔ a ≤ b := by
  have e1 : (lqI a > lqI b) ↔ b < a := by
    show (lqI b < lqI a) ↔ _
    rw [Int64.lt_iff_toInt_lt, (lqI_i a ha).1, (lqI_i b hb).1]
    omega
  have e2 : (lqI a = lqI b) ↔ a = b := lqI_inj (by omega) (by omega)
  unfold lg_cmp
  by_cases h1 : b < a
  · rw [if_pos (e1.2 h1)]; exact ⟨fun z => absurd z (by decide), fun z => by omega⟩
  · rw [if_neg (fun z => h1 (e1.1 z))]
    by_cases h2 : a = b
    · rw [if_pos (e2.2 h2)]; exact ⟨fun z => by omega, fun _ => by decide⟩
    · rw [if_neg (fun z => h2 (e2.1 z))]; exact ⟨fun _ => by omega, fun _ => by decide⟩
theorem nu_le {T : Nat → Nat} {L q : Nat} (h : kdT T L q = 3) : nuT T q (enT T L q - q) ≤ 999 := by
  have k := kd_3 h
  have hd : ∀ j, j < enT T L q - q → 48 ≤ T (q + j) ∧ T (q + j) ≤ 57 := fun j hj => of_decide_eq_true (en_dgt (L := L) k.2.1 (q + j) (by omega) (by omega))
  generalize enT T L q - q = m at hd k
  have : ∀ m, (∀ j, j < m → 48 ≤ T (q + j) ∧ T (q + j) ≤ 57) → nuT T q m < 10 ^ m := by
    intro m
    induction m with
    | zero => exact fun _ => show 0 < 1 by decide
    | succ m ih =>
      intro hd
      have h1 := ih (fun j hj => hd j (by omega))
      have h2 := hd m (by omega)
      rw [nuT, Nat.pow_succ]
      omega
  have h1 := this m hd
  have h2 : (10 : Nat) ^ m ≤ 10 ^ 3 := Nat.pow_le_pow_right (by decide) k.2.2
  have h3 : (10 : Nat) ^ 3 = 1000 := by decide
  omega
/-- readWhole against number -/
theorem p_number {hc hm : AH} {T : Nat → Nat} {L n i a b : Nat} (hb : ∀ i, T i < 256) (hL : L ≤ 900) (G : RG hc hm T L n i) (ha : a < 1024) (hb2 : b < 1024) : ∃ hc' hm' u v, jR_readWhole hc (nI a) (nI b) = some (u, hc') ∧ jM_number hm (nI a) (nI b) = some (v, hm') ∧ FcR hc hc' ∧ FmR hm hm' ∧ ((RG hc' hm' T L n (i + 1) ∧ ∃ x, a ≤ x ∧ x ≤ b ∧ u = nI x ∧ v = nI x) ∨ (RF hc' hm' T L n ∧ u = 0 ∧ v = nI a)) := by
  have G0 := G
  obtain ⟨C, e5, hi, e0, P, M, e13⟩ := G0
  have k6 := kd_6 T L (tS T L i)
  rw [jR_readWhole, e5, show (3 : Int32) = nI 3 from rfl, c_valueOf C hL hi, c_isKind C hL hi (by decide), obind, obind, jM_number, if_pos (show gI hm 32 0 13 = 0 from e13), M.2.2.1]
  by_cases hk : kdT T L (tS T L i) = 3
  · have hx := nu_le hk
    rw [decide_eq_true hk, if_neg bI_t, if_pos ((kmT_3 k6).2 hk), (C.2.2.1 i hi).2.2.2 hk, M.2.2.2.2 hk]
    generalize nuT T (tS T L i) (enT T L (tS T L i) - tS T L i) = x at hx
    rw [jR_readWhole_32, (lqI_i a ha).2.1, (lqI_i b hb2).2.1]
    by_cases hab : a ≤ x ∧ x ≤ b
    · obtain ⟨hm', q1, q2, q3⟩ := RG_next hb hL G (kd_in C hi (by rw [hk]; decide))
      have e0' : gI (adH hc) 2 0 0 = 0 := q3.2.2.2.1
      refine ⟨adH hc, hm', nI x, nI x, ?_, ?_, FcR_a hc, q2.r, Or.inl ⟨q3, x, hab.1, hab.2, rfl, rfl⟩⟩
      · rw [if_neg (fun z => by have := (lg_neg (by omega) ha).1 z; omega), if_pos ((lg_le (by omega) hb2).2 hab.2), jR_readWhole_51, jbn]
        rw [show uI hc 2 0 5 (gI hc 2 0 5 + 1) = adH hc from rfl, if_pos e0', (lqI_i x (by omega)).2.2]
      · rw [m_within_t hab.1 hab.2 (by omega), obind, if_neg (show ¬ nI 1 = 0 by decide), q1, obind]
    · have F := RF_a (RG_fail (f := 4) G (by omega))
      refine ⟨adH (flH hc 4), wrH hm 4 (tS T L i), 0, nI a, ?_, ?_, (FcR_f hc 4).trans (FcR_a _), FmR_w hm _ _, Or.inr ⟨F, rfl, rfl⟩⟩
      · have e46 : jR_readWhole_46 (lqI x) hc = some (0, adH (flH hc 4)) := by
          have ef : gI (adH (flH hc 4)) 2 0 0 = nI 4 := by unfold adH flH; rw [gI_uI_n (by omega), gI_uI_n (by omega), gI_uI_s]
          rw [jR_readWhole_46, show jR_fail hc 4 = _ from c_fail_t e0 4, obind, jR_readWhole_51, jbn]
          rw [show uI (flH hc 4) 2 0 5 (gI (flH hc 4) 2 0 5 + 1) = adH (flH hc 4) from rfl, if_neg (by rw [ef]; decide)]
        by_cases h1 : x < a
        · rw [if_pos ((lg_neg (by omega) ha).2 h1), e46]
        · rw [if_neg (fun z => h1 ((lg_neg (by omega) ha).1 z)), if_neg (fun z => hab ⟨by omega, (lg_le (by omega) hb2).1 z⟩), e46]
      · rw [m_within_n hab (by omega) (by omega) (by omega), obind, if_pos (show nI 0 = 0 from rfl), M.1, show jM_wrong hm 4 (nI (tS T L i)) = _ from m_wrong_t e13 4 _, obind]
  · have F := RG_fail (f := 1) G (by omega)
    refine ⟨adH (flH hc 1), wrH hm 1 (tS T L i), 0, nI a, ?_, ?_, (FcR_f hc 1).trans (FcR_a _), FmR_w hm _ _, Or.inr ⟨RF_a F, rfl, rfl⟩⟩
    · have B := F.bad hL
      rw [decide_eq_false hk, if_pos bI_f, show jR_fail hc 1 = _ from c_fail_t e0 1, obind]
      have e46 : ∀ w, jR_readWhole_46 w (flH hc 1) = some (0, adH (flH hc 1)) := fun w => by rw [jR_readWhole_46, bad_fail B, obind, bad_51 B]
      rw [jR_readWhole_32, e46, bad_51 B]
      split
      · rfl
      · split <;> rfl
    · rw [if_neg (fun z => hk ((kmT_3 k6).1 z)), M.1, show jM_wrong hm 1 (nI (tS T L i)) = _ from m_wrong_t e13 1 _, obind]
/-- the model's where it has failed -/
theorem m_bad {hm : AH} (e : gI hm 32 0 13 = nI 1) : (∀ t, jM_must hm t = some hm) ∧ (∀ a b, jM_number hm a b = some (a, hm)) ∧ jM_mustComma hm = some hm ∧ (∀ t a b, jM_told hm t a b = some (a, hm)) := by
  have n0 : ¬ gI hm 32 0 13 = 0 := by rw [e]; decide
  have a1 : ∀ t, jM_must hm t = some hm := fun t => by rw [jM_must, if_neg n0]
  have a2 : ∀ a b, jM_number hm a b = some (a, hm) := fun a b => by rw [jM_number, if_neg n0]
  exact ⟨a1, a2, by rw [jM_mustComma, if_neg n0], fun t a b => by rw [jM_told, a1, obind, a2, obind]⟩
