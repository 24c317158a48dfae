/-! ===== pure: names in the text ===== -/
def nmF (R : Nat → Nat) (k : Nat) : Nat → Nat := fun j => R (81 + 8 * k + j)
/-- is k a place of the ten that holds a name -/
def nmH (R : Nat → Nat) (k : Nat) : Prop := k < R 4 ∨ 5 ≤ k ∧ k < 5 + R 5
def NmI (R : Nat → Nat) : Prop := R 4 ≤ 5 ∧ R 5 ≤ 5 ∧ (∀ k, k < 10 → nmH R k → 1 ≤ R (71 + k) ∧ R (71 + k) ≤ 8 ∧ ∀ j, j < R (71 + k) → 97 ≤ nmF R k j ∧ nmF R k j ≤ 122) ∧ (∀ k, k < 10 → ¬ nmH R k → R (71 + k) = 0) ∧ (∀ c d, c < R 4 → d < R 5 → ¬ (R (71 + c) = R (71 + (5 + d)) ∧ ∀ j, j < R (71 + c) → nmF R c j = nmF R (5 + d) j)) ∧ (∀ i, 71 ≤ i → i < 161 → R i < 2 ^ 31)
def NmC (h : AH) (b : Nat) (R : Nat → Nat) : Prop := gI h 3 b 4 = nI (R 4) ∧ gI h 3 b 5 = nI (R 5) ∧ (∀ c, c < R 4 → gL h 4 b c = lqI (paF (nmF R c) (R (71 + c)))) ∧ (∀ c, c < R 5 → gL h 8 b c = lqI (paF (nmF R (5 + c)) (R (71 + (5 + c)))))
def NmM (h : AH) (R : Nat → Nat) : Prop := ∀ i, 71 ≤ i → i < 161 → gI h 36 0 i = nI (R i)
theorem NmC_of {h h' : AH} {b : Nat} {R : Nat → Nat} (N : NmC h b R) (e : ∀ j, gI h' 3 b j = gI h 3 b j) (e2 : ∀ k i j, k = 4 ∨ k = 8 → gL h' k i j = gL h k i j) : NmC h' b R :=
  ⟨(e 4).trans N.1, (e 5).trans N.2.1, fun c hc => (e2 4 b c (by omega)).trans (N.2.2.1 c hc), fun c hc => (e2 8 b c (by omega)).trans (N.2.2.2 c hc)⟩
theorem NmC_r {h h' : AH} {b : Nat} {R : Nat → Nat} (N : NmC h b R) (F : FcR h h') : NmC h' b R := NmC_of N (fun j => F.1 3 b j (by omega)) (fun k i j _ => by unfold gL; rw [F.2])
theorem fndIL (p : Nat → Bool) : ∀ d k, fndI p d k = fndL p d k := by
  intro d
  induction d with
  | zero => exact fun _ => rfl
  | succ d ih => intro k; rw [fndI, fndL, ih]
theorem fndL_or (p : Nat → Bool) : ∀ d k, (∃ j, k ≤ j ∧ j < k + d ∧ p j = true ∧ (∀ i, k ≤ i → i < j → p i = false) ∧ fndL p d k = nI j) ∨ ((∀ i, k ≤ i → i < k + d → p i = false) ∧ fndL p d k = -1) := by
  intro d
  induction d with
  | zero => exact fun k => Or.inr ⟨fun i h1 h2 => by omega, rfl⟩
  | succ d ih =>
    intro k
    rw [fndL]
    cases hp : p k with
    | true => exact Or.inl ⟨k, Nat.le_refl k, by omega, hp, fun i h1 h2 => by omega, if_pos rfl⟩
    | false =>
      rw [if_neg (by decide)]
      rcases ih (k + 1) with ⟨j, a, b, c, d2, e⟩ | ⟨a, e⟩
      · refine Or.inl ⟨j, by omega, by omega, c, fun i h1 h2 => ?_, e⟩
        by_cases hi : i = k
        · rw [hi]; exact hp
        · exact d2 i (by omega) h2
      · refine Or.inr ⟨fun i h1 h2 => ?_, e⟩
        by_cases hi : i = k
        · rw [hi]; exact hp
        · exact a i (by omega) (by omega)
def ltT (T : Nat → Nat) (q : Nat) : Nat → Nat := fun j => T (q + j)
theorem nm_eq {R T : Nat → Nat} {L q k : Nat} (N : 1 ≤ R (71 + k) ∧ R (71 + k) ≤ 8 ∧ ∀ j, j < R (71 + k) → 97 ≤ nmF R k j ∧ nmF R k j ≤ 122) (h2 : kdT T L q = 2) : (lqI (paF (nmF R k) (R (71 + k))) = lqI (paT T q (enT T L q - q))) ↔ nmE R (enT T L q - q) (ltT T q) k = true := by
  have k8 := (kd_2 h2).2.2
  have lt := kd2_let h2
  have b1 := pk8 (f := ltT T q) k8 (fun j hj => by have := lt j hj; unfold ltT; omega)
  have b2 := pk8 (f := nmF R k) N.2.1 (fun j hj => by have := N.2.2 j hj; omega)
  rw [paT_F, show (fun j => T (q + j)) = ltT T q from rfl, lqI_inj b2 b1]
  constructor
  · intro e
    have := paF_inj _ _ (fun j hj => by have := N.2.2 j hj; omega) (fun j hj => by have := lt j hj; unfold ltT; omega) e
    exact decide_eq_true ⟨N.1, this.1, fun j hj => this.2 j (by omega)⟩
  · intro e
    have e := of_decide_eq_true e
    rw [e.2.1]
    exact paF_ext _ (fun j hj => e.2.2 j hj)
theorem nmE_H {R f : Nat → Nat} {m k : Nat} (N : NmI R) (hk : k < 10) (e : nmE R m f k = true) : nmH R k := by
  by_cases h : nmH R k
  · exact h
  · have := N.2.2.2.1 k hk h
    have := (of_decide_eq_true e).1
    omega
theorem nI_n0 (j : Nat) (hj : j < 2 ^ 31) : ¬ nI j < (0 : Int32) := fun z => absurd ((nI_ltI hj (by decide)).1 (z : nI j < nI 0)) (Nat.not_lt_zero _)
theorem m1n (j : Nat) (hj : j < 2 ^ 31) : ¬ nI j = (-1 : Int32) := fun z => (nI_eq_neg hj (by decide) (by decide)).1 z
theorem t_col38 {h : AH} {n : Nat} (B : Bad h n) (o v : Int32) : jR_readColour_38 o v h = some (v, adH h) := by
  have e : jR_readColour_48 o v h = some (v, adH h) := by
    rw [jR_readColour_48, bad_fail B, obind, jbn]
    split <;> rfl
  rw [jR_readColour_38, bad_fail B, obind, e]
  split <;> rfl
theorem t_hand38 {h : AH} {n : Nat} (B : Bad h n) (v : Int32) : jR_readHand_38 v h = some (v, adH h) := by
  rw [jR_readHand_38, bad_fail B, obind, jbn]
  split <;> rfl
theorem t_new60 {h : AH} {n : Nat} (B : Bad h n) (o : Int32) (v : Int64) : jR_readNewName_60 o v h = some (v, adH h) := by
  rw [jR_readNewName_60, bad_fail B, obind, jbn]
  split <;> rfl
theorem t_new31 {h : AH} {n : Nat} (B : Bad h n) (o : Int32) (v : Int64) {r1 r2 : Int32} (e1 : jB_colourNamed h (gB h 2).toNat v = some r1) (e2 : jB_handNamed h (gB h 2).toNat v = some r2) : jR_readNewName_31 o v h = some (v, adH h) := by
  have e55 : jR_readNewName_55 o v h = some (v, adH h) := by rw [jR_readNewName_55, bad_fail B, obind, t_new60 B]
  rw [jR_readNewName_31, e1, obind, e2, obind, e55, t_new60 B]
  split
  · split <;> rfl
  · rfl
section
variable {hc hm : AH} {T R : Nat → Nat} {L n i : Nat}
theorem RG_bad (G : RG hc hm T L n i) (hL : L ≤ 900) {f : Nat} (hf : 1 ≤ f ∧ f ≤ 6) : Bad (flH hc f) n := (RG_fail (f := f) G hf).bad hL
/-- both at a word that is a name: the model's search -/
theorem p_find (G : RG hc hm T L n i) (NM : NmM hm R) (N : NmI R) (h2 : kdT T L (tS T L i) = 2) : jM_find hm = some (fndL (nmE R (enT T L (tS T L i) - tS T L i) (ltT T (tS T L i))) 10 0) := by
  obtain ⟨C, e5, hi, e0, P, M, e13⟩ := G
  have lt := kd2_let h2
  rw [← fndIL]
  exact m_find NM N.2.2.2.2.2 (M.2.2.2.1 h2).1 (kd_2 h2).2.2 (fun j hj => (M.2.2.2.1 h2).2 j hj) (fun j hj => by have := lt j hj; unfold ltT; omega)
theorem isN_2 {q : Nat} (h : isN T L q = true) : kdT T L q = 2 := of_decide_eq_true (by unfold isN at h; exact (Bool.and_eq_true_iff.1 h).1)
theorem wrH_13 (h : AH) (f q : Nat) : ¬ gI (wrH h f q) 32 0 13 = 0 := by
  unfold wrH
  rw [gI_uI_n (by omega), gI_uI_n (by omega), gI_uI_s]
  decide
theorem m_named45 (G : RG hc hm T L n i) (v r : Int32) : jM_named_45 v r hm = some (0, wrH hm 2 (tS T L i)) := by
  obtain ⟨C, e5, hi, e0, P, M, e13⟩ := G
  rw [jM_named_45, M.1, show jM_wrong hm 2 (nI (tS T L i)) = _ from m_wrong_t e13 2 _, obind, jM_named_54, if_neg (wrH_13 _ _ _)]
theorem p_col (hL : L ≤ 900) (G : RG hc hm T L n i) (NC : NmC hc (gB hc 2).toNat R) (NM : NmM hm R) (N : NmI R) : (∃ c, c < R 4 ∧ jM_named hm 1 = some (nI c, hm) ∧ jR_readColour hc 0 = some (nI c, adH hc) ∧ jR_readColour hc 1 = some (nI c, adH (flH hc 5)) ∧ i < n) ∨ (∃ f, 1 ≤ f ∧ f ≤ 6 ∧ jM_named hm 1 = some (0, wrH hm f (tS T L i)) ∧ ∀ o, ∃ u, jR_readColour hc o = some (u, adH (flH hc f))) := by
  have G0 := G
  obtain ⟨C, e5, hi, e0, P, M, e13⟩ := G0
  generalize hV : gL hc 20 0 i = V at *
  have eC : ∀ o, jR_readColour hc o = if bI (isN T L (tS T L i)) = 0 then (jR_fail hc 1).bind fun h4 => jR_readColour_38 o (fndL (fun k => decide (lqI (paF (nmF R k) (R (71 + k))) = V)) (R 4) 0) h4 else jR_readColour_38 o (fndL (fun k => decide (lqI (paF (nmF R k) (R (71 + k))) = V)) (R 4) 0) hc := by
    intro o
    rw [jR_readColour, e5, c_valueOf C hL hi, hV, obind, c_colourNamed NC.1 N.1 (fun k hk => NC.2.2.1 k hk), obind, c_isName C hL hi, obind]
  cases hN : isN T L (tS T L i) with
  | false =>
    refine Or.inr ⟨1, by omega, by omega, ?_, fun o => ⟨_, by rw [eC, hN, if_pos bI_f, show jR_fail hc 1 = _ from c_fail_t e0 1, obind, t_col38 (RG_bad G hL (by omega))]⟩⟩
    rw [jM_named, if_pos (show gI hm 32 0 13 = 0 from e13), m_mustName M e13, obind, hN, if_neg Bool.false_ne_true, if_neg (wrH_13 _ _ _)]
  | true =>
    have h2 := isN_2 hN
    have hfi := p_find G NM N h2
    have hP : ∀ k, k < R 4 → (decide (lqI (paF (nmF R k) (R (71 + k))) = V) = true ↔ nmE R (enT T L (tS T L i) - tS T L i) (ltT T (tS T L i)) k = true) := by
      intro k hk
      rw [← hV, (C.2.2.1 i hi).2.2.1 h2, decide_eq_true_iff]
      exact nm_eq (N.2.2.1 k (by have := N.1; omega) (Or.inl hk)) h2
    have hpH : ∀ k, k < 10 → nmE R (enT T L (tS T L i) - tS T L i) (ltT T (tS T L i)) k = true → nmH R k := fun k hk e => nmE_H N hk e
    generalize nmE R (enT T L (tS T L i) - tS T L i) (ltT T (tS T L i)) = p at hfi hP hpH
    have eN : jM_named hm 1 = (if fndL p 10 0 < 0 then jM_named_45 1 (fndL p 10 0) hm else (if fndL p 10 0 < 5 then jM_named_42 1 (fndL p 10 0) 1 1 hm else jM_named_42 1 (fndL p 10 0) 0 1 hm)) := by
      rw [jM_named, if_pos (show gI hm 32 0 13 = 0 from e13), m_mustName M e13, obind, hN, if_pos rfl, if_pos (show gI hm 32 0 13 = 0 from e13), hfi, obind]
    have n1 := N.1
    rcases fndL_or (fun k => decide (lqI (paF (nmF R k) (R (71 + k))) = V)) (R 4) 0 with ⟨j, a1, a2, a3, a4, a5⟩ | ⟨a4, a5⟩
    · have pj := (hP j (by omega)).1 a3
      obtain ⟨j2, b1, b2, b3, b4, b5⟩ := (fndL_or p 10 0).resolve_right (fun z => by rw [z.1 j (by omega) (by omega)] at pj; cases pj)
      have hj : j2 = j := by
        rcases Nat.lt_trichotomy j2 j with h | h | h
        · have := (hP j2 (by omega)).2 b3
          rw [a4 j2 (by omega) h] at this
          cases this
        · exact h
        · rw [b4 j (by omega) h] at pj
          cases pj
      rw [hj] at b5
      refine Or.inl ⟨j, by omega, ?_, ?_, ?_, kd_in C hi (by rw [h2]; decide)⟩
      · rw [eN, b5, if_neg (nI_n0 j (by omega)), if_pos (show nI j < 5 from (nI_ltI (by omega) (by decide)).2 (show j < 5 by omega)), jM_named_42, if_pos rfl, jM_named_54, if_pos (show gI hm 32 0 13 = 0 from e13), if_neg (by decide)]
      · rw [eC, hN, if_neg bI_t, a5, jR_readColour_38, if_neg (m1n j (by omega)), jR_readColour_48, if_pos rfl, jbn]; rfl
      · rw [eC, hN, if_neg bI_t, a5, jR_readColour_38, if_neg (m1n j (by omega)), jR_readColour_48, if_neg (by decide), show jR_fail hc 5 = _ from c_fail_t e0 5, obind, jbn]; rfl
    · refine Or.inr ⟨2, by omega, by omega, ?_, fun o => ⟨-1, ?_⟩⟩
      · rw [eN, m_named45 G]
        rcases fndL_or p 10 0 with ⟨j2, b1, b2, b3, b4, b5⟩ | ⟨_, b5⟩
        · have hH := hpH j2 (by omega) b3
          have h5 : 5 ≤ j2 := by
            rcases hH with h | h
            · have := (hP j2 h).2 b3
              rw [a4 j2 (by omega) (by omega)] at this
              cases this
            · exact h.1
          rw [b5, if_neg (nI_n0 j2 (by omega)), if_neg (show ¬ nI j2 < 5 from fun z => by have := (nI_ltI (by omega) (show 5 < 2 ^ 31 by decide)).1 (z : nI j2 < nI 5); omega), jM_named_42, if_neg (by decide), m_named45 G]
        · rw [b5, if_pos (by decide)]
      · rw [eC, hN, if_neg bI_t, a5, jR_readColour_38, if_pos rfl, show jR_fail hc 2 = _ from c_fail_t e0 2, obind]
        have B := RG_bad G hL (f := 2) (by omega)
        rw [jR_readColour_48, bad_fail B, obind, jbn]
        split <;> rfl
theorem p_hand (hL : L ≤ 900) (G : RG hc hm T L n i) (NC : NmC hc (gB hc 2).toNat R) (NM : NmM hm R) (N : NmI R) : (∃ c, c < R 5 ∧ jM_named hm 0 = some (nI c, hm) ∧ jR_readHand hc = some (nI c, adH hc) ∧ i < n) ∨ (∃ f, 1 ≤ f ∧ f ≤ 6 ∧ jM_named hm 0 = some (0, wrH hm f (tS T L i)) ∧ ∃ u, jR_readHand hc = some (u, adH (flH hc f))) := by
  have G0 := G
  obtain ⟨C, e5, hi, e0, P, M, e13⟩ := G0
  generalize hV : gL hc 20 0 i = V at *
  have eC : jR_readHand hc = if bI (isN T L (tS T L i)) = 0 then (jR_fail hc 1).bind fun h4 => jR_readHand_38 (fndL (fun k => decide (lqI (paF (nmF R (5 + k)) (R (71 + (5 + k)))) = V)) (R 5) 0) h4 else jR_readHand_38 (fndL (fun k => decide (lqI (paF (nmF R (5 + k)) (R (71 + (5 + k)))) = V)) (R 5) 0) hc := by
    rw [jR_readHand, e5, c_valueOf C hL hi, hV, obind, c_handNamed NC.2.1 N.2.1 (fun k hk => NC.2.2.2 k hk), obind, c_isName C hL hi, obind]
  cases hN : isN T L (tS T L i) with
  | false =>
    refine Or.inr ⟨1, by omega, by omega, ?_, ⟨_, by rw [eC, hN, if_pos bI_f, show jR_fail hc 1 = _ from c_fail_t e0 1, obind, t_hand38 (RG_bad G hL (by omega))]⟩⟩
    rw [jM_named, if_pos (show gI hm 32 0 13 = 0 from e13), m_mustName M e13, obind, hN, if_neg Bool.false_ne_true, if_neg (wrH_13 _ _ _)]
  | true =>
    have h2 := isN_2 hN
    have hfi := p_find G NM N h2
    have n1 := N.1
    have n2 := N.2.1
    have hP : ∀ k, k < R 5 → (decide (lqI (paF (nmF R (5 + k)) (R (71 + (5 + k)))) = V) = true ↔ nmE R (enT T L (tS T L i) - tS T L i) (ltT T (tS T L i)) (5 + k) = true) := by
      intro k hk
      rw [← hV, (C.2.2.1 i hi).2.2.1 h2, decide_eq_true_iff]
      exact nm_eq (N.2.2.1 (5 + k) (by omega) (Or.inr ⟨by omega, by omega⟩)) h2
    have hpH : ∀ k, k < 10 → nmE R (enT T L (tS T L i) - tS T L i) (ltT T (tS T L i)) k = true → nmH R k := fun k hk e => nmE_H N hk e
    have hdis : ∀ c d, c < R 4 → d < R 5 → nmE R (enT T L (tS T L i) - tS T L i) (ltT T (tS T L i)) c = true → ¬ nmE R (enT T L (tS T L i) - tS T L i) (ltT T (tS T L i)) (5 + d) = true := by
      intro c d h1 h3 e1 e2
      have e1 := of_decide_eq_true e1
      have e2 := of_decide_eq_true e2
      exact N.2.2.2.2.1 c d h1 h3 ⟨e1.2.1.trans e2.2.1.symm, fun j hj => (e1.2.2 j (by omega)).trans (e2.2.2 j (by omega)).symm⟩
    generalize nmE R (enT T L (tS T L i) - tS T L i) (ltT T (tS T L i)) = p at hfi hP hpH hdis
    have eN : jM_named hm 0 = (if fndL p 10 0 < 0 then jM_named_45 0 (fndL p 10 0) hm else (if fndL p 10 0 < 5 then jM_named_42 0 (fndL p 10 0) 1 0 hm else jM_named_42 0 (fndL p 10 0) 0 0 hm)) := by
      rw [jM_named, if_pos (show gI hm 32 0 13 = 0 from e13), m_mustName M e13, obind, hN, if_pos rfl, if_pos (show gI hm 32 0 13 = 0 from e13), hfi, obind]
    rcases fndL_or (fun k => decide (lqI (paF (nmF R (5 + k)) (R (71 + (5 + k)))) = V)) (R 5) 0 with ⟨j, a1, a2, a3, a4, a5⟩ | ⟨a4, a5⟩
    · have pj := (hP j (by omega)).1 a3
      obtain ⟨j2, b1, b2, b3, b4, b5⟩ := (fndL_or p 10 0).resolve_right (fun z => by rw [z.1 (5 + j) (by omega) (by omega)] at pj; cases pj)
      have hj : j2 = 5 + j := by
        rcases Nat.lt_trichotomy j2 (5 + j) with h | h | h
        · rcases hpH j2 (by omega) b3 with q | q
          · exact absurd pj (hdis j2 j q (by omega) b3)
          · have := (hP (j2 - 5) (by omega)).2 (by rw [show 5 + (j2 - 5) = j2 by omega]; exact b3)
            rw [a4 (j2 - 5) (by omega) (by omega)] at this
            cases this
        · exact h
        · rw [b4 (5 + j) (by omega) h] at pj
          cases pj
      rw [hj] at b5
      refine Or.inl ⟨j, by omega, ?_, ?_, kd_in C hi (by rw [h2]; decide)⟩
      · rw [eN, b5, if_neg (nI_n0 (5 + j) (by omega)), if_neg (show ¬ nI (5 + j) < 5 from fun z => by have := (nI_ltI (by omega) (show 5 < 2 ^ 31 by decide)).1 (z : nI (5 + j) < nI 5); omega), jM_named_42, if_pos rfl, jM_named_54, if_pos (show gI hm 32 0 13 = 0 from e13), if_pos rfl, show nI (5 + j) - 5 = nI (5 + j - 5) from pk_sub (show 5 ≤ 5 + j by omega), show 5 + j - 5 = j by omega]
      · rw [eC, hN, if_neg bI_t, a5, jR_readHand_38, if_neg (m1n j (by omega)), jbn]; rfl
    · refine Or.inr ⟨2, by omega, by omega, ?_, ⟨-1, ?_⟩⟩
      · rw [eN, m_named45 G]
        rcases fndL_or p 10 0 with ⟨j2, b1, b2, b3, b4, b5⟩ | ⟨_, b5⟩
        · have hH := hpH j2 (by omega) b3
          have h5 : j2 < 5 := by
            rcases hH with h | h
            · omega
            · have := (hP (j2 - 5) (by omega)).2 (by rw [show 5 + (j2 - 5) = j2 by omega]; exact b3)
              rw [a4 (j2 - 5) (by omega) (by omega)] at this
              cases this
          rw [b5, if_neg (nI_n0 j2 (by omega)), if_pos (show nI j2 < 5 from (nI_ltI (by omega) (by decide)).2 h5), jM_named_42, if_neg (by decide), m_named45 G]
        · rw [b5, if_pos (by decide)]
      · rw [eC, hN, if_neg bI_t, a5, jR_readHand_38, if_pos rfl, show jR_fail hc 2 = _ from c_fail_t e0 2, obind, jbn]; rfl
theorem p_new (hL : L ≤ 900) (G : RG hc hm T L n i) (NC : NmC hc (gB hc 2).toNat R) (NM : NmM hm R) (N : NmI R) : (kdT T L (tS T L i) = 2 ∧ (∀ k, k < 10 → nmE R (enT T L (tS T L i) - tS T L i) (ltT T (tS T L i)) k = false) ∧ jM_mustBeNew hm = some hm ∧ jR_readNewName hc 0 = some (lqI (paF (ltT T (tS T L i)) (enT T L (tS T L i) - tS T L i)), adH hc) ∧ (∃ u, jR_readNewName hc 1 = some (u, adH (flH hc 5))) ∧ i < n) ∨ (∃ f, 1 ≤ f ∧ f ≤ 6 ∧ jM_mustBeNew hm = some (wrH hm f (tS T L i)) ∧ ∀ o, ∃ u, jR_readNewName hc o = some (u, adH (flH hc f))) := by
  have G0 := G
  obtain ⟨C, e5, hi, e0, P, M, e13⟩ := G0
  generalize hV : gL hc 20 0 i = V at *
  have n1 := N.1
  have n2 := N.2.1
  have eA : ∀ h, NmC h (gB h 2).toNat R → jB_colourNamed h (gB h 2).toNat V = some (fndL (fun k => decide (lqI (paF (nmF R k) (R (71 + k))) = V)) (R 4) 0) ∧ jB_handNamed h (gB h 2).toNat V = some (fndL (fun k => decide (lqI (paF (nmF R (5 + k)) (R (71 + (5 + k)))) = V)) (R 5) 0) := fun h N2 => ⟨c_colourNamed N2.1 N.1 (fun k hk => N2.2.2.1 k hk), c_handNamed N2.2.1 N.2.1 (fun k hk => N2.2.2.2 k hk)⟩
  have eC : ∀ o, jR_readNewName hc o = if bI (isN T L (tS T L i)) = 0 then (jR_fail hc 1).bind fun h3 => jR_readNewName_31 o V h3 else jR_readNewName_31 o V hc := by
    intro o
    rw [jR_readNewName, e5, c_valueOf C hL hi, hV, obind, c_isName C hL hi, obind]
  cases hN : isN T L (tS T L i) with
  | false =>
    refine Or.inr ⟨1, by omega, by omega, ?_, fun o => ⟨V, ?_⟩⟩
    · rw [jM_mustBeNew, m_mustName M e13, obind, hN, if_neg Bool.false_ne_true, if_neg (wrH_13 _ _ _)]
    · have NC2 : NmC (flH hc 1) (gB (flH hc 1) 2).toNat R := NmC_r NC (FcR_f hc 1)
      rw [eC, hN, if_pos bI_f, show jR_fail hc 1 = _ from c_fail_t e0 1, obind, t_new31 (RG_bad G hL (by omega)) o V (eA _ NC2).1 (eA _ NC2).2]
  | true =>
    have h2 := isN_2 hN
    have hfi := p_find G NM N h2
    have hP4 : ∀ k, k < R 4 → (decide (lqI (paF (nmF R k) (R (71 + k))) = V) = true ↔ nmE R (enT T L (tS T L i) - tS T L i) (ltT T (tS T L i)) k = true) := by
      intro k hk
      rw [← hV, (C.2.2.1 i hi).2.2.1 h2, decide_eq_true_iff]
      exact nm_eq (N.2.2.1 k (by omega) (Or.inl hk)) h2
    have hP : ∀ k, k < R 5 → (decide (lqI (paF (nmF R (5 + k)) (R (71 + (5 + k)))) = V) = true ↔ nmE R (enT T L (tS T L i) - tS T L i) (ltT T (tS T L i)) (5 + k) = true) := by
      intro k hk
      rw [← hV, (C.2.2.1 i hi).2.2.1 h2, decide_eq_true_iff]
      exact nm_eq (N.2.2.1 (5 + k) (by omega) (Or.inr ⟨by omega, by omega⟩)) h2
    have hpH : ∀ k, k < 10 → nmE R (enT T L (tS T L i) - tS T L i) (ltT T (tS T L i)) k = true → nmH R k := fun k hk e => nmE_H N hk e
    have hVf : V = lqI (paF (ltT T (tS T L i)) (enT T L (tS T L i) - tS T L i)) := by
      rw [← hV, (C.2.2.1 i hi).2.2.1 h2, paT_F]; rfl
    generalize nmE R (enT T L (tS T L i) - tS T L i) (ltT T (tS T L i)) = p at hfi hP hP4 hpH
    have e31 : ∀ o, jR_readNewName hc o = jR_readNewName_31 o V hc := fun o => by rw [eC, hN, if_neg bI_t]
    have e55 : ∀ o, jR_readNewName_55 o V hc = some (V, adH (flH hc 3)) := fun o => by
      rw [jR_readNewName_55, show jR_fail hc 3 = _ from c_fail_t e0 3, obind, t_new60 (RG_bad G hL (by omega))]
    have eN : jM_mustBeNew hm = (if fndL p 10 0 < 0 then some hm else (jM_wrong hm 3 (gI hm 32 0 4)).bind fun h3 => some h3) := by
      rw [jM_mustBeNew, m_mustName M e13, obind, hN, if_pos rfl, if_pos (show gI hm 32 0 13 = 0 from e13), hfi, obind]
    have eF : ∀ j, j < 10 → p j = true → jM_mustBeNew hm = some (wrH hm 3 (tS T L i)) := by
      intro j hj pj
      obtain ⟨j2, b1, b2, b3, b4, b5⟩ := (fndL_or p 10 0).resolve_right (fun z => by rw [z.1 j (by omega) (by omega)] at pj; cases pj)
      rw [eN, b5, if_neg (nI_n0 j2 (by omega)), M.1, show jM_wrong hm 3 (nI (tS T L i)) = _ from m_wrong_t e13 3 _, obind]
    rcases fndL_or (fun k => decide (lqI (paF (nmF R k) (R (71 + k))) = V)) (R 4) 0 with ⟨j, a1, a2, a3, a4, a5⟩ | ⟨a4, a5⟩
    · refine Or.inr ⟨3, by omega, by omega, eF j (by omega) ((hP4 j (by omega)).1 a3), fun o => ⟨V, ?_⟩⟩
      rw [e31, jR_readNewName_31, (eA hc NC).1, obind, a5, if_neg (m1n j (by omega)), e55]
    · rcases fndL_or (fun k => decide (lqI (paF (nmF R (5 + k)) (R (71 + (5 + k)))) = V)) (R 5) 0 with ⟨j, c1, c2, c3, c4, c5⟩ | ⟨c4, c5⟩
      · refine Or.inr ⟨3, by omega, by omega, eF (5 + j) (by omega) ((hP j (by omega)).1 c3), fun o => ⟨V, ?_⟩⟩
        rw [e31, jR_readNewName_31, (eA hc NC).1, obind, a5, if_pos rfl, (eA hc NC).2, obind, c5, if_neg (m1n j (by omega)), e55]
      · have none_ : ∀ k, k < 10 → p k = false := by
          intro k hk
          cases hpk : p k with
          | false => rfl
          | true =>
            rcases hpH k hk hpk with q | q
            · have := (hP4 k q).2 hpk
              rw [a4 k (by omega) (by omega)] at this
              cases this
            · have := (hP (k - 5) (by omega)).2 (by rw [show 5 + (k - 5) = k by omega]; exact hpk)
              rw [c4 (k - 5) (by omega) (by omega)] at this
              cases this
        refine Or.inl ⟨h2, none_, ?_, ?_, ⟨V, ?_⟩, kd_in C hi (by rw [h2]; decide)⟩
        · rcases fndL_or p 10 0 with ⟨j2, b1, b2, b3, b4, b5⟩ | ⟨_, b5⟩
          · rw [none_ j2 (by omega)] at b3
            cases b3
          · rw [eN, b5, if_pos (by decide)]
        · rw [← hVf, e31, jR_readNewName_31, (eA hc NC).1, obind, a5, if_pos rfl, (eA hc NC).2, obind, c5, if_pos rfl, jR_readNewName_60, if_pos rfl, jbn]; rfl
        · rw [e31, jR_readNewName_31, (eA hc NC).1, obind, a5, if_pos rfl, (eA hc NC).2, obind, c5, if_pos rfl, jR_readNewName_60, if_neg (by decide), show jR_fail hc 5 = _ from c_fail_t e0 5, obind, jbn]; rfl
end
