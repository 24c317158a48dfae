/-! ===== pure: the model's token ===== -/
def FzX (h h' : AH) : Prop := (∀ k i j, ¬ (k = 32 ∧ (j = 4 ∨ j = 5 ∨ j = 6 ∨ j = 7 ∨ j = 8)) → k ≠ 34 → gI h' k i j = gI h k i j) ∧ h'.2 = h.2
theorem FzX.trans {a b c : AH} (h1 : FzX a b) (h2 : FzX b c) : FzX a c := ⟨fun k i j x y => (h2.1 k i j x y).trans (h1.1 k i j x y), h2.2.trans h1.2⟩
theorem FzN.x {a b : AH} (h : FzN a b) : FzX a b := ⟨fun k i j x y => h.1 k i j (fun z => x ⟨z.1, by omega⟩) y, h.2⟩
theorem FzX_u (h : AH) {j : Nat} (hj : j = 4 ∨ j = 5 ∨ j = 6 ∨ j = 7 ∨ j = 8) (v : Int32) : FzX h (uI h 32 0 j v) := ⟨fun k i c x _ => gI_uI_n (fun z => x ⟨z.1, by rw [z.2.2]; exact hj⟩), rfl⟩
theorem MTp_x {h h' : AH} {T : Nat → Nat} {L : Nat} (P : MTp h T L) (F : FzX h h') : MTp h' T L := ⟨(F.1 32 0 3 (by omega) (by decide)).trans P.1, fun i hi => (F.1 33 0 i (by omega) (by decide)).trans (P.2.1 i hi), (F.1 32 0 9 (by omega) (by decide)).trans P.2.2⟩
def edT (T : Nat → Nat) (L q : Nat) : Nat := if q < L then enT T L q else L
def MTk (h : AH) (T : Nat → Nat) (L q : Nat) : Prop :=
  gI h 32 0 4 = nI q ∧ gI h 32 0 5 = nI (edT T L q) ∧ gI h 32 0 6 = nI (kmT (kdT T L q))
  ∧ (kdT T L q = 2 → gI h 32 0 8 = nI (enT T L q - q) ∧ ∀ j, j < enT T L q - q → gI h 34 0 j = nI (T (q + j)))
  ∧ (kdT T L q = 3 → gI h 32 0 7 = nI (nuT T q (enT T L q - q)))
theorem skp_b {T : Nat → Nat} {L e : Nat} (he : e ≤ L) : e ≤ skp T L e ∧ skp T L e ≤ L := by
  have := rnE_b (fun p => decide (T p = 32)) (L - e) e
  unfold skp
  omega
theorem skp_stop {T : Nat → Nat} {L e : Nat} (he : e ≤ L) (h : skp T L e < L) : T (skp T L e) ≠ 32 := by
  have h1 := rnE_end (fun p => decide (T p = 32)) (L - e) e (by unfold skp at h; omega)
  exact of_decide_eq_false h1
theorem skp_in {T : Nat → Nat} {L e q : Nat} (h1 : e ≤ q) (h2 : q < skp T L e) : T q = 32 := of_decide_eq_true (rnE_in (fun p => decide (T p = 32)) (L - e) e q h1 h2)
theorem en_oth {T : Nat → Nat} {L q : Nat} (h1 : sml (T q) = false) (h2 : dgt (T q) = false) : enT T L q = q + 1 := by
  unfold enT
  have : rnE (fun p => sam (T q) (T p)) (L - (q + 1)) (q + 1) = rnE (fun _ => false) (L - (q + 1)) (q + 1) := rnE_ext _ _ (fun p _ _ => by show sam (T q) (T p) = false; unfold sam; rw [h1, h2, Bool.false_and, Bool.false_and]; rfl)
  rw [this]
  cases e : L - (q + 1) with
  | zero => rfl
  | succ n => rw [rnE, if_neg (by decide)]
theorem m_next21 {T : Nat → Nat} {L q : Nat} (hb : ∀ i, T i < 256) (hL : L ≤ 900) (hq : q ≤ L) {h : AH} (P : MTp h T L) : ∃ h', jM_next_21 (nI q) h = some h' ∧ FzX h h' ∧ MTk h' T L q := by
  have F1 := FzX_u h (j := 4) (by omega) (nI q)
  have F2 := F1.trans (FzX_u _ (j := 8) (by omega) (nI 0))
  have F3 := F2.trans (FzX_u _ (j := 7) (by omega) (nI 0))
  have P1 := MTp_x P F1
  have P3 := MTp_x P F3
  have e4 : gI (uI (uI (uI h 32 0 4 (nI q)) 32 0 8 (nI 0)) 32 0 7 (nI 0)) 32 0 4 = nI q := by rw [gI_uI_n (by omega), gI_uI_n (by omega), gI_uI_s]
  have e8 : gI (uI (uI (uI h 32 0 4 (nI q)) 32 0 8 (nI 0)) 32 0 7 (nI 0)) 32 0 8 = nI 0 := by rw [gI_uI_n (by omega), gI_uI_s]
  have e7 : gI (uI (uI (uI h 32 0 4 (nI q)) 32 0 8 (nI 0)) 32 0 7 (nI 0)) 32 0 7 = nI 0 := gI_uI_s _ _ _ _ _
  generalize hg : uI (uI (uI h 32 0 4 (nI q)) 32 0 8 (nI 0)) 32 0 7 (nI 0) = g at F3 P3 e4 e8 e7
  rw [jM_next_21, jbn]
  by_cases hqL : q < L
  · have he := enT_b (T := T) hqL
    have ed : edT T L q = enT T L q := if_pos hqL
    rw [m_look_t P1 hL hqL, obind, jbn, jbn]
    change ∃ h', (if nI (T q) = -1 then _ else (jM_isSmall (nI (T q))).bind _) = some h' ∧ _
    rw [show (0 : Int32) = nI 0 from rfl, hg, if_neg (show ¬ nI (T q) = -1 from fun z => (nI_eq_neg (Nat.lt_trans (hb q) (by decide)) (by decide) (by decide)).1 (z : nI (T q) = -nI 1)), m_small _ (hb q), obind]
    cases h1 : sml (T q) with
    | true =>
      obtain ⟨h', q1, q2, q3, q4, q5, q6⟩ := m_word hb hL hqL h1 (enT T L q - q) q g (by omega) (Nat.le_refl _) P3 (by rw [Nat.sub_self]; exact e8) (fun j j1 j2 => absurd j2 (by omega)) FU (by unfold FU; omega)
      have kd : kdT T L q = if enT T L q - q ≤ 8 then 2 else 0 := by unfold kdT; rw [if_neg (by omega), if_pos h1]
      rw [if_neg (show ¬ bI true = nI 0 by decide)]
      refine ⟨h', q1, F3.trans q2.x, (q2.1 32 0 4 (by omega) (by decide)).trans e4, by rw [ed]; exact q3, ?_, fun z => ⟨q5, fun j hj => q6 j ?_ hj⟩, fun z => ?_⟩
      · rw [q4, kd]
        split <;> rfl
      · have := (kd_2 z).2.2; omega
      · rw [kd] at z; split at z <;> omega
    | false =>
      rw [if_pos (show bI false = nI 0 by decide), m_digit _ (hb q), obind]
      cases h2 : dgt (T q) with
      | true =>
        obtain ⟨h', q1, q2, q3, q4, q5⟩ := m_num hb hL hqL h2 (enT T L q - q) q g (by omega) (Nat.le_refl _) P3 (by rw [Nat.sub_self]; exact e7) FU (by unfold FU; omega)
        have kd : kdT T L q = if enT T L q - q ≤ 3 then 3 else 0 := by unfold kdT; rw [if_neg (by omega), if_neg (by rw [h1]; decide), if_pos h2]
        rw [Nat.sub_self] at q1
        rw [if_neg (show ¬ bI true = nI 0 by decide)]
        refine ⟨h', q1, F3.trans q2.x, (q2.1 32 0 4 (by omega) (by decide)).trans e4, by rw [ed]; exact q3, ?_, fun z => ?_, fun z => ?_⟩
        · rw [q4, kd]
          split <;> rfl
        · rw [kd] at z; split at z <;> omega
        · have := (kd_3 z).2.2
          rw [q5, Nat.min_eq_right this]
      | false =>
        have en1 := en_oth (L := L) h1 h2
        have kd : kdT T L q = if T q = 59 then 4 else if T q = 44 then 5 else 0 := by unfold kdT; rw [if_neg (by omega), if_neg (by rw [h1]; decide), if_neg (by rw [h2]; decide)]
        have kk : kdT T L q ≠ 2 ∧ kdT T L q ≠ 3 := by
          rw [kd]
          split
          · omega
          · split <;> omega
        rw [if_pos (show bI false = nI 0 by decide), jbn, show nI q + 1 = nI (q + 1) from nI_add q 1]
        have fin : ∀ v, v = nI (kmT (kdT T L q)) → FzX h (uI (uI g 32 0 5 (nI (q + 1))) 32 0 6 v) ∧ MTk (uI (uI g 32 0 5 (nI (q + 1))) 32 0 6 v) T L q := by
          intro v hv
          refine ⟨(F3.trans (FzX_u g (j := 5) (by omega) _)).trans (FzX_u _ (j := 6) (by omega) _), ?_, ?_, ?_, fun z => absurd z kk.1, fun z => absurd z kk.2⟩
          · rw [gI_uI_n (by omega), gI_uI_n (by omega)]; exact e4
          · rw [gI_uI_n (by omega), gI_uI_s, ed, en1]
          · rw [gI_uI_s]; exact hv
        by_cases h59 : T q = 59
        · refine ⟨_, ?_, fin (nI (T q)) (by rw [kd, if_pos h59, h59]; rfl)⟩
          rw [if_pos (show nI (T q) = 59 by rw [h59]; rfl), jbn]
        · rw [if_neg (show ¬ nI (T q) = 59 from fun z => h59 ((nI_eq (Nat.lt_trans (hb q) (by decide)) (by decide)).1 (z : nI (T q) = nI 59)))]
          by_cases h44 : T q = 44
          · refine ⟨_, ?_, fin (nI (T q)) (by rw [kd, if_neg h59, if_pos h44, h44]; rfl)⟩
            rw [if_pos (show nI (T q) = 44 by rw [h44]; rfl), jbn]
          · refine ⟨_, ?_, fin (nI 1) (by rw [kd, if_neg h59, if_neg h44]; rfl)⟩
            rw [if_neg (show ¬ nI (T q) = 44 from fun z => h44 ((nI_eq (Nat.lt_trans (hb q) (by decide)) (by decide)).1 (z : nI (T q) = nI 44))), jbn]
            rfl
  · have eq1 : q = L := by omega
    have ed : edT T L q = q := (if_neg hqL).trans eq1.symm
    have kd : kdT T L q = 1 := if_pos (by omega)
    rw [m_look_e P1 hL (by omega) (by omega), obind, jbn, jbn]
    rw [show (0 : Int32) = nI 0 from rfl, hg, if_pos (show -nI 1 = -1 from rfl), jbn, jbn]
    refine ⟨uI (uI g 32 0 6 (nI 0)) 32 0 5 (nI q), rfl, (F3.trans (FzX_u g (j := 6) (by omega) _)).trans (FzX_u _ (j := 5) (by omega) _), ?_, ?_, ?_, fun z => ?_, fun z => ?_⟩
    · rw [gI_uI_n (by omega), gI_uI_n (by omega)]; exact e4
    · rw [gI_uI_s, ed]
    · rw [gI_uI_n (by omega), gI_uI_s, kd]; rfl
    · rw [kd] at z; omega
    · rw [kd] at z; omega
theorem m_next {T : Nat → Nat} {L e : Nat} (hb : ∀ i, T i < 256) (hL : L ≤ 900) (he : e ≤ L) {h : AH} (P : MTp h T L) (h5 : gI h 32 0 5 = nI e) : ∃ h', jM_next h = some h' ∧ FzX h h' ∧ MTk h' T L (skp T L e) := by
  unfold jM_next
  rw [h5]
  have sb := skp_b (T := T) he
  have loop : ∀ n p, p + n = skp T L e → e ≤ p → ∀ fu, n < fu → jM_next_5 fu (nI p) h = jM_next_21 (nI (skp T L e)) h := by
    intro n
    induction n with
    | zero =>
      intro p hp hep fu hf
      obtain ⟨f, rfl⟩ : ∃ f, fu = f + 1 := ⟨fu - 1, by omega⟩
      have ep : p = skp T L e := by omega
      rw [jM_next_5]
      by_cases hpL : p < L
      · have := skp_stop he (by omega : skp T L e < L)
        rw [m_look_t P hL hpL, obind, if_neg (show ¬ nI (T p) = 32 from fun z => this (by rw [← ep]; exact (nI_eq (Nat.lt_trans (hb p) (by decide)) (by decide)).1 (z : nI (T p) = nI 32))), ep]
      · rw [m_look_e P hL (by omega) (by omega), obind, if_neg (by decide), ep]
    | succ n ih =>
      intro p hp hep fu hf
      obtain ⟨f, rfl⟩ : ∃ f, fu = f + 1 := ⟨fu - 1, by omega⟩
      have h32 := skp_in (T := T) (L := L) hep (show p < skp T L e by omega)
      rw [jM_next_5, m_look_t P hL (by omega), obind, if_pos (show nI (T p) = 32 by rw [h32]; rfl), show nI p + 1 = nI (p + 1) from nI_add p 1]
      exact ih (p + 1) (by omega) (by omega) f (by omega)
  rw [loop (skp T L e - e) e (by omega) (Nat.le_refl _) FU (by unfold FU; omega)]
  exact m_next21 hb hL sb.2 P
