/-! ===== pure: the model's next token ===== -/
def FzN (h h' : AH) : Prop := (∀ k i j, ¬ (k = 32 ∧ (j = 5 ∨ j = 6 ∨ j = 7 ∨ j = 8)) → k ≠ 34 → gI h' k i j = gI h k i j) ∧ h'.2 = h.2
theorem FzN.trans {a b c : AH} (h1 : FzN a b) (h2 : FzN b c) : FzN a c := ⟨fun k i j x y => (h2.1 k i j x y).trans (h1.1 k i j x y), h2.2.trans h1.2⟩
theorem FzN_u (h : AH) {j : Nat} (hj : j = 5 ∨ j = 6 ∨ j = 7 ∨ j = 8) (v : Int32) : FzN h (uI h 32 0 j v) := ⟨fun k i c x _ => gI_uI_n (fun z => x ⟨z.1, by rw [z.2.2]; exact hj⟩), rfl⟩
theorem FzN_l (h : AH) (j : Nat) (v : Int32) : FzN h (uI h 34 0 j v) := ⟨fun k i c _ y => gI_uI_n (fun z => y z.1), rfl⟩
def kmT (k : Nat) : Nat := if k = 0 then 1 else if k = 1 then 0 else if k = 4 then 59 else if k = 5 then 44 else k
def MTp (h : AH) (T : Nat → Nat) (L : Nat) : Prop := gI h 32 0 3 = nI L ∧ (∀ i, i < L → gI h 33 0 i = nI (T i)) ∧ gI h 32 0 9 = nI 0
theorem MTp_of {h h' : AH} {T : Nat → Nat} {L : Nat} (P : MTp h T L) (F : FzN h h') : MTp h' T L := ⟨(F.1 32 0 3 (by omega) (by decide)).trans P.1, fun i hi => (F.1 33 0 i (by omega) (by decide)).trans (P.2.1 i hi), (F.1 32 0 9 (by omega) (by decide)).trans P.2.2⟩
theorem m_look_t {h : AH} {T : Nat → Nat} {L p : Nat} (P : MTp h T L) (hL : L ≤ 900) (hp : p < L) : jM_look h (nI p) = some (nI (T p)) := by
  unfold jM_look
  rw [P.1, if_pos ((nI_ltI (by omega) (by omega)).2 hp), inb_nI (by omega) (by decide), if_pos rfl, nI_clamp (by omega), P.2.1 p hp]
theorem m_look_e {h : AH} {T : Nat → Nat} {L p : Nat} (P : MTp h T L) (hL : L ≤ 900) (hp : L ≤ p) (hp2 : p < 2 ^ 31) : jM_look h (nI p) = some (-nI 1) := by
  unfold jM_look
  rw [P.1, if_neg (fun z => by have := (nI_ltI (by omega) (by omega)).1 z; omega)]
  rfl
theorem m_small : ∀ c, c < 256 → jM_isSmall (nI c) = some (bI (sml c)) := by decide +kernel
theorem m_digit : ∀ c, c < 256 → jM_isDigit (nI c) = some (bI (dgt c)) := by decide +kernel
theorem m_small_e : jM_isSmall (-nI 1) = some 0 := by decide +kernel
theorem m_digit_e : jM_isDigit (-nI 1) = some 0 := by decide +kernel
theorem en_stop_s {T : Nat → Nat} {L q : Nat} (hq : q < L) (h : sml (T q) = true) (he : enT T L q < L) : sml (T (enT T L q)) = false := by
  have h3 : dgt (T q) = false := by
    have := of_decide_eq_true h
    exact decide_eq_false (by omega)
  have := rnE_end (fun p => sam (T q) (T p)) (L - (q + 1)) (q + 1) (by unfold enT at he; omega)
  have this : sam (T q) (T (enT T L q)) = false := this
  unfold sam at this
  rw [h, h3, Bool.true_and, Bool.false_and, Bool.or_false] at this
  exact this
theorem en_stop_d {T : Nat → Nat} {L q : Nat} (hq : q < L) (h : dgt (T q) = true) (he : enT T L q < L) : dgt (T (enT T L q)) = false := by
  have h3 : sml (T q) = false := by
    have := of_decide_eq_true h
    exact decide_eq_false (by omega)
  have := rnE_end (fun p => sam (T q) (T p)) (L - (q + 1)) (q + 1) (by unfold enT at he; omega)
  have this : sam (T q) (T (enT T L q)) = false := this
  unfold sam at this
  rw [h, h3, Bool.true_and, Bool.false_and, Bool.false_or] at this
  exact this
/-- the loop over letters -/
theorem m_word {T : Nat → Nat} {L q : Nat} (hb : ∀ i, T i < 256) (hL : L ≤ 900) (hq : q < L) (hs : sml (T q) = true) : ∀ n p (h : AH), p + n = enT T L q → q ≤ p → MTp h T L → gI h 32 0 8 = nI (p - q) → (∀ j, j < 8 → j < p - q → gI h 34 0 j = nI (T (q + j))) → ∀ fu, n < fu → ∃ h', jM_next_67 fu (nI p) h = some h' ∧ FzN h h' ∧ gI h' 32 0 5 = nI (enT T L q) ∧ gI h' 32 0 6 = nI (if enT T L q - q ≤ 8 then 2 else 1) ∧ gI h' 32 0 8 = nI (enT T L q - q) ∧ ∀ j, j < 8 → j < enT T L q - q → gI h' 34 0 j = nI (T (q + j)) := by
  have he := enT_b (T := T) hq
  intro n
  induction n with
  | zero =>
    intro p h hp hqp P h8 hl fu hf
    obtain ⟨f, rfl⟩ : ∃ f, fu = f + 1 := ⟨fu - 1, by omega⟩
    have ep : p = enT T L q := by omega
    have stop : ∃ r, jM_look h (nI p) = some r ∧ jM_isSmall r = some 0 := by
      by_cases hpL : p < L
      · refine ⟨_, m_look_t P hL hpL, ?_⟩
        rw [m_small _ (hb p), show sml (T p) = false by rw [ep]; exact en_stop_s hq hs (by omega)]
        rfl
      · exact ⟨_, m_look_e P hL (by omega) (by omega), m_small_e⟩
    obtain ⟨r, r1, r2⟩ := stop
    have e8 : gI (uI h 32 0 5 (nI p)) 32 0 8 = nI (p - q) := (gI_uI_n (by omega)).trans h8
    rw [jM_next_67, r1, obind, r2, obind, if_pos rfl, jM_next_117, jbn, e8, ← ep]
    by_cases hk : p - q ≤ 8
    · refine ⟨uI (uI h 32 0 5 (nI p)) 32 0 6 (nI 2), ?_, (FzN_u h (by omega) _).trans (FzN_u _ (by omega) _), ?_, ?_, ?_, fun j j1 j2 => ?_⟩
      · rw [if_pos (show nI (p - q) ≤ 8 from (nI_leI (by omega) (show 8 < 2 ^ 31 by decide)).2 hk), jbn]; rfl
      · rw [gI_uI_n (by omega), gI_uI_s]
      · rw [gI_uI_s, if_pos hk]
      · rw [gI_uI_n (by omega)]; exact e8
      · rw [gI_uI_n (by omega), gI_uI_n (by omega)]; exact hl j j1 j2
    · refine ⟨uI (uI h 32 0 5 (nI p)) 32 0 6 (nI 1), ?_, (FzN_u h (by omega) _).trans (FzN_u _ (by omega) _), ?_, ?_, ?_, fun j j1 j2 => ?_⟩
      · rw [if_neg (show ¬ nI (p - q) ≤ 8 from fun z => hk ((nI_leI (by omega) (show 8 < 2 ^ 31 by decide)).1 z)), jbn]; rfl
      · rw [gI_uI_n (by omega), gI_uI_s]
      · rw [gI_uI_s, if_neg hk]
      · rw [gI_uI_n (by omega)]; exact e8
      · rw [gI_uI_n (by omega), gI_uI_n (by omega)]; exact hl j j1 j2
  | succ n ih =>
    intro p h hp hqp P h8 hl fu hf
    obtain ⟨f, rfl⟩ : ∃ f, fu = f + 1 := ⟨fu - 1, by omega⟩
    have hsp := en_sml (L := L) hs p hqp (by omega)
    have lk := m_look_t P hL (show p < L by omega)
    have nx : ∀ h1, FzN h h1 → gI h1 32 0 8 = nI (p - q) → (∀ j, j < 8 → j < p + 1 - q → gI h1 34 0 j = nI (T (q + j))) → ∃ h', jM_next_101 (jM_next_67 f) (nI p) h1 = some h' ∧ FzN h h' ∧ gI h' 32 0 5 = nI (enT T L q) ∧ gI h' 32 0 6 = nI (if enT T L q - q ≤ 8 then 2 else 1) ∧ gI h' 32 0 8 = nI (enT T L q - q) ∧ ∀ j, j < 8 → j < enT T L q - q → gI h' 34 0 j = nI (T (q + j)) := by
      intro h1 F e8 el
      have F2 := F.trans (FzN_u h1 (j := 8) (by omega) (nI (p + 1 - q)))
      obtain ⟨h', q1, q2, q3⟩ := ih (p + 1) (uI h1 32 0 8 (nI (p + 1 - q))) (by omega) (by omega) (MTp_of P F2) (gI_uI_s _ _ _ _ _) (fun j j1 j2 => (gI_uI_n (by omega)).trans (el j j1 j2)) f (by omega)
      refine ⟨h', ?_, F2.trans q2, q3⟩
      rw [jM_next_101, jbn, e8, show nI (p - q) + 1 = nI (p - q + 1) from nI_add (p - q) 1, show p - q + 1 = p + 1 - q by omega, show nI p + 1 = nI (p + 1) from nI_add p 1]
      exact q1
    rw [jM_next_67, lk, obind, m_small _ (hb p), obind, hsp, if_neg (show ¬ bI true = 0 by decide), h8]
    by_cases hk : p - q < 8
    · rw [if_pos (show nI (p - q) < 8 from (nI_ltI (by omega) (show 8 < 2 ^ 31 by decide)).2 hk), obind, inb_nI hk (by decide), if_pos rfl, jbn, nI_clamp (by omega)]
      refine nx _ (FzN_l h _ _) ((gI_uI_n (by omega)).trans h8) (fun j j1 j2 => ?_)
      by_cases ej : j = p - q
      · rw [ej, gI_uI_s, show q + (p - q) = p by omega]
      · rw [gI_uI_n (by omega)]; exact hl j j1 (by omega)
    · rw [if_neg (show ¬ nI (p - q) < 8 from fun z => hk ((nI_ltI (by omega) (show 8 < 2 ^ 31 by decide)).1 z))]
      exact nx h ⟨fun _ _ _ _ _ => rfl, rfl⟩ h8 (fun j j1 j2 => hl j j1 (by omega))
/-- the loop over digits -/
theorem m_num {T : Nat → Nat} {L q : Nat} (hb : ∀ i, T i < 256) (hL : L ≤ 900) (hq : q < L) (hs : dgt (T q) = true) : ∀ n p (h : AH), p + n = enT T L q → q ≤ p → MTp h T L → gI h 32 0 7 = nI (nuT T q (min 3 (p - q))) → ∀ fu, n < fu → ∃ h', jM_next_152 fu (nI p) (nI (p - q)) h = some h' ∧ FzN h h' ∧ gI h' 32 0 5 = nI (enT T L q) ∧ gI h' 32 0 6 = nI (if enT T L q - q ≤ 3 then 3 else 1) ∧ gI h' 32 0 7 = nI (nuT T q (min 3 (enT T L q - q))) := by
  have he := enT_b (T := T) hq
  intro n
  induction n with
  | zero =>
    intro p h hp hqp P h7 fu hf
    obtain ⟨f, rfl⟩ : ∃ f, fu = f + 1 := ⟨fu - 1, by omega⟩
    have ep : p = enT T L q := by omega
    have stop : ∃ r, jM_look h (nI p) = some r ∧ jM_isDigit r = some 0 := by
      by_cases hpL : p < L
      · refine ⟨_, m_look_t P hL hpL, ?_⟩
        rw [m_digit _ (hb p), show dgt (T p) = false by rw [ep]; exact en_stop_d hq hs (by omega)]
        rfl
      · exact ⟨_, m_look_e P hL (by omega) (by omega), m_digit_e⟩
    obtain ⟨r, r1, r2⟩ := stop
    rw [jM_next_152, r1, obind, r2, obind, if_pos rfl, jM_next_197, jbn, ← ep]
    by_cases hk : p - q ≤ 3
    · refine ⟨uI (uI h 32 0 5 (nI p)) 32 0 6 (nI 3), ?_, (FzN_u h (by omega) _).trans (FzN_u _ (by omega) _), ?_, ?_, ?_⟩
      · rw [if_pos (show nI (p - q) ≤ 3 from (nI_leI (by omega) (show 3 < 2 ^ 31 by decide)).2 hk), jbn]; rfl
      · rw [gI_uI_n (by omega), gI_uI_s]
      · rw [gI_uI_s, if_pos hk]
      · rw [gI_uI_n (by omega), gI_uI_n (by omega)]; exact h7
    · refine ⟨uI (uI h 32 0 5 (nI p)) 32 0 6 (nI 1), ?_, (FzN_u h (by omega) _).trans (FzN_u _ (by omega) _), ?_, ?_, ?_⟩
      · rw [if_neg (show ¬ nI (p - q) ≤ 3 from fun z => hk ((nI_leI (by omega) (show 3 < 2 ^ 31 by decide)).1 z)), jbn]; rfl
      · rw [gI_uI_n (by omega), gI_uI_s]
      · rw [gI_uI_s, if_neg hk]
      · rw [gI_uI_n (by omega), gI_uI_n (by omega)]; exact h7
  | succ n ih =>
    intro p h hp hqp P h7 fu hf
    obtain ⟨f, rfl⟩ : ∃ f, fu = f + 1 := ⟨fu - 1, by omega⟩
    have hsp := en_dgt (L := L) hs p hqp (by omega)
    have hd := of_decide_eq_true hsp
    have lk := m_look_t P hL (show p < L by omega)
    rw [jM_next_152, lk, obind, m_digit _ (hb p), obind, hsp, if_neg (show ¬ bI true = 0 by decide), show nI (p - q) + 1 = nI (p - q + 1) from nI_add (p - q) 1, show p - q + 1 = p + 1 - q by omega, show nI p + 1 = nI (p + 1) from nI_add p 1]
    by_cases hk : p - q < 3
    · rw [if_pos (show nI (p - q) < 3 from (nI_ltI (by omega) (show 3 < 2 ^ 31 by decide)).2 hk), obind, jbn, h7]
      have ev : nI 10 * nI (nuT T q (min 3 (p - q))) + nI (T p) - nI 48 = nI (nuT T q (min 3 (p + 1 - q))) := by
        rw [show min 3 (p + 1 - q) = min 3 (p - q) + 1 by omega, nuT, pk_mul, nI_add, pk_sub (by omega), show min 3 (p - q) = p - q by omega, show q + (p - q) = p by omega, Nat.mul_comm 10]
        congr 1
        omega
      have F2 := FzN_u h (j := 7) (by omega) (nI (nuT T q (min 3 (p + 1 - q))))
      obtain ⟨h', q1, q2, q3⟩ := ih (p + 1) (uI h 32 0 7 (nI (nuT T q (min 3 (p + 1 - q))))) (by omega) (by omega) (MTp_of P F2) (gI_uI_s _ _ _ _ _) f (by omega)
      refine ⟨h', ?_, F2.trans q2, q3⟩
      rw [show (10 : Int32) = nI 10 from rfl, show (48 : Int32) = nI 48 from rfl, ev]
      exact q1
    · rw [if_neg (show ¬ nI (p - q) < 3 from fun z => hk ((nI_ltI (by omega) (show 3 < 2 ^ 31 by decide)).1 z))]
      refine ih (p + 1) h (by omega) (by omega) P ?_ f (by omega)
      rw [h7, show min 3 (p + 1 - q) = min 3 (p - q) by omega]
