/-! ===== pure: the model's words ===== -/
theorem kmT_2 {k : Nat} (hk : k < 6) : (nI (kmT k) = 2) ↔ k = 2 := by
  have : ∀ k, k < 6 → ((nI (kmT k) = 2) ↔ k = 2) := by decide +kernel
  exact this k hk
theorem kmT_3 {k : Nat} (hk : k < 6) : (nI (kmT k) = 3) ↔ k = 3 := by
  have : ∀ k, k < 6 → ((nI (kmT k) = 3) ↔ k = 3) := by decide +kernel
  exact this k hk
theorem kmT_44 {k : Nat} (hk : k < 6) : (nI (kmT k) = 44) ↔ k = 5 := by
  have : ∀ k, k < 6 → ((nI (kmT k) = 44) ↔ k = 5) := by decide +kernel
  exact this k hk
theorem kmT_59 {k : Nat} (hk : k < 6) : (nI (kmT k) = 59) ↔ k = 4 := by
  have : ∀ k, k < 6 → ((nI (kmT k) = 59) ↔ k = 4) := by decide +kernel
  exact this k hk
theorem kmT_0 {k : Nat} (hk : k < 6) : (nI (kmT k) = 0) ↔ k = 1 := by
  have : ∀ k, k < 6 → ((nI (kmT k) = 0) ↔ k = 1) := by decide +kernel
  exact this k hk
theorem kd_6 (T : Nat → Nat) (L q : Nat) : kdT T L q < 6 := by
  unfold kdT
  repeat' split
  all_goals decide
theorem strlen_n {t : Nat} : strlen t = nI (sLn t) := rfl
theorem m_isWord {h : AH} {T : Nat → Nat} {L q t : Nat} (M : MTk h T L q) (h13 : gI h 32 0 13 = nI 0) (ht : t < 17) : jM_isWord h t = some (bI (isW T L q t)) := by
  have w := wB_ok t ht
  have k6 := kd_6 T L q
  unfold jM_isWord
  rw [if_pos (show gI h 32 0 13 = 0 from h13), M.2.2.1]
  by_cases h2 : kdT T L q = 2
  · have k8 := (kd_2 h2).2.2
    have lt := kd2_let h2
    obtain ⟨e8, el⟩ := M.2.2.2.1 h2
    rw [if_pos ((kmT_2 k6).2 h2), e8, strlen_n]
    by_cases hl : enT T L q - q = sLn t
    · rw [if_pos (by rw [hl])]
      have z0 : ∀ n k, k + n = sLn t → ∀ fu, n < fu → jM_isWord_32 h t fu (nI 0) (nI k) = some (nI 0) := by
        intro n
        induction n with
        | zero =>
          intro k hk fu hf
          obtain ⟨f, rfl⟩ : ∃ f, fu = f + 1 := ⟨fu - 1, by omega⟩
          rw [jM_isWord_32, e8, if_neg (fun z => by have := (nI_ltI (by omega) (by omega)).1 z; omega)]
          rfl
        | succ n ih =>
          intro k hk fu hf
          obtain ⟨f, rfl⟩ : ∃ f, fu = f + 1 := ⟨fu - 1, by omega⟩
          rw [jM_isWord_32, e8, if_pos ((nI_ltI (by omega) (by omega)).2 (by omega)), if_pos (show nI 0 = 0 from rfl), show nI k + 1 = nI (k + 1) from nI_add k 1]
          exact ih (k + 1) (by omega) f (by omega)
      have loop : ∀ n k, k + n = sLn t → (∀ j, j < k → T (q + j) = wB t j) → ∀ fu, n < fu → jM_isWord_32 h t fu (nI 1) (nI k) = some (bI (isW T L q t)) := by
        intro n
        induction n with
        | zero =>
          intro k hk hj fu hf
          obtain ⟨f, rfl⟩ : ∃ f, fu = f + 1 := ⟨fu - 1, by omega⟩
          rw [jM_isWord_32, e8, if_neg (fun z => by have := (nI_ltI (by omega) (by omega)).1 z; omega), isW_i.2 ⟨h2, hl, fun j j1 => hj j (by omega)⟩]
          rfl
        | succ n ih =>
          intro k hk hj fu hf
          obtain ⟨f, rfl⟩ : ∃ f, fu = f + 1 := ⟨fu - 1, by omega⟩
          have wk := w.2.2 k (by omega)
          have lk := lt k (by omega)
          rw [jM_isWord_32, e8, if_pos ((nI_ltI (by omega) (by omega)).2 (by omega)), if_neg (show ¬ nI 1 = 0 by decide), inb_nI (by omega) (by decide), if_pos rfl, inb_nI (show k < sLen.getD t 0 by unfold sLn at hk; omega) (by unfold sLn at w; omega), if_pos rfl, nI_clamp (by omega), el k (by omega), wk.2.2, show nI k + 1 = nI (k + 1) from nI_add k 1]
          by_cases e : T (q + k) = wB t k
          · rw [if_pos (by rw [e])]
            exact ih (k + 1) (by omega) (fun j j1 => by
              by_cases ej : j = k
              · rw [ej]; exact e
              · exact hj j (by omega)) f (by omega)
          · rw [if_neg (fun z => e ((nI_eq (by omega) (by omega)).1 z)), show isW T L q t = false from decide_eq_false (fun z => e (z.2.2 k (by omega)))]
            exact z0 n (k + 1) (by omega) f (by omega)
      exact loop (sLn t) 0 (by omega) (fun j hj => absurd hj (Nat.not_lt_zero _)) FU (by unfold FU; omega)
    · rw [if_neg (fun z => hl ((nI_eq (by omega) (by omega)).1 z)), show isW T L q t = false from decide_eq_false (fun z => hl z.2.1)]
      rfl
  · rw [if_neg (fun z => h2 ((kmT_2 k6).1 z)), show isW T L q t = false from decide_eq_false (fun z => h2 z.1)]
    rfl
