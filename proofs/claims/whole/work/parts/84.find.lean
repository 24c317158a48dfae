/-! ===== pure: the model finds a name ===== -/
def nmE (R : Nat → Nat) (m : Nat) (f : Nat → Nat) (n : Nat) : Bool := decide (1 ≤ R (71 + n) ∧ R (71 + n) = m ∧ ∀ j, j < m → R (81 + 8 * n + j) = f j)
def fndI (p : Nat → Bool) : Nat → Nat → Int32
  | 0, _ => -1
  | d + 1, k => if p k = true then nI k else fndI p d (k + 1)
theorem m_find {h : AH} {R f : Nat → Nat} {m : Nat} (e36 : ∀ i, 71 ≤ i → i < 161 → gI h 36 0 i = nI (R i)) (hR : ∀ i, 71 ≤ i → i < 161 → R i < 2 ^ 31) (e8 : gI h 32 0 8 = nI m) (hm : m ≤ 8) (el : ∀ j, j < m → gI h 34 0 j = nI (f j)) (hf : ∀ j, j < m → f j < 2 ^ 31) : jM_find h = some (fndI (nmE R m f) 10 0) := by
  have z0 : ∀ (K : Int32 → Option Int32) k, ∀ n j, j + n = m → ∀ fu, n < fu → jM_find_44 h K fu (nI k) (nI 0) (nI j) = K (nI (k + 1)) := by
    intro K k n
    induction n with
    | zero =>
      intro j hj fu hf
      obtain ⟨g, rfl⟩ : ∃ g, fu = g + 1 := ⟨fu - 1, by omega⟩
      rw [jM_find_44, e8, if_neg (fun z => by have := (nI_ltI (by omega) (by omega)).1 z; omega), jM_find_91, if_pos (show nI 0 = 0 from rfl), show nI k + 1 = nI (k + 1) from nI_add k 1]
    | succ n _ =>
      intro j hj fu hf
      obtain ⟨g, rfl⟩ : ∃ g, fu = g + 1 := ⟨fu - 1, by omega⟩
      rw [jM_find_44, e8, if_pos ((nI_ltI (by omega) (by omega)).2 (by omega)), if_pos (show nI 0 = 0 from rfl), jM_find_91, if_pos (show nI 0 = 0 from rfl), show nI k + 1 = nI (k + 1) from nI_add k 1]
  have one : ∀ (K : Int32 → Option Int32) k, k < 10 → 1 ≤ R (71 + k) → R (71 + k) = m → ∀ n j, j + n = m → (∀ i, i < j → R (81 + 8 * k + i) = f i) → ∀ fu, n + 1 < fu → jM_find_44 h K fu (nI k) (nI 1) (nI j) = if nmE R m f k = true then some (nI k) else K (nI (k + 1)) := by
    intro K k hk h1 h2 n
    induction n with
    | zero =>
      intro j hj hq fu hf
      obtain ⟨g, rfl⟩ : ∃ g, fu = g + 1 := ⟨fu - 1, by omega⟩
      rw [jM_find_44, e8, if_neg (fun z => by have := (nI_ltI (by omega) (by omega)).1 z; omega), jM_find_91, if_neg (show ¬ nI 1 = 0 by decide), if_pos (show nmE R m f k = true from decide_eq_true ⟨h1, h2, fun i hi => hq i (by omega)⟩)]
    | succ n ih =>
      intro j hj hq fu hfu
      obtain ⟨g, rfl⟩ : ∃ g, fu = g + 1 := ⟨fu - 1, by omega⟩
      rw [jM_find_44, e8, if_pos ((nI_ltI (by omega) (by omega)).2 (by omega)), if_neg (show ¬ nI 1 = 0 by decide), show (81 : Int32) = nI 81 from rfl, show (8 : Int32) = nI 8 from rfl, pk_mul, nI_add, nI_add, inb_nI (by omega) (by decide), if_pos rfl, inb_nI (by omega) (by decide), if_pos rfl, nI_clamp (by omega), nI_clamp (by omega), e36 _ (by omega) (by omega), el j (by omega), show nI j + 1 = nI (j + 1) from nI_add j 1]
      by_cases e : R (81 + 8 * k + j) = f j
      · rw [if_pos (by rw [e])]
        exact ih (j + 1) (by omega) (fun i hi => by
          by_cases ei : i = j
          · rw [ei]; exact e
          · exact hq i (by omega)) g (by omega)
      · rw [if_neg (fun z => e ((nI_eq (hR _ (by omega) (by omega)) (hf j (by omega))).1 z)), if_neg (fun z => e ((of_decide_eq_true z).2.2 j (by omega)))]
        exact z0 K k n (j + 1) (by omega) g (by omega)
  have loop : ∀ d k, k + d = 10 → ∀ fu, d < fu → jM_find_2 h fu (nI k) = some (fndI (nmE R m f) d k) := by
    intro d
    induction d with
    | zero =>
      intro k hk fu hfu
      obtain ⟨g, rfl⟩ : ∃ g, fu = g + 1 := ⟨fu - 1, by omega⟩
      rw [jM_find_2, if_neg (fun z => by have := (nI_ltI (by omega) (show 10 < 2 ^ 31 by decide)).1 (z : nI k < nI 10); omega)]
      rfl
    | succ d ih =>
      intro k hk fu hfu
      obtain ⟨g, rfl⟩ : ∃ g, fu = g + 1 := ⟨fu - 1, by omega⟩
      have hr := hR (71 + k) (by omega) (by omega)
      rw [jM_find_2, if_pos (show nI k < 10 from (nI_ltI (by omega) (show 10 < 2 ^ 31 by decide)).2 (by omega)), show (71 : Int32) + nI k = nI (71 + k) from nI_add 71 k, inb_nI (by omega) (by decide), if_pos rfl, if_pos rfl, nI_clamp (by omega), e36 _ (by omega) (by omega), e8, fndI]
      have zz : jM_find_44 h (jM_find_2 h g) FU (nI k) 0 0 = jM_find_2 h g (nI (k + 1)) := z0 _ k m 0 (by omega) FU (by unfold FU; omega)
      by_cases h0 : R (71 + k) = 0
      · rw [if_pos (show nI (R (71 + k)) ≤ 0 by rw [h0]; decide), if_neg (fun z => by have := (of_decide_eq_true z).1; omega), zz]
        exact ih (k + 1) (by omega) g (by omega)
      · rw [if_neg (fun z => h0 (by have := (nI_leI hr (show 0 < 2 ^ 31 by decide)).1 (z : nI (R (71 + k)) ≤ nI 0); omega))]
        by_cases h2 : R (71 + k) = m
        · rw [if_pos (by rw [h2]), show jM_find_44 h (jM_find_2 h g) FU (nI k) 1 0 = _ from one _ k (by omega) (by omega) h2 m 0 (by omega) (fun i hi => absurd hi (Nat.not_lt_zero _)) FU (by unfold FU; omega), ih (k + 1) (by omega) g (by omega)]
          split <;> rfl
        · rw [if_neg (fun z => h2 ((nI_eq hr (by omega)).1 z)), if_neg (fun z => h2 (of_decide_eq_true z).2.1), zz]
          exact ih (k + 1) (by omega) g (by omega)
  exact loop 10 0 rfl FU (by unfold FU; omega)
