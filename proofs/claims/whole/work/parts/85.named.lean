/-! ===== pure: the class finds a name ===== -/
/-- the first of c places whose name is v, else -1 -/
def fndL (p : Nat → Bool) : Nat → Nat → Int32
  | 0, _ => -1
  | d + 1, k => if p k = true then nI k else fndL p d (k + 1)
theorem c_colourNamed {h : AH} {b c : Nat} {g : Nat → Int64} {v : Int64} (e : gI h 3 b 4 = nI c) (hc : c ≤ 5) (eg : ∀ k, k < c → gL h 4 b k = g k) : jB_colourNamed h b v = some (fndL (fun k => decide (g k = v)) c 0) := by
  have loop : ∀ d k, k + d = c → ∀ fu, d < fu → jB_colourNamed_2 h b v fu (nI k) = some (fndL (fun k => decide (g k = v)) d k) := by
    intro d
    induction d with
    | zero =>
      intro k hk fu hf
      obtain ⟨f, rfl⟩ : ∃ f, fu = f + 1 := ⟨fu - 1, by omega⟩
      rw [jB_colourNamed_2, e, if_neg (fun z => by have := (nI_ltI (by omega) (by omega)).1 z; omega)]
      rfl
    | succ d ih =>
      intro k hk fu hf
      obtain ⟨f, rfl⟩ : ∃ f, fu = f + 1 := ⟨fu - 1, by omega⟩
      rw [jB_colourNamed_2, e, if_pos ((nI_ltI (by omega) (by omega)).2 (by omega)), inb_nI (by omega) (by decide), if_pos rfl, nI_clamp (by omega), eg k (by omega), fndL]
      by_cases hv : g k = v
      · rw [if_pos (lg_0.2 hv), if_pos (decide_eq_true hv)]
      · rw [if_neg (fun z => hv (lg_0.1 z)), if_neg (by rw [decide_eq_false hv]; decide), show nI k + 1 = nI (k + 1) from nI_add k 1]
        exact ih (k + 1) (by omega) f (by omega)
  exact loop c 0 (by omega) FU (by unfold FU; omega)
theorem c_handNamed {h : AH} {b c : Nat} {g : Nat → Int64} {v : Int64} (e : gI h 3 b 5 = nI c) (hc : c ≤ 5) (eg : ∀ k, k < c → gL h 8 b k = g k) : jB_handNamed h b v = some (fndL (fun k => decide (g k = v)) c 0) := by
  have loop : ∀ d k, k + d = c → ∀ fu, d < fu → jB_handNamed_2 h b v fu (nI k) = some (fndL (fun k => decide (g k = v)) d k) := by
    intro d
    induction d with
    | zero =>
      intro k hk fu hf
      obtain ⟨f, rfl⟩ : ∃ f, fu = f + 1 := ⟨fu - 1, by omega⟩
      rw [jB_handNamed_2, e, if_neg (fun z => by have := (nI_ltI (by omega) (by omega)).1 z; omega)]
      rfl
    | succ d ih =>
      intro k hk fu hf
      obtain ⟨f, rfl⟩ : ∃ f, fu = f + 1 := ⟨fu - 1, by omega⟩
      rw [jB_handNamed_2, e, if_pos ((nI_ltI (by omega) (by omega)).2 (by omega)), inb_nI (by omega) (by decide), if_pos rfl, nI_clamp (by omega), eg k (by omega), fndL]
      by_cases hv : g k = v
      · rw [if_pos (lg_0.2 hv), if_pos (decide_eq_true hv)]
      · rw [if_neg (fun z => hv (lg_0.1 z)), if_neg (by rw [decide_eq_false hv]; decide), show nI k + 1 = nI (k + 1) from nI_add k 1]
        exact ih (k + 1) (by omega) f (by omega)
  exact loop c 0 (by omega) FU (by unfold FU; omega)
