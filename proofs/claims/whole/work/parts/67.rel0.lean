/-! ===== pure: the first pair ===== -/
theorem hm0_0 {k i j : Nat} (h : ¬ (k = 32 ∧ j = 10)) : gI hm0 k i j = nI 0 := if_neg h
theorem hc0_0 {k i j : Nat} (h : ¬ ((k = 2 ∧ j = 1) ∨ (k = 28 ∧ (j = 3 ∨ j = 4)))) : gI hc0 k i j = nI 0 := if_neg h
theorem rel0 : Rel hc0 hm0 := by
  refine ⟨fun _ => 0, fun _ => 0, fun _ => 0, fun _ => 0, fun _ => 0, 0, 0, 0, 0, 0, 0, 0, ⟨?_, ?_, ?_, ?_, ?_, ?_, ?_⟩, ⟨?_, ?_, ?_, ?_, ?_, ?_, ?_⟩, ?_, ⟨?_, ?_, ?_, ?_, ?_, ?_, ?_, ?_, ?_⟩, ?_, ?_, ?_, ?_⟩
  · exact ⟨Or.inl ⟨rfl, rfl, rfl, rfl, rfl, rfl, rfl⟩, fun c hc => absurd hc (Nat.not_lt_zero _), fun c hc => absurd hc (Nat.not_lt_zero _), fun c _ => ⟨Nat.le_refl _, fun _ => rfl⟩⟩
  · exact ⟨show 0 + 0 ≤ 12 by decide, show 0 ≤ 1 by decide, fun _ => ⟨rfl, rfl⟩, fun w hw => absurd (show w < 0 + 0 from hw) (Nat.not_lt_zero _)⟩
  · exact fun i hi => absurd hi (Nat.not_lt_zero _)
  · exact fun i hi => absurd hi (Nat.not_lt_zero _)
  · omega
  · exact fun i => show 0 < 256 by decide
  · exact fun _ => ⟨rfl, rfl⟩
  · exact ⟨⟨hc0_0 (by omega), hc0_0 (by omega), hc0_0 (by omega), hc0_0 (by omega), hc0_0 (by omega), hc0_0 (by omega), hc0_0 (by omega)⟩, fun c hc => absurd hc (Nat.not_lt_zero _), fun c hc => absurd hc (Nat.not_lt_zero _), fun c hc => absurd (show c < 0 * 0 from hc) (by omega)⟩
  · exact ⟨hc0_0 (by omega), hc0_0 (by omega), fun c hc => absurd hc (Nat.not_lt_zero _)⟩
  · exact ⟨rfl, rfl⟩
  · exact ⟨hc0_0 (by omega), fun c hc => absurd hc (Nat.not_lt_zero _)⟩
  · exact ⟨hc0_0 (by omega), hc0_0 (by omega), fun c hc => absurd hc (Nat.not_lt_zero _)⟩
  · exact ⟨hc0_0 (by omega), fun c hc => absurd hc (Nat.not_lt_zero _)⟩
  · exact hc0_0 (by omega)
  · exact fun h => absurd (show 1 ≤ 0 from h) (by omega)
  · exact fun i hi => hm0_0 (by omega)
  · exact fun i hi => hm0_0 (by omega)
  · exact fun i hi => hm0_0 (by omega)
  · exact fun i hi => hm0_0 (by omega)
  · exact ⟨hm0_0 (by omega), fun c hc => absurd hc (Nat.not_lt_zero _)⟩
  · exact hm0_0 (by omega)
  · exact hm0_0 (by omega)
  · exact hm0_0 (by omega)
  · exact hm0_0 (by omega)
  · omega
  · exact hc0_0 (by omega)
  · exact hm0_0 (by omega)
  · exact fun h => absurd h (by omega)
