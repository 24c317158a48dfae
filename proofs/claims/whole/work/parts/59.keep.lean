/-! ===== pure: acts: what was is kept ===== -/
theorem m_copy {h : AH} {k1 k2 s d n N1 N2 : Nat} (hk : k1 ≠ k2) (h1 : asz k1 = N1) (h2 : asz k2 = N2) (hs : s + n ≤ N1) (hd : d + n ≤ N2) (hN : N1 < 5000 ∧ N2 < 5000) : jM_copy h k1 (nI s) k2 (nI d) (nI n) = some (aI h k2 0 (fun j => if d ≤ j ∧ j < d + n then gI h k1 0 (s + (j - d)) else gI h k2 0 j)) := by
  unfold jM_copy
  have key := up_ind (P := fun fu k => jM_copy_3 k1 (nI s) k2 (nI d) (nI n) fu (nI k) (aI h k2 0 (fun j => if d ≤ j ∧ j < d + k then gI h k1 0 (s + (j - d)) else gI h k2 0 j)) = some (aI h k2 0 (fun j => if d ≤ j ∧ j < d + n then gI h k1 0 (s + (j - d)) else gI h k2 0 j))) n (fun fu => ?_) (fun fu k hkn ih => ?_) n 0 FU (by omega) (FU_lt (by omega))
  · rw [aI_id (fun c => if_neg (by omega))] at key
    exact key
  · rw [jM_copy_3]
    simp (disch := omega) only [litI, nI_ltI, if_neg]
  · rw [jM_copy_3, h1, h2]
    simp (disch := omega) only [litI, nI_ltI, if_pos, nI_add, inb_nI, nI_clamp, if_true, jbn]
    rw [gI_aI_n (by omega), uI_aI]
    rw [aI_ext (g := fun j => if d ≤ j ∧ j < d + (k + 1) then gI h k1 0 (s + (j - d)) else gI h k2 0 j) (fun c => ?_)]
    · exact ih
    · by_cases hc : c = d + k
      · rw [if_pos hc, if_pos (by omega), hc, show s + (d + k - d) = s + k by omega]
      · rw [if_neg hc]
        by_cases hc2 : d ≤ c ∧ c < d + k
        · rw [if_pos hc2, if_pos (by omega)]
        · rw [if_neg hc2, if_neg (by omega)]
def psh (U S : Nat → Nat) (un : Nat) : Nat → Nat := fun j => if un < 8 then (if 340 * un ≤ j ∧ j < 340 * un + 340 then S (j - 340 * un) else U j) else (if 2380 ≤ j ∧ j < 2720 then S (j - 2380) else U (j + 340))
def un1 (un : Nat) : Nat := if un < 8 then un + 1 else 8
theorem psh_row {U S : Nat → Nat} {un i j : Nat} (hun : un ≤ 8) (hi : i < un1 un) (hj : j < 340) : row (psh U S un) i j = (if i + 1 = un1 un then S j else row U (if un < 8 then i else i + 1) j) := by
  unfold row psh un1 at *
  by_cases h8 : un < 8
  · rw [if_pos h8] at hi
    rw [if_pos h8, if_pos h8, if_pos h8]
    by_cases hiu : i + 1 = un + 1
    · rw [if_pos hiu, if_pos (by omega)]
      exact congrArg S (by omega)
    · rw [if_neg hiu, if_neg (by omega)]
  · rw [if_neg h8] at hi
    rw [if_neg h8, if_neg h8, if_neg h8]
    by_cases hiu : i + 1 = 8
    · rw [if_pos hiu, if_pos (by omega)]
      exact congrArg S (by omega)
    · rw [if_neg hiu, if_neg (by omega)]
      exact congrArg U (by omega)
theorem WkC_ext {h : AH} {w : Nat} {S S' : Nat → Nat} (hs : S 0 + S 1 ≤ 12) (e : ∀ j, j < 340 → S' j = S j) (W : WkC h w S) : WkC h w S' := by
  obtain ⟨a, b, c⟩ := W
  unfold WkC hd yr pt at *
  rw [e 0 (by omega), e 1 (by omega)]
  refine ⟨a, b, fun r hr => ?_⟩
  rw [e (2 + 26 * r) (by omega), e (3 + 26 * r) (by omega)]
  refine ⟨(c r hr).1, (c r hr).2.1, fun q hq => ?_⟩
  rw [e (4 + 26 * r + q) (by omega)]
  exact (c r hr).2.2 q hq
theorem WkI_ext {R S S' : Nat → Nat} (WI : WkI R S) (e : ∀ j, j < 340 → S' j = S j) : WkI R S' := by
  obtain ⟨a, b, c, d⟩ := WI
  unfold WkI hd yr pt at *
  rw [e 0 (by omega), e 1 (by omega)]
  refine ⟨a, b, c, fun r hr => ?_⟩
  rw [e (2 + 26 * r) (by omega), e (3 + 26 * r) (by omega)]
  refine ⟨(d r hr).1, (d r hr).2.1, fun q hq => ?_⟩
  rw [e (4 + 26 * r + q) (by omega)]
  exact (d r hr).2.2 q hq
theorem psh_WkI {R U S : Nat → Nat} {un : Nat} (hun : un ≤ 8) (WI : WkI R S) (hU : ∀ i, i < un → WkI R (row U i)) : ∀ i, i < un1 un → WkI R (row (psh U S un) i) := by
  intro i hi
  by_cases hl : i + 1 = un1 un
  · exact WkI_ext WI (fun j hj => by rw [psh_row hun hi hj, if_pos hl])
  · refine WkI_ext (hU (if un < 8 then i else i + 1) ?_) (fun j hj => by rw [psh_row hun hi hj, if_neg hl])
    unfold un1 at hi hl
    split at hi <;> split <;> simp_all <;> omega
section C
variable {h : AH} {R S U K T : Nat → Nat} {tp un im nx fa : Nat}
def FrK (h h' : AH) (w : Nat) : Prop := (∀ k i j, ¬ (13 ≤ k ∧ k ≤ 16 ∧ i = w) → gI h' k i j = gI h k i j) ∧ h'.2 = h.2
theorem c_become {w w2 : Nat} (hww : w ≠ w2) (W : WkC h w2 S) (hs : S 0 + S 1 ≤ 12) (hs1 : S 1 ≤ 1) : ∃ h', jW_become h w w2 = some h' ∧ FrK h h' w ∧ WkC h' w S := by
  obtain ⟨a, b, c⟩ := W
  have hz : isZ (nI (S 1)) = true := by
    have : S 1 = 0 ∨ S 1 = 1 := by omega
    rcases this with q | q <;> rw [q] <;> decide
  refine ⟨uC (uC (uC (uI (uI h 13 w 0 (nI (S 0))) 13 w 1 (nI (S 1))) 14 w2 0 14 w 0 12) 15 w2 0 15 w 0 12) 16 w2 0 16 w 0 288, ?_, ⟨fun k i j q => ?_, rfl⟩, ?_, ?_, fun r hr => ⟨?_, ?_, fun q hq => ?_⟩⟩
  · unfold jW_become
    simp only [jbn]
    rw [gI_uI_n (by omega), b, hz, a]
    simp only [if_true]
  · rw [gI_uC, if_neg (by omega), gI_uC, if_neg (by omega), gI_uC, if_neg (by omega), gI_uI_n (by omega), gI_uI_n (by omega)]
  · rw [gI_uC, if_neg (by omega), gI_uC, if_neg (by omega), gI_uC, if_neg (by omega), gI_uI_n (by omega), gI_uI_s]
  · rw [gI_uC, if_neg (by omega), gI_uC, if_neg (by omega), gI_uC, if_neg (by omega), gI_uI_s]
  · rw [gI_uC, if_neg (by omega), gI_uC, if_neg (by omega), gI_uC, if_pos ⟨rfl, rfl⟩, pk_cpy_in (by omega) (by omega), gI_uI_n (by omega), gI_uI_n (by omega), show 0 + (r - 0) = r by omega]
    exact (c r hr).1
  · rw [gI_uC, if_neg (by omega), gI_uC, if_pos ⟨rfl, rfl⟩, pk_cpy_in (by omega) (by omega), gI_uC, if_neg (by omega), gI_uI_n (by omega), gI_uI_n (by omega), show 0 + (r - 0) = r by omega]
    exact (c r hr).2.1
  · rw [gI_uC, if_pos ⟨rfl, rfl⟩, pk_cpy_in (by omega) (by omega), gI_uC, if_neg (by omega), gI_uC, if_neg (by omega), gI_uI_n (by omega), gI_uI_n (by omega), show 0 + (r * 24 + q - 0) = r * 24 + q by omega]
    exact (c r hr).2.2 q hq
theorem gBle (h : AH) (b : Nat) : (gB h b).toNat ≤ 1 := by cases gB h b <;> decide
/-- the works are written anew, all else of the class's state stays -/
theorem CA_S {h' : AH} {S' : Nat → Nat} (A : CA h R S U K T tp un im nx fa) (e : ∀ k i j, ¬ (13 ≤ k ∧ k ≤ 16 ∧ i = (gB h 1).toNat) → ¬ (k = 0 ∧ j = 10) → k < 24 → gI h' k i j = gI h k i j) (e2 : h'.2.2 = h.2.2) (W : WkC h' (gB h 1).toNat S') : CA h' R S' U K T tp un im nx fa := by
  obtain ⟨a1, a2, a3, a4, a5, a6, a7⟩ := A
  have eb : ∀ b, gB h' b = gB h b := fun b => by unfold gB; rw [e2]
  have hb := gBle h 1
  have ew : ∀ w S, 2 ≤ w → WkC h w S → WkC h' w S := fun w S hw W => WkC_of W (fun k j hk => e k w j (by omega) (by omega) (by omega))
  refine ⟨?_, ?_, ?_, ⟨?_, fun i hi => ?_⟩, ⟨?_, ?_, fun i hi => ew _ _ (by omega) (a5.2.2 i hi)⟩, ⟨?_, fun i hi => ew _ _ (by omega) (a6.2 i hi)⟩, ?_⟩
  · rw [eb]; exact BkC_of a1 (fun k j hk => e k _ j (by omega) (by omega) (by omega))
  · rw [eb]; exact W
  · rw [eb, eb, eb, eb]; exact a3
  · rw [e 0 0 1 (by omega) (by omega) (by omega)]; exact a4.1
  · rw [e 1 0 i (by omega) (by omega) (by omega)]; exact a4.2 i hi
  · rw [e 21 0 0 (by omega) (by omega) (by omega)]; exact a5.1
  · rw [e 21 0 1 (by omega) (by omega) (by omega)]; exact a5.2.1
  · rw [e 0 0 7 (by omega) (by omega) (by omega)]; exact a6.1
  · rw [e 2 0 0 (by omega) (by omega) (by omega)]; exact a7
theorem c_keep (V : Inv R S U K T tp un im nx fa) (A : CA h R S U K T tp un im nx fa) (C : Cch h R) : ∃ h', jP_keep h (gB h 1).toNat = some h' ∧ h'.2 = h.2 ∧ CA h' R S (psh U S un) K T tp (un1 un) im ((nx + 1) % 8) fa ∧ Cch h' R := by
  obtain ⟨a1, a2, a3, a4, a5, a6, a7⟩ := A
  obtain ⟨v1, v2, v3, v4, v5, v6, v7⟩ := V
  have hb := gBle h 1
  obtain ⟨h2, e1, F, W2⟩ := c_become (h := h) (w := 2 + nx) (w2 := (gB h 1).toNat) (by omega) a2 v2.1 v2.2.1
  refine ⟨uI (uI h2 21 0 1 (nI ((nx + 1) % 8))) 21 0 0 (nI (un1 un)), ?_, F.2, ?_, ?_⟩
  · unfold jP_keep mmin
    rw [a5.2.1]
    simp (disch := omega) only [litI, inb_nI, nI_clamp, if_true, e1, obind, jbn]
    rw [if_neg (show ¬ ((8 : Nat) = 0) by decide), F.1 21 0 1 (by omega), a5.2.1, nI_add, pk_rem (by omega) (by omega) (by omega), gI_uI_n (by omega), F.1 21 0 0 (by omega), a5.1]
    simp (disch := omega) only [nI_add, nI_ltI]
    unfold un1
    by_cases h8 : un < 8
    · rw [if_pos h8, if_neg (by omega)]
    · rw [if_neg h8, if_pos (by omega)]
  · have eb : ∀ b, gB (uI (uI h2 21 0 1 (nI ((nx + 1) % 8))) 21 0 0 (nI (un1 un))) b = gB h b := fun b => by
      show h2.2.2 b = h.2.2 b
      rw [F.2]
    have e : ∀ k i j, ¬ (13 ≤ k ∧ k ≤ 16 ∧ i = 2 + nx) → k ≠ 21 → gI (uI (uI h2 21 0 1 (nI ((nx + 1) % 8))) 21 0 0 (nI (un1 un))) k i j = gI h k i j := fun k i j q1 q2 => by
      rw [gI_uI_n (by omega), gI_uI_n (by omega)]
      exact F.1 k i j q1
    have ew : ∀ w S, w ≠ 2 + nx → WkC h w S → WkC (uI (uI h2 21 0 1 (nI ((nx + 1) % 8))) 21 0 0 (nI (un1 un))) w S := fun w S hw W => WkC_of W (fun k j hk => e k w j (by omega) (by omega))
    refine ⟨?_, ?_, ?_, ⟨?_, fun i hi => ?_⟩, ⟨?_, ?_, fun i hi => ?_⟩, ⟨?_, fun i hi => ew _ _ (by omega) (a6.2 i hi)⟩, ?_⟩
    · rw [eb]; exact BkC_of a1 (fun k j hk => e k _ j (by omega) (by omega))
    · rw [eb]; exact ew _ _ (by omega) a2
    · rw [eb, eb, eb, eb]; exact a3
    · rw [e 0 0 1 (by omega) (by omega)]; exact a4.1
    · rw [e 1 0 i (by omega) (by omega)]; exact a4.2 i hi
    · rw [gI_uI_s]
    · rw [gI_uI_n (by omega), gI_uI_s]
    · by_cases hl : i + 1 = un1 un
      · have hslot : 2 + ((nx + 1) % 8 + 8 - un1 un + i) % 8 = 2 + nx := by
          unfold un1 at hl ⊢
          split at hl <;> split <;> omega
        rw [hslot]
        refine WkC_ext v2.1 (fun j hj => by rw [psh_row (by omega) hi hj, if_pos hl]) ?_
        exact WkC_of W2 (fun k j hk => (gI_uI_n (by omega)).trans (gI_uI_n (by omega)))
      · have hi2 : (if un < 8 then i else i + 1) < un := by
          unfold un1 at hi hl
          split at hi <;> split <;> simp_all <;> omega
        have hslot : 2 + ((nx + 1) % 8 + 8 - un1 un + i) % 8 = 2 + (nx + 8 - un + (if un < 8 then i else i + 1)) % 8 := by
          unfold un1 at hi hl ⊢
          by_cases h8 : un < 8
          · rw [if_pos h8, if_pos h8]; omega
          · rw [if_neg h8, if_neg h8]; omega
        have hne : 2 + (nx + 8 - un + (if un < 8 then i else i + 1)) % 8 ≠ 2 + nx := by
          unfold un1 at hi hl
          by_cases h8 : un < 8
          · rw [if_pos h8] at hi2 ⊢; omega
          · rw [if_neg h8] at hi2 hi hl ⊢; omega
        rw [hslot]
        refine WkC_ext (v3 _ hi2).1 (fun j hj => by rw [psh_row (by omega) hi hj, if_neg hl]) ?_
        exact ew _ _ hne (a5.2.2 _ hi2)
    · rw [e 0 0 7 (by omega) (by omega)]; exact a6.1
    · rw [e 2 0 0 (by omega) (by omega)]; exact a7
  · exact Cch_of C (fun k i j hk => (gI_uI_n (by omega)).trans ((gI_uI_n (by omega)).trans (F.1 k i j (by omega))))
end C
section M
variable {h : AH} {R S U K T : Nat → Nat} {tp un im nx fa : Nat}
theorem m_note (A : MA h R S U K T tp un im fa) : ∃ h', jM_note h = some h' ∧ (∀ k i j, ¬ (k = 39 ∧ i = 0) → gI h' k i j = gI h k i j) ∧ h'.2 = h.2 ∧ ∀ j, j < 340 → gI h' 39 0 j = nI (S j) := by
  refine ⟨aI h 39 0 (fun j => if 0 ≤ j ∧ j < 0 + 340 then gI h 37 0 (0 + (j - 0)) else gI h 39 0 j), ?_, fun k i j q => gI_aI_n q, rfl, fun j hj => ?_⟩
  · unfold jM_note
    simp only [litI]
    rw [m_copy (N1 := 340) (N2 := 340) (by decide) rfl rfl (by omega) (by omega) (by omega), obind]
  · rw [gI_aI_s, if_pos (by omega), show 0 + (j - 0) = j by omega]
    exact A.2.1 j hj
theorem m_did {S0 : Nat → Nat} (hU : ∀ i, i < 2720 → gI h 40 0 i = nI (U i)) (hun : gI h 32 0 22 = nI un) (hle : un ≤ 8) (h39 : ∀ j, j < 340 → gI h 39 0 j = nI (S0 j)) : ∃ h', jM_did h = some (nI 1, h') ∧ (∀ k i j, ¬ (k = 40 ∧ i = 0) → ¬ (k = 32 ∧ j = 22) → gI h' k i j = gI h k i j) ∧ h'.2 = h.2 ∧ (∀ i, i < 2720 → gI h' 40 0 i = nI (psh U S0 un i)) ∧ gI h' 32 0 22 = nI (un1 un) := by
  have e50 : ∀ (g : AH) m, m ≤ 7 → gI g 32 0 22 = nI m → (∀ j, j < 340 → gI g 39 0 j = nI (S0 j)) → jM_did_50 g = some (nI 1, uI (aI g 40 0 (fun j => if 340 * m ≤ j ∧ j < 340 * m + 340 then gI g 39 0 (0 + (j - 340 * m)) else gI g 40 0 j)) 32 0 22 (nI (m + 1))) := by
    intro g m hm g1 g2
    unfold jM_did_50
    rw [g1]
    simp only [litI, pk_mul]
    rw [m_copy (N1 := 340) (N2 := 2720) (by decide) rfl rfl (by omega) (by omega) (by omega), obind]
    simp only [jbn]
    rw [gI_aI_n (by omega), g1, nI_add]
  unfold jM_did
  rw [hun]
  simp (disch := omega) only [litI, nI_eq]
  by_cases h8 : un = 8
  · rw [if_pos h8]
    have key := up_ind (P := fun fu k => jM_did_11 fu (nI k) (aI h 40 0 (fun j => if j < k then gI h 40 0 (j + 340) else gI h 40 0 j)) = jM_did_40 (aI h 40 0 (fun j => if j < 2380 then gI h 40 0 (j + 340) else gI h 40 0 j))) 2380 (fun fu => ?_) (fun fu k hk ih => ?_) 2380 0 FU rfl (FU_lt (by omega))
    · rw [aI_id (fun c => if_neg (by omega))] at key
      refine ⟨uI (aI (uI (aI h 40 0 (fun j => if j < 2380 then gI h 40 0 (j + 340) else gI h 40 0 j)) 32 0 22 (nI 7)) 40 0 (fun j => if 340 * 7 ≤ j ∧ j < 340 * 7 + 340 then gI (uI (aI h 40 0 (fun j => if j < 2380 then gI h 40 0 (j + 340) else gI h 40 0 j)) 32 0 22 (nI 7)) 39 0 (0 + (j - 340 * 7)) else gI (uI (aI h 40 0 (fun j => if j < 2380 then gI h 40 0 (j + 340) else gI h 40 0 j)) 32 0 22 (nI 7)) 40 0 j)) 32 0 22 (nI (7 + 1)), key.trans ?_, ?_⟩
      · unfold jM_did_40
        simp only [litI, jbn]
        rw [gI_aI_n (by omega), hun, h8, pk_sub (by omega)]
        exact e50 _ 7 (by omega) (gI_uI_s _ _ _ _ _) (fun j hj => by
          rw [gI_uI_n (by omega), gI_aI_n (by omega)]
          exact h39 j hj)
      · refine ⟨fun k i j q1 q2 => ?_, rfl, fun i hi => ?_, ?_⟩
        · rw [gI_uI_n (by omega), gI_aI_n (by omega), gI_uI_n (by omega), gI_aI_n (by omega)]
        · rw [gI_uI_n (by omega), gI_aI_s]
          have hpp : psh U S0 un i = if 2380 ≤ i ∧ i < 2720 then S0 (i - 2380) else U (i + 340) := if_neg (by omega)
          rw [hpp]
          by_cases hq : 2380 ≤ i ∧ i < 2720
          · rw [if_pos (by omega), if_pos hq, gI_uI_n (by omega), gI_aI_n (by omega), h39 _ (by omega), show 0 + (i - 340 * 7) = i - 2380 by omega]
          · rw [if_neg (by omega), if_neg hq, gI_uI_n (by omega), gI_aI_s, if_pos (by omega), hU _ (by omega)]
        · rw [gI_uI_s]
          unfold un1
          rw [if_neg (by omega)]
    · rw [jM_did_11]
      exact if_neg (by decide +kernel)
    · rw [jM_did_11]
      simp (disch := omega) only [litI, nI_ltI, if_pos, nI_add, inb_nI, nI_clamp, if_true, jbn]
      rw [gI_aI_s, if_neg (by omega), aI_up h 40 0 k (fun j => gI h 40 0 (j + 340))]
      exact ih
  · rw [if_neg h8]
    refine ⟨_, e50 h un (by omega) hun h39, fun k i j q1 q2 => ?_, rfl, fun i hi => ?_, ?_⟩
    · rw [gI_uI_n (by omega), gI_aI_n (by omega)]
    · rw [gI_uI_n (by omega), gI_aI_s]
      have hpp : psh U S0 un i = if 340 * un ≤ i ∧ i < 340 * un + 340 then S0 (i - 340 * un) else U i := if_pos (by omega)
      rw [hpp]
      by_cases hq : 340 * un ≤ i ∧ i < 340 * un + 340
      · rw [if_pos hq, if_pos hq, h39 _ (by omega), show 0 + (i - 340 * un) = i - 340 * un by omega]
      · rw [if_neg hq, if_neg hq, hU _ hi]
    · rw [gI_uI_s]
      unfold un1
      rw [if_pos (by omega)]
end M
