/-! ===== pure: the state of both ===== -/
def row (U : Nat → Nat) (i : Nat) : Nat → Nat := fun j => U (340 * i + j)
/-- a byte as a cell of a row of bytes holds it -/
def sbt (c : Nat) : Int32 := (nI c).toInt8.toInt32
def Inv (R S U K T : Nat → Nat) (tp un im nx fa : Nat) : Prop :=
  BkI R ∧ WkI R S ∧ (∀ i, i < un → WkI R (row U i)) ∧ (∀ i, i < im → WkI R (row K i)) ∧ (tp ≤ 900 ∧ un ≤ 8 ∧ im ≤ 3 ∧ nx < 8 ∧ fa ≤ 6) ∧ (∀ i, T i < 256) ∧ (R 0 = 0 → un = 0 ∧ im = 0)
def CA (hc : AH) (R S U K T : Nat → Nat) (tp un im nx fa : Nat) : Prop :=
  BkC hc (gB hc 0).toNat R ∧ WkC hc (gB hc 1).toNat S ∧ (gB hc 2 = !gB hc 0 ∧ gB hc 3 = !gB hc 1)
  ∧ (gI hc 0 0 1 = nI tp ∧ ∀ i, i < tp → gI hc 1 0 i = sbt (T i))
  ∧ (gI hc 21 0 0 = nI un ∧ gI hc 21 0 1 = nI nx ∧ ∀ i, i < un → WkC hc (2 + (nx + 8 - un + i) % 8) (row U i))
  ∧ (gI hc 0 0 7 = nI im ∧ ∀ i, i < im → WkC hc (10 + i) (row K i))
  ∧ gI hc 2 0 0 = nI fa
def Cch (hc : AH) (R : Nat → Nat) : Prop := 1 ≤ R 0 → nC R ≤ 12 → (gI hc 28 0 1 = nI 0 ∨ gI hc 28 0 1 = nI 1 ∧ LawT hc R) ∧ CFew hc R
def Cc0 (hc : AH) : Prop := (gI hc 28 0 1 = nI 0 ∨ gI hc 28 0 1 = nI 1)
def MA (hm : AH) (R S U K T : Nat → Nat) (tp un im fa : Nat) : Prop :=
  MoR hm R ∧ MoS hm S ∧ (∀ i, i < 2720 → gI hm 40 0 i = nI (U i)) ∧ (∀ i, i < 1020 → gI hm 41 0 i = nI (K i)) ∧ (gI hm 32 0 2 = nI tp ∧ ∀ i, i < tp → gI hm 33 0 i = nI (T i))
  ∧ gI hm 32 0 22 = nI un ∧ gI hm 32 0 23 = nI im ∧ gI hm 32 0 9 = nI fa ∧ gI hm 32 0 14 = nI (hbk R)
def Rel (hc hm : AH) : Prop := ∃ (R S U K T : Nat → Nat) (tp un im nx fa tr pl : Nat), Inv R S U K T tp un im nx fa ∧ CA hc R S U K T tp un im nx fa ∧ Cch hc R ∧ MA hm R S U K T tp un im fa
  ∧ (tr ≤ 6 ∧ gI hc 0 0 10 = nI tr ∧ gI hm 32 0 11 = nI tr ∧ (tr = 4 → gI hc 2 0 1 = nI pl ∧ gI hm 32 0 10 = nI pl))
theorem CA_of {hc hc' : AH} {R S U K T : Nat → Nat} {tp un im nx fa : Nat} (A : CA hc R S U K T tp un im nx fa) (e : ∀ k i j, ¬ (k = 0 ∧ j = 10) → k < 24 → gI hc' k i j = gI hc k i j) (e2 : hc'.2.2 = hc.2.2) : CA hc' R S U K T tp un im nx fa := by
  obtain ⟨a1, a2, a3, a4, a5, a6, a7⟩ := A
  have eb : ∀ b, gB hc' b = gB hc b := fun b => by unfold gB; rw [e2]
  have ew : ∀ w S, WkC hc w S → WkC hc' w S := fun w S W => WkC_of W (fun k j hk => e k w j (by omega) (by omega))
  refine ⟨?_, ?_, ?_, ⟨?_, fun i hi => ?_⟩, ⟨?_, ?_, fun i hi => ew _ _ (a5.2.2 i hi)⟩, ⟨?_, fun i hi => ew _ _ (a6.2 i hi)⟩, ?_⟩
  · rw [eb]; exact BkC_of a1 (fun k j hk => e k _ j (by omega) (by omega))
  · rw [eb]; exact ew _ _ a2
  · rw [eb, eb, eb, eb]; exact a3
  · rw [e 0 0 1 (by omega) (by omega)]; exact a4.1
  · rw [e 1 0 i (by omega) (by omega)]; exact a4.2 i hi
  · rw [e 21 0 0 (by omega) (by omega)]; exact a5.1
  · rw [e 21 0 1 (by omega) (by omega)]; exact a5.2.1
  · rw [e 0 0 7 (by omega) (by omega)]; exact a6.1
  · rw [e 2 0 0 (by omega) (by omega)]; exact a7
theorem Cch_of {hc hc' : AH} {R : Nat → Nat} (C : Cch hc R) (e : ∀ k i j, (k = 28 ∨ k = 29 ∨ k = 30) → gI hc' k i j = gI hc k i j) : Cch hc' R := by
  intro h0 hn
  obtain ⟨c1, c2⟩ := C h0 hn
  constructor
  · rw [e 28 0 1 (by omega)]
    rcases c1 with c1 | ⟨c1, cT⟩
    · exact Or.inl c1
    · exact Or.inr ⟨c1, fun j hj => (e 29 0 j (by omega)).trans (cT j hj)⟩
  · unfold CFew
    rw [e 28 0 3 (by omega), e 28 0 4 (by omega)]
    rcases c2 with c2 | ⟨s, l, d1, d2, d3, d4, d5⟩
    · exact Or.inl c2
    · exact Or.inr ⟨s, l, d1, d2, d3, d4, fun t ht => (e 30 0 t (by omega)).trans (d5 t ht)⟩
theorem MA_of {hm hm' : AH} {R S U K T : Nat → Nat} {tp un im fa : Nat} (A : MA hm R S U K T tp un im fa) (e : ∀ k i j, (k = 33 ∨ k = 35 ∨ k = 37 ∨ k = 40 ∨ k = 41 ∨ k = 32 ∧ (j = 2 ∨ j = 22 ∨ j = 23 ∨ j = 9 ∨ j = 14)) → gI hm' k i j = gI hm k i j) : MA hm' R S U K T tp un im fa := by
  obtain ⟨a1, a2, a3, a4, a5, a6, a7, a8, a9⟩ := A
  refine ⟨fun i hi => ?_, fun i hi => ?_, fun i hi => ?_, fun i hi => ?_, ⟨?_, fun i hi => ?_⟩, ?_, ?_, ?_, ?_⟩
  · rw [e 35 0 i (by omega)]; exact a1 i hi
  · rw [e 37 0 i (by omega)]; exact a2 i hi
  · rw [e 40 0 i (by omega)]; exact a3 i hi
  · rw [e 41 0 i (by omega)]; exact a4 i hi
  · rw [e 32 0 2 (by omega)]; exact a5.1
  · rw [e 33 0 i (by omega)]; exact a5.2 i hi
  · rw [e 32 0 22 (by omega)]; exact a6
  · rw [e 32 0 23 (by omega)]; exact a7
  · rw [e 32 0 9 (by omega)]; exact a8
  · rw [e 32 0 14 (by omega)]; exact a9
/-! the answers' ends -/
def cX (h : AH) (t : Nat) : AH := uI h 0 0 10 (nI t)
def mG (h : AH) : AH := uI (uI h 32 0 0 (nI 0)) 32 0 11 (nI 0)
def mX (h : AH) (t : Nat) : AH := uI h 32 0 11 (nI t)
theorem c_accept (h : AH) (v : Int32) : jX_accept h v = some (v, cX h 0) := by
  rw [jX_accept, jbn]
  rfl
theorem c_refuse (h : AH) (t : Nat) : jX_refuse h (nI t) = some (-nI 1, cX h t) := by
  rw [jX_refuse, jbn]
  rfl
theorem c_deny (h : AH) (t : Nat) : jX_deny h (nI t) = some (nI 0, cX h t) := by
  rw [jX_deny, jbn]
  rfl
theorem c_grant (h : AH) : jX_grant h = some (nI 1, cX h 0) := by
  rw [jX_grant, jbn]
  rfl
theorem m_good (h : AH) : jM_good h = some (mG h) := by
  rw [jM_good, jbn, jbn]
  rfl
theorem m_no (h : AH) (t : Nat) : jM_no h (nI t) = some (-nI 1, mX h t) := by
  rw [jM_no, jbn]
  rfl
theorem m_isNot (h : AH) (t : Nat) : jM_isNot h (nI t) = some (nI 0, mX h t) := by
  rw [jM_isNot, jbn]
  rfl
section F
variable {hc hm : AH} {R S U K T : Nat → Nat} {tp un im nx fa t : Nat}
theorem CA_X (A : CA hc R S U K T tp un im nx fa) : CA (cX hc t) R S U K T tp un im nx fa := CA_of A (fun k i j h1 h2 => gI_uI_n (by omega)) rfl
theorem Cch_X (C : Cch hc R) : Cch (cX hc t) R := Cch_of C (fun k i j hk => gI_uI_n (by omega))
theorem MA_G (A : MA hm R S U K T tp un im fa) : MA (mG hm) R S U K T tp un im fa := MA_of A (fun k i j hk => (gI_uI_n (by omega)).trans (gI_uI_n (by omega)))
theorem MA_X (A : MA hm R S U K T tp un im fa) : MA (mX hm t) R S U K T tp un im fa := MA_of A (fun k i j hk => gI_uI_n (by omega))
theorem mG_14 : gI (mG hm) 32 0 14 = gI hm 32 0 14 := (gI_uI_n (by omega)).trans (gI_uI_n (by omega))
theorem mG_11 : gI (mG hm) 32 0 11 = nI 0 := gI_uI_s _ _ _ _ _
theorem mX_11 : gI (mX hm t) 32 0 11 = nI t := gI_uI_s _ _ _ _ _
theorem cX_10 : gI (cX hc t) 0 0 10 = nI t := gI_uI_s _ _ _ _ _
theorem RelM (V : Inv R S U K T tp un im nx fa) (A : CA hc R S U K T tp un im nx fa) (C : Cch hc R) (M : MA hm R S U K T tp un im fa) (h10 : gI hc 0 0 10 = nI t) (h11 : gI hm 32 0 11 = nI t) (ht : t ≤ 6 ∧ t ≠ 4) : Rel hc hm :=
  ⟨R, S, U, K, T, tp, un, im, nx, fa, t, 0, V, A, C, M, ht.1, h10, h11, fun z => absurd z ht.2⟩
theorem RelX (V : Inv R S U K T tp un im nx fa) (A : CA hc R S U K T tp un im nx fa) (C : Cch hc R) (M : MA hm R S U K T tp un im fa) (ht : t ≤ 6 ∧ t ≠ 4) : Rel (cX hc t) (mX hm t) := RelM V (CA_X A) (Cch_X C) (MA_X M) cX_10 mX_11 ht
theorem RelG (V : Inv R S U K T tp un im nx fa) (A : CA hc R S U K T tp un im nx fa) (C : Cch hc R) (M : MA hm R S U K T tp un im fa) : Rel (cX hc 0) (mG hm) := RelM V (CA_X A) (Cch_X C) (MA_G M) cX_10 mG_11 (by omega)
theorem isTold_R (B : BkC hc (gB hc 0).toNat R) (I : BkI R) : jB_isTold hc (gB hc 0).toNat = some (nI (hbk R)) := c_isTold B I
end F
