/-! ===== the abstract heap: ints, longs, and which of two objects is meant ===== -/
abbrev AH : Type := (Nat → Nat → Nat → Int32) × (Nat → Nat → Nat → Int64) × (Nat → Bool)
def gI (h : AH) (k i j : Nat) : Int32 := h.1 k i j
def gL (h : AH) (k i j : Nat) : Int64 := h.2.1 k i j
def gB (h : AH) (b : Nat) : Bool := h.2.2 b
def uI (h : AH) (k i j : Nat) (v : Int32) : AH := (fun a b c => if a = k ∧ b = i ∧ c = j then v else h.1 a b c, h.2.1, h.2.2)
def uL (h : AH) (k i j : Nat) (v : Int64) : AH := (h.1, fun a b c => if a = k ∧ b = i ∧ c = j then v else h.2.1 a b c, h.2.2)
def uB (h : AH) (b : Nat) (v : Bool) : AH := (h.1, h.2.1, fun a => if a = b then v else h.2.2 a)
def uC (h : AH) (k0 i0 sp k1 i1 dp n : Nat) : AH := (fun a b c => if a = k1 ∧ b = i1 then va_cpy (h.1 k0 i0) (h.1 k1 i1) sp dp n c else h.1 a b c, h.2.1, h.2.2)
theorem gI_uI (h : AH) (k i j : Nat) (v : Int32) (a b c : Nat) : gI (uI h k i j v) a b c = if a = k ∧ b = i ∧ c = j then v else gI h a b c := rfl
theorem gI_uL (h : AH) (k i j : Nat) (v : Int64) (a b c : Nat) : gI (uL h k i j v) a b c = gI h a b c := rfl
theorem gI_uB (h : AH) (k : Nat) (v : Bool) (a b c : Nat) : gI (uB h k v) a b c = gI h a b c := rfl
theorem gL_uI (h : AH) (k i j : Nat) (v : Int32) (a b c : Nat) : gL (uI h k i j v) a b c = gL h a b c := rfl
theorem gL_uL (h : AH) (k i j : Nat) (v : Int64) (a b c : Nat) : gL (uL h k i j v) a b c = if a = k ∧ b = i ∧ c = j then v else gL h a b c := rfl
theorem gL_uB (h : AH) (k : Nat) (v : Bool) (a b c : Nat) : gL (uB h k v) a b c = gL h a b c := rfl
theorem gB_uI (h : AH) (k i j : Nat) (v : Int32) (a : Nat) : gB (uI h k i j v) a = gB h a := rfl
theorem gB_uL (h : AH) (k i j : Nat) (v : Int64) (a : Nat) : gB (uL h k i j v) a = gB h a := rfl
theorem gB_uB (h : AH) (k : Nat) (v : Bool) (a : Nat) : gB (uB h k v) a = if a = k then v else gB h a := rfl
theorem gI_uC (h : AH) (k0 i0 sp k1 i1 dp n a b c : Nat) : gI (uC h k0 i0 sp k1 i1 dp n) a b c = if a = k1 ∧ b = i1 then va_cpy (gI h k0 i0) (gI h k1 i1) sp dp n c else gI h a b c := rfl
theorem gL_uC (h : AH) (k0 i0 sp k1 i1 dp n a b c : Nat) : gL (uC h k0 i0 sp k1 i1 dp n) a b c = gL h a b c := rfl
theorem gB_uC (h : AH) (k0 i0 sp k1 i1 dp n a : Nat) : gB (uC h k0 i0 sp k1 i1 dp n) a = gB h a := rfl
/-! ===== the kinds of cells ===== -/
def KD : Nat → (Nat × List (Nat × Nat × Nat)) ⊕ (Nat × Nat × Nat) := fun k => match k with
  | 0 => .inl (7, [(2, 1, 0), (0, 0, 0), (2, 2, 0), (3, 3, 0), (3, 13, 1), (2, 21, 0), (2, 23, 0), (0, 0, 0), (2, 24, 0), (2, 28, 0), (0, 0, 0)])
  | 1 => .inr (1, 900, 0)
  | 2 => .inl (4, [(0, 0, 0), (0, 0, 0), (3, 3, 2), (3, 13, 3), (2, 17, 0), (0, 0, 0), (0, 0, 0)])
  | 3 => .inl (0, [(0, 0, 0), (0, 0, 0), (0, 0, 0), (0, 0, 0), (0, 0, 0), (0, 0, 0), (0, 0, 0), (0, 0, 0), (1, 4, 0), (1, 5, 0), (1, 6, 0), (1, 7, 0), (1, 8, 0), (1, 9, 0), (1, 10, 0), (1, 11, 0), (1, 12, 0)])
  | 4 => .inr (3, 5, 0)
  | 5 => .inr (0, 5, 0)
  | 6 => .inr (0, 5, 0)
  | 7 => .inr (0, 5, 0)
  | 8 => .inr (3, 5, 0)
  | 9 => .inr (0, 4, 0)
  | 10 => .inr (0, 4, 0)
  | 11 => .inr (0, 4, 0)
  | 12 => .inr (0, 24, 0)
  | 13 => .inl (6, [(0, 0, 0), (0, 0, 0), (1, 14, 0), (1, 15, 0), (1, 16, 0)])
  | 14 => .inr (0, 12, 0)
  | 15 => .inr (0, 12, 0)
  | 16 => .inr (0, 288, 0)
  | 17 => .inl (5, [(0, 0, 0), (2, 18, 0), (2, 19, 0), (2, 20, 0)])
  | 18 => .inr (0, 901, 0)
  | 19 => .inr (0, 901, 0)
  | 20 => .inr (3, 901, 0)
  | 21 => .inl (2, [(0, 0, 0), (0, 0, 0), (2, 22, 0)])
  | 22 => .inr (4, 8, 2)
  | 23 => .inr (4, 3, 10)
  | 24 => .inl (1, [(0, 0, 0), (2, 25, 0), (2, 26, 0), (2, 27, 0)])
  | 25 => .inr (0, 12, 0)
  | 26 => .inr (0, 12, 0)
  | 27 => .inr (3, 4096, 0)
  | 28 => .inl (3, [(2, 29, 0), (0, 0, 0), (2, 30, 0), (0, 0, 0), (0, 0, 0), (2, 31, 0), (0, 0, 0), (0, 0, 0), (0, 0, 0), (0, 0, 0), (0, 0, 0)])
  | 29 => .inr (1, 4096, 0)
  | 30 => .inr (0, 4096, 0)
  | 31 => .inr (0, 4096, 0)
  | 32 => .inl (8, [(0, 0, 0), (2, 33, 0), (0, 0, 0), (0, 0, 0), (0, 0, 0), (0, 0, 0), (0, 0, 0), (0, 0, 0), (0, 0, 0), (0, 0, 0), (0, 0, 0), (0, 0, 0), (2, 34, 0), (0, 0, 0), (0, 0, 0), (2, 35, 0), (2, 36, 0), (2, 37, 0), (2, 38, 0), (2, 39, 0), (2, 40, 0), (2, 41, 0), (0, 0, 0), (0, 0, 0), (0, 0, 0), (0, 0, 0), (0, 0, 0), (0, 0, 0), (2, 42, 0), (2, 43, 0), (0, 0, 0), (0, 0, 0), (2, 44, 0), (2, 45, 0)])
  | 33 => .inr (0, 900, 0)
  | 34 => .inr (0, 8, 0)
  | 35 => .inr (0, 161, 0)
  | 36 => .inr (0, 161, 0)
  | 37 => .inr (0, 340, 0)
  | 38 => .inr (0, 340, 0)
  | 39 => .inr (0, 340, 0)
  | 40 => .inr (0, 2720, 0)
  | 41 => .inr (0, 1020, 0)
  | 42 => .inr (0, 12, 0)
  | 43 => .inr (3, 4096, 0)
  | 44 => .inr (0, 4096, 0)
  | 45 => .inr (2, 4096, 0)
  | _ => .inr (9, 0, 0)
def nI0 : Nat → Nat := fun k => match k with
  | 0 => 1
  | 1 => 1
  | 2 => 1
  | 3 => 2
  | 4 => 2
  | 5 => 2
  | 6 => 2
  | 7 => 2
  | 8 => 2
  | 9 => 2
  | 10 => 2
  | 11 => 2
  | 12 => 2
  | 13 => 13
  | 14 => 13
  | 15 => 13
  | 16 => 13
  | 17 => 1
  | 18 => 1
  | 19 => 1
  | 20 => 1
  | 21 => 1
  | 22 => 1
  | 23 => 1
  | 24 => 1
  | 25 => 1
  | 26 => 1
  | 27 => 1
  | 28 => 1
  | 29 => 1
  | 30 => 1
  | 31 => 1
  | _ => 0
def nI1 : Nat → Nat := fun k => match k with
  | 32 => 1
  | 33 => 1
  | 34 => 1
  | 35 => 1
  | 36 => 1
  | 37 => 1
  | 38 => 1
  | 39 => 1
  | 40 => 1
  | 41 => 1
  | 42 => 1
  | 43 => 1
  | 44 => 1
  | 45 => 1
  | _ => 0
def nIn (wd k : Nat) : Nat := match wd with
  | 0 => nI0 k
  | _ => nI1 k
theorem nIn_lt {wd k i : Nat} (h : i < nIn wd k) : k < 46 := by
  have h0 : nI0 k ≠ 0 → k < 46 := by
    intro q
    unfold nI0 at q
    split at q <;> first | omega | exact absurd rfl q
  have h1 : nI1 k ≠ 0 → k < 46 := by
    intro q
    unfold nI1 at q
    split at q <;> first | omega | exact absurd rfl q
  cases wd with
  | zero => exact h0 (by intro q; have h2 : i < nI0 k := h; omega)
  | succ n => exact h1 (by intro q; have h2 : i < nI1 k := h; omega)
def OB : Nat → List (Nat × Nat) := fun wd => match wd with
  | 0 => [(0, 0), (23, 0), (1, 0), (2, 0), (3, 1), (4, 1), (5, 1), (6, 1), (7, 1), (8, 1), (9, 1), (10, 1), (11, 1), (12, 1), (13, 1), (14, 1), (15, 1), (16, 1), (17, 0), (18, 0), (19, 0), (20, 0), (3, 0), (4, 0), (5, 0), (6, 0), (7, 0), (8, 0), (9, 0), (10, 0), (11, 0), (12, 0), (13, 0), (14, 0), (15, 0), (16, 0), (21, 0), (22, 0), (13, 2), (14, 2), (15, 2), (16, 2), (13, 3), (14, 3), (15, 3), (16, 3), (13, 4), (14, 4), (15, 4), (16, 4), (13, 5), (14, 5), (15, 5), (16, 5), (13, 6), (14, 6), (15, 6), (16, 6), (13, 7), (14, 7), (15, 7), (16, 7), (13, 8), (14, 8), (15, 8), (16, 8), (13, 9), (14, 9), (15, 9), (16, 9), (24, 0), (25, 0), (26, 0), (27, 0), (28, 0), (29, 0), (30, 0), (31, 0), (13, 10), (14, 10), (15, 10), (16, 10), (13, 11), (14, 11), (15, 11), (16, 11), (13, 12), (14, 12), (15, 12), (16, 12)]
  | _ => [(32, 0), (33, 0), (34, 0), (35, 0), (36, 0), (37, 0), (38, 0), (39, 0), (40, 0), (41, 0), (42, 0), (43, 0), (44, 0), (45, 0)]
theorem OB_in0 : ∀ o ∈ OB 0, o.2 < nIn 0 o.1 := by decide +kernel
theorem OB_in1 : ∀ o ∈ OB 1, o.2 < nIn 1 o.1 := by decide +kernel
theorem OB_all0 : ∀ k, k < 46 → ∀ i, i < nIn 0 k → (k, i) ∈ OB 0 := by decide +kernel
theorem OB_all1 : ∀ k, k < 46 → ∀ i, i < nIn 1 k → (k, i) ∈ OB 1 := by decide +kernel
theorem OB_mem {wd k i : Nat} : (k, i) ∈ OB wd ↔ i < nIn wd k := by
  constructor
  · intro h
    cases wd with
    | zero => exact OB_in0 (k, i) h
    | succ n => exact OB_in1 (k, i) h
  · intro h
    have hk := nIn_lt h
    cases wd with
    | zero => exact OB_all0 k hk i h
    | succ n => exact OB_all1 k hk i h
theorem OB_nd (wd : Nat) : (OB wd).Nodup := by
  cases wd with
  | zero => decide +kernel
  | succ n => exact (show (OB 1).Nodup by decide +kernel)
theorem OB_one {wd a b : Nat} {o : Nat × Nat} (h1 : (OB wd)[a]? = some o) (h2 : (OB wd)[b]? = some o) : a = b := by
  obtain ⟨l1, -⟩ := List.getElem?_eq_some_iff.mp h1
  exact (List.getElem?_inj l1 (OB_nd wd)).mp (h1.trans h2.symm)
theorem OB_at {wd k i : Nat} (h : i < nIn wd k) : ∃ q : Nat, (OB wd)[q]? = some (k, i) := List.mem_iff_getElem?.mp (OB_mem.mpr h)
/-! ===== what the cells hold ===== -/
def fvl (ad : Nat → Nat → Nat) (h : AH) (k i j : Nat) (q : Nat × Nat × Nat) : Value := match q.1 with
  | 0 => .int (gI h k i j)
  | 1 => .ref (ad q.2.1 i)
  | 2 => .ref (ad q.2.1 q.2.2)
  | _ => .ref (ad q.2.1 (gB h q.2.2).toNat)
def avl (cT : Nat → ClassId) (ad : Nat → Nat → Nat) (h : AH) (k i : Nat) (q : Nat × Nat × Nat) : ClassId × vp_A := match q.1 with
  | 3 => (cT 3, q.2.1, .inr (.inl (gL h k i)))
  | 4 => (cT 4, q.2.1, .inr (.inr (.inr (.inr (fun j => some (ad 13 (q.2.2 + j)))))))
  | _ => (cT q.1, q.2.1, .inl (gI h k i))
def cellE (cT : Nat → ClassId) (ad : Nat → Nat → Nat) (h : AH) (k i : Nat) : va_E := match KD k with
  | .inl o => .inr (o.1, o.2.mapIdx (fun j q => fvl ad h k i j q))
  | .inr q => .inl (avl cT ad h k i q)
theorem cellE_o {cT : Nat → ClassId} {ad : Nat → Nat → Nat} {h : AH} {k i : Nat} {o : Nat × List (Nat × Nat × Nat)} (hk : KD k = .inl o) : cellE cT ad h k i = .inr (o.1, o.2.mapIdx (fun j q => fvl ad h k i j q)) := by
  unfold cellE
  rw [hk]
theorem cellE_a {cT : Nat → ClassId} {ad : Nat → Nat → Nat} {h : AH} {k i : Nat} {q : Nat × Nat × Nat} (hk : KD k = .inr q) : cellE cT ad h k i = .inl (avl cT ad h k i q) := by
  unfold cellE
  rw [hk]
theorem cellE_same {cT : Nat → ClassId} {ad : Nat → Nat → Nat} {h h' : AH} {k i : Nat} (e1 : gI h k i = gI h' k i) (e2 : gL h k i = gL h' k i) (e3 : h.2.2 = h'.2.2) : cellE cT ad h k i = cellE cT ad h' k i := by
  unfold cellE fvl avl gB
  rw [e1, e2, e3]
def WS (wd : Nat) (cT : Nat → ClassId) (ad : Nat → Nat → Nat) (h : AH) : va_W := (OB wd).map fun o => (ad o.1 o.2, cellE cT ad h o.1 o.2)
theorem WS_at {wd q k i : Nat} (cT : Nat → ClassId) (ad : Nat → Nat → Nat) (h : AH) (hq : (OB wd)[q]? = some (k, i)) : (WS wd cT ad h)[q]? = some (ad k i, cellE cT ad h k i) := by
  unfold WS
  rw [List.getElem?_map, hq]
  rfl
theorem WS_set {wd q k i : Nat} {cT : Nat → ClassId} {ad : Nat → Nat → Nat} {h h' : AH} {e : va_E} (hq : (OB wd)[q]? = some (k, i)) (he : cellE cT ad h' k i = e) (ho : ∀ k' i', ¬ (k' = k ∧ i' = i) → cellE cT ad h' k' i' = cellE cT ad h k' i') : (WS wd cT ad h).set q (ad k i, e) = WS wd cT ad h' := by
  apply List.ext_getElem?
  intro n
  rw [List.getElem?_set]
  by_cases hn : q = n
  · subst hn
    rw [if_pos rfl, WS_at cT ad h' hq, he]
    obtain ⟨l1, -⟩ := List.getElem?_eq_some_iff.mp hq
    rw [if_pos (by unfold WS; simpa using l1)]
  · rw [if_neg hn]
    unfold WS
    rw [List.getElem?_map, List.getElem?_map]
    cases hm : (OB wd)[n]? with
    | none => rfl
    | some o =>
      obtain ⟨k', i'⟩ := o
      show some (ad k' i', cellE cT ad h k' i') = some (ad k' i', cellE cT ad h' k' i')
      rw [ho k' i' (fun z => hn (OB_one hq (by rw [hm, z.1, z.2])))]
def Inj (wd : Nat) (ad : Nat → Nat → Nat) : Prop := ∀ k i k' i', i < nIn wd k → i' < nIn wd k' → ad k i = ad k' i' → k = k' ∧ i = i'
def AO (wd : Nat) (ad : Nat → Nat → Nat) : Nat → Prop := fun q => ∃ k i, i < nIn wd k ∧ q = ad k i
theorem WS_D {wd : Nat} {cT : Nat → ClassId} {ad : Nat → Nat → Nat} {h : AH} (hi : Inj wd ad) : va_D (AO wd ad) (WS wd cT ad h) := by
  have key : ∀ (n : Nat) (p : Nat × va_E), (WS wd cT ad h)[n]? = some p → ∃ k i, (OB wd)[n]? = some (k, i) ∧ p.1 = ad k i := by
    intro n p hp
    unfold WS at hp
    rw [List.getElem?_map] at hp
    cases hm : (OB wd)[n]? with
    | none => rw [hm] at hp; cases hp
    | some o =>
      rw [hm] at hp
      cases hp
      exact ⟨o.1, o.2, rfl, rfl⟩
  refine ⟨fun a b p q hp hq e => ?_, fun n p hp => ?_⟩
  · obtain ⟨k, i, h1, e1⟩ := key a p hp
    obtain ⟨k', i', h2, e2⟩ := key b q hq
    obtain ⟨z1, z2⟩ := hi k i k' i' (OB_mem.mp (List.mem_of_getElem? h1)) (OB_mem.mp (List.mem_of_getElem? h2)) (by rw [← e1, ← e2]; exact e)
    subst z1; subst z2
    exact OB_one h1 h2
  · obtain ⟨k, i, h1, e1⟩ := key n p hp
    exact ⟨k, i, OB_mem.mp (List.mem_of_getElem? h1), e1⟩
def tysJ (cT : Nat → ClassId) : List (ClassId × FieldType) := [(cT 0, .int), (cT 1, .byte), (cT 2, .boolean), (cT 3, .long), (cT 4, .object "PaintedOver$Works")]

/-! ===== the String constants of the model ===== -/
def sIx : Nat → Nat := fun i => match i with
  | 0 => 121
  | 1 => 123
  | 2 => 125
  | 3 => 127
  | 4 => 129
  | 5 => 131
  | 6 => 199
  | 7 => 205
  | 8 => 207
  | 9 => 209
  | 10 => 218
  | 11 => 220
  | 12 => 222
  | 13 => 233
  | 14 => 252
  | 15 => 258
  | _ => 260
def sTx : Nat → String := fun i => match i with
  | 0 => "wall"
  | 1 => "colou\x72"
  | 2 => "hand"
  | 3 => "work"
  | 4 => "contract"
  | 5 => "want"
  | 6 => "wide"
  | 7 => "high"
  | 8 => "keeps"
  | 9 => "parts"
  | 10 => "thick"
  | 11 => "fades"
  | 12 => "since"
  | 13 => "to"
  | 14 => "yea\x72"
  | 15 => "from"
  | _ => "until"
def sLen : List Nat := [4, 6, 4, 4, 8, 4, 4, 4, 5, 5, 5, 5, 5, 2, 4, 4, 5]
def sByt : List (List Int32) := [[119, 97, 108, 108], [99, 111, 108, 111, 117, 114], [104, 97, 110, 100], [119, 111, 114, 107], [99, 111, 110, 116, 114, 97, 99, 116], [119, 97, 110, 116], [119, 105, 100, 101], [104, 105, 103, 104], [107, 101, 101, 112, 115], [112, 97, 114, 116, 115], [116, 104, 105, 99, 107], [102, 97, 100, 101, 115], [115, 105, 110, 99, 101], [116, 111], [121, 101, 97, 114], [102, 114, 111, 109], [117, 110, 116, 105, 108]]
