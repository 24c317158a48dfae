/-! ===== fields and arrays ===== -/
/-- the entry idx of own's pool is the field j of the objects of kind k, of the sort q -/
def FLd (own : String) (idx k j : Nat) (q : Nat × Nat × Nat) : Prop := ∃ (ci : Nat) (fs : List (Nat × Nat × Nat)) (C : String) (T : u_T) (N : Nat), KD k = .inl (ci, fs) ∧ vwCl[ci]? = some (C, T, N) ∧ j < N ∧ fs[j]? = some q ∧ (∀ w ∈ u_ws C T N, w ∈ JT) ∧ Cond.fieldLink own idx (T j).1 (T j).2.1 (T j).2.2.1 ∈ JT
/-- and it can be put, being of the type ty -/
def FSt (own : String) (idx k j : Nat) (q : Nat × Nat × Nat) (ty : FieldType) : Prop := ∃ (ci : Nat) (fs : List (Nat × Nat × Nat)) (C : String) (T : u_T) (N : Nat) (t0 : Nat → FieldType), KD k = .inl (ci, fs) ∧ vwCl[ci]? = some (C, T, N) ∧ j < N ∧ fs[j]? = some q ∧ (∀ w ∈ u_ws C T N, w ∈ JT) ∧ Cond.fieldLink own idx (T j).1 (T j).2.1 (T j).2.2.1 ∈ JT ∧ (∀ k, k < N → parseFieldDescriptor (T k).2.2.1 = some (t0 k)) ∧ (∀ a, a < N → ∀ b, b < N → a ≠ b → (T a).2.1 ≠ (T b).2.1) ∧ (T j).2.2.2 = false ∧ parseFieldDescriptor (T j).2.2.1 = some ty
/-- an array kind: its type, its length -/
def AK (k : Nat) : Option (Nat × Nat) := match KD k with
  | .inl _ => none
  | .inr q => some (q.1, q.2.1)
theorem AK_of {k t n : Nat} (h : AK k = some (t, n)) : ∃ b, KD k = .inr (t, n, b) := by
  unfold AK at h
  split at h
  · cases h
  · rename_i q hq
    obtain ⟨a, b, c⟩ := q
    cases h
    exact ⟨c, hq⟩
def asz (k : Nat) : Nat := match AK k with
  | none => 0
  | some q => q.2
def inb (x : Int32) (n : Nat) : Bool := decide (¬ (x < 0 ∨ n ≤ x.toNatClampNeg))
theorem inb_in {x : Int32} {n : Nat} (h : inb x n = true) : vp_in x n := by
  unfold vp_in
  exact of_decide_eq_true h
def isZ (x : Int32) : Bool := decide (x = 0 ∨ x = 1)
theorem mapIdx_put {ad : Nat → Nat → Nat} {h h' : AH} {k i j : Nat} {fs : List (Nat × Nat × Nat)} {q : Nat × Nat × Nat} {v : Value} (hj : fs[j]? = some q) (hv : fvl ad h' k i j q = v) (ho : ∀ (m : Nat) (r : Nat × Nat × Nat), fs[m]? = some r → m ≠ j → fvl ad h' k i m r = fvl ad h k i m r) : fs.mapIdx (fun m r => fvl ad h' k i m r) = (fs.mapIdx (fun m r => fvl ad h k i m r)).set j v := by
  apply List.ext_getElem?
  intro m
  rw [List.getElem?_set, List.getElem?_mapIdx, List.getElem?_mapIdx]
  by_cases hm : j = m
  · subst hm
    obtain ⟨l1, -⟩ := List.getElem?_eq_some_iff.mp hj
    rw [if_pos rfl, hj, if_pos (by simpa using l1), ← hv]
    rfl
  · rw [if_neg hm]
    cases hr : fs[m]? with
    | none => rfl
    | some r =>
      show some (fvl ad h' k i m r) = some (fvl ad h k i m r)
      rw [ho m r hr (fun z => hm z.symm)]
section Rules
variable {G : JG} {M : MI} {α : Type} {rv : α → Option Value × AH} {pc : Nat} {ls : List (Nat × Value)} {st : List Value} {h : AH} {o : Option α}
theorem E_get {idx k i j : Nat} {q : Nat × Nat × Nat} (hF : FLd M.y.cls idx k j q) (hd : decode M.cc pc = .ok (.getfield idx, 3)) (hi : i < nIn M.wd k) (kk : Sim G M rv (pc + 3) ls (fvl G.ad h k i j q :: st) h o) : Sim G M rv pc ls (.ref (G.ad k i) :: st) h o := by
  intro a ha
  intro p e s m args below meth c H locs la hx hb hr hts hown hml hk hI hK hX hP hS hl
  obtain ⟨ci, fs, C, T, N, h1, h2, h3, h4, h5, h6⟩ := hF
  obtain ⟨q0, hq⟩ := OB_at hi
  have he := WS_at G.cT G.ad h hq
  rw [cellE_o h1] at he
  exact va_get (D := G.D) (cl := vwCl) (tys := tysJ G.cT) (C := C) (T := T) (N := N) (ref := (T j).1) hx hb hts h5 hown hK hP q0 he h2 j h3 (hts _ h6) (fun _ z => z) (v := fvl G.ad h k i j q) (by rw [List.getElem?_mapIdx, h4]; rfl) hd (kk a ha p e s m args below meth c H locs la hx hb hr hts hown hml hk hI hK hX hP hS hl)
theorem E_getI {idx k i j : Nat} (hF : FLd M.y.cls idx k j (0, 0, 0)) (hd : decode M.cc pc = .ok (.getfield idx, 3)) (hi : i < nIn M.wd k) (kk : Sim G M rv (pc + 3) ls (.int (gI h k i j) :: st) h o) : Sim G M rv pc ls (.ref (G.ad k i) :: st) h o := E_get hF hd hi kk
theorem E_getS {idx k i j x : Nat} (hF : FLd M.y.cls idx k j (1, x, 0)) (hd : decode M.cc pc = .ok (.getfield idx, 3)) (hi : i < nIn M.wd k) (kk : Sim G M rv (pc + 3) ls (.ref (G.ad x i) :: st) h o) : Sim G M rv pc ls (.ref (G.ad k i) :: st) h o := E_get hF hd hi kk
theorem E_getF {idx k i j x y : Nat} (hF : FLd M.y.cls idx k j (2, x, y)) (hd : decode M.cc pc = .ok (.getfield idx, 3)) (hi : i < nIn M.wd k) (kk : Sim G M rv (pc + 3) ls (.ref (G.ad x y) :: st) h o) : Sim G M rv pc ls (.ref (G.ad k i) :: st) h o := E_get hF hd hi kk
theorem E_getD {idx k i j x b : Nat} (hF : FLd M.y.cls idx k j (3, x, b)) (hd : decode M.cc pc = .ok (.getfield idx, 3)) (hi : i < nIn M.wd k) (kk : Sim G M rv (pc + 3) ls (.ref (G.ad x (gB h b).toNat) :: st) h o) : Sim G M rv pc ls (.ref (G.ad k i) :: st) h o := E_get hF hd hi kk
theorem E_put {idx k i j : Nat} {q : Nat × Nat × Nat} {ty : FieldType} {v : Value} {h' : AH} (hF : FSt M.y.cls idx k j q ty) (hn : narrow ty v = v) (hf : fits ty v = true) (hv : fvl G.ad h' k i j q = v)
    (ho : ∀ ci fs, KD k = .inl (ci, fs) → ∀ (m : Nat) (r : Nat × Nat × Nat), fs[m]? = some r → m ≠ j → fvl G.ad h' k i m r = fvl G.ad h k i m r) (hc : ∀ k' i', ¬ (k' = k ∧ i' = i) → cellE G.cT G.ad h' k' i' = cellE G.cT G.ad h k' i')
    (hd : decode M.cc pc = .ok (.putfield idx, 3)) (hi : i < nIn M.wd k) (kk : Sim G M rv (pc + 3) ls st h' o) : Sim G M rv pc ls (v :: .ref (G.ad k i) :: st) h o := by
  intro a ha
  intro p e s m args below meth c H locs la hx hb hr hts hown hml hk hI hK hX hP hS hl
  obtain ⟨ci, fs, C, T, N, t0, h1, h2, h3, h4, h5, h6, h7, h8, h9, h10⟩ := hF
  obtain ⟨q0, hq⟩ := OB_at hi
  have he := WS_at G.cT G.ad h hq
  rw [cellE_o h1] at he
  refine va_put (D := G.D) (cl := vwCl) (tys := tysJ G.cT) (C := C) (T := T) (N := N) (ref := (T j).1) hx hb hts h5 t0 h7 h8 hown hK hP (WS_D hI) hS q0 he h2 j h3 (hts _ h6) (fun _ z => z) h9 h10 hn hf (by obtain ⟨l1, -⟩ := List.getElem?_eq_some_iff.mp h4; simpa using l1) hd (fun H1 locs1 hP1 _ hS1 => ?_)
  rw [WS_set (h' := h') hq (by rw [cellE_o h1, mapIdx_put h4 hv (ho ci fs h1)]) hc] at hP1
  exact kk a ha p e s m args below meth c H1 locs1 la hx hb hr hts hown hml hk hI hK hX hP1 hS1 hl
theorem uI_cells (cT : Nat → ClassId) (ad : Nat → Nat → Nat) (h : AH) (k i j : Nat) (v : Int32) : ∀ k' i', ¬ (k' = k ∧ i' = i) → cellE cT ad (uI h k i j v) k' i' = cellE cT ad h k' i' := fun k' i' hn => cellE_same (funext fun c => by rw [gI_uI, if_neg (fun z => hn ⟨z.1, z.2.1⟩)]) rfl rfl
theorem uL_cells (cT : Nat → ClassId) (ad : Nat → Nat → Nat) (h : AH) (k i j : Nat) (v : Int64) : ∀ k' i', ¬ (k' = k ∧ i' = i) → cellE cT ad (uL h k i j v) k' i' = cellE cT ad h k' i' := fun k' i' hn => cellE_same rfl (funext fun c => by rw [gL_uL, if_neg (fun z => hn ⟨z.1, z.2.1⟩)]) rfl
theorem uI_fvl (ad : Nat → Nat → Nat) (h : AH) (k i j : Nat) (v : Int32) (m : Nat) (r : Nat × Nat × Nat) (hm : m ≠ j) : fvl ad (uI h k i j v) k i m r = fvl ad h k i m r := by
  unfold fvl
  rw [gI_uI, if_neg (fun z => hm z.2.2)]
  rfl
theorem E_putI {idx k i j : Nat} {v : Int32} (hF : FSt M.y.cls idx k j (0, 0, 0) .int) (hd : decode M.cc pc = .ok (.putfield idx, 3)) (hi : i < nIn M.wd k) (kk : Sim G M rv (pc + 3) ls st (uI h k i j v) o) : Sim G M rv pc ls (.int v :: .ref (G.ad k i) :: st) h o :=
  E_put hF rfl rfl (by show Value.int (gI (uI h k i j v) k i j) = _; rw [gI_uI, if_pos ⟨rfl, rfl, rfl⟩]) (fun _ _ _ m r _ hm => uI_fvl _ h k i j v m r hm) (uI_cells _ _ h k i j v) hd hi kk
theorem E_putZ {idx k i j : Nat} {v : Int32} (hF : FSt M.y.cls idx k j (0, 0, 0) .boolean) (hv : v = 0 ∨ v = 1) (hd : decode M.cc pc = .ok (.putfield idx, 3)) (hi : i < nIn M.wd k) (kk : Sim G M rv (pc + 3) ls st (uI h k i j v) o) : Sim G M rv pc ls (.int v :: .ref (G.ad k i) :: st) h o :=
  E_put hF (by rcases hv with rfl | rfl <;> rfl) (by rcases hv with rfl | rfl <;> rfl) (by show Value.int (gI (uI h k i j v) k i j) = _; rw [gI_uI, if_pos ⟨rfl, rfl, rfl⟩]) (fun _ _ _ m r _ hm => uI_fvl _ h k i j v m r hm) (uI_cells _ _ h k i j v) hd hi kk
theorem E_putZg {idx k i j : Nat} {v : Int32} (hF : FSt M.y.cls idx k j (0, 0, 0) .boolean) (hd : decode M.cc pc = .ok (.putfield idx, 3)) (hi : i < nIn M.wd k) (kk : Sim G M rv (pc + 3) ls st (uI h k i j v) o) : Sim G M rv pc ls (.int v :: .ref (G.ad k i) :: st) h (if isZ v = true then o else none) := by
  intro a ha
  by_cases hz : isZ v = true
  · rw [if_pos hz] at ha
    exact E_putZ hF (of_decide_eq_true hz) hd hi kk a ha
  · rw [if_neg hz] at ha; cases ha
/-- the four fields that change the object that they mean -/
def bitOk (k j b : Nat) : Prop := ∀ k' ci fs, KD k' = .inl (ci, fs) → ∀ (m : Nat) (r : Nat × Nat × Nat), fs[m]? = some r → 3 ≤ r.1 → r.2.2 = b → k' = k ∧ m = j
theorem uB_fvl {ad : Nat → Nat → Nat} {h : AH} {k i b : Nat} {v : Bool} {m : Nat} {r : Nat × Nat × Nat} (hn : 3 ≤ r.1 → r.2.2 ≠ b) : fvl ad (uB h b v) k i m r = fvl ad h k i m r := by
  obtain ⟨t, x, y⟩ := r
  unfold fvl
  match t, hn with
  | 0, _ => rfl
  | 1, _ => rfl
  | 2, _ => rfl
  | n + 3, hn =>
    show Value.ref (ad x (gB (uB h b v) y).toNat) = Value.ref (ad x (gB h y).toNat)
    rw [gB_uB, if_neg (hn (by show 3 ≤ n + 3; omega))]
theorem E_putD {idx k i j x b : Nat} {v : Bool} {C : String} (hF : FSt M.y.cls idx k j (3, x, b) (.object C)) (hb0 : bitOk k j b) (hone : nIn M.wd k = 1) (hd : decode M.cc pc = .ok (.putfield idx, 3)) (hi : i < nIn M.wd k) (kk : Sim G M rv (pc + 3) ls st (uB h b v) o) : Sim G M rv pc ls (.ref (G.ad x v.toNat) :: .ref (G.ad k i) :: st) h o := by
  intro a ha
  intro p e s m args below meth c H locs la hx hb hr hts hown hml hk hI hK hX hP hS hl
  obtain ⟨ci, fs, C', T, N, t0, h1, h2, h3, h4, h5, h6, h7, h8, h9, h10⟩ := hF
  obtain ⟨q0, hq⟩ := OB_at hi
  have he := WS_at G.cT G.ad h hq
  rw [cellE_o h1] at he
  refine va_put (D := G.D) (cl := vwCl) (tys := tysJ G.cT) (C := C') (T := T) (N := N) (ref := (T j).1) hx hb hts h5 t0 h7 h8 hown hK hP (WS_D hI) hS q0 he h2 j h3 (hts _ h6) (fun _ z => z) h9 h10 rfl rfl (by obtain ⟨l1, -⟩ := List.getElem?_eq_some_iff.mp h4; simpa using l1) hd (fun H1 locs1 hP1 _ hS1 => ?_)
  -- the cells of the world that can be: kind k has one object alone
  have hset : (WS M.wd G.cT G.ad h).set q0 (G.ad k i, .inr (ci, (fs.mapIdx (fun m r => fvl G.ad h k i m r)).set j (.ref (G.ad x v.toNat)))) = WS M.wd G.cT G.ad (uB h b v) := by
    have hcell : cellE G.cT G.ad (uB h b v) k i = .inr (ci, (fs.mapIdx (fun m r => fvl G.ad h k i m r)).set j (.ref (G.ad x v.toNat))) := by
      rw [cellE_o h1, mapIdx_put (h := h) h4 (by show Value.ref (G.ad x (gB (uB h b v) b).toNat) = _; rw [gB_uB, if_pos rfl]) (fun m r hr hm => uB_fvl (fun h3 hb => hm (hb0 k ci fs h1 m r hr h3 hb).2))]
    apply List.ext_getElem?
    intro n
    rw [List.getElem?_set]
    by_cases hn : q0 = n
    · subst hn
      rw [if_pos rfl, WS_at G.cT G.ad (uB h b v) hq, hcell]
      obtain ⟨l1, -⟩ := List.getElem?_eq_some_iff.mp hq
      rw [if_pos (by unfold WS; simpa using l1)]
    · rw [if_neg hn]
      unfold WS
      rw [List.getElem?_map, List.getElem?_map]
      cases hm : (OB M.wd)[n]? with
      | none => rfl
      | some o =>
        obtain ⟨k', i'⟩ := o
        show some (G.ad k' i', cellE G.cT G.ad h k' i') = some (G.ad k' i', cellE G.cT G.ad (uB h b v) k' i')
        have hi' : i' < nIn M.wd k' := OB_mem.mp (List.mem_of_getElem? hm)
        have hk' : k' ≠ k := by
          intro z
          subst z
          have : i' = i := by omega
          subst this
          exact hn (OB_one hq hm)
        have : cellE G.cT G.ad (uB h b v) k' i' = cellE G.cT G.ad h k' i' := by
          cases hkd : KD k' with
          | inl oo =>
            obtain ⟨ci', fs'⟩ := oo
            rw [cellE_o hkd, cellE_o hkd]
            congr 2
            apply List.ext_getElem?
            intro m
            rw [List.getElem?_mapIdx, List.getElem?_mapIdx]
            cases hr : fs'[m]? with
            | none => rfl
            | some r =>
              show some (fvl G.ad (uB h b v) k' i' m r) = some (fvl G.ad h k' i' m r)
              rw [uB_fvl (fun h3 hb => hk' (hb0 k' ci' fs' hkd m r hr h3 hb).1)]
          | inr qq => rw [cellE_a hkd, cellE_a hkd]; rfl
        rw [this]
  have hP1' : va_P G.D vwCl ((WS M.wd G.cT G.ad h).set q0 (G.ad k i, .inr (ci, (fs.mapIdx (fun m r => fvl G.ad h k i m r)).set j (.ref (G.ad x v.toNat))))) H1 := hP1
  rw [hset] at hP1'
  exact kk a ha p e s m args below meth c H1 locs1 la hx hb hr hts hown hml hk hI hK hX hP1' hS1 hl

theorem E_iald {k i n : Nat} {x : Int32} (hA : AK k = some (0, n)) (hd : decode M.cc pc = .ok (.iaload, 1)) (hi : i < nIn M.wd k) (kk : inb x n = true → Sim G M rv (pc + 1) ls (.int (gI h k i x.toNatClampNeg) :: st) h o) : Sim G M rv pc ls (.int x :: .ref (G.ad k i) :: st) h (if inb x n = true then o else none) := by
  intro a ha
  by_cases hz : inb x n = true
  · rw [if_pos hz] at ha
    intro p e s m args below meth c H locs la hx hb hr hts hown hml hk hI hK hX hP hS hl
    obtain ⟨b, hkd⟩ := AK_of hA
    obtain ⟨q0, hq⟩ := OB_at hi
    have he := WS_at G.cT G.ad h hq
    rw [cellE_a hkd] at he
    exact va_iald (D := G.D) (cl := vwCl) (tys := tysJ G.cT) hx hb hK hP q0 0 he rfl (inb_in hz) hd (kk hz a ha p e s m args below meth c H locs la hx hb hr hts hown hml hk hI hK hX hP hS hl)
  · rw [if_neg hz] at ha; cases ha
theorem E_bald {k i n : Nat} {x : Int32} (hA : AK k = some (1, n)) (hd : decode M.cc pc = .ok (.baload, 1)) (hi : i < nIn M.wd k) (kk : inb x n = true → Sim G M rv (pc + 1) ls (.int (gI h k i x.toNatClampNeg) :: st) h o) : Sim G M rv pc ls (.int x :: .ref (G.ad k i) :: st) h (if inb x n = true then o else none) := by
  intro a ha
  by_cases hz : inb x n = true
  · rw [if_pos hz] at ha
    intro p e s m args below meth c H locs la hx hb hr hts hown hml hk hI hK hX hP hS hl
    obtain ⟨b, hkd⟩ := AK_of hA
    obtain ⟨q0, hq⟩ := OB_at hi
    have he := WS_at G.cT G.ad h hq
    rw [cellE_a hkd] at he
    exact va_bald (D := G.D) (cl := vwCl) (tys := tysJ G.cT) hx hb hK hP q0 1 he rfl (inb_in hz) hd (kk hz a ha p e s m args below meth c H locs la hx hb hr hts hown hml hk hI hK hX hP hS hl)
  · rw [if_neg hz] at ha; cases ha
theorem E_zald {k i n : Nat} {x : Int32} (hA : AK k = some (2, n)) (hd : decode M.cc pc = .ok (.baload, 1)) (hi : i < nIn M.wd k) (kk : inb x n = true → Sim G M rv (pc + 1) ls (.int (gI h k i x.toNatClampNeg) :: st) h o) : Sim G M rv pc ls (.int x :: .ref (G.ad k i) :: st) h (if inb x n = true then o else none) := by
  intro a ha
  by_cases hz : inb x n = true
  · rw [if_pos hz] at ha
    intro p e s m args below meth c H locs la hx hb hr hts hown hml hk hI hK hX hP hS hl
    obtain ⟨b, hkd⟩ := AK_of hA
    obtain ⟨q0, hq⟩ := OB_at hi
    have he := WS_at G.cT G.ad h hq
    rw [cellE_a hkd] at he
    exact va_zald (D := G.D) (cl := vwCl) (tys := tysJ G.cT) hx hb hK hP q0 2 he rfl (inb_in hz) hd (kk hz a ha p e s m args below meth c H locs la hx hb hr hts hown hml hk hI hK hX hP hS hl)
  · rw [if_neg hz] at ha; cases ha
theorem E_lald {k i n : Nat} {x : Int32} (hA : AK k = some (3, n)) (hd : decode M.cc pc = .ok (.laload, 1)) (hi : i < nIn M.wd k) (kk : inb x n = true → Sim G M rv (pc + 1) ls (.long (gL h k i x.toNatClampNeg) :: st) h o) : Sim G M rv pc ls (.int x :: .ref (G.ad k i) :: st) h (if inb x n = true then o else none) := by
  intro a ha
  by_cases hz : inb x n = true
  · rw [if_pos hz] at ha
    intro p e s m args below meth c H locs la hx hb hr hts hown hml hk hI hK hX hP hS hl
    obtain ⟨b, hkd⟩ := AK_of hA
    obtain ⟨q0, hq⟩ := OB_at hi
    have he := WS_at G.cT G.ad h hq
    rw [cellE_a hkd] at he
    exact va_lald (D := G.D) (cl := vwCl) (tys := tysJ G.cT) hx hb hK hP q0 3 he rfl (inb_in hz) hd (kk hz a ha p e s m args below meth c H locs la hx hb hr hts hown hml hk hI hK hX hP hS hl)
  · rw [if_neg hz] at ha; cases ha
theorem E_iast {k i n : Nat} {x : Int32} {v : Int32} (hA : AK k = some (0, n)) (hd : decode M.cc pc = .ok (.iastore, 1)) (hi : i < nIn M.wd k) (kk : inb x n = true → Sim G M rv (pc + 1) ls st (uI h k i x.toNatClampNeg (v)) o) : Sim G M rv pc ls (.int v :: .int x :: .ref (G.ad k i) :: st) h (if inb x n = true then o else none) := by
  intro a ha
  by_cases hz : inb x n = true
  · rw [if_pos hz] at ha
    intro p e s m args below meth c H locs la hx hb hr hts hown hml hk hI hK hX hP hS hl
    obtain ⟨b, hkd⟩ := AK_of hA
    obtain ⟨q0, hq⟩ := OB_at hi
    have he := WS_at G.cT G.ad h hq
    rw [cellE_a hkd] at he
    refine va_iast (D := G.D) (cl := vwCl) (tys := tysJ G.cT) hx hb hK hP (WS_D hI) hS q0 0 he rfl (inb_in hz) hd (fun H1 locs1 hP1 _ hS1 => ?_)
    rw [WS_set (h' := uI h k i x.toNatClampNeg (v)) hq (by rw [cellE_a hkd]; show Sum.inl (_, n, _) = Sum.inl (_, n, _); congr 4; funext c; show (gI (uI h k i x.toNatClampNeg (v))) k i c = _; rw [gI_uI]; unfold upd; by_cases hcc : c = x.toNatClampNeg <;> simp [hcc, gI]) (uI_cells _ _ h k i x.toNatClampNeg _)] at hP1
    exact kk hz a ha p e s m args below meth c H1 locs1 la hx hb hr hts hown hml hk hI hK hX hP1 hS1 hl
  · rw [if_neg hz] at ha; cases ha
theorem E_bast {k i n : Nat} {x : Int32} {v : Int32} (hA : AK k = some (1, n)) (hd : decode M.cc pc = .ok (.bastore, 1)) (hi : i < nIn M.wd k) (kk : inb x n = true → Sim G M rv (pc + 1) ls st (uI h k i x.toNatClampNeg (vp_nar .byte v)) o) : Sim G M rv pc ls (.int v :: .int x :: .ref (G.ad k i) :: st) h (if inb x n = true then o else none) := by
  intro a ha
  by_cases hz : inb x n = true
  · rw [if_pos hz] at ha
    intro p e s m args below meth c H locs la hx hb hr hts hown hml hk hI hK hX hP hS hl
    obtain ⟨b, hkd⟩ := AK_of hA
    obtain ⟨q0, hq⟩ := OB_at hi
    have he := WS_at G.cT G.ad h hq
    rw [cellE_a hkd] at he
    refine va_bast (D := G.D) (cl := vwCl) (tys := tysJ G.cT) hx hb hK hP (WS_D hI) hS q0 1 he rfl (inb_in hz) hd (fun H1 locs1 hP1 _ hS1 => ?_)
    rw [WS_set (h' := uI h k i x.toNatClampNeg (vp_nar .byte v)) hq (by rw [cellE_a hkd]; show Sum.inl (_, n, _) = Sum.inl (_, n, _); congr 4; funext c; show (gI (uI h k i x.toNatClampNeg (vp_nar .byte v))) k i c = _; rw [gI_uI]; unfold upd; by_cases hcc : c = x.toNatClampNeg <;> simp [hcc, gI]) (uI_cells _ _ h k i x.toNatClampNeg _)] at hP1
    exact kk hz a ha p e s m args below meth c H1 locs1 la hx hb hr hts hown hml hk hI hK hX hP1 hS1 hl
  · rw [if_neg hz] at ha; cases ha
theorem E_zast {k i n : Nat} {x : Int32} {v : Int32} (hA : AK k = some (2, n)) (hd : decode M.cc pc = .ok (.bastore, 1)) (hi : i < nIn M.wd k) (kk : inb x n = true → Sim G M rv (pc + 1) ls st (uI h k i x.toNatClampNeg (vp_nar .boolean v)) o) : Sim G M rv pc ls (.int v :: .int x :: .ref (G.ad k i) :: st) h (if inb x n = true then o else none) := by
  intro a ha
  by_cases hz : inb x n = true
  · rw [if_pos hz] at ha
    intro p e s m args below meth c H locs la hx hb hr hts hown hml hk hI hK hX hP hS hl
    obtain ⟨b, hkd⟩ := AK_of hA
    obtain ⟨q0, hq⟩ := OB_at hi
    have he := WS_at G.cT G.ad h hq
    rw [cellE_a hkd] at he
    refine va_zast (D := G.D) (cl := vwCl) (tys := tysJ G.cT) hx hb hK hP (WS_D hI) hS q0 2 he rfl (inb_in hz) hd (fun H1 locs1 hP1 _ hS1 => ?_)
    rw [WS_set (h' := uI h k i x.toNatClampNeg (vp_nar .boolean v)) hq (by rw [cellE_a hkd]; show Sum.inl (_, n, _) = Sum.inl (_, n, _); congr 4; funext c; show (gI (uI h k i x.toNatClampNeg (vp_nar .boolean v))) k i c = _; rw [gI_uI]; unfold upd; by_cases hcc : c = x.toNatClampNeg <;> simp [hcc, gI]) (uI_cells _ _ h k i x.toNatClampNeg _)] at hP1
    exact kk hz a ha p e s m args below meth c H1 locs1 la hx hb hr hts hown hml hk hI hK hX hP1 hS1 hl
  · rw [if_neg hz] at ha; cases ha
theorem E_last {k i n : Nat} {x : Int32} {v : Int64} (hA : AK k = some (3, n)) (hd : decode M.cc pc = .ok (.lastore, 1)) (hi : i < nIn M.wd k) (kk : inb x n = true → Sim G M rv (pc + 1) ls st (uL h k i x.toNatClampNeg (v)) o) : Sim G M rv pc ls (.long v :: .int x :: .ref (G.ad k i) :: st) h (if inb x n = true then o else none) := by
  intro a ha
  by_cases hz : inb x n = true
  · rw [if_pos hz] at ha
    intro p e s m args below meth c H locs la hx hb hr hts hown hml hk hI hK hX hP hS hl
    obtain ⟨b, hkd⟩ := AK_of hA
    obtain ⟨q0, hq⟩ := OB_at hi
    have he := WS_at G.cT G.ad h hq
    rw [cellE_a hkd] at he
    refine va_last (D := G.D) (cl := vwCl) (tys := tysJ G.cT) hx hb hK hP (WS_D hI) hS q0 3 he rfl (inb_in hz) hd (fun H1 locs1 hP1 _ hS1 => ?_)
    rw [WS_set (h' := uL h k i x.toNatClampNeg (v)) hq (by rw [cellE_a hkd]; show Sum.inl (_, n, _) = Sum.inl (_, n, _); congr 5; funext c; show (gL (uL h k i x.toNatClampNeg (v))) k i c = _; rw [gL_uL]; unfold vp_updL; by_cases hcc : c = x.toNatClampNeg <;> simp [hcc, gL]) (uL_cells _ _ h k i x.toNatClampNeg _)] at hP1
    exact kk hz a ha p e s m args below meth c H1 locs1 la hx hb hr hts hown hml hk hI hK hX hP1 hS1 hl
  · rw [if_neg hz] at ha; cases ha
theorem E_aald {k i n b : Nat} {x : Int32} (hA : KD k = .inr (4, n, b)) (hd : decode M.cc pc = .ok (.aaload, 1)) (hi : i < nIn M.wd k) (kk : inb x n = true → Sim G M rv (pc + 1) ls (.ref (G.ad 13 (b + x.toNatClampNeg)) :: st) h o) : Sim G M rv pc ls (.int x :: .ref (G.ad k i) :: st) h (if inb x n = true then o else none) := by
  intro a ha
  by_cases hz : inb x n = true
  · rw [if_pos hz] at ha
    intro p e s m args below meth c H locs la hx hb hr hts hown hml hk hI hK hX hP hS hl
    obtain ⟨q0, hq⟩ := OB_at hi
    have he := WS_at G.cT G.ad h hq
    rw [cellE_a hA] at he
    exact va_aldq (D := G.D) (cl := vwCl) (tys := tysJ G.cT) hx hb hK hP q0 4 he rfl (inb_in hz) hd (kk hz a ha p e s m args below meth c H locs la hx hb hr hts hown hml hk hI hK hX hP hS hl)
  · rw [if_neg hz] at ha; cases ha
theorem inb_lt {x : Int32} {n b N : Nat} (h : inb x n = true) (hb : b + n ≤ N) : b + x.toNatClampNeg < N := by
  have h1 : x.toNatClampNeg < n := Nat.not_le.mp fun q => inb_in h (Or.inr q)
  omega
theorem E_alen0 {k i n : Nat} {v : Int32} (hA : AK k = some (0, n)) (hv : Int32.ofNat n = v) (hd : decode M.cc pc = .ok (.arraylength, 1)) (hi : i < nIn M.wd k) (kk : Sim G M rv (pc + 1) ls (.int v :: st) h o) : Sim G M rv pc ls (.ref (G.ad k i) :: st) h o := by
  intro a ha
  intro p e s m args below meth c H locs la hx hb hr hts hown hml hk hI hK hX hP hS hl
  obtain ⟨b, hkd⟩ := AK_of hA
  obtain ⟨q0, hq⟩ := OB_at hi
  have he := WS_at G.cT G.ad h hq
  rw [cellE_a hkd] at he
  exact va_alen (D := G.D) (cl := vwCl) (tys := tysJ G.cT) hx hb hK hP q0 0 he rfl hv hd (kk a ha p e s m args below meth c H locs la hx hb hr hts hown hml hk hI hK hX hP hS hl)
theorem E_alen1 {k i n : Nat} {v : Int32} (hA : AK k = some (1, n)) (hv : Int32.ofNat n = v) (hd : decode M.cc pc = .ok (.arraylength, 1)) (hi : i < nIn M.wd k) (kk : Sim G M rv (pc + 1) ls (.int v :: st) h o) : Sim G M rv pc ls (.ref (G.ad k i) :: st) h o := by
  intro a ha
  intro p e s m args below meth c H locs la hx hb hr hts hown hml hk hI hK hX hP hS hl
  obtain ⟨b, hkd⟩ := AK_of hA
  obtain ⟨q0, hq⟩ := OB_at hi
  have he := WS_at G.cT G.ad h hq
  rw [cellE_a hkd] at he
  exact va_alen (D := G.D) (cl := vwCl) (tys := tysJ G.cT) hx hb hK hP q0 1 he rfl hv hd (kk a ha p e s m args below meth c H locs la hx hb hr hts hown hml hk hI hK hX hP hS hl)
theorem E_copy {idx k0 i0 n0 k1 i1 n1 : Nat} {sp dp n : Int32} (h0 : AK k0 = some (0, n0)) (h1 : AK k1 = some (0, n1)) (hi0 : i0 < nIn M.wd k0) (hi1 : i1 < nIn M.wd k1) (hl1 : Cond.methodLink M.y.cls idx arraycopyName ∈ JT) (hl2 : Cond.native arraycopyName ∈ JT) (hl3 : Cond.static arraycopyName ∈ JT) (hl4 : Cond.initialized "java/lang/System" ∈ JT)
    (h2 : ¬ sp < 0) (h3 : ¬ dp < 0) (h4 : ¬ n < 0) (h5 : sp.toNatClampNeg + n.toNatClampNeg ≤ n0) (h6 : dp.toNatClampNeg + n.toNatClampNeg ≤ n1) (hfr : 1 ≤ M.rm.frames) (hlo : (st.map fun v => v.category).sum + (nativeFrameWords "java/lang/System" "arraycopy" 5 + 11) ≤ M.rm.locals) (hd : decode M.cc pc = .ok (.invokestatic idx, 3))
    (kk : Sim G M rv (pc + 3) ls st (uC h k0 i0 sp.toNatClampNeg k1 i1 dp.toNatClampNeg n.toNatClampNeg) o) : Sim G M rv pc ls (.int n :: .int dp :: .ref (G.ad k1 i1) :: .int sp :: .ref (G.ad k0 i0) :: st) h o := by
  intro a ha
  intro p e s m args below meth c H locs la hx hb hr hts hown hml hk hI hK hX hP hS hl
  obtain ⟨b0, hkd0⟩ := AK_of h0
  obtain ⟨b1, hkd1⟩ := AK_of h1
  obtain ⟨q0, hq0⟩ := OB_at hi0
  obtain ⟨q1, hq1⟩ := OB_at hi1
  have he0 := WS_at G.cT G.ad h hq0
  have he1 := WS_at G.cT G.ad h hq1
  rw [cellE_a hkd0] at he0
  rw [cellE_a hkd1] at he1
  refine va_copyi (D := G.D) (cl := vwCl) (tys := tysJ G.cT) hx hb (hml.trans hl.1.symm) hown (hts _ hl1) (hts _ hl2) (hts _ hl3) (hts _ hl4) hK hP (WS_D hI) hS q0 q1 0 0 (ty := .int) he0 he1 rfl rfl rfl h2 h3 h4 h5 h6 (fun _ _ => rfl) hfr hlo hd (fun H1 locs1 hP1 _ hS1 => ?_)
  rw [WS_set (h := h) (h' := uC h k0 i0 sp.toNatClampNeg k1 i1 dp.toNatClampNeg n.toNatClampNeg) hq1 (by
    rw [cellE_a hkd1]
    show Sum.inl (_, n1, _) = Sum.inl (_, n1, _)
    congr 4
    funext c
    show gI (uC h k0 i0 sp.toNatClampNeg k1 i1 dp.toNatClampNeg n.toNatClampNeg) k1 i1 c = _
    rw [gI_uC, if_pos ⟨rfl, rfl⟩]) (fun k' i' hn => cellE_same (funext fun c => by rw [gI_uC, if_neg hn]) rfl rfl)] at hP1
  exact kk a ha p e s m args below meth c H1 locs1 la hx hb hr hts hown hml hk hI hK hX hP1 hS1 hl
theorem E_ldcS {i idx : Nat} (hw : M.wd = 1) (hcl : M.y.cls = RX9) (hi : i < 17) (hx0 : sIx i = idx) (hd : decode M.cc pc = .ok (.ldc idx, 2)) (kk : Sim G M rv (pc + 2) ls (.ref (G.aK i) :: st) h o) : Sim G M rv pc ls st h o := by
  intro a ha
  intro p e s m args below meth c H locs la hx hb hr hts hown hml hk hI hK hX hP hS hl
  rcases hX.2 with hY | hY
  · rw [hw] at hY; cases hY
  · have hZ := hY.1 i hi
    rw [hx0] at hZ
    exact va_ldcS hx hb (hcl ▸ hown) hZ hd (kk a ha p e s m args below meth c H locs la hx hb hr hts hown hml hk hI hK hX hP hS hl)
end Rules
