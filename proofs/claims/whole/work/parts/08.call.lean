/-! ===== calls and returns ===== -/
def MBs (M : MI) (n : Nat) : Prop := Cond.initialized M.y.cls ∈ JT ∧ Cond.code M.y M.cc M.nL M.ret ∈ JT ∧ (M.y.cls ≠ "java/lang/invoke/MethodHandle" ∧ M.y.cls ≠ "java/lang/invoke/VarHandle" ∧ (parseMethodDescriptor M.y.desc).map (fun d => d.parameters.length) = some n)
def MVs (M : MI) : Prop := Cond.instanceMethod M.y ∈ JT ∧ Cond.selects M.y.cls M.y M.y ∈ JT
def RmOk (N M : MI) : Prop := N.rm.cells = 0 ∧ N.rm.slots = 0 ∧ N.rm.frames + 1 ≤ M.rm.frames ∧ 8 + (N.nL + 11) + N.rm.locals ≤ M.rm.locals
def KCl (k : Nat) (C : String) : Prop := ∃ (o : Nat × List (Nat × Nat × Nat)) (r : vw_C), KD k = .inl o ∧ vwCl[o.1]? = some r ∧ r.1 = C
theorem ws_good {M : MI} {n : Nat} (hB : MBs M n) : GoodIn JT M.ws := fun w hw => by
  rcases List.mem_cons.mp hw with rfl | h
  · exact JT_good _ hB.2.1
  · exact JT_good w h
section Runs
variable {G : JG} {wd : Nat} {p : Program} {e : Env} {R : Room} {s : State} {m : MethodId} {args : Array Value} {below : List Frame} {meth : Method} {c : Code} {H : Heap} {locs : List Loc} {Q : State → Prop} {pc : Nat} {la : Array Slot} {rest st0 : List Value} {av : Array Value} {ro : Option Value × AH}
theorem jv_run (hr : va_Run p G.l e R s m args below meth c H locs 0 0 0 0 (F0 m pc la st0) rest (Qm G wd ro av) (AO wd G.ad)) (hS : va_S (AO wd G.ad) s.heap H locs)
    (kk : ∀ (H1 : Heap) (locs1 : List Loc), PW G wd ro.2 H1 → va_S (AO wd G.ad) s.heap H1 locs1 → W p G.l e R s m args below meth c H1 locs1 0 0 Q (F0 m (pc + 3) la (ro.1.toList ++ rest))) : W p G.l e R s m args below meth c H locs 0 0 Q (F0 m pc la st0) := by
  intro T hT X
  obtain ⟨v, st₀, t, T', L, h0, X', hL, e1, e2, ⟨hv, hp, hz, hk⟩, st⟩ := hr T hT X
  cases hv
  rw [h0] at hz hk
  obtain ⟨t2, a1, b1⟩ := kk T'.heap (locs ++ L) (by rw [e1]; exact hp)
    ⟨Nat.le_trans hS.1 (by rw [e1]; exact hz), fun q h1 h2 => by rw [e1, hk q (Nat.lt_of_lt_of_le h1 hS.1) h2]; exact hS.2.1 q h1 h2, fun q hq => by
      rcases List.mem_append.mp hq with h | h
      · exact hS.2.2 q h
      · exact hL q h⟩ T' rfl X'
  exact ⟨t2, st t2 a1, b1⟩
end Runs
section Rules
variable {G : JG} {M : MI} {α : Type} {rv : α → Option Value × AH} {pc : Nat} {ls : List (Nat × Value)} {st : List Value} {h : AH} {o : Option α}
theorem E_iret {v : Int32} {a0 : α} (hr0 : M.ret = some .int) (hv : rv a0 = (some (.int v), h)) (hd : decode M.cc pc = .ok (.ireturn, 1)) : Sim G M rv pc ls [.int v] h (some a0) := by
  intro a ha
  cases ha
  intro p e s m args below meth c H locs la hx hb hr hts hown hml hk hI hK hX hP hS hl
  exact W.iret hx hb (hr.trans hr0) (fun t ht hW => ⟨by rw [hv], by rw [hv, ht]; exact hP, hS.F ht⟩) hS.2.2 hd hk
theorem E_zret {v : Int32} {a0 : α} {ty : FieldType} (hr0 : M.ret = some ty) (hn : narrow ty (.int v) = .int v) (hv : rv a0 = (some (.int v), h)) (hd : decode M.cc pc = .ok (.ireturn, 1)) : Sim G M rv pc ls [.int v] h (some a0) := by
  intro a ha
  cases ha
  intro p e s m args below meth c H locs la hx hb hr hts hown hml hk hI hK hX hP hS hl
  exact W.zret hx hb (hr.trans hr0) hn (fun t ht hW => ⟨by rw [hv], by rw [hv, ht]; exact hP, hS.F ht⟩) hS.2.2 hd hk
theorem isZ_nar {v : Int32} (h : isZ v = true) : narrow .boolean (.int v) = .int v := by
  rcases of_decide_eq_true h with rfl | rfl <;> rfl
theorem E_zretg {v : Int32} {a0 : α} (hr0 : M.ret = some .boolean) (hv : rv a0 = (some (.int v), h)) (hd : decode M.cc pc = .ok (.ireturn, 1)) : Sim G M rv pc ls [.int v] h (if isZ v = true then some a0 else none) := by
  intro a ha
  by_cases hz : isZ v = true
  · rw [if_pos hz] at ha
    exact E_zret hr0 (isZ_nar hz) hv hd a ha
  · rw [if_neg hz] at ha; cases ha
theorem E_lret {v : Int64} {a0 : α} (hr0 : M.ret = some .long) (hv : rv a0 = (some (.long v), h)) (hd : decode M.cc pc = .ok (.lreturn, 1)) : Sim G M rv pc ls [.long v] h (some a0) := by
  intro a ha
  cases ha
  intro p e s m args below meth c H locs la hx hb hr hts hown hml hk hI hK hX hP hS hl
  exact W.lret hx hb (hr.trans hr0) (fun t ht hW => ⟨by rw [hv], by rw [hv, ht]; exact hP, hS.F ht⟩) hS.2.2 hd hk
theorem E_vret {a0 : α} (hr0 : M.ret = none) (hv : rv a0 = (none, h)) (hd : decode M.cc pc = .ok (.return_, 1)) : Sim G M rv pc ls [] h (some a0) := by
  intro a ha
  cases ha
  intro p e s m args below meth c H locs la hx hb hr hts hown hml hk hI hK hX hP hS hl
  exact W.vret hx hb (hr.trans hr0) (fun t ht hW => ⟨by rw [hv], by rw [hv, ht]; exact hP, hS.F ht⟩) hS.2.2 hd hk
theorem E_callV {N : MI} {β : Type} {rv' : β → Option Value × AH} {k i idx n : Nat} {As rest : List Value} {oc : Option β} {f : β → Option α}
    (hM : Mt G N rv' (.ref (G.ad k i) :: As) h oc) (hB : MBs N n) (hV : MVs N) (hL : Cond.methodLink M.y.cls idx N.y ∈ JT) (hR : RmOk N M) (hwd : N.wd = M.wd) (hC : KCl k N.y.cls) (hi : i < nIn M.wd k) (hn : As.length = n) (hst : st = As.reverse ++ .ref (G.ad k i) :: rest) (hcat : (rest.map fun v => v.category).sum ≤ 8)
    (hd : decode M.cc pc = .ok (.invokevirtual idx, 3)) (kk : ∀ b, oc = some b → Sim G M rv (pc + 3) ls ((rv' b).1.toList ++ rest) (rv' b).2 (f b)) : Sim G M rv pc ls st h (oc.bind f) := by
  intro a ha
  obtain ⟨b, hob, hfb⟩ := Option.bind_eq_some_iff.mp ha
  intro p e s m args below meth c H locs la hx hb hr hts hown hml hk hI hK hX hP hS hl
  have hM1 := hM b hob (by rw [hwd]; exact hI)
  rw [hwd] at hM1
  obtain ⟨oo, r, hkd, hc, hCe⟩ := hC
  obtain ⟨q0, hq⟩ := OB_at hi
  have he := WS_at G.cT G.ad h hq
  rw [cellE_o hkd] at he
  have hcw : CallW M.rm s args M.y.cls N.y.cls idx N.y N.cc N.nL N.ret N.ws N.rm 0 0 n := ⟨callB_of n hts (ws_good hB) rfl hR.1 hR.2.1 (hts _ hB.1) (hts _ hL) hB.2.2 hR.2.2, hts _ hV.1, hts _ hV.2⟩
  have hrun := va_runV (p := p) (l := G.l) (e := e) (below := below) (meth := meth) (locs := locs) (cells := 0) (slots := 0) (rest := rest) (g := F0 m pc la st) (H := H) ⟨hx, hb, hml, hown, hts⟩ hM1 hcw
    ⟨PcM_blind G M.wd _ h, hCe ▸ va_recv hK hP hc he, fun U hU hW => ⟨rfl, by rw [hU]; exact hP, va_K.moved hW.alike hK, hX.next hW hU hS⟩⟩ rfl hn hl.1 hst (lv_room hcat) hd ⟨Nat.zero_le _, Nat.zero_le _⟩
  exact jv_run hrun hS (fun H1 locs1 hP1 hS1 => kk b hob a hfb p e s m args below meth c H1 locs1 la hx hb hr hts hown hml hk hI hK hX hP1 hS1 hl)
theorem E_callS {N : MI} {β : Type} {rv' : β → Option Value × AH} {idx n : Nat} {As rest : List Value} {oc : Option β} {f : β → Option α}
    (hM : Mt G N rv' As h oc) (hB : MBs N n) (hV : Cond.static N.y ∈ JT) (hL : Cond.methodLink M.y.cls idx N.y ∈ JT) (hR : RmOk N M) (hwd : N.wd = M.wd) (hn : As.length = n) (hst : st = As.reverse ++ rest) (hcat : (rest.map fun v => v.category).sum ≤ 8)
    (hd : decode M.cc pc = .ok (.invokestatic idx, 3)) (kk : ∀ b, oc = some b → Sim G M rv (pc + 3) ls ((rv' b).1.toList ++ rest) (rv' b).2 (f b)) : Sim G M rv pc ls st h (oc.bind f) := by
  intro a ha
  obtain ⟨b, hob, hfb⟩ := Option.bind_eq_some_iff.mp ha
  intro p e s m args below meth c H locs la hx hb hr hts hown hml hk hI hK hX hP hS hl
  have hM1 := hM b hob (by rw [hwd]; exact hI)
  rw [hwd] at hM1
  have hcw : CallB M.rm s args M.y.cls idx N.y N.cc N.nL N.ret N.ws N.rm 0 0 n ∧ (Cond.static N.y).before args s = true := ⟨callB_of n hts (ws_good hB) rfl hR.1 hR.2.1 (hts _ hB.1) (hts _ hL) hB.2.2 hR.2.2, hts _ hV⟩
  have hrun := va_runS (p := p) (l := G.l) (e := e) (below := below) (meth := meth) (locs := locs) (cells := 0) (slots := 0) (rest := rest) (g := F0 m pc la st) (H := H) ⟨hx, hb, hml, hown, hts⟩ hM1 hcw
    ⟨PcM_blind G M.wd _ h, fun U hU hW => ⟨rfl, by rw [hU]; exact hP, va_K.moved hW.alike hK, hX.next hW hU hS⟩⟩ rfl hn hl.1 hst (lv_room hcat) hd ⟨Nat.zero_le _, Nat.zero_le _⟩
  exact jv_run hrun hS (fun H1 locs1 hP1 hS1 => kk b hob a hfb p e s m args below meth c H1 locs1 la hx hb hr hts hown hml hk hI hK hX hP1 hS1 hl)
theorem E_callN {N : MI} {β : Type} {rv' : β → Option Value × AH} {idx n : Nat} {host : String} {As rest : List Value} {oc : Option β} {f : β → Option α}
    (hM : Mt G N rv' As h oc) (hB : MBs N n) (hV : Cond.static N.y ∈ JT) (hL : (M.y.cls, idx, N.y, host) ∈ nestL) (hR : RmOk N M) (hwd : N.wd = M.wd) (hn : As.length = n) (hst : st = As.reverse ++ rest) (hcat : (rest.map fun v => v.category).sum ≤ 8)
    (hd : decode M.cc pc = .ok (.invokestatic idx, 3)) (kk : ∀ b, oc = some b → Sim G M rv (pc + 3) ls ((rv' b).1.toList ++ rest) (rv' b).2 (f b)) : Sim G M rv pc ls st h (oc.bind f) := by
  intro a ha
  obtain ⟨b, hob, hfb⟩ := Option.bind_eq_some_iff.mp ha
  intro p e s m args below meth c H locs la hx hb hr hts hown hml hk hI hK hX hP hS hl
  have hM1 := hM b hob (by rw [hwd]; exact hI)
  rw [hwd] at hM1
  have hcw : va_CN M.rm s args M.y.cls idx N.y host N.cc N.nL N.ret N.ws N.rm 0 0 n ∧ (Cond.static N.y).before args s = true ∧ True := ⟨va_cnB n hts (ws_good hB) rfl hR.1 hR.2.1 (hX.1 _ hL) (hts _ hB.1) hB.2.2 hR.2.2, hts _ hV, trivial⟩
  have hrun := va_runSN (p := p) (l := G.l) (e := e) (below := below) (meth := meth) (locs := locs) (cells := 0) (slots := 0) (rest := rest) (g := F0 m pc la st) (H := H) ⟨hx, hb, hml, hown, hts⟩ hM1 hcw
    ⟨PcM_blind G M.wd _ h, fun U hU hW => ⟨rfl, by rw [hU]; exact hP, va_K.moved hW.alike hK, hX.next hW hU hS⟩⟩ rfl hn hl.1 hst (lv_room hcat) hd ⟨Nat.zero_le _, Nat.zero_le _⟩
  exact jv_run hrun hS (fun H1 locs1 hP1 hS1 => kk b hob a hfb p e s m args below meth c H1 locs1 la hx hb hr hts hown hml hk hI hK hX hP1 hS1 hl)
end Rules
