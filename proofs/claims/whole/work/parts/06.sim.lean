/-! ===== a method's record: its name, bytes, locals, what it returns, its room, its world ===== -/
abbrev MI : Type := MethodName × ByteArray × Nat × Option FieldType × Room × Nat
abbrev JG : Type := Launch × va_G × (Nat → ClassId) × (Nat → Nat → Nat) × (Nat → Nat) × (Nat → Nat)
abbrev MI.y (M : MI) : MethodName := M.1
abbrev MI.cc (M : MI) : ByteArray := M.2.1
abbrev MI.nL (M : MI) : Nat := M.2.2.1
abbrev MI.ret (M : MI) : Option FieldType := M.2.2.2.1
abbrev MI.rm (M : MI) : Room := M.2.2.2.2.1
abbrev MI.wd (M : MI) : Nat := M.2.2.2.2.2
abbrev JG.l (G : JG) : Launch := G.1
abbrev JG.D (G : JG) : va_G := G.2.1
abbrev JG.cT (G : JG) : Nat → ClassId := G.2.2.1
abbrev JG.ad (G : JG) : Nat → Nat → Nat := G.2.2.2.1
abbrev JG.aK (G : JG) : Nat → Nat := G.2.2.2.2.1
abbrev JG.aV (G : JG) : Nat → Nat := G.2.2.2.2.2
def MI.ws (M : MI) : List Cond := .code M.y M.cc M.nL M.ret :: JT
/-- the world of a method -/
def PW (G : JG) (wd : Nat) (h : AH) (H : Heap) : Prop := va_P G.D vwCl (WS wd G.cT G.ad h) H

/-- the calls of a nest mate's private static method -/
def nestL : List (String × Nat × MethodName × String) := [("PaintedOve\x72", 15, yX5_init, "PaintedOve\x72"), ("PaintedOver$Reade\x72", 17, yX0_init, "PaintedOve\x72"), ("PaintedOver$Reade\x72", 24, yX7_init, "PaintedOve\x72"), ("PaintedOver$Reade\x72", 31, yX6_init, "PaintedOve\x72"), ("PaintedOve\x72", 22, yX0_init, "PaintedOve\x72"), ("PaintedOve\x72", 29, yX7_init, "PaintedOve\x72"), ("PaintedOver$Past", 17, yX7_init, "PaintedOve\x72"), ("PaintedOve\x72", 47, yX2_init, "PaintedOve\x72"), ("PaintedOve\x72", 54, yX4_init, "PaintedOve\x72"), ("PaintedOver$Law", 61, yX8_firstOf, "PaintedOve\x72"), ("PaintedOver$Book", 98, yX8_firstOf, "PaintedOve\x72")]
def NX (s : State) : Prop := ∀ q ∈ nestL, va_Nw (.methodLinkNest q.1 q.2.1 q.2.2.1 q.2.2.2) s
/-- the two static fields that the String constants' methods read -/
def XS (A : Nat → Prop) (s : State) : Prop := va_Z "java/lang/String" "COMPACT_STRINGS" "Z" (.int 1) A s s.heap ∧ ∃ v, (v = Value.null ∨ ∃ a, v = Value.ref a) ∧ va_Z "jdk/internal/util/Preconditions" "SIOOBE_FORMATTER" "Ljava/util/function/BiFunction;" v A s s.heap
def XP (G : JG) (wd : Nat) (s : State) : Prop := NX s ∧ (wd = 0 ∨ ((∀ i : Nat, i < 17 → vk_R RX9 (sIx i) (sTx i) (G.aK i) s) ∧ vk_S 17 sLen sByt G.aK G.aV (AO wd G.ad) s s.heap ∧ XS (AO wd G.ad) s))
def Qm (G : JG) (wd : Nat) (ro : Option Value × AH) : Array Value → State → Outcome → State → Prop := fun _ st oc t => oc = .returned ro.1 ∧ PW G wd ro.2 t.heap ∧ va_F (AO wd G.ad) st t
/-- from this frame on the method comes to what o says -/
def Sim (G : JG) (M : MI) {α : Type} (rv : α → Option Value × AH) (pc : Nat) (ls : List (Nat × Value)) (st : List Value) (h : AH) (o : Option α) : Prop :=
  ∀ a, o = some a → ∀ (p : Program) (e : Env) (s : State) (m : MethodId) (args : Array Value) (below : List Frame) (meth : Method) (c : Code) (H : Heap) (locs : List Loc) (la : Array Slot),
    p.tables.exec = Jvm.exec → c.code = M.cc → meth.sig.returnType = M.ret → (∀ w ∈ JT, w.before args s = true) → s.vm.findClass M.y.cls = some m.cls → c.maxLocals = M.nL → meth.locks = false →
    Inj M.wd G.ad → va_K G.D vwCl (tysJ G.cT) s → XP G M.wd s → PW G M.wd h H → va_S (AO M.wd G.ad) s.heap H locs → lv_has la M.nL ls →
    W p G.l e M.rm s m args below meth c H locs 0 0 (MQ below (Qm G M.wd (rv a)) args s 0 0 (AO M.wd G.ad)) (F0 m pc la st)
/-- a method's contract -/
def PcM (G : JG) (wd : Nat) (av : List Value) (h : AH) : Array Value → State → Prop := va_Pc av (fun U => PW G wd h U.heap ∧ va_K G.D vwCl (tysJ G.cT) U ∧ XP G wd U)
def Mt (G : JG) (M : MI) {α : Type} (rv : α → Option Value × AH) (av : List Value) (h : AH) (o : Option α) : Prop :=
  ∀ a, o = some a → Inj M.wd G.ad → Met G.l M.y M.ws M.rm (PcM G M.wd av h) (Qm G M.wd (rv a)) 0 0 (AO M.wd G.ad)
theorem XP.moved {G : JG} {wd : Nat} {s U : State} (hv : U.vm = s.vm) (hh : U.heap = s.heap) (h : XP G wd s) : XP G wd U := by
  obtain ⟨h0, h⟩ := h
  refine ⟨fun q hq => va_Nw.same rfl hv.symm (h0 q hq), ?_⟩
  rcases h with h | ⟨h1, h2, h3, v, hv3, h4⟩
  · exact Or.inl h
  · have hA : s.vm.Alike U.vm := by rw [hv]; exact Vm.Alike.refl _
    refine Or.inr ⟨fun i hi => vk_R.same hv (h1 i hi), ?_, ?_, v, hv3, ?_⟩
    · rw [hh]
      exact vk_S.moved hA h2
    · rw [hh]
      exact h3.moved hA
    · rw [hh]
      exact h4.moved hA
theorem XP.next {G : JG} {wd : Nat} {s U : State} {H : Heap} {locs : List Loc} (hW : s.WarmedH U.vm) (hU : U.heap = H) (hS : va_S (AO wd G.ad) s.heap H locs) (h : XP G wd s) : XP G wd U := by
  obtain ⟨h0, h⟩ := h
  refine ⟨fun q hq => va_Nw.warmM hW (h0 q hq), ?_⟩
  rcases h with h | ⟨h1, h2, h3, v, hv3, h4⟩
  · exact Or.inl h
  · refine Or.inr ⟨fun i hi => vk_R.warm hW (h1 i hi), ?_, ?_, v, hv3, ?_⟩
    · rw [hU]
      exact (vk_S.moved hW.alike h2).kept hS.2.1
    · rw [hU]
      exact (h3.moved hW.alike).kept hS.2.1
    · rw [hU]
      exact (h4.moved hW.alike).kept hS.2.1
theorem PcM_blind (G : JG) (wd : Nat) (av : List Value) (h : AH) : FrameBlind (PcM G wd av h) := by
  intro a U g mk q
  obtain ⟨q0, qP, qK, qX⟩ := q
  exact ⟨q0, qP, va_K.moved (u := U) (U := U.calling g mk a) (Vm.Alike.refl U.vm) qK, XP.moved (s := U) rfl rfl qX⟩
theorem Mt_of {G : JG} {M : MI} {α : Type} {rv : α → Option Value × AH} {av : List Value} {h : AH} {o : Option α} (hy : plainName M.y.cls = true) (hn : (lg_sl av).length ≤ M.nL) (k : Sim G M rv 0 (lv_args 0 av) [] h o) : Mt G M rv av h o := by
  intro a ha hI
  refine Met.ofW (cc := M.cc) (maxL := M.nL) (ret := M.ret) hy rfl ?_
  intro p e s m args below meth c s₁ B hml hv
  obtain ⟨rfl, hP, hK, hX⟩ := hv
  have hts := atoms_spec (ws := M.ws) B.pre
  have hown : s.vm.findClass M.y.cls = some m.cls := findClass_of_methodNamed B.named
  have hl := lv_entry av hn
  rw [lg_entry_eq]
  exact k a ha p e s m av.toArray below meth c s.heap [] _ B.exec B.bytes B.returns (fun w hw => hts w (List.mem_cons_of_mem _ hw)) hown hml B.notSynchronized hI hK hX hP va_S.rf hl
section Rules
variable {G : JG} {M : MI} {α : Type} {rv : α → Option Value × AH} {pc : Nat} {ls : List (Nat × Value)} {st : List Value} {h : AH} {o : Option α}
theorem E_none : Sim G M rv pc ls st h none := fun _ ha => by cases ha
theorem E_eq {pc2 : Nat} (hp : pc = pc2) (k : Sim G M rv pc2 ls st h o) : Sim G M rv pc ls st h o := by subst hp; exact k
theorem E_sub {ls' : List (Nat × Value)} (ks : List Nat) (hl : lv_pick ls ks = ls') (k : Sim G M rv pc ls' st h o) : Sim G M rv pc ls st h o := by
  intro a ha p e s m args below meth c H locs la hx hb hr hts hown hml hk hI hK hX hP hS hl2
  exact k a ha p e s m args below meth c H locs la hx hb hr hts hown hml hk hI hK hX hP hS (lv_sub hl2 ks hl)
theorem E_iconst {n : Int} {v : Int32} (hd : decode M.cc pc = .ok (.iconst n, 1)) (hv : Int32.ofInt n = v) (k : Sim G M rv (pc + 1) ls (.int v :: st) h o) : Sim G M rv pc ls (st) h o := by
  intro a ha p e s m args below meth c H locs la hx hb hr hts hown hml hk hI hK hX hP hS hl
  exact lv_iconst hx hb hd hv (k a ha p e s m args below meth c H locs la hx hb hr hts hown hml hk hI hK hX hP hS hl)
theorem E_bipush {n : Int} {v : Int32} (hd : decode M.cc pc = .ok (.bipush n, 2)) (hv : (Int8.ofInt n).toInt32 = v) (k : Sim G M rv (pc + 2) ls (.int v :: st) h o) : Sim G M rv pc ls (st) h o := by
  intro a ha p e s m args below meth c H locs la hx hb hr hts hown hml hk hI hK hX hP hS hl
  exact lv_bipush hx hb hd hv (k a ha p e s m args below meth c H locs la hx hb hr hts hown hml hk hI hK hX hP hS hl)
theorem E_sipush {n : Int} {v : Int32} (hd : decode M.cc pc = .ok (.sipush n, 3)) (hv : (Int16.ofInt n).toInt32 = v) (k : Sim G M rv (pc + 3) ls (.int v :: st) h o) : Sim G M rv pc ls (st) h o := by
  intro a ha p e s m args below meth c H locs la hx hb hr hts hown hml hk hI hK hX hP hS hl
  exact lv_sipush hx hb hd hv (k a ha p e s m args below meth c H locs la hx hb hr hts hown hml hk hI hK hX hP hS hl)
theorem E_lconst {n : Fin 2} {v : Int64} (hd : decode M.cc pc = .ok (.lconst n, 1)) (hv : Int64.ofNat (n : Nat) = v) (k : Sim G M rv (pc + 1) ls (.long v :: st) h o) : Sim G M rv pc ls (st) h o := by
  intro a ha p e s m args below meth c H locs la hx hb hr hts hown hml hk hI hK hX hP hS hl
  exact lv_lconst hx hb hd hv (k a ha p e s m args below meth c H locs la hx hb hr hts hown hml hk hI hK hX hP hS hl)
theorem E_ldcw {i : Nat} {v : Int32} (hd : decode M.cc pc = .ok (.ldc_w i, 3)) (hw : Cond.constant M.y.cls i v ∈ JT) (k : Sim G M rv (pc + 3) ls (.int v :: st) h o) : Sim G M rv pc ls (st) h o := by
  intro a ha p e s m args below meth c H locs la hx hb hr hts hown hml hk hI hK hX hP hS hl
  exact lv_ldcw hx hb hown (hts _ hw) hd (k a ha p e s m args below meth c H locs la hx hb hr hts hown hml hk hI hK hX hP hS hl)
theorem E_ldc2 {i : Nat} {v : Int64} (hd : decode M.cc pc = .ok (.ldc2_w i, 3)) (hw : Cond.constantLong M.y.cls i v ∈ JT) (k : Sim G M rv (pc + 3) ls (.long v :: st) h o) : Sim G M rv pc ls (st) h o := by
  intro a ha p e s m args below meth c H locs la hx hb hr hts hown hml hk hI hK hX hP hS hl
  exact lv_ldc2 hx hb hown (hts _ hw) hd (k a ha p e s m args below meth c H locs la hx hb hr hts hown hml hk hI hK hX hP hS hl)
theorem E_iload_n {f : Fin 4} {i : Nat} {x : Int32} (hd : decode M.cc pc = .ok (.iload_n f, 1)) (hi : (f : Nat) = i) (q : Nat) (hq : ls[q]? = some (i, .int x)) (k : Sim G M rv (pc + 1) ls (.int x :: st) h o) : Sim G M rv pc ls (st) h o := by
  intro a ha p e s m args below meth c H locs la hx hb hr hts hown hml hk hI hK hX hP hS hl
  exact lv_iload_n hx hb hd hi (lv_at hl q hq) (k a ha p e s m args below meth c H locs la hx hb hr hts hown hml hk hI hK hX hP hS hl)
theorem E_iload {i : Nat} {x : Int32} (hd : decode M.cc pc = .ok (.iload i, 2)) (q : Nat) (hq : ls[q]? = some (i, .int x)) (k : Sim G M rv (pc + 2) ls (.int x :: st) h o) : Sim G M rv pc ls (st) h o := by
  intro a ha p e s m args below meth c H locs la hx hb hr hts hown hml hk hI hK hX hP hS hl
  exact lv_iload hx hb hd (lv_at hl q hq) (k a ha p e s m args below meth c H locs la hx hb hr hts hown hml hk hI hK hX hP hS hl)
theorem E_lload_n {f : Fin 4} {i : Nat} {x : Int64} (hd : decode M.cc pc = .ok (.lload_n f, 1)) (hi : (f : Nat) = i) (q : Nat) (hq : ls[q]? = some (i, .long x)) (k : Sim G M rv (pc + 1) ls (.long x :: st) h o) : Sim G M rv pc ls (st) h o := by
  intro a ha p e s m args below meth c H locs la hx hb hr hts hown hml hk hI hK hX hP hS hl
  exact lv_lload_n hx hb hd hi (lv_at hl q hq) (k a ha p e s m args below meth c H locs la hx hb hr hts hown hml hk hI hK hX hP hS hl)
theorem E_lload {i : Nat} {x : Int64} (hd : decode M.cc pc = .ok (.lload i, 2)) (q : Nat) (hq : ls[q]? = some (i, .long x)) (k : Sim G M rv (pc + 2) ls (.long x :: st) h o) : Sim G M rv pc ls (st) h o := by
  intro a ha p e s m args below meth c H locs la hx hb hr hts hown hml hk hI hK hX hP hS hl
  exact lv_lload hx hb hd (lv_at hl q hq) (k a ha p e s m args below meth c H locs la hx hb hr hts hown hml hk hI hK hX hP hS hl)
theorem E_aload_n {f : Fin 4} {i : Nat} {x : Nat} (hd : decode M.cc pc = .ok (.aload_n f, 1)) (hi : (f : Nat) = i) (q : Nat) (hq : ls[q]? = some (i, .ref x)) (k : Sim G M rv (pc + 1) ls (.ref x :: st) h o) : Sim G M rv pc ls (st) h o := by
  intro a ha p e s m args below meth c H locs la hx hb hr hts hown hml hk hI hK hX hP hS hl
  exact lv_aload_n hx hb hd hi (lv_at hl q hq) (k a ha p e s m args below meth c H locs la hx hb hr hts hown hml hk hI hK hX hP hS hl)
theorem E_aload {i : Nat} {x : Nat} (hd : decode M.cc pc = .ok (.aload i, 2)) (q : Nat) (hq : ls[q]? = some (i, .ref x)) (k : Sim G M rv (pc + 2) ls (.ref x :: st) h o) : Sim G M rv pc ls (st) h o := by
  intro a ha p e s m args below meth c H locs la hx hb hr hts hown hml hk hI hK hX hP hS hl
  exact lv_aload hx hb hd (lv_at hl q hq) (k a ha p e s m args below meth c H locs la hx hb hr hts hown hml hk hI hK hX hP hS hl)
theorem E_istore_n {f : Fin 4} {i : Nat} {x : Int32} {ls' : List (Nat × Value)} (hd : decode M.cc pc = .ok (.istore_n f, 1)) (hi : (f : Nat) = i) (hn : i < M.nL) (he : (i, Value.int x) :: ls.filter (fun q => !(q.1 == i) && !(q.1 + 1 == i && q.2.category == 2)) = ls') (k : Sim G M rv (pc + 1) ls' st h o) : Sim G M rv pc ls (.int x :: st) h o := by
  intro a ha p e s m args below meth c H locs la hx hb hr hts hown hml hk hI hK hX hP hS hl
  exact lv_istore_n hx hb hd hi hl hn he (fun la2 hl2 => (k a ha p e s m args below meth c H locs la2 hx hb hr hts hown hml hk hI hK hX hP hS hl2))
theorem E_istore {i : Nat} {x : Int32} {ls' : List (Nat × Value)} (hd : decode M.cc pc = .ok (.istore i, 2)) (hn : i < M.nL) (he : (i, Value.int x) :: ls.filter (fun q => !(q.1 == i) && !(q.1 + 1 == i && q.2.category == 2)) = ls') (k : Sim G M rv (pc + 2) ls' st h o) : Sim G M rv pc ls (.int x :: st) h o := by
  intro a ha p e s m args below meth c H locs la hx hb hr hts hown hml hk hI hK hX hP hS hl
  exact lv_istore hx hb hd hl hn he (fun la2 hl2 => (k a ha p e s m args below meth c H locs la2 hx hb hr hts hown hml hk hI hK hX hP hS hl2))
theorem E_lstore_n {f : Fin 4} {i : Nat} {x : Int64} {ls' : List (Nat × Value)} (hd : decode M.cc pc = .ok (.lstore_n f, 1)) (hi : (f : Nat) = i) (hn : i + 1 < M.nL) (he : (i, Value.long x) :: ls.filter (fun q => !(q.1 == i) && (!(q.1 == i + 1) && !(q.1 + 1 == i && q.2.category == 2))) = ls') (k : Sim G M rv (pc + 1) ls' st h o) : Sim G M rv pc ls (.long x :: st) h o := by
  intro a ha p e s m args below meth c H locs la hx hb hr hts hown hml hk hI hK hX hP hS hl
  exact lv_lstore_n hx hb hd hi hl hn he (fun la2 hl2 => (k a ha p e s m args below meth c H locs la2 hx hb hr hts hown hml hk hI hK hX hP hS hl2))
theorem E_lstore {i : Nat} {x : Int64} {ls' : List (Nat × Value)} (hd : decode M.cc pc = .ok (.lstore i, 2)) (hn : i + 1 < M.nL) (he : (i, Value.long x) :: ls.filter (fun q => !(q.1 == i) && (!(q.1 == i + 1) && !(q.1 + 1 == i && q.2.category == 2))) = ls') (k : Sim G M rv (pc + 2) ls' st h o) : Sim G M rv pc ls (.long x :: st) h o := by
  intro a ha p e s m args below meth c H locs la hx hb hr hts hown hml hk hI hK hX hP hS hl
  exact lv_lstore hx hb hd hl hn he (fun la2 hl2 => (k a ha p e s m args below meth c H locs la2 hx hb hr hts hown hml hk hI hK hX hP hS hl2))
theorem E_astore_n {f : Fin 4} {i : Nat} {x : Nat} {ls' : List (Nat × Value)} (hd : decode M.cc pc = .ok (.astore_n f, 1)) (hi : (f : Nat) = i) (hn : i < M.nL) (he : (i, Value.ref x) :: ls.filter (fun q => !(q.1 == i) && !(q.1 + 1 == i && q.2.category == 2)) = ls') (k : Sim G M rv (pc + 1) ls' st h o) : Sim G M rv pc ls (.ref x :: st) h o := by
  intro a ha p e s m args below meth c H locs la hx hb hr hts hown hml hk hI hK hX hP hS hl
  exact lv_astore_n hx hb hd hi hl hn he (fun la2 hl2 => (k a ha p e s m args below meth c H locs la2 hx hb hr hts hown hml hk hI hK hX hP hS hl2))
theorem E_astore {i : Nat} {x : Nat} {ls' : List (Nat × Value)} (hd : decode M.cc pc = .ok (.astore i, 2)) (hn : i < M.nL) (he : (i, Value.ref x) :: ls.filter (fun q => !(q.1 == i) && !(q.1 + 1 == i && q.2.category == 2)) = ls') (k : Sim G M rv (pc + 2) ls' st h o) : Sim G M rv pc ls (.ref x :: st) h o := by
  intro a ha p e s m args below meth c H locs la hx hb hr hts hown hml hk hI hK hX hP hS hl
  exact lv_astore hx hb hd hl hn he (fun la2 hl2 => (k a ha p e s m args below meth c H locs la2 hx hb hr hts hown hml hk hI hK hX hP hS hl2))
theorem E_iinc {i q : Nat} {n : Int} {x v : Int32} {ls' : List (Nat × Value)} (hd : decode M.cc pc = .ok (.iinc i n, 3)) (hq : ls[q]? = some (i, .int x)) (hv : x + Int32.ofInt n = v) (hn : i < M.nL) (he : (i, Value.int v) :: ls.filter (fun q => !(q.1 == i) && !(q.1 + 1 == i && q.2.category == 2)) = ls') (k : Sim G M rv (pc + 3) ls' st h o) : Sim G M rv pc ls st h o := by
  intro a ha p e s m args below meth c H locs la hx hb hr hts hown hml hk hI hK hX hP hS hl
  exact lv_iinc hx hb hd hl hq hv hn he (fun la2 hl2 => (k a ha p e s m args below meth c H locs la2 hx hb hr hts hown hml hk hI hK hX hP hS hl2))
theorem E_iadd {x y : Int32} (hd : decode M.cc pc = .ok (.iadd, 1)) (k : Sim G M rv (pc + 1) ls (.int (x + y) :: st) h o) : Sim G M rv pc ls (.int y :: .int x :: st) h o := by
  intro a ha p e s m args below meth c H locs la hx hb hr hts hown hml hk hI hK hX hP hS hl
  exact lv_iadd hx hb hd (k a ha p e s m args below meth c H locs la hx hb hr hts hown hml hk hI hK hX hP hS hl)
theorem E_isub {x y : Int32} (hd : decode M.cc pc = .ok (.isub, 1)) (k : Sim G M rv (pc + 1) ls (.int (x - y) :: st) h o) : Sim G M rv pc ls (.int y :: .int x :: st) h o := by
  intro a ha p e s m args below meth c H locs la hx hb hr hts hown hml hk hI hK hX hP hS hl
  exact lv_isub hx hb hd (k a ha p e s m args below meth c H locs la hx hb hr hts hown hml hk hI hK hX hP hS hl)
theorem E_imul {x y : Int32} (hd : decode M.cc pc = .ok (.imul, 1)) (k : Sim G M rv (pc + 1) ls (.int (x * y) :: st) h o) : Sim G M rv pc ls (.int y :: .int x :: st) h o := by
  intro a ha p e s m args below meth c H locs la hx hb hr hts hown hml hk hI hK hX hP hS hl
  exact lv_imul hx hb hd (k a ha p e s m args below meth c H locs la hx hb hr hts hown hml hk hI hK hX hP hS hl)
theorem E_iand {x y : Int32} (hd : decode M.cc pc = .ok (.iand, 1)) (k : Sim G M rv (pc + 1) ls (.int (x &&& y) :: st) h o) : Sim G M rv pc ls (.int y :: .int x :: st) h o := by
  intro a ha p e s m args below meth c H locs la hx hb hr hts hown hml hk hI hK hX hP hS hl
  exact lv_iand hx hb hd (k a ha p e s m args below meth c H locs la hx hb hr hts hown hml hk hI hK hX hP hS hl)
theorem E_ior {x y : Int32} (hd : decode M.cc pc = .ok (.ior, 1)) (k : Sim G M rv (pc + 1) ls (.int (x ||| y) :: st) h o) : Sim G M rv pc ls (.int y :: .int x :: st) h o := by
  intro a ha p e s m args below meth c H locs la hx hb hr hts hown hml hk hI hK hX hP hS hl
  exact lv_ior hx hb hd (k a ha p e s m args below meth c H locs la hx hb hr hts hown hml hk hI hK hX hP hS hl)
theorem E_ixor {x y : Int32} (hd : decode M.cc pc = .ok (.ixor, 1)) (k : Sim G M rv (pc + 1) ls (.int (x ^^^ y) :: st) h o) : Sim G M rv pc ls (.int y :: .int x :: st) h o := by
  intro a ha p e s m args below meth c H locs la hx hb hr hts hown hml hk hI hK hX hP hS hl
  exact lv_ixor hx hb hd (k a ha p e s m args below meth c H locs la hx hb hr hts hown hml hk hI hK hX hP hS hl)
theorem E_ishl {x y : Int32} (hd : decode M.cc pc = .ok (.ishl, 1)) (k : Sim G M rv (pc + 1) ls (.int (x <<< (y &&& 31)) :: st) h o) : Sim G M rv pc ls (.int y :: .int x :: st) h o := by
  intro a ha p e s m args below meth c H locs la hx hb hr hts hown hml hk hI hK hX hP hS hl
  exact lv_ishl hx hb hd (k a ha p e s m args below meth c H locs la hx hb hr hts hown hml hk hI hK hX hP hS hl)
theorem E_ishr {x y : Int32} (hd : decode M.cc pc = .ok (.ishr, 1)) (k : Sim G M rv (pc + 1) ls (.int (x >>> (y &&& 31)) :: st) h o) : Sim G M rv pc ls (.int y :: .int x :: st) h o := by
  intro a ha p e s m args below meth c H locs la hx hb hr hts hown hml hk hI hK hX hP hS hl
  exact lv_ishr hx hb hd (k a ha p e s m args below meth c H locs la hx hb hr hts hown hml hk hI hK hX hP hS hl)
theorem E_ladd {x y : Int64} (hd : decode M.cc pc = .ok (.ladd, 1)) (k : Sim G M rv (pc + 1) ls (.long (x + y) :: st) h o) : Sim G M rv pc ls (.long y :: .long x :: st) h o := by
  intro a ha p e s m args below meth c H locs la hx hb hr hts hown hml hk hI hK hX hP hS hl
  exact lv_ladd hx hb hd (k a ha p e s m args below meth c H locs la hx hb hr hts hown hml hk hI hK hX hP hS hl)
theorem E_lmul {x y : Int64} (hd : decode M.cc pc = .ok (.lmul, 1)) (k : Sim G M rv (pc + 1) ls (.long (x * y) :: st) h o) : Sim G M rv pc ls (.long y :: .long x :: st) h o := by
  intro a ha p e s m args below meth c H locs la hx hb hr hts hown hml hk hI hK hX hP hS hl
  exact lv_lmul hx hb hd (k a ha p e s m args below meth c H locs la hx hb hr hts hown hml hk hI hK hX hP hS hl)
theorem E_lor {x y : Int64} (hd : decode M.cc pc = .ok (.lor, 1)) (k : Sim G M rv (pc + 1) ls (.long (x ||| y) :: st) h o) : Sim G M rv pc ls (.long y :: .long x :: st) h o := by
  intro a ha p e s m args below meth c H locs la hx hb hr hts hown hml hk hI hK hX hP hS hl
  exact lv_lor hx hb hd (k a ha p e s m args below meth c H locs la hx hb hr hts hown hml hk hI hK hX hP hS hl)
theorem E_idiv {x y : Int32} (hd : decode M.cc pc = .ok (.idiv, 1)) (k : ¬ y = 0 → Sim G M rv (pc + 1) ls (.int (x / y) :: st) h o) : Sim G M rv pc ls (.int y :: .int x :: st) h (if y = 0 then none else o) := by
  intro a ha
  by_cases h0 : y = 0
  · rw [if_pos h0] at ha; cases ha
  · rw [if_neg h0] at ha
    intro p e s m args below meth c H locs la hx hb hr hts hown hml hk hI hK hX hP hS hl
    exact lv_idiv hx hb hd h0 (k h0 a ha p e s m args below meth c H locs la hx hb hr hts hown hml hk hI hK hX hP hS hl)
theorem E_irem {x y : Int32} (hd : decode M.cc pc = .ok (.irem, 1)) (k : ¬ y = 0 → Sim G M rv (pc + 1) ls (.int (x - x / y * y) :: st) h o) : Sim G M rv pc ls (.int y :: .int x :: st) h (if y = 0 then none else o) := by
  intro a ha
  by_cases h0 : y = 0
  · rw [if_pos h0] at ha; cases ha
  · rw [if_neg h0] at ha
    intro p e s m args below meth c H locs la hx hb hr hts hown hml hk hI hK hX hP hS hl
    exact lv_irem hx hb hd h0 (k h0 a ha p e s m args below meth c H locs la hx hb hr hts hown hml hk hI hK hX hP hS hl)
theorem E_ineg {x : Int32} (hd : decode M.cc pc = .ok (.ineg, 1)) (k : Sim G M rv (pc + 1) ls (.int (-x) :: st) h o) : Sim G M rv pc ls (.int x :: st) h o := by
  intro a ha p e s m args below meth c H locs la hx hb hr hts hown hml hk hI hK hX hP hS hl
  exact lv_ineg hx hb hd (k a ha p e s m args below meth c H locs la hx hb hr hts hown hml hk hI hK hX hP hS hl)
theorem E_iushr {x y : Int32} (hd : decode M.cc pc = .ok (.iushr, 1)) (k : Sim G M rv (pc + 1) ls (.int (x.toUInt32 >>> (y.toUInt32 &&& Int32.toUInt32 31)).toInt32 :: st) h o) : Sim G M rv pc ls (.int y :: .int x :: st) h o := by
  intro a ha p e s m args below meth c H locs la hx hb hr hts hown hml hk hI hK hX hP hS hl
  exact lv_iushr hx hb hd rfl (k a ha p e s m args below meth c H locs la hx hb hr hts hown hml hk hI hK hX hP hS hl)
theorem E_lshl {x : Int64} {y : Int32} (hd : decode M.cc pc = .ok (.lshl, 1)) (k : Sim G M rv (pc + 1) ls (.long (x <<< (y.toInt64 &&& 63)) :: st) h o) : Sim G M rv pc ls (.int y :: .long x :: st) h o := by
  intro a ha p e s m args below meth c H locs la hx hb hr hts hown hml hk hI hK hX hP hS hl
  exact lv_lshl hx hb hd rfl (k a ha p e s m args below meth c H locs la hx hb hr hts hown hml hk hI hK hX hP hS hl)
theorem E_i2l {x : Int32} (hd : decode M.cc pc = .ok (.i2l, 1)) (k : Sim G M rv (pc + 1) ls (.long x.toInt64 :: st) h o) : Sim G M rv pc ls (.int x :: st) h o := by
  intro a ha p e s m args below meth c H locs la hx hb hr hts hown hml hk hI hK hX hP hS hl
  exact lv_i2l hx hb hd rfl (k a ha p e s m args below meth c H locs la hx hb hr hts hown hml hk hI hK hX hP hS hl)
theorem E_l2i {x : Int64} (hd : decode M.cc pc = .ok (.l2i, 1)) (k : Sim G M rv (pc + 1) ls (.int x.toInt32 :: st) h o) : Sim G M rv pc ls (.long x :: st) h o := by
  intro a ha p e s m args below meth c H locs la hx hb hr hts hown hml hk hI hK hX hP hS hl
  exact lv_l2i hx hb hd rfl (k a ha p e s m args below meth c H locs la hx hb hr hts hown hml hk hI hK hX hP hS hl)
theorem E_i2b {x : Int32} (hd : decode M.cc pc = .ok (.i2b, 1)) (k : Sim G M rv (pc + 1) ls (.int x.toInt8.toInt32 :: st) h o) : Sim G M rv pc ls (.int x :: st) h o := by
  intro a ha p e s m args below meth c H locs la hx hb hr hts hown hml hk hI hK hX hP hS hl
  exact lv_i2b hx hb hd rfl (k a ha p e s m args below meth c H locs la hx hb hr hts hown hml hk hI hK hX hP hS hl)
theorem E_lcmp {x y : Int64} (hd : decode M.cc pc = .ok (.lcmp, 1)) (k : Sim G M rv (pc + 1) ls (.int (lg_cmp x y) :: st) h o) : Sim G M rv pc ls (.long y :: .long x :: st) h o := by
  intro a ha p e s m args below meth c H locs la hx hb hr hts hown hml hk hI hK hX hP hS hl
  exact W.lcmp hx hb hd (k a ha p e s m args below meth c H locs la hx hb hr hts hown hml hk hI hK hX hP hS hl)
theorem E_dup {v : Value} (hd : decode M.cc pc = .ok (.dup, 1)) (hv : v.category = 1) (k : Sim G M rv (pc + 1) ls (v :: v :: st) h o) : Sim G M rv pc ls (v :: st) h o := by
  intro a ha p e s m args below meth c H locs la hx hb hr hts hown hml hk hI hK hX hP hS hl
  exact lv_dup hx hb hd hv (k a ha p e s m args below meth c H locs la hx hb hr hts hown hml hk hI hK hX hP hS hl)
theorem E_pop {v : Value} (hd : decode M.cc pc = .ok (.pop, 1)) (hv : v.category = 1) (k : Sim G M rv (pc + 1) ls (st) h o) : Sim G M rv pc ls (v :: st) h o := by
  intro a ha p e s m args below meth c H locs la hx hb hr hts hown hml hk hI hK hX hP hS hl
  exact lv_pop hx hb hd hv (k a ha p e s m args below meth c H locs la hx hb hr hts hown hml hk hI hK hX hP hS hl)
theorem E_dup2 {v u : Value} (hd : decode M.cc pc = .ok (.dup2, 1)) (hv : v.category = 1) (hu : u.category = 1) (k : Sim G M rv (pc + 1) ls (v :: u :: v :: u :: st) h o) : Sim G M rv pc ls (v :: u :: st) h o := by
  intro a ha p e s m args below meth c H locs la hx hb hr hts hown hml hk hI hK hX hP hS hl
  exact lv_dup2_11 hx hb hd hv hu (k a ha p e s m args below meth c H locs la hx hb hr hts hown hml hk hI hK hX hP hS hl)
theorem E_goto {off : Int} {t : Nat} (hd : decode M.cc pc = .ok (.goto off, 3)) (ht : (pc : Int) + off = (t : Int)) (k : Sim G M rv t ls st h o) : Sim G M rv pc ls st h o := by
  intro a ha p e s m args below meth c H locs la hx hb hr hts hown hml hk hI hK hX hP hS hl
  exact lv_goto hx hb hd ht (k a ha p e s m args below meth c H locs la hx hb hr hts hown hml hk hI hK hX hP hS hl)
theorem E_if_eq {x : Int32} {off : Int} {t : Nat} {ot of : Option α} (hd : decode M.cc pc = .ok (.ifCond .eq off, 3)) (ht : (pc : Int) + off = (t : Int)) (kt : Sim G M rv t ls st h ot) (kf : Sim G M rv (pc + 3) ls st h of) : Sim G M rv pc ls (.int x :: st) h (if x = 0 then ot else of) := by
  intro a ha
  by_cases h0 : x = 0
  · rw [if_pos h0] at ha
    intro p e s m args below meth c H locs la hx hb hr hts hown hml hk hI hK hX hP hS hl
    exact lv_if_eq hx hb hd ht (fun _ => kt a ha p e s m args below meth c H locs la hx hb hr hts hown hml hk hI hK hX hP hS hl) (fun z => absurd h0 z)
  · rw [if_neg h0] at ha
    intro p e s m args below meth c H locs la hx hb hr hts hown hml hk hI hK hX hP hS hl
    exact lv_if_eq hx hb hd ht (fun z => absurd z h0) (fun _ => kf a ha p e s m args below meth c H locs la hx hb hr hts hown hml hk hI hK hX hP hS hl)
theorem E_if_ne {x : Int32} {off : Int} {t : Nat} {ot of : Option α} (hd : decode M.cc pc = .ok (.ifCond .ne off, 3)) (ht : (pc : Int) + off = (t : Int)) (kt : Sim G M rv t ls st h ot) (kf : Sim G M rv (pc + 3) ls st h of) : Sim G M rv pc ls (.int x :: st) h (if x = 0 then of else ot) := by
  intro a ha
  by_cases h0 : x = 0
  · rw [if_pos h0] at ha
    intro p e s m args below meth c H locs la hx hb hr hts hown hml hk hI hK hX hP hS hl
    exact lv_if_ne hx hb hd ht (fun z => absurd h0 z) (fun _ => kf a ha p e s m args below meth c H locs la hx hb hr hts hown hml hk hI hK hX hP hS hl)
  · rw [if_neg h0] at ha
    intro p e s m args below meth c H locs la hx hb hr hts hown hml hk hI hK hX hP hS hl
    exact lv_if_ne hx hb hd ht (fun _ => kt a ha p e s m args below meth c H locs la hx hb hr hts hown hml hk hI hK hX hP hS hl) (fun z => absurd z h0)
theorem E_if_lt {x : Int32} {off : Int} {t : Nat} {ot of : Option α} (hd : decode M.cc pc = .ok (.ifCond .lt off, 3)) (ht : (pc : Int) + off = (t : Int)) (kt : Sim G M rv t ls st h ot) (kf : Sim G M rv (pc + 3) ls st h of) : Sim G M rv pc ls (.int x :: st) h (if x < 0 then ot else of) := by
  intro a ha
  by_cases h0 : x < 0
  · rw [if_pos h0] at ha
    intro p e s m args below meth c H locs la hx hb hr hts hown hml hk hI hK hX hP hS hl
    exact lv_if_lt hx hb hd ht (fun _ => kt a ha p e s m args below meth c H locs la hx hb hr hts hown hml hk hI hK hX hP hS hl) (fun z => absurd h0 z)
  · rw [if_neg h0] at ha
    intro p e s m args below meth c H locs la hx hb hr hts hown hml hk hI hK hX hP hS hl
    exact lv_if_lt hx hb hd ht (fun z => absurd z h0) (fun _ => kf a ha p e s m args below meth c H locs la hx hb hr hts hown hml hk hI hK hX hP hS hl)
theorem E_if_ge {x : Int32} {off : Int} {t : Nat} {ot of : Option α} (hd : decode M.cc pc = .ok (.ifCond .ge off, 3)) (ht : (pc : Int) + off = (t : Int)) (kt : Sim G M rv t ls st h ot) (kf : Sim G M rv (pc + 3) ls st h of) : Sim G M rv pc ls (.int x :: st) h (if 0 ≤ x then ot else of) := by
  intro a ha
  by_cases h0 : 0 ≤ x
  · rw [if_pos h0] at ha
    intro p e s m args below meth c H locs la hx hb hr hts hown hml hk hI hK hX hP hS hl
    exact lv_if_ge hx hb hd ht (fun _ => kt a ha p e s m args below meth c H locs la hx hb hr hts hown hml hk hI hK hX hP hS hl) (fun z => absurd h0 z)
  · rw [if_neg h0] at ha
    intro p e s m args below meth c H locs la hx hb hr hts hown hml hk hI hK hX hP hS hl
    exact lv_if_ge hx hb hd ht (fun z => absurd z h0) (fun _ => kf a ha p e s m args below meth c H locs la hx hb hr hts hown hml hk hI hK hX hP hS hl)
theorem E_if_gt {x : Int32} {off : Int} {t : Nat} {ot of : Option α} (hd : decode M.cc pc = .ok (.ifCond .gt off, 3)) (ht : (pc : Int) + off = (t : Int)) (kt : Sim G M rv t ls st h ot) (kf : Sim G M rv (pc + 3) ls st h of) : Sim G M rv pc ls (.int x :: st) h (if 0 < x then ot else of) := by
  intro a ha
  by_cases h0 : 0 < x
  · rw [if_pos h0] at ha
    intro p e s m args below meth c H locs la hx hb hr hts hown hml hk hI hK hX hP hS hl
    exact lv_if_gt hx hb hd ht (fun _ => kt a ha p e s m args below meth c H locs la hx hb hr hts hown hml hk hI hK hX hP hS hl) (fun z => absurd h0 z)
  · rw [if_neg h0] at ha
    intro p e s m args below meth c H locs la hx hb hr hts hown hml hk hI hK hX hP hS hl
    exact lv_if_gt hx hb hd ht (fun z => absurd z h0) (fun _ => kf a ha p e s m args below meth c H locs la hx hb hr hts hown hml hk hI hK hX hP hS hl)
theorem E_if_le {x : Int32} {off : Int} {t : Nat} {ot of : Option α} (hd : decode M.cc pc = .ok (.ifCond .le off, 3)) (ht : (pc : Int) + off = (t : Int)) (kt : Sim G M rv t ls st h ot) (kf : Sim G M rv (pc + 3) ls st h of) : Sim G M rv pc ls (.int x :: st) h (if x ≤ 0 then ot else of) := by
  intro a ha
  by_cases h0 : x ≤ 0
  · rw [if_pos h0] at ha
    intro p e s m args below meth c H locs la hx hb hr hts hown hml hk hI hK hX hP hS hl
    exact lv_if_le hx hb hd ht (fun _ => kt a ha p e s m args below meth c H locs la hx hb hr hts hown hml hk hI hK hX hP hS hl) (fun z => absurd h0 z)
  · rw [if_neg h0] at ha
    intro p e s m args below meth c H locs la hx hb hr hts hown hml hk hI hK hX hP hS hl
    exact lv_if_le hx hb hd ht (fun z => absurd z h0) (fun _ => kf a ha p e s m args below meth c H locs la hx hb hr hts hown hml hk hI hK hX hP hS hl)
theorem E_icmp_eq {x y : Int32} {off : Int} {t : Nat} {ot of : Option α} (hd : decode M.cc pc = .ok (.if_icmp .eq off, 3)) (ht : (pc : Int) + off = (t : Int)) (kt : Sim G M rv t ls st h ot) (kf : Sim G M rv (pc + 3) ls st h of) : Sim G M rv pc ls (.int y :: .int x :: st) h (if x = y then ot else of) := by
  intro a ha
  by_cases h0 : x = y
  · rw [if_pos h0] at ha
    intro p e s m args below meth c H locs la hx hb hr hts hown hml hk hI hK hX hP hS hl
    exact lv_icmp_eq hx hb hd ht (fun _ => kt a ha p e s m args below meth c H locs la hx hb hr hts hown hml hk hI hK hX hP hS hl) (fun z => absurd h0 z)
  · rw [if_neg h0] at ha
    intro p e s m args below meth c H locs la hx hb hr hts hown hml hk hI hK hX hP hS hl
    exact lv_icmp_eq hx hb hd ht (fun z => absurd z h0) (fun _ => kf a ha p e s m args below meth c H locs la hx hb hr hts hown hml hk hI hK hX hP hS hl)
theorem E_icmp_ne {x y : Int32} {off : Int} {t : Nat} {ot of : Option α} (hd : decode M.cc pc = .ok (.if_icmp .ne off, 3)) (ht : (pc : Int) + off = (t : Int)) (kt : Sim G M rv t ls st h ot) (kf : Sim G M rv (pc + 3) ls st h of) : Sim G M rv pc ls (.int y :: .int x :: st) h (if x = y then of else ot) := by
  intro a ha
  by_cases h0 : x = y
  · rw [if_pos h0] at ha
    intro p e s m args below meth c H locs la hx hb hr hts hown hml hk hI hK hX hP hS hl
    exact lv_icmp_ne hx hb hd ht (fun z => absurd h0 z) (fun _ => kf a ha p e s m args below meth c H locs la hx hb hr hts hown hml hk hI hK hX hP hS hl)
  · rw [if_neg h0] at ha
    intro p e s m args below meth c H locs la hx hb hr hts hown hml hk hI hK hX hP hS hl
    exact lv_icmp_ne hx hb hd ht (fun _ => kt a ha p e s m args below meth c H locs la hx hb hr hts hown hml hk hI hK hX hP hS hl) (fun z => absurd z h0)
theorem E_icmp_lt {x y : Int32} {off : Int} {t : Nat} {ot of : Option α} (hd : decode M.cc pc = .ok (.if_icmp .lt off, 3)) (ht : (pc : Int) + off = (t : Int)) (kt : Sim G M rv t ls st h ot) (kf : Sim G M rv (pc + 3) ls st h of) : Sim G M rv pc ls (.int y :: .int x :: st) h (if x < y then ot else of) := by
  intro a ha
  by_cases h0 : x < y
  · rw [if_pos h0] at ha
    intro p e s m args below meth c H locs la hx hb hr hts hown hml hk hI hK hX hP hS hl
    exact lv_icmp_lt hx hb hd ht (fun _ => kt a ha p e s m args below meth c H locs la hx hb hr hts hown hml hk hI hK hX hP hS hl) (fun z => absurd h0 z)
  · rw [if_neg h0] at ha
    intro p e s m args below meth c H locs la hx hb hr hts hown hml hk hI hK hX hP hS hl
    exact lv_icmp_lt hx hb hd ht (fun z => absurd z h0) (fun _ => kf a ha p e s m args below meth c H locs la hx hb hr hts hown hml hk hI hK hX hP hS hl)
theorem E_icmp_ge {x y : Int32} {off : Int} {t : Nat} {ot of : Option α} (hd : decode M.cc pc = .ok (.if_icmp .ge off, 3)) (ht : (pc : Int) + off = (t : Int)) (kt : Sim G M rv t ls st h ot) (kf : Sim G M rv (pc + 3) ls st h of) : Sim G M rv pc ls (.int y :: .int x :: st) h (if x < y then of else ot) := by
  intro a ha
  by_cases h0 : x < y
  · rw [if_pos h0] at ha
    intro p e s m args below meth c H locs la hx hb hr hts hown hml hk hI hK hX hP hS hl
    exact lv_icmp_ge hx hb hd ht (fun z => absurd h0 (Int32.not_lt.mpr z)) (fun _ => kf a ha p e s m args below meth c H locs la hx hb hr hts hown hml hk hI hK hX hP hS hl)
  · rw [if_neg h0] at ha
    intro p e s m args below meth c H locs la hx hb hr hts hown hml hk hI hK hX hP hS hl
    exact lv_icmp_ge hx hb hd ht (fun _ => kt a ha p e s m args below meth c H locs la hx hb hr hts hown hml hk hI hK hX hP hS hl) (fun z => absurd (Int32.not_lt.mp h0) z)
theorem E_icmp_gt {x y : Int32} {off : Int} {t : Nat} {ot of : Option α} (hd : decode M.cc pc = .ok (.if_icmp .gt off, 3)) (ht : (pc : Int) + off = (t : Int)) (kt : Sim G M rv t ls st h ot) (kf : Sim G M rv (pc + 3) ls st h of) : Sim G M rv pc ls (.int y :: .int x :: st) h (if x ≤ y then of else ot) := by
  intro a ha
  by_cases h0 : x ≤ y
  · rw [if_pos h0] at ha
    intro p e s m args below meth c H locs la hx hb hr hts hown hml hk hI hK hX hP hS hl
    exact lv_icmp_gt hx hb hd ht (fun z => absurd z (Int32.not_lt.mpr h0)) (fun _ => kf a ha p e s m args below meth c H locs la hx hb hr hts hown hml hk hI hK hX hP hS hl)
  · rw [if_neg h0] at ha
    intro p e s m args below meth c H locs la hx hb hr hts hown hml hk hI hK hX hP hS hl
    exact lv_icmp_gt hx hb hd ht (fun _ => kt a ha p e s m args below meth c H locs la hx hb hr hts hown hml hk hI hK hX hP hS hl) (fun z => absurd (Int32.not_le.mp h0) z)
theorem E_icmp_le {x y : Int32} {off : Int} {t : Nat} {ot of : Option α} (hd : decode M.cc pc = .ok (.if_icmp .le off, 3)) (ht : (pc : Int) + off = (t : Int)) (kt : Sim G M rv t ls st h ot) (kf : Sim G M rv (pc + 3) ls st h of) : Sim G M rv pc ls (.int y :: .int x :: st) h (if x ≤ y then ot else of) := by
  intro a ha
  by_cases h0 : x ≤ y
  · rw [if_pos h0] at ha
    intro p e s m args below meth c H locs la hx hb hr hts hown hml hk hI hK hX hP hS hl
    exact lv_icmp_le hx hb hd ht (fun _ => kt a ha p e s m args below meth c H locs la hx hb hr hts hown hml hk hI hK hX hP hS hl) (fun z => absurd h0 z)
  · rw [if_neg h0] at ha
    intro p e s m args below meth c H locs la hx hb hr hts hown hml hk hI hK hX hP hS hl
    exact lv_icmp_le hx hb hd ht (fun z => absurd z h0) (fun _ => kf a ha p e s m args below meth c H locs la hx hb hr hts hown hml hk hI hK hX hP hS hl)
end Rules
