/-! ===== constructors: a world that grows ===== -/
def CQ (G : JG) (A : Nat → Prop) (post : va_W → Prop) : Array Value → State → Outcome → State → Prop := fun _ st oc t => oc = .returned none ∧ (∃ w, post w ∧ va_P G.D vwCl w t.heap ∧ va_D A w) ∧ va_F A st t
def CPc (G : JG) (h0 : Nat) (e0 : va_E) (sz : Nat) : Array Value → State → Prop := va_Pc [.ref h0] (fun U => U.heap.size = sz ∧ va_P G.D vwCl [(h0, e0)] U.heap ∧ va_K G.D vwCl (tysJ G.cT) U ∧ NX U ∧ va_AO "PaintedOver$Works" U)
def CMt (G : JG) (M : MI) (h0 : Nat) (e0 : va_E) (post : va_W → Prop) (mc ms : Nat) : Prop := ∀ sz, Met G.l M.y M.ws M.rm (CPc G h0 e0 sz) (CQ G (va_A [(h0, e0)] sz) post) mc ms (va_A [(h0, e0)] sz)
/-- from this frame on the constructor makes a world of which post holds, mc cells of ms slots in all -/
def CSim (G : JG) (M : MI) (A : Nat → Prop) (post : va_W → Prop) (mc ms : Nat) (pc : Nat) (ls : List (Nat × Value)) (st : List Value) (ws : va_W) (cells slots : Nat) : Prop :=
  ∀ (p : Program) (e : Env) (s : State) (m : MethodId) (args : Array Value) (below : List Frame) (meth : Method) (c : Code) (H : Heap) (locs : List Loc) (la : Array Slot),
    p.tables.exec = Jvm.exec → c.code = M.cc → meth.sig.returnType = none → (∀ w ∈ JT, w.before args s = true) → s.vm.findClass M.y.cls = some m.cls → c.maxLocals = M.nL → meth.locks = false → meth.name = "<init>" →
    va_K G.D vwCl (tysJ G.cT) s → NX s → va_AO "PaintedOver$Works" s → (∀ q, s.heap.size ≤ q → A q) → va_P G.D vwCl ws H → va_D A ws → va_S A s.heap H locs → lv_has la M.nL ls →
    W p G.l e M.rm s m args below meth c H locs cells slots (MQ below (CQ G A post) args s mc ms A) (F0 m pc la st)
theorem NX.moved {s U : State} (hv : U.vm = s.vm) (h : NX s) : NX U := fun q hq => va_Nw.same rfl hv.symm (h q hq)
theorem NX.next {s U : State} (hW : s.WarmedH U.vm) (h : NX s) : NX U := fun q hq => va_Nw.warmM hW (h q hq)
theorem CPc_blind (G : JG) (h0 : Nat) (e0 : va_E) (sz : Nat) : FrameBlind (CPc G h0 e0 sz) := by
  intro a U g mk q
  obtain ⟨q0, qz, qP, qK, qN, qO⟩ := q
  exact ⟨q0, qz, qP, va_K.moved (u := U) (U := U.calling g mk a) (Vm.Alike.refl U.vm) qK, NX.moved (s := U) rfl qN, va_AO.moved (u := U) (Vm.Alike.refl U.vm) qO⟩
theorem CMt_of {G : JG} {M : MI} {h0 : Nat} {e0 : va_E} {post : va_W → Prop} {mc ms : Nat} (hy : plainName M.y.cls = true) (hr : M.ret = none) (hn : M.y.name = "<init>") (hnL : 1 ≤ M.nL) (k : ∀ A, CSim G M A post mc ms 0 [(0, .ref h0)] [] [(h0, e0)] 0 0) : CMt G M h0 e0 post mc ms := by
  intro sz
  refine Met.ofW (cc := M.cc) (maxL := M.nL) (ret := M.ret) hy rfl ?_
  intro p e s m args below meth c s₁ B hml hv
  obtain ⟨rfl, hsz, hP, hK, hN, hO⟩ := hv
  have hts := atoms_spec (ws := M.ws) B.pre
  have hown : s.vm.findClass M.y.cls = some m.cls := findClass_of_methodNamed B.named
  have hin : meth.name = "<init>" := (name_of_methodNamed B.named B.method).1.trans hn
  have hl := lv_entry [.ref h0] (n := M.nL) hnL
  rw [lg_entry_eq]
  subst hsz
  have hD : va_D (va_A [(h0, e0)] s.heap.size) [(h0, e0)] := by
    refine ⟨fun i j p q hp hq _ => ?_, fun n p hp => ?_⟩
    · have h1 : i < 1 := (List.getElem?_eq_some_iff.mp hp).1
      have h2 : j < 1 := (List.getElem?_eq_some_iff.mp hq).1
      omega
    · exact va_A.in hp
  exact k _ p e s m _ below meth c s.heap [] _ B.exec B.bytes (B.returns.trans hr) (fun w hw => hts w (List.mem_cons_of_mem _ hw)) hown hml B.notSynchronized hin hK hN hO (fun q h => Or.inr h) hP hD va_S.rf hl
theorem K_append {D : va_G} {X : va_W} {H H1 : Heap} {A : Nat → Prop} {q : Nat} {e : va_E} {w : va_W} (hP : va_P D vwCl (X ++ [(q, e)]) H) (hD : va_D A (X ++ [(q, e)])) (hk : ∀ a : Nat, a < H.size → ¬ va_A [(q, e)] H.size a → H1[a]? = H[a]?) (hF : ∀ a, va_A [(q, e)] H.size a → A a)
    (hP1 : va_P D vwCl w H1) (hD1 : va_D (va_A [(q, e)] H.size) w) : va_P D vwCl (X ++ w) H1 ∧ va_D A (X ++ w) := by
  have key : ∀ (k : Nat) (x : Nat × va_E), X[k]? = some x → x.1 < H.size ∧ ¬ va_A [(q, e)] H.size x.1 := by
    intro k x hx
    obtain ⟨l1, -⟩ := List.getElem?_eq_some_iff.mp hx
    have h1 : (X ++ [(q, e)])[k]? = some x := by rw [List.getElem?_append_left l1]; exact hx
    have hlt := (hP k x h1).lt
    refine ⟨hlt, fun h => ?_⟩
    rcases h with ⟨j, e', hj⟩ | h
    · have hj0 : j < 1 := (List.getElem?_eq_some_iff.mp hj).1
      have : j = 0 := by omega
      subst this
      cases hj
      have h2 : (X ++ [(x.1, e)])[X.length]? = some (x.1, e) := by simp
      have := hD.1 k X.length x (x.1, e) h1 h2 rfl
      omega
    · omega
  refine ⟨va_P.app (fun k x hx => ?_) hP1, va_D.app ⟨fun i j p r hp hr => ?_, fun n p hp => ?_⟩ (hD1.weaken (fun k x _ h => hF x.1 h)) (fun i j x y hx hy hxy => ?_)⟩
  · obtain ⟨l1, -⟩ := List.getElem?_eq_some_iff.mp hx
    have h1 : (X ++ [(q, e)])[k]? = some x := by rw [List.getElem?_append_left l1]; exact hx
    obtain ⟨g1, g2⟩ := key k x hx
    exact (hP k x h1).kept (hk x.1 g1 g2)
  · obtain ⟨l1, -⟩ := List.getElem?_eq_some_iff.mp hp
    obtain ⟨l2, -⟩ := List.getElem?_eq_some_iff.mp hr
    exact hD.1 i j p r (by rw [List.getElem?_append_left l1]; exact hp) (by rw [List.getElem?_append_left l2]; exact hr)
  · obtain ⟨l1, -⟩ := List.getElem?_eq_some_iff.mp hp
    exact hD.2 n p (by rw [List.getElem?_append_left l1]; exact hp)
  · exact (key i x hx).2 (by rw [hxy]; exact hD1.2 j y hy)
section Rules
variable {G : JG} {M : MI} {A : Nat → Prop} {post : va_W → Prop} {mc ms : Nat} {pc : Nat} {ls : List (Nat × Value)} {st : List Value} {ws : va_W} {cells slots : Nat}
theorem K_iconst {n : Int} {v : Int32} (hd : decode M.cc pc = .ok (.iconst n, 1)) (hv : Int32.ofInt n = v) (k : CSim G M A post mc ms (pc + 1) ls (.int v :: st) ws cells slots) : CSim G M A post mc ms pc ls (st) ws cells slots := by
  intro p e s m args below meth c H locs la hx hb hr hts hown hml hk hin hK hN hO hA hP hD hS hl
  exact lv_iconst hx hb hd hv (k p e s m args below meth c H locs la hx hb hr hts hown hml hk hin hK hN hO hA hP hD hS hl)
theorem K_bipush {n : Int} {v : Int32} (hd : decode M.cc pc = .ok (.bipush n, 2)) (hv : (Int8.ofInt n).toInt32 = v) (k : CSim G M A post mc ms (pc + 2) ls (.int v :: st) ws cells slots) : CSim G M A post mc ms pc ls (st) ws cells slots := by
  intro p e s m args below meth c H locs la hx hb hr hts hown hml hk hin hK hN hO hA hP hD hS hl
  exact lv_bipush hx hb hd hv (k p e s m args below meth c H locs la hx hb hr hts hown hml hk hin hK hN hO hA hP hD hS hl)
theorem K_sipush {n : Int} {v : Int32} (hd : decode M.cc pc = .ok (.sipush n, 3)) (hv : (Int16.ofInt n).toInt32 = v) (k : CSim G M A post mc ms (pc + 3) ls (.int v :: st) ws cells slots) : CSim G M A post mc ms pc ls (st) ws cells slots := by
  intro p e s m args below meth c H locs la hx hb hr hts hown hml hk hin hK hN hO hA hP hD hS hl
  exact lv_sipush hx hb hd hv (k p e s m args below meth c H locs la hx hb hr hts hown hml hk hin hK hN hO hA hP hD hS hl)
theorem K_iload_n {f : Fin 4} {i : Nat} {x : Int32} (hd : decode M.cc pc = .ok (.iload_n f, 1)) (hi : (f : Nat) = i) (q : Nat) (hq : ls[q]? = some (i, .int x)) (k : CSim G M A post mc ms (pc + 1) ls (.int x :: st) ws cells slots) : CSim G M A post mc ms pc ls (st) ws cells slots := by
  intro p e s m args below meth c H locs la hx hb hr hts hown hml hk hin hK hN hO hA hP hD hS hl
  exact lv_iload_n hx hb hd hi (lv_at hl q hq) (k p e s m args below meth c H locs la hx hb hr hts hown hml hk hin hK hN hO hA hP hD hS hl)
theorem K_aload_n {f : Fin 4} {i : Nat} {x : Nat} (hd : decode M.cc pc = .ok (.aload_n f, 1)) (hi : (f : Nat) = i) (q : Nat) (hq : ls[q]? = some (i, .ref x)) (k : CSim G M A post mc ms (pc + 1) ls (.ref x :: st) ws cells slots) : CSim G M A post mc ms pc ls (st) ws cells slots := by
  intro p e s m args below meth c H locs la hx hb hr hts hown hml hk hin hK hN hO hA hP hD hS hl
  exact lv_aload_n hx hb hd hi (lv_at hl q hq) (k p e s m args below meth c H locs la hx hb hr hts hown hml hk hin hK hN hO hA hP hD hS hl)
theorem K_dup {v : Value} (hd : decode M.cc pc = .ok (.dup, 1)) (hv : v.category = 1) (k : CSim G M A post mc ms (pc + 1) ls (v :: v :: st) ws cells slots) : CSim G M A post mc ms pc ls (v :: st) ws cells slots := by
  intro p e s m args below meth c H locs la hx hb hr hts hown hml hk hin hK hN hO hA hP hD hS hl
  exact lv_dup hx hb hd hv (k p e s m args below meth c H locs la hx hb hr hts hown hml hk hin hK hN hO hA hP hD hS hl)
theorem K_istore_n {f : Fin 4} {i : Nat} {x : Int32} {ls' : List (Nat × Value)} (hd : decode M.cc pc = .ok (.istore_n f, 1)) (hi : (f : Nat) = i) (hn : i < M.nL) (he : (i, Value.int x) :: ls.filter (fun q => !(q.1 == i) && !(q.1 + 1 == i && q.2.category == 2)) = ls') (k : CSim G M A post mc ms (pc + 1) ls' st ws cells slots) : CSim G M A post mc ms pc ls (.int x :: st) ws cells slots := by
  intro p e s m args below meth c H locs la hx hb hr hts hown hml hk hin hK hN hO hA hP hD hS hl
  exact lv_istore_n hx hb hd hi hl hn he (fun la2 hl2 => (k p e s m args below meth c H locs la2 hx hb hr hts hown hml hk hin hK hN hO hA hP hD hS hl2))
theorem K_iinc {i q : Nat} {n : Int} {x v : Int32} {ls' : List (Nat × Value)} (hd : decode M.cc pc = .ok (.iinc i n, 3)) (hq : ls[q]? = some (i, .int x)) (hv : x + Int32.ofInt n = v) (hn : i < M.nL) (he : (i, Value.int v) :: ls.filter (fun q => !(q.1 == i) && !(q.1 + 1 == i && q.2.category == 2)) = ls') (k : CSim G M A post mc ms (pc + 3) ls' st ws cells slots) : CSim G M A post mc ms pc ls st ws cells slots := by
  intro p e s m args below meth c H locs la hx hb hr hts hown hml hk hin hK hN hO hA hP hD hS hl
  exact lv_iinc hx hb hd hl hq hv hn he (fun la2 hl2 => (k p e s m args below meth c H locs la2 hx hb hr hts hown hml hk hin hK hN hO hA hP hD hS hl2))
theorem K_goto {off : Int} {t : Nat} (hd : decode M.cc pc = .ok (.goto off, 3)) (ht : (pc : Int) + off = (t : Int)) (k : CSim G M A post mc ms t ls st ws cells slots) : CSim G M A post mc ms pc ls st ws cells slots := by
  intro p e s m args below meth c H locs la hx hb hr hts hown hml hk hin hK hN hO hA hP hD hS hl
  exact lv_goto hx hb hd ht (k p e s m args below meth c H locs la hx hb hr hts hown hml hk hin hK hN hO hA hP hD hS hl)
theorem K_ge_t {x y : Int32} {off : Int} {t : Nat} (hd : decode M.cc pc = .ok (.if_icmp .ge off, 3)) (ht : (pc : Int) + off = (t : Int)) (hc : y ≤ x) (k : CSim G M A post mc ms t ls st ws cells slots) : CSim G M A post mc ms pc ls (.int y :: .int x :: st) ws cells slots := by
  intro p e s m args below meth c H locs la hx hb hr hts hown hml hk hin hK hN hO hA hP hD hS hl
  exact lv_icmp_ge hx hb hd ht (fun _ => (k p e s m args below meth c H locs la hx hb hr hts hown hml hk hin hK hN hO hA hP hD hS hl)) (fun z => absurd hc z)
theorem K_ge_f {x y : Int32} {off : Int} {t : Nat} (hd : decode M.cc pc = .ok (.if_icmp .ge off, 3)) (ht : (pc : Int) + off = (t : Int)) (hc : ¬ y ≤ x) (k : CSim G M A post mc ms (pc + 3) ls st ws cells slots) : CSim G M A post mc ms pc ls (.int y :: .int x :: st) ws cells slots := by
  intro p e s m args below meth c H locs la hx hb hr hts hown hml hk hin hK hN hO hA hP hD hS hl
  exact lv_icmp_ge hx hb hd ht (fun z => absurd z hc) (fun _ => (k p e s m args below meth c H locs la hx hb hr hts hown hml hk hin hK hN hO hA hP hD hS hl))
theorem K_objinit {idx a : Nat} (h1 : Cond.methodLink M.y.cls idx objectInit ∈ JT) (h2 : Cond.instanceMethod objectInit ∈ JT) (h3 : Cond.code objectInit ⟨#[0xb1]⟩ 1 none ∈ JT) (hf : 1 ≤ M.rm.frames) (hlo : (st.map fun v => v.category).sum + 12 ≤ M.rm.locals) (hd : decode M.cc pc = .ok (.invokespecial idx, 3)) (k : CSim G M A post mc ms (pc + 3) ls st ws cells slots) : CSim G M A post mc ms pc ls (.ref a :: st) ws cells slots := by
  intro p e s m args below meth c H locs la hx hb hr hts hown hml hk hin hK hN hO hA hP hD hS hl
  exact W.objInit hx hb hown (hts _ h1) (hts _ h2) (hts _ h3) rfl (by rw [hml]; exact hl.1) rfl hd hf (by show 2 * 0 + _ + 12 ≤ _; omega) (W.eq (g2 := F0 m (pc + 3) la st) rfl (k p e s m args below meth c H locs la hx hb hr hts hown hml hk hin hK hN hO hA hP hD hS hl))
theorem tys_one {G : JG} {s : State} {t : Nat} {cA : ClassId} {ty : FieldType} (hK : va_K G.D vwCl (tysJ G.cT ++ [(cA, ty)]) s) (ht : (tysJ G.cT)[t]? = some (G.cT t, ty)) : cA = G.cT t := by
  have h1 := (hK.2 (tysJ G.cT).length (cA, ty) (by simp)).2
  have h2 := (hK.2 t (G.cT t, ty) (by obtain ⟨l1, -⟩ := List.getElem?_eq_some_iff.mp ht; rw [List.getElem?_append_left l1]; exact ht)).2
  cases ty with
  | object C =>
    obtain ⟨_, _, _, _, _, h3⟩ := h1
    obtain ⟨_, _, _, _, _, h4⟩ := h2
    exact Option.some.inj (h3.symm.trans h4)
  | _ => exact Option.some.inj (h1.symm.trans h2)
theorem K_newarr {atype : ArrayType} {t N : Nat} {ty : FieldType} {n : Int32} {a0 : vp_A} (hw : Cond.arrayClass ty ∈ JT) (hty : newarray.typeOf atype = ty) (ht : ∀ cT : Nat → ClassId, (tysJ cT)[t]? = some (cT t, ty)) (ha : ∀ cA : ClassId, vp_cell cA a0 = arrV cA N (fun _ => defaultValue ty)) (hn : ¬ n < 0) (hNn : n.toNatClampNeg = N) (hby : N * componentBytes ty ≤ 536870912) (hc1 : cells + 1 ≤ M.rm.cells) (hs1 : slots + N ≤ M.rm.slots) (hd : decode M.cc pc = .ok (.newarray atype, 2))
    (k : ∀ q : Nat, CSim G M A post mc ms (pc + 2) ls (.ref q :: st) (ws ++ [(q, .inl (G.cT t, a0))]) (cells + 1) (slots + N)) : CSim G M A post mc ms pc ls (.int n :: st) ws cells slots := by
  intro p e s m args below meth c H locs la hx hb hr hts hown hml hk hin hK hN hO hA hP hD hS hl
  refine va_newa (D := G.D) (cl := vwCl) (tys := tysJ G.cT) (atype := atype) hx hb (hty ▸ hts _ hw) hty hK hP hD hS hA ha hn hNn hby hc1 hs1 hd (fun q cA H1 hK1 hP1 hD1 hS1 => ?_)
  have e1 := tys_one hK1 (ht G.cT)
  subst e1
  exact k q p e s m args below meth c H1 _ la hx hb hr hts hown hml hk hin hK hN hO hA hP1 hD1 hS1 hl
theorem K_anew {idx N : Nat} {n : Int32} (hw : Cond.classLink M.y.cls idx "PaintedOver$Works" ∈ JT) (hn : ¬ n < 0) (hNn : n.toNatClampNeg = N) (hby : N * 4 ≤ 536870912) (hc1 : cells + 1 ≤ M.rm.cells) (hs1 : slots + N ≤ M.rm.slots) (hd : decode M.cc pc = .ok (.anewarray idx, 3))
    (k : ∀ q : Nat, CSim G M A post mc ms (pc + 3) ls (.ref q :: st) (ws ++ [(q, .inl (G.cT 4, N, .inr (.inr (.inr (.inr (fun _ => none))))))]) (cells + 1) (slots + N)) : CSim G M A post mc ms pc ls (.int n :: st) ws cells slots := by
  intro p e s m args below meth c H locs la hx hb hr hts hown hml hk hin hK hN hO hA hP hD hS hl
  refine va_newq (D := G.D) (cl := vwCl) (tys := tysJ G.cT) hx hb hown (hts _ hw) hO hK hP hD hS hA hn hNn hby hc1 hs1 hd (fun q cA H1 hK1 hP1 hD1 hS1 => ?_)
  have e1 := tys_one (t := 4) hK1 rfl
  subst e1
  exact k q p e s m args below meth c H1 _ la hx hb hr hts hown hml hk hin hK hN hO hA hP1 hD1 hS1 hl
/-- how a field of a class can be put by its constructor -/
def CFd (own : String) (idx ci j : Nat) (ty : FieldType) (fin : Bool) : Prop := ∃ (C : String) (T : u_T) (N : Nat) (t0 : Nat → FieldType), vwCl[ci]? = some (C, T, N) ∧ j < N ∧ (∀ w ∈ u_ws C T N, w ∈ JT) ∧ Cond.fieldLink own idx (T j).1 (T j).2.1 (T j).2.2.1 ∈ JT ∧ (∀ k, k < N → parseFieldDescriptor (T k).2.2.1 = some (t0 k)) ∧ (∀ a, a < N → ∀ b, b < N → a ≠ b → (T a).2.1 ≠ (T b).2.1) ∧ (T j).2.2.2 = fin ∧ parseFieldDescriptor (T j).2.2.1 = some ty ∧ (T j).1 = own
theorem K_put {idx ci j h0 : Nat} {ty : FieldType} {fin : Bool} {v : Value} {fs : List Value} {R : va_W} (hF : CFd M.y.cls idx ci j ty fin) (hn : narrow ty v = v) (hf : fits ty v = true) (hj : j < fs.length) (hd : decode M.cc pc = .ok (.putfield idx, 3))
    (k : CSim G M A post mc ms (pc + 3) ls st ((h0, .inr (ci, fs.set j v)) :: R) cells slots) : CSim G M A post mc ms pc ls (v :: .ref h0 :: st) ((h0, .inr (ci, fs)) :: R) cells slots := by
  intro p e s m args below meth c H locs la hx hb hr hts hown hml hk hin hK hN hO hA hP hD hS hl
  obtain ⟨C, T, N, t0, h2, h3, h5, h6, h7, h8, h9, h10, h11⟩ := hF
  cases fin with
  | true => exact va_putF (D := G.D) (cl := vwCl) (tys := tysJ G.cT) (C := C) (T := T) (N := N) (ref := (T j).1) hx hb hts h5 t0 h7 h8 hown hK hP hD hS 0 rfl h2 j h3 (hts _ h6) (fun _ z => z) h9 hin h11 h10 hn hf hj hd (fun H1 locs1 hP1 hD1 hS1 => (k p e s m args below meth c H1 locs1 la hx hb hr hts hown hml hk hin hK hN hO hA hP1 hD1 hS1 hl))
  | false => exact va_put (D := G.D) (cl := vwCl) (tys := tysJ G.cT) (C := C) (T := T) (N := N) (ref := (T j).1) hx hb hts h5 t0 h7 h8 hown hK hP hD hS 0 rfl h2 j h3 (hts _ h6) (fun _ z => z) h9 h10 hn hf hj hd (fun H1 locs1 hP1 hD1 hS1 => (k p e s m args below meth c H1 locs1 la hx hb hr hts hown hml hk hin hK hN hO hA hP1 hD1 hS1 hl))
theorem K_get {idx ci j h0 : Nat} {ty : FieldType} {fin : Bool} {v : Value} {fs : List Value} {R : va_W} (hF : CFd M.y.cls idx ci j ty fin) (hv : fs[j]? = some v) (hd : decode M.cc pc = .ok (.getfield idx, 3))
    (k : CSim G M A post mc ms (pc + 3) ls (v :: st) ((h0, .inr (ci, fs)) :: R) cells slots) : CSim G M A post mc ms pc ls (.ref h0 :: st) ((h0, .inr (ci, fs)) :: R) cells slots := by
  intro p e s m args below meth c H locs la hx hb hr hts hown hml hk hin hK hN hO hA hP hD hS hl
  obtain ⟨C, T, N, t0, h2, h3, h5, h6, h7, h8, h9, h10, h11⟩ := hF
  exact va_get (D := G.D) (cl := vwCl) (tys := tysJ G.cT) (C := C) (T := T) (N := N) (ref := (T j).1) hx hb hts h5 hown hK hP 0 rfl h2 j h3 (hts _ h6) (fun _ z => z) hv hd (k p e s m args below meth c H locs la hx hb hr hts hown hml hk hin hK hN hO hA hP hD hS hl)
theorem K_at (R R2 : va_W) (x0 y0 z : Nat × va_E) : (x0 :: y0 :: (R ++ z :: R2))[R.length + 2]? = some z := by
  show (R ++ z :: R2)[R.length]? = some z
  simp
theorem K_at2 (R R2 : va_W) (x0 y0 y1 z : Nat × va_E) : (x0 :: y0 :: (R ++ z :: R2)).set 1 y1 = x0 :: y1 :: (R ++ z :: R2) := rfl
theorem K_aast {a v n : Nat} {x : Int32} {x0 : Nat × va_E} {f : Nat → Option Nat} {R R2 : va_W} {vs : List Value} (hin2 : inb x n = true) (hd : decode M.cc pc = .ok (.aastore, 1))
    (k : CSim G M A post mc ms (pc + 1) ls st (x0 :: (a, .inl (G.cT 4, n, .inr (.inr (.inr (.inr (va_up f x.toNatClampNeg (some v))))))) :: (R ++ (v, .inr (6, vs)) :: R2)) cells slots) : CSim G M A post mc ms pc ls (.ref v :: .int x :: .ref a :: st) (x0 :: (a, .inl (G.cT 4, n, .inr (.inr (.inr (.inr f))))) :: (R ++ (v, .inr (6, vs)) :: R2)) cells slots := by
  intro p e s m args below meth c H locs la hx hb hr hts hown hml hk hin hK hN hO hA hP hD hS hl
  exact va_astq (D := G.D) (cl := vwCl) (tys := tysJ G.cT) (r := (RX7, TX7, 5)) hx hb hK hP hD hS 1 4 (R.length + 2) 6 rfl rfl (K_at R R2 x0 _ _) rfl (inb_in hin2) hd (fun H1 locs1 hP1 hD1 hS1 => (k p e s m args below meth c H1 locs1 la hx hb hr hts hown hml hk hin hK hN hO hA hP1 hD1 hS1 hl))
theorem K_sub {ws' : va_W} (is : List Nat) (hnd : va_nd is = true) (h1 : is.filterMap (fun i => ws[i]?) = ws') (h2 : is.map (fun i => ws[i]?) = ws'.map some) (k : CSim G M A post mc ms pc ls st ws' cells slots) : CSim G M A post mc ms pc ls st ws cells slots := by
  intro p e s m args below meth c H locs la hx hb hr hts hown hml hk hin hK hN hO hA hP hD hS hl
  exact k p e s m args below meth c H locs la hx hb hr hts hown hml hk hin hK hN hO hA (hP.sub is h1) (hD.sub is hnd h2) hS hl
theorem K_swap {a b c : va_W} (k : CSim G M A post mc ms pc ls st ((a ++ c) ++ b) cells slots) : CSim G M A post mc ms pc ls st ((a ++ b) ++ c) cells slots := by
  intro p e s m args below meth c H locs la hx hb hr hts hown hml hk hin hK hN hO hA hP hD hS hl
  exact k p e s m args below meth c H locs la hx hb hr hts hown hml hk hin hK hN hO hA hP.swap hD.swap hS hl
theorem K_world {ws' : va_W} (hw : ws = ws') (k : CSim G M A post mc ms pc ls st ws' cells slots) : CSim G M A post mc ms pc ls st ws cells slots := by subst hw; exact k
theorem K_ret (hp : post ws) (hc : cells = mc) (hs : slots = ms) (hd : decode M.cc pc = .ok (.return_, 1)) : CSim G M A post mc ms pc ls [] ws cells slots := by
  intro p e s m args below meth c H locs la hx hb hr hts hown hml hk hin hK hN hO hA hP hD hS hl
  subst hc; subst hs
  exact W.vret hx hb hr (fun t ht hW => ⟨rfl, ⟨ws, hp, by rw [ht]; exact hP, hD⟩, hS.F ht⟩) hS.2.2 hd hk
theorem K_vrun {p : Program} {e : Env} {R : Room} {s : State} {m : MethodId} {args : Array Value} {below : List Frame} {meth : Method} {c : Code} {H : Heap} {locs : List Loc} {Q : State → Prop} {pc : Nat} {la : Array Slot} {rest st0 : List Value} {av : Array Value} {mc' ms' : Nat} {A1 : Nat → Prop} {post' : va_W → Prop}
    (hr : va_Run p G.l e R s m args below meth c H locs cells slots mc' ms' (F0 m pc la st0) rest (CQ G A1 post' av) A1) (hS : va_S A s.heap H locs) (hA1 : ∀ q, A1 q → A q)
    (kk : ∀ (w : va_W) (H1 : Heap) (locs1 : List Loc), post' w → va_P G.D vwCl w H1 → va_D A1 w → H.size ≤ H1.size → (∀ q : Nat, q < H.size → ¬ A1 q → H1[q]? = H[q]?) → va_S A s.heap H1 locs1 → W p G.l e R s m args below meth c H1 locs1 (cells + mc') (slots + ms') Q (F0 m (pc + 3) la rest)) : W p G.l e R s m args below meth c H locs cells slots Q (F0 m pc la st0) := by
  intro T hT X
  obtain ⟨v, st₀, t, T', L, h0, X', hL, e1, e2, ⟨hv, ⟨w, hp, hPw, hDw⟩, hz, hk⟩, st⟩ := hr T hT X
  cases hv
  rw [h0] at hz hk
  obtain ⟨t2, a1, b1⟩ := kk w T'.heap (locs ++ L) hp (by rw [e1]; exact hPw) hDw (by rw [e1]; exact hz) (fun q h1 h2 => by rw [e1]; exact hk q h1 h2)
    ⟨Nat.le_trans hS.1 (by rw [e1]; exact hz), fun q h1 h2 => by rw [e1, hk q (Nat.lt_of_lt_of_le h1 hS.1) (fun z => h2 (hA1 q z))]; exact hS.2.1 q h1 h2, fun q hq => by
      rcases List.mem_append.mp hq with h | h
      · exact hS.2.2 q h
      · exact hA1 _ (hL q h)⟩ T' rfl X'
  exact ⟨t2, st t2 a1, b1⟩
/-- 'new C(..)': new, dup, invokespecial <init>() -/
theorem K_newobj {N : MI} {i1 i2 ci n mc' ms' : Nat} {C : String} {T : u_T} {fs : List Value} {ty : Nat → FieldType} {host : String} {post' : Nat → va_W → Prop} (hC : vwCl[ci]? = some (C, T, n)) (hu : ∀ w ∈ u_ws C T n, w ∈ JT) (hty : ∀ k, k < n → parseFieldDescriptor (T k).2.2.1 = some (ty k)) (hfs : ∀ j, j < n → defaultValue (ty j) = vp_V fs j)
    (w1 : Cond.classLink M.y.cls i1 C ∈ JT) (w2 : Cond.instantiable C n ∈ JT) (w3 : Cond.initialized C ∈ JT) (hM : ∀ q, CMt G N q (.inr (ci, fs)) (post' q) mc' ms') (hB : MBs N 0) (hI : Cond.instanceMethod N.y ∈ JT) (hname : N.y.name = "<init>") (hret : N.ret = none) (hL : (M.y.cls, i2, N.y, host) ∈ nestL)
    (hrm : N.rm.cells = mc' ∧ N.rm.slots = ms' ∧ N.rm.frames + 1 ≤ M.rm.frames ∧ 8 + (N.nL + 11) + N.rm.locals ≤ M.rm.locals) (hc1 : cells + 1 + mc' ≤ M.rm.cells) (hs1 : slots + n + ms' ≤ M.rm.slots) (hcat : (st.map fun v => v.category).sum + 1 ≤ 8)
    (d1 : decode M.cc pc = .ok (.new i1, 3)) (d2 : decode M.cc (pc + 3) = .ok (.dup, 1)) (d3 : decode M.cc (pc + 3 + 1) = .ok (.invokespecial i2, 3))
    (k : ∀ (q : Nat) (w : va_W), post' q w → CSim G M A post mc ms (pc + 3 + 1 + 3) ls (.ref q :: st) (ws ++ w) (cells + 1 + mc') (slots + n + ms')) : CSim G M A post mc ms pc ls st ws cells slots := by
  intro p e s m args below meth c H locs la hx hb hr hts hown hml hk hin hK hN hO hA hP hD hS hl
  refine va_new (D := G.D) (cl := vwCl) (tys := tysJ G.cT) (ci := ci) (fs := fs) (C := C) (T := T) (N := n) hx hb hts hu ty hty hown (hts _ w1) (hts _ w2) (hts _ w3) hK hP hD hS hA hC hfs (by omega) (by omega) d1 (fun q H1 hP1 hD1 hS1 => ?_)
  refine lv_dup hx hb d2 rfl ?_
  have hq : va_P G.D vwCl [(q, .inr (ci, fs))] H1 := by
    intro k x hx9
    have hk0 : k < 1 := (List.getElem?_eq_some_iff.mp hx9).1
    have : k = 0 := by omega
    subst this
    cases hx9
    exact hP1 ws.length _ (by simp)
  have hAq : ∀ a, va_A [(q, .inr (ci, fs))] H1.size a → A a := by
    intro a ha
    rcases ha with ⟨j, e', hj⟩ | h
    · have hj0 : j < 1 := (List.getElem?_eq_some_iff.mp hj).1
      have : j = 0 := by omega
      subst this
      cases hj
      exact hD1.2 ws.length (q, .inr (ci, fs)) (by simp)
    · exact hA a (Nat.le_trans hS1.1 h)
  have hcw : va_CN M.rm s args M.y.cls i2 N.y host N.cc N.nL none N.ws N.rm mc' ms' 0 ∧ N.y.name = "<init>" ∧ (Cond.instanceMethod N.y).before args s = true := ⟨va_cnB 0 hts (ws_good hB) (by show Cond.code N.y N.cc N.nL N.ret :: JT = _; rw [hret]) hrm.1 hrm.2.1 (hN _ hL) (hts _ hB.1) hB.2.2 hrm.2.2, hname, hts _ hI⟩
  have hrun := va_runIN (p := p) (l := G.l) (e := e) (below := below) (meth := meth) (locs := locs) (cells := cells + 1) (slots := slots + n) (rest := .ref q :: st) (As := []) (g := F0 m (pc + 3 + 1) la (.ref q :: .ref q :: st)) (H := H1) ⟨hx, hb, hml, hown, hts⟩ (hM q H1.size) hcw
    ⟨CPc_blind G q _ _, fun U hU hW => ⟨rfl, by rw [hU], by rw [hU]; exact hq, va_K.moved hW.alike hK, hN.next hW, hO.moved hW.alike⟩⟩ rfl rfl hl.1 rfl (lv_room (by show Value.category (.ref q) + (st.map fun v => v.category).sum ≤ 8; show 1 + _ ≤ 8; omega)) d3 ⟨hc1, hs1⟩
  refine K_vrun hrun hS1 hAq (fun w H2 locs2 hp hPw hDw hz hk2 hS2 => ?_)
  obtain ⟨hP2, hD2⟩ := K_append hP1 hD1 hk2 hAq hPw hDw
  exact k q w hp p e s m args below meth c H2 locs2 la hx hb hr hts hown hml hk hin hK hN hO hA hP2 hD2 hS2 hl
/-- 'new C(..)': new, dup, invokespecial <init>() -/
theorem K_newobjP {N : MI} {i1 i2 ci n mc' ms' : Nat} {C : String} {T : u_T} {fs : List Value} {ty : Nat → FieldType} {post' : Nat → va_W → Prop} (hC : vwCl[ci]? = some (C, T, n)) (hu : ∀ w ∈ u_ws C T n, w ∈ JT) (hty : ∀ k, k < n → parseFieldDescriptor (T k).2.2.1 = some (ty k)) (hfs : ∀ j, j < n → defaultValue (ty j) = vp_V fs j)
    (w1 : Cond.classLink M.y.cls i1 C ∈ JT) (w2 : Cond.instantiable C n ∈ JT) (w3 : Cond.initialized C ∈ JT) (hM : ∀ q, CMt G N q (.inr (ci, fs)) (post' q) mc' ms') (hB : MBs N 0) (hI : Cond.instanceMethod N.y ∈ JT) (hname : N.y.name = "<init>") (hret : N.ret = none) (hL : Cond.methodLink M.y.cls i2 N.y ∈ JT)
    (hrm : N.rm.cells = mc' ∧ N.rm.slots = ms' ∧ N.rm.frames + 1 ≤ M.rm.frames ∧ 8 + (N.nL + 11) + N.rm.locals ≤ M.rm.locals) (hc1 : cells + 1 + mc' ≤ M.rm.cells) (hs1 : slots + n + ms' ≤ M.rm.slots) (hcat : (st.map fun v => v.category).sum + 1 ≤ 8)
    (d1 : decode M.cc pc = .ok (.new i1, 3)) (d2 : decode M.cc (pc + 3) = .ok (.dup, 1)) (d3 : decode M.cc (pc + 3 + 1) = .ok (.invokespecial i2, 3))
    (k : ∀ (q : Nat) (w : va_W), post' q w → CSim G M A post mc ms (pc + 3 + 1 + 3) ls (.ref q :: st) (ws ++ w) (cells + 1 + mc') (slots + n + ms')) : CSim G M A post mc ms pc ls st ws cells slots := by
  intro p e s m args below meth c H locs la hx hb hr hts hown hml hk hin hK hN hO hA hP hD hS hl
  refine va_new (D := G.D) (cl := vwCl) (tys := tysJ G.cT) (ci := ci) (fs := fs) (C := C) (T := T) (N := n) hx hb hts hu ty hty hown (hts _ w1) (hts _ w2) (hts _ w3) hK hP hD hS hA hC hfs (by omega) (by omega) d1 (fun q H1 hP1 hD1 hS1 => ?_)
  refine lv_dup hx hb d2 rfl ?_
  have hq : va_P G.D vwCl [(q, .inr (ci, fs))] H1 := by
    intro k x hx9
    have hk0 : k < 1 := (List.getElem?_eq_some_iff.mp hx9).1
    have : k = 0 := by omega
    subst this
    cases hx9
    exact hP1 ws.length _ (by simp)
  have hAq : ∀ a, va_A [(q, .inr (ci, fs))] H1.size a → A a := by
    intro a ha
    rcases ha with ⟨j, e', hj⟩ | h
    · have hj0 : j < 1 := (List.getElem?_eq_some_iff.mp hj).1
      have : j = 0 := by omega
      subst this
      cases hj
      exact hD1.2 ws.length (q, .inr (ci, fs)) (by simp)
    · exact hA a (Nat.le_trans hS1.1 h)
  have hcw : CallB M.rm s args M.y.cls i2 N.y N.cc N.nL none N.ws N.rm mc' ms' 0 ∧ N.y.name = "<init>" ∧ (Cond.instanceMethod N.y).before args s = true := ⟨callB_of 0 hts (ws_good hB) (by show Cond.code N.y N.cc N.nL N.ret :: JT = _; rw [hret]) hrm.1 hrm.2.1 (hts _ hB.1) (hts _ hL) hB.2.2 hrm.2.2, hname, hts _ hI⟩
  have hrun := va_runI (p := p) (l := G.l) (e := e) (below := below) (meth := meth) (locs := locs) (cells := cells + 1) (slots := slots + n) (rest := .ref q :: st) (As := []) (g := F0 m (pc + 3 + 1) la (.ref q :: .ref q :: st)) (H := H1) ⟨hx, hb, hml, hown, hts⟩ (hM q H1.size) hcw
    ⟨CPc_blind G q _ _, fun U hU hW => ⟨rfl, by rw [hU], by rw [hU]; exact hq, va_K.moved hW.alike hK, hN.next hW, hO.moved hW.alike⟩⟩ rfl rfl hl.1 rfl (lv_room (by show Value.category (.ref q) + (st.map fun v => v.category).sum ≤ 8; show 1 + _ ≤ 8; omega)) d3 ⟨hc1, hs1⟩
  refine K_vrun hrun hS1 hAq (fun w H2 locs2 hp hPw hDw hz hk2 hS2 => ?_)
  obtain ⟨hP2, hD2⟩ := K_append hP1 hD1 hk2 hAq hPw hDw
  exact k q w hp p e s m args below meth c H2 locs2 la hx hb hr hts hown hml hk hin hK hN hO hA hP2 hD2 hS2 hl
end Rules
