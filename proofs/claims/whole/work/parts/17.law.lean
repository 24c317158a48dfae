/-! ===== the law's own walk: both worlds at once ===== -/
def LX (G : JG) (s : State) : Prop := NX s ∧ (∀ i : Nat, i < 17 → vk_R RX9 (sIx i) (sTx i) (G.aK i) s) ∧ vk_S 17 sLen sByt G.aK G.aV (fun q => s.heap.size ≤ q) s s.heap ∧ XS (fun q => s.heap.size ≤ q) s ∧ ND s ∧ ZL (fun q => s.heap.size ≤ q) s
def LAp (G : JG) (ao sz : Nat) : Prop := Inj 0 G.ad ∧ Inj 1 G.ad ∧ (∀ k i k' i', i < nIn 0 k → i' < nIn 1 k' → G.ad k i ≠ G.ad k' i') ∧ (∀ k i, i < nIn 0 k → sz ≤ G.ad k i ∧ G.ad k i ≠ ao) ∧ (∀ k i, i < nIn 1 k → sz ≤ G.ad k i ∧ G.ad k i ≠ ao) ∧ sz ≤ ao
def LSim (G : JG) (b L : Nat) (xs : Nat → Int32) (ao : Nat) (pc : Nat) (ls : List (Nat × Value)) (st : List Value) (hc hm : AH) (ov : Nat → Int64) (cells slots : Nat) : Prop :=
  ∀ (p : Program) (e : Env) (s : State) (m : MethodId) (below : List Frame) (meth : Method) (c : Code) (H : Heap) (locs : List Loc) (la : Array Slot),
    lw_At p s m meth c b L xs → G.l.flags = flags0 → va_K G.D vwCl (tysJ G.cT) s → LX G s → LAp G ao s.heap.size → PW G 0 hc H → PW G 1 hm H → va_P G.D vwCl (outW G ao ov) H → va_S (fun q => s.heap.size ≤ q) s.heap H locs → lv_has la 7 ls →
    W p G.l e room_1 s m #[Value.ref b] below meth c H locs cells slots (lw_Z below #[Value.ref b] s) (F0 m pc la st)
theorem LX.next {G : JG} {s U : State} {H : Heap} {locs : List Loc} {wd : Nat} (hwd : wd ≤ 1) (hA : ∀ q, AO wd G.ad q → s.heap.size ≤ q) (hW : s.WarmedH U.vm) (hU : U.heap = H) (hS : va_S (fun q => s.heap.size ≤ q) s.heap H locs) (h : LX G s) : XP G wd U := by
  obtain ⟨h0, h1, h2, ⟨h3, v, hv3, h4⟩, -, -⟩ := h
  refine ⟨fun q hq => va_Nw.warmM hW (h0 q hq), Or.inr ⟨fun i hi => vk_R.warm hW (h1 i hi), ?_, ?_, v, hv3, ?_⟩⟩
  · rw [hU]
    exact ((vk_S.moved hW.alike h2).kept hS.2.1).narrow hA
  · rw [hU]
    exact ((h3.moved hW.alike).kept hS.2.1).narrow hA
  · rw [hU]
    exact ((h4.moved hW.alike).kept hS.2.1).narrow hA
section LR
variable {G : JG} {wd : Nat} {p : Program} {e : Env} {R : Room} {s : State} {m : MethodId} {args : Array Value} {below : List Frame} {meth : Method} {c : Code} {H : Heap} {locs : List Loc} {cells slots : Nat} {Q : State → Prop} {pc : Nat} {la : Array Slot} {rest st0 : List Value} {av : Array Value} {ro : Option Value × AH} {A2 : Nat → Prop}
theorem L_run (hr : va_Run p G.l e R s m args below meth c H locs cells slots 0 0 (F0 m pc la st0) rest (Qm G wd ro av) (AO wd G.ad)) (hS : va_S A2 s.heap H locs) (hA : ∀ q, AO wd G.ad q → A2 q)
    (kk : ∀ (H1 : Heap) (locs1 : List Loc), PW G wd ro.2 H1 → (∀ q : Nat, q < H.size → ¬ AO wd G.ad q → H1[q]? = H[q]?) → va_S A2 s.heap H1 locs1 → W p G.l e R s m args below meth c H1 locs1 cells slots Q (F0 m (pc + 3) la (ro.1.toList ++ rest))) : W p G.l e R s m args below meth c H locs cells slots Q (F0 m pc la st0) := by
  intro T hT X
  obtain ⟨v, st₀, t, T', L, h0, X', hL, e1, e2, ⟨hv, hp, hz, hk⟩, st⟩ := hr T hT X
  cases hv
  rw [h0] at hz hk
  obtain ⟨t2, a1, b1⟩ := kk T'.heap (locs ++ L) (by rw [e1]; exact hp) (fun q h1 h2 => by rw [e1]; exact hk q h1 h2)
    ⟨Nat.le_trans hS.1 (by rw [e1]; exact hz), fun q h1 h2 => by rw [e1, hk q (Nat.lt_of_lt_of_le h1 hS.1) (fun z => h2 (hA q z))]; exact hS.2.1 q h1 h2, fun q hq => by
      rcases List.mem_append.mp hq with h | h
      · exact hS.2.2 q h
      · exact hA _ (hL q h)⟩ T' rfl X'
  exact ⟨t2, st t2 a1, b1⟩
end LR
section Rules
variable {G : JG} {b L : Nat} {xs : Nat → Int32} {ao pc : Nat} {ls : List (Nat × Value)} {st : List Value} {hc hm : AH} {ov : Nat → Int64} {cells slots : Nat}
theorem L_iconst {n : Int} {v : Int32} (hd : decode code pc = .ok (.iconst n, 1)) (hv : Int32.ofInt n = v) (k : LSim G b L xs ao (pc + 1) ls (.int v :: st) hc hm ov cells slots) : LSim G b L xs ao pc ls (st) hc hm ov cells slots := by
  intro p e s m below meth c H locs la hat hfl hK hX hA hP0 hP1 hPo hS hl
  obtain ⟨hx, hb, hr, hml, hown, hts, hxs, hbl, hlk, hgv⟩ := hat
  exact lv_iconst hx hb hd hv (k p e s m below meth c H locs la ⟨hx, hb, hr, hml, hown, hts, hxs, hbl, hlk, hgv⟩ hfl hK hX hA hP0 hP1 hPo hS hl)
theorem L_bipush {n : Int} {v : Int32} (hd : decode code pc = .ok (.bipush n, 2)) (hv : (Int8.ofInt n).toInt32 = v) (k : LSim G b L xs ao (pc + 2) ls (.int v :: st) hc hm ov cells slots) : LSim G b L xs ao pc ls (st) hc hm ov cells slots := by
  intro p e s m below meth c H locs la hat hfl hK hX hA hP0 hP1 hPo hS hl
  obtain ⟨hx, hb, hr, hml, hown, hts, hxs, hbl, hlk, hgv⟩ := hat
  exact lv_bipush hx hb hd hv (k p e s m below meth c H locs la ⟨hx, hb, hr, hml, hown, hts, hxs, hbl, hlk, hgv⟩ hfl hK hX hA hP0 hP1 hPo hS hl)
theorem L_iload_n {f : Fin 4} {i : Nat} {x : Int32} (hd : decode code pc = .ok (.iload_n f, 1)) (hi : (f : Nat) = i) (q : Nat) (hq : ls[q]? = some (i, .int x)) (k : LSim G b L xs ao (pc + 1) ls (.int x :: st) hc hm ov cells slots) : LSim G b L xs ao pc ls (st) hc hm ov cells slots := by
  intro p e s m below meth c H locs la hat hfl hK hX hA hP0 hP1 hPo hS hl
  obtain ⟨hx, hb, hr, hml, hown, hts, hxs, hbl, hlk, hgv⟩ := hat
  exact lv_iload_n hx hb hd hi (lv_at hl q hq) (k p e s m below meth c H locs la ⟨hx, hb, hr, hml, hown, hts, hxs, hbl, hlk, hgv⟩ hfl hK hX hA hP0 hP1 hPo hS hl)
theorem L_aload_n {f : Fin 4} {i : Nat} {x : Nat} (hd : decode code pc = .ok (.aload_n f, 1)) (hi : (f : Nat) = i) (q : Nat) (hq : ls[q]? = some (i, .ref x)) (k : LSim G b L xs ao (pc + 1) ls (.ref x :: st) hc hm ov cells slots) : LSim G b L xs ao pc ls (st) hc hm ov cells slots := by
  intro p e s m below meth c H locs la hat hfl hK hX hA hP0 hP1 hPo hS hl
  obtain ⟨hx, hb, hr, hml, hown, hts, hxs, hbl, hlk, hgv⟩ := hat
  exact lv_aload_n hx hb hd hi (lv_at hl q hq) (k p e s m below meth c H locs la ⟨hx, hb, hr, hml, hown, hts, hxs, hbl, hlk, hgv⟩ hfl hK hX hA hP0 hP1 hPo hS hl)
theorem L_iload {i : Nat} {x : Int32} (hd : decode code pc = .ok (.iload i, 2)) (q : Nat) (hq : ls[q]? = some (i, .int x)) (k : LSim G b L xs ao (pc + 2) ls (.int x :: st) hc hm ov cells slots) : LSim G b L xs ao pc ls (st) hc hm ov cells slots := by
  intro p e s m below meth c H locs la hat hfl hK hX hA hP0 hP1 hPo hS hl
  obtain ⟨hx, hb, hr, hml, hown, hts, hxs, hbl, hlk, hgv⟩ := hat
  exact lv_iload hx hb hd (lv_at hl q hq) (k p e s m below meth c H locs la ⟨hx, hb, hr, hml, hown, hts, hxs, hbl, hlk, hgv⟩ hfl hK hX hA hP0 hP1 hPo hS hl)
theorem L_iadd {x y : Int32} (hd : decode code pc = .ok (.iadd, 1)) (k : LSim G b L xs ao (pc + 1) ls (.int (x + y) :: st) hc hm ov cells slots) : LSim G b L xs ao pc ls (.int y :: .int x :: st) hc hm ov cells slots := by
  intro p e s m below meth c H locs la hat hfl hK hX hA hP0 hP1 hPo hS hl
  obtain ⟨hx, hb, hr, hml, hown, hts, hxs, hbl, hlk, hgv⟩ := hat
  exact lv_iadd hx hb hd (k p e s m below meth c H locs la ⟨hx, hb, hr, hml, hown, hts, hxs, hbl, hlk, hgv⟩ hfl hK hX hA hP0 hP1 hPo hS hl)
theorem L_isub {x y : Int32} (hd : decode code pc = .ok (.isub, 1)) (k : LSim G b L xs ao (pc + 1) ls (.int (x - y) :: st) hc hm ov cells slots) : LSim G b L xs ao pc ls (.int y :: .int x :: st) hc hm ov cells slots := by
  intro p e s m below meth c H locs la hat hfl hK hX hA hP0 hP1 hPo hS hl
  obtain ⟨hx, hb, hr, hml, hown, hts, hxs, hbl, hlk, hgv⟩ := hat
  exact lv_isub hx hb hd (k p e s m below meth c H locs la ⟨hx, hb, hr, hml, hown, hts, hxs, hbl, hlk, hgv⟩ hfl hK hX hA hP0 hP1 hPo hS hl)
theorem L_iand {x y : Int32} (hd : decode code pc = .ok (.iand, 1)) (k : LSim G b L xs ao (pc + 1) ls (.int (x &&& y) :: st) hc hm ov cells slots) : LSim G b L xs ao pc ls (.int y :: .int x :: st) hc hm ov cells slots := by
  intro p e s m below meth c H locs la hat hfl hK hX hA hP0 hP1 hPo hS hl
  obtain ⟨hx, hb, hr, hml, hown, hts, hxs, hbl, hlk, hgv⟩ := hat
  exact lv_iand hx hb hd (k p e s m below meth c H locs la ⟨hx, hb, hr, hml, hown, hts, hxs, hbl, hlk, hgv⟩ hfl hK hX hA hP0 hP1 hPo hS hl)
theorem L_i2l {x : Int32} (hd : decode code pc = .ok (.i2l, 1)) (k : LSim G b L xs ao (pc + 1) ls (.long x.toInt64 :: st) hc hm ov cells slots) : LSim G b L xs ao pc ls (.int x :: st) hc hm ov cells slots := by
  intro p e s m below meth c H locs la hat hfl hK hX hA hP0 hP1 hPo hS hl
  obtain ⟨hx, hb, hr, hml, hown, hts, hxs, hbl, hlk, hgv⟩ := hat
  exact lv_i2l hx hb hd rfl (k p e s m below meth c H locs la ⟨hx, hb, hr, hml, hown, hts, hxs, hbl, hlk, hgv⟩ hfl hK hX hA hP0 hP1 hPo hS hl)
theorem L_lcmp {x y : Int64} (hd : decode code pc = .ok (.lcmp, 1)) (k : LSim G b L xs ao (pc + 1) ls (.int (lg_cmp x y) :: st) hc hm ov cells slots) : LSim G b L xs ao pc ls (.long y :: .long x :: st) hc hm ov cells slots := by
  intro p e s m below meth c H locs la hat hfl hK hX hA hP0 hP1 hPo hS hl
  obtain ⟨hx, hb, hr, hml, hown, hts, hxs, hbl, hlk, hgv⟩ := hat
  exact W.lcmp hx hb hd (k p e s m below meth c H locs la ⟨hx, hb, hr, hml, hown, hts, hxs, hbl, hlk, hgv⟩ hfl hK hX hA hP0 hP1 hPo hS hl)
theorem L_istore {i : Nat} {x : Int32} {ls' : List (Nat × Value)} (hd : decode code pc = .ok (.istore i, 2)) (hn : i < 7) (he : (i, Value.int x) :: ls.filter (fun q => !(q.1 == i) && !(q.1 + 1 == i && q.2.category == 2)) = ls') (k : LSim G b L xs ao (pc + 2) ls' st hc hm ov cells slots) : LSim G b L xs ao pc ls (.int x :: st) hc hm ov cells slots := by
  intro p e s m below meth c H locs la hat hfl hK hX hA hP0 hP1 hPo hS hl
  obtain ⟨hx, hb, hr, hml, hown, hts, hxs, hbl, hlk, hgv⟩ := hat
  exact lv_istore hx hb hd hl hn he (fun la2 hl2 => k p e s m below meth c H locs la2 ⟨hx, hb, hr, hml, hown, hts, hxs, hbl, hlk, hgv⟩ hfl hK hX hA hP0 hP1 hPo hS hl2)
theorem L_iinc {i q : Nat} {n : Int} {x v : Int32} {ls' : List (Nat × Value)} (hd : decode code pc = .ok (.iinc i n, 3)) (hq : ls[q]? = some (i, .int x)) (hv : x + Int32.ofInt n = v) (hn : i < 7) (he : (i, Value.int v) :: ls.filter (fun q => !(q.1 == i) && !(q.1 + 1 == i && q.2.category == 2)) = ls') (k : LSim G b L xs ao (pc + 3) ls' st hc hm ov cells slots) : LSim G b L xs ao pc ls st hc hm ov cells slots := by
  intro p e s m below meth c H locs la hat hfl hK hX hA hP0 hP1 hPo hS hl
  obtain ⟨hx, hb, hr, hml, hown, hts, hxs, hbl, hlk, hgv⟩ := hat
  exact lv_iinc hx hb hd hl hq hv hn he (fun la2 hl2 => k p e s m below meth c H locs la2 ⟨hx, hb, hr, hml, hown, hts, hxs, hbl, hlk, hgv⟩ hfl hK hX hA hP0 hP1 hPo hS hl2)
theorem L_goto {off : Int} {t : Nat} (hd : decode code pc = .ok (.goto off, 3)) (ht : (pc : Int) + off = (t : Int)) (k : LSim G b L xs ao t ls st hc hm ov cells slots) : LSim G b L xs ao pc ls st hc hm ov cells slots := by
  intro p e s m below meth c H locs la hat hfl hK hX hA hP0 hP1 hPo hS hl
  obtain ⟨hx, hb, hr, hml, hown, hts, hxs, hbl, hlk, hgv⟩ := hat
  exact lv_goto hx hb hd ht (k p e s m below meth c H locs la ⟨hx, hb, hr, hml, hown, hts, hxs, hbl, hlk, hgv⟩ hfl hK hX hA hP0 hP1 hPo hS hl)
theorem L_sub {ls' : List (Nat × Value)} (ks : List Nat) (he : lv_pick ls ks = ls') (k : LSim G b L xs ao pc ls' st hc hm ov cells slots) : LSim G b L xs ao pc ls st hc hm ov cells slots := by
  intro p e s m below meth c H locs la hat hfl hK hX hA hP0 hP1 hPo hS hl
  obtain ⟨hx, hb, hr, hml, hown, hts, hxs, hbl, hlk, hgv⟩ := hat
  exact k p e s m below meth c H locs la ⟨hx, hb, hr, hml, hown, hts, hxs, hbl, hlk, hgv⟩ hfl hK hX hA hP0 hP1 hPo hS (lv_sub hl ks he)
theorem L_if_eq_t {x : Int32} {off : Int} {t : Nat} (hd : decode code pc = .ok (.ifCond .eq off, 3)) (ht : (pc : Int) + off = (t : Int)) (h0 : x = 0) (k : LSim G b L xs ao t ls st hc hm ov cells slots) : LSim G b L xs ao pc ls (.int x :: st) hc hm ov cells slots := by
  intro p e s m below meth c H locs la hat hfl hK hX hA hP0 hP1 hPo hS hl
  obtain ⟨hx, hb, hr, hml, hown, hts, hxs, hbl, hlk, hgv⟩ := hat
  exact lv_if_eq hx hb hd ht (fun _ => k p e s m below meth c H locs la ⟨hx, hb, hr, hml, hown, hts, hxs, hbl, hlk, hgv⟩ hfl hK hX hA hP0 hP1 hPo hS hl) (fun z => absurd h0 z)
theorem L_if_eq_f {x : Int32} {off : Int} {t : Nat} (hd : decode code pc = .ok (.ifCond .eq off, 3)) (ht : (pc : Int) + off = (t : Int)) (h0 : ¬ (x = 0)) (k : LSim G b L xs ao (pc + 3) ls st hc hm ov cells slots) : LSim G b L xs ao pc ls (.int x :: st) hc hm ov cells slots := by
  intro p e s m below meth c H locs la hat hfl hK hX hA hP0 hP1 hPo hS hl
  obtain ⟨hx, hb, hr, hml, hown, hts, hxs, hbl, hlk, hgv⟩ := hat
  exact lv_if_eq hx hb hd ht (fun z => absurd z h0) (fun _ => k p e s m below meth c H locs la ⟨hx, hb, hr, hml, hown, hts, hxs, hbl, hlk, hgv⟩ hfl hK hX hA hP0 hP1 hPo hS hl)
theorem L_if_ne_t {x : Int32} {off : Int} {t : Nat} (hd : decode code pc = .ok (.ifCond .ne off, 3)) (ht : (pc : Int) + off = (t : Int)) (h0 : ¬ x = 0) (k : LSim G b L xs ao t ls st hc hm ov cells slots) : LSim G b L xs ao pc ls (.int x :: st) hc hm ov cells slots := by
  intro p e s m below meth c H locs la hat hfl hK hX hA hP0 hP1 hPo hS hl
  obtain ⟨hx, hb, hr, hml, hown, hts, hxs, hbl, hlk, hgv⟩ := hat
  exact lv_if_ne hx hb hd ht (fun _ => k p e s m below meth c H locs la ⟨hx, hb, hr, hml, hown, hts, hxs, hbl, hlk, hgv⟩ hfl hK hX hA hP0 hP1 hPo hS hl) (fun z => absurd z h0)
theorem L_if_ne_f {x : Int32} {off : Int} {t : Nat} (hd : decode code pc = .ok (.ifCond .ne off, 3)) (ht : (pc : Int) + off = (t : Int)) (h0 : x = 0) (k : LSim G b L xs ao (pc + 3) ls st hc hm ov cells slots) : LSim G b L xs ao pc ls (.int x :: st) hc hm ov cells slots := by
  intro p e s m below meth c H locs la hat hfl hK hX hA hP0 hP1 hPo hS hl
  obtain ⟨hx, hb, hr, hml, hown, hts, hxs, hbl, hlk, hgv⟩ := hat
  exact lv_if_ne hx hb hd ht (fun z => absurd h0 z) (fun _ => k p e s m below meth c H locs la ⟨hx, hb, hr, hml, hown, hts, hxs, hbl, hlk, hgv⟩ hfl hK hX hA hP0 hP1 hPo hS hl)
theorem L_icmp_eq_t {x y : Int32} {off : Int} {t : Nat} (hd : decode code pc = .ok (.if_icmp .eq off, 3)) (ht : (pc : Int) + off = (t : Int)) (h0 : x = y) (k : LSim G b L xs ao t ls st hc hm ov cells slots) : LSim G b L xs ao pc ls (.int y :: .int x :: st) hc hm ov cells slots := by
  intro p e s m below meth c H locs la hat hfl hK hX hA hP0 hP1 hPo hS hl
  obtain ⟨hx, hb, hr, hml, hown, hts, hxs, hbl, hlk, hgv⟩ := hat
  exact lv_icmp_eq hx hb hd ht (fun _ => k p e s m below meth c H locs la ⟨hx, hb, hr, hml, hown, hts, hxs, hbl, hlk, hgv⟩ hfl hK hX hA hP0 hP1 hPo hS hl) (fun z => absurd h0 z)
theorem L_icmp_eq_f {x y : Int32} {off : Int} {t : Nat} (hd : decode code pc = .ok (.if_icmp .eq off, 3)) (ht : (pc : Int) + off = (t : Int)) (h0 : ¬ (x = y)) (k : LSim G b L xs ao (pc + 3) ls st hc hm ov cells slots) : LSim G b L xs ao pc ls (.int y :: .int x :: st) hc hm ov cells slots := by
  intro p e s m below meth c H locs la hat hfl hK hX hA hP0 hP1 hPo hS hl
  obtain ⟨hx, hb, hr, hml, hown, hts, hxs, hbl, hlk, hgv⟩ := hat
  exact lv_icmp_eq hx hb hd ht (fun z => absurd z h0) (fun _ => k p e s m below meth c H locs la ⟨hx, hb, hr, hml, hown, hts, hxs, hbl, hlk, hgv⟩ hfl hK hX hA hP0 hP1 hPo hS hl)
theorem L_icmp_gt_t {x y : Int32} {off : Int} {t : Nat} (hd : decode code pc = .ok (.if_icmp .gt off, 3)) (ht : (pc : Int) + off = (t : Int)) (h0 : y < x) (k : LSim G b L xs ao t ls st hc hm ov cells slots) : LSim G b L xs ao pc ls (.int y :: .int x :: st) hc hm ov cells slots := by
  intro p e s m below meth c H locs la hat hfl hK hX hA hP0 hP1 hPo hS hl
  obtain ⟨hx, hb, hr, hml, hown, hts, hxs, hbl, hlk, hgv⟩ := hat
  exact lv_icmp_gt hx hb hd ht (fun _ => k p e s m below meth c H locs la ⟨hx, hb, hr, hml, hown, hts, hxs, hbl, hlk, hgv⟩ hfl hK hX hA hP0 hP1 hPo hS hl) (fun z => absurd h0 z)
theorem L_icmp_gt_f {x y : Int32} {off : Int} {t : Nat} (hd : decode code pc = .ok (.if_icmp .gt off, 3)) (ht : (pc : Int) + off = (t : Int)) (h0 : ¬ (y < x)) (k : LSim G b L xs ao (pc + 3) ls st hc hm ov cells slots) : LSim G b L xs ao pc ls (.int y :: .int x :: st) hc hm ov cells slots := by
  intro p e s m below meth c H locs la hat hfl hK hX hA hP0 hP1 hPo hS hl
  obtain ⟨hx, hb, hr, hml, hown, hts, hxs, hbl, hlk, hgv⟩ := hat
  exact lv_icmp_gt hx hb hd ht (fun z => absurd z h0) (fun _ => k p e s m below meth c H locs la ⟨hx, hb, hr, hml, hown, hts, hxs, hbl, hlk, hgv⟩ hfl hK hX hA hP0 hP1 hPo hS hl)
theorem L_slen {v : Int32} (hv : Int32.ofNat L = v) (hd : decode code pc = .ok (.arraylength, 1)) (k : LSim G b L xs ao (pc + 1) ls (.int v :: st) hc hm ov cells slots) : LSim G b L xs ao pc ls (.ref b :: st) hc hm ov cells slots := by
  intro p e s m below meth c H locs la hat hfl hK hX hA hP0 hP1 hPo hS hl
  obtain ⟨hx, hb, hr, hml, hown, hts, hxs, hbl, hlk, hgv⟩ := hat
  subst hv
  exact va_slen hx hb hxs hbl (Nat.not_le.mpr hbl) hS hd (k p e s m below meth c H locs la ⟨hx, hb, hr, hml, hown, hts, hxs, hbl, hlk, hgv⟩ hfl hK hX hA hP0 hP1 hPo hS hl)
theorem L_sld {j : Nat} {i : Int32} (hj : i = nI j) (hjL : j < L) (hL : L ≤ 3072) (hd : decode code pc = .ok (.iaload, 1)) (k : LSim G b L xs ao (pc + 1) ls (.int (xs j) :: st) hc hm ov cells slots) : LSim G b L xs ao pc ls (.int i :: .ref b :: st) hc hm ov cells slots := by
  intro p e s m below meth c H locs la hat hfl hK hX hA hP0 hP1 hPo hS hl
  obtain ⟨hx, hb, hr, hml, hown, hts, hxs, hbl, hlk, hgv⟩ := hat
  subst hj
  have e1 : (nI j).toNatClampNeg = j := nI_clamp (by omega)
  have h := k p e s m below meth c H locs la ⟨hx, hb, hr, hml, hown, hts, hxs, hbl, hlk, hgv⟩ hfl hK hX hA hP0 hP1 hPo hS hl
  rw [← e1] at h
  exact va_sld hx hb hxs hbl (Nat.not_le.mpr hbl) hS (vp_in_nI hjL (by omega)) hd h
theorem L_olald {i : Int32} (hi : i = 0) (hd : decode code pc = .ok (.laload, 1)) (k : LSim G b L xs ao (pc + 1) ls (.long (ov 0) :: st) hc hm ov cells slots) : LSim G b L xs ao pc ls (.int i :: .ref ao :: st) hc hm ov cells slots := by
  intro p e s m below meth c H locs la hat hfl hK hX hA hP0 hP1 hPo hS hl
  obtain ⟨hx, hb, hr, hml, hown, hts, hxs, hbl, hlk, hgv⟩ := hat
  subst hi
  exact va_lald (D := G.D) (cl := vwCl) (tys := tysJ G.cT) hx hb hK hPo 0 3 rfl rfl (by intro z; rcases z with z | z <;> revert z <;> decide) hd (k p e s m below meth c H locs la ⟨hx, hb, hr, hml, hown, hts, hxs, hbl, hlk, hgv⟩ hfl hK hX hA hP0 hP1 hPo hS hl)
theorem L_tsw {x : Int32} {dflt lo hi : Int} {offs : Array Int} {len t : Nat} (tgs : List Nat) (hd : decode code pc = .ok (.tableswitch dflt lo hi offs, len)) (hdf : (pc : Int) + dflt = (t : Int)) (hsz : (offs.size : Int) = hi - lo + 1) (hT : ∀ j, j < offs.size → (pc : Int) + offs.getD j 0 = ((tgs.getD j 0 : Nat) : Int))
    (hout : (x.toInt < lo ∨ hi < x.toInt) → LSim G b L xs ao t ls st hc hm ov cells slots) (hin : ∀ j : Nat, j < offs.size → x.toInt = lo + (j : Int) → LSim G b L xs ao (tgs.getD j 0) ls st hc hm ov cells slots) : LSim G b L xs ao pc ls (.int x :: st) hc hm ov cells slots := by
  intro p e s m below meth c H locs la hat hfl hK hX hA hP0 hP1 hPo hS hl
  obtain ⟨hx, hb, hr, hml, hown, hts, hxs, hbl, hlk, hgv⟩ := hat
  by_cases h1 : x.toInt < lo
  · exact lv_tableOut hx hb hd (Or.inl h1) hdf (hout (Or.inl h1) p e s m below meth c H locs la ⟨hx, hb, hr, hml, hown, hts, hxs, hbl, hlk, hgv⟩ hfl hK hX hA hP0 hP1 hPo hS hl)
  by_cases h2 : hi < x.toInt
  · exact lv_tableOut hx hb hd (Or.inr h2) hdf (hout (Or.inr h2) p e s m below meth c H locs la ⟨hx, hb, hr, hml, hown, hts, hxs, hbl, hlk, hgv⟩ hfl hK hX hA hP0 hP1 hPo hS hl)
  have hj : (x.toInt - lo).toNat < offs.size := by omega
  have he : offs[(x.toInt - lo).toNat]? = some (offs.getD (x.toInt - lo).toNat 0) := by
    rw [Array.getElem?_eq_getElem hj]
    simp [Array.getD, hj]
  exact lv_tableIn hx hb hd h1 h2 he (hT _ hj) (hin _ hj (by omega) p e s m below meth c H locs la ⟨hx, hb, hr, hml, hown, hts, hxs, hbl, hlk, hgv⟩ hfl hK hX hA hP0 hP1 hPo hS hl)
theorem L_ret (h1 : cells ≤ 601024) (h2 : slots ≤ 7293034) (hd : decode code pc = .ok (.ireturn, 1)) : LSim G b L xs ao pc ls [.int 1] hc hm ov cells slots := by
  intro p e s m below meth c H locs la hat hfl hK hX hA hP0 hP1 hPo hS hl
  obtain ⟨hx, hb, hr, hml, hown, hts, hxs, hbl, hlk, hgv⟩ := hat
  exact va_forget (fun q hq => hS.2.2 q hq) (W.widen h1 h2 (lw_ret hx hb hr hlk hd))
theorem L_call0 {N : MI} {β : Type} {rv' : β → Option Value × AH} {idx n : Nat} {As rest : List Value} {oc : Option β} {bb : β} (hob : oc = some bb) (hM : Mt G N rv' (.ref (G.ad 0 0) :: As) hc oc) (hB : CK N n) (hL : Cond.methodLink RL idx N.y ∈ JT) (hR : N.rm.cells = 0 ∧ N.rm.slots = 0 ∧ N.rm.frames + 1 ≤ 14 ∧ 8 + (N.nL + 11) + N.rm.locals ≤ 526) (hwd : N.wd = 0) (hcl : N.y.cls = RX8) (hn : As.length = n) (hst : st = As.reverse ++ .ref (G.ad 0 0) :: rest) (hcat : Nat.ble ((rest.map fun v => v.category).sum) 8 = true) (hc1 : cells ≤ 601024) (hs1 : slots ≤ 7293034) (hd : decode code pc = .ok (.invokevirtual idx, 3))
    (k : LSim G b L xs ao (pc + 3) ls ((rv' bb).1.toList ++ rest) (rv' bb).2 hm ov cells slots) : LSim G b L xs ao pc ls st hc hm ov cells slots := by
  intro p e s m below meth c H locs la hat hfl hK hX hA hP0 hP1 hPo hS hl
  obtain ⟨hx, hb, hr, hml, hown, hts, hxs, hbl, hlk, hgv⟩ := hat
  have hM1 := hM bb hob (by rw [hwd]; exact hA.1)
  rw [hwd] at hM1
  have hAO : ∀ q, AO 0 G.ad q → s.heap.size ≤ q := fun q ⟨k, i, hi, hq⟩ => by rw [hq]; exact (hA.2.2.2.1 k i hi).1
  obtain ⟨q0, hq⟩ := OB_at (show 0 < nIn 0 0 from z0)
  have he := WS_at G.cT G.ad hc hq
  rw [cellE_o (show KD 0 = _ from rfl)] at he
  have hjt : ∀ w ∈ JT, w.before #[Value.ref b] s = true := fun w hw => hts w (JT_sub hw)
  have hcw : CallW room_1 s #[Value.ref b] RL N.y.cls idx N.y N.cc N.nL N.ret N.ws N.rm 0 0 n := ⟨callB_of n hjt (ws_good hB.1) rfl hR.1 hR.2.1 (hjt _ hB.1.1) (hjt _ hL) hB.1.2.2 hR.2.2, hjt _ hB.2.1, hjt _ hB.2.2⟩
  have hrun := va_runV (p := p) (l := G.l) (e := e) (below := below) (meth := meth) (locs := locs) (cells := cells) (slots := slots) (rest := rest) (g := F0 m pc la st) (H := H) (cc := code) ⟨hx, hb, hml, hown, hjt⟩ hM1 hcw
    ⟨PcM_blind G 0 _ hc, hcl ▸ va_recv hK hP0 (show vwCl[7]? = _ from rfl) he, fun U hU hW => ⟨rfl, by rw [hU]; exact hP0, va_K.moved hW.alike hK, hX.next (by decide) hAO hW hU hS⟩⟩ rfl hn hl.1 hst (lv_room (le8 hcat)) hd ⟨hc1, hs1⟩
  refine L_run hrun hS hAO (fun H1 locs1 hP01 hkp hS1 => ?_)
  exact k p e s m below meth c H1 locs1 la ⟨hx, hb, hr, hml, hown, hts, hxs, hbl, hlk, hgv⟩ hfl hK hX hA hP01 (PW_kept hP1 hkp (fun k i hi ⟨k', i', hi', hq'⟩ => hA.2.2.1 k' i' k i hi' hi hq'.symm)) (out_kept hPo hkp (fun ⟨k', i', hi', hq'⟩ => (hA.2.2.2.1 k' i' hi').2 hq'.symm)) hS1 hl
theorem L_call1 {N : MI} {β : Type} {rv' : β → Option Value × AH} {idx n : Nat} {As rest : List Value} {oc : Option β} {bb : β} (hob : oc = some bb) (hM : Mt G N rv' (.ref (G.ad 32 0) :: As) hm oc) (hB : CK N n) (hL : Cond.methodLink RL idx N.y ∈ JT) (hR : N.rm.cells = 0 ∧ N.rm.slots = 0 ∧ N.rm.frames + 1 ≤ 14 ∧ 8 + (N.nL + 11) + N.rm.locals ≤ 526) (hwd : N.wd = 1) (hcl : N.y.cls = RX9) (hn : As.length = n) (hst : st = As.reverse ++ .ref (G.ad 32 0) :: rest) (hcat : Nat.ble ((rest.map fun v => v.category).sum) 8 = true) (hc1 : cells ≤ 601024) (hs1 : slots ≤ 7293034) (hd : decode code pc = .ok (.invokevirtual idx, 3))
    (k : LSim G b L xs ao (pc + 3) ls ((rv' bb).1.toList ++ rest) hc (rv' bb).2 ov cells slots) : LSim G b L xs ao pc ls st hc hm ov cells slots := by
  intro p e s m below meth c H locs la hat hfl hK hX hA hP0 hP1 hPo hS hl
  obtain ⟨hx, hb, hr, hml, hown, hts, hxs, hbl, hlk, hgv⟩ := hat
  have hM1 := hM bb hob (by rw [hwd]; exact hA.2.1)
  rw [hwd] at hM1
  have hAO : ∀ q, AO 1 G.ad q → s.heap.size ≤ q := fun q ⟨k, i, hi, hq⟩ => by rw [hq]; exact (hA.2.2.2.2.1 k i hi).1
  obtain ⟨q0, hq⟩ := OB_at (show 0 < nIn 1 32 from z32)
  have he := WS_at G.cT G.ad hm hq
  rw [cellE_o (show KD 32 = _ from rfl)] at he
  have hjt : ∀ w ∈ JT, w.before #[Value.ref b] s = true := fun w hw => hts w (JT_sub hw)
  have hcw : CallW room_1 s #[Value.ref b] RL N.y.cls idx N.y N.cc N.nL N.ret N.ws N.rm 0 0 n := ⟨callB_of n hjt (ws_good hB.1) rfl hR.1 hR.2.1 (hjt _ hB.1.1) (hjt _ hL) hB.1.2.2 hR.2.2, hjt _ hB.2.1, hjt _ hB.2.2⟩
  have hrun := va_runV (p := p) (l := G.l) (e := e) (below := below) (meth := meth) (locs := locs) (cells := cells) (slots := slots) (rest := rest) (g := F0 m pc la st) (H := H) (cc := code) ⟨hx, hb, hml, hown, hjt⟩ hM1 hcw
    ⟨PcM_blind G 1 _ hm, hcl ▸ va_recv hK hP1 (show vwCl[8]? = _ from rfl) he, fun U hU hW => ⟨rfl, by rw [hU]; exact hP1, va_K.moved hW.alike hK, hX.next (by decide) hAO hW hU hS⟩⟩ rfl hn hl.1 hst (lv_room (le8 hcat)) hd ⟨hc1, hs1⟩
  refine L_run hrun hS hAO (fun H1 locs1 hP11 hkp hS1 => ?_)
  exact k p e s m below meth c H1 locs1 la ⟨hx, hb, hr, hml, hown, hts, hxs, hbl, hlk, hgv⟩ hfl hK hX hA (PW_kept hP0 hkp (fun k i hi ⟨k', i', hi', hq'⟩ => hA.2.2.1 k i k' i' hi hi' hq')) hP11 (out_kept hPo hkp (fun ⟨k', i', hi', hq'⟩ => (hA.2.2.2.2.1 k' i' hi').2 hq'.symm)) hS1 hl
end Rules
