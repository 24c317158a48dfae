theorem wd_104 : Cond.initialized RL ∈ JT := JT_of (List.mem_of_getElem? (i := 104) (by decide +kernel)) (by decide +kernel)
theorem wd_1146 : Cond.static yL_led ∈ JT := JT_of (List.mem_of_getElem? (i := 1146) (by decide +kernel)) (by decide +kernel)
theorem wd_1147 : Cond.codeWith yL_led cL_led 4 (some .int) [(0, 9, 12, 13)] ∈ JT := JT_of (List.mem_of_getElem? (i := 1147) (by decide +kernel)) (by decide +kernel)
theorem wd_1148 : Cond.classLink RL 13 "java/util/NoSuchElementException" ∈ JT := JT_of (List.mem_of_getElem? (i := 1148) (by decide +kernel)) (by decide +kernel)
theorem wd_1149 : Cond.methodLink RL 7 yX8_led ∈ JT := JT_of (List.mem_of_getElem? (i := 1149) (by decide +kernel)) (by decide +kernel)
/-! ===== the law's led: it catches ===== -/
def outW (G : JG) (ao : Nat) (ov : Nat → Int64) : va_W := [(ao, .inl (G.cT 3, 1, .inr (.inl ov)))]
theorem PW_kept {G : JG} {wd : Nat} {h : AH} {H H1 : Heap} {F : Nat → Prop} (hP : PW G wd h H) (hk : ∀ q : Nat, q < H.size → ¬ F q → H1[q]? = H[q]?) (hF : ∀ k i, i < nIn wd k → ¬ F (G.ad k i)) : PW G wd h H1 := by
  intro k q hq
  have hl := (hP k q hq).lt
  refine (hP k q hq).kept (hk q.1 hl ?_)
  unfold WS at hq
  rw [List.getElem?_map] at hq
  cases hm : (OB wd)[k]? with
  | none => rw [hm] at hq; cases hq
  | some o =>
    rw [hm] at hq
    cases hq
    exact hF o.1 o.2 (OB_mem.mp (List.mem_of_getElem? hm))
theorem out_kept {G : JG} {ao : Nat} {ov : Nat → Int64} {H H1 : Heap} {F : Nat → Prop} (hP : va_P G.D vwCl (outW G ao ov) H) (hk : ∀ q : Nat, q < H.size → ¬ F q → H1[q]? = H[q]?) (hF : ¬ F ao) : va_P G.D vwCl (outW G ao ov) H1 := by
  intro k q hq
  have hl := (hP k q hq).lt
  have hk0 : k < 1 := (List.getElem?_eq_some_iff.mp hq).1
  have : k = 0 := by omega
  subst this
  cases hq
  exact (hP 0 _ rfl).kept (hk ao hl hF)
section LV
variable {G : JG} {p : Program} {e : Env} {R : Room} {s : State} {m : MethodId} {args : Array Value} {below : List Frame} {meth : Method} {c : Code} {H : Heap} {locs : List Loc} {Q : State → Prop} {pc : Nat} {la : Array Slot} {rest st0 : List Value} {av : Array Value} {A2 : Nat → Prop} {hc : AH} {cv : Int32}
theorem L_vxrun (hr : vx_Run p G.l e R s m args below meth c H locs 0 0 1 6 (F0 m pc la st0) rest (LedQ G hc cv av) (LedX G hc cv) (AO 0 G.ad)) (hS : va_S A2 s.heap H locs) (hA : ∀ q, AO 0 G.ad q → A2 q)
    (kx : ∀ (ce : Cell) (q9 : Addr) (H1 : Heap) (locs1 : List Loc), cv < 0 → PW G 0 hc H1 → (∀ q : Nat, q < H.size → ¬ AO 0 G.ad q → H1[q]? = H[q]?) → va_S A2 s.heap H1 locs1 → H1[q9]? = some ce → ce.vm = .none → s.vm.findClass exN = some ce.cls → vx_W p G.l e R s m args below meth c H1 locs1 1 6 Q (F0 m pc la rest) q9)
    (kk : ∀ (H1 : Heap) (locs1 : List Loc), 0 ≤ cv → PW G 0 hc H1 → (∀ q : Nat, q < H.size → ¬ AO 0 G.ad q → H1[q]? = H[q]?) → va_S A2 s.heap H1 locs1 → W p G.l e R s m args below meth c H1 locs1 1 6 Q (F0 m (pc + 3) la (.int cv :: rest))) : W p G.l e R s m args below meth c H locs 0 0 Q (F0 m pc la st0) := by
  have keep : ∀ (st₀ t T' : State) (L : List Loc), st₀.heap = H → T'.heap = t.heap → (∀ q ∈ L, AO 0 G.ad q.base) → va_F (AO 0 G.ad) st₀ t → va_S A2 s.heap T'.heap (locs ++ L) ∧ (∀ q : Nat, q < H.size → ¬ AO 0 G.ad q → T'.heap[q]? = H[q]?) := by
    intro st₀ t T' L h0 e1 hL hF
    obtain ⟨hz, hk⟩ := hF
    rw [h0] at hz hk
    exact ⟨⟨Nat.le_trans hS.1 (by rw [e1]; exact hz), fun q h1 h2 => by rw [e1, hk q (Nat.lt_of_lt_of_le h1 hS.1) (fun z => h2 (hA q z))]; exact hS.2.1 q h1 h2, fun q hq => by
      rcases List.mem_append.mp hq with h | h
      · exact hS.2.2 q h
      · exact hA _ (hL q h)⟩, fun q h1 h2 => by rw [e1]; exact hk q h1 h2⟩
  intro T hT X
  rcases hr T hT X with ⟨v, st₀, t, T', L, h0, X', hL, e1, e2, ⟨hge, hv, hp, hF⟩, st⟩ | ⟨q, st₀, t, T', L, E, ce, h0, X', hL, e1, e2, ⟨hlt, hE, hp, hF⟩, hce, hcv, hcl, st⟩
  · cases hv
    obtain ⟨k3, k2⟩ := keep st₀ t T' L h0 e1 hL hF
    obtain ⟨t2, a1, b1⟩ := kk T'.heap (locs ++ L) hge (by rw [e1]; exact hp) k2 k3 T' rfl X'
    exact ⟨t2, st t2 a1, b1⟩
  · subst hE
    obtain ⟨k3, k2⟩ := keep st₀ t T' L h0 e1 hL hF
    obtain ⟨t2, a1, b1⟩ := kx ce q T'.heap (locs ++ L) hlt (by rw [e1]; exact hp) k2 k3 (by rw [e1]; exact hce) hcv hcl T' rfl X'
    exact ⟨t2, st.trans a1, b1⟩
end LV
def iL_ws : List Cond := .codeWith yL_led cL_led 4 (some .int) [(0, 9, 12, 13)] :: JT
def iL_rm : Room := { frames := 7, cells := 1, slots := 6, locals := 122 }
def LA2 (G : JG) (ao : Nat) : Nat → Prop := fun q => AO 0 G.ad q ∨ q = ao
def LLPc (G : JG) (hc : AH) (v1 : Int32) (ao : Nat) (ov : Nat → Int64) : Array Value → State → Prop := va_Pc [.ref (G.ad 0 0), .int v1, .ref ao] (fun U => PW G 0 hc U.heap ∧ va_P G.D vwCl (outW G ao ov) U.heap ∧ va_K G.D vwCl (tysJ G.cT) U ∧ XP G 0 U ∧ ND U ∧ ZL (LA2 G ao) U)
theorem LLPc_blind (G : JG) (hc : AH) (v1 : Int32) (ao : Nat) (ov : Nat → Int64) : FrameBlind (LLPc G hc v1 ao ov) := by
  intro a U g mk q
  obtain ⟨q0, qP, qO, qK, qX, qN, qZ⟩ := q
  exact ⟨q0, qP, qO, va_K.moved (u := U) (U := U.calling g mk a) (Vm.Alike.refl U.vm) qK, XP.moved (s := U) rfl rfl qX, ND.moved (s := U) rfl qN, ZL.next (s := U) (Vm.Alike.refl U.vm) rfl (fun _ _ _ => rfl) (fun _ h => h) qZ⟩
/-- what led of the law answers: 1 where it threw, else 0 and the answer lies in the array -/
def LLQ (G : JG) (hc : AH) (cv : Int32) (ao : Nat) (ov : Nat → Int64) (kv : Int32) (ov' : Nat → Int64) : Prop := (0 ≤ cv ∧ kv = 0 ∧ ov' 0 = cv.toInt64) ∨ (cv < 0 ∧ kv = 1)
def LLR (G : JG) (hc : AH) (cv : Int32) (ao : Nat) (ov : Nat → Int64) : Array Value → State → Outcome → State → Prop := fun _ st oc t => (∃ kv ov', oc = .returned (some (.int kv)) ∧ LLQ G hc cv ao ov kv ov' ∧ PW G 0 hc t.heap ∧ va_P G.D vwCl (outW G ao ov') t.heap) ∧ va_F (LA2 G ao) st t
set_option maxRecDepth 20000 in
set_option maxHeartbeats 2000000 in
theorem sL_led (G : JG) (hfl : G.l.stackTraces = false) (hc : AH) (v1 cv : Int32) (ao : Nat) (ov : Nat → Int64) (hbc : jX_bareCell hc v1 = some cv) (hI : Inj 0 G.ad) (hao : ∀ k i, i < nIn 0 k → G.ad k i ≠ ao) : Met G.l yL_led iL_ws iL_rm (LLPc G hc v1 ao ov) (LLR G hc cv ao ov) 1 6 (LA2 G ao) := by
  refine va_MetW (cc := cL_led) (maxL := 4) (ret := some .int) (hh := [(0, 9, 12, 13)]) (by decide) rfl ?_
  intro p e s m args below meth c9 s₁ B hml hv
  obtain ⟨rfl, hP, hPo, hK, hX, hN, hZ⟩ := hv
  have hx := B.exec
  have hb := B.bytes
  have hr := B.returns
  have hlocks := B.notSynchronized
  have hts0 := atoms_spec (ws := iL_ws) B.pre
  have hts : ∀ w ∈ JT, w.before ([.ref (G.ad 0 0), .int v1, .ref ao] : List Value).toArray s = true := fun w hw => hts0 w (List.mem_cons_of_mem _ hw)
  have htab : c9.exceptionTable.toList = tableOf [(0, 9, 12, 13)] := vx_table (x := yL_led) B (hts0 _ List.mem_cons_self)
  have hown : s.vm.findClass RL = some m.cls := findClass_of_methodNamed B.named
  have hl := lv_entry [.ref (G.ad 0 0), .int v1, .ref ao] (n := 4) (Nat.le_of_ble_eq_true rfl)
  rw [lg_entry_eq]
  generalize (lg_sl [.ref (G.ad 0 0), .int v1, .ref ao] ++ List.replicate (4 - (lg_sl [.ref (G.ad 0 0), .int v1, .ref ao]).length) Slot.unset).toArray = la at hl ⊢
  have hl : lv_has la 4 [(0, .ref (G.ad 0 0)), (1, .int v1), (2, .ref ao)] := hl
  refine lv_aload_n hx hb dL_led_0 rfl (lv_at hl 2 rfl) ?_
  refine lv_iconst (v := 0) hx hb dL_led_1 (by decide) ?_
  refine lv_aload_n hx hb dL_led_2 rfl (lv_at hl 0 rfl) ?_
  refine lv_iload_n hx hb dL_led_3 rfl (lv_at hl 1 rfl) ?_
  obtain ⟨q0, hq⟩ := OB_at (show 0 < nIn 0 0 from z0)
  have he := WS_at G.cT G.ad hc hq
  rw [cellE_o (show KD 0 = _ from rfl)] at he
  have hcw : CallW iL_rm s ([.ref (G.ad 0 0), .int v1, .ref ao] : List Value).toArray RL RX8 7 yX8_led iX_led.cc iX_led.nL iX_led.ret iX_led.ws iX_led.rm 1 6 1 := ⟨callB_of 1 hts (ws_good ck_X8_led.1) rfl rfl rfl (hts _ ck_X8_led.1.1) (hts _ wd_1149) ck_X8_led.1.2.2 ⟨Nat.le_of_ble_eq_true rfl, Nat.le_of_ble_eq_true rfl⟩, hts _ ck_X8_led.2.1, hts _ ck_X8_led.2.2⟩
  have hAZ : ∀ q, AO 0 G.ad q → LA2 G ao q := fun q h => Or.inl h
  have hrun := vx_runV (p := p) (l := G.l) (e := e) (below := below) (meth := meth) (locs := []) (cells := 0) (slots := 0) (rest := [.int 0, .ref ao]) (As := [.int v1]) (g := F0 m 4 la [.int v1, .ref (G.ad 0 0), .int 0, .ref ao]) (H := s.heap) (cc := cL_led) (nL := 4) ⟨hx, hb, hml, hown, hts⟩ (sX_led G hfl hc v1 cv hbc hI) hcw
    ⟨LedPc_blind G hc v1, va_recv hK hP (show vwCl[7]? = _ from rfl) he, fun U hU hW => ⟨rfl, by rw [hU]; exact hP, va_K.moved hW.alike hK, hX.next hW hU (va_S.rf (A := AO 0 G.ad)), hN.next hW, ZL.next hW.alike hU (fun _ _ _ => rfl) hAZ hZ⟩⟩ rfl rfl hl.1 rfl (lv_room (le8 rfl)) dL_led_4 ⟨Nat.le_of_ble_eq_true rfl, Nat.le_of_ble_eq_true rfl⟩
  have hAn : ¬ AO 0 G.ad ao := fun ⟨k, i, hi, hq9⟩ => hao k i hi hq9.symm
  refine L_vxrun hrun (va_S.rf (A := LA2 G ao)) hAZ (fun ce q9 H1 locs1 hlt hP1 hkp hS1 hce hcv hcl => ?_) (fun H1 locs1 hge hP1 hkp hS1 => ?_)
  · refine vx_catch (name := exN) (E := exN) hown [] _ [] htab (fun z hz => nomatch hz) (by decide) (by decide) (hts _ wd_1148) ?_ hce hcv hcl ?_
    · have h1 : Cond.castable exN exN ∈ thrW := by decide +kernel
      exact va_Nw.use rfl (hN _ h1 rfl)
    · show W p G.l e _ s m _ below meth c9 H1 locs1 1 6 _ (F0 m 12 la [.ref q9])
      refine lv_astore_n (lv' := [(3, .ref q9), (0, .ref (G.ad 0 0)), (1, .int v1), (2, .ref ao)]) hx hb dL_led_12 rfl hl (by decide) rfl (fun la2 hl2 => ?_)
      refine lv_iconst (v := 1) hx hb dL_led_13 (by decide) ?_
      exact W.iret hx hb hr (fun t ht hW => ⟨⟨1, ov, rfl, Or.inr ⟨hlt, rfl⟩, by rw [ht]; exact hP1, by rw [ht]; exact out_kept hPo hkp hAn⟩, hS1.F ht⟩) hS1.2.2 dL_led_14
  · have hPo1 := out_kept hPo hkp hAn
    refine lv_i2l (v := cv.toInt64) hx hb dL_led_7 rfl ?_
    refine W.last hx hb (hPo1 0 _ rfl) ((hK.2 3 _ rfl).1 1 (fun j => .long (ov j))) (fun q => by cases q) (by show ¬ ((0 : Int32) < 0 ∨ (arrV _ _ _).slots.size ≤ _); rw [arrV_size]; exact (show ¬ ((0 : Int32) < 0 ∨ (1 : Nat) ≤ (0 : Int32).toNatClampNeg) from by decide)) rfl rfl dL_led_8 (fun H2 e2 z2 oq => ?_)
    refine lv_goto (tgt := 15) hx hb dL_led_9 rfl ?_
    refine lv_iconst (v := 0) hx hb dL_led_15 (by decide) ?_
    have hS2 : va_S (LA2 G ao) s.heap H2 (locs1 ++ [⟨ao, (0 : Int32).toNatClampNeg⟩]) := hS1.put z2 oq (Or.inr rfl)
    refine W.iret hx hb hr (fun t ht hW => ⟨⟨0, vp_updL ov 0 cv.toInt64, rfl, Or.inl ⟨hge, rfl, rfl⟩, ?_, ?_⟩, hS2.F ht⟩) hS2.2.2 dL_led_16
    · rw [ht]
      exact PW_kept (F := fun q => q = ao) hP1 (fun q _ hn => oq q hn) hao
    · rw [ht]
      intro k q hq9
      have hk0 : k < 1 := (List.getElem?_eq_some_iff.mp hq9).1
      have : k = 0 := by omega
      subst this
      cases hq9
      show H2[ao]? = some (vp_cell _ _)
      rw [e2]
      show some ((arrV (G.cT 3) 1 (fun j => .long (ov j))).setSlot _ _) = some (arrV (G.cT 3) 1 (fun j => .long (vp_updL ov 0 cv.toInt64 j)))
      rw [arrV_store]
      congr 2
      funext j
      unfold updV vp_updL
      by_cases hj : j = 0
      · subst hj; rfl
      · rw [if_neg (show ¬ j = (0 : Int32).toNatClampNeg from hj), if_neg hj]

