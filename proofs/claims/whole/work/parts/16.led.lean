theorem wd_126 : Cond.initialized "java/util/NoSuchElementException" ∈ JT := JT_of (List.mem_of_getElem? (i := 126) (by decide +kernel)) (by decide +kernel)
theorem wd_1150 : Cond.instanceMethod yX8_led ∈ JT := JT_of (List.mem_of_getElem? (i := 1150) (by decide +kernel)) (by decide +kernel)
theorem wd_1151 : Cond.selects RX8 yX8_led yX8_led ∈ JT := JT_of (List.mem_of_getElem? (i := 1151) (by decide +kernel)) (by decide +kernel)
theorem wd_1152 : Cond.code yX8_led cX8_led 3 (some .int) ∈ JT := JT_of (List.mem_of_getElem? (i := 1152) (by decide +kernel)) (by decide +kernel)
theorem wd_1153 : Cond.methodLink RX8 281 yX8_bareCell ∈ JT := JT_of (List.mem_of_getElem? (i := 1153) (by decide +kernel)) (by decide +kernel)
theorem wd_1157 : Cond.classLink RX8 284 "java/util/NoSuchElementException" ∈ JT := JT_of (List.mem_of_getElem? (i := 1157) (by decide +kernel)) (by decide +kernel)
/-! ===== led: it may throw ===== -/
def isCD : Cond → Bool
  | .castable _ _ => true
  | .declares _ => true
  | _ => false
def exN : String := "java/util/NoSuchElementException"
def exS : List String := ["java/lang/RuntimeException", "java/lang/Exception"]
def thrW : List Cond := vx_at0 RX8 286 exN exS
theorem thrW_cd : ∀ w ∈ thrW, goodWord w = true ∨ isCD w = true := by decide +kernel
theorem thrW_in : ∀ w ∈ thrW, w ∈ lw_tbl := by decide +kernel
theorem thrW_ot : ∀ w ∈ Cond.classLink RX8 284 exN :: Cond.initialized exN :: thrW, vx_ot w = true := by decide +kernel
def ND (s : State) : Prop := ∀ w ∈ thrW, isCD w = true → va_Nw w s
def ZL (A : Nat → Prop) (s : State) : Prop := vx_Zq Bundle.tN "UNASSIGNED_STACK" Bundle.steD A s s.heap ∧ vx_Zq Bundle.tN "SUPPRESSED_SENTINEL" Bundle.listD A s s.heap
theorem isCD_on {w : Cond} (h : isCD w = true) : w.onTables = true := by
  cases w <;> first | rfl | exact absurd h (by simp [isCD])
theorem ND.next {s U : State} (hW : s.WarmedH U.vm) (h : ND s) : ND U := by
  intro w hw hcd
  have h1 := h w hw hcd
  cases w <;> first | exact va_Nw.warmC hW h1 | exact va_Nw.warmD hW h1 | exact absurd hcd (by simp [isCD])
theorem ND.moved {s U : State} (hv : U.vm = s.vm) (h : ND s) : ND U := fun w hw hcd => va_Nw.same (isCD_on hcd) hv.symm (h w hw hcd)
theorem ZL.next {A B : Nat → Prop} {s U : State} {H : Heap} (hv : s.vm.Alike U.vm) (hU : U.heap = H) (hk : ∀ a : Nat, a < s.heap.size → ¬ A a → H[a]? = s.heap[a]?) (hAB : ∀ q, B q → A q) (h : ZL A s) : ZL B U := by
  refine ⟨?_, ?_⟩
  · rw [hU]; exact ((h.1.moved hv).kept hk).narrow hAB
  · rw [hU]; exact ((h.2.moved hv).kept hk).narrow hAB
def iX_led : MI := (yX8_led, cX8_led, 3, (some .int), { frames := 6, cells := 1, slots := 6, locals := 100 }, 0)
theorem ck_X8_led : CK iX_led 1 := ⟨⟨wd_105, wd_1152, by decide +kernel⟩, ⟨wd_1150, wd_1151⟩⟩
def LedPc (G : JG) (hc : AH) (v1 : Int32) : Array Value → State → Prop := va_Pc [.ref (G.ad 0 0), .int v1] (fun U => PW G 0 hc U.heap ∧ va_K G.D vwCl (tysJ G.cT) U ∧ XP G 0 U ∧ ND U ∧ ZL (AO 0 G.ad) U)
theorem LedPc_blind (G : JG) (hc : AH) (v1 : Int32) : FrameBlind (LedPc G hc v1) := by
  intro a U g mk q
  obtain ⟨q0, qP, qK, qX, qN, qZ⟩ := q
  exact ⟨q0, qP, va_K.moved (u := U) (U := U.calling g mk a) (Vm.Alike.refl U.vm) qK, XP.moved (s := U) rfl rfl qX, ND.moved (s := U) rfl qN, ZL.next (s := U) (Vm.Alike.refl U.vm) rfl (fun _ _ _ => rfl) (fun _ h => h) qZ⟩
def LedX (G : JG) (hc : AH) (c : Int32) : String → State → State → Prop := fun E st t => c < 0 ∧ E = exN ∧ PW G 0 hc t.heap ∧ va_F (AO 0 G.ad) st t
def LedQ (G : JG) (hc : AH) (c : Int32) : Array Value → State → Outcome → State → Prop := fun a st o t => 0 ≤ c ∧ Qm G 0 (some (.int c), hc) a st o t
set_option maxRecDepth 20000 in
set_option maxHeartbeats 2000000 in
theorem sX_led (G : JG) (hfl : G.l.stackTraces = false) (hc : AH) (v1 c : Int32) (hbc : jX_bareCell hc v1 = some c) (hI : Inj 0 G.ad) : vx_Met G.l yX8_led iX_led.ws iX_led.rm (LedPc G hc v1) (LedQ G hc c) (LedX G hc c) 1 6 (AO 0 G.ad) := by
  refine vx_ofW (cc := cX8_led) (maxL := 3) (ret := some .int) (by decide) rfl ?_
  intro p e s m args below meth c9 s₁ B hml htab hv
  obtain ⟨rfl, hP, hK, hX, hN, hZ⟩ := hv
  have hx := B.exec
  have hb := B.bytes
  have hr := B.returns
  have hlocks := B.notSynchronized
  have hts0 := atoms_spec (ws := iX_led.ws) B.pre
  have hts : ∀ w ∈ JT, w.before ([.ref (G.ad 0 0), .int v1] : List Value).toArray s = true := fun w hw => hts0 w (List.mem_cons_of_mem _ hw)
  have hown : s.vm.findClass RX8 = some m.cls := findClass_of_methodNamed B.named
  have hl := lv_entry [.ref (G.ad 0 0), .int v1] (n := 3) (Nat.le_of_ble_eq_true rfl)
  rw [lg_entry_eq]
  generalize (lg_sl [.ref (G.ad 0 0), .int v1] ++ List.replicate (3 - (lg_sl [.ref (G.ad 0 0), .int v1]).length) Slot.unset).toArray = la at hl ⊢
  have hl : lv_has la 3 [(0, .ref (G.ad 0 0)), (1, .int v1)] := hl
  refine lv_aload_n hx hb dX8_led_0 rfl (lv_at hl 0 rfl) ?_
  refine lv_iload_n hx hb dX8_led_1 rfl (lv_at hl 1 rfl) ?_
  have hM1 := sX_bareCell G hc v1 c hbc hI
  obtain ⟨q0, hq⟩ := OB_at (show 0 < nIn 0 0 from z0)
  have he := WS_at G.cT G.ad hc hq
  rw [cellE_o (show KD 0 = _ from rfl)] at he
  have hcw : CallW iX_led.rm s ([.ref (G.ad 0 0), .int v1] : List Value).toArray RX8 RX8 281 yX8_bareCell iX_bareCell.cc iX_bareCell.nL iX_bareCell.ret iX_bareCell.ws iX_bareCell.rm 0 0 1 := ⟨callB_of 1 hts (ws_good ck_X8_bareCell.1) rfl rfl rfl (hts _ ck_X8_bareCell.1.1) (hts _ wd_1153) ck_X8_bareCell.1.2.2 ⟨Nat.le_of_ble_eq_true rfl, Nat.le_of_ble_eq_true rfl⟩, hts _ ck_X8_bareCell.2.1, hts _ ck_X8_bareCell.2.2⟩
  have hrun := va_runV (p := p) (l := G.l) (e := e) (below := below) (meth := meth) (locs := []) (cells := 0) (slots := 0) (rest := []) (As := [.int v1]) (g := F0 m 2 la [.int v1, .ref (G.ad 0 0)]) (H := s.heap) (cc := cX8_led) (nL := 3) ⟨hx, hb, hml, hown, hts⟩ hM1 hcw
    ⟨PcM_blind G 0 _ hc, va_recv hK hP (show vwCl[7]? = _ from rfl) he, fun U hU hW => ⟨rfl, by rw [hU]; exact hP, va_K.moved hW.alike hK, hX.next hW hU (va_S.rf (A := AO 0 G.ad))⟩⟩ rfl rfl hl.1 rfl (lv_room (le8 rfl)) dX8_led_2 ⟨Nat.zero_le _, Nat.zero_le _⟩
  refine jv_run hrun va_S.rf (fun H1 locs1 hP1 hS1 => ?_)
  show W p G.l e _ s m _ below meth c9 H1 locs1 0 0 _ (F0 m 5 la [.int c])
  refine lv_istore_n (lv' := [(2, .int c), (0, .ref (G.ad 0 0)), (1, .int v1)]) hx hb dX8_led_5 rfl hl (by decide) rfl (fun la2 hl2 => ?_)
  refine lv_iload_n hx hb dX8_led_6 rfl (lv_at hl2 0 rfl) ?_
  refine lv_if_ge (tgt := 18) hx hb dX8_led_7 rfl (fun hge => ?_) (fun hlt => ?_)
  · refine lv_iload_n hx hb dX8_led_18 rfl (lv_at hl2 0 rfl) ?_
    refine vx_ret ?_
    refine W.widen (k := 1) (n := 6) (by decide) (by decide) ?_
    exact W.iret hx hb hr (fun t ht hW => ⟨hge, rfl, by rw [ht]; exact hP1, hS1.F ht⟩) hS1.2.2 dX8_led_19
  · have hat : ∀ w ∈ thrW, w.before ([.ref (G.ad 0 0), .int v1] : List Value).toArray s = true := by
      intro w hw
      rcases thrW_cd w hw with h | h
      · exact hts w (JT_of (thrW_in w hw) h)
      · exact va_Nw.use (isCD_on h) (hN w hw h)
    exact vx_throw0 (own := RX8) (cls := exN) (names := exS) (ik := 284) (ic := 286) (A := AO 0 G.ad) (mc := 1) (ms := 6) hx hb hfl hown (by decide) (by decide) (hts _ wd_1157) (hts _ wd_126) hat thrW_ot hZ.1 hZ.2 hS1 (hl2.1.trans hml.symm) dX8_led_10 dX8_led_13 dX8_led_14 dX8_led_17 (fun x hx9 => (htab x hx9).elim) (by decide) (Nat.le_of_ble_eq_true rfl) (Nat.le_of_ble_eq_true rfl) (Nat.le_of_ble_eq_true rfl) hlocks
      (fun t hA hz hk => ⟨Int32.not_le.mp hlt, rfl, va_P.kept hP1 (fun k q hq9 => hk q.1 ((hP1 k q hq9).lt)), Nat.le_trans hS1.1 hz, fun q h1 h2 => (hk q (Nat.lt_of_lt_of_le h1 hS1.1)).trans (hS1.2.1 q h1 h2)⟩) hS1.2.2 (by decide) (by decide)

