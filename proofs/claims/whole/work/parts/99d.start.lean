/-! ===== the law from its entry ===== -/
theorem ln_127 : Cond.classLink RL 8 RX8 ∈ lw_tbl := List.mem_of_getElem? (i := 127) (by decide +kernel)
theorem ln_129 : Cond.methodLink RL 15 yX8_init ∈ JT := JT_of (List.mem_of_getElem? (i := 129) (by decide +kernel)) (by decide +kernel)
theorem ln_130 : Cond.instanceMethod yX8_init ∈ JT := JT_of (List.mem_of_getElem? (i := 130) (by decide +kernel)) (by decide +kernel)
theorem ln_1218 : Cond.classLink RL 16 RX9 ∈ lw_tbl := List.mem_of_getElem? (i := 1218) (by decide +kernel)
theorem ln_1220 : Cond.methodLink RL 18 yX9_init ∈ JT := JT_of (List.mem_of_getElem? (i := 1220) (by decide +kernel)) (by decide +kernel)
theorem ln_1221 : Cond.instanceMethod yX9_init ∈ JT := JT_of (List.mem_of_getElem? (i := 1221) (by decide +kernel)) (by decide +kernel)
theorem ln_1184 : Cond.laysStatic Bundle.tN "UNASSIGNED_STACK" Bundle.steD ∈ lw_tbl := List.mem_of_getElem? (i := 1184) (by decide +kernel)
theorem ln_1186 : Cond.laysStatic Bundle.tN "SUPPRESSED_SENTINEL" Bundle.listD ∈ lw_tbl := List.mem_of_getElem? (i := 1186) (by decide +kernel)
theorem ln_1387 : Cond.laysStatic "java/lang/String" "COMPACT_STRINGS" "Z" ∈ lw_tbl := List.mem_of_getElem? (i := 1387) (by decide +kernel)
theorem ln_1403 : Cond.laysStatic "jdk/internal/util/Preconditions" "SIOOBE_FORMATTER" "Ljava/util/function/BiFunction;" ∈ lw_tbl := List.mem_of_getElem? (i := 1403) (by decide +kernel)
theorem ln_116 : Cond.initialized "java/lang/String" ∈ lw_tbl := List.mem_of_getElem? (i := 116) (by decide +kernel)
theorem ln_118 : Cond.initialized "jdk/internal/util/Preconditions" ∈ lw_tbl := List.mem_of_getElem? (i := 118) (by decide +kernel)
theorem ln_123 : Cond.initialized Bundle.tN ∈ lw_tbl := List.mem_of_getElem? (i := 123) (by decide +kernel)
theorem ln_cs : Cond.eq (.static "java/lang/String" "COMPACT_STRINGS" "Z") (.int 1) ∈ stL := by decide +kernel
theorem ln_sf : Cond.isRef (.static "jdk/internal/util/Preconditions" "SIOOBE_FORMATTER" "Ljava/util/function/BiFunction;") ∈ stL := by decide +kernel
theorem ln_us : Cond.isRef (.static Bundle.tN "UNASSIGNED_STACK" Bundle.steD) ∈ stL := by decide +kernel
theorem ln_ss : Cond.isRef (.static Bundle.tN "SUPPRESSED_SENTINEL" Bundle.listD) ∈ stL := by decide +kernel
theorem ln_nest : ∀ q ∈ nestL, Cond.methodLinkNest q.1 q.2.1 q.2.2.1 q.2.2.2 ∈ lw_tbl := by decide +kernel
theorem ln_ao : Cond.arrayOver (.object "PaintedOver$Works") ∈ lw_tbl := List.mem_of_getElem? (i := 303) (by decide +kernel)
section
variable {s : State} {b : Nat}
theorem st_NX (hts : ∀ w ∈ lw_tbl, w.before #[Value.ref b] s = true) : NX s := fun q hq => va_Nw.of rfl (hts _ (ln_nest q hq))
theorem st_ND (hts : ∀ w ∈ lw_tbl, w.before #[Value.ref b] s = true) : ND s := fun w hw hcd => va_Nw.of (isCD_on hcd) (hts w (thrW_in w hw))
theorem st_XS (hgv : (Jvm.Cond.and given_1 narrow_1).before #[Value.ref b] s = true) (hts : ∀ w ∈ lw_tbl, w.before #[Value.ref b] s = true) : XS (fun q => s.heap.size ≤ q) s := by
  have hf := flat_of_before _ hgv
  have hA : ∀ a : Nat, a < s.heap.size → ¬ s.heap.size ≤ a := fun a h => Nat.not_le.mpr h
  refine ⟨va_Zof (hts _ ln_1387) (hts _ ln_116) (va_eqi (hf _ ln_cs)) hA, ?_⟩
  rcases va_Zqof (hts _ ln_1403) (hts _ ln_118) (hf _ ln_sf) hA with h | ⟨t, h⟩
  · exact ⟨_, Or.inl rfl, h⟩
  · exact ⟨_, Or.inr ⟨t, rfl⟩, h⟩
theorem st_ZL (hgv : (Jvm.Cond.and given_1 narrow_1).before #[Value.ref b] s = true) (hts : ∀ w ∈ lw_tbl, w.before #[Value.ref b] s = true) : ZL (fun q => s.heap.size ≤ q) s := by
  have hf := flat_of_before _ hgv
  have hA : ∀ a : Nat, a < s.heap.size → ¬ s.heap.size ≤ a := fun a h => Nat.not_le.mpr h
  exact ⟨vx_Zqof (hts _ ln_1184) (hts _ ln_123) (hf _ ln_us) hA, vx_Zqof (hts _ ln_1186) (hts _ ln_123) (hf _ ln_ss) hA⟩
end
def adJ (ad ad2 : Nat → Nat → Nat) : Nat → Nat → Nat := fun k i => cond (Nat.blt k 32) (ad k i) (ad2 k i)
set_option maxRecDepth 20000 in
set_option maxHeartbeats 2000000 in
theorem WS0_ad (cT : Nat → ClassId) (ad ad2 : Nat → Nat → Nat) : WS 0 cT ad hc0 = WS 0 cT (adJ ad ad2) hc0 := rfl
set_option maxRecDepth 20000 in
set_option maxHeartbeats 2000000 in
theorem WS1_ad (cT : Nat → ClassId) (ad ad2 : Nat → Nat → Nat) : WS 1 cT ad2 hm0 = WS 1 cT (adJ ad ad2) hm0 := by
  rw [WS1_eq, WS1_eq]
  rfl
theorem P_left {D : va_G} {a b : va_W} {H : Heap} (h : va_P D vwCl (a ++ b) H) : va_P D vwCl a H := fun k q hk => by
  obtain ⟨l1, -⟩ := List.getElem?_eq_some_iff.mp hk
  exact h k q (by rw [List.getElem?_append_left l1]; exact hk)
theorem P_right {D : va_G} {a b : va_W} {H : Heap} (h : va_P D vwCl (a ++ b) H) : va_P D vwCl b H := fun k q hk => h (a.length + k) q (by rw [List.getElem?_append_right (Nat.le_add_right _ _), Nat.add_sub_cancel_left]; exact hk)
theorem LAp_of {G : JG} {ao sz : Nat} {hc hm : AH} {e : va_E} (hD : va_D (fun q => sz ≤ q) ((WS 0 G.cT G.ad hc ++ WS 1 G.cT G.ad hm) ++ [(ao, e)])) : LAp G ao sz := by
  have a0 : ∀ k i, i < nIn 0 k → ∃ n, (OB 0)[n]? = some (k, i) ∧ n < (WS 0 G.cT G.ad hc).length ∧ ((WS 0 G.cT G.ad hc ++ WS 1 G.cT G.ad hm) ++ [(ao, e)])[n]? = some (G.ad k i, cellE G.cT G.ad hc k i) := fun k i hi => by
    obtain ⟨n, hn⟩ := OB_at hi
    have h1 := WS_at G.cT G.ad hc hn
    obtain ⟨l1, -⟩ := List.getElem?_eq_some_iff.mp h1
    refine ⟨n, hn, l1, ?_⟩
    rw [List.getElem?_append_left (by rw [List.length_append]; omega), List.getElem?_append_left l1]
    exact h1
  have a1 : ∀ k i, i < nIn 1 k → ∃ n, (OB 1)[n]? = some (k, i) ∧ n < (WS 1 G.cT G.ad hm).length ∧ ((WS 0 G.cT G.ad hc ++ WS 1 G.cT G.ad hm) ++ [(ao, e)])[(WS 0 G.cT G.ad hc).length + n]? = some (G.ad k i, cellE G.cT G.ad hm k i) := fun k i hi => by
    obtain ⟨n, hn⟩ := OB_at hi
    have h1 := WS_at G.cT G.ad hm hn
    obtain ⟨l1, -⟩ := List.getElem?_eq_some_iff.mp h1
    refine ⟨n, hn, l1, ?_⟩
    rw [List.getElem?_append_left (by rw [List.length_append]; omega), List.getElem?_append_right (Nat.le_add_right _ _), Nat.add_sub_cancel_left]
    exact h1
  have a2 : ((WS 0 G.cT G.ad hc ++ WS 1 G.cT G.ad hm) ++ [(ao, e)])[(WS 0 G.cT G.ad hc).length + (WS 1 G.cT G.ad hm).length]? = some (ao, e) := by
    rw [List.getElem?_append_right (by rw [List.length_append]; omega), List.length_append, Nat.sub_self]
    rfl
  refine ⟨fun k i k' i' hi hi' he => ?_, fun k i k' i' hi hi' he => ?_, fun k i k' i' hi hi' he => ?_, fun k i hi => ?_, fun k i hi => ?_, hD.2 _ _ a2⟩
  · obtain ⟨n, n1, n2, n3⟩ := a0 k i hi
    obtain ⟨n', n1', n2', n3'⟩ := a0 k' i' hi'
    have hn := hD.1 _ _ _ _ n3 n3' he
    rw [hn, n1'] at n1
    cases n1
    exact ⟨rfl, rfl⟩
  · obtain ⟨n, n1, n2, n3⟩ := a1 k i hi
    obtain ⟨n', n1', n2', n3'⟩ := a1 k' i' hi'
    have hn := hD.1 _ _ _ _ n3 n3' he
    rw [show n = n' by omega, n1'] at n1
    cases n1
    exact ⟨rfl, rfl⟩
  · obtain ⟨n, n1, n2, n3⟩ := a0 k i hi
    obtain ⟨n', n1', n2', n3'⟩ := a1 k' i' hi'
    have hn := hD.1 _ _ _ _ n3 n3' he
    omega
  · obtain ⟨n, n1, n2, n3⟩ := a0 k i hi
    refine ⟨hD.2 _ _ n3, fun he => ?_⟩
    have hn := hD.1 _ _ _ _ n3 a2 he
    omega
  · obtain ⟨n, n1, n2, n3⟩ := a1 k i hi
    refine ⟨hD.2 _ _ n3, fun he => ?_⟩
    have hn := hD.1 _ _ _ _ n3 a2 he
    omega
section
variable {p : Program} {e : Env} {s : State} {m : MethodId} {below : List Frame} {meth : Method} {c : Code} {b : Nat} {H : Heap} {locs : List Loc} {la : Array Slot} {X : va_W} {cells slots : Nat} {Q : State → Prop}
/-- 'new C(); dup; invokespecial <init>()' in the law -/
theorem L_new (G : JG) {N : MI} {i1 i2 ci n pc mc' ms' : Nat} {C : String} {T : u_T} {fs : List Value} {ty : Nat → FieldType} {post' : Nat → va_W → Prop} {lv : List (Nat × Value)}
    (hx : p.tables.exec = Jvm.exec) (hb : c.code = code) (hown : s.vm.findClass RL = some m.cls) (hml : c.maxLocals = 7) (hjt : ∀ w ∈ JT, w.before #[Value.ref b] s = true) (hK : va_K G.D vwCl (tysJ G.cT) s) (hN : NX s) (hO : va_AO "PaintedOver$Works" s) (hl : lv_has la 7 lv)
    (hP : va_P G.D vwCl X H) (hD : va_D (fun q => s.heap.size ≤ q) X) (hS : va_S (fun q => s.heap.size ≤ q) s.heap H locs)
    (hC : vwCl[ci]? = some (C, T, n)) (hu : ∀ w ∈ u_ws C T n, w ∈ JT) (hty : ∀ k, k < n → parseFieldDescriptor (T k).2.2.1 = some (ty k)) (hfs : ∀ j, j < n → defaultValue (ty j) = vp_V fs j)
    (w1 : (Cond.classLink RL i1 C).before #[Value.ref b] s = true) (w2 : Cond.instantiable C n ∈ JT) (w3 : Cond.initialized C ∈ JT) (hM : ∀ q, CMt G N q (.inr (ci, fs)) (post' q) mc' ms') (hB : MBs N 0) (hI : Cond.instanceMethod N.y ∈ JT) (hname : N.y.name = "<init>") (hret : N.ret = none) (hL : Cond.methodLink RL i2 N.y ∈ JT)
    (hrm : N.rm.cells = mc' ∧ N.rm.slots = ms' ∧ N.rm.frames + 1 ≤ 14 ∧ 8 + (N.nL + 11) + N.rm.locals ≤ 526) (hc1 : cells + 1 + mc' ≤ 601024) (hs1 : slots + n + ms' ≤ 7293034)
    (d1 : decode code pc = .ok (.new i1, 3)) (d2 : decode code (pc + 3) = .ok (.dup, 1)) (d3 : decode code (pc + 3 + 1) = .ok (.invokespecial i2, 3))
    (k : ∀ (q : Nat) (w : va_W) (H2 : Heap) (locs2 : List Loc), post' q w → va_P G.D vwCl (X ++ w) H2 → va_D (fun q => s.heap.size ≤ q) (X ++ w) → va_S (fun q => s.heap.size ≤ q) s.heap H2 locs2 → W p G.l e room_1 s m #[Value.ref b] below meth c H2 locs2 (cells + 1 + mc') (slots + n + ms') Q (F0 m (pc + 3 + 1 + 3) la [.ref q])) : W p G.l e room_1 s m #[Value.ref b] below meth c H locs cells slots Q (F0 m pc la []) := by
  have hA : ∀ q : Nat, s.heap.size ≤ q → (fun q : Nat => s.heap.size ≤ q) q := fun _ h => h
  refine va_new (D := G.D) (cl := vwCl) (tys := tysJ G.cT) (ci := ci) (fs := fs) (C := C) (T := T) (N := n) hx hb hjt hu ty hty hown w1 (hjt _ w2) (hjt _ w3) hK hP hD hS hA hC hfs (Nat.le_trans (by omega) hc1) (Nat.le_trans (by omega) hs1) d1 (fun q H1 hP1 hD1 hS1 => ?_)
  refine lv_dup hx hb d2 rfl ?_
  have hq : va_P G.D vwCl [(q, .inr (ci, fs))] H1 := P_right hP1
  have hAq : ∀ a, va_A [(q, .inr (ci, fs))] H1.size a → s.heap.size ≤ a := by
    intro a ha
    rcases ha with ⟨j, e', hj⟩ | h
    · have hj0 : j < 1 := (List.getElem?_eq_some_iff.mp hj).1
      have : j = 0 := by omega
      subst this
      cases hj
      exact hD1.2 X.length (q, .inr (ci, fs)) (by simp)
    · exact Nat.le_trans hS1.1 h
  have hcw : CallB room_1 s #[Value.ref b] RL i2 N.y N.cc N.nL none N.ws N.rm mc' ms' 0 ∧ N.y.name = "<init>" ∧ (Cond.instanceMethod N.y).before #[Value.ref b] s = true := ⟨callB_of 0 hjt (ws_good hB) (by show Cond.code N.y N.cc N.nL N.ret :: JT = _; rw [hret]) hrm.1 hrm.2.1 (hjt _ hB.1) (hjt _ hL) hB.2.2 hrm.2.2, hname, hjt _ hI⟩
  have hrun := va_runI (p := p) (l := G.l) (e := e) (below := below) (meth := meth) (locs := locs) (cells := cells + 1) (slots := slots + n) (rest := [.ref q]) (As := []) (g := F0 m (pc + 3 + 1) la [.ref q, .ref q]) (H := H1) ⟨hx, hb, hml, hown, hjt⟩ (hM q H1.size) hcw
    ⟨CPc_blind G q _ _, fun U hU hW => ⟨rfl, by rw [hU], by rw [hU]; exact hq, va_K.moved hW.alike hK, hN.next hW, hO.moved hW.alike⟩⟩ rfl rfl hl.1 rfl (lv_room (Nat.le_of_ble_eq_true rfl)) d3 ⟨hc1, hs1⟩
  refine K_vrun hrun hS1 hAq (fun w H2 locs2 hp hPw hDw hz hk2 hS2 => ?_)
  obtain ⟨hP2, hD2⟩ := K_append hP1 hD1 hk2 hAq hPw hDw
  exact k q w H2 locs2 hp hP2 hD2 hS2
end
set_option maxRecDepth 20000 in
set_option maxHeartbeats 4000000 in
theorem start_W (G0 : JG) {p : Program} {e : Env} {s : State} {m : MethodId} {below : List Frame} {meth : Method} {c : Code} {b L : Nat} {xs : Nat → Int32} (hfl : G0.l.flags = flags0) (hL : L ≤ 3072) (C0 : lw_At p s m meth c b L xs) (hK : va_K G0.D vwCl (tysJ G0.cT) s) (hR : ∀ i : Nat, i < 17 → vk_R RX9 (sIx i) (sTx i) (G0.aK i) s) (hSt : vk_S 17 sLen sByt G0.aK G0.aV (fun q => s.heap.size ≤ q) s s.heap) : W p G0.l e room_1 s m #[Value.ref b] below meth c s.heap [] 0 0 (lw_Z below #[Value.ref b] s) (entryFrame m ([Value.ref b] : List Value).toArray 7) := by
  obtain ⟨hx, hb, hr, hml, hown, hts, hX, hbl, hlocks, hgv⟩ := id C0
  have hjt : ∀ w ∈ JT, w.before #[Value.ref b] s = true := fun w hw => hts w (JT_sub hw)
  have hN := st_NX hts
  have hO : va_AO "PaintedOver$Works" s := va_AO.of (hts _ ln_ao)
  have hA : ∀ q : Nat, s.heap.size ≤ q → (fun q : Nat => s.heap.size ≤ q) q := fun _ h => h
  have hS : va_S (fun q : Nat => s.heap.size ≤ q) s.heap s.heap [] := va_S.rf
  have hP : va_P G0.D vwCl [] s.heap := fun k q h => by simp at h
  have hD : va_D (fun q : Nat => s.heap.size ≤ q) [] := ⟨fun i j p q h => by simp at h, fun k q h => by simp at h⟩
  have hl := lv_entry ([.ref b]) (n := 7) (Nat.le_of_ble_eq_true rfl)
  rw [lg_entry_eq]
  generalize (lg_sl ([.ref b]) ++ List.replicate (7 - (lg_sl ([.ref b])).length) Slot.unset).toArray = la at hl ⊢
  have hl : lv_has la 7 [(0, .ref b)] := hl
  refine L_new G0 (N := iX8_init) (i1 := 8) (i2 := 15) (ci := 7) (n := 11) (mc' := 89) (ms' := 24328) (C := RX8) (T := TX8) (fs := [.null, .int 0, .null, .null, .null, .null, .null, .int 0, .null, .null, .int 0]) (ty := tyX8) (post' := pX8 G0) hx hb hown hml hjt hK hN hO hl hP hD hS rfl ux_X8 tyX8_ok (fun j hj => by rcases j with _ | _ | _ | _ | _ | _ | _ | _ | _ | _ | _ | j <;> first | rfl | omega) (hts _ ln_127) wd_128 wd_105 (fun q => kX8 G0 q) mb_X8 ln_130 rfl rfl ln_129 ⟨rfl, rfl, Nat.le_of_ble_eq_true rfl, Nat.le_of_ble_eq_true rfl⟩ (Nat.le_of_ble_eq_true rfl) (Nat.le_of_ble_eq_true rfl) dL_law_0 dL_law_3 dL_law_4 (fun q8 w8 H1 locs1 hw8 hP hD hS => ?_)
  obtain ⟨ad, had, rfl⟩ := hw8
  have hP : va_P G0.D vwCl (WS 0 G0.cT ad hc0) H1 := hP
  have hD : va_D (fun q : Nat => s.heap.size ≤ q) (WS 0 G0.cT ad hc0) := hD
  refine lv_astore_n (lv' := [(1, .ref q8), (0, .ref b)]) hx hb dL_law_7 rfl hl (by decide) rfl (fun la hl => ?_)
  refine L_new G0 (N := iX9_init) (i1 := 16) (i2 := 18) (ci := 8) (n := 34) (mc' := 13) (ms' := 18290) (C := RX9) (T := TX9) (fs := [.int 0, .null, .int 0, .int 0, .int 0, .int 0, .int 0, .int 0, .int 0, .int 0, .int 0, .int 0, .null, .int 0, .int 0, .null, .null, .null, .null, .null, .null, .null, .int 0, .int 0, .int 0, .int 0, .int 0, .int 0, .null, .null, .int 0, .int 0, .null, .null]) (ty := tyX9) (post' := pX9 G0) hx hb hown hml hjt hK hN hO hl hP hD hS rfl ux_X9 tyX9_ok (fun j hj => by
    match j, hj with
    | 0, _ => rfl
    | 1, _ => rfl
    | 2, _ => rfl
    | 3, _ => rfl
    | 4, _ => rfl
    | 5, _ => rfl
    | 6, _ => rfl
    | 7, _ => rfl
    | 8, _ => rfl
    | 9, _ => rfl
    | 10, _ => rfl
    | 11, _ => rfl
    | 12, _ => rfl
    | 13, _ => rfl
    | 14, _ => rfl
    | 15, _ => rfl
    | 16, _ => rfl
    | 17, _ => rfl
    | 18, _ => rfl
    | 19, _ => rfl
    | 20, _ => rfl
    | 21, _ => rfl
    | 22, _ => rfl
    | 23, _ => rfl
    | 24, _ => rfl
    | 25, _ => rfl
    | 26, _ => rfl
    | 27, _ => rfl
    | 28, _ => rfl
    | 29, _ => rfl
    | 30, _ => rfl
    | 31, _ => rfl
    | 32, _ => rfl
    | 33, _ => rfl
    | j + 34, hj => exact absurd hj (by omega)) (hts _ ln_1218) wd_1219 wd_113 (fun q => kX9 G0 q) mb_X9 ln_1221 rfl rfl ln_1220 ⟨rfl, rfl, Nat.le_of_ble_eq_true rfl, Nat.le_of_ble_eq_true rfl⟩ (Nat.le_of_ble_eq_true rfl) (Nat.le_of_ble_eq_true rfl) dL_law_8 dL_law_11 dL_law_12 (fun q9 w9 H2 locs2 hw9 hP hD hS => ?_)
  obtain ⟨ad2, had2, rfl⟩ := hw9
  refine lv_astore_n (lv' := [(2, .ref q9), (1, .ref q8), (0, .ref b)]) hx hb dL_law_15 rfl hl (by decide) rfl (fun la hl => ?_)
  refine lv_iconst (v := 1) hx hb dL_law_16 (by decide) ?_
  refine va_newa (D := G0.D) (cl := vwCl) (tys := tysJ G0.cT) (atype := .long) (ty := .long) (N' := 1) (a0 := (1, .inr (.inl (fun _ => 0)))) hx hb (hjt _ wd_219) rfl hK hP hD hS hA (fun _ => rfl) (by decide) rfl (Nat.le_of_ble_eq_true rfl) (Nat.le_of_ble_eq_true rfl) (Nat.le_of_ble_eq_true rfl) dL_law_17 (fun ao cA H3 hK3 hP hD hS => ?_)
  have e1 := tys_one (t := 3) hK3 rfl
  subst e1
  refine lv_astore_n (lv' := [(3, .ref ao), (2, .ref q9), (1, .ref q8), (0, .ref b)]) hx hb dL_law_19 rfl hl (by decide) rfl (fun la hl => ?_)
  refine lv_iconst (v := 0) hx hb dL_law_20 (by decide) ?_
  refine lv_istore (lv' := [(4, .int 0), (3, .ref ao), (2, .ref q9), (1, .ref q8), (0, .ref b)]) hx hb dL_law_21 hl (by decide) rfl (fun la hl => ?_)
  rw [WS0_ad G0.cT ad ad2, WS1_ad G0.cT ad ad2] at hP hD
  have hap := LAp_of (G := (G0.l, G0.D, G0.cT, adJ ad ad2, G0.aK, G0.aV)) hD
  have e8 : adJ ad ad2 0 0 = q8 := had
  have e9 : adJ ad ad2 32 0 = q9 := had2
  rw [← e8, ← e9] at hl
  exact law_loop (G0.l, G0.D, G0.cT, adJ ad ad2, G0.aK, G0.aV) b L xs ao hL Rel sok (L + 1) 0 hc0 hm0 (fun _ => 0) _ _ rel0 (by omega) (by omega) (Nat.le_refl _) (Nat.le_refl _) p e s m below meth c H3 _ la C0 hfl hK ⟨hN, hR, hSt, st_XS hgv hts, st_ND hts, st_ZL hgv hts⟩ hap (P_left (P_left hP)) (P_right (P_left hP)) (P_right hP) hS (lv_sub hl [4, 3, 2, 1, 0] rfl)
/-- from the entry, for every script of at most 3072 ints, the law comes to its end with true -/
theorem whole_start {p : Program} {e : Env} {s : State} {m : MethodId} {below : List Frame} {meth : Method} {c : Code} (l : Launch) (hflags : l.flags = flags0) {b L : Nat} {xs : Nat → Int32} (hL : L ≤ 3072) (C0 : lw_At p s m meth c b L xs) : W p l e room_1 s m #[Value.ref b] below meth c s.heap [] 0 0 (lw_Z below #[Value.ref b] s) (entryFrame m ([Value.ref b] : List Value).toArray 7) := by
  obtain ⟨hx, hb, hr, hml, hown, hts, hX, hbl, hlocks, hgv⟩ := id C0
  obtain ⟨D, cT, hK⟩ := st_K hts
  obtain ⟨aK, aV, hR, hSt⟩ := st_S hgv hts
  exact start_W (l, D, cT, fun _ _ => 0, aK, aV) hflags hL C0 hK hR hSt
