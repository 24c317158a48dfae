theorem wd_116 : Cond.initialized RJ0 ∈ JT := JT_of (List.mem_of_getElem? (i := 116) (by decide +kernel)) (by decide +kernel)
theorem wd_117 : Cond.initialized RJ1 ∈ JT := JT_of (List.mem_of_getElem? (i := 117) (by decide +kernel)) (by decide +kernel)
theorem wd_118 : Cond.initialized RJ3 ∈ JT := JT_of (List.mem_of_getElem? (i := 118) (by decide +kernel)) (by decide +kernel)
theorem wd_1379 : Cond.instanceMethod yJ0_length_8abf5 ∈ JT := JT_of (List.mem_of_getElem? (i := 1379) (by decide +kernel)) (by decide +kernel)
theorem wd_1380 : Cond.selects RJ0 yJ0_length_8abf5 yJ0_length_8abf5 ∈ JT := JT_of (List.mem_of_getElem? (i := 1380) (by decide +kernel)) (by decide +kernel)
theorem wd_1381 : Cond.code yJ0_length_8abf5 cJ0_length_8abf5 1 (some .int) ∈ JT := JT_of (List.mem_of_getElem? (i := 1381) (by decide +kernel)) (by decide +kernel)
theorem wd_1382 : Cond.methodLink RJ0 335 yJ0_coder_7d493 ∈ JT := JT_of (List.mem_of_getElem? (i := 1382) (by decide +kernel)) (by decide +kernel)
theorem wd_1383 : Cond.instanceMethod yJ0_coder_7d493 ∈ JT := JT_of (List.mem_of_getElem? (i := 1383) (by decide +kernel)) (by decide +kernel)
theorem wd_1384 : Cond.selects RJ0 yJ0_coder_7d493 yJ0_coder_7d493 ∈ JT := JT_of (List.mem_of_getElem? (i := 1384) (by decide +kernel)) (by decide +kernel)
theorem wd_1385 : Cond.code yJ0_coder_7d493 cJ0_coder_7d493 1 (some .byte) ∈ JT := JT_of (List.mem_of_getElem? (i := 1385) (by decide +kernel)) (by decide +kernel)
theorem wd_1386 : Cond.fieldLink RJ0 38 "java/lang/String" "COMPACT_STRINGS" "Z" ∈ JT := JT_of (List.mem_of_getElem? (i := 1386) (by decide +kernel)) (by decide +kernel)
theorem wd_1389 : Cond.instanceMethod yJ0_charAt_5068e ∈ JT := JT_of (List.mem_of_getElem? (i := 1389) (by decide +kernel)) (by decide +kernel)
theorem wd_1390 : Cond.selects RJ0 yJ0_charAt_5068e yJ0_charAt_5068e ∈ JT := JT_of (List.mem_of_getElem? (i := 1390) (by decide +kernel)) (by decide +kernel)
theorem wd_1391 : Cond.code yJ0_charAt_5068e cJ0_charAt_5068e 2 (some .char) ∈ JT := JT_of (List.mem_of_getElem? (i := 1391) (by decide +kernel)) (by decide +kernel)
theorem wd_1392 : Cond.methodLink RJ0 492 yJ0_isLatin1_aae02 ∈ JT := JT_of (List.mem_of_getElem? (i := 1392) (by decide +kernel)) (by decide +kernel)
theorem wd_1393 : Cond.instanceMethod yJ0_isLatin1_aae02 ∈ JT := JT_of (List.mem_of_getElem? (i := 1393) (by decide +kernel)) (by decide +kernel)
theorem wd_1394 : Cond.selects RJ0 yJ0_isLatin1_aae02 yJ0_isLatin1_aae02 ∈ JT := JT_of (List.mem_of_getElem? (i := 1394) (by decide +kernel)) (by decide +kernel)
theorem wd_1395 : Cond.code yJ0_isLatin1_aae02 cJ0_isLatin1_aae02 1 (some .boolean) ∈ JT := JT_of (List.mem_of_getElem? (i := 1395) (by decide +kernel)) (by decide +kernel)
theorem wd_1396 : Cond.methodLink RJ0 495 yJ1_charAt_3b067 ∈ JT := JT_of (List.mem_of_getElem? (i := 1396) (by decide +kernel)) (by decide +kernel)
theorem wd_1397 : Cond.static yJ1_charAt_3b067 ∈ JT := JT_of (List.mem_of_getElem? (i := 1397) (by decide +kernel)) (by decide +kernel)
theorem wd_1398 : Cond.code yJ1_charAt_3b067 cJ1_charAt_3b067 2 (some .char) ∈ JT := JT_of (List.mem_of_getElem? (i := 1398) (by decide +kernel)) (by decide +kernel)
theorem wd_1399 : Cond.methodLink RJ1 9 yJ0_checkIndex_df160 ∈ JT := JT_of (List.mem_of_getElem? (i := 1399) (by decide +kernel)) (by decide +kernel)
theorem wd_1400 : Cond.static yJ0_checkIndex_df160 ∈ JT := JT_of (List.mem_of_getElem? (i := 1400) (by decide +kernel)) (by decide +kernel)
theorem wd_1401 : Cond.code yJ0_checkIndex_df160 cJ0_checkIndex_df160 2 none ∈ JT := JT_of (List.mem_of_getElem? (i := 1401) (by decide +kernel)) (by decide +kernel)
theorem wd_1402 : Cond.fieldLink RJ0 1053 "jdk/internal/util/Preconditions" "SIOOBE_FORMATTER" "Ljava/util/function/BiFunction;" ∈ JT := JT_of (List.mem_of_getElem? (i := 1402) (by decide +kernel)) (by decide +kernel)
theorem wd_1404 : Cond.methodLink RJ0 1059 yJ3_checkIndex_8e157 ∈ JT := JT_of (List.mem_of_getElem? (i := 1404) (by decide +kernel)) (by decide +kernel)
theorem wd_1405 : Cond.static yJ3_checkIndex_8e157 ∈ JT := JT_of (List.mem_of_getElem? (i := 1405) (by decide +kernel)) (by decide +kernel)
theorem wd_1406 : Cond.code yJ3_checkIndex_8e157 cJ3_checkIndex_8e157 3 (some .int) ∈ JT := JT_of (List.mem_of_getElem? (i := 1406) (by decide +kernel)) (by decide +kernel)
theorem wd_1879 : Cond.fieldLink RJ0 9 "java/lang/String" "value" "[B" ∈ JT := JT_of (List.mem_of_getElem? (i := 1879) (by decide +kernel)) (by decide +kernel)
theorem wd_1880 : Cond.fieldLink RJ0 15 "java/lang/String" "code\x72" "B" ∈ JT := JT_of (List.mem_of_getElem? (i := 1880) (by decide +kernel)) (by decide +kernel)
/-! ===== the String constants' own methods ===== -/
section Rules
variable {G : JG} {M : MI} {α : Type} {rv : α → Option Value × AH} {pc : Nat} {ls : List (Nat × Value)} {st : List Value} {h : AH} {o : Option α}
theorem XP1 {G : JG} {wd : Nat} {s : State} (h : XP G wd s) (hw : wd = 1) : vk_S 17 sLen sByt G.aK G.aV (AO wd G.ad) s s.heap ∧ XS (AO wd G.ad) s := by
  rcases h.2 with hY | hY
  · rw [hw] at hY; cases hY
  · exact hY.2
theorem E_gets1 {idx : Nat} (hw : M.wd = 1) (hL : Cond.fieldLink M.y.cls idx "java/lang/String" "COMPACT_STRINGS" "Z" ∈ JT) (hd : decode M.cc pc = .ok (.getstatic idx, 3)) (k : Sim G M rv (pc + 3) ls (.int 1 :: st) h o) : Sim G M rv pc ls st h o := by
  intro a ha p e s m args below meth c H locs la hx hb hr hts hown hml hk hI hK hX hP hS hl
  exact va_gets hx hb (XP1 hX hw).2.1 hS hown (hts _ hL) (fun _ z => z) hd (k a ha p e s m args below meth c H locs la hx hb hr hts hown hml hk hI hK hX hP hS hl)
theorem E_gets2 {idx : Nat} (hw : M.wd = 1) (hL : Cond.fieldLink M.y.cls idx "jdk/internal/util/Preconditions" "SIOOBE_FORMATTER" "Ljava/util/function/BiFunction;" ∈ JT) (hd : decode M.cc pc = .ok (.getstatic idx, 3)) (k : ∀ v, (v = Value.null ∨ ∃ a, v = Value.ref a) → Sim G M rv (pc + 3) ls (v :: st) h o) : Sim G M rv pc ls st h o := by
  intro a ha p e s m args below meth c H locs la hx hb hr hts hown hml hk hI hK hX hP hS hl
  obtain ⟨v, hv, hz⟩ := (XP1 hX hw).2.2
  exact va_gets hx hb hz hS hown (hts _ hL) (fun _ z => z) hd (k v hv a ha p e s m args below meth c H locs la hx hb hr hts hown hml hk hI hK hX hP hS hl)
theorem E_skV {idx t : Nat} (hw : M.wd = 1) (ht : t < 17) (hL : Cond.fieldLink M.y.cls idx "java/lang/String" "value" "[B" ∈ JT) (hd : decode M.cc pc = .ok (.getfield idx, 3)) (k : Sim G M rv (pc + 3) ls (.ref (G.aV t) :: st) h o) : Sim G M rv pc ls (.ref (G.aK t) :: st) h o := by
  intro a ha p e s m args below meth c H locs la hx hb hr hts hown hml hk hI hK hX hP hS hl
  exact vk_getf hx hb ((XP1 hX hw).1.1 t ht).2.2.1 hS hown (hts _ hL) (fun _ z => z) hd (k a ha p e s m args below meth c H locs la hx hb hr hts hown hml hk hI hK hX hP hS hl)
theorem E_skC {idx t : Nat} (hw : M.wd = 1) (ht : t < 17) (hL : Cond.fieldLink M.y.cls idx "java/lang/String" "code\x72" "B" ∈ JT) (hd : decode M.cc pc = .ok (.getfield idx, 3)) (k : Sim G M rv (pc + 3) ls (.int 0 :: st) h o) : Sim G M rv pc ls (.ref (G.aK t) :: st) h o := by
  intro a ha p e s m args below meth c H locs la hx hb hr hts hown hml hk hI hK hX hP hS hl
  exact vk_getf hx hb ((XP1 hX hw).1.1 t ht).2.1 hS hown (hts _ hL) (fun _ z => z) hd (k a ha p e s m args below meth c H locs la hx hb hr hts hown hml hk hI hK hX hP hS hl)
theorem E_tlen {t : Nat} (hw : M.wd = 1) (ht : t < 17) (hd : decode M.cc pc = .ok (.arraylength, 1)) (k : Sim G M rv (pc + 1) ls (.int (strlen t) :: st) h o) : Sim G M rv pc ls (.ref (G.aV t) :: st) h o := by
  intro a ha p e s m args below meth c H locs la hx hb hr hts hown hml hk hI hK hX hP hS hl
  exact va_tlen hx hb ((XP1 hX hw).1.1 t ht).2.2.2 hS rfl hd (k a ha p e s m args below meth c H locs la hx hb hr hts hown hml hk hI hK hX hP hS hl)
theorem E_tbald {t : Nat} {x : Int32} (hw : M.wd = 1) (ht : t < 17) (hz : inb x (sLen.getD t 0) = true) (hd : decode M.cc pc = .ok (.baload, 1)) (k : Sim G M rv (pc + 1) ls (.int (strat t x.toNatClampNeg) :: st) h o) : Sim G M rv pc ls (.int x :: .ref (G.aV t) :: st) h o := by
  intro a ha p e s m args below meth c H locs la hx hb hr hts hown hml hk hI hK hX hP hS hl
  exact va_tb hx hb ((XP1 hX hw).1.1 t ht).2.2.2 hS (inb_in hz) rfl hd (k a ha p e s m args below meth c H locs la hx hb hr hts hown hml hk hI hK hX hP hS hl)
theorem E_i2c {x : Int32} (hd : decode M.cc pc = .ok (.i2c, 1)) (k : Sim G M rv (pc + 1) ls (.int (x.toUInt32 % 65536).toInt32 :: st) h o) : Sim G M rv pc ls (.int x :: st) h o := by
  intro a ha p e s m args below meth c H locs la hx hb hr hts hown hml hk hI hK hX hP hS hl
  exact lv_i2c hx hb hd rfl (k a ha p e s m args below meth c H locs la hx hb hr hts hown hml hk hI hK hX hP hS hl)
theorem E_callK {N : MI} {t idx n : Nat} {As rest : List Value} {v : Int32}
    (hM : Mt G N (rvI h) (.ref (G.aK t) :: As) h (some v)) (hB : CK N n) (hL : Cond.methodLink M.y.cls idx N.y ∈ JT) (hR : RmOk N M) (hwd : N.wd = M.wd) (hw : M.wd = 1) (ht : t < 17) (hC : N.y.cls = "java/lang/String") (hn : As.length = n) (hst : st = As.reverse ++ .ref (G.aK t) :: rest) (hcat : (rest.map fun v => v.category).sum ≤ 8)
    (hd : decode M.cc pc = .ok (.invokevirtual idx, 3)) (kk : Sim G M rv (pc + 3) ls (.int v :: rest) h o) : Sim G M rv pc ls st h o := by
  intro a ha p e s m args below meth c H locs la hx hb hr hts hown hml hk hI hK hX hP hS hl
  have hM1 := hM v rfl (by rw [hwd]; exact hI)
  rw [hwd] at hM1
  have hcw : CallW M.rm s args M.y.cls N.y.cls idx N.y N.cc N.nL N.ret N.ws N.rm 0 0 n := ⟨callB_of n hts (ws_good hB.1) rfl hR.1 hR.2.1 (hts _ hB.1.1) (hts _ hL) hB.1.2.2 hR.2.2, hts _ hB.2.1, hts _ hB.2.2⟩
  have hrun := va_runV (p := p) (l := G.l) (e := e) (below := below) (meth := meth) (locs := locs) (cells := 0) (slots := 0) (rest := rest) (g := F0 m pc la st) (H := H) ⟨hx, hb, hml, hown, hts⟩ hM1 hcw
    ⟨PcM_blind G M.wd _ h, hC ▸ vk_recv (XP1 hX hw).1 ht hS, fun U hU hW => ⟨rfl, by rw [hU]; exact hP, va_K.moved hW.alike hK, hX.next hW hU hS⟩⟩ rfl hn hl.1 hst (lv_room hcat) hd ⟨Nat.zero_le _, Nat.zero_le _⟩
  exact jv_run hrun hS (fun H1 locs1 hP1 hS1 => kk a ha p e s m args below meth c H1 locs1 la hx hb hr hts hown hml hk hI hK hX hP1 hS1 hl)
end Rules
def iJ_coder : MI := (yJ0_coder_7d493, cJ0_coder_7d493, 1, (some .byte), { frames := 0, cells := 0, slots := 0, locals := 0 }, 1)
theorem ck_J0_coder : CK iJ_coder 0 := ⟨⟨wd_116, wd_1385, by decide +kernel⟩, ⟨wd_1383, wd_1384⟩⟩
def iJ_isLatin1 : MI := (yJ0_isLatin1_aae02, cJ0_isLatin1_aae02, 1, (some .boolean), { frames := 0, cells := 0, slots := 0, locals := 0 }, 1)
theorem ck_J0_isLatin1 : CK iJ_isLatin1 0 := ⟨⟨wd_116, wd_1395, by decide +kernel⟩, ⟨wd_1393, wd_1394⟩⟩
def iJ_length : MI := (yJ0_length_8abf5, cJ0_length_8abf5, 1, (some .int), { frames := 1, cells := 0, slots := 0, locals := 20 }, 1)
theorem ck_J0_length : CK iJ_length 0 := ⟨⟨wd_116, wd_1381, by decide +kernel⟩, ⟨wd_1379, wd_1380⟩⟩
def iJ_pcheck : MI := (yJ3_checkIndex_8e157, cJ3_checkIndex_8e157, 3, (some .int), { frames := 0, cells := 0, slots := 0, locals := 0 }, 1)
theorem ck_J3_pcheck : CS iJ_pcheck 3 := ⟨⟨wd_118, wd_1406, by decide +kernel⟩, wd_1405⟩
def iJ_check : MI := (yJ0_checkIndex_df160, cJ0_checkIndex_df160, 2, none, { frames := 1, cells := 0, slots := 0, locals := 22 }, 1)
theorem ck_J0_check : CS iJ_check 2 := ⟨⟨wd_116, wd_1401, by decide +kernel⟩, wd_1400⟩
def iJ_l1 : MI := (yJ1_charAt_3b067, cJ1_charAt_3b067, 2, (some .char), { frames := 2, cells := 0, slots := 0, locals := 43 }, 1)
theorem ck_J1_l1 : CS iJ_l1 2 := ⟨⟨wd_117, wd_1398, by decide +kernel⟩, wd_1397⟩
def iJ_charAt : MI := (yJ0_charAt_5068e, cJ0_charAt_5068e, 2, (some .char), { frames := 3, cells := 0, slots := 0, locals := 64 }, 1)
theorem ck_J0_charAt : CK iJ_charAt 1 := ⟨⟨wd_116, wd_1391, by decide +kernel⟩, ⟨wd_1389, wd_1390⟩⟩
theorem sJ_coder (G : JG) (h : AH) (t : Nat) (ht : t < 17) : Mt G iJ_coder (rvI h) [.ref (G.aK t)] h (some 0) := by
  refine Mt_of (by decide) (Nat.le_of_ble_eq_true rfl) ?_
  show Sim G iJ_coder (rvI h) 0 [(0, .ref (G.aK t))] [] h _
  refine E_gets1 rfl wd_1386 dJ0_coder_7d493_0 ?_
  show Sim G iJ_coder (rvI h) 3 [(0, .ref (G.aK t))] [.int 1] h (some 0)
  rw [show (some 0 : Option Int32) = (if (1 : Int32) = 0 then none else some 0) from rfl]
  refine E_if_eq (t := 13) dJ0_coder_7d493_3 rfl E_none ?_
  refine E_aload_n dJ0_coder_7d493_6 rfl 0 rfl ?_
  refine E_skC rfl ht wd_1880 dJ0_coder_7d493_7 ?_
  refine E_goto (t := 14) dJ0_coder_7d493_10 rfl ?_
  exact E_zret rfl rfl rfl dJ0_coder_7d493_14
theorem sJ_isLatin1 (G : JG) (h : AH) (t : Nat) (ht : t < 17) : Mt G iJ_isLatin1 (rvI h) [.ref (G.aK t)] h (some 1) := by
  refine Mt_of (by decide) (Nat.le_of_ble_eq_true rfl) ?_
  show Sim G iJ_isLatin1 (rvI h) 0 [(0, .ref (G.aK t))] [] h _
  refine E_gets1 rfl wd_1386 dJ0_isLatin1_aae02_0 ?_
  rw [show (some 1 : Option Int32) = (if (1 : Int32) = 0 then none else (if (0 : Int32) = 0 then some 1 else none)) from rfl]
  refine E_if_eq (t := 17) dJ0_isLatin1_aae02_3 rfl E_none ?_
  refine E_aload_n dJ0_isLatin1_aae02_6 rfl 0 rfl ?_
  refine E_skC rfl ht wd_1880 dJ0_isLatin1_aae02_7 ?_
  refine E_if_ne (t := 17) dJ0_isLatin1_aae02_10 rfl E_none ?_
  refine E_iconst (v := 1) dJ0_isLatin1_aae02_13 rfl ?_
  refine E_goto (t := 18) dJ0_isLatin1_aae02_14 rfl ?_
  exact E_zret rfl rfl rfl dJ0_isLatin1_aae02_18
theorem strlen_sh (t : Nat) : strlen t >>> ((0 : Int32) &&& 31) = strlen t := by
  have h : ∀ x : Int32, x >>> ((0 : Int32) &&& 31) = x := fun x => by
    rw [show ((0 : Int32) &&& 31) = 0 from by decide]
    exact Int32.toBitVec_inj.mp (by simp)
  exact h _
theorem sJ_length (G : JG) (h : AH) (t : Nat) (ht : t < 17) : Mt G iJ_length (rvI h) [.ref (G.aK t)] h (some (strlen t)) := by
  refine Mt_of (by decide) (Nat.le_of_ble_eq_true rfl) ?_
  show Sim G iJ_length (rvI h) 0 [(0, .ref (G.aK t))] [] h _
  refine E_aload_n dJ0_length_8abf5_0 rfl 0 rfl ?_
  refine E_skV rfl ht wd_1879 dJ0_length_8abf5_1 ?_
  refine E_tlen rfl ht dJ0_length_8abf5_4 ?_
  refine E_aload_n dJ0_length_8abf5_5 rfl 0 rfl ?_
  refine E_callK (As := []) (rest := [.int (strlen t)]) (sJ_coder G h t ht) ck_J0_coder wd_1382 (rmok rfl) rfl rfl ht rfl rfl rfl (le8 rfl) dJ0_length_8abf5_6 ?_
  refine E_ishr dJ0_length_8abf5_9 ?_
  rw [strlen_sh]
  exact E_iret rfl rfl dJ0_length_8abf5_10
theorem sJ_pcheck (G : JG) (h : AH) (x n : Int32) (v : Value) (hv : v = Value.null ∨ ∃ a, v = Value.ref a) (h0 : ¬ x < 0) (h1 : x < n) : Mt G iJ_pcheck (rvI h) [.int x, .int n, v] h (some x) := by
  have hc : v.category = 1 := by rcases hv with rfl | ⟨a, rfl⟩ <;> rfl
  refine Mt_of (by decide) (by rcases hv with rfl | ⟨a, rfl⟩ <;> exact Nat.le_of_ble_eq_true rfl) ?_
  refine E_sub (ls' := [(0, .int x), (1, .int n)]) [0, 1] rfl ?_
  rw [show (some x : Option Int32) = (if x < 0 then none else (if x < n then some x else none)) from by rw [if_neg h0, if_pos h1]]
  refine E_iload_n dJ3_checkIndex_8e157_0 rfl 0 rfl ?_
  refine E_if_lt (t := 9) dJ3_checkIndex_8e157_1 rfl E_none ?_
  refine E_iload_n dJ3_checkIndex_8e157_4 rfl 0 rfl ?_
  refine E_iload_n dJ3_checkIndex_8e157_5 rfl 1 rfl ?_
  refine E_icmp_lt (t := 16) dJ3_checkIndex_8e157_6 rfl ?_ E_none
  refine E_iload_n dJ3_checkIndex_8e157_16 rfl 0 rfl ?_
  exact E_iret rfl rfl dJ3_checkIndex_8e157_17
theorem sJ_check (G : JG) (h : AH) (x n : Int32) (h0 : ¬ x < 0) (h1 : x < n) : Mt G iJ_check rvV [.int x, .int n] h (some h) := by
  refine Mt_of (by decide) (Nat.le_of_ble_eq_true rfl) ?_
  show Sim G iJ_check rvV 0 [(0, .int x), (1, .int n)] [] h _
  refine E_iload_n dJ0_checkIndex_df160_0 rfl 0 rfl ?_
  refine E_iload_n dJ0_checkIndex_df160_1 rfl 1 rfl ?_
  refine E_gets2 rfl wd_1402 dJ0_checkIndex_df160_2 (fun v hv => ?_)
  rw [show (some h : Option AH) = (some x).bind (fun _ => some h) from rfl]
  refine E_cSI (As := [.int x, .int n, v]) (rest := []) (sJ_pcheck G h x n v hv h0 h1) ck_J3_pcheck wd_1404 rfl rfl rfl rfl rfl dJ0_checkIndex_df160_5 (fun r _ => ?_)
  refine E_pop dJ0_checkIndex_df160_8 rfl ?_
  exact E_vret rfl rfl dJ0_checkIndex_df160_9
theorem strat_c : ∀ t, t < 17 → ∀ k, k < sLen.getD t 0 → ((strat t k &&& 255).toUInt32 % 65536).toInt32 = strat t k ∧ narrow .char (.int (strat t k)) = .int (strat t k) := by decide +kernel
theorem inb_lt2 {x : Int32} {t : Nat} (ht : t < 17) (h : inb x (sLen.getD t 0) = true) : ¬ x < 0 ∧ x < strlen t ∧ x.toNatClampNeg < sLen.getD t 0 := by
  have h1 := inb_in h
  have hl : ∀ t, t < 17 → sLen.getD t 0 < 9 := by decide
  have h3 : x.toNatClampNeg < sLen.getD t 0 := Nat.not_le.mp fun q => h1 (Or.inr q)
  refine ⟨fun z => h1 (Or.inl z), ?_, h3⟩
  obtain ⟨j, hj, rfl⟩ := vp_in_of h1 (Nat.lt_trans (hl t ht) (by decide))
  exact nI_lt hj (Nat.lt_trans (hl t ht) (by decide))
theorem sJ_l1 (G : JG) (h : AH) (t : Nat) (ht : t < 17) (x : Int32) (hz : inb x (sLen.getD t 0) = true) : Mt G iJ_l1 (rvI h) [.ref (G.aV t), .int x] h (some (strat t x.toNatClampNeg)) := by
  obtain ⟨h0, h1, h2⟩ := inb_lt2 ht hz
  refine Mt_of (by decide) (Nat.le_of_ble_eq_true rfl) ?_
  show Sim G iJ_l1 (rvI h) 0 [(0, .ref (G.aV t)), (1, .int x)] [] h _
  refine E_iload_n dJ1_charAt_3b067_0 rfl 1 rfl ?_
  refine E_aload_n dJ1_charAt_3b067_1 rfl 0 rfl ?_
  refine E_tlen rfl ht dJ1_charAt_3b067_2 ?_
  rw [show some (strat t x.toNatClampNeg) = (some h).bind (fun _ => some (strat t x.toNatClampNeg)) from rfl]
  refine E_callS (As := [.int x, .int (strlen t)]) (rest := []) (sJ_check G h x (strlen t) h0 h1) ck_J0_check.1 ck_J0_check.2 wd_1399 (rmok rfl) rfl rfl rfl (le8 rfl) dJ1_charAt_3b067_3 (fun h' hh => ?_)
  cases hh
  show Sim G iJ_l1 (rvI h) 6 [(0, .ref (G.aV t)), (1, .int x)] [] h _
  refine E_aload_n dJ1_charAt_3b067_6 rfl 0 rfl ?_
  refine E_iload_n dJ1_charAt_3b067_7 rfl 1 rfl ?_
  refine E_tbald rfl ht hz dJ1_charAt_3b067_8 ?_
  refine E_sipush (v := 255) dJ1_charAt_3b067_9 rfl ?_
  refine E_iand dJ1_charAt_3b067_12 ?_
  refine E_i2c dJ1_charAt_3b067_13 ?_
  rw [(strat_c t ht _ h2).1]
  exact E_zret (ty := .char) rfl (strat_c t ht _ h2).2 rfl dJ1_charAt_3b067_14
theorem sJ_charAt (G : JG) (h : AH) (t : Nat) (ht : t < 17) (x : Int32) (hz : inb x (sLen.getD t 0) = true) : Mt G iJ_charAt (rvI h) [.ref (G.aK t), .int x] h (some (strat t x.toNatClampNeg)) := by
  obtain ⟨h0, h1, h2⟩ := inb_lt2 ht hz
  refine Mt_of (by decide) (Nat.le_of_ble_eq_true rfl) ?_
  show Sim G iJ_charAt (rvI h) 0 [(0, .ref (G.aK t)), (1, .int x)] [] h _
  refine E_aload_n dJ0_charAt_5068e_0 rfl 0 rfl ?_
  refine E_callK (As := []) (rest := []) (sJ_isLatin1 G h t ht) ck_J0_isLatin1 wd_1392 (rmok rfl) rfl rfl ht rfl rfl rfl (le8 rfl) dJ0_charAt_5068e_1 ?_
  rw [show some (strat t x.toNatClampNeg) = (if (1 : Int32) = 0 then none else (some (strat t x.toNatClampNeg)).bind (fun r => some r)) from rfl]
  refine E_if_eq (t := 16) dJ0_charAt_5068e_4 rfl E_none ?_
  refine E_aload_n dJ0_charAt_5068e_7 rfl 0 rfl ?_
  refine E_skV rfl ht wd_1879 dJ0_charAt_5068e_8 ?_
  refine E_iload_n dJ0_charAt_5068e_11 rfl 1 rfl ?_
  refine E_cSI (As := [.ref (G.aV t), .int x]) (rest := []) (sJ_l1 G h t ht x hz) ck_J1_l1 wd_1396 rfl rfl rfl rfl rfl dJ0_charAt_5068e_12 (fun r hr => ?_)
  cases hr
  exact E_zret (ty := .char) rfl (strat_c t ht _ h2).2 rfl dJ0_charAt_5068e_15
section Rules
variable {G : JG} {M : MI} {α : Type} {rv : α → Option Value × AH} {pc : Nat} {ls : List (Nat × Value)} {st : List Value} {h : AH} {o : Option α}
theorem E_strlen {t idx : Nat} (hw : 1 = M.wd) (ht : t < 17) (hL : Cond.methodLink M.y.cls idx yJ0_length_8abf5 ∈ JT) (hR : (rmb iJ_length M && (Nat.ble ((st.map fun v => v.category).sum) 8)) = true) (hd : decode M.cc pc = .ok (.invokevirtual idx, 3)) (k : Sim G M rv (pc + 3) ls (.int (strlen t) :: st) h o) : Sim G M rv pc ls (.ref (G.aK t) :: st) h o :=
  E_callK (As := []) (rest := st) (sJ_length G h t ht) ck_J0_length hL (rmok (Bool.and_eq_true_iff.mp hR).1) hw hw.symm ht rfl rfl rfl (le8 (Bool.and_eq_true_iff.mp hR).2) hd k
theorem E_charAt {t idx : Nat} {x : Int32} (hw : 1 = M.wd) (ht : t < 17) (hL : Cond.methodLink M.y.cls idx yJ0_charAt_5068e ∈ JT) (hR : (rmb iJ_charAt M && (Nat.ble ((st.map fun v => v.category).sum) 8)) = true) (hd : decode M.cc pc = .ok (.invokevirtual idx, 3)) (k : inb x (sLen.getD t 0) = true → Sim G M rv (pc + 3) ls (.int (strat t x.toNatClampNeg) :: st) h o) : Sim G M rv pc ls (.int x :: .ref (G.aK t) :: st) h (if inb x (sLen.getD t 0) = true then o else none) := by
  intro a ha
  by_cases hz : inb x (sLen.getD t 0) = true
  · rw [if_pos hz] at ha
    exact E_callK (As := [.int x]) (rest := st) (sJ_charAt G h t ht x hz) ck_J0_charAt hL (rmok (Bool.and_eq_true_iff.mp hR).1) hw hw.symm ht rfl rfl rfl (le8 (Bool.and_eq_true_iff.mp hR).2) hd (k hz) a ha
  · rw [if_neg hz] at ha; cases ha
end Rules
