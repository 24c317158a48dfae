/-! ===== the class, 0 ===== -/
def iJ_bitCount : MI := (yJ6_bitCount_0f7a4, cJ6_bitCount_0f7a4, 1, (some .int), { frames := 0, cells := 0, slots := 0, locals := 0 }, 0)
theorem ck_J6_bitCount_0f7a4 : CS iJ_bitCount 1 := ⟨⟨wd_120, wd_792, by decide +kernel⟩, wd_791⟩
def jJ_bitCount (v0 : Int32) : Option (Int32) :=
  jb ((v0 - (((v0.toUInt32 >>> ((1 : Int32).toUInt32 &&& 31)).toInt32) &&& 1431655765)) : Int32) fun y1 =>
  jb (((y1 &&& 858993459) + (((y1.toUInt32 >>> ((2 : Int32).toUInt32 &&& 31)).toInt32) &&& 858993459)) : Int32) fun y2 =>
  jb (((y2 + ((y2.toUInt32 >>> ((4 : Int32).toUInt32 &&& 31)).toInt32)) &&& 252645135) : Int32) fun y3 =>
  jb ((y3 + ((y3.toUInt32 >>> ((8 : Int32).toUInt32 &&& 31)).toInt32)) : Int32) fun y4 =>
  jb ((y4 + ((y4.toUInt32 >>> ((16 : Int32).toUInt32 &&& 31)).toInt32)) : Int32) fun y5 =>
  some (y5 &&& 63)
set_option maxRecDepth 20000 in
set_option maxHeartbeats 2000000 in
theorem sJ_bitCount (G : JG) (h : AH) (v0 : Int32) : Mt G iJ_bitCount (rvI h) [.int v0] h (jJ_bitCount v0) := by
  refine Mt_of (by decide) (Nat.le_of_ble_eq_true rfl) ?_
  unfold jJ_bitCount
  show Sim G iJ_bitCount (rvI h) 0 [(0, .int v0)] [] h _
  refine E_iload_n dJ6_bitCount_0f7a4_0 rfl 0 rfl ?_
  refine E_iload_n dJ6_bitCount_0f7a4_1 rfl 0 rfl ?_
  refine E_iconst (v := 1) dJ6_bitCount_0f7a4_2 rfl ?_
  refine E_iushr' dJ6_bitCount_0f7a4_3 ?_
  refine E_ldcw dJ6_bitCount_0f7a4_4 cn_J6_265 ?_
  refine E_iand dJ6_bitCount_0f7a4_7 ?_
  refine E_isub dJ6_bitCount_0f7a4_8 ?_
  refine E_topi (fun y1 => ?_)
  refine E_istore_n (ls' := [(0, .int y1)]) dJ6_bitCount_0f7a4_9 rfl (Nat.le_of_ble_eq_true rfl) rfl ?_
  refine E_iload_n dJ6_bitCount_0f7a4_10 rfl 0 rfl ?_
  refine E_ldcw dJ6_bitCount_0f7a4_11 cn_J6_266 ?_
  refine E_iand dJ6_bitCount_0f7a4_14 ?_
  refine E_iload_n dJ6_bitCount_0f7a4_15 rfl 0 rfl ?_
  refine E_iconst (v := 2) dJ6_bitCount_0f7a4_16 rfl ?_
  refine E_iushr' dJ6_bitCount_0f7a4_17 ?_
  refine E_ldcw dJ6_bitCount_0f7a4_18 cn_J6_266 ?_
  refine E_iand dJ6_bitCount_0f7a4_21 ?_
  refine E_iadd dJ6_bitCount_0f7a4_22 ?_
  refine E_topi (fun y2 => ?_)
  refine E_istore_n (ls' := [(0, .int y2)]) dJ6_bitCount_0f7a4_23 rfl (Nat.le_of_ble_eq_true rfl) rfl ?_
  refine E_iload_n dJ6_bitCount_0f7a4_24 rfl 0 rfl ?_
  refine E_iload_n dJ6_bitCount_0f7a4_25 rfl 0 rfl ?_
  refine E_iconst (v := 4) dJ6_bitCount_0f7a4_26 rfl ?_
  refine E_iushr' dJ6_bitCount_0f7a4_27 ?_
  refine E_iadd dJ6_bitCount_0f7a4_28 ?_
  refine E_ldcw dJ6_bitCount_0f7a4_29 cn_J6_267 ?_
  refine E_iand dJ6_bitCount_0f7a4_32 ?_
  refine E_topi (fun y3 => ?_)
  refine E_istore_n (ls' := [(0, .int y3)]) dJ6_bitCount_0f7a4_33 rfl (Nat.le_of_ble_eq_true rfl) rfl ?_
  refine E_iload_n dJ6_bitCount_0f7a4_34 rfl 0 rfl ?_
  refine E_iload_n dJ6_bitCount_0f7a4_35 rfl 0 rfl ?_
  refine E_bipush (v := 8) dJ6_bitCount_0f7a4_36 rfl ?_
  refine E_iushr' dJ6_bitCount_0f7a4_38 ?_
  refine E_iadd dJ6_bitCount_0f7a4_39 ?_
  refine E_topi (fun y4 => ?_)
  refine E_istore_n (ls' := [(0, .int y4)]) dJ6_bitCount_0f7a4_40 rfl (Nat.le_of_ble_eq_true rfl) rfl ?_
  refine E_iload_n dJ6_bitCount_0f7a4_41 rfl 0 rfl ?_
  refine E_iload_n dJ6_bitCount_0f7a4_42 rfl 0 rfl ?_
  refine E_bipush (v := 16) dJ6_bitCount_0f7a4_43 rfl ?_
  refine E_iushr' dJ6_bitCount_0f7a4_45 ?_
  refine E_iadd dJ6_bitCount_0f7a4_46 ?_
  refine E_topi (fun y5 => ?_)
  refine E_istore_n (ls' := [(0, .int y5)]) dJ6_bitCount_0f7a4_47 rfl (Nat.le_of_ble_eq_true rfl) rfl ?_
  refine E_iload_n dJ6_bitCount_0f7a4_48 rfl 0 rfl ?_
  refine E_bipush (v := 63) dJ6_bitCount_0f7a4_49 rfl ?_
  refine E_iand dJ6_bitCount_0f7a4_51 ?_
  exact E_iret rfl rfl dJ6_bitCount_0f7a4_52
def iJ_fill : MI := (yJ7_fill_53178, cJ7_fill_53178, 4, none, { frames := 0, cells := 0, slots := 0, locals := 0 }, 0)
theorem ck_J7_fill_53178 : CS iJ_fill 2 := ⟨⟨wd_115, wd_465, by decide +kernel⟩, wd_464⟩
def jJ_fill_5 (b : Nat) (v1 : Int32) : Nat → Int32 → Int32 → AH → Option (AH)
  | 0, _, _, _ => none
  | n + 1, v2, v3, h =>
    if v2 < v3 then (if inb v2 24 = true then (
    jb (uI h 12 b v2.toNatClampNeg v1) fun h1 =>
    (jJ_fill_5 b v1 n (v2 + 1) v3 h1)) else none)
    else (some h)
set_option maxRecDepth 20000 in
set_option maxHeartbeats 2000000 in
theorem sJ_fill_5 (G : JG) (b : Nat) (hb : b < nIn 0 12) (v1 : Int32)  : ∀ (n : Nat) (v2 : Int32) (v3 : Int32) (h : AH), Sim G iJ_fill rvV 5 [(0, .ref (G.ad 12 b)), (1, .int v1), (2, .int v2), (3, .int v3)] [] h (jJ_fill_5 b v1 n v2 v3 h) := by
  intro n
  induction n with
  | zero => intro v2 v3 h; exact E_none
  | succ n ih =>
    intro v2 v3 h
    rw [jJ_fill_5]
    refine E_iload_n dJ7_fill_53178_5 rfl 2 rfl ?_
    refine E_iload_n dJ7_fill_53178_6 rfl 3 rfl ?_
    refine E_icmp_ge (t := 20) dJ7_fill_53178_7 rfl ?_ ?_
    · exact E_vret rfl rfl dJ7_fill_53178_20
    · refine E_aload_n dJ7_fill_53178_10 rfl 0 rfl ?_
      refine E_iload_n dJ7_fill_53178_11 rfl 2 rfl ?_
      refine E_iload_n dJ7_fill_53178_12 rfl 1 rfl ?_
      refine E_iast (n := 24) rfl dJ7_fill_53178_13 hb (fun _ => ?_)
      refine E_hgen (fun h1 => ?_)
      refine E_iinc (q := 2) (v := (v2 + 1)) (ls' := [(2, .int (v2 + 1)), (0, .ref (G.ad 12 b)), (1, .int v1), (3, .int v3)]) dJ7_fill_53178_14 rfl rfl (Nat.le_of_ble_eq_true rfl) rfl ?_
      refine E_goto (t := 5) dJ7_fill_53178_17 rfl ?_
      exact E_sub [1, 2, 0, 3] rfl (ih (v2 + 1) v3 h1)
def jJ_fill (h : AH) (b : Nat) (v1 : Int32) : Option (AH) :=
  (jJ_fill_5 b v1 FU 0 24 h)
set_option maxRecDepth 20000 in
set_option maxHeartbeats 2000000 in
theorem sJ_fill (G : JG) (h : AH) (b : Nat) (hb : b < nIn 0 12) (v1 : Int32) : Mt G iJ_fill rvV [.ref (G.ad 12 b), .int v1] h (jJ_fill h b v1) := by
  refine Mt_of (by decide) (Nat.le_of_ble_eq_true rfl) ?_
  unfold jJ_fill
  show Sim G iJ_fill rvV 0 [(0, .ref (G.ad 12 b)), (1, .int v1)] [] h _
  refine E_iconst (v := 0) dJ7_fill_53178_0 rfl ?_
  refine E_istore_n (ls' := [(2, .int 0), (0, .ref (G.ad 12 b)), (1, .int v1)]) dJ7_fill_53178_1 rfl (Nat.le_of_ble_eq_true rfl) rfl ?_
  refine E_aload_n dJ7_fill_53178_2 rfl 1 rfl ?_
  refine E_alen0 (n := 24) (v := 24) rfl rfl dJ7_fill_53178_3 hb ?_
  refine E_istore_n (ls' := [(3, .int 24), (2, .int 0), (0, .ref (G.ad 12 b)), (1, .int v1)]) dJ7_fill_53178_4 rfl (Nat.le_of_ble_eq_true rfl) rfl ?_
  exact E_sub [2, 3, 1, 0] rfl (sJ_fill_5 G b hb v1 FU 0 24 h)
def iB_addColour : MI := (yX0_addColour, cX0_addColour, 6, none, { frames := 0, cells := 0, slots := 0, locals := 0 }, 0)
theorem ck_X0_addColour : CK iB_addColour 4 := ⟨⟨wd_107, wd_546, by decide +kernel⟩, ⟨wd_544, wd_545⟩⟩
def jB_addColour (h : AH) (b : Nat) (v1 : Int64) (v3 : Int32) (v4 : Int32) (v5 : Int32) : Option (AH) :=
  if (gI h 3 b 4) < 5 then (if inb (gI h 3 b 4) 5 = true then (
  jb (uL h 4 b (gI h 3 b 4).toNatClampNeg v1) fun h1 =>
  if inb (gI h1 3 b 4) 5 = true then (
  jb (uI h1 5 b (gI h1 3 b 4).toNatClampNeg v3) fun h2 =>
  if inb (gI h2 3 b 4) 5 = true then (
  jb (uI h2 6 b (gI h2 3 b 4).toNatClampNeg v4) fun h3 =>
  if inb (gI h3 3 b 4) 5 = true then (
  jb (uI h3 7 b (gI h3 3 b 4).toNatClampNeg v5) fun h4 =>
  jb (uI h4 3 b 4 ((gI h4 3 b 4) + 1)) fun h5 =>
  some h5) else none) else none) else none) else none)
  else (some h)
set_option maxRecDepth 20000 in
set_option maxHeartbeats 2000000 in
theorem sB_addColour (G : JG) (h : AH) (b : Nat) (hb : b < nIn 0 3) (v1 : Int64) (v3 : Int32) (v4 : Int32) (v5 : Int32) : Mt G iB_addColour rvV [.ref (G.ad 3 b), .long v1, .int v3, .int v4, .int v5] h (jB_addColour h b v1 v3 v4 v5) := by
  refine Mt_of (by decide) (Nat.le_of_ble_eq_true rfl) ?_
  unfold jB_addColour
  show Sim G iB_addColour rvV 0 [(0, .ref (G.ad 3 b)), (1, .long v1), (3, .int v3), (4, .int v4), (5, .int v5)] [] h _
  refine E_aload_n dX0_addColour_0 rfl 0 rfl ?_
  refine E_getI fl_X0_53 dX0_addColour_1 hb ?_
  refine E_iconst (v := 5) dX0_addColour_4 rfl ?_
  refine E_icmp_ge (t := 60) dX0_addColour_5 rfl ?_ ?_
  · exact E_vret rfl rfl dX0_addColour_60
  · refine E_aload_n dX0_addColour_8 rfl 0 rfl ?_
    refine E_getS fl_X0_9 dX0_addColour_9 hb ?_
    refine E_aload_n dX0_addColour_12 rfl 0 rfl ?_
    refine E_getI fl_X0_53 dX0_addColour_13 hb ?_
    refine E_lload_n dX0_addColour_16 rfl 1 rfl ?_
    refine E_last (n := 5) rfl dX0_addColour_17 hb (fun _ => ?_)
    refine E_hgen (fun h1 => ?_)
    refine E_aload_n dX0_addColour_18 rfl 0 rfl ?_
    refine E_getS fl_X0_15 dX0_addColour_19 hb ?_
    refine E_aload_n dX0_addColour_22 rfl 0 rfl ?_
    refine E_getI fl_X0_53 dX0_addColour_23 hb ?_
    refine E_iload_n dX0_addColour_26 rfl 2 rfl ?_
    refine E_iast (n := 5) rfl dX0_addColour_27 hb (fun _ => ?_)
    refine E_hgen (fun h2 => ?_)
    refine E_aload_n dX0_addColour_28 rfl 0 rfl ?_
    refine E_getS fl_X0_19 dX0_addColour_29 hb ?_
    refine E_aload_n dX0_addColour_32 rfl 0 rfl ?_
    refine E_getI fl_X0_53 dX0_addColour_33 hb ?_
    refine E_iload dX0_addColour_36 3 rfl ?_
    refine E_iast (n := 5) rfl dX0_addColour_38 hb (fun _ => ?_)
    refine E_hgen (fun h3 => ?_)
    refine E_aload_n dX0_addColour_39 rfl 0 rfl ?_
    refine E_getS fl_X0_22 dX0_addColour_40 hb ?_
    refine E_aload_n dX0_addColour_43 rfl 0 rfl ?_
    refine E_getI fl_X0_53 dX0_addColour_44 hb ?_
    refine E_iload dX0_addColour_47 4 rfl ?_
    refine E_iast (n := 5) rfl dX0_addColour_49 hb (fun _ => ?_)
    refine E_hgen (fun h4 => ?_)
    refine E_aload_n dX0_addColour_50 rfl 0 rfl ?_
    refine E_dup dX0_addColour_51 rfl ?_
    refine E_getI fl_X0_53 dX0_addColour_52 hb ?_
    refine E_iconst (v := 1) dX0_addColour_55 rfl ?_
    refine E_iadd dX0_addColour_56 ?_
    refine E_putI fs_X0_53 dX0_addColour_57 hb ?_
    refine E_hgen (fun h5 => ?_)
    exact E_vret rfl rfl dX0_addColour_60
def iB_addContract : MI := (yX0_addContract, cX0_addContract, 4, none, { frames := 0, cells := 0, slots := 0, locals := 0 }, 0)
theorem ck_X0_addContract : CK iB_addContract 3 := ⟨⟨wd_107, wd_624, by decide +kernel⟩, ⟨wd_622, wd_623⟩⟩
def jB_addContract (h : AH) (b : Nat) (v1 : Int32) (v2 : Int32) (v3 : Int32) : Option (AH) :=
  if (gI h 3 b 6) < 4 then (if inb (gI h 3 b 6) 4 = true then (
  jb (uI h 9 b (gI h 3 b 6).toNatClampNeg v1) fun h1 =>
  if inb (gI h1 3 b 6) 4 = true then (
  jb (uI h1 10 b (gI h1 3 b 6).toNatClampNeg v2) fun h2 =>
  if inb (gI h2 3 b 6) 4 = true then (
  jb (uI h2 11 b (gI h2 3 b 6).toNatClampNeg v3) fun h3 =>
  jb (uI h3 3 b 6 ((gI h3 3 b 6) + 1)) fun h4 =>
  some h4) else none) else none) else none)
  else (some h)
set_option maxRecDepth 20000 in
set_option maxHeartbeats 2000000 in
theorem sB_addContract (G : JG) (h : AH) (b : Nat) (hb : b < nIn 0 3) (v1 : Int32) (v2 : Int32) (v3 : Int32) : Mt G iB_addContract rvV [.ref (G.ad 3 b), .int v1, .int v2, .int v3] h (jB_addContract h b v1 v2 v3) := by
  refine Mt_of (by decide) (Nat.le_of_ble_eq_true rfl) ?_
  unfold jB_addContract
  show Sim G iB_addContract rvV 0 [(0, .ref (G.ad 3 b)), (1, .int v1), (2, .int v2), (3, .int v3)] [] h _
  refine E_aload_n dX0_addContract_0 rfl 0 rfl ?_
  refine E_getI fl_X0_59 dX0_addContract_1 hb ?_
  refine E_iconst (v := 4) dX0_addContract_4 rfl ?_
  refine E_icmp_ge (t := 48) dX0_addContract_5 rfl ?_ ?_
  · exact E_vret rfl rfl dX0_addContract_48
  · refine E_aload_n dX0_addContract_8 rfl 0 rfl ?_
    refine E_getS fl_X0_28 dX0_addContract_9 hb ?_
    refine E_aload_n dX0_addContract_12 rfl 0 rfl ?_
    refine E_getI fl_X0_59 dX0_addContract_13 hb ?_
    refine E_iload_n dX0_addContract_16 rfl 1 rfl ?_
    refine E_iast (n := 4) rfl dX0_addContract_17 hb (fun _ => ?_)
    refine E_hgen (fun h1 => ?_)
    refine E_aload_n dX0_addContract_18 rfl 0 rfl ?_
    refine E_getS fl_X0_31 dX0_addContract_19 hb ?_
    refine E_aload_n dX0_addContract_22 rfl 0 rfl ?_
    refine E_getI fl_X0_59 dX0_addContract_23 hb ?_
    refine E_iload_n dX0_addContract_26 rfl 2 rfl ?_
    refine E_iast (n := 4) rfl dX0_addContract_27 hb (fun _ => ?_)
    refine E_hgen (fun h2 => ?_)
    refine E_aload_n dX0_addContract_28 rfl 0 rfl ?_
    refine E_getS fl_X0_34 dX0_addContract_29 hb ?_
    refine E_aload_n dX0_addContract_32 rfl 0 rfl ?_
    refine E_getI fl_X0_59 dX0_addContract_33 hb ?_
    refine E_iload_n dX0_addContract_36 rfl 3 rfl ?_
    refine E_iast (n := 4) rfl dX0_addContract_37 hb (fun _ => ?_)
    refine E_hgen (fun h3 => ?_)
    refine E_aload_n dX0_addContract_38 rfl 0 rfl ?_
    refine E_dup dX0_addContract_39 rfl ?_
    refine E_getI fl_X0_59 dX0_addContract_40 hb ?_
    refine E_iconst (v := 1) dX0_addContract_43 rfl ?_
    refine E_iadd dX0_addContract_44 ?_
    refine E_putI fs_X0_59 dX0_addContract_45 hb ?_
    refine E_hgen (fun h4 => ?_)
    exact E_vret rfl rfl dX0_addContract_48
def iB_addHand : MI := (yX0_addHand, cX0_addHand, 3, none, { frames := 0, cells := 0, slots := 0, locals := 0 }, 0)
theorem ck_X0_addHand : CK iB_addHand 1 := ⟨⟨wd_107, wd_555, by decide +kernel⟩, ⟨wd_553, wd_554⟩⟩
def jB_addHand (h : AH) (b : Nat) (v1 : Int64) : Option (AH) :=
  if (gI h 3 b 5) < 5 then (if inb (gI h 3 b 5) 5 = true then (
  jb (uL h 8 b (gI h 3 b 5).toNatClampNeg v1) fun h1 =>
  jb (uI h1 3 b 5 ((gI h1 3 b 5) + 1)) fun h2 =>
  some h2) else none)
  else (some h)
set_option maxRecDepth 20000 in
set_option maxHeartbeats 2000000 in
theorem sB_addHand (G : JG) (h : AH) (b : Nat) (hb : b < nIn 0 3) (v1 : Int64) : Mt G iB_addHand rvV [.ref (G.ad 3 b), .long v1] h (jB_addHand h b v1) := by
  refine Mt_of (by decide) (Nat.le_of_ble_eq_true rfl) ?_
  unfold jB_addHand
  show Sim G iB_addHand rvV 0 [(0, .ref (G.ad 3 b)), (1, .long v1)] [] h _
  refine E_aload_n dX0_addHand_0 rfl 0 rfl ?_
  refine E_getI fl_X0_56 dX0_addHand_1 hb ?_
  refine E_iconst (v := 5) dX0_addHand_4 rfl ?_
  refine E_icmp_ge (t := 28) dX0_addHand_5 rfl ?_ ?_
  · exact E_vret rfl rfl dX0_addHand_28
  · refine E_aload_n dX0_addHand_8 rfl 0 rfl ?_
    refine E_getS fl_X0_25 dX0_addHand_9 hb ?_
    refine E_aload_n dX0_addHand_12 rfl 0 rfl ?_
    refine E_getI fl_X0_56 dX0_addHand_13 hb ?_
    refine E_lload_n dX0_addHand_16 rfl 1 rfl ?_
    refine E_last (n := 5) rfl dX0_addHand_17 hb (fun _ => ?_)
    refine E_hgen (fun h1 => ?_)
    refine E_aload_n dX0_addHand_18 rfl 0 rfl ?_
    refine E_dup dX0_addHand_19 rfl ?_
    refine E_getI fl_X0_56 dX0_addHand_20 hb ?_
    refine E_iconst (v := 1) dX0_addHand_23 rfl ?_
    refine E_iadd dX0_addHand_24 ?_
    refine E_putI fs_X0_56 dX0_addHand_25 hb ?_
    refine E_hgen (fun h2 => ?_)
    exact E_vret rfl rfl dX0_addHand_28
def iB_cells : MI := (yX0_cells, cX0_cells, 1, (some .int), { frames := 0, cells := 0, slots := 0, locals := 0 }, 0)
theorem ck_X0_cells : CK iB_cells 0 := ⟨⟨wd_107, wd_509, by decide +kernel⟩, ⟨wd_507, wd_508⟩⟩
def jB_cells (h : AH) (b : Nat) : Option (Int32) :=
  some ((gI h 3 b 0) * (gI h 3 b 1))
set_option maxRecDepth 20000 in
set_option maxHeartbeats 2000000 in
theorem sB_cells (G : JG) (h : AH) (b : Nat) (hb : b < nIn 0 3) : Mt G iB_cells (rvI h) [.ref (G.ad 3 b)] h (jB_cells h b) := by
  refine Mt_of (by decide) (Nat.le_of_ble_eq_true rfl) ?_
  unfold jB_cells
  show Sim G iB_cells (rvI h) 0 [(0, .ref (G.ad 3 b))] [] h _
  refine E_aload_n dX0_cells_0 rfl 0 rfl ?_
  refine E_getI fl_X0_40 dX0_cells_1 hb ?_
  refine E_aload_n dX0_cells_4 rfl 0 rfl ?_
  refine E_getI fl_X0_44 dX0_cells_5 hb ?_
  refine E_imul dX0_cells_8 ?_
  exact E_iret rfl rfl dX0_cells_9
def iB_allCells : MI := (yX0_allCells, cX0_allCells, 1, (some .int), { frames := 1, cells := 0, slots := 0, locals := 20 }, 0)
theorem ck_X0_allCells : CK iB_allCells 0 := ⟨⟨wd_107, wd_799, by decide +kernel⟩, ⟨wd_797, wd_798⟩⟩
def jB_allCells (h : AH) (b : Nat) : Option (Int32) :=
  (jB_cells h b).bind fun r1 =>
  some (((1 : Int32) <<< (r1 &&& 31)) - 1)
set_option maxRecDepth 20000 in
set_option maxHeartbeats 2000000 in
theorem sB_allCells (G : JG) (h : AH) (b : Nat) (hb : b < nIn 0 3) : Mt G iB_allCells (rvI h) [.ref (G.ad 3 b)] h (jB_allCells h b) := by
  refine Mt_of (by decide) (Nat.le_of_ble_eq_true rfl) ?_
  unfold jB_allCells
  show Sim G iB_allCells (rvI h) 0 [(0, .ref (G.ad 3 b))] [] h _
  refine E_iconst (v := 1) dX0_allCells_0 rfl ?_
  refine E_aload_n dX0_allCells_1 rfl 0 rfl ?_
  refine E_cVI (As := []) (rest := [.int 1]) (sB_cells G h b hb) ck_X0_cells lk_X0_72 rfl rfl kc_3 hb rfl rfl rfl dX0_allCells_2 (fun r1 _ => ?_)
  refine E_ishl dX0_allCells_5 ?_
  refine E_iconst (v := 1) dX0_allCells_6 rfl ?_
  refine E_isub dX0_allCells_7 ?_
  exact E_iret rfl rfl dX0_allCells_8
def iB_besides : MI := (yX0_besides, cX0_besides, 4, (some .int), { frames := 0, cells := 0, slots := 0, locals := 0 }, 0)
theorem ck_X0_besides : CK iB_besides 1 := ⟨⟨wd_107, wd_812, by decide +kernel⟩, ⟨wd_811, wd_26⟩⟩
def jB_besides_29 (h : AH) (b : Nat) (v1 : Int32) (v2 : Int32) : Option (Int32) :=
  jb ((((v1 <<< ((1 : Int32) &&& 31)) &&& (v2 ^^^ (-1))) ||| ((v1 &&& (v2 ^^^ (-1))) >>> ((1 : Int32) &&& 31))) : Int32) fun y1 =>
  some ((y1 ||| (v1 <<< ((gI h 3 b 0) &&& 31))) ||| (v1 >>> ((gI h 3 b 0) &&& 31)))
set_option maxRecDepth 20000 in
set_option maxHeartbeats 2000000 in
theorem sB_besides_29 (G : JG) (h : AH) (b : Nat) (hb : b < nIn 0 3) (v1 : Int32)  (v2 : Int32) : Sim G iB_besides (rvI h) 29 [(0, .ref (G.ad 3 b)), (1, .int v1), (2, .int v2)] [] h (jB_besides_29 h b v1 v2) := by
  unfold jB_besides_29
  refine E_iload_n dX0_besides_29 rfl 1 rfl ?_
  refine E_iconst (v := 1) dX0_besides_30 rfl ?_
  refine E_ishl dX0_besides_31 ?_
  refine E_iload_n dX0_besides_32 rfl 2 rfl ?_
  refine E_iconst (v := (-1)) dX0_besides_33 rfl ?_
  refine E_ixor dX0_besides_34 ?_
  refine E_iand dX0_besides_35 ?_
  refine E_iload_n dX0_besides_36 rfl 1 rfl ?_
  refine E_iload_n dX0_besides_37 rfl 2 rfl ?_
  refine E_iconst (v := (-1)) dX0_besides_38 rfl ?_
  refine E_ixor dX0_besides_39 ?_
  refine E_iand dX0_besides_40 ?_
  refine E_iconst (v := 1) dX0_besides_41 rfl ?_
  refine E_ishr dX0_besides_42 ?_
  refine E_ior dX0_besides_43 ?_
  refine E_topi (fun y1 => ?_)
  refine E_istore_n (ls' := [(3, .int y1), (0, .ref (G.ad 3 b)), (1, .int v1), (2, .int v2)]) dX0_besides_44 rfl (Nat.le_of_ble_eq_true rfl) rfl ?_
  refine E_iload_n dX0_besides_45 rfl 0 rfl ?_
  refine E_iload_n dX0_besides_46 rfl 2 rfl ?_
  refine E_aload_n dX0_besides_47 rfl 1 rfl ?_
  refine E_getI fl_X0_40 dX0_besides_48 hb ?_
  refine E_ishl dX0_besides_51 ?_
  refine E_ior dX0_besides_52 ?_
  refine E_iload_n dX0_besides_53 rfl 2 rfl ?_
  refine E_aload_n dX0_besides_54 rfl 1 rfl ?_
  refine E_getI fl_X0_40 dX0_besides_55 hb ?_
  refine E_ishr dX0_besides_58 ?_
  refine E_ior dX0_besides_59 ?_
  exact E_iret rfl rfl dX0_besides_60
def jB_besides_4 (h : AH) (b : Nat) (v1 : Int32) : Nat → Int32 → Int32 → Option (Int32)
  | 0, _, _ => none
  | n + 1, v2, v3 =>
    if v3 < (gI h 3 b 1) then (jb ((v2 ||| ((1 : Int32) <<< ((v3 * (gI h 3 b 0)) &&& 31))) : Int32) fun y1 =>
    (jB_besides_4 h b v1 n y1 (v3 + 1)))
    else ((jB_besides_29 h b v1 v2))
set_option maxRecDepth 20000 in
set_option maxHeartbeats 2000000 in
theorem sB_besides_4 (G : JG) (h : AH) (b : Nat) (hb : b < nIn 0 3) (v1 : Int32)  : ∀ (n : Nat) (v2 : Int32) (v3 : Int32), Sim G iB_besides (rvI h) 4 [(0, .ref (G.ad 3 b)), (1, .int v1), (2, .int v2), (3, .int v3)] [] h (jB_besides_4 h b v1 n v2 v3) := by
  intro n
  induction n with
  | zero => intro v2 v3; exact E_none
  | succ n ih =>
    intro v2 v3
    rw [jB_besides_4]
    refine E_iload_n dX0_besides_4 rfl 3 rfl ?_
    refine E_aload_n dX0_besides_5 rfl 0 rfl ?_
    refine E_getI fl_X0_44 dX0_besides_6 hb ?_
    refine E_icmp_ge (t := 29) dX0_besides_9 rfl ?_ ?_
    · exact E_sub [0, 1, 2] rfl (sB_besides_29 G h b hb v1 v2)
    · refine E_iload_n dX0_besides_12 rfl 2 rfl ?_
      refine E_iconst (v := 1) dX0_besides_13 rfl ?_
      refine E_iload_n dX0_besides_14 rfl 3 rfl ?_
      refine E_aload_n dX0_besides_15 rfl 0 rfl ?_
      refine E_getI fl_X0_40 dX0_besides_16 hb ?_
      refine E_imul dX0_besides_19 ?_
      refine E_ishl dX0_besides_20 ?_
      refine E_ior dX0_besides_21 ?_
      refine E_topi (fun y1 => ?_)
      refine E_istore_n (ls' := [(2, .int y1), (0, .ref (G.ad 3 b)), (1, .int v1), (3, .int v3)]) dX0_besides_22 rfl (Nat.le_of_ble_eq_true rfl) rfl ?_
      refine E_iinc (q := 3) (v := (v3 + 1)) (ls' := [(3, .int (v3 + 1)), (2, .int y1), (0, .ref (G.ad 3 b)), (1, .int v1)]) dX0_besides_23 rfl rfl (Nat.le_of_ble_eq_true rfl) rfl ?_
      refine E_goto (t := 4) dX0_besides_26 rfl ?_
      exact E_sub [2, 3, 1, 0] rfl (ih y1 (v3 + 1))
def jB_besides (h : AH) (b : Nat) (v1 : Int32) : Option (Int32) :=
  (jB_besides_4 h b v1 FU 0 0)
set_option maxRecDepth 20000 in
set_option maxHeartbeats 2000000 in
theorem sB_besides (G : JG) (h : AH) (b : Nat) (hb : b < nIn 0 3) (v1 : Int32) : Mt G iB_besides (rvI h) [.ref (G.ad 3 b), .int v1] h (jB_besides h b v1) := by
  refine Mt_of (by decide) (Nat.le_of_ble_eq_true rfl) ?_
  unfold jB_besides
  show Sim G iB_besides (rvI h) 0 [(0, .ref (G.ad 3 b)), (1, .int v1)] [] h _
  refine E_iconst (v := 0) dX0_besides_0 rfl ?_
  refine E_istore_n (ls' := [(2, .int 0), (0, .ref (G.ad 3 b)), (1, .int v1)]) dX0_besides_1 rfl (Nat.le_of_ble_eq_true rfl) rfl ?_
  refine E_iconst (v := 0) dX0_besides_2 rfl ?_
  refine E_istore_n (ls' := [(3, .int 0), (2, .int 0), (0, .ref (G.ad 3 b)), (1, .int v1)]) dX0_besides_3 rfl (Nat.le_of_ble_eq_true rfl) rfl ?_
  exact E_sub [2, 3, 1, 0] rfl (sB_besides_4 G h b hb v1 FU 0 0)
def iB_cellAt : MI := (yX0_cellAt, cX0_cellAt, 3, (some .int), { frames := 0, cells := 0, slots := 0, locals := 0 }, 0)
theorem ck_X0_cellAt : CK iB_cellAt 2 := ⟨⟨wd_107, wd_605, by decide +kernel⟩, ⟨wd_603, wd_604⟩⟩
def jB_cellAt (h : AH) (b : Nat) (v1 : Int32) (v2 : Int32) : Option (Int32) :=
  some (((gI h 3 b 0) * v2) + v1)
set_option maxRecDepth 20000 in
set_option maxHeartbeats 2000000 in
theorem sB_cellAt (G : JG) (h : AH) (b : Nat) (hb : b < nIn 0 3) (v1 : Int32) (v2 : Int32) : Mt G iB_cellAt (rvI h) [.ref (G.ad 3 b), .int v1, .int v2] h (jB_cellAt h b v1 v2) := by
  refine Mt_of (by decide) (Nat.le_of_ble_eq_true rfl) ?_
  unfold jB_cellAt
  show Sim G iB_cellAt (rvI h) 0 [(0, .ref (G.ad 3 b)), (1, .int v1), (2, .int v2)] [] h _
  refine E_aload_n dX0_cellAt_0 rfl 0 rfl ?_
  refine E_getI fl_X0_40 dX0_cellAt_1 hb ?_
  refine E_iload_n dX0_cellAt_4 rfl 2 rfl ?_
  refine E_imul dX0_cellAt_5 ?_
  refine E_iload_n dX0_cellAt_6 rfl 1 rfl ?_
  refine E_iadd dX0_cellAt_7 ?_
  exact E_iret rfl rfl dX0_cellAt_8
def iB_clear : MI := (yX0_clear, cX0_clear, 1, none, { frames := 1, cells := 0, slots := 0, locals := 23 }, 0)
theorem ck_X0_clear : CK iB_clear 0 := ⟨⟨wd_107, wd_462, by decide +kernel⟩, ⟨wd_460, wd_461⟩⟩
def jB_clear (h : AH) (b : Nat) : Option (AH) :=
  jb (uI h 3 b 0 0) fun h1 =>
  jb (uI h1 3 b 1 0) fun h2 =>
  jb (uI h2 3 b 2 0) fun h3 =>
  jb (uI h3 3 b 3 0) fun h4 =>
  jb (uI h4 3 b 4 0) fun h5 =>
  jb (uI h5 3 b 5 0) fun h6 =>
  jb (uI h6 3 b 6 0) fun h7 =>
  jb (uI h7 3 b 7 0) fun h8 =>
  (jJ_fill h8 b (-2)).bind fun h9 =>
  some h9
set_option maxRecDepth 20000 in
set_option maxHeartbeats 2000000 in
theorem sB_clear (G : JG) (h : AH) (b : Nat) (hb : b < nIn 0 3) : Mt G iB_clear rvV [.ref (G.ad 3 b)] h (jB_clear h b) := by
  refine Mt_of (by decide) (Nat.le_of_ble_eq_true rfl) ?_
  unfold jB_clear
  show Sim G iB_clear rvV 0 [(0, .ref (G.ad 3 b))] [] h _
  refine E_aload_n dX0_clear_0 rfl 0 rfl ?_
  refine E_iconst (v := 0) dX0_clear_1 rfl ?_
  refine E_putI fs_X0_40 dX0_clear_2 hb ?_
  refine E_hgen (fun h1 => ?_)
  refine E_aload_n dX0_clear_5 rfl 0 rfl ?_
  refine E_iconst (v := 0) dX0_clear_6 rfl ?_
  refine E_putI fs_X0_44 dX0_clear_7 hb ?_
  refine E_hgen (fun h2 => ?_)
  refine E_aload_n dX0_clear_10 rfl 0 rfl ?_
  refine E_iconst (v := 0) dX0_clear_11 rfl ?_
  refine E_putI fs_X0_47 dX0_clear_12 hb ?_
  refine E_hgen (fun h3 => ?_)
  refine E_aload_n dX0_clear_15 rfl 0 rfl ?_
  refine E_iconst (v := 0) dX0_clear_16 rfl ?_
  refine E_putI fs_X0_50 dX0_clear_17 hb ?_
  refine E_hgen (fun h4 => ?_)
  refine E_aload_n dX0_clear_20 rfl 0 rfl ?_
  refine E_iconst (v := 0) dX0_clear_21 rfl ?_
  refine E_putI fs_X0_53 dX0_clear_22 hb ?_
  refine E_hgen (fun h5 => ?_)
  refine E_aload_n dX0_clear_25 rfl 0 rfl ?_
  refine E_iconst (v := 0) dX0_clear_26 rfl ?_
  refine E_putI fs_X0_56 dX0_clear_27 hb ?_
  refine E_hgen (fun h6 => ?_)
  refine E_aload_n dX0_clear_30 rfl 0 rfl ?_
  refine E_iconst (v := 0) dX0_clear_31 rfl ?_
  refine E_putI fs_X0_59 dX0_clear_32 hb ?_
  refine E_hgen (fun h7 => ?_)
  refine E_aload_n dX0_clear_35 rfl 0 rfl ?_
  refine E_iconst (v := 0) dX0_clear_36 rfl ?_
  refine E_putZ fs_X0_62 (Or.inl rfl) dX0_clear_37 hb ?_
  refine E_hgen (fun h8 => ?_)
  refine E_aload_n dX0_clear_40 rfl 0 rfl ?_
  refine E_getS fl_X0_37 dX0_clear_41 hb ?_
  refine E_bipush (v := (-2)) dX0_clear_44 rfl ?_
  refine E_cSV (As := [.ref (G.ad 12 b), .int (-2)]) (rest := []) (sJ_fill G h8 b hb (-2)) ck_J7_fill_53178 lk_X0_66 rfl rfl rfl rfl rfl dX0_clear_46 (fun h9 _ => ?_)
  exact E_vret rfl rfl dX0_clear_49
def iB_colourNamed : MI := (yX0_colourNamed, cX0_colourNamed, 4, (some .int), { frames := 0, cells := 0, slots := 0, locals := 0 }, 0)
theorem ck_X0_colourNamed : CK iB_colourNamed 1 := ⟨⟨wd_107, wd_535, by decide +kernel⟩, ⟨wd_533, wd_534⟩⟩
def jB_colourNamed_2 (h : AH) (b : Nat) (v1 : Int64) : Nat → Int32 → Option (Int32)
  | 0, _ => none
  | n + 1, v3 =>
    if v3 < (gI h 3 b 4) then (if inb v3 5 = true then (
    if (lg_cmp (gL h 4 b v3.toNatClampNeg) v1) = 0 then (some v3)
    else ((jB_colourNamed_2 h b v1 n (v3 + 1)))) else none)
    else (some (-1))
set_option maxRecDepth 20000 in
set_option maxHeartbeats 2000000 in
theorem sB_colourNamed_2 (G : JG) (h : AH) (b : Nat) (hb : b < nIn 0 3) (v1 : Int64)  : ∀ (n : Nat) (v3 : Int32), Sim G iB_colourNamed (rvI h) 2 [(0, .ref (G.ad 3 b)), (1, .long v1), (3, .int v3)] [] h (jB_colourNamed_2 h b v1 n v3) := by
  intro n
  induction n with
  | zero => intro v3; exact E_none
  | succ n ih =>
    intro v3
    rw [jB_colourNamed_2]
    refine E_iload_n dX0_colourNamed_2 rfl 2 rfl ?_
    refine E_aload_n dX0_colourNamed_3 rfl 0 rfl ?_
    refine E_getI fl_X0_53 dX0_colourNamed_4 hb ?_
    refine E_icmp_ge (t := 29) dX0_colourNamed_7 rfl ?_ ?_
    · refine E_iconst (v := (-1)) dX0_colourNamed_29 rfl ?_
      exact E_iret rfl rfl dX0_colourNamed_30
    · refine E_aload_n dX0_colourNamed_10 rfl 0 rfl ?_
      refine E_getS fl_X0_9 dX0_colourNamed_11 hb ?_
      refine E_iload_n dX0_colourNamed_14 rfl 2 rfl ?_
      refine E_lald (n := 5) rfl dX0_colourNamed_15 hb (fun _ => ?_)
      refine E_lload_n dX0_colourNamed_16 rfl 1 rfl ?_
      refine E_lcmp dX0_colourNamed_17 ?_
      refine E_if_ne (t := 23) dX0_colourNamed_18 rfl ?_ ?_
      · refine E_iinc (q := 2) (v := (v3 + 1)) (ls' := [(3, .int (v3 + 1)), (0, .ref (G.ad 3 b)), (1, .long v1)]) dX0_colourNamed_23 rfl rfl (Nat.le_of_ble_eq_true rfl) rfl ?_
        refine E_goto (t := 2) dX0_colourNamed_26 rfl ?_
        exact E_sub [1, 2, 0] rfl (ih (v3 + 1))
      · refine E_iload_n dX0_colourNamed_21 rfl 2 rfl ?_
        exact E_iret rfl rfl dX0_colourNamed_22
def jB_colourNamed (h : AH) (b : Nat) (v1 : Int64) : Option (Int32) :=
  (jB_colourNamed_2 h b v1 FU 0)
set_option maxRecDepth 20000 in
set_option maxHeartbeats 2000000 in
theorem sB_colourNamed (G : JG) (h : AH) (b : Nat) (hb : b < nIn 0 3) (v1 : Int64) : Mt G iB_colourNamed (rvI h) [.ref (G.ad 3 b), .long v1] h (jB_colourNamed h b v1) := by
  refine Mt_of (by decide) (Nat.le_of_ble_eq_true rfl) ?_
  unfold jB_colourNamed
  show Sim G iB_colourNamed (rvI h) 0 [(0, .ref (G.ad 3 b)), (1, .long v1)] [] h _
  refine E_iconst (v := 0) dX0_colourNamed_0 rfl ?_
  refine E_istore_n (ls' := [(3, .int 0), (0, .ref (G.ad 3 b)), (1, .long v1)]) dX0_colourNamed_1 rfl (Nat.le_of_ble_eq_true rfl) rfl ?_
  exact E_sub [1, 2, 0] rfl (sB_colourNamed_2 G h b hb v1 FU 0)
def iB_firstPart : MI := (yX0_firstPart, cX0_firstPart, 5, (some .int), { frames := 1, cells := 0, slots := 0, locals := 23 }, 0)
theorem ck_X0_firstPart : CK iB_firstPart 1 := ⟨⟨wd_107, wd_808, by decide +kernel⟩, ⟨wd_807, wd_25⟩⟩
def jB_firstPart_7 (h : AH) (b : Nat) (v1 : Int32) : Nat → Int32 → Int32 → Option (Int32)
  | 0, _, _ => none
  | n + 1, v2, v3 =>
    if v3 < 24 then ((jB_besides h b v2).bind fun r1 =>
    if (v2 ||| (r1 &&& v1)) = v2 then (some v2)
    else ((jB_firstPart_7 h b v1 n (v2 ||| (r1 &&& v1)) (v3 + 1))))
    else (some v2)
set_option maxRecDepth 20000 in
set_option maxHeartbeats 2000000 in
theorem sB_firstPart_7 (G : JG) (h : AH) (b : Nat) (hb : b < nIn 0 3) (v1 : Int32)  : ∀ (n : Nat) (v2 : Int32) (v3 : Int32), Sim G iB_firstPart (rvI h) 7 [(0, .ref (G.ad 3 b)), (1, .int v1), (2, .int v2), (3, .int v3)] [] h (jB_firstPart_7 h b v1 n v2 v3) := by
  intro n
  induction n with
  | zero => intro v2 v3; exact E_none
  | succ n ih =>
    intro v2 v3
    rw [jB_firstPart_7]
    refine E_iload_n dX0_firstPart_7 rfl 3 rfl ?_
    refine E_bipush (v := 24) dX0_firstPart_8 rfl ?_
    refine E_icmp_ge (t := 42) dX0_firstPart_10 rfl ?_ ?_
    · refine E_iload_n dX0_firstPart_42 rfl 2 rfl ?_
      exact E_iret rfl rfl dX0_firstPart_43
    · refine E_iload_n dX0_firstPart_13 rfl 2 rfl ?_
      refine E_aload_n dX0_firstPart_14 rfl 0 rfl ?_
      refine E_iload_n dX0_firstPart_15 rfl 2 rfl ?_
      refine E_cVI (As := [.int v2]) (rest := [.int v2]) (sB_besides G h b hb v2) ck_X0_besides lk_X0_101 rfl rfl kc_3 hb rfl rfl rfl dX0_firstPart_16 (fun r1 _ => ?_)
      refine E_iload_n dX0_firstPart_19 rfl 1 rfl ?_
      refine E_iand dX0_firstPart_20 ?_
      refine E_ior dX0_firstPart_21 ?_
      refine E_istore (ls' := [(4, .int (v2 ||| (r1 &&& v1))), (0, .ref (G.ad 3 b)), (1, .int v1), (2, .int v2), (3, .int v3)]) dX0_firstPart_22 (Nat.le_of_ble_eq_true rfl) rfl ?_
      refine E_iload dX0_firstPart_24 0 rfl ?_
      refine E_iload_n dX0_firstPart_26 rfl 3 rfl ?_
      refine E_icmp_ne (t := 33) dX0_firstPart_27 rfl ?_ ?_
      · refine E_iload dX0_firstPart_33 0 rfl ?_
        refine E_istore_n (ls' := [(2, .int (v2 ||| (r1 &&& v1))), (4, .int (v2 ||| (r1 &&& v1))), (0, .ref (G.ad 3 b)), (1, .int v1), (3, .int v3)]) dX0_firstPart_35 rfl (Nat.le_of_ble_eq_true rfl) rfl ?_
        refine E_iinc (q := 4) (v := (v3 + 1)) (ls' := [(3, .int (v3 + 1)), (2, .int (v2 ||| (r1 &&& v1))), (4, .int (v2 ||| (r1 &&& v1))), (0, .ref (G.ad 3 b)), (1, .int v1)]) dX0_firstPart_36 rfl rfl (Nat.le_of_ble_eq_true rfl) rfl ?_
        refine E_goto (t := 7) dX0_firstPart_39 rfl ?_
        exact E_sub [3, 4, 1, 0] rfl (ih (v2 ||| (r1 &&& v1)) (v3 + 1))
      · refine E_goto (t := 42) dX0_firstPart_30 rfl ?_
        refine E_iload_n dX0_firstPart_42 rfl 3 rfl ?_
        exact E_iret rfl rfl dX0_firstPart_43
def jB_firstPart (h : AH) (b : Nat) (v1 : Int32) : Option (Int32) :=
  (jB_firstPart_7 h b v1 FU (v1 &&& (-v1)) 0)
set_option maxRecDepth 20000 in
set_option maxHeartbeats 2000000 in
theorem sB_firstPart (G : JG) (h : AH) (b : Nat) (hb : b < nIn 0 3) (v1 : Int32) : Mt G iB_firstPart (rvI h) [.ref (G.ad 3 b), .int v1] h (jB_firstPart h b v1) := by
  refine Mt_of (by decide) (Nat.le_of_ble_eq_true rfl) ?_
  unfold jB_firstPart
  show Sim G iB_firstPart (rvI h) 0 [(0, .ref (G.ad 3 b)), (1, .int v1)] [] h _
  refine E_iload_n dX0_firstPart_0 rfl 1 rfl ?_
  refine E_iload_n dX0_firstPart_1 rfl 1 rfl ?_
  refine E_ineg dX0_firstPart_2 ?_
  refine E_iand dX0_firstPart_3 ?_
  refine E_istore_n (ls' := [(2, .int (v1 &&& (-v1))), (0, .ref (G.ad 3 b)), (1, .int v1)]) dX0_firstPart_4 rfl (Nat.le_of_ble_eq_true rfl) rfl ?_
  refine E_iconst (v := 0) dX0_firstPart_5 rfl ?_
  refine E_istore_n (ls' := [(3, .int 0), (2, .int (v1 &&& (-v1))), (0, .ref (G.ad 3 b)), (1, .int v1)]) dX0_firstPart_6 rfl (Nat.le_of_ble_eq_true rfl) rfl ?_
  exact E_sub [2, 3, 1, 0] rfl (sB_firstPart_7 G h b hb v1 FU (v1 &&& (-v1)) 0)
def iB_guardedIn : MI := (yX0_guardedIn, cX0_guardedIn, 5, (some .int), { frames := 0, cells := 0, slots := 0, locals := 0 }, 0)
theorem ck_X0_guardedIn : CK iB_guardedIn 2 := ⟨⟨wd_107, wd_832, by decide +kernel⟩, ⟨wd_830, wd_831⟩⟩
def jB_guardedIn_5 (h : AH) (b : Nat) (v1 : Int32) (v2 : Int32) : Nat → Int32 → Int32 → Option (Int32)
  | 0, _, _ => none
  | n + 1, v3, v4 =>
    if v4 < (gI h 3 b 6) then (if v4 = v2 then ((jB_guardedIn_5 h b v1 v2 n v3 (v4 + 1)))
    else (if inb v4 4 = true then (
    if (gI h 10 b v4.toNatClampNeg) ≤ v1 then (if inb v4 4 = true then (
    if v1 ≤ (gI h 11 b v4.toNatClampNeg) then (if inb v4 4 = true then (
    (jB_guardedIn_5 h b v1 v2 n (v3 ||| (gI h 9 b v4.toNatClampNeg)) (v4 + 1))) else none)
    else ((jB_guardedIn_5 h b v1 v2 n v3 (v4 + 1)))) else none)
    else ((jB_guardedIn_5 h b v1 v2 n v3 (v4 + 1)))) else none))
    else (some v3)
set_option maxRecDepth 20000 in
set_option maxHeartbeats 2000000 in
theorem sB_guardedIn_5 (G : JG) (h : AH) (b : Nat) (hb : b < nIn 0 3) (v1 : Int32) (v2 : Int32)  : ∀ (n : Nat) (v3 : Int32) (v4 : Int32), Sim G iB_guardedIn (rvI h) 5 [(0, .ref (G.ad 3 b)), (1, .int v1), (2, .int v2), (3, .int v3), (4, .int v4)] [] h (jB_guardedIn_5 h b v1 v2 n v3 v4) := by
  intro n
  induction n with
  | zero => intro v3 v4; exact E_none
  | succ n ih =>
    intro v3 v4
    rw [jB_guardedIn_5]
    refine E_iload dX0_guardedIn_5 4 rfl ?_
    refine E_aload_n dX0_guardedIn_7 rfl 0 rfl ?_
    refine E_getI fl_X0_59 dX0_guardedIn_8 hb ?_
    refine E_icmp_ge (t := 58) dX0_guardedIn_11 rfl ?_ ?_
    · refine E_iload_n dX0_guardedIn_58 rfl 3 rfl ?_
      exact E_iret rfl rfl dX0_guardedIn_59
    · refine E_iload dX0_guardedIn_14 4 rfl ?_
      refine E_iload_n dX0_guardedIn_16 rfl 2 rfl ?_
      refine E_icmp_eq (t := 52) dX0_guardedIn_17 rfl ?_ ?_
      · refine E_iinc (q := 4) (v := (v4 + 1)) (ls' := [(4, .int (v4 + 1)), (0, .ref (G.ad 3 b)), (1, .int v1), (2, .int v2), (3, .int v3)]) dX0_guardedIn_52 rfl rfl (Nat.le_of_ble_eq_true rfl) rfl ?_
        refine E_goto (t := 5) dX0_guardedIn_55 rfl ?_
        exact E_sub [1, 2, 3, 4, 0] rfl (ih v3 (v4 + 1))
      · refine E_aload_n dX0_guardedIn_20 rfl 0 rfl ?_
        refine E_getS fl_X0_31 dX0_guardedIn_21 hb ?_
        refine E_iload dX0_guardedIn_24 4 rfl ?_
        refine E_iald (n := 4) rfl dX0_guardedIn_26 hb (fun _ => ?_)
        refine E_iload_n dX0_guardedIn_27 rfl 1 rfl ?_
        refine E_icmp_gt (t := 52) dX0_guardedIn_28 rfl ?_ ?_
        · refine E_iinc (q := 4) (v := (v4 + 1)) (ls' := [(4, .int (v4 + 1)), (0, .ref (G.ad 3 b)), (1, .int v1), (2, .int v2), (3, .int v3)]) dX0_guardedIn_52 rfl rfl (Nat.le_of_ble_eq_true rfl) rfl ?_
          refine E_goto (t := 5) dX0_guardedIn_55 rfl ?_
          exact E_sub [1, 2, 3, 4, 0] rfl (ih v3 (v4 + 1))
        · refine E_iload_n dX0_guardedIn_31 rfl 1 rfl ?_
          refine E_aload_n dX0_guardedIn_32 rfl 0 rfl ?_
          refine E_getS fl_X0_34 dX0_guardedIn_33 hb ?_
          refine E_iload dX0_guardedIn_36 4 rfl ?_
          refine E_iald (n := 4) rfl dX0_guardedIn_38 hb (fun _ => ?_)
          refine E_icmp_gt (t := 52) dX0_guardedIn_39 rfl ?_ ?_
          · refine E_iinc (q := 4) (v := (v4 + 1)) (ls' := [(4, .int (v4 + 1)), (0, .ref (G.ad 3 b)), (1, .int v1), (2, .int v2), (3, .int v3)]) dX0_guardedIn_52 rfl rfl (Nat.le_of_ble_eq_true rfl) rfl ?_
            refine E_goto (t := 5) dX0_guardedIn_55 rfl ?_
            exact E_sub [1, 2, 3, 4, 0] rfl (ih v3 (v4 + 1))
          · refine E_iload_n dX0_guardedIn_42 rfl 3 rfl ?_
            refine E_aload_n dX0_guardedIn_43 rfl 0 rfl ?_
            refine E_getS fl_X0_28 dX0_guardedIn_44 hb ?_
            refine E_iload dX0_guardedIn_47 4 rfl ?_
            refine E_iald (n := 4) rfl dX0_guardedIn_49 hb (fun _ => ?_)
            refine E_ior dX0_guardedIn_50 ?_
            refine E_istore_n (ls' := [(3, .int (v3 ||| (gI h 9 b v4.toNatClampNeg))), (0, .ref (G.ad 3 b)), (1, .int v1), (2, .int v2), (4, .int v4)]) dX0_guardedIn_51 rfl (Nat.le_of_ble_eq_true rfl) rfl ?_
            refine E_iinc (q := 4) (v := (v4 + 1)) (ls' := [(4, .int (v4 + 1)), (3, .int (v3 ||| (gI h 9 b v4.toNatClampNeg))), (0, .ref (G.ad 3 b)), (1, .int v1), (2, .int v2)]) dX0_guardedIn_52 rfl rfl (Nat.le_of_ble_eq_true rfl) rfl ?_
            refine E_goto (t := 5) dX0_guardedIn_55 rfl ?_
            exact E_sub [2, 3, 4, 1, 0] rfl (ih (v3 ||| (gI h 9 b v4.toNatClampNeg)) (v4 + 1))
def jB_guardedIn (h : AH) (b : Nat) (v1 : Int32) (v2 : Int32) : Option (Int32) :=
  (jB_guardedIn_5 h b v1 v2 FU 0 0)
set_option maxRecDepth 20000 in
set_option maxHeartbeats 2000000 in
theorem sB_guardedIn (G : JG) (h : AH) (b : Nat) (hb : b < nIn 0 3) (v1 : Int32) (v2 : Int32) : Mt G iB_guardedIn (rvI h) [.ref (G.ad 3 b), .int v1, .int v2] h (jB_guardedIn h b v1 v2) := by
  refine Mt_of (by decide) (Nat.le_of_ble_eq_true rfl) ?_
  unfold jB_guardedIn
  show Sim G iB_guardedIn (rvI h) 0 [(0, .ref (G.ad 3 b)), (1, .int v1), (2, .int v2)] [] h _
  refine E_iconst (v := 0) dX0_guardedIn_0 rfl ?_
  refine E_istore_n (ls' := [(3, .int 0), (0, .ref (G.ad 3 b)), (1, .int v1), (2, .int v2)]) dX0_guardedIn_1 rfl (Nat.le_of_ble_eq_true rfl) rfl ?_
  refine E_iconst (v := 0) dX0_guardedIn_2 rfl ?_
  refine E_istore (ls' := [(4, .int 0), (3, .int 0), (0, .ref (G.ad 3 b)), (1, .int v1), (2, .int v2)]) dX0_guardedIn_3 (Nat.le_of_ble_eq_true rfl) rfl ?_
  exact E_sub [2, 3, 4, 1, 0] rfl (sB_guardedIn_5 G h b hb v1 v2 FU 0 0)
def iB_hasColour : MI := (yX0_hasColour, cX0_hasColour, 2, (some .boolean), { frames := 0, cells := 0, slots := 0, locals := 0 }, 0)
theorem ck_X0_hasColour : CK iB_hasColour 1 := ⟨⟨wd_107, wd_715, by decide +kernel⟩, ⟨wd_713, wd_714⟩⟩
def jB_hasColour (h : AH) (b : Nat) (v1 : Int32) : Option (Int32) :=
  if v1 < 0 then (some 0)
  else (if v1 < (gI h 3 b 4) then (some 1)
  else (some 0))
set_option maxRecDepth 20000 in
set_option maxHeartbeats 2000000 in
theorem sB_hasColour (G : JG) (h : AH) (b : Nat) (hb : b < nIn 0 3) (v1 : Int32) : Mt G iB_hasColour (rvI h) [.ref (G.ad 3 b), .int v1] h (jB_hasColour h b v1) := by
  refine Mt_of (by decide) (Nat.le_of_ble_eq_true rfl) ?_
  unfold jB_hasColour
  show Sim G iB_hasColour (rvI h) 0 [(0, .ref (G.ad 3 b)), (1, .int v1)] [] h _
  refine E_iload_n dX0_hasColour_0 rfl 1 rfl ?_
  refine E_if_lt (t := 16) dX0_hasColour_1 rfl ?_ ?_
  · refine E_iconst (v := 0) dX0_hasColour_16 rfl ?_
    exact E_zret rfl rfl rfl dX0_hasColour_17
  · refine E_iload_n dX0_hasColour_4 rfl 1 rfl ?_
    refine E_aload_n dX0_hasColour_5 rfl 0 rfl ?_
    refine E_getI fl_X0_53 dX0_hasColour_6 hb ?_
    refine E_icmp_ge (t := 16) dX0_hasColour_9 rfl ?_ ?_
    · refine E_iconst (v := 0) dX0_hasColour_16 rfl ?_
      exact E_zret rfl rfl rfl dX0_hasColour_17
    · refine E_iconst (v := 1) dX0_hasColour_12 rfl ?_
      refine E_goto (t := 17) dX0_hasColour_13 rfl ?_
      exact E_zret rfl rfl rfl dX0_hasColour_17
def iB_hadComeUp : MI := (yX0_hadComeUp, cX0_hadComeUp, 3, (some .boolean), { frames := 1, cells := 0, slots := 0, locals := 21 }, 0)
theorem ck_X0_hadComeUp : CK iB_hadComeUp 2 := ⟨⟨wd_107, wd_841, by decide +kernel⟩, ⟨wd_839, wd_840⟩⟩
def jB_hadComeUp (h : AH) (b : Nat) (v1 : Int32) (v2 : Int32) : Option (Int32) :=
  (jB_hasColour h b v1).bind fun r1 =>
  if r1 = 0 then (some 0)
  else (if inb v1 5 = true then (
  if (gI h 7 b v1.toNatClampNeg) ≤ v2 then (some 1)
  else (some 0)) else none)
set_option maxRecDepth 20000 in
set_option maxHeartbeats 2000000 in
theorem sB_hadComeUp (G : JG) (h : AH) (b : Nat) (hb : b < nIn 0 3) (v1 : Int32) (v2 : Int32) : Mt G iB_hadComeUp (rvI h) [.ref (G.ad 3 b), .int v1, .int v2] h (jB_hadComeUp h b v1 v2) := by
  refine Mt_of (by decide) (Nat.le_of_ble_eq_true rfl) ?_
  unfold jB_hadComeUp
  show Sim G iB_hadComeUp (rvI h) 0 [(0, .ref (G.ad 3 b)), (1, .int v1), (2, .int v2)] [] h _
  refine E_aload_n dX0_hadComeUp_0 rfl 0 rfl ?_
  refine E_iload_n dX0_hadComeUp_1 rfl 1 rfl ?_
  refine E_cVI (As := [.int v1]) (rest := []) (sB_hasColour G h b hb v1) ck_X0_hasColour lk_X0_84 rfl rfl kc_3 hb rfl rfl rfl dX0_hadComeUp_2 (fun r1 _ => ?_)
  refine E_if_eq (t := 22) dX0_hadComeUp_5 rfl ?_ ?_
  · refine E_iconst (v := 0) dX0_hadComeUp_22 rfl ?_
    exact E_zret rfl rfl rfl dX0_hadComeUp_23
  · refine E_aload_n dX0_hadComeUp_8 rfl 0 rfl ?_
    refine E_getS fl_X0_22 dX0_hadComeUp_9 hb ?_
    refine E_iload_n dX0_hadComeUp_12 rfl 1 rfl ?_
    refine E_iald (n := 5) rfl dX0_hadComeUp_13 hb (fun _ => ?_)
    refine E_iload_n dX0_hadComeUp_14 rfl 2 rfl ?_
    refine E_icmp_gt (t := 22) dX0_hadComeUp_15 rfl ?_ ?_
    · refine E_iconst (v := 0) dX0_hadComeUp_22 rfl ?_
      exact E_zret rfl rfl rfl dX0_hadComeUp_23
    · refine E_iconst (v := 1) dX0_hadComeUp_18 rfl ?_
      refine E_goto (t := 23) dX0_hadComeUp_19 rfl ?_
      exact E_zret rfl rfl rfl dX0_hadComeUp_23
def iB_hadAnyComeUp : MI := (yX0_hadAnyComeUp, cX0_hadAnyComeUp, 3, (some .boolean), { frames := 2, cells := 0, slots := 0, locals := 43 }, 0)
theorem ck_X0_hadAnyComeUp : CK iB_hadAnyComeUp 1 := ⟨⟨wd_107, wd_979, by decide +kernel⟩, ⟨wd_977, wd_978⟩⟩
def jB_hadAnyComeUp_2 (h : AH) (b : Nat) (v1 : Int32) : Nat → Int32 → Option (Int32)
  | 0, _ => none
  | n + 1, v2 =>
    if v2 < (gI h 3 b 4) then ((jB_hadComeUp h b v2 v1).bind fun r1 =>
    if r1 = 0 then ((jB_hadAnyComeUp_2 h b v1 n (v2 + 1)))
    else (some 1))
    else (some 0)
set_option maxRecDepth 20000 in
set_option maxHeartbeats 2000000 in
theorem sB_hadAnyComeUp_2 (G : JG) (h : AH) (b : Nat) (hb : b < nIn 0 3) (v1 : Int32)  : ∀ (n : Nat) (v2 : Int32), Sim G iB_hadAnyComeUp (rvI h) 2 [(0, .ref (G.ad 3 b)), (1, .int v1), (2, .int v2)] [] h (jB_hadAnyComeUp_2 h b v1 n v2) := by
  intro n
  induction n with
  | zero => intro v2; exact E_none
  | succ n ih =>
    intro v2
    rw [jB_hadAnyComeUp_2]
    refine E_iload_n dX0_hadAnyComeUp_2 rfl 2 rfl ?_
    refine E_aload_n dX0_hadAnyComeUp_3 rfl 0 rfl ?_
    refine E_getI fl_X0_53 dX0_hadAnyComeUp_4 hb ?_
    refine E_icmp_ge (t := 27) dX0_hadAnyComeUp_7 rfl ?_ ?_
    · refine E_iconst (v := 0) dX0_hadAnyComeUp_27 rfl ?_
      exact E_zret rfl rfl rfl dX0_hadAnyComeUp_28
    · refine E_aload_n dX0_hadAnyComeUp_10 rfl 0 rfl ?_
      refine E_iload_n dX0_hadAnyComeUp_11 rfl 2 rfl ?_
      refine E_iload_n dX0_hadAnyComeUp_12 rfl 1 rfl ?_
      refine E_cVI (As := [.int v2, .int v1]) (rest := []) (sB_hadComeUp G h b hb v2 v1) ck_X0_hadComeUp lk_X0_88 rfl rfl kc_3 hb rfl rfl rfl dX0_hadAnyComeUp_13 (fun r1 _ => ?_)
      refine E_if_eq (t := 21) dX0_hadAnyComeUp_16 rfl ?_ ?_
      · refine E_iinc (q := 2) (v := (v2 + 1)) (ls' := [(2, .int (v2 + 1)), (0, .ref (G.ad 3 b)), (1, .int v1)]) dX0_hadAnyComeUp_21 rfl rfl (Nat.le_of_ble_eq_true rfl) rfl ?_
        refine E_goto (t := 2) dX0_hadAnyComeUp_24 rfl ?_
        exact E_sub [1, 2, 0] rfl (ih (v2 + 1))
      · refine E_iconst (v := 1) dX0_hadAnyComeUp_19 rfl ?_
        exact E_zret rfl rfl rfl dX0_hadAnyComeUp_20
def jB_hadAnyComeUp (h : AH) (b : Nat) (v1 : Int32) : Option (Int32) :=
  (jB_hadAnyComeUp_2 h b v1 FU 0)
set_option maxRecDepth 20000 in
set_option maxHeartbeats 2000000 in
theorem sB_hadAnyComeUp (G : JG) (h : AH) (b : Nat) (hb : b < nIn 0 3) (v1 : Int32) : Mt G iB_hadAnyComeUp (rvI h) [.ref (G.ad 3 b), .int v1] h (jB_hadAnyComeUp h b v1) := by
  refine Mt_of (by decide) (Nat.le_of_ble_eq_true rfl) ?_
  unfold jB_hadAnyComeUp
  show Sim G iB_hadAnyComeUp (rvI h) 0 [(0, .ref (G.ad 3 b)), (1, .int v1)] [] h _
  refine E_iconst (v := 0) dX0_hadAnyComeUp_0 rfl ?_
  refine E_istore_n (ls' := [(2, .int 0), (0, .ref (G.ad 3 b)), (1, .int v1)]) dX0_hadAnyComeUp_1 rfl (Nat.le_of_ble_eq_true rfl) rfl ?_
  exact E_sub [1, 2, 0] rfl (sB_hadAnyComeUp_2 G h b hb v1 FU 0)
def iB_handNamed : MI := (yX0_handNamed, cX0_handNamed, 4, (some .int), { frames := 0, cells := 0, slots := 0, locals := 0 }, 0)
theorem ck_X0_handNamed : CK iB_handNamed 1 := ⟨⟨wd_107, wd_539, by decide +kernel⟩, ⟨wd_537, wd_538⟩⟩
def jB_handNamed_2 (h : AH) (b : Nat) (v1 : Int64) : Nat → Int32 → Option (Int32)
  | 0, _ => none
  | n + 1, v3 =>
    if v3 < (gI h 3 b 5) then (if inb v3 5 = true then (
    if (lg_cmp (gL h 8 b v3.toNatClampNeg) v1) = 0 then (some v3)
    else ((jB_handNamed_2 h b v1 n (v3 + 1)))) else none)
    else (some (-1))
set_option maxRecDepth 20000 in
set_option maxHeartbeats 2000000 in
theorem sB_handNamed_2 (G : JG) (h : AH) (b : Nat) (hb : b < nIn 0 3) (v1 : Int64)  : ∀ (n : Nat) (v3 : Int32), Sim G iB_handNamed (rvI h) 2 [(0, .ref (G.ad 3 b)), (1, .long v1), (3, .int v3)] [] h (jB_handNamed_2 h b v1 n v3) := by
  intro n
  induction n with
  | zero => intro v3; exact E_none
  | succ n ih =>
    intro v3
    rw [jB_handNamed_2]
    refine E_iload_n dX0_handNamed_2 rfl 2 rfl ?_
    refine E_aload_n dX0_handNamed_3 rfl 0 rfl ?_
    refine E_getI fl_X0_56 dX0_handNamed_4 hb ?_
    refine E_icmp_ge (t := 29) dX0_handNamed_7 rfl ?_ ?_
    · refine E_iconst (v := (-1)) dX0_handNamed_29 rfl ?_
      exact E_iret rfl rfl dX0_handNamed_30
    · refine E_aload_n dX0_handNamed_10 rfl 0 rfl ?_
      refine E_getS fl_X0_25 dX0_handNamed_11 hb ?_
      refine E_iload_n dX0_handNamed_14 rfl 2 rfl ?_
      refine E_lald (n := 5) rfl dX0_handNamed_15 hb (fun _ => ?_)
      refine E_lload_n dX0_handNamed_16 rfl 1 rfl ?_
      refine E_lcmp dX0_handNamed_17 ?_
      refine E_if_ne (t := 23) dX0_handNamed_18 rfl ?_ ?_
      · refine E_iinc (q := 2) (v := (v3 + 1)) (ls' := [(3, .int (v3 + 1)), (0, .ref (G.ad 3 b)), (1, .long v1)]) dX0_handNamed_23 rfl rfl (Nat.le_of_ble_eq_true rfl) rfl ?_
        refine E_goto (t := 2) dX0_handNamed_26 rfl ?_
        exact E_sub [1, 2, 0] rfl (ih (v3 + 1))
      · refine E_iload_n dX0_handNamed_21 rfl 2 rfl ?_
        exact E_iret rfl rfl dX0_handNamed_22
def jB_handNamed (h : AH) (b : Nat) (v1 : Int64) : Option (Int32) :=
  (jB_handNamed_2 h b v1 FU 0)
set_option maxRecDepth 20000 in
set_option maxHeartbeats 2000000 in
theorem sB_handNamed (G : JG) (h : AH) (b : Nat) (hb : b < nIn 0 3) (v1 : Int64) : Mt G iB_handNamed (rvI h) [.ref (G.ad 3 b), .long v1] h (jB_handNamed h b v1) := by
  refine Mt_of (by decide) (Nat.le_of_ble_eq_true rfl) ?_
  unfold jB_handNamed
  show Sim G iB_handNamed (rvI h) 0 [(0, .ref (G.ad 3 b)), (1, .long v1)] [] h _
  refine E_iconst (v := 0) dX0_handNamed_0 rfl ?_
  refine E_istore_n (ls' := [(3, .int 0), (0, .ref (G.ad 3 b)), (1, .long v1)]) dX0_handNamed_1 rfl (Nat.le_of_ble_eq_true rfl) rfl ?_
  exact E_sub [1, 2, 0] rfl (sB_handNamed_2 G h b hb v1 FU 0)
def iB_hasCell : MI := (yX0_hasCell, cX0_hasCell, 3, (some .boolean), { frames := 0, cells := 0, slots := 0, locals := 0 }, 0)
theorem ck_X0_hasCell : CK iB_hasCell 2 := ⟨⟨wd_107, wd_669, by decide +kernel⟩, ⟨wd_667, wd_668⟩⟩
def jB_hasCell (h : AH) (b : Nat) (v1 : Int32) (v2 : Int32) : Option (Int32) :=
  if v1 < 0 then (some 0)
  else (if v1 < (gI h 3 b 0) then (if v2 < 0 then (some 0)
  else (if v2 < (gI h 3 b 1) then (some 1)
  else (some 0)))
  else (some 0))
set_option maxRecDepth 20000 in
set_option maxHeartbeats 2000000 in
theorem sB_hasCell (G : JG) (h : AH) (b : Nat) (hb : b < nIn 0 3) (v1 : Int32) (v2 : Int32) : Mt G iB_hasCell (rvI h) [.ref (G.ad 3 b), .int v1, .int v2] h (jB_hasCell h b v1 v2) := by
  refine Mt_of (by decide) (Nat.le_of_ble_eq_true rfl) ?_
  unfold jB_hasCell
  show Sim G iB_hasCell (rvI h) 0 [(0, .ref (G.ad 3 b)), (1, .int v1), (2, .int v2)] [] h _
  refine E_iload_n dX0_hasCell_0 rfl 1 rfl ?_
  refine E_if_lt (t := 28) dX0_hasCell_1 rfl ?_ ?_
  · refine E_iconst (v := 0) dX0_hasCell_28 rfl ?_
    exact E_zret rfl rfl rfl dX0_hasCell_29
  · refine E_iload_n dX0_hasCell_4 rfl 1 rfl ?_
    refine E_aload_n dX0_hasCell_5 rfl 0 rfl ?_
    refine E_getI fl_X0_40 dX0_hasCell_6 hb ?_
    refine E_icmp_ge (t := 28) dX0_hasCell_9 rfl ?_ ?_
    · refine E_iconst (v := 0) dX0_hasCell_28 rfl ?_
      exact E_zret rfl rfl rfl dX0_hasCell_29
    · refine E_iload_n dX0_hasCell_12 rfl 2 rfl ?_
      refine E_if_lt (t := 28) dX0_hasCell_13 rfl ?_ ?_
      · refine E_iconst (v := 0) dX0_hasCell_28 rfl ?_
        exact E_zret rfl rfl rfl dX0_hasCell_29
      · refine E_iload_n dX0_hasCell_16 rfl 2 rfl ?_
        refine E_aload_n dX0_hasCell_17 rfl 0 rfl ?_
        refine E_getI fl_X0_44 dX0_hasCell_18 hb ?_
        refine E_icmp_ge (t := 28) dX0_hasCell_21 rfl ?_ ?_
        · refine E_iconst (v := 0) dX0_hasCell_28 rfl ?_
          exact E_zret rfl rfl rfl dX0_hasCell_29
        · refine E_iconst (v := 1) dX0_hasCell_24 rfl ?_
          refine E_goto (t := 29) dX0_hasCell_25 rfl ?_
          exact E_zret rfl rfl rfl dX0_hasCell_29
def iB_hasHand : MI := (yX0_hasHand, cX0_hasHand, 2, (some .boolean), { frames := 0, cells := 0, slots := 0, locals := 0 }, 0)
theorem ck_X0_hasHand : CK iB_hasHand 1 := ⟨⟨wd_107, wd_758, by decide +kernel⟩, ⟨wd_756, wd_757⟩⟩
def jB_hasHand (h : AH) (b : Nat) (v1 : Int32) : Option (Int32) :=
  if v1 < 0 then (some 0)
  else (if v1 < (gI h 3 b 5) then (some 1)
  else (some 0))
set_option maxRecDepth 20000 in
set_option maxHeartbeats 2000000 in
theorem sB_hasHand (G : JG) (h : AH) (b : Nat) (hb : b < nIn 0 3) (v1 : Int32) : Mt G iB_hasHand (rvI h) [.ref (G.ad 3 b), .int v1] h (jB_hasHand h b v1) := by
  refine Mt_of (by decide) (Nat.le_of_ble_eq_true rfl) ?_
  unfold jB_hasHand
  show Sim G iB_hasHand (rvI h) 0 [(0, .ref (G.ad 3 b)), (1, .int v1)] [] h _
  refine E_iload_n dX0_hasHand_0 rfl 1 rfl ?_
  refine E_if_lt (t := 16) dX0_hasHand_1 rfl ?_ ?_
  · refine E_iconst (v := 0) dX0_hasHand_16 rfl ?_
    exact E_zret rfl rfl rfl dX0_hasHand_17
  · refine E_iload_n dX0_hasHand_4 rfl 1 rfl ?_
    refine E_aload_n dX0_hasHand_5 rfl 0 rfl ?_
    refine E_getI fl_X0_56 dX0_hasHand_6 hb ?_
    refine E_icmp_ge (t := 16) dX0_hasHand_9 rfl ?_ ?_
    · refine E_iconst (v := 0) dX0_hasHand_16 rfl ?_
      exact E_zret rfl rfl rfl dX0_hasHand_17
    · refine E_iconst (v := 1) dX0_hasHand_12 rfl ?_
      refine E_goto (t := 17) dX0_hasHand_13 rfl ?_
      exact E_zret rfl rfl rfl dX0_hasHand_17
def iB_hasPatch : MI := (yX0_hasPatch, cX0_hasPatch, 5, (some .boolean), { frames := 1, cells := 0, slots := 0, locals := 22 }, 0)
theorem ck_X0_hasPatch : CK iB_hasPatch 4 := ⟨⟨wd_107, wd_1082, by decide +kernel⟩, ⟨wd_1080, wd_1081⟩⟩
def jB_hasPatch (h : AH) (b : Nat) (v1 : Int32) (v2 : Int32) (v3 : Int32) (v4 : Int32) : Option (Int32) :=
  (jB_hasCell h b v1 v2).bind fun r1 =>
  if r1 = 0 then (some 0)
  else ((jB_hasCell h b v3 v4).bind fun r2 =>
  if r2 = 0 then (some 0)
  else (if v3 < v1 then (some 0)
  else (if v4 < v2 then (some 0)
  else (some 1))))
set_option maxRecDepth 20000 in
set_option maxHeartbeats 2000000 in
theorem sB_hasPatch (G : JG) (h : AH) (b : Nat) (hb : b < nIn 0 3) (v1 : Int32) (v2 : Int32) (v3 : Int32) (v4 : Int32) : Mt G iB_hasPatch (rvI h) [.ref (G.ad 3 b), .int v1, .int v2, .int v3, .int v4] h (jB_hasPatch h b v1 v2 v3 v4) := by
  refine Mt_of (by decide) (Nat.le_of_ble_eq_true rfl) ?_
  unfold jB_hasPatch
  show Sim G iB_hasPatch (rvI h) 0 [(0, .ref (G.ad 3 b)), (1, .int v1), (2, .int v2), (3, .int v3), (4, .int v4)] [] h _
  refine E_aload_n dX0_hasPatch_0 rfl 0 rfl ?_
  refine E_iload_n dX0_hasPatch_1 rfl 1 rfl ?_
  refine E_iload_n dX0_hasPatch_2 rfl 2 rfl ?_
  refine E_cVI (As := [.int v1, .int v2]) (rest := []) (sB_hasCell G h b hb v1 v2) ck_X0_hasCell lk_X0_76 rfl rfl kc_3 hb rfl rfl rfl dX0_hasPatch_3 (fun r1 _ => ?_)
  refine E_if_eq (t := 34) dX0_hasPatch_6 rfl ?_ ?_
  · refine E_iconst (v := 0) dX0_hasPatch_34 rfl ?_
    exact E_zret rfl rfl rfl dX0_hasPatch_35
  · refine E_aload_n dX0_hasPatch_9 rfl 0 rfl ?_
    refine E_iload_n dX0_hasPatch_10 rfl 3 rfl ?_
    refine E_iload dX0_hasPatch_11 4 rfl ?_
    refine E_cVI (As := [.int v3, .int v4]) (rest := []) (sB_hasCell G h b hb v3 v4) ck_X0_hasCell lk_X0_76 rfl rfl kc_3 hb rfl rfl rfl dX0_hasPatch_13 (fun r2 _ => ?_)
    refine E_if_eq (t := 34) dX0_hasPatch_16 rfl ?_ ?_
    · refine E_iconst (v := 0) dX0_hasPatch_34 rfl ?_
      exact E_zret rfl rfl rfl dX0_hasPatch_35
    · refine E_iload_n dX0_hasPatch_19 rfl 3 rfl ?_
      refine E_iload_n dX0_hasPatch_20 rfl 1 rfl ?_
      refine E_icmp_lt (t := 34) dX0_hasPatch_21 rfl ?_ ?_
      · refine E_iconst (v := 0) dX0_hasPatch_34 rfl ?_
        exact E_zret rfl rfl rfl dX0_hasPatch_35
      · refine E_iload dX0_hasPatch_24 4 rfl ?_
        refine E_iload_n dX0_hasPatch_26 rfl 2 rfl ?_
        refine E_icmp_lt (t := 34) dX0_hasPatch_27 rfl ?_ ?_
        · refine E_iconst (v := 0) dX0_hasPatch_34 rfl ?_
          exact E_zret rfl rfl rfl dX0_hasPatch_35
        · refine E_iconst (v := 1) dX0_hasPatch_30 rfl ?_
          refine E_goto (t := 35) dX0_hasPatch_31 rfl ?_
          exact E_zret rfl rfl rfl dX0_hasPatch_35
def iB_isFaded : MI := (yX0_isFaded, cX0_isFaded, 3, (some .boolean), { frames := 1, cells := 0, slots := 0, locals := 21 }, 0)
theorem ck_X0_isFaded : CK iB_isFaded 2 := ⟨⟨wd_107, wd_711, by decide +kernel⟩, ⟨wd_709, wd_710⟩⟩
def jB_isFaded (h : AH) (b : Nat) (v1 : Int32) (v2 : Int32) : Option (Int32) :=
  (jB_hasColour h b v1).bind fun r1 =>
  if r1 = 0 then (some 0)
  else (if inb v1 5 = true then (
  if (gI h 6 b v1.toNatClampNeg) = 0 then (some 0)
  else (if inb v1 5 = true then (
  if v2 < (gI h 6 b v1.toNatClampNeg) then (some 0)
  else (some 1)) else none)) else none)
set_option maxRecDepth 20000 in
set_option maxHeartbeats 2000000 in
theorem sB_isFaded (G : JG) (h : AH) (b : Nat) (hb : b < nIn 0 3) (v1 : Int32) (v2 : Int32) : Mt G iB_isFaded (rvI h) [.ref (G.ad 3 b), .int v1, .int v2] h (jB_isFaded h b v1 v2) := by
  refine Mt_of (by decide) (Nat.le_of_ble_eq_true rfl) ?_
  unfold jB_isFaded
  show Sim G iB_isFaded (rvI h) 0 [(0, .ref (G.ad 3 b)), (1, .int v1), (2, .int v2)] [] h _
  refine E_aload_n dX0_isFaded_0 rfl 0 rfl ?_
  refine E_iload_n dX0_isFaded_1 rfl 1 rfl ?_
  refine E_cVI (As := [.int v1]) (rest := []) (sB_hasColour G h b hb v1) ck_X0_hasColour lk_X0_84 rfl rfl kc_3 hb rfl rfl rfl dX0_isFaded_2 (fun r1 _ => ?_)
  refine E_if_eq (t := 31) dX0_isFaded_5 rfl ?_ ?_
  · refine E_iconst (v := 0) dX0_isFaded_31 rfl ?_
    exact E_zret rfl rfl rfl dX0_isFaded_32
  · refine E_aload_n dX0_isFaded_8 rfl 0 rfl ?_
    refine E_getS fl_X0_19 dX0_isFaded_9 hb ?_
    refine E_iload_n dX0_isFaded_12 rfl 1 rfl ?_
    refine E_iald (n := 5) rfl dX0_isFaded_13 hb (fun _ => ?_)
    refine E_if_eq (t := 31) dX0_isFaded_14 rfl ?_ ?_
    · refine E_iconst (v := 0) dX0_isFaded_31 rfl ?_
      exact E_zret rfl rfl rfl dX0_isFaded_32
    · refine E_iload_n dX0_isFaded_17 rfl 2 rfl ?_
      refine E_aload_n dX0_isFaded_18 rfl 0 rfl ?_
      refine E_getS fl_X0_19 dX0_isFaded_19 hb ?_
      refine E_iload_n dX0_isFaded_22 rfl 1 rfl ?_
      refine E_iald (n := 5) rfl dX0_isFaded_23 hb (fun _ => ?_)
      refine E_icmp_lt (t := 31) dX0_isFaded_24 rfl ?_ ?_
      · refine E_iconst (v := 0) dX0_isFaded_31 rfl ?_
        exact E_zret rfl rfl rfl dX0_isFaded_32
      · refine E_iconst (v := 1) dX0_isFaded_27 rfl ?_
        refine E_goto (t := 32) dX0_isFaded_28 rfl ?_
        exact E_zret rfl rfl rfl dX0_isFaded_32
def iB_isTold : MI := (yX0_isTold, cX0_isTold, 1, (some .boolean), { frames := 0, cells := 0, slots := 0, locals := 0 }, 0)
theorem ck_X0_isTold : CK iB_isTold 0 := ⟨⟨wd_107, wd_482, by decide +kernel⟩, ⟨wd_480, wd_481⟩⟩
def jB_isTold (h : AH) (b : Nat) : Option (Int32) :=
  if (gI h 3 b 0) ≤ 0 then (some 0)
  else (some 1)
set_option maxRecDepth 20000 in
set_option maxHeartbeats 2000000 in
theorem sB_isTold (G : JG) (h : AH) (b : Nat) (hb : b < nIn 0 3) : Mt G iB_isTold (rvI h) [.ref (G.ad 3 b)] h (jB_isTold h b) := by
  refine Mt_of (by decide) (Nat.le_of_ble_eq_true rfl) ?_
  unfold jB_isTold
  show Sim G iB_isTold (rvI h) 0 [(0, .ref (G.ad 3 b))] [] h _
  refine E_aload_n dX0_isTold_0 rfl 0 rfl ?_
  refine E_getI fl_X0_40 dX0_isTold_1 hb ?_
  refine E_if_le (t := 11) dX0_isTold_4 rfl ?_ ?_
  · refine E_iconst (v := 0) dX0_isTold_11 rfl ?_
    exact E_zret rfl rfl rfl dX0_isTold_12
  · refine E_iconst (v := 1) dX0_isTold_7 rfl ?_
    refine E_goto (t := 12) dX0_isTold_8 rfl ?_
    exact E_zret rfl rfl rfl dX0_isTold_12
def iX_firstOf : MI := (yX8_firstOf, cX8_firstOf, 1, (some .int), { frames := 1, cells := 0, slots := 0, locals := 20 }, 0)
theorem ck_X8_firstOf : CS iX_firstOf 1 := ⟨⟨wd_105, wd_855, by decide +kernel⟩, wd_854⟩
def jX_firstOf (v0 : Int32) : Option (Int32) :=
  if v0 = 0 then (some (-1))
  else ((jJ_bitCount ((v0 &&& (-v0)) - 1)).bind fun r1 =>
  some r1)
set_option maxRecDepth 20000 in
set_option maxHeartbeats 2000000 in
theorem sX_firstOf (G : JG) (h : AH) (v0 : Int32) : Mt G iX_firstOf (rvI h) [.int v0] h (jX_firstOf v0) := by
  refine Mt_of (by decide) (Nat.le_of_ble_eq_true rfl) ?_
  unfold jX_firstOf
  show Sim G iX_firstOf (rvI h) 0 [(0, .int v0)] [] h _
  refine E_iload_n dX8_firstOf_0 rfl 0 rfl ?_
  refine E_if_ne (t := 8) dX8_firstOf_1 rfl ?_ ?_
  · refine E_iload_n dX8_firstOf_8 rfl 0 rfl ?_
    refine E_iload_n dX8_firstOf_9 rfl 0 rfl ?_
    refine E_ineg dX8_firstOf_10 ?_
    refine E_iand dX8_firstOf_11 ?_
    refine E_iconst (v := 1) dX8_firstOf_12 rfl ?_
    refine E_isub dX8_firstOf_13 ?_
    refine E_cSI (As := [.int ((v0 &&& (-v0)) - 1)]) (rest := []) (sJ_bitCount G h ((v0 &&& (-v0)) - 1)) ck_J6_bitCount_0f7a4 lk_X8_167 rfl rfl rfl rfl rfl dX8_firstOf_14 (fun r1 _ => ?_)
    exact E_iret rfl rfl dX8_firstOf_17
  · refine E_iconst (v := (-1)) dX8_firstOf_4 rfl ?_
    refine E_goto (t := 17) dX8_firstOf_5 rfl ?_
    exact E_iret rfl rfl dX8_firstOf_17
def iB_partStart : MI := (yX0_partStart, cX0_partStart, 5, (some .int), { frames := 2, cells := 0, slots := 0, locals := 47 }, 0)
theorem ck_X0_partStart : CK iB_partStart 2 := ⟨⟨wd_107, wd_859, by decide +kernel⟩, ⟨wd_857, wd_858⟩⟩
def jB_partStart_5 (h : AH) (b : Nat) (v2 : Int32) : Nat → Int32 → Int32 → Option (Int32)
  | 0, _, _ => none
  | n + 1, v3, v4 =>
    if v4 < v2 then ((jB_firstPart h b v3).bind fun r2 =>
    (jB_partStart_5 h b v2 n (v3 &&& (r2 ^^^ (-1))) (v4 + 1)))
    else ((jX_firstOf v3).bind fun r1 =>
    some r1)
set_option maxRecDepth 20000 in
set_option maxHeartbeats 2000000 in
theorem sB_partStart_5 (G : JG) (h : AH) (b : Nat) (hb : b < nIn 0 3) (v2 : Int32)  : ∀ (n : Nat) (v3 : Int32) (v4 : Int32), Sim G iB_partStart (rvI h) 5 [(0, .ref (G.ad 3 b)), (2, .int v2), (3, .int v3), (4, .int v4)] [] h (jB_partStart_5 h b v2 n v3 v4) := by
  intro n
  induction n with
  | zero => intro v3 v4; exact E_none
  | succ n ih =>
    intro v3 v4
    rw [jB_partStart_5]
    refine E_iload dX0_partStart_5 3 rfl ?_
    refine E_iload_n dX0_partStart_7 rfl 1 rfl ?_
    refine E_icmp_ge (t := 27) dX0_partStart_8 rfl ?_ ?_
    · refine E_iload_n dX0_partStart_27 rfl 2 rfl ?_
      refine E_cNI (host := "PaintedOve\x72") (As := [.int v3]) (rest := []) (sX_firstOf G h v3) ck_X8_firstOf (by decide) rfl rfl rfl rfl rfl dX0_partStart_28 (fun r1 _ => ?_)
      exact E_iret rfl rfl dX0_partStart_31
    · refine E_iload_n dX0_partStart_11 rfl 2 rfl ?_
      refine E_aload_n dX0_partStart_12 rfl 0 rfl ?_
      refine E_iload_n dX0_partStart_13 rfl 2 rfl ?_
      refine E_cVI (As := [.int v3]) (rest := [.int v3]) (sB_firstPart G h b hb v3) ck_X0_firstPart lk_X0_95 rfl rfl kc_3 hb rfl rfl rfl dX0_partStart_14 (fun r2 _ => ?_)
      refine E_iconst (v := (-1)) dX0_partStart_17 rfl ?_
      refine E_ixor dX0_partStart_18 ?_
      refine E_iand dX0_partStart_19 ?_
      refine E_istore_n (ls' := [(3, .int (v3 &&& (r2 ^^^ (-1)))), (0, .ref (G.ad 3 b)), (2, .int v2), (4, .int v4)]) dX0_partStart_20 rfl (Nat.le_of_ble_eq_true rfl) rfl ?_
      refine E_iinc (q := 3) (v := (v4 + 1)) (ls' := [(4, .int (v4 + 1)), (3, .int (v3 &&& (r2 ^^^ (-1)))), (0, .ref (G.ad 3 b)), (2, .int v2)]) dX0_partStart_21 rfl rfl (Nat.le_of_ble_eq_true rfl) rfl ?_
      refine E_goto (t := 5) dX0_partStart_24 rfl ?_
      exact E_sub [2, 3, 1, 0] rfl (ih (v3 &&& (r2 ^^^ (-1))) (v4 + 1))
def jB_partStart (h : AH) (b : Nat) (v1 : Int32) (v2 : Int32) : Option (Int32) :=
  (jB_partStart_5 h b v2 FU v1 0)
set_option maxRecDepth 20000 in
set_option maxHeartbeats 2000000 in
theorem sB_partStart (G : JG) (h : AH) (b : Nat) (hb : b < nIn 0 3) (v1 : Int32) (v2 : Int32) : Mt G iB_partStart (rvI h) [.ref (G.ad 3 b), .int v1, .int v2] h (jB_partStart h b v1 v2) := by
  refine Mt_of (by decide) (Nat.le_of_ble_eq_true rfl) ?_
  unfold jB_partStart
  show Sim G iB_partStart (rvI h) 0 [(0, .ref (G.ad 3 b)), (1, .int v1), (2, .int v2)] [] h _
  refine E_iload_n dX0_partStart_0 rfl 1 rfl ?_
  refine E_istore_n (ls' := [(3, .int v1), (0, .ref (G.ad 3 b)), (1, .int v1), (2, .int v2)]) dX0_partStart_1 rfl (Nat.le_of_ble_eq_true rfl) rfl ?_
  refine E_iconst (v := 0) dX0_partStart_2 rfl ?_
  refine E_istore (ls' := [(4, .int 0), (3, .int v1), (0, .ref (G.ad 3 b)), (1, .int v1), (2, .int v2)]) dX0_partStart_3 (Nat.le_of_ble_eq_true rfl) rfl ?_
  exact E_sub [2, 4, 1, 0] rfl (sB_partStart_5 G h b hb v2 FU v1 0)
def iB_partsOf : MI := (yX0_partsOf, cX0_partsOf, 5, (some .int), { frames := 2, cells := 0, slots := 0, locals := 47 }, 0)
theorem ck_X0_partsOf : CK iB_partsOf 1 := ⟨⟨wd_107, wd_804, by decide +kernel⟩, ⟨wd_802, wd_803⟩⟩
def jB_partsOf_7 (h : AH) (b : Nat) : Nat → Int32 → Int32 → Int32 → Option (Int32)
  | 0, _, _, _ => none
  | n + 1, v2, v3, v4 =>
    if v4 < 24 then (if v2 = 0 then (some v3)
    else ((jB_firstPart h b v2).bind fun r1 =>
    (jB_partsOf_7 h b n (v2 &&& (r1 ^^^ (-1))) (v3 + 1) (v4 + 1))))
    else (some v3)
set_option maxRecDepth 20000 in
set_option maxHeartbeats 2000000 in
theorem sB_partsOf_7 (G : JG) (h : AH) (b : Nat) (hb : b < nIn 0 3)  : ∀ (n : Nat) (v2 : Int32) (v3 : Int32) (v4 : Int32), Sim G iB_partsOf (rvI h) 7 [(0, .ref (G.ad 3 b)), (2, .int v2), (3, .int v3), (4, .int v4)] [] h (jB_partsOf_7 h b n v2 v3 v4) := by
  intro n
  induction n with
  | zero => intro v2 v3 v4; exact E_none
  | succ n ih =>
    intro v2 v3 v4
    rw [jB_partsOf_7]
    refine E_iload dX0_partsOf_7 3 rfl ?_
    refine E_bipush (v := 24) dX0_partsOf_9 rfl ?_
    refine E_icmp_ge (t := 37) dX0_partsOf_11 rfl ?_ ?_
    · refine E_iload_n dX0_partsOf_37 rfl 2 rfl ?_
      exact E_iret rfl rfl dX0_partsOf_38
    · refine E_iload_n dX0_partsOf_14 rfl 1 rfl ?_
      refine E_if_eq (t := 37) dX0_partsOf_15 rfl ?_ ?_
      · refine E_iload_n dX0_partsOf_37 rfl 2 rfl ?_
        exact E_iret rfl rfl dX0_partsOf_38
      · refine E_iload_n dX0_partsOf_18 rfl 1 rfl ?_
        refine E_aload_n dX0_partsOf_19 rfl 0 rfl ?_
        refine E_iload_n dX0_partsOf_20 rfl 1 rfl ?_
        refine E_cVI (As := [.int v2]) (rest := [.int v2]) (sB_firstPart G h b hb v2) ck_X0_firstPart lk_X0_95 rfl rfl kc_3 hb rfl rfl rfl dX0_partsOf_21 (fun r1 _ => ?_)
        refine E_iconst (v := (-1)) dX0_partsOf_24 rfl ?_
        refine E_ixor dX0_partsOf_25 ?_
        refine E_iand dX0_partsOf_26 ?_
        refine E_istore_n (ls' := [(2, .int (v2 &&& (r1 ^^^ (-1)))), (0, .ref (G.ad 3 b)), (3, .int v3), (4, .int v4)]) dX0_partsOf_27 rfl (Nat.le_of_ble_eq_true rfl) rfl ?_
        refine E_iinc (q := 2) (v := (v3 + 1)) (ls' := [(3, .int (v3 + 1)), (2, .int (v2 &&& (r1 ^^^ (-1)))), (0, .ref (G.ad 3 b)), (4, .int v4)]) dX0_partsOf_28 rfl rfl (Nat.le_of_ble_eq_true rfl) rfl ?_
        refine E_iinc (q := 3) (v := (v4 + 1)) (ls' := [(4, .int (v4 + 1)), (3, .int (v3 + 1)), (2, .int (v2 &&& (r1 ^^^ (-1)))), (0, .ref (G.ad 3 b))]) dX0_partsOf_31 rfl rfl (Nat.le_of_ble_eq_true rfl) rfl ?_
        refine E_goto (t := 7) dX0_partsOf_34 rfl ?_
        exact E_sub [3, 2, 1, 0] rfl (ih (v2 &&& (r1 ^^^ (-1))) (v3 + 1) (v4 + 1))
def jB_partsOf (h : AH) (b : Nat) (v1 : Int32) : Option (Int32) :=
  (jB_partsOf_7 h b FU v1 0 0)
set_option maxRecDepth 20000 in
set_option maxHeartbeats 2000000 in
theorem sB_partsOf (G : JG) (h : AH) (b : Nat) (hb : b < nIn 0 3) (v1 : Int32) : Mt G iB_partsOf (rvI h) [.ref (G.ad 3 b), .int v1] h (jB_partsOf h b v1) := by
  refine Mt_of (by decide) (Nat.le_of_ble_eq_true rfl) ?_
  unfold jB_partsOf
  show Sim G iB_partsOf (rvI h) 0 [(0, .ref (G.ad 3 b)), (1, .int v1)] [] h _
  refine E_iload_n dX0_partsOf_0 rfl 1 rfl ?_
  refine E_istore_n (ls' := [(2, .int v1), (0, .ref (G.ad 3 b)), (1, .int v1)]) dX0_partsOf_1 rfl (Nat.le_of_ble_eq_true rfl) rfl ?_
  refine E_iconst (v := 0) dX0_partsOf_2 rfl ?_
  refine E_istore_n (ls' := [(3, .int 0), (2, .int v1), (0, .ref (G.ad 3 b)), (1, .int v1)]) dX0_partsOf_3 rfl (Nat.le_of_ble_eq_true rfl) rfl ?_
  refine E_iconst (v := 0) dX0_partsOf_4 rfl ?_
  refine E_istore (ls' := [(4, .int 0), (3, .int 0), (2, .int v1), (0, .ref (G.ad 3 b)), (1, .int v1)]) dX0_partsOf_5 (Nat.le_of_ble_eq_true rfl) rfl ?_
  exact E_sub [3, 2, 1, 0] rfl (sB_partsOf_7 G h b hb FU v1 0 0)
def iB_patchCells : MI := (yX0_patchCells, cX0_patchCells, 8, (some .int), { frames := 1, cells := 0, slots := 0, locals := 22 }, 0)
theorem ck_X0_patchCells : CK iB_patchCells 4 := ⟨⟨wd_107, wd_601, by decide +kernel⟩, ⟨wd_599, wd_600⟩⟩
def jB_patchCells_25 (h : AH) (b : Nat) (v1 : Int32) (v3 : Int32) (v4 : Int32) (k_6 : Int32 → Int32 → Option Int32) : Nat → Int32 → Int32 → Int32 → Option (Int32)
  | 0, _, _, _ => none
  | n + 1, v5, v6, v7 =>
    if v7 ≤ v3 then (if v7 < (gI h 3 b 0) then ((jB_cellAt h b v7 v6).bind fun r1 =>
    (jB_patchCells_25 h b v1 v3 v4 k_6 n (v5 ||| ((1 : Int32) <<< (r1 &&& 31))) v6 (v7 + 1)))
    else ((k_6 v5 (v6 + 1))))
    else ((k_6 v5 (v6 + 1)))
set_option maxRecDepth 20000 in
set_option maxHeartbeats 2000000 in
theorem sB_patchCells_25 (G : JG) (h : AH) (b : Nat) (hb : b < nIn 0 3) (v1 : Int32) (v3 : Int32) (v4 : Int32) (k_6 : Int32 → Int32 → Option Int32) (hk_6 : ∀ (v5 : Int32) (v6 : Int32), Sim G iB_patchCells (rvI h) 6 [(0, .ref (G.ad 3 b)), (1, .int v1), (3, .int v3), (4, .int v4), (5, .int v5), (6, .int v6)] [] h (k_6 v5 v6)) : ∀ (n : Nat) (v5 : Int32) (v6 : Int32) (v7 : Int32), Sim G iB_patchCells (rvI h) 25 [(0, .ref (G.ad 3 b)), (1, .int v1), (3, .int v3), (4, .int v4), (5, .int v5), (6, .int v6), (7, .int v7)] [] h (jB_patchCells_25 h b v1 v3 v4 k_6 n v5 v6 v7) := by
  intro n
  induction n with
  | zero => intro v5 v6 v7; exact E_none
  | succ n ih =>
    intro v5 v6 v7
    rw [jB_patchCells_25]
    refine E_iload dX0_patchCells_25 6 rfl ?_
    refine E_iload_n dX0_patchCells_27 rfl 2 rfl ?_
    refine E_icmp_gt (t := 61) dX0_patchCells_28 rfl ?_ ?_
    · refine E_iinc (q := 5) (v := (v6 + 1)) (ls' := [(6, .int (v6 + 1)), (0, .ref (G.ad 3 b)), (1, .int v1), (3, .int v3), (4, .int v4), (5, .int v5), (7, .int v7)]) dX0_patchCells_61 rfl rfl (Nat.le_of_ble_eq_true rfl) rfl ?_
      refine E_goto (t := 6) dX0_patchCells_64 rfl ?_
      exact E_sub [1, 2, 3, 4, 5, 0] rfl (hk_6 v5 (v6 + 1))
    · refine E_iload dX0_patchCells_31 6 rfl ?_
      refine E_aload_n dX0_patchCells_33 rfl 0 rfl ?_
      refine E_getI fl_X0_40 dX0_patchCells_34 hb ?_
      refine E_icmp_ge (t := 61) dX0_patchCells_37 rfl ?_ ?_
      · refine E_iinc (q := 5) (v := (v6 + 1)) (ls' := [(6, .int (v6 + 1)), (0, .ref (G.ad 3 b)), (1, .int v1), (3, .int v3), (4, .int v4), (5, .int v5), (7, .int v7)]) dX0_patchCells_61 rfl rfl (Nat.le_of_ble_eq_true rfl) rfl ?_
        refine E_goto (t := 6) dX0_patchCells_64 rfl ?_
        exact E_sub [1, 2, 3, 4, 5, 0] rfl (hk_6 v5 (v6 + 1))
      · refine E_iload dX0_patchCells_40 4 rfl ?_
        refine E_iconst (v := 1) dX0_patchCells_42 rfl ?_
        refine E_aload_n dX0_patchCells_43 rfl 0 rfl ?_
        refine E_iload dX0_patchCells_44 6 rfl ?_
        refine E_iload dX0_patchCells_46 5 rfl ?_
        refine E_cVI (As := [.int v7, .int v6]) (rest := [.int 1, .int v5]) (sB_cellAt G h b hb v7 v6) ck_X0_cellAt lk_X0_80 rfl rfl kc_3 hb rfl rfl rfl dX0_patchCells_48 (fun r1 _ => ?_)
        refine E_ishl dX0_patchCells_51 ?_
        refine E_ior dX0_patchCells_52 ?_
        refine E_istore (ls' := [(5, .int (v5 ||| ((1 : Int32) <<< (r1 &&& 31)))), (0, .ref (G.ad 3 b)), (1, .int v1), (3, .int v3), (4, .int v4), (6, .int v6), (7, .int v7)]) dX0_patchCells_53 (Nat.le_of_ble_eq_true rfl) rfl ?_
        refine E_iinc (q := 6) (v := (v7 + 1)) (ls' := [(7, .int (v7 + 1)), (5, .int (v5 ||| ((1 : Int32) <<< (r1 &&& 31)))), (0, .ref (G.ad 3 b)), (1, .int v1), (3, .int v3), (4, .int v4), (6, .int v6)]) dX0_patchCells_55 rfl rfl (Nat.le_of_ble_eq_true rfl) rfl ?_
        refine E_goto (t := 25) dX0_patchCells_58 rfl ?_
        exact E_sub [2, 3, 4, 5, 1, 6, 0] rfl (ih (v5 ||| ((1 : Int32) <<< (r1 &&& 31))) v6 (v7 + 1))
def jB_patchCells_6 (h : AH) (b : Nat) (v1 : Int32) (v3 : Int32) (v4 : Int32) : Nat → Int32 → Int32 → Option (Int32)
  | 0, _, _ => none
  | n + 1, v5, v6 =>
    if v6 ≤ v4 then (if v6 < (gI h 3 b 1) then ((jB_patchCells_25 h b v1 v3 v4 (jB_patchCells_6 h b v1 v3 v4 n) FU v5 v6 v1))
    else (some v5))
    else (some v5)
set_option maxRecDepth 20000 in
set_option maxHeartbeats 2000000 in
theorem sB_patchCells_6 (G : JG) (h : AH) (b : Nat) (hb : b < nIn 0 3) (v1 : Int32) (v3 : Int32) (v4 : Int32)  : ∀ (n : Nat) (v5 : Int32) (v6 : Int32), Sim G iB_patchCells (rvI h) 6 [(0, .ref (G.ad 3 b)), (1, .int v1), (3, .int v3), (4, .int v4), (5, .int v5), (6, .int v6)] [] h (jB_patchCells_6 h b v1 v3 v4 n v5 v6) := by
  intro n
  induction n with
  | zero => intro v5 v6; exact E_none
  | succ n ih =>
    intro v5 v6
    rw [jB_patchCells_6]
    refine E_iload dX0_patchCells_6 5 rfl ?_
    refine E_iload dX0_patchCells_8 3 rfl ?_
    refine E_icmp_gt (t := 67) dX0_patchCells_10 rfl ?_ ?_
    · refine E_iload dX0_patchCells_67 4 rfl ?_
      exact E_iret rfl rfl dX0_patchCells_69
    · refine E_iload dX0_patchCells_13 5 rfl ?_
      refine E_aload_n dX0_patchCells_15 rfl 0 rfl ?_
      refine E_getI fl_X0_44 dX0_patchCells_16 hb ?_
      refine E_icmp_ge (t := 67) dX0_patchCells_19 rfl ?_ ?_
      · refine E_iload dX0_patchCells_67 4 rfl ?_
        exact E_iret rfl rfl dX0_patchCells_69
      · refine E_iload_n dX0_patchCells_22 rfl 1 rfl ?_
        refine E_istore (ls' := [(7, .int v1), (0, .ref (G.ad 3 b)), (1, .int v1), (3, .int v3), (4, .int v4), (5, .int v5), (6, .int v6)]) dX0_patchCells_23 (Nat.le_of_ble_eq_true rfl) rfl ?_
        exact E_sub [1, 2, 3, 4, 5, 6, 0] rfl (sB_patchCells_25 G h b hb v1 v3 v4 (jB_patchCells_6 h b v1 v3 v4 n) ih FU v5 v6 v1)
def jB_patchCells (h : AH) (b : Nat) (v1 : Int32) (v2 : Int32) (v3 : Int32) (v4 : Int32) : Option (Int32) :=
  (jB_patchCells_6 h b v1 v3 v4 FU 0 v2)
set_option maxRecDepth 20000 in
set_option maxHeartbeats 2000000 in
theorem sB_patchCells (G : JG) (h : AH) (b : Nat) (hb : b < nIn 0 3) (v1 : Int32) (v2 : Int32) (v3 : Int32) (v4 : Int32) : Mt G iB_patchCells (rvI h) [.ref (G.ad 3 b), .int v1, .int v2, .int v3, .int v4] h (jB_patchCells h b v1 v2 v3 v4) := by
  refine Mt_of (by decide) (Nat.le_of_ble_eq_true rfl) ?_
  unfold jB_patchCells
  show Sim G iB_patchCells (rvI h) 0 [(0, .ref (G.ad 3 b)), (1, .int v1), (2, .int v2), (3, .int v3), (4, .int v4)] [] h _
  refine E_iconst (v := 0) dX0_patchCells_0 rfl ?_
  refine E_istore (ls' := [(5, .int 0), (0, .ref (G.ad 3 b)), (1, .int v1), (2, .int v2), (3, .int v3), (4, .int v4)]) dX0_patchCells_1 (Nat.le_of_ble_eq_true rfl) rfl ?_
  refine E_iload_n dX0_patchCells_3 rfl 3 rfl ?_
  refine E_istore (ls' := [(6, .int v2), (5, .int 0), (0, .ref (G.ad 3 b)), (1, .int v1), (2, .int v2), (3, .int v3), (4, .int v4)]) dX0_patchCells_4 (Nat.le_of_ble_eq_true rfl) rfl ?_
  exact E_sub [2, 3, 5, 6, 1, 0] rfl (sB_patchCells_6 G h b hb v1 v3 v4 FU 0 v2)
def iB_thickOf : MI := (yX0_thickOf, cX0_thickOf, 2, (some .int), { frames := 1, cells := 0, slots := 0, locals := 21 }, 0)
theorem ck_X0_thickOf : CK iB_thickOf 1 := ⟨⟨wd_107, wd_740, by decide +kernel⟩, ⟨wd_738, wd_739⟩⟩
def jB_thickOf (h : AH) (b : Nat) (v1 : Int32) : Option (Int32) :=
  (jB_hasColour h b v1).bind fun r1 =>
  if r1 = 0 then (some 0)
  else (if inb v1 5 = true then (
  some (gI h 5 b v1.toNatClampNeg)) else none)
set_option maxRecDepth 20000 in
set_option maxHeartbeats 2000000 in
theorem sB_thickOf (G : JG) (h : AH) (b : Nat) (hb : b < nIn 0 3) (v1 : Int32) : Mt G iB_thickOf (rvI h) [.ref (G.ad 3 b), .int v1] h (jB_thickOf h b v1) := by
  refine Mt_of (by decide) (Nat.le_of_ble_eq_true rfl) ?_
  unfold jB_thickOf
  show Sim G iB_thickOf (rvI h) 0 [(0, .ref (G.ad 3 b)), (1, .int v1)] [] h _
  refine E_aload_n dX0_thickOf_0 rfl 0 rfl ?_
  refine E_iload_n dX0_thickOf_1 rfl 1 rfl ?_
  refine E_cVI (As := [.int v1]) (rest := []) (sB_hasColour G h b hb v1) ck_X0_hasColour lk_X0_84 rfl rfl kc_3 hb rfl rfl rfl dX0_thickOf_2 (fun r1 _ => ?_)
  refine E_if_eq (t := 17) dX0_thickOf_5 rfl ?_ ?_
  · refine E_iconst (v := 0) dX0_thickOf_17 rfl ?_
    exact E_iret rfl rfl dX0_thickOf_18
  · refine E_aload_n dX0_thickOf_8 rfl 0 rfl ?_
    refine E_getS fl_X0_15 dX0_thickOf_9 hb ?_
    refine E_iload_n dX0_thickOf_12 rfl 1 rfl ?_
    refine E_iald (n := 5) rfl dX0_thickOf_13 hb (fun _ => ?_)
    refine E_goto (t := 18) dX0_thickOf_14 rfl ?_
    exact E_iret rfl rfl dX0_thickOf_18
def iB_want : MI := (yX0_want, cX0_want, 4, none, { frames := 0, cells := 0, slots := 0, locals := 0 }, 0)
theorem ck_X0_want : CK iB_want 2 := ⟨⟨wd_107, wd_609, by decide +kernel⟩, ⟨wd_607, wd_608⟩⟩
def jB_want_2 (b : Nat) (v1 : Int32) (v2 : Int32) : Nat → Int32 → AH → Option (AH)
  | 0, _, _ => none
  | n + 1, v3, h =>
    if v3 < 24 then (if ((v2 >>> (v3 &&& 31)) &&& 1) = 0 then ((jB_want_2 b v1 v2 n (v3 + 1) h))
    else (if inb v3 24 = true then (
    jb (uI h 12 b v3.toNatClampNeg v1) fun h1 =>
    (jB_want_2 b v1 v2 n (v3 + 1) h1)) else none))
    else (some h)
set_option maxRecDepth 20000 in
set_option maxHeartbeats 2000000 in
theorem sB_want_2 (G : JG) (b : Nat) (hb : b < nIn 0 3) (v1 : Int32) (v2 : Int32)  : ∀ (n : Nat) (v3 : Int32) (h : AH), Sim G iB_want rvV 2 [(0, .ref (G.ad 3 b)), (1, .int v1), (2, .int v2), (3, .int v3)] [] h (jB_want_2 b v1 v2 n v3 h) := by
  intro n
  induction n with
  | zero => intro v3 h; exact E_none
  | succ n ih =>
    intro v3 h
    rw [jB_want_2]
    refine E_iload_n dX0_want_2 rfl 3 rfl ?_
    refine E_bipush (v := 24) dX0_want_3 rfl ?_
    refine E_icmp_ge (t := 29) dX0_want_5 rfl ?_ ?_
    · exact E_vret rfl rfl dX0_want_29
    · refine E_iload_n dX0_want_8 rfl 2 rfl ?_
      refine E_iload_n dX0_want_9 rfl 3 rfl ?_
      refine E_ishr dX0_want_10 ?_
      refine E_iconst (v := 1) dX0_want_11 rfl ?_
      refine E_iand dX0_want_12 ?_
      refine E_if_eq (t := 23) dX0_want_13 rfl ?_ ?_
      · refine E_iinc (q := 3) (v := (v3 + 1)) (ls' := [(3, .int (v3 + 1)), (0, .ref (G.ad 3 b)), (1, .int v1), (2, .int v2)]) dX0_want_23 rfl rfl (Nat.le_of_ble_eq_true rfl) rfl ?_
        refine E_goto (t := 2) dX0_want_26 rfl ?_
        exact E_sub [1, 2, 3, 0] rfl (ih (v3 + 1) h)
      · refine E_aload_n dX0_want_16 rfl 0 rfl ?_
        refine E_getS fl_X0_37 dX0_want_17 hb ?_
        refine E_iload_n dX0_want_20 rfl 3 rfl ?_
        refine E_iload_n dX0_want_21 rfl 1 rfl ?_
        refine E_iast (n := 24) rfl dX0_want_22 hb (fun _ => ?_)
        refine E_hgen (fun h1 => ?_)
        refine E_iinc (q := 3) (v := (v3 + 1)) (ls' := [(3, .int (v3 + 1)), (0, .ref (G.ad 3 b)), (1, .int v1), (2, .int v2)]) dX0_want_23 rfl rfl (Nat.le_of_ble_eq_true rfl) rfl ?_
        refine E_goto (t := 2) dX0_want_26 rfl ?_
        exact E_sub [1, 2, 3, 0] rfl (ih (v3 + 1) h1)
def jB_want (h : AH) (b : Nat) (v1 : Int32) (v2 : Int32) : Option (AH) :=
  (jB_want_2 b v1 v2 FU 0 h)
set_option maxRecDepth 20000 in
set_option maxHeartbeats 2000000 in
theorem sB_want (G : JG) (h : AH) (b : Nat) (hb : b < nIn 0 3) (v1 : Int32) (v2 : Int32) : Mt G iB_want rvV [.ref (G.ad 3 b), .int v1, .int v2] h (jB_want h b v1 v2) := by
  refine Mt_of (by decide) (Nat.le_of_ble_eq_true rfl) ?_
  unfold jB_want
  show Sim G iB_want rvV 0 [(0, .ref (G.ad 3 b)), (1, .int v1), (2, .int v2)] [] h _
  refine E_iconst (v := 0) dX0_want_0 rfl ?_
  refine E_istore_n (ls' := [(3, .int 0), (0, .ref (G.ad 3 b)), (1, .int v1), (2, .int v2)]) dX0_want_1 rfl (Nat.le_of_ble_eq_true rfl) rfl ?_
  exact E_sub [1, 2, 3, 0] rfl (sB_want_2 G b hb v1 v2 FU 0 h)
