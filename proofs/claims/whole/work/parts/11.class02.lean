/-! ===== the class, 2 ===== -/
def iP_giveBack : MI := (yX3_giveBack, cX3_giveBack, 2, (some .boolean), { frames := 2, cells := 0, slots := 0, locals := 61 }, 0)
theorem ck_X3_giveBack : CK iP_giveBack 1 := ⟨⟨wd_110, wd_1126, by decide +kernel⟩, ⟨wd_1124, wd_1125⟩⟩
def jP_giveBack (h : AH) (w : Nat) : Option (Int32 × AH) :=
  if (gI h 21 0 0) = 0 then (some (0, h))
  else (jb (uI h 21 0 0 ((gI h 21 0 0) - 1)) fun h1 =>
  if 8 = 0 then none else (
  jb (uI h1 21 0 1 ((((gI h1 21 0 1) + 8) - 1) - ((((gI h1 21 0 1) + 8) - 1) / 8) * 8)) fun h2 =>
  if inb (gI h2 21 0 1) 8 = true then (
  (jW_become h2 w (2 + (gI h2 21 0 1).toNatClampNeg)).bind fun h4 =>
  some (1, h4)) else none))
set_option maxRecDepth 20000 in
set_option maxHeartbeats 2000000 in
theorem sP_giveBack (G : JG) (h : AH) (w : Nat) (hw : w < nIn 0 13) : Mt G iP_giveBack rvIM [.ref (G.ad 21 0), .ref (G.ad 13 w)] h (jP_giveBack h w) := by
  refine Mt_of (by decide) (Nat.le_of_ble_eq_true rfl) ?_
  unfold jP_giveBack
  show Sim G iP_giveBack rvIM 0 [(0, .ref (G.ad 21 0)), (1, .ref (G.ad 13 w))] [] h _
  refine E_aload_n dX3_giveBack_0 rfl 0 rfl ?_
  refine E_getI fl_X3_18 dX3_giveBack_1 z21 ?_
  refine E_if_ne (t := 9) dX3_giveBack_4 rfl ?_ ?_
  · refine E_aload_n dX3_giveBack_9 rfl 0 rfl ?_
    refine E_dup dX3_giveBack_10 rfl ?_
    refine E_getI fl_X3_18 dX3_giveBack_11 z21 ?_
    refine E_iconst (v := 1) dX3_giveBack_14 rfl ?_
    refine E_isub dX3_giveBack_15 ?_
    refine E_putI fs_X3_18 dX3_giveBack_16 z21 ?_
    refine E_hgen (fun h1 => ?_)
    refine E_aload_n dX3_giveBack_19 rfl 0 rfl ?_
    refine E_aload_n dX3_giveBack_20 rfl 0 rfl ?_
    refine E_getI fl_X3_22 dX3_giveBack_21 z21 ?_
    refine E_bipush (v := 8) dX3_giveBack_24 rfl ?_
    refine E_iadd dX3_giveBack_26 ?_
    refine E_iconst (v := 1) dX3_giveBack_27 rfl ?_
    refine E_isub dX3_giveBack_28 ?_
    refine E_bipush (v := 8) dX3_giveBack_29 rfl ?_
    refine E_irem dX3_giveBack_31 (fun _ => ?_)
    refine E_putI fs_X3_22 dX3_giveBack_32 z21 ?_
    refine E_hgen (fun h2 => ?_)
    refine E_aload_n dX3_giveBack_35 rfl 1 rfl ?_
    refine E_aload_n dX3_giveBack_36 rfl 0 rfl ?_
    refine E_getF fl_X3_11 dX3_giveBack_37 z21 ?_
    refine E_aload_n dX3_giveBack_40 rfl 0 rfl ?_
    refine E_getI fl_X3_22 dX3_giveBack_41 z21 ?_
    refine E_aald (n := 8) (b := 2) rfl dX3_giveBack_44 z22 (fun hz3 => ?_)
    refine E_cVV (As := [.ref (G.ad 13 (2 + (gI h2 21 0 1).toNatClampNeg))]) (rest := []) (sW_become G h2 w hw (2 + (gI h2 21 0 1).toNatClampNeg) (inb_lt hz3 (by decide))) ck_X7_become lk_X3_25 rfl rfl kc_13 hw rfl rfl rfl dX3_giveBack_45 (fun h4 _ => ?_)
    refine E_iconst (v := 1) dX3_giveBack_48 rfl ?_
    exact E_zret rfl rfl rfl dX3_giveBack_49
  · refine E_iconst (v := 0) dX3_giveBack_7 rfl ?_
    exact E_zret rfl rfl rfl dX3_giveBack_8
def iP_keep : MI := (yX3_keep, cX3_keep, 2, none, { frames := 2, cells := 0, slots := 0, locals := 61 }, 0)
theorem ck_X3_keep : CK iP_keep 1 := ⟨⟨wd_110, wd_1065, by decide +kernel⟩, ⟨wd_1063, wd_1064⟩⟩
def jP_keep (h : AH) (w : Nat) : Option (AH) :=
  if inb (gI h 21 0 1) 8 = true then (
  (jW_become h (2 + (gI h 21 0 1).toNatClampNeg) w).bind fun h2 =>
  if 8 = 0 then none else (
  jb (uI h2 21 0 1 (((gI h2 21 0 1) + 1) - (((gI h2 21 0 1) + 1) / 8) * 8)) fun h3 =>
  jb (uI h3 21 0 0 (mmin ((gI h3 21 0 0) + 1) 8)) fun h4 =>
  some h4)) else none
set_option maxRecDepth 20000 in
set_option maxHeartbeats 2000000 in
theorem sP_keep (G : JG) (h : AH) (w : Nat) (hw : w < nIn 0 13) : Mt G iP_keep rvV [.ref (G.ad 21 0), .ref (G.ad 13 w)] h (jP_keep h w) := by
  refine Mt_of (by decide) (Nat.le_of_ble_eq_true rfl) ?_
  unfold jP_keep
  show Sim G iP_keep rvV 0 [(0, .ref (G.ad 21 0)), (1, .ref (G.ad 13 w))] [] h _
  refine E_aload_n dX3_keep_0 rfl 0 rfl ?_
  refine E_getF fl_X3_11 dX3_keep_1 z21 ?_
  refine E_aload_n dX3_keep_4 rfl 0 rfl ?_
  refine E_getI fl_X3_22 dX3_keep_5 z21 ?_
  refine E_aald (n := 8) (b := 2) rfl dX3_keep_8 z22 (fun hz1 => ?_)
  refine E_aload_n dX3_keep_9 rfl 1 rfl ?_
  refine E_cVV (As := [.ref (G.ad 13 w)]) (rest := []) (sW_become G h (2 + (gI h 21 0 1).toNatClampNeg) (inb_lt hz1 (by decide)) w hw) ck_X7_become lk_X3_25 rfl rfl kc_13 (inb_lt hz1 (by decide)) rfl rfl rfl dX3_keep_10 (fun h2 _ => ?_)
  refine E_aload_n dX3_keep_13 rfl 0 rfl ?_
  refine E_aload_n dX3_keep_14 rfl 0 rfl ?_
  refine E_getI fl_X3_22 dX3_keep_15 z21 ?_
  refine E_iconst (v := 1) dX3_keep_18 rfl ?_
  refine E_iadd dX3_keep_19 ?_
  refine E_bipush (v := 8) dX3_keep_20 rfl ?_
  refine E_irem dX3_keep_22 (fun _ => ?_)
  refine E_putI fs_X3_22 dX3_keep_23 z21 ?_
  refine E_hgen (fun h3 => ?_)
  refine E_aload_n dX3_keep_26 rfl 0 rfl ?_
  refine E_aload_n dX3_keep_27 rfl 0 rfl ?_
  refine E_getI fl_X3_18 dX3_keep_28 z21 ?_
  refine E_iconst (v := 1) dX3_keep_31 rfl ?_
  refine E_iadd dX3_keep_32 ?_
  refine E_bipush (v := 8) dX3_keep_33 rfl ?_
  refine E_mmin lk_X3_29 wx_min1 wx_ma wx_min2 (by decide) (Nat.le_of_ble_eq_true rfl) dX3_keep_35 ?_
  refine E_putI fs_X3_18 dX3_keep_38 z21 ?_
  refine E_hgen (fun h4 => ?_)
  exact E_vret rfl rfl dX3_keep_41
def iQ_alikeBehind : MI := (yX4_alikeBehind, cX4_alikeBehind, 2, (some .int), { frames := 1, cells := 0, slots := 0, locals := 20 }, 0)
theorem ck_X4_alikeBehind : CK iQ_alikeBehind 1 := ⟨⟨wd_112, wd_993, by decide +kernel⟩, ⟨wd_991, wd_992⟩⟩
def jQ_alikeBehind (h : AH) (v1 : Int32) : Option (Int32) :=
  (jJ_bitCount (((gI h 28 0 7) &&& (v1 ^^^ (-1))) ||| ((gI h 28 0 8) &&& v1))).bind fun r1 =>
  some r1
set_option maxRecDepth 20000 in
set_option maxHeartbeats 2000000 in
theorem sQ_alikeBehind (G : JG) (h : AH) (v1 : Int32) : Mt G iQ_alikeBehind (rvI h) [.ref (G.ad 28 0), .int v1] h (jQ_alikeBehind h v1) := by
  refine Mt_of (by decide) (Nat.le_of_ble_eq_true rfl) ?_
  unfold jQ_alikeBehind
  show Sim G iQ_alikeBehind (rvI h) 0 [(0, .ref (G.ad 28 0)), (1, .int v1)] [] h _
  refine E_aload_n dX4_alikeBehind_0 rfl 0 rfl ?_
  refine E_getI fl_X4_56 dX4_alikeBehind_1 z28 ?_
  refine E_iload_n dX4_alikeBehind_4 rfl 1 rfl ?_
  refine E_iconst (v := (-1)) dX4_alikeBehind_5 rfl ?_
  refine E_ixor dX4_alikeBehind_6 ?_
  refine E_iand dX4_alikeBehind_7 ?_
  refine E_aload_n dX4_alikeBehind_8 rfl 0 rfl ?_
  refine E_getI fl_X4_59 dX4_alikeBehind_9 z28 ?_
  refine E_iload_n dX4_alikeBehind_12 rfl 1 rfl ?_
  refine E_iand dX4_alikeBehind_13 ?_
  refine E_ior dX4_alikeBehind_14 ?_
  refine E_cSI (As := [.int (((gI h 28 0 7) &&& (v1 ^^^ (-1))) ||| ((gI h 28 0 8) &&& v1))]) (rest := []) (sJ_bitCount G h (((gI h 28 0 7) &&& (v1 ^^^ (-1))) ||| ((gI h 28 0 8) &&& v1))) ck_J6_bitCount_0f7a4 lk_X4_94 rfl rfl rfl rfl rfl dX4_alikeBehind_15 (fun r1 _ => ?_)
  exact E_iret rfl rfl dX4_alikeBehind_18
def iW_below : MI := (yX7_below, cX7_below, 5, (some .int), { frames := 1, cells := 0, slots := 0, locals := 23 }, 0)
theorem ck_X7_below : CK iW_below 2 := ⟨⟨wd_108, wd_678, by decide +kernel⟩, ⟨wd_676, wd_677⟩⟩
def jW_below_10 (h : AH) (w : Nat) (v1 : Int32) (v2 : Int32) : Nat → Int32 → Int32 → Option (Int32)
  | 0, _, _ => none
  | n + 1, v3, v4 =>
    if v4 < 0 then (some (-2))
    else ((jW_colourAt h w v4 v1).bind fun r1 =>
    if r1 = (-2) then ((jW_below_10 h w v1 v2 n v3 (v4 + (-1))))
    else (if v3 = v2 then (some v4)
    else ((jW_below_10 h w v1 v2 n (v3 + 1) (v4 + (-1))))))
set_option maxRecDepth 20000 in
set_option maxHeartbeats 2000000 in
theorem sW_below_10 (G : JG) (h : AH) (w : Nat) (hw : w < nIn 0 13) (v1 : Int32) (v2 : Int32)  : ∀ (n : Nat) (v3 : Int32) (v4 : Int32), Sim G iW_below (rvI h) 10 [(0, .ref (G.ad 13 w)), (1, .int v1), (2, .int v2), (3, .int v3), (4, .int v4)] [] h (jW_below_10 h w v1 v2 n v3 v4) := by
  intro n
  induction n with
  | zero => intro v3 v4; exact E_none
  | succ n ih =>
    intro v3 v4
    rw [jW_below_10]
    refine E_iload dX7_below_10 4 rfl ?_
    refine E_if_lt (t := 44) dX7_below_12 rfl ?_ ?_
    · refine E_bipush (v := (-2)) dX7_below_44 rfl ?_
      exact E_iret rfl rfl dX7_below_46
    · refine E_aload_n dX7_below_15 rfl 0 rfl ?_
      refine E_iload dX7_below_16 4 rfl ?_
      refine E_iload_n dX7_below_18 rfl 1 rfl ?_
      refine E_cVI (As := [.int v4, .int v1]) (rest := []) (sW_colourAt G h w hw v4 v1) ck_X7_colourAt lk_X7_43 rfl rfl kc_13 hw rfl rfl rfl dX7_below_19 (fun r1 _ => ?_)
      refine E_bipush (v := (-2)) dX7_below_22 rfl ?_
      refine E_icmp_eq (t := 38) dX7_below_24 rfl ?_ ?_
      · refine E_iinc (q := 4) (v := (v4 + (-1))) (ls' := [(4, .int (v4 + (-1))), (0, .ref (G.ad 13 w)), (1, .int v1), (2, .int v2), (3, .int v3)]) dX7_below_38 rfl rfl (Nat.le_of_ble_eq_true rfl) rfl ?_
        refine E_goto (t := 10) dX7_below_41 rfl ?_
        exact E_sub [1, 2, 3, 4, 0] rfl (ih v3 (v4 + (-1)))
      · refine E_iload_n dX7_below_27 rfl 3 rfl ?_
        refine E_iload_n dX7_below_28 rfl 2 rfl ?_
        refine E_icmp_ne (t := 35) dX7_below_29 rfl ?_ ?_
        · refine E_iinc (q := 3) (v := (v3 + 1)) (ls' := [(3, .int (v3 + 1)), (0, .ref (G.ad 13 w)), (1, .int v1), (2, .int v2), (4, .int v4)]) dX7_below_35 rfl rfl (Nat.le_of_ble_eq_true rfl) rfl ?_
          refine E_iinc (q := 4) (v := (v4 + (-1))) (ls' := [(4, .int (v4 + (-1))), (3, .int (v3 + 1)), (0, .ref (G.ad 13 w)), (1, .int v1), (2, .int v2)]) dX7_below_38 rfl rfl (Nat.le_of_ble_eq_true rfl) rfl ?_
          refine E_goto (t := 10) dX7_below_41 rfl ?_
          exact E_sub [2, 3, 4, 1, 0] rfl (ih (v3 + 1) (v4 + (-1)))
        · refine E_iload dX7_below_32 4 rfl ?_
          exact E_iret rfl rfl dX7_below_34
def jW_below (h : AH) (w : Nat) (v1 : Int32) (v2 : Int32) : Option (Int32) :=
  (jW_below_10 h w v1 v2 FU 0 ((gI h 13 w 0) - 1))
set_option maxRecDepth 20000 in
set_option maxHeartbeats 2000000 in
theorem sW_below (G : JG) (h : AH) (w : Nat) (hw : w < nIn 0 13) (v1 : Int32) (v2 : Int32) : Mt G iW_below (rvI h) [.ref (G.ad 13 w), .int v1, .int v2] h (jW_below h w v1 v2) := by
  refine Mt_of (by decide) (Nat.le_of_ble_eq_true rfl) ?_
  unfold jW_below
  show Sim G iW_below (rvI h) 0 [(0, .ref (G.ad 13 w)), (1, .int v1), (2, .int v2)] [] h _
  refine E_iconst (v := 0) dX7_below_0 rfl ?_
  refine E_istore_n (ls' := [(3, .int 0), (0, .ref (G.ad 13 w)), (1, .int v1), (2, .int v2)]) dX7_below_1 rfl (Nat.le_of_ble_eq_true rfl) rfl ?_
  refine E_aload_n dX7_below_2 rfl 1 rfl ?_
  refine E_getI fl_X7_21 dX7_below_3 hw ?_
  refine E_iconst (v := 1) dX7_below_6 rfl ?_
  refine E_isub dX7_below_7 ?_
  refine E_istore (ls' := [(4, .int ((gI h 13 w 0) - 1)), (3, .int 0), (0, .ref (G.ad 13 w)), (1, .int v1), (2, .int v2)]) dX7_below_8 (Nat.le_of_ble_eq_true rfl) rfl ?_
  exact E_sub [2, 3, 4, 1, 0] rfl (sW_below_10 G h w hw v1 v2 FU 0 ((gI h 13 w 0) - 1))
def iW_shownAt : MI := (yX7_shownAt, cX7_shownAt, 2, (some .int), { frames := 2, cells := 0, slots := 0, locals := 47 }, 0)
theorem ck_X7_shownAt : CK iW_shownAt 1 := ⟨⟨wd_108, wd_674, by decide +kernel⟩, ⟨wd_672, wd_673⟩⟩
def jW_shownAt (h : AH) (w : Nat) (v1 : Int32) : Option (Int32) :=
  (jW_below h w v1 0).bind fun r1 =>
  (jW_colourAt h w r1 v1).bind fun r2 =>
  some r2
set_option maxRecDepth 20000 in
set_option maxHeartbeats 2000000 in
theorem sW_shownAt (G : JG) (h : AH) (w : Nat) (hw : w < nIn 0 13) (v1 : Int32) : Mt G iW_shownAt (rvI h) [.ref (G.ad 13 w), .int v1] h (jW_shownAt h w v1) := by
  refine Mt_of (by decide) (Nat.le_of_ble_eq_true rfl) ?_
  unfold jW_shownAt
  show Sim G iW_shownAt (rvI h) 0 [(0, .ref (G.ad 13 w)), (1, .int v1)] [] h _
  refine E_aload_n dX7_shownAt_0 rfl 0 rfl ?_
  refine E_aload_n dX7_shownAt_1 rfl 0 rfl ?_
  refine E_iload_n dX7_shownAt_2 rfl 1 rfl ?_
  refine E_iconst (v := 0) dX7_shownAt_3 rfl ?_
  refine E_cVI (As := [.int v1, .int 0]) (rest := [.ref (G.ad 13 w)]) (sW_below G h w hw v1 0) ck_X7_below lk_X7_47 rfl rfl kc_13 hw rfl rfl rfl dX7_shownAt_4 (fun r1 _ => ?_)
  refine E_iload_n dX7_shownAt_7 rfl 1 rfl ?_
  refine E_cVI (As := [.int r1, .int v1]) (rest := []) (sW_colourAt G h w hw r1 v1) ck_X7_colourAt lk_X7_43 rfl rfl kc_13 hw rfl rfl rfl dX7_shownAt_8 (fun r2 _ => ?_)
  exact E_iret rfl rfl dX7_shownAt_11
def iQ_alikeCells : MI := (yX4_alikeCells, cX4_alikeCells, 5, (some .int), { frames := 3, cells := 0, slots := 0, locals := 68 }, 0)
theorem ck_X4_alikeCells : CS iQ_alikeCells 2 := ⟨⟨wd_112, wd_941, by decide +kernel⟩, wd_940⟩
def jQ_alikeCells_4 (h : AH) (b : Nat) (w : Nat) : Nat → Int32 → Int32 → Option (Int32)
  | 0, _, _ => none
  | n + 1, v2, v3 =>
    (jB_cells h b).bind fun r1 =>
    if v3 < r1 then ((jB_wantedAt h b v3).bind fun r2 =>
    if r2 = (-2) then ((jQ_alikeCells_4 h b w n v2 (v3 + 1)))
    else ((jW_shownAt h w v3).bind fun r3 =>
    if r3 = r2 then ((jQ_alikeCells_4 h b w n (v2 ||| ((1 : Int32) <<< (v3 &&& 31))) (v3 + 1)))
    else ((jQ_alikeCells_4 h b w n v2 (v3 + 1)))))
    else (some v2)
set_option maxRecDepth 20000 in
set_option maxHeartbeats 2000000 in
theorem sQ_alikeCells_4 (G : JG) (h : AH) (b : Nat) (hb : b < nIn 0 3) (w : Nat) (hw : w < nIn 0 13)  : ∀ (n : Nat) (v2 : Int32) (v3 : Int32), Sim G iQ_alikeCells (rvI h) 4 [(0, .ref (G.ad 3 b)), (1, .ref (G.ad 13 w)), (2, .int v2), (3, .int v3)] [] h (jQ_alikeCells_4 h b w n v2 v3) := by
  intro n
  induction n with
  | zero => intro v2 v3; exact E_none
  | succ n ih =>
    intro v2 v3
    rw [jQ_alikeCells_4]
    refine E_iload_n dX4_alikeCells_4 rfl 3 rfl ?_
    refine E_aload_n dX4_alikeCells_5 rfl 0 rfl ?_
    refine E_cVI (As := []) (rest := [.int v3]) (sB_cells G h b hb) ck_X0_cells lk_X4_62 rfl rfl kc_3 hb rfl rfl rfl dX4_alikeCells_6 (fun r1 _ => ?_)
    refine E_icmp_ge (t := 48) dX4_alikeCells_9 rfl ?_ ?_
    · refine E_iload_n dX4_alikeCells_48 rfl 2 rfl ?_
      exact E_iret rfl rfl dX4_alikeCells_49
    · refine E_aload_n dX4_alikeCells_12 rfl 0 rfl ?_
      refine E_iload_n dX4_alikeCells_13 rfl 3 rfl ?_
      refine E_cVI (As := [.int v3]) (rest := []) (sB_wantedAt G h b hb v3) ck_X0_wantedAt lk_X4_65 rfl rfl kc_3 hb rfl rfl rfl dX4_alikeCells_14 (fun r2 _ => ?_)
      refine E_istore (ls' := [(4, .int r2), (0, .ref (G.ad 3 b)), (1, .ref (G.ad 13 w)), (2, .int v2), (3, .int v3)]) dX4_alikeCells_17 (Nat.le_of_ble_eq_true rfl) rfl ?_
      refine E_iload dX4_alikeCells_19 0 rfl ?_
      refine E_bipush (v := (-2)) dX4_alikeCells_21 rfl ?_
      refine E_icmp_eq (t := 42) dX4_alikeCells_23 rfl ?_ ?_
      · refine E_iinc (q := 4) (v := (v3 + 1)) (ls' := [(3, .int (v3 + 1)), (4, .int r2), (0, .ref (G.ad 3 b)), (1, .ref (G.ad 13 w)), (2, .int v2)]) dX4_alikeCells_42 rfl rfl (Nat.le_of_ble_eq_true rfl) rfl ?_
        refine E_goto (t := 4) dX4_alikeCells_45 rfl ?_
        exact E_sub [2, 3, 4, 0] rfl (ih v2 (v3 + 1))
      · refine E_aload_n dX4_alikeCells_26 rfl 2 rfl ?_
        refine E_iload_n dX4_alikeCells_27 rfl 4 rfl ?_
        refine E_cVI (As := [.int v3]) (rest := []) (sW_shownAt G h w hw v3) ck_X7_shownAt lk_X4_89 rfl rfl kc_13 hw rfl rfl rfl dX4_alikeCells_28 (fun r3 _ => ?_)
        refine E_iload dX4_alikeCells_31 0 rfl ?_
        refine E_icmp_ne (t := 42) dX4_alikeCells_33 rfl ?_ ?_
        · refine E_iinc (q := 4) (v := (v3 + 1)) (ls' := [(3, .int (v3 + 1)), (4, .int r2), (0, .ref (G.ad 3 b)), (1, .ref (G.ad 13 w)), (2, .int v2)]) dX4_alikeCells_42 rfl rfl (Nat.le_of_ble_eq_true rfl) rfl ?_
          refine E_goto (t := 4) dX4_alikeCells_45 rfl ?_
          exact E_sub [2, 3, 4, 0] rfl (ih v2 (v3 + 1))
        · refine E_iload_n dX4_alikeCells_36 rfl 3 rfl ?_
          refine E_iconst (v := 1) dX4_alikeCells_37 rfl ?_
          refine E_iload_n dX4_alikeCells_38 rfl 4 rfl ?_
          refine E_ishl dX4_alikeCells_39 ?_
          refine E_ior dX4_alikeCells_40 ?_
          refine E_istore_n (ls' := [(2, .int (v2 ||| ((1 : Int32) <<< (v3 &&& 31)))), (4, .int r2), (0, .ref (G.ad 3 b)), (1, .ref (G.ad 13 w)), (3, .int v3)]) dX4_alikeCells_41 rfl (Nat.le_of_ble_eq_true rfl) rfl ?_
          refine E_iinc (q := 4) (v := (v3 + 1)) (ls' := [(3, .int (v3 + 1)), (2, .int (v2 ||| ((1 : Int32) <<< (v3 &&& 31)))), (4, .int r2), (0, .ref (G.ad 3 b)), (1, .ref (G.ad 13 w))]) dX4_alikeCells_42 rfl rfl (Nat.le_of_ble_eq_true rfl) rfl ?_
          refine E_goto (t := 4) dX4_alikeCells_45 rfl ?_
          exact E_sub [3, 4, 1, 0] rfl (ih (v2 ||| ((1 : Int32) <<< (v3 &&& 31))) (v3 + 1))
def jQ_alikeCells (h : AH) (b : Nat) (w : Nat) : Option (Int32) :=
  (jQ_alikeCells_4 h b w FU 0 0)
set_option maxRecDepth 20000 in
set_option maxHeartbeats 2000000 in
theorem sQ_alikeCells (G : JG) (h : AH) (b : Nat) (hb : b < nIn 0 3) (w : Nat) (hw : w < nIn 0 13) : Mt G iQ_alikeCells (rvI h) [.ref (G.ad 3 b), .ref (G.ad 13 w)] h (jQ_alikeCells h b w) := by
  refine Mt_of (by decide) (Nat.le_of_ble_eq_true rfl) ?_
  unfold jQ_alikeCells
  show Sim G iQ_alikeCells (rvI h) 0 [(0, .ref (G.ad 3 b)), (1, .ref (G.ad 13 w))] [] h _
  refine E_iconst (v := 0) dX4_alikeCells_0 rfl ?_
  refine E_istore_n (ls' := [(2, .int 0), (0, .ref (G.ad 3 b)), (1, .ref (G.ad 13 w))]) dX4_alikeCells_1 rfl (Nat.le_of_ble_eq_true rfl) rfl ?_
  refine E_iconst (v := 0) dX4_alikeCells_2 rfl ?_
  refine E_istore_n (ls' := [(3, .int 0), (2, .int 0), (0, .ref (G.ad 3 b)), (1, .ref (G.ad 13 w))]) dX4_alikeCells_3 rfl (Nat.le_of_ble_eq_true rfl) rfl ?_
  exact E_sub [2, 3, 1, 0] rfl (sQ_alikeCells_4 G h b hb w hw FU 0 0)
def iQ_mayPaint : MI := (yX4_mayPaint, cX4_mayPaint, 3, (some .boolean), { frames := 0, cells := 0, slots := 0, locals := 0 }, 0)
theorem ck_X4_mayPaint : CK iQ_mayPaint 2 := ⟨⟨wd_112, wd_997, by decide +kernel⟩, ⟨wd_996, wd_32⟩⟩
def jQ_mayPaint (h : AH) (v1 : Int32) (v2 : Int32) : Option (Int32) :=
  if (v1 &&& v2) = 0 then (if inb v1 4096 = true then (
  if (gI h 29 0 v1.toNatClampNeg) = 0 then (some 0)
  else (some 1)) else none)
  else (some 0)
set_option maxRecDepth 20000 in
set_option maxHeartbeats 2000000 in
theorem sQ_mayPaint (G : JG) (h : AH) (v1 : Int32) (v2 : Int32) : Mt G iQ_mayPaint (rvI h) [.ref (G.ad 28 0), .int v1, .int v2] h (jQ_mayPaint h v1 v2) := by
  refine Mt_of (by decide) (Nat.le_of_ble_eq_true rfl) ?_
  unfold jQ_mayPaint
  show Sim G iQ_mayPaint (rvI h) 0 [(0, .ref (G.ad 28 0)), (1, .int v1), (2, .int v2)] [] h _
  refine E_iload_n dX4_mayPaint_0 rfl 1 rfl ?_
  refine E_iload_n dX4_mayPaint_1 rfl 2 rfl ?_
  refine E_iand dX4_mayPaint_2 ?_
  refine E_if_ne (t := 19) dX4_mayPaint_3 rfl ?_ ?_
  · refine E_iconst (v := 0) dX4_mayPaint_19 rfl ?_
    exact E_zret rfl rfl rfl dX4_mayPaint_20
  · refine E_aload_n dX4_mayPaint_6 rfl 0 rfl ?_
    refine E_getF fl_X4_11 dX4_mayPaint_7 z28 ?_
    refine E_iload_n dX4_mayPaint_10 rfl 1 rfl ?_
    refine E_bald (n := 4096) rfl dX4_mayPaint_11 z29 (fun _ => ?_)
    refine E_if_eq (t := 19) dX4_mayPaint_12 rfl ?_ ?_
    · refine E_iconst (v := 0) dX4_mayPaint_19 rfl ?_
      exact E_zret rfl rfl rfl dX4_mayPaint_20
    · refine E_iconst (v := 1) dX4_mayPaint_15 rfl ?_
      refine E_goto (t := 20) dX4_mayPaint_16 rfl ?_
      exact E_zret rfl rfl rfl dX4_mayPaint_20
def iQ_bestCells : MI := (yX4_bestCells, cX4_bestCells, 6, (some .int), { frames := 2, cells := 0, slots := 0, locals := 41 }, 0)
theorem ck_X4_bestCells : CK iQ_bestCells 0 := ⟨⟨wd_112, wd_989, by decide +kernel⟩, ⟨wd_987, wd_988⟩⟩
def jQ_bestCells_53 (h : AH)  (k_10 : Int32 → Int32 → Int32 → Option Int32) (v1 : Int32) (v2 : Int32) (v3 : Int32) (v4 : Int32) (s0 : Int32) : Option (Int32) :=
  if s0 = 0 then ((k_10 v1 v2 (v3 + 1)))
  else ((jQ_mayPaint h v3 (gI h 28 0 10)).bind fun r1 =>
  if r1 = 0 then ((k_10 v1 v2 (v3 + 1)))
  else ((k_10 v3 v4 (v3 + 1))))
set_option maxRecDepth 20000 in
set_option maxHeartbeats 2000000 in
theorem sQ_bestCells_53 (G : JG) (h : AH)  (k_10 : Int32 → Int32 → Int32 → Option Int32) (hk_10 : ∀ (v1 : Int32) (v2 : Int32) (v3 : Int32), Sim G iQ_bestCells (rvI h) 10 [(0, .ref (G.ad 28 0)), (1, .int v1), (2, .int v2), (3, .int v3)] [] h (k_10 v1 v2 v3)) (v1 : Int32) (v2 : Int32) (v3 : Int32) (v4 : Int32) (s0 : Int32) : Sim G iQ_bestCells (rvI h) 53 [(0, .ref (G.ad 28 0)), (1, .int v1), (2, .int v2), (3, .int v3), (4, .int v4)] [.int s0] h (jQ_bestCells_53 h k_10 v1 v2 v3 v4 s0) := by
  unfold jQ_bestCells_53
  refine E_istore (ls' := [(5, .int s0), (0, .ref (G.ad 28 0)), (1, .int v1), (2, .int v2), (3, .int v3), (4, .int v4)]) dX4_bestCells_53 (Nat.le_of_ble_eq_true rfl) rfl ?_
  refine E_iload dX4_bestCells_55 0 rfl ?_
  refine E_if_eq (t := 77) dX4_bestCells_57 rfl ?_ ?_
  · refine E_iinc (q := 4) (v := (v3 + 1)) (ls' := [(3, .int (v3 + 1)), (5, .int s0), (0, .ref (G.ad 28 0)), (1, .int v1), (2, .int v2), (4, .int v4)]) dX4_bestCells_77 rfl rfl (Nat.le_of_ble_eq_true rfl) rfl ?_
    refine E_goto (t := 10) dX4_bestCells_80 rfl ?_
    exact E_sub [2, 3, 4, 0] rfl (hk_10 v1 v2 (v3 + 1))
  · refine E_aload_n dX4_bestCells_60 rfl 1 rfl ?_
    refine E_iload_n dX4_bestCells_61 rfl 4 rfl ?_
    refine E_aload_n dX4_bestCells_62 rfl 1 rfl ?_
    refine E_getI fl_X4_86 dX4_bestCells_63 z28 ?_
    refine E_cVI (As := [.int v3, .int (gI h 28 0 10)]) (rest := []) (sQ_mayPaint G h v3 (gI h 28 0 10)) ck_X4_mayPaint lk_X4_111 rfl rfl kc_28 z28 rfl rfl rfl dX4_bestCells_66 (fun r1 _ => ?_)
    refine E_if_eq (t := 77) dX4_bestCells_69 rfl ?_ ?_
    · refine E_iinc (q := 4) (v := (v3 + 1)) (ls' := [(3, .int (v3 + 1)), (5, .int s0), (0, .ref (G.ad 28 0)), (1, .int v1), (2, .int v2), (4, .int v4)]) dX4_bestCells_77 rfl rfl (Nat.le_of_ble_eq_true rfl) rfl ?_
      refine E_goto (t := 10) dX4_bestCells_80 rfl ?_
      exact E_sub [2, 3, 4, 0] rfl (hk_10 v1 v2 (v3 + 1))
    · refine E_iload_n dX4_bestCells_72 rfl 4 rfl ?_
      refine E_istore_n (ls' := [(1, .int v3), (5, .int s0), (0, .ref (G.ad 28 0)), (2, .int v2), (3, .int v3), (4, .int v4)]) dX4_bestCells_73 rfl (Nat.le_of_ble_eq_true rfl) rfl ?_
      refine E_iload dX4_bestCells_74 5 rfl ?_
      refine E_istore_n (ls' := [(2, .int v4), (1, .int v3), (5, .int s0), (0, .ref (G.ad 28 0)), (3, .int v3), (4, .int v4)]) dX4_bestCells_76 rfl (Nat.le_of_ble_eq_true rfl) rfl ?_
      refine E_iinc (q := 4) (v := (v3 + 1)) (ls' := [(3, .int (v3 + 1)), (2, .int v4), (1, .int v3), (5, .int s0), (0, .ref (G.ad 28 0)), (4, .int v4)]) dX4_bestCells_77 rfl rfl (Nat.le_of_ble_eq_true rfl) rfl ?_
      refine E_goto (t := 10) dX4_bestCells_80 rfl ?_
      exact E_sub [4, 2, 1, 0] rfl (hk_10 v3 v4 (v3 + 1))
def jQ_bestCells_48 (h : AH)  (k_10 : Int32 → Int32 → Int32 → Option Int32) (v1 : Int32) (v2 : Int32) (v3 : Int32) (v4 : Int32) : Option (Int32) :=
  (jQ_bestCells_53 h k_10 v1 v2 v3 v4 1)
set_option maxRecDepth 20000 in
set_option maxHeartbeats 2000000 in
theorem sQ_bestCells_48 (G : JG) (h : AH)  (k_10 : Int32 → Int32 → Int32 → Option Int32) (hk_10 : ∀ (v1 : Int32) (v2 : Int32) (v3 : Int32), Sim G iQ_bestCells (rvI h) 10 [(0, .ref (G.ad 28 0)), (1, .int v1), (2, .int v2), (3, .int v3)] [] h (k_10 v1 v2 v3)) (v1 : Int32) (v2 : Int32) (v3 : Int32) (v4 : Int32) : Sim G iQ_bestCells (rvI h) 48 [(0, .ref (G.ad 28 0)), (1, .int v1), (2, .int v2), (3, .int v3), (4, .int v4)] [] h (jQ_bestCells_48 h k_10 v1 v2 v3 v4) := by
  unfold jQ_bestCells_48
  refine E_iconst (v := 1) dX4_bestCells_48 rfl ?_
  refine E_goto (t := 53) dX4_bestCells_49 rfl ?_
  exact E_sub [0, 1, 2, 3, 4] rfl (sQ_bestCells_53 G h k_10 hk_10 v1 v2 v3 v4 1)
def jQ_bestCells_52 (h : AH)  (k_10 : Int32 → Int32 → Int32 → Option Int32) (v1 : Int32) (v2 : Int32) (v3 : Int32) (v4 : Int32) : Option (Int32) :=
  (jQ_bestCells_53 h k_10 v1 v2 v3 v4 0)
set_option maxRecDepth 20000 in
set_option maxHeartbeats 2000000 in
theorem sQ_bestCells_52 (G : JG) (h : AH)  (k_10 : Int32 → Int32 → Int32 → Option Int32) (hk_10 : ∀ (v1 : Int32) (v2 : Int32) (v3 : Int32), Sim G iQ_bestCells (rvI h) 10 [(0, .ref (G.ad 28 0)), (1, .int v1), (2, .int v2), (3, .int v3)] [] h (k_10 v1 v2 v3)) (v1 : Int32) (v2 : Int32) (v3 : Int32) (v4 : Int32) : Sim G iQ_bestCells (rvI h) 52 [(0, .ref (G.ad 28 0)), (1, .int v1), (2, .int v2), (3, .int v3), (4, .int v4)] [] h (jQ_bestCells_52 h k_10 v1 v2 v3 v4) := by
  unfold jQ_bestCells_52
  refine E_iconst (v := 0) dX4_bestCells_52 rfl ?_
  exact E_sub [0, 1, 2, 3, 4] rfl (sQ_bestCells_53 G h k_10 hk_10 v1 v2 v3 v4 0)
def jQ_bestCells_10 (h : AH) : Nat → Int32 → Int32 → Int32 → Option (Int32)
  | 0, _, _, _ => none
  | n + 1, v1, v2, v3 =>
    if v3 < (gI h 28 0 6) then ((jQ_alikeBehind h v3).bind fun r1 =>
    if r1 ≤ v2 then (if r1 = v2 then ((jJ_bitCount v3).bind fun r2 =>
    (jJ_bitCount v1).bind fun r3 =>
    if r2 < r3 then ((jQ_bestCells_48 h (jQ_bestCells_10 h n) v1 v2 v3 r1))
    else ((jQ_bestCells_52 h (jQ_bestCells_10 h n) v1 v2 v3 r1)))
    else ((jQ_bestCells_52 h (jQ_bestCells_10 h n) v1 v2 v3 r1)))
    else ((jQ_bestCells_48 h (jQ_bestCells_10 h n) v1 v2 v3 r1)))
    else (some v1)
set_option maxRecDepth 20000 in
set_option maxHeartbeats 2000000 in
theorem sQ_bestCells_10 (G : JG) (h : AH)   : ∀ (n : Nat) (v1 : Int32) (v2 : Int32) (v3 : Int32), Sim G iQ_bestCells (rvI h) 10 [(0, .ref (G.ad 28 0)), (1, .int v1), (2, .int v2), (3, .int v3)] [] h (jQ_bestCells_10 h n v1 v2 v3) := by
  intro n
  induction n with
  | zero => intro v1 v2 v3; exact E_none
  | succ n ih =>
    intro v1 v2 v3
    rw [jQ_bestCells_10]
    refine E_iload_n dX4_bestCells_10 rfl 3 rfl ?_
    refine E_aload_n dX4_bestCells_11 rfl 0 rfl ?_
    refine E_getI fl_X4_45 dX4_bestCells_12 z28 ?_
    refine E_icmp_ge (t := 83) dX4_bestCells_15 rfl ?_ ?_
    · refine E_iload_n dX4_bestCells_83 rfl 1 rfl ?_
      exact E_iret rfl rfl dX4_bestCells_84
    · refine E_aload_n dX4_bestCells_18 rfl 0 rfl ?_
      refine E_iload_n dX4_bestCells_19 rfl 3 rfl ?_
      refine E_cVI (As := [.int v3]) (rest := []) (sQ_alikeBehind G h v3) ck_X4_alikeBehind lk_X4_108 rfl rfl kc_28 z28 rfl rfl rfl dX4_bestCells_20 (fun r1 _ => ?_)
      refine E_istore (ls' := [(4, .int r1), (0, .ref (G.ad 28 0)), (1, .int v1), (2, .int v2), (3, .int v3)]) dX4_bestCells_23 (Nat.le_of_ble_eq_true rfl) rfl ?_
      refine E_iload dX4_bestCells_25 0 rfl ?_
      refine E_iload_n dX4_bestCells_27 rfl 3 rfl ?_
      refine E_icmp_gt (t := 48) dX4_bestCells_28 rfl ?_ ?_
      · exact E_sub [1, 2, 3, 4, 0] rfl (sQ_bestCells_48 G h (jQ_bestCells_10 h n) ih v1 v2 v3 r1)
      · refine E_iload dX4_bestCells_31 0 rfl ?_
        refine E_iload_n dX4_bestCells_33 rfl 3 rfl ?_
        refine E_icmp_ne (t := 52) dX4_bestCells_34 rfl ?_ ?_
        · exact E_sub [1, 2, 3, 4, 0] rfl (sQ_bestCells_52 G h (jQ_bestCells_10 h n) ih v1 v2 v3 r1)
        · refine E_iload_n dX4_bestCells_37 rfl 4 rfl ?_
          refine E_cSI (As := [.int v3]) (rest := []) (sJ_bitCount G h v3) ck_J6_bitCount_0f7a4 lk_X4_94 rfl rfl rfl rfl rfl dX4_bestCells_38 (fun r2 _ => ?_)
          refine E_iload_n dX4_bestCells_41 rfl 2 rfl ?_
          refine E_cSI (As := [.int v1]) (rest := [.int r2]) (sJ_bitCount G h v1) ck_J6_bitCount_0f7a4 lk_X4_94 rfl rfl rfl rfl rfl dX4_bestCells_42 (fun r3 _ => ?_)
          refine E_icmp_ge (t := 52) dX4_bestCells_45 rfl ?_ ?_
          · exact E_sub [1, 2, 3, 4, 0] rfl (sQ_bestCells_52 G h (jQ_bestCells_10 h n) ih v1 v2 v3 r1)
          · exact E_sub [1, 2, 3, 4, 0] rfl (sQ_bestCells_48 G h (jQ_bestCells_10 h n) ih v1 v2 v3 r1)
def jQ_bestCells (h : AH)  : Option (Int32) :=
  (jQ_alikeBehind h 0).bind fun r1 =>
  (jQ_bestCells_10 h FU 0 r1 1)
set_option maxRecDepth 20000 in
set_option maxHeartbeats 2000000 in
theorem sQ_bestCells (G : JG) (h : AH)  : Mt G iQ_bestCells (rvI h) [.ref (G.ad 28 0)] h (jQ_bestCells h) := by
  refine Mt_of (by decide) (Nat.le_of_ble_eq_true rfl) ?_
  unfold jQ_bestCells
  show Sim G iQ_bestCells (rvI h) 0 [(0, .ref (G.ad 28 0))] [] h _
  refine E_iconst (v := 0) dX4_bestCells_0 rfl ?_
  refine E_istore_n (ls' := [(1, .int 0), (0, .ref (G.ad 28 0))]) dX4_bestCells_1 rfl (Nat.le_of_ble_eq_true rfl) rfl ?_
  refine E_aload_n dX4_bestCells_2 rfl 1 rfl ?_
  refine E_iconst (v := 0) dX4_bestCells_3 rfl ?_
  refine E_cVI (As := [.int 0]) (rest := []) (sQ_alikeBehind G h 0) ck_X4_alikeBehind lk_X4_108 rfl rfl kc_28 z28 rfl rfl rfl dX4_bestCells_4 (fun r1 _ => ?_)
  refine E_istore_n (ls' := [(2, .int r1), (1, .int 0), (0, .ref (G.ad 28 0))]) dX4_bestCells_7 rfl (Nat.le_of_ble_eq_true rfl) rfl ?_
  refine E_iconst (v := 1) dX4_bestCells_8 rfl ?_
  refine E_istore_n (ls' := [(3, .int 1), (2, .int r1), (1, .int 0), (0, .ref (G.ad 28 0))]) dX4_bestCells_9 rfl (Nat.le_of_ble_eq_true rfl) rfl ?_
  exact E_sub [3, 2, 1, 0] rfl (sQ_bestCells_10 G h FU 0 r1 1)
def iQ_fewestInTurn : MI := (yX4_fewestInTurn, cX4_fewestInTurn, 8, (some .int), { frames := 1, cells := 0, slots := 0, locals := 40 }, 0)
theorem ck_X4_fewestInTurn : CK iQ_fewestInTurn 1 := ⟨⟨wd_112, wd_1018, by decide +kernel⟩, ⟨wd_1017, wd_35⟩⟩
def jQ_fewestInTurn_75 (h : AH)  (k_29 : Int32 → Int32 → Int32 → Int32 → Int32 → Int32 → Option Int32) (v2 : Int32) (v3 : Int32) (v4 : Int32) (v5 : Int32) (v6 : Int32) (v7 : Int32) : Option (Int32) :=
  (k_29 v2 v3 v4 v5 ((v6 - 1) &&& v3) (v7 + 1))
set_option maxRecDepth 20000 in
set_option maxHeartbeats 2000000 in
theorem sQ_fewestInTurn_75 (G : JG) (h : AH)  (k_29 : Int32 → Int32 → Int32 → Int32 → Int32 → Int32 → Option Int32) (hk_29 : ∀ (v2 : Int32) (v3 : Int32) (v4 : Int32) (v5 : Int32) (v6 : Int32) (v7 : Int32), Sim G iQ_fewestInTurn (rvI h) 29 [(0, .ref (G.ad 28 0)), (2, .int v2), (3, .int v3), (4, .int v4), (5, .int v5), (6, .int v6), (7, .int v7)] [] h (k_29 v2 v3 v4 v5 v6 v7)) (v2 : Int32) (v3 : Int32) (v4 : Int32) (v5 : Int32) (v6 : Int32) (v7 : Int32) : Sim G iQ_fewestInTurn (rvI h) 75 [(0, .ref (G.ad 28 0)), (2, .int v2), (3, .int v3), (4, .int v4), (5, .int v5), (6, .int v6), (7, .int v7)] [] h (jQ_fewestInTurn_75 h k_29 v2 v3 v4 v5 v6 v7) := by
  unfold jQ_fewestInTurn_75
  refine E_iload dX4_fewestInTurn_75 5 rfl ?_
  refine E_iconst (v := 1) dX4_fewestInTurn_77 rfl ?_
  refine E_isub dX4_fewestInTurn_78 ?_
  refine E_iload_n dX4_fewestInTurn_79 rfl 2 rfl ?_
  refine E_iand dX4_fewestInTurn_80 ?_
  refine E_istore (ls' := [(6, .int ((v6 - 1) &&& v3)), (0, .ref (G.ad 28 0)), (2, .int v2), (3, .int v3), (4, .int v4), (5, .int v5), (7, .int v7)]) dX4_fewestInTurn_81 (Nat.le_of_ble_eq_true rfl) rfl ?_
  refine E_iinc (q := 6) (v := (v7 + 1)) (ls' := [(7, .int (v7 + 1)), (6, .int ((v6 - 1) &&& v3)), (0, .ref (G.ad 28 0)), (2, .int v2), (3, .int v3), (4, .int v4), (5, .int v5)]) dX4_fewestInTurn_83 rfl rfl (Nat.le_of_ble_eq_true rfl) rfl ?_
  refine E_goto (t := 29) dX4_fewestInTurn_86 rfl ?_
  exact E_sub [2, 3, 4, 5, 6, 1, 0] rfl (hk_29 v2 v3 v4 v5 ((v6 - 1) &&& v3) (v7 + 1))
def jQ_fewestInTurn_29 (h : AH) : Nat → Int32 → Int32 → Int32 → Int32 → Int32 → Int32 → Option (Int32)
  | 0, _, _, _, _, _, _ => none
  | n + 1, v2, v3, v4, v5, v6, v7 =>
    if v7 < v4 then (if v5 ≤ 2 then (some v5)
    else (if inb (v6 ||| v2) 4096 = true then (
    if (gI h 30 0 (v6 ||| v2).toNatClampNeg) = 1 then (if inb (v3 &&& (v6 ^^^ (-1))) 4096 = true then (
    jb ((mmin v5 ((gI h 30 0 (v3 &&& (v6 ^^^ (-1))).toNatClampNeg) + 1)) : Int32) fun y1 =>
    (jQ_fewestInTurn_75 h (jQ_fewestInTurn_29 h n) v2 v3 v4 y1 v6 v7)) else none)
    else ((jQ_fewestInTurn_75 h (jQ_fewestInTurn_29 h n) v2 v3 v4 v5 v6 v7))) else none))
    else (some v5)
set_option maxRecDepth 20000 in
set_option maxHeartbeats 2000000 in
theorem sQ_fewestInTurn_29 (G : JG) (h : AH)   : ∀ (n : Nat) (v2 : Int32) (v3 : Int32) (v4 : Int32) (v5 : Int32) (v6 : Int32) (v7 : Int32), Sim G iQ_fewestInTurn (rvI h) 29 [(0, .ref (G.ad 28 0)), (2, .int v2), (3, .int v3), (4, .int v4), (5, .int v5), (6, .int v6), (7, .int v7)] [] h (jQ_fewestInTurn_29 h n v2 v3 v4 v5 v6 v7) := by
  intro n
  induction n with
  | zero => intro v2 v3 v4 v5 v6 v7; exact E_none
  | succ n ih =>
    intro v2 v3 v4 v5 v6 v7
    rw [jQ_fewestInTurn_29]
    refine E_iload dX4_fewestInTurn_29 6 rfl ?_
    refine E_iload dX4_fewestInTurn_31 3 rfl ?_
    refine E_icmp_ge (t := 89) dX4_fewestInTurn_33 rfl ?_ ?_
    · refine E_iload dX4_fewestInTurn_89 4 rfl ?_
      exact E_iret rfl rfl dX4_fewestInTurn_91
    · refine E_iload dX4_fewestInTurn_36 4 rfl ?_
      refine E_iconst (v := 2) dX4_fewestInTurn_38 rfl ?_
      refine E_icmp_le (t := 89) dX4_fewestInTurn_39 rfl ?_ ?_
      · refine E_iload dX4_fewestInTurn_89 4 rfl ?_
        exact E_iret rfl rfl dX4_fewestInTurn_91
      · refine E_aload_n dX4_fewestInTurn_42 rfl 0 rfl ?_
        refine E_getF fl_X4_15 dX4_fewestInTurn_43 z28 ?_
        refine E_iload dX4_fewestInTurn_46 5 rfl ?_
        refine E_iload_n dX4_fewestInTurn_48 rfl 1 rfl ?_
        refine E_ior dX4_fewestInTurn_49 ?_
        refine E_iald (n := 4096) rfl dX4_fewestInTurn_50 z30 (fun _ => ?_)
        refine E_iconst (v := 1) dX4_fewestInTurn_51 rfl ?_
        refine E_icmp_ne (t := 75) dX4_fewestInTurn_52 rfl ?_ ?_
        · exact E_sub [0, 1, 2, 3, 4, 5, 6] rfl (sQ_fewestInTurn_75 G h (jQ_fewestInTurn_29 h n) ih v2 v3 v4 v5 v6 v7)
        · refine E_iload dX4_fewestInTurn_55 4 rfl ?_
          refine E_aload_n dX4_fewestInTurn_57 rfl 0 rfl ?_
          refine E_getF fl_X4_15 dX4_fewestInTurn_58 z28 ?_
          refine E_iload_n dX4_fewestInTurn_61 rfl 2 rfl ?_
          refine E_iload dX4_fewestInTurn_62 5 rfl ?_
          refine E_iconst (v := (-1)) dX4_fewestInTurn_64 rfl ?_
          refine E_ixor dX4_fewestInTurn_65 ?_
          refine E_iand dX4_fewestInTurn_66 ?_
          refine E_iald (n := 4096) rfl dX4_fewestInTurn_67 z30 (fun _ => ?_)
          refine E_iconst (v := 1) dX4_fewestInTurn_68 rfl ?_
          refine E_iadd dX4_fewestInTurn_69 ?_
          refine E_mmin lk_X4_39 wx_min1 wx_ma wx_min2 (by decide) (Nat.le_of_ble_eq_true rfl) dX4_fewestInTurn_70 ?_
          refine E_topi (fun y1 => ?_)
          refine E_istore (ls' := [(5, .int y1), (0, .ref (G.ad 28 0)), (2, .int v2), (3, .int v3), (4, .int v4), (6, .int v6), (7, .int v7)]) dX4_fewestInTurn_73 (Nat.le_of_ble_eq_true rfl) rfl ?_
          exact E_sub [1, 2, 3, 4, 0, 5, 6] rfl (sQ_fewestInTurn_75 G h (jQ_fewestInTurn_29 h n) ih v2 v3 v4 y1 v6 v7)
def jQ_fewestInTurn (h : AH) (v1 : Int32) : Option (Int32) :=
  (jJ_bitCount (v1 &&& ((v1 &&& (-v1)) ^^^ (-1)))).bind fun r1 =>
  (jQ_fewestInTurn_29 h FU (v1 &&& (-v1)) (v1 &&& ((v1 &&& (-v1)) ^^^ (-1))) ((1 : Int32) <<< (r1 &&& 31)) 100 (v1 &&& ((v1 &&& (-v1)) ^^^ (-1))) 0)
set_option maxRecDepth 20000 in
set_option maxHeartbeats 2000000 in
theorem sQ_fewestInTurn (G : JG) (h : AH) (v1 : Int32) : Mt G iQ_fewestInTurn (rvI h) [.ref (G.ad 28 0), .int v1] h (jQ_fewestInTurn h v1) := by
  refine Mt_of (by decide) (Nat.le_of_ble_eq_true rfl) ?_
  unfold jQ_fewestInTurn
  show Sim G iQ_fewestInTurn (rvI h) 0 [(0, .ref (G.ad 28 0)), (1, .int v1)] [] h _
  refine E_iload_n dX4_fewestInTurn_0 rfl 1 rfl ?_
  refine E_iload_n dX4_fewestInTurn_1 rfl 1 rfl ?_
  refine E_ineg dX4_fewestInTurn_2 ?_
  refine E_iand dX4_fewestInTurn_3 ?_
  refine E_istore_n (ls' := [(2, .int (v1 &&& (-v1))), (0, .ref (G.ad 28 0)), (1, .int v1)]) dX4_fewestInTurn_4 rfl (Nat.le_of_ble_eq_true rfl) rfl ?_
  refine E_iload_n dX4_fewestInTurn_5 rfl 2 rfl ?_
  refine E_iload_n dX4_fewestInTurn_6 rfl 0 rfl ?_
  refine E_iconst (v := (-1)) dX4_fewestInTurn_7 rfl ?_
  refine E_ixor dX4_fewestInTurn_8 ?_
  refine E_iand dX4_fewestInTurn_9 ?_
  refine E_istore_n (ls' := [(3, .int (v1 &&& ((v1 &&& (-v1)) ^^^ (-1)))), (2, .int (v1 &&& (-v1))), (0, .ref (G.ad 28 0)), (1, .int v1)]) dX4_fewestInTurn_10 rfl (Nat.le_of_ble_eq_true rfl) rfl ?_
  refine E_iconst (v := 1) dX4_fewestInTurn_11 rfl ?_
  refine E_iload_n dX4_fewestInTurn_12 rfl 0 rfl ?_
  refine E_cSI (As := [.int (v1 &&& ((v1 &&& (-v1)) ^^^ (-1)))]) (rest := [.int 1]) (sJ_bitCount G h (v1 &&& ((v1 &&& (-v1)) ^^^ (-1)))) ck_J6_bitCount_0f7a4 lk_X4_94 rfl rfl rfl rfl rfl dX4_fewestInTurn_13 (fun r1 _ => ?_)
  refine E_ishl dX4_fewestInTurn_16 ?_
  refine E_istore (ls' := [(4, .int ((1 : Int32) <<< (r1 &&& 31))), (3, .int (v1 &&& ((v1 &&& (-v1)) ^^^ (-1)))), (2, .int (v1 &&& (-v1))), (0, .ref (G.ad 28 0)), (1, .int v1)]) dX4_fewestInTurn_17 (Nat.le_of_ble_eq_true rfl) rfl ?_
  refine E_bipush (v := 100) dX4_fewestInTurn_19 rfl ?_
  refine E_istore (ls' := [(5, .int 100), (4, .int ((1 : Int32) <<< (r1 &&& 31))), (3, .int (v1 &&& ((v1 &&& (-v1)) ^^^ (-1)))), (2, .int (v1 &&& (-v1))), (0, .ref (G.ad 28 0)), (1, .int v1)]) dX4_fewestInTurn_21 (Nat.le_of_ble_eq_true rfl) rfl ?_
  refine E_iload_n dX4_fewestInTurn_23 rfl 2 rfl ?_
  refine E_istore (ls' := [(6, .int (v1 &&& ((v1 &&& (-v1)) ^^^ (-1)))), (5, .int 100), (4, .int ((1 : Int32) <<< (r1 &&& 31))), (3, .int (v1 &&& ((v1 &&& (-v1)) ^^^ (-1)))), (2, .int (v1 &&& (-v1))), (0, .ref (G.ad 28 0)), (1, .int v1)]) dX4_fewestInTurn_24 (Nat.le_of_ble_eq_true rfl) rfl ?_
  refine E_iconst (v := 0) dX4_fewestInTurn_26 rfl ?_
  refine E_istore (ls' := [(7, .int 0), (6, .int (v1 &&& ((v1 &&& (-v1)) ^^^ (-1)))), (5, .int 100), (4, .int ((1 : Int32) <<< (r1 &&& 31))), (3, .int (v1 &&& ((v1 &&& (-v1)) ^^^ (-1)))), (2, .int (v1 &&& (-v1))), (0, .ref (G.ad 28 0)), (1, .int v1)]) dX4_fewestInTurn_27 (Nat.le_of_ble_eq_true rfl) rfl ?_
  exact E_sub [6, 5, 4, 3, 2, 1, 0] rfl (sQ_fewestInTurn_29 G h FU (v1 &&& (-v1)) (v1 &&& ((v1 &&& (-v1)) ^^^ (-1))) ((1 : Int32) <<< (r1 &&& 31)) 100 (v1 &&& ((v1 &&& (-v1)) ^^^ (-1))) 0)
def iQ_fewestLeft : MI := (yX4_fewestLeft, cX4_fewestLeft, 5, (some .int), { frames := 1, cells := 0, slots := 0, locals := 22 }, 0)
theorem ck_X4_fewestLeft : CK iQ_fewestLeft 1 := ⟨⟨wd_112, wd_1053, by decide +kernel⟩, ⟨wd_1051, wd_1052⟩⟩
def jQ_fewestLeft_7 (h : AH) (v1 : Int32) : Nat → Int32 → Int32 → Option (Int32)
  | 0, _, _ => none
  | n + 1, v2, v3 =>
    if v3 < (gI h 28 0 6) then ((jJ_bitCount (v1 &&& (v3 ^^^ (-1)))).bind fun r1 =>
    if r1 < v2 then ((jQ_mayPaint h v3 (gI h 28 0 10)).bind fun r2 =>
    if r2 = 0 then ((jQ_fewestLeft_7 h v1 n v2 (v3 + 1)))
    else ((jQ_fewestLeft_7 h v1 n r1 (v3 + 1))))
    else ((jQ_fewestLeft_7 h v1 n v2 (v3 + 1))))
    else (some v2)
set_option maxRecDepth 20000 in
set_option maxHeartbeats 2000000 in
theorem sQ_fewestLeft_7 (G : JG) (h : AH) (v1 : Int32)  : ∀ (n : Nat) (v2 : Int32) (v3 : Int32), Sim G iQ_fewestLeft (rvI h) 7 [(0, .ref (G.ad 28 0)), (1, .int v1), (2, .int v2), (3, .int v3)] [] h (jQ_fewestLeft_7 h v1 n v2 v3) := by
  intro n
  induction n with
  | zero => intro v2 v3; exact E_none
  | succ n ih =>
    intro v2 v3
    rw [jQ_fewestLeft_7]
    refine E_iload_n dX4_fewestLeft_7 rfl 3 rfl ?_
    refine E_aload_n dX4_fewestLeft_8 rfl 0 rfl ?_
    refine E_getI fl_X4_45 dX4_fewestLeft_9 z28 ?_
    refine E_icmp_ge (t := 52) dX4_fewestLeft_12 rfl ?_ ?_
    · refine E_iload_n dX4_fewestLeft_52 rfl 2 rfl ?_
      exact E_iret rfl rfl dX4_fewestLeft_53
    · refine E_iload_n dX4_fewestLeft_15 rfl 1 rfl ?_
      refine E_iload_n dX4_fewestLeft_16 rfl 3 rfl ?_
      refine E_iconst (v := (-1)) dX4_fewestLeft_17 rfl ?_
      refine E_ixor dX4_fewestLeft_18 ?_
      refine E_iand dX4_fewestLeft_19 ?_
      refine E_cSI (As := [.int (v1 &&& (v3 ^^^ (-1)))]) (rest := []) (sJ_bitCount G h (v1 &&& (v3 ^^^ (-1)))) ck_J6_bitCount_0f7a4 lk_X4_94 rfl rfl rfl rfl rfl dX4_fewestLeft_20 (fun r1 _ => ?_)
      refine E_istore (ls' := [(4, .int r1), (0, .ref (G.ad 28 0)), (1, .int v1), (2, .int v2), (3, .int v3)]) dX4_fewestLeft_23 (Nat.le_of_ble_eq_true rfl) rfl ?_
      refine E_iload dX4_fewestLeft_25 0 rfl ?_
      refine E_iload_n dX4_fewestLeft_27 rfl 3 rfl ?_
      refine E_icmp_ge (t := 46) dX4_fewestLeft_28 rfl ?_ ?_
      · refine E_iinc (q := 4) (v := (v3 + 1)) (ls' := [(3, .int (v3 + 1)), (4, .int r1), (0, .ref (G.ad 28 0)), (1, .int v1), (2, .int v2)]) dX4_fewestLeft_46 rfl rfl (Nat.le_of_ble_eq_true rfl) rfl ?_
        refine E_goto (t := 7) dX4_fewestLeft_49 rfl ?_
        exact E_sub [2, 3, 4, 0] rfl (ih v2 (v3 + 1))
      · refine E_aload_n dX4_fewestLeft_31 rfl 1 rfl ?_
        refine E_iload_n dX4_fewestLeft_32 rfl 4 rfl ?_
        refine E_aload_n dX4_fewestLeft_33 rfl 1 rfl ?_
        refine E_getI fl_X4_86 dX4_fewestLeft_34 z28 ?_
        refine E_cVI (As := [.int v3, .int (gI h 28 0 10)]) (rest := []) (sQ_mayPaint G h v3 (gI h 28 0 10)) ck_X4_mayPaint lk_X4_111 rfl rfl kc_28 z28 rfl rfl rfl dX4_fewestLeft_37 (fun r2 _ => ?_)
        refine E_if_eq (t := 46) dX4_fewestLeft_40 rfl ?_ ?_
        · refine E_iinc (q := 4) (v := (v3 + 1)) (ls' := [(3, .int (v3 + 1)), (4, .int r1), (0, .ref (G.ad 28 0)), (1, .int v1), (2, .int v2)]) dX4_fewestLeft_46 rfl rfl (Nat.le_of_ble_eq_true rfl) rfl ?_
          refine E_goto (t := 7) dX4_fewestLeft_49 rfl ?_
          exact E_sub [2, 3, 4, 0] rfl (ih v2 (v3 + 1))
        · refine E_iload dX4_fewestLeft_43 0 rfl ?_
          refine E_istore_n (ls' := [(2, .int r1), (4, .int r1), (0, .ref (G.ad 28 0)), (1, .int v1), (3, .int v3)]) dX4_fewestLeft_45 rfl (Nat.le_of_ble_eq_true rfl) rfl ?_
          refine E_iinc (q := 4) (v := (v3 + 1)) (ls' := [(3, .int (v3 + 1)), (2, .int r1), (4, .int r1), (0, .ref (G.ad 28 0)), (1, .int v1)]) dX4_fewestLeft_46 rfl rfl (Nat.le_of_ble_eq_true rfl) rfl ?_
          refine E_goto (t := 7) dX4_fewestLeft_49 rfl ?_
          exact E_sub [3, 4, 1, 0] rfl (ih r1 (v3 + 1))
def jQ_fewestLeft (h : AH) (v1 : Int32) : Option (Int32) :=
  (jJ_bitCount v1).bind fun r1 =>
  (jQ_fewestLeft_7 h v1 FU r1 1)
set_option maxRecDepth 20000 in
set_option maxHeartbeats 2000000 in
theorem sQ_fewestLeft (G : JG) (h : AH) (v1 : Int32) : Mt G iQ_fewestLeft (rvI h) [.ref (G.ad 28 0), .int v1] h (jQ_fewestLeft h v1) := by
  refine Mt_of (by decide) (Nat.le_of_ble_eq_true rfl) ?_
  unfold jQ_fewestLeft
  show Sim G iQ_fewestLeft (rvI h) 0 [(0, .ref (G.ad 28 0)), (1, .int v1)] [] h _
  refine E_iload_n dX4_fewestLeft_0 rfl 1 rfl ?_
  refine E_cSI (As := [.int v1]) (rest := []) (sJ_bitCount G h v1) ck_J6_bitCount_0f7a4 lk_X4_94 rfl rfl rfl rfl rfl dX4_fewestLeft_1 (fun r1 _ => ?_)
  refine E_istore_n (ls' := [(2, .int r1), (0, .ref (G.ad 28 0)), (1, .int v1)]) dX4_fewestLeft_4 rfl (Nat.le_of_ble_eq_true rfl) rfl ?_
  refine E_iconst (v := 1) dX4_fewestLeft_5 rfl ?_
  refine E_istore_n (ls' := [(3, .int 1), (2, .int r1), (0, .ref (G.ad 28 0)), (1, .int v1)]) dX4_fewestLeft_6 rfl (Nat.le_of_ble_eq_true rfl) rfl ?_
  exact E_sub [2, 3, 1, 0] rfl (sQ_fewestLeft_7 G h v1 FU r1 1)
def iQ_learnOneWork : MI := (yX4_learnOneWork, cX4_learnOneWork, 5, none, { frames := 1, cells := 0, slots := 0, locals := 22 }, 0)
theorem ck_X4_learnOneWork : CK iQ_learnOneWork 1 := ⟨⟨wd_112, wd_1014, by decide +kernel⟩, ⟨wd_1013, wd_34⟩⟩
def jQ_learnOneWork_59 (v1 : Int32) (k_21 : Int32 → Int32 → Int32 → AH → Option AH) (v2 : Int32) (v4 : Int32) (s0 : Int32) (h : AH) : Option (AH) :=
  (k_21 v2 s0 (v4 <<< ((1 : Int32) &&& 31)) h)
set_option maxRecDepth 20000 in
set_option maxHeartbeats 2000000 in
theorem sQ_learnOneWork_59 (G : JG) (v1 : Int32) (k_21 : Int32 → Int32 → Int32 → AH → Option AH) (hk_21 : ∀ (v2 : Int32) (v3 : Int32) (v4 : Int32) (h : AH), Sim G iQ_learnOneWork rvV 21 [(0, .ref (G.ad 28 0)), (1, .int v1), (2, .int v2), (3, .int v3), (4, .int v4)] [] h (k_21 v2 v3 v4 h)) (v2 : Int32) (v4 : Int32) (s0 : Int32) (h : AH) : Sim G iQ_learnOneWork rvV 59 [(0, .ref (G.ad 28 0)), (1, .int v1), (2, .int v2), (4, .int v4)] [.int s0] h (jQ_learnOneWork_59 v1 k_21 v2 v4 s0 h) := by
  unfold jQ_learnOneWork_59
  refine E_istore_n (ls' := [(3, .int s0), (0, .ref (G.ad 28 0)), (1, .int v1), (2, .int v2), (4, .int v4)]) dX4_learnOneWork_59 rfl (Nat.le_of_ble_eq_true rfl) rfl ?_
  refine E_iload dX4_learnOneWork_60 4 rfl ?_
  refine E_iconst (v := 1) dX4_learnOneWork_62 rfl ?_
  refine E_ishl dX4_learnOneWork_63 ?_
  refine E_istore (ls' := [(4, .int (v4 <<< ((1 : Int32) &&& 31))), (3, .int s0), (0, .ref (G.ad 28 0)), (1, .int v1), (2, .int v2)]) dX4_learnOneWork_64 (Nat.le_of_ble_eq_true rfl) rfl ?_
  refine E_goto (t := 21) dX4_learnOneWork_66 rfl ?_
  exact E_sub [2, 3, 4, 1, 0] rfl (hk_21 v2 s0 (v4 <<< ((1 : Int32) &&& 31)) h)
def jQ_learnOneWork_58 (v1 : Int32) (k_21 : Int32 → Int32 → Int32 → AH → Option AH) (v2 : Int32) (v4 : Int32) (h : AH) : Option (AH) :=
  (jQ_learnOneWork_59 v1 k_21 v2 v4 0 h)
set_option maxRecDepth 20000 in
set_option maxHeartbeats 2000000 in
theorem sQ_learnOneWork_58 (G : JG) (v1 : Int32) (k_21 : Int32 → Int32 → Int32 → AH → Option AH) (hk_21 : ∀ (v2 : Int32) (v3 : Int32) (v4 : Int32) (h : AH), Sim G iQ_learnOneWork rvV 21 [(0, .ref (G.ad 28 0)), (1, .int v1), (2, .int v2), (3, .int v3), (4, .int v4)] [] h (k_21 v2 v3 v4 h)) (v2 : Int32) (v4 : Int32) (h : AH) : Sim G iQ_learnOneWork rvV 58 [(0, .ref (G.ad 28 0)), (1, .int v1), (2, .int v2), (4, .int v4)] [] h (jQ_learnOneWork_58 v1 k_21 v2 v4 h) := by
  unfold jQ_learnOneWork_58
  refine E_iconst (v := 0) dX4_learnOneWork_58 rfl ?_
  exact E_sub [0, 1, 2, 3] rfl (sQ_learnOneWork_59 G v1 k_21 hk_21 v2 v4 0 h)
def jQ_learnOneWork_69 (v1 : Int32) (k_7 : Int32 → AH → Option AH) (v2 : Int32) (v3 : Int32) (h : AH) : Option (AH) :=
  if v3 = 0 then (if inb v2 4096 = true then (
  jb (uI h 30 0 v2.toNatClampNeg 100) fun h1 =>
  (k_7 (v2 + (-1)) h1)) else none)
  else (if inb v2 4096 = true then (
  jb (uI h 30 0 v2.toNatClampNeg 1) fun h2 =>
  (k_7 (v2 + (-1)) h2)) else none)
set_option maxRecDepth 20000 in
set_option maxHeartbeats 2000000 in
theorem sQ_learnOneWork_69 (G : JG) (v1 : Int32) (k_7 : Int32 → AH → Option AH) (hk_7 : ∀ (v2 : Int32) (h : AH), Sim G iQ_learnOneWork rvV 7 [(0, .ref (G.ad 28 0)), (1, .int v1), (2, .int v2)] [] h (k_7 v2 h)) (v2 : Int32) (v3 : Int32) (h : AH) : Sim G iQ_learnOneWork rvV 69 [(0, .ref (G.ad 28 0)), (1, .int v1), (2, .int v2), (3, .int v3)] [] h (jQ_learnOneWork_69 v1 k_7 v2 v3 h) := by
  unfold jQ_learnOneWork_69
  refine E_aload_n dX4_learnOneWork_69 rfl 0 rfl ?_
  refine E_getF fl_X4_15 dX4_learnOneWork_70 z28 ?_
  refine E_iload_n dX4_learnOneWork_73 rfl 2 rfl ?_
  refine E_iload_n dX4_learnOneWork_74 rfl 3 rfl ?_
  refine E_if_eq (t := 82) dX4_learnOneWork_75 rfl ?_ ?_
  · refine E_bipush (v := 100) dX4_learnOneWork_82 rfl ?_
    refine E_iast (n := 4096) rfl dX4_learnOneWork_84 z30 (fun _ => ?_)
    refine E_hgen (fun h1 => ?_)
    refine E_iinc (q := 2) (v := (v2 + (-1))) (ls' := [(2, .int (v2 + (-1))), (0, .ref (G.ad 28 0)), (1, .int v1), (3, .int v3)]) dX4_learnOneWork_85 rfl rfl (Nat.le_of_ble_eq_true rfl) rfl ?_
    refine E_goto (t := 7) dX4_learnOneWork_88 rfl ?_
    exact E_sub [1, 2, 0] rfl (hk_7 (v2 + (-1)) h1)
  · refine E_iconst (v := 1) dX4_learnOneWork_78 rfl ?_
    refine E_goto (t := 84) dX4_learnOneWork_79 rfl ?_
    refine E_iast (n := 4096) rfl dX4_learnOneWork_84 z30 (fun _ => ?_)
    refine E_hgen (fun h2 => ?_)
    refine E_iinc (q := 2) (v := (v2 + (-1))) (ls' := [(2, .int (v2 + (-1))), (0, .ref (G.ad 28 0)), (1, .int v1), (3, .int v3)]) dX4_learnOneWork_85 rfl rfl (Nat.le_of_ble_eq_true rfl) rfl ?_
    refine E_goto (t := 7) dX4_learnOneWork_88 rfl ?_
    exact E_sub [1, 2, 0] rfl (hk_7 (v2 + (-1)) h2)
def jQ_learnOneWork_21 (v1 : Int32) (k_7 : Int32 → AH → Option AH) : Nat → Int32 → Int32 → Int32 → AH → Option (AH)
  | 0, _, _, _, _ => none
  | n + 1, v2, v3, v4, h =>
    if v4 < (gI h 28 0 6) then (if v3 = 0 then (if (v2 &&& v4) = 0 then (if inb (v2 ||| v4) 4096 = true then (
    if (gI h 30 0 (v2 ||| v4).toNatClampNeg) = 1 then ((jQ_learnOneWork_59 v1 (jQ_learnOneWork_21 v1 k_7 n) v2 v4 1 h))
    else ((jQ_learnOneWork_58 v1 (jQ_learnOneWork_21 v1 k_7 n) v2 v4 h))) else none)
    else ((jQ_learnOneWork_58 v1 (jQ_learnOneWork_21 v1 k_7 n) v2 v4 h)))
    else ((jQ_learnOneWork_69 v1 k_7 v2 v3 h)))
    else ((jQ_learnOneWork_69 v1 k_7 v2 v3 h))
set_option maxRecDepth 20000 in
set_option maxHeartbeats 2000000 in
theorem sQ_learnOneWork_21 (G : JG) (v1 : Int32) (k_7 : Int32 → AH → Option AH) (hk_7 : ∀ (v2 : Int32) (h : AH), Sim G iQ_learnOneWork rvV 7 [(0, .ref (G.ad 28 0)), (1, .int v1), (2, .int v2)] [] h (k_7 v2 h)) : ∀ (n : Nat) (v2 : Int32) (v3 : Int32) (v4 : Int32) (h : AH), Sim G iQ_learnOneWork rvV 21 [(0, .ref (G.ad 28 0)), (1, .int v1), (2, .int v2), (3, .int v3), (4, .int v4)] [] h (jQ_learnOneWork_21 v1 k_7 n v2 v3 v4 h) := by
  intro n
  induction n with
  | zero => intro v2 v3 v4 h; exact E_none
  | succ n ih =>
    intro v2 v3 v4 h
    rw [jQ_learnOneWork_21]
    refine E_iload dX4_learnOneWork_21 4 rfl ?_
    refine E_aload_n dX4_learnOneWork_23 rfl 0 rfl ?_
    refine E_getI fl_X4_45 dX4_learnOneWork_24 z28 ?_
    refine E_icmp_ge (t := 69) dX4_learnOneWork_27 rfl ?_ ?_
    · exact E_sub [0, 1, 2, 3] rfl (sQ_learnOneWork_69 G v1 k_7 hk_7 v2 v3 h)
    · refine E_iload_n dX4_learnOneWork_30 rfl 3 rfl ?_
      refine E_if_ne (t := 69) dX4_learnOneWork_31 rfl ?_ ?_
      · exact E_sub [0, 1, 2, 3] rfl (sQ_learnOneWork_69 G v1 k_7 hk_7 v2 v3 h)
      · refine E_iload_n dX4_learnOneWork_34 rfl 2 rfl ?_
        refine E_iload dX4_learnOneWork_35 4 rfl ?_
        refine E_iand dX4_learnOneWork_37 ?_
        refine E_if_ne (t := 58) dX4_learnOneWork_38 rfl ?_ ?_
        · exact E_sub [0, 1, 2, 4] rfl (sQ_learnOneWork_58 G v1 (jQ_learnOneWork_21 v1 k_7 n) ih v2 v4 h)
        · refine E_aload_n dX4_learnOneWork_41 rfl 0 rfl ?_
          refine E_getF fl_X4_15 dX4_learnOneWork_42 z28 ?_
          refine E_iload_n dX4_learnOneWork_45 rfl 2 rfl ?_
          refine E_iload dX4_learnOneWork_46 4 rfl ?_
          refine E_ior dX4_learnOneWork_48 ?_
          refine E_iald (n := 4096) rfl dX4_learnOneWork_49 z30 (fun _ => ?_)
          refine E_iconst (v := 1) dX4_learnOneWork_50 rfl ?_
          refine E_icmp_ne (t := 58) dX4_learnOneWork_51 rfl ?_ ?_
          · exact E_sub [0, 1, 2, 4] rfl (sQ_learnOneWork_58 G v1 (jQ_learnOneWork_21 v1 k_7 n) ih v2 v4 h)
          · refine E_iconst (v := 1) dX4_learnOneWork_54 rfl ?_
            refine E_goto (t := 59) dX4_learnOneWork_55 rfl ?_
            exact E_sub [0, 1, 2, 4] rfl (sQ_learnOneWork_59 G v1 (jQ_learnOneWork_21 v1 k_7 n) ih v2 v4 1 h)
def jQ_learnOneWork_7 (v1 : Int32) : Nat → Int32 → AH → Option (AH)
  | 0, _, _ => none
  | n + 1, v2, h =>
    if v2 < 0 then (some h)
    else ((jQ_mayPaint h v2 v1).bind fun r1 =>
    (jQ_learnOneWork_21 v1 (jQ_learnOneWork_7 v1 n) FU v2 r1 1 h))
set_option maxRecDepth 20000 in
set_option maxHeartbeats 2000000 in
theorem sQ_learnOneWork_7 (G : JG) (v1 : Int32)  : ∀ (n : Nat) (v2 : Int32) (h : AH), Sim G iQ_learnOneWork rvV 7 [(0, .ref (G.ad 28 0)), (1, .int v1), (2, .int v2)] [] h (jQ_learnOneWork_7 v1 n v2 h) := by
  intro n
  induction n with
  | zero => intro v2 h; exact E_none
  | succ n ih =>
    intro v2 h
    rw [jQ_learnOneWork_7]
    refine E_iload_n dX4_learnOneWork_7 rfl 2 rfl ?_
    refine E_if_lt (t := 91) dX4_learnOneWork_8 rfl ?_ ?_
    · exact E_vret rfl rfl dX4_learnOneWork_91
    · refine E_aload_n dX4_learnOneWork_11 rfl 0 rfl ?_
      refine E_iload_n dX4_learnOneWork_12 rfl 2 rfl ?_
      refine E_iload_n dX4_learnOneWork_13 rfl 1 rfl ?_
      refine E_cVI (As := [.int v2, .int v1]) (rest := []) (sQ_mayPaint G h v2 v1) ck_X4_mayPaint lk_X4_111 rfl rfl kc_28 z28 rfl rfl rfl dX4_learnOneWork_14 (fun r1 _ => ?_)
      refine E_istore_n (ls' := [(3, .int r1), (0, .ref (G.ad 28 0)), (1, .int v1), (2, .int v2)]) dX4_learnOneWork_17 rfl (Nat.le_of_ble_eq_true rfl) rfl ?_
      refine E_iconst (v := 1) dX4_learnOneWork_18 rfl ?_
      refine E_istore (ls' := [(4, .int 1), (3, .int r1), (0, .ref (G.ad 28 0)), (1, .int v1), (2, .int v2)]) dX4_learnOneWork_19 (Nat.le_of_ble_eq_true rfl) rfl ?_
      exact E_sub [2, 3, 4, 1, 0] rfl (sQ_learnOneWork_21 G v1 (jQ_learnOneWork_7 v1 n) ih FU v2 r1 1 h)
def jQ_learnOneWork (h : AH) (v1 : Int32) : Option (AH) :=
  (jQ_learnOneWork_7 v1 FU ((gI h 28 0 6) - 1) h)
set_option maxRecDepth 20000 in
set_option maxHeartbeats 2000000 in
theorem sQ_learnOneWork (G : JG) (h : AH) (v1 : Int32) : Mt G iQ_learnOneWork rvV [.ref (G.ad 28 0), .int v1] h (jQ_learnOneWork h v1) := by
  refine Mt_of (by decide) (Nat.le_of_ble_eq_true rfl) ?_
  unfold jQ_learnOneWork
  show Sim G iQ_learnOneWork rvV 0 [(0, .ref (G.ad 28 0)), (1, .int v1)] [] h _
  refine E_aload_n dX4_learnOneWork_0 rfl 0 rfl ?_
  refine E_getI fl_X4_45 dX4_learnOneWork_1 z28 ?_
  refine E_iconst (v := 1) dX4_learnOneWork_4 rfl ?_
  refine E_isub dX4_learnOneWork_5 ?_
  refine E_istore_n (ls' := [(2, .int ((gI h 28 0 6) - 1)), (0, .ref (G.ad 28 0)), (1, .int v1)]) dX4_learnOneWork_6 rfl (Nat.le_of_ble_eq_true rfl) rfl ?_
  exact E_sub [1, 2, 0] rfl (sQ_learnOneWork_7 G v1 FU ((gI h 28 0 6) - 1) h)
def iQ_learnFewest : MI := (yX4_learnFewest, cX4_learnFewest, 4, none, { frames := 2, cells := 0, slots := 0, locals := 67 }, 0)
theorem ck_X4_learnFewest : CK iQ_learnFewest 2 := ⟨⟨wd_112, wd_1010, by decide +kernel⟩, ⟨wd_1009, wd_33⟩⟩
def jQ_learnFewest_71 (v1 : Int32) (v2 : Int32) (h : AH) : Option (AH) :=
  jb (uI h 28 0 3 v2) fun h1 =>
  jb (uI h1 28 0 4 v1) fun h2 =>
  some h2
set_option maxRecDepth 20000 in
set_option maxHeartbeats 2000000 in
theorem sQ_learnFewest_71 (G : JG) (v1 : Int32) (v2 : Int32)  (h : AH) : Sim G iQ_learnFewest rvV 71 [(0, .ref (G.ad 28 0)), (1, .int v1), (2, .int v2)] [] h (jQ_learnFewest_71 v1 v2 h) := by
  unfold jQ_learnFewest_71
  refine E_aload_n dX4_learnFewest_71 rfl 0 rfl ?_
  refine E_iload_n dX4_learnFewest_72 rfl 2 rfl ?_
  refine E_putI fs_X4_19 dX4_learnFewest_73 z28 ?_
  refine E_hgen (fun h1 => ?_)
  refine E_aload_n dX4_learnFewest_76 rfl 0 rfl ?_
  refine E_iload_n dX4_learnFewest_77 rfl 1 rfl ?_
  refine E_putI fs_X4_23 dX4_learnFewest_78 z28 ?_
  refine E_hgen (fun h2 => ?_)
  exact E_vret rfl rfl dX4_learnFewest_81
def jQ_learnFewest_31 (v1 : Int32) (v2 : Int32) : Nat → Int32 → AH → Option (AH)
  | 0, _, _ => none
  | n + 1, v3, h =>
    if v3 ≤ v1 then (if (v3 &&& (v1 ^^^ (-1))) = 0 then (if inb v3 4096 = true then (
    if (gI h 30 0 v3.toNatClampNeg) = 1 then ((jQ_learnFewest_31 v1 v2 n (v3 + 1) h))
    else ((jQ_fewestInTurn h v3).bind fun r1 =>
    if inb v3 4096 = true then (
    jb (uI h 30 0 v3.toNatClampNeg r1) fun h2 =>
    (jQ_learnFewest_31 v1 v2 n (v3 + 1) h2)) else none)) else none)
    else ((jQ_learnFewest_31 v1 v2 n (v3 + 1) h)))
    else ((jQ_learnFewest_71 v1 v2 h))
set_option maxRecDepth 20000 in
set_option maxHeartbeats 2000000 in
theorem sQ_learnFewest_31 (G : JG) (v1 : Int32) (v2 : Int32)  : ∀ (n : Nat) (v3 : Int32) (h : AH), Sim G iQ_learnFewest rvV 31 [(0, .ref (G.ad 28 0)), (1, .int v1), (2, .int v2), (3, .int v3)] [] h (jQ_learnFewest_31 v1 v2 n v3 h) := by
  intro n
  induction n with
  | zero => intro v3 h; exact E_none
  | succ n ih =>
    intro v3 h
    rw [jQ_learnFewest_31]
    refine E_iload_n dX4_learnFewest_31 rfl 3 rfl ?_
    refine E_iload_n dX4_learnFewest_32 rfl 1 rfl ?_
    refine E_icmp_gt (t := 71) dX4_learnFewest_33 rfl ?_ ?_
    · exact E_sub [0, 1, 2] rfl (sQ_learnFewest_71 G v1 v2 h)
    · refine E_iload_n dX4_learnFewest_36 rfl 3 rfl ?_
      refine E_iload_n dX4_learnFewest_37 rfl 1 rfl ?_
      refine E_iconst (v := (-1)) dX4_learnFewest_38 rfl ?_
      refine E_ixor dX4_learnFewest_39 ?_
      refine E_iand dX4_learnFewest_40 ?_
      refine E_if_ne (t := 65) dX4_learnFewest_41 rfl ?_ ?_
      · refine E_iinc (q := 3) (v := (v3 + 1)) (ls' := [(3, .int (v3 + 1)), (0, .ref (G.ad 28 0)), (1, .int v1), (2, .int v2)]) dX4_learnFewest_65 rfl rfl (Nat.le_of_ble_eq_true rfl) rfl ?_
        refine E_goto (t := 31) dX4_learnFewest_68 rfl ?_
        exact E_sub [1, 2, 3, 0] rfl (ih (v3 + 1) h)
      · refine E_aload_n dX4_learnFewest_44 rfl 0 rfl ?_
        refine E_getF fl_X4_15 dX4_learnFewest_45 z28 ?_
        refine E_iload_n dX4_learnFewest_48 rfl 3 rfl ?_
        refine E_iald (n := 4096) rfl dX4_learnFewest_49 z30 (fun _ => ?_)
        refine E_iconst (v := 1) dX4_learnFewest_50 rfl ?_
        refine E_icmp_eq (t := 65) dX4_learnFewest_51 rfl ?_ ?_
        · refine E_iinc (q := 3) (v := (v3 + 1)) (ls' := [(3, .int (v3 + 1)), (0, .ref (G.ad 28 0)), (1, .int v1), (2, .int v2)]) dX4_learnFewest_65 rfl rfl (Nat.le_of_ble_eq_true rfl) rfl ?_
          refine E_goto (t := 31) dX4_learnFewest_68 rfl ?_
          exact E_sub [1, 2, 3, 0] rfl (ih (v3 + 1) h)
        · refine E_aload_n dX4_learnFewest_54 rfl 0 rfl ?_
          refine E_getF fl_X4_15 dX4_learnFewest_55 z28 ?_
          refine E_iload_n dX4_learnFewest_58 rfl 3 rfl ?_
          refine E_aload_n dX4_learnFewest_59 rfl 0 rfl ?_
          refine E_iload_n dX4_learnFewest_60 rfl 3 rfl ?_
          refine E_cVI (As := [.int v3]) (rest := [.int v3, .ref (G.ad 30 0)]) (sQ_fewestInTurn G h v3) ck_X4_fewestInTurn lk_X4_122 rfl rfl kc_28 z28 rfl rfl rfl dX4_learnFewest_61 (fun r1 _ => ?_)
          refine E_iast (n := 4096) rfl dX4_learnFewest_64 z30 (fun _ => ?_)
          refine E_hgen (fun h2 => ?_)
          refine E_iinc (q := 3) (v := (v3 + 1)) (ls' := [(3, .int (v3 + 1)), (0, .ref (G.ad 28 0)), (1, .int v1), (2, .int v2)]) dX4_learnFewest_65 rfl rfl (Nat.le_of_ble_eq_true rfl) rfl ?_
          refine E_goto (t := 31) dX4_learnFewest_68 rfl ?_
          exact E_sub [1, 2, 3, 0] rfl (ih (v3 + 1) h2)
def jQ_learnFewest_17 (v1 : Int32) (v2 : Int32) (h : AH) : Option (AH) :=
  (jQ_learnOneWork h v2).bind fun h1 =>
  if inb 0 4096 = true then (
  jb (uI h1 30 0 (0 : Int32).toNatClampNeg 0) fun h2 =>
  (jQ_learnFewest_31 v1 v2 FU 1 h2)) else none
set_option maxRecDepth 20000 in
set_option maxHeartbeats 2000000 in
theorem sQ_learnFewest_17 (G : JG) (v1 : Int32) (v2 : Int32)  (h : AH) : Sim G iQ_learnFewest rvV 17 [(0, .ref (G.ad 28 0)), (1, .int v1), (2, .int v2)] [] h (jQ_learnFewest_17 v1 v2 h) := by
  unfold jQ_learnFewest_17
  refine E_aload_n dX4_learnFewest_17 rfl 0 rfl ?_
  refine E_iload_n dX4_learnFewest_18 rfl 2 rfl ?_
  refine E_cVV (As := [.int v2]) (rest := []) (sQ_learnOneWork G h v2) ck_X4_learnOneWork lk_X4_118 rfl rfl kc_28 z28 rfl rfl rfl dX4_learnFewest_19 (fun h1 _ => ?_)
  refine E_aload_n dX4_learnFewest_22 rfl 0 rfl ?_
  refine E_getF fl_X4_15 dX4_learnFewest_23 z28 ?_
  refine E_iconst (v := 0) dX4_learnFewest_26 rfl ?_
  refine E_iconst (v := 0) dX4_learnFewest_27 rfl ?_
  refine E_iast (n := 4096) rfl dX4_learnFewest_28 z30 (fun _ => ?_)
  refine E_hgen (fun h2 => ?_)
  refine E_iconst (v := 1) dX4_learnFewest_29 rfl ?_
  refine E_istore_n (ls' := [(3, .int 1), (0, .ref (G.ad 28 0)), (1, .int v1), (2, .int v2)]) dX4_learnFewest_30 rfl (Nat.le_of_ble_eq_true rfl) rfl ?_
  exact E_sub [1, 2, 3, 0] rfl (sQ_learnFewest_31 G v1 v2 FU 1 h2)
def jQ_learnFewest (h : AH) (v1 : Int32) (v2 : Int32) : Option (AH) :=
  if (gI h 28 0 3) = v2 then (if (gI h 28 0 4) = v1 then (some h)
  else ((jQ_learnFewest_17 v1 v2 h)))
  else ((jQ_learnFewest_17 v1 v2 h))
set_option maxRecDepth 20000 in
set_option maxHeartbeats 2000000 in
theorem sQ_learnFewest (G : JG) (h : AH) (v1 : Int32) (v2 : Int32) : Mt G iQ_learnFewest rvV [.ref (G.ad 28 0), .int v1, .int v2] h (jQ_learnFewest h v1 v2) := by
  refine Mt_of (by decide) (Nat.le_of_ble_eq_true rfl) ?_
  unfold jQ_learnFewest
  show Sim G iQ_learnFewest rvV 0 [(0, .ref (G.ad 28 0)), (1, .int v1), (2, .int v2)] [] h _
  refine E_aload_n dX4_learnFewest_0 rfl 0 rfl ?_
  refine E_getI fl_X4_19 dX4_learnFewest_1 z28 ?_
  refine E_iload_n dX4_learnFewest_4 rfl 2 rfl ?_
  refine E_icmp_ne (t := 17) dX4_learnFewest_5 rfl ?_ ?_
  · exact E_sub [0, 1, 2] rfl (sQ_learnFewest_17 G v1 v2 h)
  · refine E_aload_n dX4_learnFewest_8 rfl 0 rfl ?_
    refine E_getI fl_X4_23 dX4_learnFewest_9 z28 ?_
    refine E_iload_n dX4_learnFewest_12 rfl 1 rfl ?_
    refine E_icmp_ne (t := 17) dX4_learnFewest_13 rfl ?_ ?_
    · exact E_sub [0, 1, 2] rfl (sQ_learnFewest_17 G v1 v2 h)
    · exact E_vret rfl rfl dX4_learnFewest_16
def iQ_fewestWorks : MI := (yX4_fewestWorks, cX4_fewestWorks, 2, (some .int), { frames := 3, cells := 0, slots := 0, locals := 90 }, 0)
theorem ck_X4_fewestWorks : CK iQ_fewestWorks 0 := ⟨⟨wd_112, wd_1006, by decide +kernel⟩, ⟨wd_1004, wd_1005⟩⟩
def jQ_fewestWorks (h : AH)  : Option (Int32 × AH) :=
  if ((gI h 28 0 9) &&& ((gI h 28 0 7) ^^^ (-1))) = 0 then ((jQ_learnFewest h ((gI h 28 0 8) &&& ((gI h 28 0 7) ^^^ (-1))) ((gI h 28 0 10) ||| (gI h 28 0 9))).bind fun h1 =>
  if inb ((gI h 28 0 8) &&& ((gI h 28 0 7) ^^^ (-1))) 4096 = true then (
  if (gI h1 30 0 ((gI h 28 0 8) &&& ((gI h 28 0 7) ^^^ (-1))).toNatClampNeg) < 100 then (if inb ((gI h 28 0 8) &&& ((gI h 28 0 7) ^^^ (-1))) 4096 = true then (
  some ((gI h1 30 0 ((gI h 28 0 8) &&& ((gI h 28 0 7) ^^^ (-1))).toNatClampNeg), h1)) else none)
  else (some ((-2), h1))) else none)
  else (some ((-2), h))
set_option maxRecDepth 20000 in
set_option maxHeartbeats 2000000 in
theorem sQ_fewestWorks (G : JG) (h : AH)  : Mt G iQ_fewestWorks rvIM [.ref (G.ad 28 0)] h (jQ_fewestWorks h) := by
  refine Mt_of (by decide) (Nat.le_of_ble_eq_true rfl) ?_
  unfold jQ_fewestWorks
  show Sim G iQ_fewestWorks rvIM 0 [(0, .ref (G.ad 28 0))] [] h _
  refine E_aload_n dX4_fewestWorks_0 rfl 0 rfl ?_
  refine E_getI fl_X4_76 dX4_fewestWorks_1 z28 ?_
  refine E_aload_n dX4_fewestWorks_4 rfl 0 rfl ?_
  refine E_getI fl_X4_56 dX4_fewestWorks_5 z28 ?_
  refine E_iconst (v := (-1)) dX4_fewestWorks_8 rfl ?_
  refine E_ixor dX4_fewestWorks_9 ?_
  refine E_iand dX4_fewestWorks_10 ?_
  refine E_if_eq (t := 17) dX4_fewestWorks_11 rfl ?_ ?_
  · refine E_aload_n dX4_fewestWorks_17 rfl 0 rfl ?_
    refine E_getI fl_X4_59 dX4_fewestWorks_18 z28 ?_
    refine E_aload_n dX4_fewestWorks_21 rfl 0 rfl ?_
    refine E_getI fl_X4_56 dX4_fewestWorks_22 z28 ?_
    refine E_iconst (v := (-1)) dX4_fewestWorks_25 rfl ?_
    refine E_ixor dX4_fewestWorks_26 ?_
    refine E_iand dX4_fewestWorks_27 ?_
    refine E_istore_n (ls' := [(1, .int ((gI h 28 0 8) &&& ((gI h 28 0 7) ^^^ (-1)))), (0, .ref (G.ad 28 0))]) dX4_fewestWorks_28 rfl (Nat.le_of_ble_eq_true rfl) rfl ?_
    refine E_aload_n dX4_fewestWorks_29 rfl 1 rfl ?_
    refine E_iload_n dX4_fewestWorks_30 rfl 0 rfl ?_
    refine E_aload_n dX4_fewestWorks_31 rfl 1 rfl ?_
    refine E_getI fl_X4_86 dX4_fewestWorks_32 z28 ?_
    refine E_aload_n dX4_fewestWorks_35 rfl 1 rfl ?_
    refine E_getI fl_X4_76 dX4_fewestWorks_36 z28 ?_
    refine E_ior dX4_fewestWorks_39 ?_
    refine E_cVV (As := [.int ((gI h 28 0 8) &&& ((gI h 28 0 7) ^^^ (-1))), .int ((gI h 28 0 10) ||| (gI h 28 0 9))]) (rest := []) (sQ_learnFewest G h ((gI h 28 0 8) &&& ((gI h 28 0 7) ^^^ (-1))) ((gI h 28 0 10) ||| (gI h 28 0 9))) ck_X4_learnFewest lk_X4_114 rfl rfl kc_28 z28 rfl rfl rfl dX4_fewestWorks_40 (fun h1 _ => ?_)
    refine E_aload_n dX4_fewestWorks_43 rfl 1 rfl ?_
    refine E_getF fl_X4_15 dX4_fewestWorks_44 z28 ?_
    refine E_iload_n dX4_fewestWorks_47 rfl 0 rfl ?_
    refine E_iald (n := 4096) rfl dX4_fewestWorks_48 z30 (fun _ => ?_)
    refine E_bipush (v := 100) dX4_fewestWorks_49 rfl ?_
    refine E_icmp_ge (t := 63) dX4_fewestWorks_51 rfl ?_ ?_
    · refine E_bipush (v := (-2)) dX4_fewestWorks_63 rfl ?_
      exact E_iret rfl rfl dX4_fewestWorks_65
    · refine E_aload_n dX4_fewestWorks_54 rfl 1 rfl ?_
      refine E_getF fl_X4_15 dX4_fewestWorks_55 z28 ?_
      refine E_iload_n dX4_fewestWorks_58 rfl 0 rfl ?_
      refine E_iald (n := 4096) rfl dX4_fewestWorks_59 z30 (fun _ => ?_)
      refine E_goto (t := 65) dX4_fewestWorks_60 rfl ?_
      exact E_iret rfl rfl dX4_fewestWorks_65
  · refine E_bipush (v := (-2)) dX4_fewestWorks_14 rfl ?_
    exact E_iret rfl rfl dX4_fewestWorks_16
def iQ_forget : MI := (yX4_forget, cX4_forget, 1, none, { frames := 0, cells := 0, slots := 0, locals := 0 }, 0)
theorem ck_X4_forget : CK iQ_forget 0 := ⟨⟨wd_112, wd_649, by decide +kernel⟩, ⟨wd_647, wd_648⟩⟩
def jQ_forget (h : AH)  : Option (AH) :=
  jb (uI h 28 0 1 0) fun h1 =>
  jb (uI h1 28 0 3 (-1)) fun h2 =>
  jb (uI h2 28 0 4 (-1)) fun h3 =>
  some h3
set_option maxRecDepth 20000 in
set_option maxHeartbeats 2000000 in
theorem sQ_forget (G : JG) (h : AH)  : Mt G iQ_forget rvV [.ref (G.ad 28 0)] h (jQ_forget h) := by
  refine Mt_of (by decide) (Nat.le_of_ble_eq_true rfl) ?_
  unfold jQ_forget
  show Sim G iQ_forget rvV 0 [(0, .ref (G.ad 28 0))] [] h _
  refine E_aload_n dX4_forget_0 rfl 0 rfl ?_
  refine E_iconst (v := 0) dX4_forget_1 rfl ?_
  refine E_putZ fs_X4_29 (Or.inl rfl) dX4_forget_2 z28 ?_
  refine E_hgen (fun h1 => ?_)
  refine E_aload_n dX4_forget_5 rfl 0 rfl ?_
  refine E_iconst (v := (-1)) dX4_forget_6 rfl ?_
  refine E_putI fs_X4_19 dX4_forget_7 z28 ?_
  refine E_hgen (fun h2 => ?_)
  refine E_aload_n dX4_forget_10 rfl 0 rfl ?_
  refine E_iconst (v := (-1)) dX4_forget_11 rfl ?_
  refine E_putI fs_X4_23 dX4_forget_12 z28 ?_
  refine E_hgen (fun h3 => ?_)
  exact E_vret rfl rfl dX4_forget_15
def iQ_learnLaw : MI := (yX4_learnLaw, cX4_learnLaw, 6, none, { frames := 3, cells := 0, slots := 0, locals := 71 }, 0)
theorem ck_X4_learnLaw : CK iQ_learnLaw 1 := ⟨⟨wd_112, wd_966, by decide +kernel⟩, ⟨wd_965, wd_30⟩⟩
def jQ_learnLaw_74 (b : Nat) (k_10 : Int32 → AH → Option AH) (v2 : Int32) (s0 : Int32) (h : AH) : Option (AH) :=
  if s0 = 0 then (if inb v2 4096 = true then (
  jb (uI h 29 0 v2.toNatClampNeg (vp_nar .byte ((0 : Int32).toInt8.toInt32))) fun h1 =>
  (k_10 (v2 + 1) h1)) else none)
  else (if inb v2 4096 = true then (
  jb (uI h 29 0 v2.toNatClampNeg (vp_nar .byte ((1 : Int32).toInt8.toInt32))) fun h2 =>
  (k_10 (v2 + 1) h2)) else none)
set_option maxRecDepth 20000 in
set_option maxHeartbeats 2000000 in
theorem sQ_learnLaw_74 (G : JG) (b : Nat) (hb : b < nIn 0 3) (k_10 : Int32 → AH → Option AH) (hk_10 : ∀ (v2 : Int32) (h : AH), Sim G iQ_learnLaw rvV 10 [(0, .ref (G.ad 28 0)), (1, .ref (G.ad 3 b)), (2, .int v2)] [] h (k_10 v2 h)) (v2 : Int32) (s0 : Int32) (h : AH) : Sim G iQ_learnLaw rvV 74 [(0, .ref (G.ad 28 0)), (1, .ref (G.ad 3 b)), (2, .int v2)] [.int s0] h (jQ_learnLaw_74 b k_10 v2 s0 h) := by
  unfold jQ_learnLaw_74
  refine E_istore (ls' := [(5, .int s0), (0, .ref (G.ad 28 0)), (1, .ref (G.ad 3 b)), (2, .int v2)]) dX4_learnLaw_74 (Nat.le_of_ble_eq_true rfl) rfl ?_
  refine E_aload_n dX4_learnLaw_76 rfl 1 rfl ?_
  refine E_getF fl_X4_11 dX4_learnLaw_77 z28 ?_
  refine E_iload_n dX4_learnLaw_80 rfl 3 rfl ?_
  refine E_iload dX4_learnLaw_81 0 rfl ?_
  refine E_if_eq (t := 90) dX4_learnLaw_83 rfl ?_ ?_
  · refine E_iconst (v := 0) dX4_learnLaw_90 rfl ?_
    refine E_i2b dX4_learnLaw_91 ?_
    refine E_bast (n := 4096) rfl dX4_learnLaw_92 z29 (fun _ => ?_)
    refine E_hgen (fun h1 => ?_)
    refine E_iinc (q := 3) (v := (v2 + 1)) (ls' := [(2, .int (v2 + 1)), (5, .int s0), (0, .ref (G.ad 28 0)), (1, .ref (G.ad 3 b))]) dX4_learnLaw_93 rfl rfl (Nat.le_of_ble_eq_true rfl) rfl ?_
    refine E_goto (t := 10) dX4_learnLaw_96 rfl ?_
    exact E_sub [2, 3, 0] rfl (hk_10 (v2 + 1) h1)
  · refine E_iconst (v := 1) dX4_learnLaw_86 rfl ?_
    refine E_goto (t := 91) dX4_learnLaw_87 rfl ?_
    refine E_i2b dX4_learnLaw_91 ?_
    refine E_bast (n := 4096) rfl dX4_learnLaw_92 z29 (fun _ => ?_)
    refine E_hgen (fun h2 => ?_)
    refine E_iinc (q := 3) (v := (v2 + 1)) (ls' := [(2, .int (v2 + 1)), (5, .int s0), (0, .ref (G.ad 28 0)), (1, .ref (G.ad 3 b))]) dX4_learnLaw_93 rfl rfl (Nat.le_of_ble_eq_true rfl) rfl ?_
    refine E_goto (t := 10) dX4_learnLaw_96 rfl ?_
    exact E_sub [2, 3, 0] rfl (hk_10 (v2 + 1) h2)
def jQ_learnLaw_69 (b : Nat) (k_10 : Int32 → AH → Option AH) (v2 : Int32) (h : AH) : Option (AH) :=
  (jQ_learnLaw_74 b k_10 v2 1 h)
set_option maxRecDepth 20000 in
set_option maxHeartbeats 2000000 in
theorem sQ_learnLaw_69 (G : JG) (b : Nat) (hb : b < nIn 0 3) (k_10 : Int32 → AH → Option AH) (hk_10 : ∀ (v2 : Int32) (h : AH), Sim G iQ_learnLaw rvV 10 [(0, .ref (G.ad 28 0)), (1, .ref (G.ad 3 b)), (2, .int v2)] [] h (k_10 v2 h)) (v2 : Int32) (h : AH) : Sim G iQ_learnLaw rvV 69 [(0, .ref (G.ad 28 0)), (1, .ref (G.ad 3 b)), (2, .int v2)] [] h (jQ_learnLaw_69 b k_10 v2 h) := by
  unfold jQ_learnLaw_69
  refine E_iconst (v := 1) dX4_learnLaw_69 rfl ?_
  refine E_goto (t := 74) dX4_learnLaw_70 rfl ?_
  exact E_sub [0, 1, 2] rfl (sQ_learnLaw_74 G b hb k_10 hk_10 v2 1 h)
def jQ_learnLaw_73 (b : Nat) (k_10 : Int32 → AH → Option AH) (v2 : Int32) (h : AH) : Option (AH) :=
  (jQ_learnLaw_74 b k_10 v2 0 h)
set_option maxRecDepth 20000 in
set_option maxHeartbeats 2000000 in
theorem sQ_learnLaw_73 (G : JG) (b : Nat) (hb : b < nIn 0 3) (k_10 : Int32 → AH → Option AH) (hk_10 : ∀ (v2 : Int32) (h : AH), Sim G iQ_learnLaw rvV 10 [(0, .ref (G.ad 28 0)), (1, .ref (G.ad 3 b)), (2, .int v2)] [] h (k_10 v2 h)) (v2 : Int32) (h : AH) : Sim G iQ_learnLaw rvV 73 [(0, .ref (G.ad 28 0)), (1, .ref (G.ad 3 b)), (2, .int v2)] [] h (jQ_learnLaw_73 b k_10 v2 h) := by
  unfold jQ_learnLaw_73
  refine E_iconst (v := 0) dX4_learnLaw_73 rfl ?_
  exact E_sub [0, 1, 2] rfl (sQ_learnLaw_74 G b hb k_10 hk_10 v2 0 h)
def jQ_learnLaw_43 (b : Nat) (k_10 : Int32 → AH → Option AH) (v2 : Int32) (v3 : Int32) (s0 : Int32) (h : AH) : Option (AH) :=
  if s0 = 0 then ((jQ_learnLaw_73 b k_10 v2 h))
  else (if (gI h 3 b 3) = 0 then ((jQ_learnLaw_69 b k_10 v2 h))
  else ((jB_partsOf h b v3).bind fun r1 =>
  if r1 ≤ (gI h 3 b 3) then ((jQ_learnLaw_69 b k_10 v2 h))
  else ((jQ_learnLaw_73 b k_10 v2 h))))
set_option maxRecDepth 20000 in
set_option maxHeartbeats 2000000 in
theorem sQ_learnLaw_43 (G : JG) (b : Nat) (hb : b < nIn 0 3) (k_10 : Int32 → AH → Option AH) (hk_10 : ∀ (v2 : Int32) (h : AH), Sim G iQ_learnLaw rvV 10 [(0, .ref (G.ad 28 0)), (1, .ref (G.ad 3 b)), (2, .int v2)] [] h (k_10 v2 h)) (v2 : Int32) (v3 : Int32) (s0 : Int32) (h : AH) : Sim G iQ_learnLaw rvV 43 [(0, .ref (G.ad 28 0)), (1, .ref (G.ad 3 b)), (2, .int v2), (3, .int v3)] [.int s0] h (jQ_learnLaw_43 b k_10 v2 v3 s0 h) := by
  unfold jQ_learnLaw_43
  refine E_istore (ls' := [(4, .int s0), (0, .ref (G.ad 28 0)), (1, .ref (G.ad 3 b)), (2, .int v2), (3, .int v3)]) dX4_learnLaw_43 (Nat.le_of_ble_eq_true rfl) rfl ?_
  refine E_iload dX4_learnLaw_45 0 rfl ?_
  refine E_if_eq (t := 73) dX4_learnLaw_47 rfl ?_ ?_
  · exact E_sub [1, 2, 3] rfl (sQ_learnLaw_73 G b hb k_10 hk_10 v2 h)
  · refine E_aload_n dX4_learnLaw_50 rfl 2 rfl ?_
    refine E_getI fl_X4_102 dX4_learnLaw_51 hb ?_
    refine E_if_eq (t := 69) dX4_learnLaw_54 rfl ?_ ?_
    · exact E_sub [1, 2, 3] rfl (sQ_learnLaw_69 G b hb k_10 hk_10 v2 h)
    · refine E_aload_n dX4_learnLaw_57 rfl 2 rfl ?_
      refine E_iload_n dX4_learnLaw_58 rfl 4 rfl ?_
      refine E_cVI (As := [.int v3]) (rest := []) (sB_partsOf G h b hb v3) ck_X0_partsOf lk_X4_105 rfl rfl kc_3 hb rfl rfl rfl dX4_learnLaw_59 (fun r1 _ => ?_)
      refine E_aload_n dX4_learnLaw_62 rfl 2 rfl ?_
      refine E_getI fl_X4_102 dX4_learnLaw_63 hb ?_
      refine E_icmp_gt (t := 73) dX4_learnLaw_66 rfl ?_ ?_
      · exact E_sub [1, 2, 3] rfl (sQ_learnLaw_73 G b hb k_10 hk_10 v2 h)
      · exact E_sub [1, 2, 3] rfl (sQ_learnLaw_69 G b hb k_10 hk_10 v2 h)
def jQ_learnLaw_10 (b : Nat) : Nat → Int32 → AH → Option (AH)
  | 0, _, _ => none
  | n + 1, v2, h =>
    if v2 < (gI h 28 0 6) then ((jB_allCells h b).bind fun r2 =>
    (jJ_bitCount (r2 &&& (v2 ^^^ (-1)))).bind fun r3 =>
    if r3 < (gI h 3 b 2) then ((jQ_learnLaw_43 b (jQ_learnLaw_10 b n) v2 (r2 &&& (v2 ^^^ (-1))) 0 h))
    else ((jQ_learnLaw_43 b (jQ_learnLaw_10 b n) v2 (r2 &&& (v2 ^^^ (-1))) 1 h)))
    else (jb (uI h 28 0 1 1) fun h1 =>
    some h1)
set_option maxRecDepth 20000 in
set_option maxHeartbeats 2000000 in
theorem sQ_learnLaw_10 (G : JG) (b : Nat) (hb : b < nIn 0 3)  : ∀ (n : Nat) (v2 : Int32) (h : AH), Sim G iQ_learnLaw rvV 10 [(0, .ref (G.ad 28 0)), (1, .ref (G.ad 3 b)), (2, .int v2)] [] h (jQ_learnLaw_10 b n v2 h) := by
  intro n
  induction n with
  | zero => intro v2 h; exact E_none
  | succ n ih =>
    intro v2 h
    rw [jQ_learnLaw_10]
    refine E_iload_n dX4_learnLaw_10 rfl 2 rfl ?_
    refine E_aload_n dX4_learnLaw_11 rfl 0 rfl ?_
    refine E_getI fl_X4_45 dX4_learnLaw_12 z28 ?_
    refine E_icmp_ge (t := 99) dX4_learnLaw_15 rfl ?_ ?_
    · refine E_aload_n dX4_learnLaw_99 rfl 0 rfl ?_
      refine E_iconst (v := 1) dX4_learnLaw_100 rfl ?_
      refine E_putZ fs_X4_29 (Or.inr rfl) dX4_learnLaw_101 z28 ?_
      refine E_hgen (fun h1 => ?_)
      exact E_vret rfl rfl dX4_learnLaw_104
    · refine E_aload_n dX4_learnLaw_18 rfl 1 rfl ?_
      refine E_cVI (As := []) (rest := []) (sB_allCells G h b hb) ck_X0_allCells lk_X4_33 rfl rfl kc_3 hb rfl rfl rfl dX4_learnLaw_19 (fun r2 _ => ?_)
      refine E_iload_n dX4_learnLaw_22 rfl 2 rfl ?_
      refine E_iconst (v := (-1)) dX4_learnLaw_23 rfl ?_
      refine E_ixor dX4_learnLaw_24 ?_
      refine E_iand dX4_learnLaw_25 ?_
      refine E_istore_n (ls' := [(3, .int (r2 &&& (v2 ^^^ (-1)))), (0, .ref (G.ad 28 0)), (1, .ref (G.ad 3 b)), (2, .int v2)]) dX4_learnLaw_26 rfl (Nat.le_of_ble_eq_true rfl) rfl ?_
      refine E_iload_n dX4_learnLaw_27 rfl 0 rfl ?_
      refine E_cSI (As := [.int (r2 &&& (v2 ^^^ (-1)))]) (rest := []) (sJ_bitCount G h (r2 &&& (v2 ^^^ (-1)))) ck_J6_bitCount_0f7a4 lk_X4_94 rfl rfl rfl rfl rfl dX4_learnLaw_28 (fun r3 _ => ?_)
      refine E_aload_n dX4_learnLaw_31 rfl 2 rfl ?_
      refine E_getI fl_X4_99 dX4_learnLaw_32 hb ?_
      refine E_icmp_lt (t := 42) dX4_learnLaw_35 rfl ?_ ?_
      · refine E_iconst (v := 0) dX4_learnLaw_42 rfl ?_
        exact E_sub [1, 2, 3, 0] rfl (sQ_learnLaw_43 G b hb (jQ_learnLaw_10 b n) ih v2 (r2 &&& (v2 ^^^ (-1))) 0 h)
      · refine E_iconst (v := 1) dX4_learnLaw_38 rfl ?_
        refine E_goto (t := 43) dX4_learnLaw_39 rfl ?_
        exact E_sub [1, 2, 3, 0] rfl (sQ_learnLaw_43 G b hb (jQ_learnLaw_10 b n) ih v2 (r2 &&& (v2 ^^^ (-1))) 1 h)
def jQ_learnLaw (h : AH) (b : Nat) : Option (AH) :=
  if (gI h 28 0 1) = 0 then ((jQ_learnLaw_10 b FU 0 h))
  else (some h)
set_option maxRecDepth 20000 in
set_option maxHeartbeats 2000000 in
theorem sQ_learnLaw (G : JG) (h : AH) (b : Nat) (hb : b < nIn 0 3) : Mt G iQ_learnLaw rvV [.ref (G.ad 28 0), .ref (G.ad 3 b)] h (jQ_learnLaw h b) := by
  refine Mt_of (by decide) (Nat.le_of_ble_eq_true rfl) ?_
  unfold jQ_learnLaw
  show Sim G iQ_learnLaw rvV 0 [(0, .ref (G.ad 28 0)), (1, .ref (G.ad 3 b))] [] h _
  refine E_aload_n dX4_learnLaw_0 rfl 0 rfl ?_
  refine E_getI fl_X4_29 dX4_learnLaw_1 z28 ?_
  refine E_if_eq (t := 8) dX4_learnLaw_4 rfl ?_ ?_
  · refine E_iconst (v := 0) dX4_learnLaw_8 rfl ?_
    refine E_istore_n (ls' := [(2, .int 0), (0, .ref (G.ad 28 0)), (1, .ref (G.ad 3 b))]) dX4_learnLaw_9 rfl (Nat.le_of_ble_eq_true rfl) rfl ?_
    exact E_sub [1, 2, 0] rfl (sQ_learnLaw_10 G b hb FU 0 h)
  · exact E_vret rfl rfl dX4_learnLaw_7
def iQ_leastNext : MI := (yX4_leastNext, cX4_leastNext, 3, (some .int), { frames := 1, cells := 0, slots := 0, locals := 22 }, 0)
theorem ck_X4_leastNext : CK iQ_leastNext 1 := ⟨⟨wd_112, wd_1030, by decide +kernel⟩, ⟨wd_1029, wd_36⟩⟩
def jQ_leastNext_2 (h : AH) (v1 : Int32) : Nat → Int32 → Option (Int32)
  | 0, _ => none
  | n + 1, v2 =>
    if v2 < (gI h 28 0 6) then (if inb (v1 &&& (v2 ^^^ (-1))) 4096 = true then (
    if inb v1 4096 = true then (
    if (gI h 30 0 (v1 &&& (v2 ^^^ (-1))).toNatClampNeg) = ((gI h 30 0 v1.toNatClampNeg) - 1) then ((jQ_mayPaint h v2 ((gI h 28 0 10) ||| (gI h 28 0 9))).bind fun r1 =>
    if r1 = 0 then ((jQ_leastNext_2 h v1 n (v2 + 1)))
    else (some v2))
    else ((jQ_leastNext_2 h v1 n (v2 + 1)))) else none) else none)
    else (some 0)
set_option maxRecDepth 20000 in
set_option maxHeartbeats 2000000 in
theorem sQ_leastNext_2 (G : JG) (h : AH) (v1 : Int32)  : ∀ (n : Nat) (v2 : Int32), Sim G iQ_leastNext (rvI h) 2 [(0, .ref (G.ad 28 0)), (1, .int v1), (2, .int v2)] [] h (jQ_leastNext_2 h v1 n v2) := by
  intro n
  induction n with
  | zero => intro v2; exact E_none
  | succ n ih =>
    intro v2
    rw [jQ_leastNext_2]
    refine E_iload_n dX4_leastNext_2 rfl 2 rfl ?_
    refine E_aload_n dX4_leastNext_3 rfl 0 rfl ?_
    refine E_getI fl_X4_45 dX4_leastNext_4 z28 ?_
    refine E_icmp_ge (t := 56) dX4_leastNext_7 rfl ?_ ?_
    · refine E_iconst (v := 0) dX4_leastNext_56 rfl ?_
      exact E_iret rfl rfl dX4_leastNext_57
    · refine E_aload_n dX4_leastNext_10 rfl 0 rfl ?_
      refine E_getF fl_X4_15 dX4_leastNext_11 z28 ?_
      refine E_iload_n dX4_leastNext_14 rfl 1 rfl ?_
      refine E_iload_n dX4_leastNext_15 rfl 2 rfl ?_
      refine E_iconst (v := (-1)) dX4_leastNext_16 rfl ?_
      refine E_ixor dX4_leastNext_17 ?_
      refine E_iand dX4_leastNext_18 ?_
      refine E_iald (n := 4096) rfl dX4_leastNext_19 z30 (fun _ => ?_)
      refine E_aload_n dX4_leastNext_20 rfl 0 rfl ?_
      refine E_getF fl_X4_15 dX4_leastNext_21 z28 ?_
      refine E_iload_n dX4_leastNext_24 rfl 1 rfl ?_
      refine E_iald (n := 4096) rfl dX4_leastNext_25 z30 (fun _ => ?_)
      refine E_iconst (v := 1) dX4_leastNext_26 rfl ?_
      refine E_isub dX4_leastNext_27 ?_
      refine E_icmp_ne (t := 50) dX4_leastNext_28 rfl ?_ ?_
      · refine E_iinc (q := 2) (v := (v2 + 1)) (ls' := [(2, .int (v2 + 1)), (0, .ref (G.ad 28 0)), (1, .int v1)]) dX4_leastNext_50 rfl rfl (Nat.le_of_ble_eq_true rfl) rfl ?_
        refine E_goto (t := 2) dX4_leastNext_53 rfl ?_
        exact E_sub [1, 2, 0] rfl (ih (v2 + 1))
      · refine E_aload_n dX4_leastNext_31 rfl 0 rfl ?_
        refine E_iload_n dX4_leastNext_32 rfl 2 rfl ?_
        refine E_aload_n dX4_leastNext_33 rfl 0 rfl ?_
        refine E_getI fl_X4_86 dX4_leastNext_34 z28 ?_
        refine E_aload_n dX4_leastNext_37 rfl 0 rfl ?_
        refine E_getI fl_X4_76 dX4_leastNext_38 z28 ?_
        refine E_ior dX4_leastNext_41 ?_
        refine E_cVI (As := [.int v2, .int ((gI h 28 0 10) ||| (gI h 28 0 9))]) (rest := []) (sQ_mayPaint G h v2 ((gI h 28 0 10) ||| (gI h 28 0 9))) ck_X4_mayPaint lk_X4_111 rfl rfl kc_28 z28 rfl rfl rfl dX4_leastNext_42 (fun r1 _ => ?_)
        refine E_if_eq (t := 50) dX4_leastNext_45 rfl ?_ ?_
        · refine E_iinc (q := 2) (v := (v2 + 1)) (ls' := [(2, .int (v2 + 1)), (0, .ref (G.ad 28 0)), (1, .int v1)]) dX4_leastNext_50 rfl rfl (Nat.le_of_ble_eq_true rfl) rfl ?_
          refine E_goto (t := 2) dX4_leastNext_53 rfl ?_
          exact E_sub [1, 2, 0] rfl (ih (v2 + 1))
        · refine E_iload_n dX4_leastNext_48 rfl 2 rfl ?_
          exact E_iret rfl rfl dX4_leastNext_49
def jQ_leastNext (h : AH) (v1 : Int32) : Option (Int32) :=
  (jQ_leastNext_2 h v1 FU 1)
set_option maxRecDepth 20000 in
set_option maxHeartbeats 2000000 in
theorem sQ_leastNext (G : JG) (h : AH) (v1 : Int32) : Mt G iQ_leastNext (rvI h) [.ref (G.ad 28 0), .int v1] h (jQ_leastNext h v1) := by
  refine Mt_of (by decide) (Nat.le_of_ble_eq_true rfl) ?_
  unfold jQ_leastNext
  show Sim G iQ_leastNext (rvI h) 0 [(0, .ref (G.ad 28 0)), (1, .int v1)] [] h _
  refine E_iconst (v := 1) dX4_leastNext_0 rfl ?_
  refine E_istore_n (ls' := [(2, .int 1), (0, .ref (G.ad 28 0)), (1, .int v1)]) dX4_leastNext_1 rfl (Nat.le_of_ble_eq_true rfl) rfl ?_
  exact E_sub [1, 2, 0] rfl (sQ_leastNext_2 G h v1 FU 1)
