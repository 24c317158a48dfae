/-! ===== the class, 1 ===== -/
def iB_wantedAt : MI := (yX0_wantedAt, cX0_wantedAt, 2, (some .int), { frames := 1, cells := 0, slots := 0, locals := 20 }, 0)
theorem ck_X0_wantedAt : CK iB_wantedAt 1 := ⟨⟨wd_107, wd_934, by decide +kernel⟩, ⟨wd_932, wd_933⟩⟩
def jB_wantedAt (h : AH) (b : Nat) (v1 : Int32) : Option (Int32) :=
  if v1 < 0 then (some (-2))
  else ((jB_cells h b).bind fun r1 =>
  if v1 < r1 then (if v1 < 24 then (if inb v1 24 = true then (
  some (gI h 12 b v1.toNatClampNeg)) else none)
  else (some (-2)))
  else (some (-2)))
set_option maxRecDepth 20000 in
set_option maxHeartbeats 2000000 in
theorem sB_wantedAt (G : JG) (h : AH) (b : Nat) (hb : b < nIn 0 3) (v1 : Int32) : Mt G iB_wantedAt (rvI h) [.ref (G.ad 3 b), .int v1] h (jB_wantedAt h b v1) := by
  refine Mt_of (by decide) (Nat.le_of_ble_eq_true rfl) ?_
  unfold jB_wantedAt
  show Sim G iB_wantedAt (rvI h) 0 [(0, .ref (G.ad 3 b)), (1, .int v1)] [] h _
  refine E_iload_n dX0_wantedAt_0 rfl 1 rfl ?_
  refine E_if_lt (t := 27) dX0_wantedAt_1 rfl ?_ ?_
  · refine E_bipush (v := (-2)) dX0_wantedAt_27 rfl ?_
    exact E_iret rfl rfl dX0_wantedAt_29
  · refine E_iload_n dX0_wantedAt_4 rfl 1 rfl ?_
    refine E_aload_n dX0_wantedAt_5 rfl 0 rfl ?_
    refine E_cVI (As := []) (rest := [.int v1]) (sB_cells G h b hb) ck_X0_cells lk_X0_72 rfl rfl kc_3 hb rfl rfl rfl dX0_wantedAt_6 (fun r1 _ => ?_)
    refine E_icmp_ge (t := 27) dX0_wantedAt_9 rfl ?_ ?_
    · refine E_bipush (v := (-2)) dX0_wantedAt_27 rfl ?_
      exact E_iret rfl rfl dX0_wantedAt_29
    · refine E_iload_n dX0_wantedAt_12 rfl 1 rfl ?_
      refine E_bipush (v := 24) dX0_wantedAt_13 rfl ?_
      refine E_icmp_ge (t := 27) dX0_wantedAt_15 rfl ?_ ?_
      · refine E_bipush (v := (-2)) dX0_wantedAt_27 rfl ?_
        exact E_iret rfl rfl dX0_wantedAt_29
      · refine E_aload_n dX0_wantedAt_18 rfl 0 rfl ?_
        refine E_getS fl_X0_37 dX0_wantedAt_19 hb ?_
        refine E_iload_n dX0_wantedAt_22 rfl 1 rfl ?_
        refine E_iald (n := 24) rfl dX0_wantedAt_23 hb (fun _ => ?_)
        refine E_goto (t := 29) dX0_wantedAt_24 rfl ?_
        exact E_iret rfl rfl dX0_wantedAt_29
def iB_wantedCells : MI := (yX0_wantedCells, cX0_wantedCells, 3, (some .int), { frames := 2, cells := 0, slots := 0, locals := 41 }, 0)
theorem ck_X0_wantedCells : CK iB_wantedCells 0 := ⟨⟨wd_107, wd_974, by decide +kernel⟩, ⟨wd_972, wd_973⟩⟩
def jB_wantedCells_4 (h : AH) (b : Nat) : Nat → Int32 → Int32 → Option (Int32)
  | 0, _, _ => none
  | n + 1, v1, v2 =>
    (jB_cells h b).bind fun r1 =>
    if v2 < r1 then ((jB_wantedAt h b v2).bind fun r2 =>
    if r2 = (-2) then ((jB_wantedCells_4 h b n v1 (v2 + 1)))
    else ((jB_wantedCells_4 h b n (v1 ||| ((1 : Int32) <<< (v2 &&& 31))) (v2 + 1))))
    else (some v1)
set_option maxRecDepth 20000 in
set_option maxHeartbeats 2000000 in
theorem sB_wantedCells_4 (G : JG) (h : AH) (b : Nat) (hb : b < nIn 0 3)  : ∀ (n : Nat) (v1 : Int32) (v2 : Int32), Sim G iB_wantedCells (rvI h) 4 [(0, .ref (G.ad 3 b)), (1, .int v1), (2, .int v2)] [] h (jB_wantedCells_4 h b n v1 v2) := by
  intro n
  induction n with
  | zero => intro v1 v2; exact E_none
  | succ n ih =>
    intro v1 v2
    rw [jB_wantedCells_4]
    refine E_iload_n dX0_wantedCells_4 rfl 2 rfl ?_
    refine E_aload_n dX0_wantedCells_5 rfl 0 rfl ?_
    refine E_cVI (As := []) (rest := [.int v2]) (sB_cells G h b hb) ck_X0_cells lk_X0_72 rfl rfl kc_3 hb rfl rfl rfl dX0_wantedCells_6 (fun r1 _ => ?_)
    refine E_icmp_ge (t := 34) dX0_wantedCells_9 rfl ?_ ?_
    · refine E_iload_n dX0_wantedCells_34 rfl 1 rfl ?_
      exact E_iret rfl rfl dX0_wantedCells_35
    · refine E_aload_n dX0_wantedCells_12 rfl 0 rfl ?_
      refine E_iload_n dX0_wantedCells_13 rfl 2 rfl ?_
      refine E_cVI (As := [.int v2]) (rest := []) (sB_wantedAt G h b hb v2) ck_X0_wantedAt lk_X0_91 rfl rfl kc_3 hb rfl rfl rfl dX0_wantedCells_14 (fun r2 _ => ?_)
      refine E_bipush (v := (-2)) dX0_wantedCells_17 rfl ?_
      refine E_icmp_eq (t := 28) dX0_wantedCells_19 rfl ?_ ?_
      · refine E_iinc (q := 2) (v := (v2 + 1)) (ls' := [(2, .int (v2 + 1)), (0, .ref (G.ad 3 b)), (1, .int v1)]) dX0_wantedCells_28 rfl rfl (Nat.le_of_ble_eq_true rfl) rfl ?_
        refine E_goto (t := 4) dX0_wantedCells_31 rfl ?_
        exact E_sub [1, 2, 0] rfl (ih v1 (v2 + 1))
      · refine E_iload_n dX0_wantedCells_22 rfl 1 rfl ?_
        refine E_iconst (v := 1) dX0_wantedCells_23 rfl ?_
        refine E_iload_n dX0_wantedCells_24 rfl 2 rfl ?_
        refine E_ishl dX0_wantedCells_25 ?_
        refine E_ior dX0_wantedCells_26 ?_
        refine E_istore_n (ls' := [(1, .int (v1 ||| ((1 : Int32) <<< (v2 &&& 31)))), (0, .ref (G.ad 3 b)), (2, .int v2)]) dX0_wantedCells_27 rfl (Nat.le_of_ble_eq_true rfl) rfl ?_
        refine E_iinc (q := 2) (v := (v2 + 1)) (ls' := [(2, .int (v2 + 1)), (1, .int (v1 ||| ((1 : Int32) <<< (v2 &&& 31)))), (0, .ref (G.ad 3 b))]) dX0_wantedCells_28 rfl rfl (Nat.le_of_ble_eq_true rfl) rfl ?_
        refine E_goto (t := 4) dX0_wantedCells_31 rfl ?_
        exact E_sub [2, 1, 0] rfl (ih (v1 ||| ((1 : Int32) <<< (v2 &&& 31))) (v2 + 1))
def jB_wantedCells (h : AH) (b : Nat) : Option (Int32) :=
  (jB_wantedCells_4 h b FU 0 0)
set_option maxRecDepth 20000 in
set_option maxHeartbeats 2000000 in
theorem sB_wantedCells (G : JG) (h : AH) (b : Nat) (hb : b < nIn 0 3) : Mt G iB_wantedCells (rvI h) [.ref (G.ad 3 b)] h (jB_wantedCells h b) := by
  refine Mt_of (by decide) (Nat.le_of_ble_eq_true rfl) ?_
  unfold jB_wantedCells
  show Sim G iB_wantedCells (rvI h) 0 [(0, .ref (G.ad 3 b))] [] h _
  refine E_iconst (v := 0) dX0_wantedCells_0 rfl ?_
  refine E_istore_n (ls' := [(1, .int 0), (0, .ref (G.ad 3 b))]) dX0_wantedCells_1 rfl (Nat.le_of_ble_eq_true rfl) rfl ?_
  refine E_iconst (v := 0) dX0_wantedCells_2 rfl ?_
  refine E_istore_n (ls' := [(2, .int 0), (1, .int 0), (0, .ref (G.ad 3 b))]) dX0_wantedCells_3 rfl (Nat.le_of_ble_eq_true rfl) rfl ?_
  exact E_sub [2, 1, 0] rfl (sB_wantedCells_4 G h b hb FU 0 0)
def iW_colourAt : MI := (yX7_colourAt, cX7_colourAt, 4, (some .int), { frames := 0, cells := 0, slots := 0, locals := 0 }, 0)
theorem ck_X7_colourAt : CK iW_colourAt 2 := ⟨⟨wd_108, wd_682, by decide +kernel⟩, ⟨wd_680, wd_681⟩⟩
def jW_colourAt_25 (h : AH) (w : Nat) (v1 : Int32) (v2 : Int32) (s0 : Int32) : Option (Int32) :=
  if s0 = 0 then (some (-2))
  else (if inb ((v1 * 24) + v2) 288 = true then (
  some (gI h 16 w ((v1 * 24) + v2).toNatClampNeg)) else none)
set_option maxRecDepth 20000 in
set_option maxHeartbeats 2000000 in
theorem sW_colourAt_25 (G : JG) (h : AH) (w : Nat) (hw : w < nIn 0 13) (v1 : Int32) (v2 : Int32)  (s0 : Int32) : Sim G iW_colourAt (rvI h) 25 [(0, .ref (G.ad 13 w)), (1, .int v1), (2, .int v2)] [.int s0] h (jW_colourAt_25 h w v1 v2 s0) := by
  unfold jW_colourAt_25
  refine E_istore_n (ls' := [(3, .int s0), (0, .ref (G.ad 13 w)), (1, .int v1), (2, .int v2)]) dX7_colourAt_25 rfl (Nat.le_of_ble_eq_true rfl) rfl ?_
  refine E_iload_n dX7_colourAt_26 rfl 0 rfl ?_
  refine E_if_eq (t := 44) dX7_colourAt_27 rfl ?_ ?_
  · refine E_bipush (v := (-2)) dX7_colourAt_44 rfl ?_
    exact E_iret rfl rfl dX7_colourAt_46
  · refine E_aload_n dX7_colourAt_30 rfl 1 rfl ?_
    refine E_getS fl_X7_18 dX7_colourAt_31 hw ?_
    refine E_iload_n dX7_colourAt_34 rfl 2 rfl ?_
    refine E_bipush (v := 24) dX7_colourAt_35 rfl ?_
    refine E_imul dX7_colourAt_37 ?_
    refine E_iload_n dX7_colourAt_38 rfl 3 rfl ?_
    refine E_iadd dX7_colourAt_39 ?_
    refine E_iald (n := 288) rfl dX7_colourAt_40 hw (fun _ => ?_)
    refine E_goto (t := 46) dX7_colourAt_41 rfl ?_
    exact E_iret rfl rfl dX7_colourAt_46
def jW_colourAt_24 (h : AH) (w : Nat) (v1 : Int32) (v2 : Int32)  : Option (Int32) :=
  (jW_colourAt_25 h w v1 v2 0)
set_option maxRecDepth 20000 in
set_option maxHeartbeats 2000000 in
theorem sW_colourAt_24 (G : JG) (h : AH) (w : Nat) (hw : w < nIn 0 13) (v1 : Int32) (v2 : Int32)   : Sim G iW_colourAt (rvI h) 24 [(0, .ref (G.ad 13 w)), (1, .int v1), (2, .int v2)] [] h (jW_colourAt_24 h w v1 v2) := by
  unfold jW_colourAt_24
  refine E_iconst (v := 0) dX7_colourAt_24 rfl ?_
  exact E_sub [0, 1, 2] rfl (sW_colourAt_25 G h w hw v1 v2 0)
def jW_colourAt (h : AH) (w : Nat) (v1 : Int32) (v2 : Int32) : Option (Int32) :=
  if v1 < 0 then ((jW_colourAt_24 h w v1 v2))
  else (if v1 < 12 then (if v2 < 0 then ((jW_colourAt_24 h w v1 v2))
  else (if v2 < 24 then ((jW_colourAt_25 h w v1 v2 1))
  else ((jW_colourAt_24 h w v1 v2))))
  else ((jW_colourAt_24 h w v1 v2)))
set_option maxRecDepth 20000 in
set_option maxHeartbeats 2000000 in
theorem sW_colourAt (G : JG) (h : AH) (w : Nat) (hw : w < nIn 0 13) (v1 : Int32) (v2 : Int32) : Mt G iW_colourAt (rvI h) [.ref (G.ad 13 w), .int v1, .int v2] h (jW_colourAt h w v1 v2) := by
  refine Mt_of (by decide) (Nat.le_of_ble_eq_true rfl) ?_
  unfold jW_colourAt
  show Sim G iW_colourAt (rvI h) 0 [(0, .ref (G.ad 13 w)), (1, .int v1), (2, .int v2)] [] h _
  refine E_iload_n dX7_colourAt_0 rfl 1 rfl ?_
  refine E_if_lt (t := 24) dX7_colourAt_1 rfl ?_ ?_
  · exact E_sub [0, 1, 2] rfl (sW_colourAt_24 G h w hw v1 v2)
  · refine E_iload_n dX7_colourAt_4 rfl 1 rfl ?_
    refine E_bipush (v := 12) dX7_colourAt_5 rfl ?_
    refine E_icmp_ge (t := 24) dX7_colourAt_7 rfl ?_ ?_
    · exact E_sub [0, 1, 2] rfl (sW_colourAt_24 G h w hw v1 v2)
    · refine E_iload_n dX7_colourAt_10 rfl 2 rfl ?_
      refine E_if_lt (t := 24) dX7_colourAt_11 rfl ?_ ?_
      · exact E_sub [0, 1, 2] rfl (sW_colourAt_24 G h w hw v1 v2)
      · refine E_iload_n dX7_colourAt_14 rfl 2 rfl ?_
        refine E_bipush (v := 24) dX7_colourAt_15 rfl ?_
        refine E_icmp_ge (t := 24) dX7_colourAt_17 rfl ?_ ?_
        · exact E_sub [0, 1, 2] rfl (sW_colourAt_24 G h w hw v1 v2)
        · refine E_iconst (v := 1) dX7_colourAt_20 rfl ?_
          refine E_goto (t := 25) dX7_colourAt_21 rfl ?_
          exact E_sub [0, 1, 2] rfl (sW_colourAt_25 G h w hw v1 v2 1)
def iW_cellsOf : MI := (yX7_cellsOf, cX7_cellsOf, 4, (some .int), { frames := 1, cells := 0, slots := 0, locals := 23 }, 0)
theorem ck_X7_cellsOf : CK iW_cellsOf 1 := ⟨⟨wd_108, wd_788, by decide +kernel⟩, ⟨wd_786, wd_787⟩⟩
def jW_cellsOf_4 (h : AH) (w : Nat) (v1 : Int32) : Nat → Int32 → Int32 → Option (Int32)
  | 0, _, _ => none
  | n + 1, v2, v3 =>
    if v3 < 24 then ((jW_colourAt h w v1 v3).bind fun r1 =>
    if r1 = (-2) then ((jW_cellsOf_4 h w v1 n v2 (v3 + 1)))
    else ((jW_cellsOf_4 h w v1 n (v2 ||| ((1 : Int32) <<< (v3 &&& 31))) (v3 + 1))))
    else (some v2)
set_option maxRecDepth 20000 in
set_option maxHeartbeats 2000000 in
theorem sW_cellsOf_4 (G : JG) (h : AH) (w : Nat) (hw : w < nIn 0 13) (v1 : Int32)  : ∀ (n : Nat) (v2 : Int32) (v3 : Int32), Sim G iW_cellsOf (rvI h) 4 [(0, .ref (G.ad 13 w)), (1, .int v1), (2, .int v2), (3, .int v3)] [] h (jW_cellsOf_4 h w v1 n v2 v3) := by
  intro n
  induction n with
  | zero => intro v2 v3; exact E_none
  | succ n ih =>
    intro v2 v3
    rw [jW_cellsOf_4]
    refine E_iload_n dX7_cellsOf_4 rfl 3 rfl ?_
    refine E_bipush (v := 24) dX7_cellsOf_5 rfl ?_
    refine E_icmp_ge (t := 33) dX7_cellsOf_7 rfl ?_ ?_
    · refine E_iload_n dX7_cellsOf_33 rfl 2 rfl ?_
      exact E_iret rfl rfl dX7_cellsOf_34
    · refine E_aload_n dX7_cellsOf_10 rfl 0 rfl ?_
      refine E_iload_n dX7_cellsOf_11 rfl 1 rfl ?_
      refine E_iload_n dX7_cellsOf_12 rfl 3 rfl ?_
      refine E_cVI (As := [.int v1, .int v3]) (rest := []) (sW_colourAt G h w hw v1 v3) ck_X7_colourAt lk_X7_43 rfl rfl kc_13 hw rfl rfl rfl dX7_cellsOf_13 (fun r1 _ => ?_)
      refine E_bipush (v := (-2)) dX7_cellsOf_16 rfl ?_
      refine E_icmp_eq (t := 27) dX7_cellsOf_18 rfl ?_ ?_
      · refine E_iinc (q := 3) (v := (v3 + 1)) (ls' := [(3, .int (v3 + 1)), (0, .ref (G.ad 13 w)), (1, .int v1), (2, .int v2)]) dX7_cellsOf_27 rfl rfl (Nat.le_of_ble_eq_true rfl) rfl ?_
        refine E_goto (t := 4) dX7_cellsOf_30 rfl ?_
        exact E_sub [1, 2, 3, 0] rfl (ih v2 (v3 + 1))
      · refine E_iload_n dX7_cellsOf_21 rfl 2 rfl ?_
        refine E_iconst (v := 1) dX7_cellsOf_22 rfl ?_
        refine E_iload_n dX7_cellsOf_23 rfl 3 rfl ?_
        refine E_ishl dX7_cellsOf_24 ?_
        refine E_ior dX7_cellsOf_25 ?_
        refine E_istore_n (ls' := [(2, .int (v2 ||| ((1 : Int32) <<< (v3 &&& 31)))), (0, .ref (G.ad 13 w)), (1, .int v1), (3, .int v3)]) dX7_cellsOf_26 rfl (Nat.le_of_ble_eq_true rfl) rfl ?_
        refine E_iinc (q := 3) (v := (v3 + 1)) (ls' := [(3, .int (v3 + 1)), (2, .int (v2 ||| ((1 : Int32) <<< (v3 &&& 31)))), (0, .ref (G.ad 13 w)), (1, .int v1)]) dX7_cellsOf_27 rfl rfl (Nat.le_of_ble_eq_true rfl) rfl ?_
        refine E_goto (t := 4) dX7_cellsOf_30 rfl ?_
        exact E_sub [2, 3, 1, 0] rfl (ih (v2 ||| ((1 : Int32) <<< (v3 &&& 31))) (v3 + 1))
def jW_cellsOf (h : AH) (w : Nat) (v1 : Int32) : Option (Int32) :=
  (jW_cellsOf_4 h w v1 FU 0 0)
set_option maxRecDepth 20000 in
set_option maxHeartbeats 2000000 in
theorem sW_cellsOf (G : JG) (h : AH) (w : Nat) (hw : w < nIn 0 13) (v1 : Int32) : Mt G iW_cellsOf (rvI h) [.ref (G.ad 13 w), .int v1] h (jW_cellsOf h w v1) := by
  refine Mt_of (by decide) (Nat.le_of_ble_eq_true rfl) ?_
  unfold jW_cellsOf
  show Sim G iW_cellsOf (rvI h) 0 [(0, .ref (G.ad 13 w)), (1, .int v1)] [] h _
  refine E_iconst (v := 0) dX7_cellsOf_0 rfl ?_
  refine E_istore_n (ls' := [(2, .int 0), (0, .ref (G.ad 13 w)), (1, .int v1)]) dX7_cellsOf_1 rfl (Nat.le_of_ble_eq_true rfl) rfl ?_
  refine E_iconst (v := 0) dX7_cellsOf_2 rfl ?_
  refine E_istore_n (ls' := [(3, .int 0), (2, .int 0), (0, .ref (G.ad 13 w)), (1, .int v1)]) dX7_cellsOf_3 rfl (Nat.le_of_ble_eq_true rfl) rfl ?_
  exact E_sub [2, 3, 1, 0] rfl (sW_cellsOf_4 G h w hw v1 FU 0 0)
def iW_isRow : MI := (yX7_isRow, cX7_isRow, 1, (some .boolean), { frames := 0, cells := 0, slots := 0, locals := 0 }, 0)
theorem ck_X7_isRow : CS iW_isRow 1 := ⟨⟨wd_108, wd_576, by decide +kernel⟩, wd_575⟩
def jW_isRow (v0 : Int32) : Option (Int32) :=
  if v0 < 0 then (some 0)
  else (if v0 < 12 then (some 1)
  else (some 0))
set_option maxRecDepth 20000 in
set_option maxHeartbeats 2000000 in
theorem sW_isRow (G : JG) (h : AH) (v0 : Int32) : Mt G iW_isRow (rvI h) [.int v0] h (jW_isRow v0) := by
  refine Mt_of (by decide) (Nat.le_of_ble_eq_true rfl) ?_
  unfold jW_isRow
  show Sim G iW_isRow (rvI h) 0 [(0, .int v0)] [] h _
  refine E_iload_n dX7_isRow_0 rfl 0 rfl ?_
  refine E_if_lt (t := 14) dX7_isRow_1 rfl ?_ ?_
  · refine E_iconst (v := 0) dX7_isRow_14 rfl ?_
    exact E_zret rfl rfl rfl dX7_isRow_15
  · refine E_iload_n dX7_isRow_4 rfl 0 rfl ?_
    refine E_bipush (v := 12) dX7_isRow_5 rfl ?_
    refine E_icmp_ge (t := 14) dX7_isRow_7 rfl ?_ ?_
    · refine E_iconst (v := 0) dX7_isRow_14 rfl ?_
      exact E_zret rfl rfl rfl dX7_isRow_15
    · refine E_iconst (v := 1) dX7_isRow_10 rfl ?_
      refine E_goto (t := 15) dX7_isRow_11 rfl ?_
      exact E_zret rfl rfl rfl dX7_isRow_15
def iW_yearOf : MI := (yX7_yearOf, cX7_yearOf, 2, (some .int), { frames := 1, cells := 0, slots := 0, locals := 20 }, 0)
theorem ck_X7_yearOf : CK iW_yearOf 1 := ⟨⟨wd_108, wd_573, by decide +kernel⟩, ⟨wd_571, wd_572⟩⟩
def jW_yearOf (h : AH) (w : Nat) (v1 : Int32) : Option (Int32) :=
  (jW_isRow v1).bind fun r1 =>
  if r1 = 0 then (some 0)
  else (if inb v1 12 = true then (
  some (gI h 15 w v1.toNatClampNeg)) else none)
set_option maxRecDepth 20000 in
set_option maxHeartbeats 2000000 in
theorem sW_yearOf (G : JG) (h : AH) (w : Nat) (hw : w < nIn 0 13) (v1 : Int32) : Mt G iW_yearOf (rvI h) [.ref (G.ad 13 w), .int v1] h (jW_yearOf h w v1) := by
  refine Mt_of (by decide) (Nat.le_of_ble_eq_true rfl) ?_
  unfold jW_yearOf
  show Sim G iW_yearOf (rvI h) 0 [(0, .ref (G.ad 13 w)), (1, .int v1)] [] h _
  refine E_iload_n dX7_yearOf_0 rfl 1 rfl ?_
  refine E_cSI (As := [.int v1]) (rest := []) (sW_isRow G h v1) ck_X7_isRow lk_X7_35 rfl rfl rfl rfl rfl dX7_yearOf_1 (fun r1 _ => ?_)
  refine E_if_eq (t := 16) dX7_yearOf_4 rfl ?_ ?_
  · refine E_iconst (v := 0) dX7_yearOf_16 rfl ?_
    exact E_iret rfl rfl dX7_yearOf_17
  · refine E_aload_n dX7_yearOf_7 rfl 0 rfl ?_
    refine E_getS fl_X7_15 dX7_yearOf_8 hw ?_
    refine E_iload_n dX7_yearOf_11 rfl 1 rfl ?_
    refine E_iald (n := 12) rfl dX7_yearOf_12 hw (fun _ => ?_)
    refine E_goto (t := 17) dX7_yearOf_13 rfl ?_
    exact E_iret rfl rfl dX7_yearOf_17
def iL_untimelyCells : MI := (yX1_untimelyCells, cX1_untimelyCells, 6, (some .int), { frames := 2, cells := 0, slots := 0, locals := 43 }, 0)
theorem ck_X1_untimelyCells : CS iL_untimelyCells 3 := ⟨⟨wd_121, wd_835, by decide +kernel⟩, wd_834⟩
def jL_untimelyCells_5 (h : AH) (b : Nat) (w : Nat) (v2 : Int32) : Nat → Int32 → Int32 → Option (Int32)
  | 0, _, _ => none
  | n + 1, v3, v4 =>
    (jB_cells h b).bind fun r1 =>
    if v4 < r1 then ((jW_colourAt h w v2 v4).bind fun r2 =>
    if r2 = (-2) then ((jL_untimelyCells_5 h b w v2 n v3 (v4 + 1)))
    else ((jW_yearOf h w v2).bind fun r3 =>
    (jB_hadComeUp h b r2 r3).bind fun r4 =>
    if r4 = 0 then ((jL_untimelyCells_5 h b w v2 n (v3 ||| ((1 : Int32) <<< (v4 &&& 31))) (v4 + 1)))
    else ((jL_untimelyCells_5 h b w v2 n v3 (v4 + 1)))))
    else (some v3)
set_option maxRecDepth 20000 in
set_option maxHeartbeats 2000000 in
theorem sL_untimelyCells_5 (G : JG) (h : AH) (b : Nat) (hb : b < nIn 0 3) (w : Nat) (hw : w < nIn 0 13) (v2 : Int32)  : ∀ (n : Nat) (v3 : Int32) (v4 : Int32), Sim G iL_untimelyCells (rvI h) 5 [(0, .ref (G.ad 3 b)), (1, .ref (G.ad 13 w)), (2, .int v2), (3, .int v3), (4, .int v4)] [] h (jL_untimelyCells_5 h b w v2 n v3 v4) := by
  intro n
  induction n with
  | zero => intro v3 v4; exact E_none
  | succ n ih =>
    intro v3 v4
    rw [jL_untimelyCells_5]
    refine E_iload dX1_untimelyCells_5 4 rfl ?_
    refine E_aload_n dX1_untimelyCells_7 rfl 0 rfl ?_
    refine E_cVI (As := []) (rest := [.int v4]) (sB_cells G h b hb) ck_X0_cells lk_X1_52 rfl rfl kc_3 hb rfl rfl rfl dX1_untimelyCells_8 (fun r1 _ => ?_)
    refine E_icmp_ge (t := 57) dX1_untimelyCells_11 rfl ?_ ?_
    · refine E_iload_n dX1_untimelyCells_57 rfl 3 rfl ?_
      exact E_iret rfl rfl dX1_untimelyCells_58
    · refine E_aload_n dX1_untimelyCells_14 rfl 1 rfl ?_
      refine E_iload_n dX1_untimelyCells_15 rfl 2 rfl ?_
      refine E_iload dX1_untimelyCells_16 4 rfl ?_
      refine E_cVI (As := [.int v2, .int v4]) (rest := []) (sW_colourAt G h w hw v2 v4) ck_X7_colourAt lk_X1_64 rfl rfl kc_13 hw rfl rfl rfl dX1_untimelyCells_18 (fun r2 _ => ?_)
      refine E_istore (ls' := [(5, .int r2), (0, .ref (G.ad 3 b)), (1, .ref (G.ad 13 w)), (2, .int v2), (3, .int v3), (4, .int v4)]) dX1_untimelyCells_21 (Nat.le_of_ble_eq_true rfl) rfl ?_
      refine E_iload dX1_untimelyCells_23 0 rfl ?_
      refine E_bipush (v := (-2)) dX1_untimelyCells_25 rfl ?_
      refine E_icmp_eq (t := 51) dX1_untimelyCells_27 rfl ?_ ?_
      · refine E_iinc (q := 5) (v := (v4 + 1)) (ls' := [(4, .int (v4 + 1)), (5, .int r2), (0, .ref (G.ad 3 b)), (1, .ref (G.ad 13 w)), (2, .int v2), (3, .int v3)]) dX1_untimelyCells_51 rfl rfl (Nat.le_of_ble_eq_true rfl) rfl ?_
        refine E_goto (t := 5) dX1_untimelyCells_54 rfl ?_
        exact E_sub [2, 3, 4, 5, 0] rfl (ih v3 (v4 + 1))
      · refine E_aload_n dX1_untimelyCells_30 rfl 1 rfl ?_
        refine E_iload dX1_untimelyCells_31 0 rfl ?_
        refine E_aload_n dX1_untimelyCells_33 rfl 2 rfl ?_
        refine E_iload_n dX1_untimelyCells_34 rfl 3 rfl ?_
        refine E_cVI (As := [.int v2]) (rest := [.int r2, .ref (G.ad 3 b)]) (sW_yearOf G h w hw v2) ck_X7_yearOf lk_X1_38 rfl rfl kc_13 hw rfl rfl rfl dX1_untimelyCells_35 (fun r3 _ => ?_)
        refine E_cVI (As := [.int r2, .int r3]) (rest := []) (sB_hadComeUp G h b hb r2 r3) ck_X0_hadComeUp lk_X1_67 rfl rfl kc_3 hb rfl rfl rfl dX1_untimelyCells_38 (fun r4 _ => ?_)
        refine E_if_ne (t := 51) dX1_untimelyCells_41 rfl ?_ ?_
        · refine E_iinc (q := 5) (v := (v4 + 1)) (ls' := [(4, .int (v4 + 1)), (5, .int r2), (0, .ref (G.ad 3 b)), (1, .ref (G.ad 13 w)), (2, .int v2), (3, .int v3)]) dX1_untimelyCells_51 rfl rfl (Nat.le_of_ble_eq_true rfl) rfl ?_
          refine E_goto (t := 5) dX1_untimelyCells_54 rfl ?_
          exact E_sub [2, 3, 4, 5, 0] rfl (ih v3 (v4 + 1))
        · refine E_iload_n dX1_untimelyCells_44 rfl 4 rfl ?_
          refine E_iconst (v := 1) dX1_untimelyCells_45 rfl ?_
          refine E_iload dX1_untimelyCells_46 5 rfl ?_
          refine E_ishl dX1_untimelyCells_48 ?_
          refine E_ior dX1_untimelyCells_49 ?_
          refine E_istore_n (ls' := [(3, .int (v3 ||| ((1 : Int32) <<< (v4 &&& 31)))), (5, .int r2), (0, .ref (G.ad 3 b)), (1, .ref (G.ad 13 w)), (2, .int v2), (4, .int v4)]) dX1_untimelyCells_50 rfl (Nat.le_of_ble_eq_true rfl) rfl ?_
          refine E_iinc (q := 5) (v := (v4 + 1)) (ls' := [(4, .int (v4 + 1)), (3, .int (v3 ||| ((1 : Int32) <<< (v4 &&& 31)))), (5, .int r2), (0, .ref (G.ad 3 b)), (1, .ref (G.ad 13 w)), (2, .int v2)]) dX1_untimelyCells_51 rfl rfl (Nat.le_of_ble_eq_true rfl) rfl ?_
          refine E_goto (t := 5) dX1_untimelyCells_54 rfl ?_
          exact E_sub [3, 4, 5, 1, 0] rfl (ih (v3 ||| ((1 : Int32) <<< (v4 &&& 31))) (v4 + 1))
def jL_untimelyCells (h : AH) (b : Nat) (w : Nat) (v2 : Int32) : Option (Int32) :=
  (jL_untimelyCells_5 h b w v2 FU 0 0)
set_option maxRecDepth 20000 in
set_option maxHeartbeats 2000000 in
theorem sL_untimelyCells (G : JG) (h : AH) (b : Nat) (hb : b < nIn 0 3) (w : Nat) (hw : w < nIn 0 13) (v2 : Int32) : Mt G iL_untimelyCells (rvI h) [.ref (G.ad 3 b), .ref (G.ad 13 w), .int v2] h (jL_untimelyCells h b w v2) := by
  refine Mt_of (by decide) (Nat.le_of_ble_eq_true rfl) ?_
  unfold jL_untimelyCells
  show Sim G iL_untimelyCells (rvI h) 0 [(0, .ref (G.ad 3 b)), (1, .ref (G.ad 13 w)), (2, .int v2)] [] h _
  refine E_iconst (v := 0) dX1_untimelyCells_0 rfl ?_
  refine E_istore_n (ls' := [(3, .int 0), (0, .ref (G.ad 3 b)), (1, .ref (G.ad 13 w)), (2, .int v2)]) dX1_untimelyCells_1 rfl (Nat.le_of_ble_eq_true rfl) rfl ?_
  refine E_iconst (v := 0) dX1_untimelyCells_2 rfl ?_
  refine E_istore (ls' := [(4, .int 0), (3, .int 0), (0, .ref (G.ad 3 b)), (1, .ref (G.ad 13 w)), (2, .int v2)]) dX1_untimelyCells_3 (Nat.le_of_ble_eq_true rfl) rfl ?_
  exact E_sub [2, 3, 4, 1, 0] rfl (sL_untimelyCells_5 G h b hb w hw v2 FU 0 0)
def iL_verdict : MI := (yX1_verdict, cX1_verdict, 5, (some .int), { frames := 3, cells := 0, slots := 0, locals := 71 }, 0)
theorem ck_X1_verdict : CS iL_verdict 3 := ⟨⟨wd_121, wd_823, by decide +kernel⟩, wd_822⟩
def jL_verdict_52 (h : AH) (b : Nat) (w : Nat) (v2 : Int32) (v3 : Int32) : Option (Int32) :=
  (jW_yearOf h w v2).bind fun r1 =>
  (jB_guardedIn h b r1 (-1)).bind fun r2 =>
  if (v3 &&& r2) = 0 then ((jL_untimelyCells h b w v2).bind fun r3 =>
  if r3 = 0 then (some 0)
  else (some 4))
  else (some 3)
set_option maxRecDepth 20000 in
set_option maxHeartbeats 2000000 in
theorem sL_verdict_52 (G : JG) (h : AH) (b : Nat) (hb : b < nIn 0 3) (w : Nat) (hw : w < nIn 0 13) (v2 : Int32)  (v3 : Int32) : Sim G iL_verdict (rvI h) 52 [(0, .ref (G.ad 3 b)), (1, .ref (G.ad 13 w)), (2, .int v2), (3, .int v3)] [] h (jL_verdict_52 h b w v2 v3) := by
  unfold jL_verdict_52
  refine E_iload_n dX1_verdict_52 rfl 3 rfl ?_
  refine E_aload_n dX1_verdict_53 rfl 0 rfl ?_
  refine E_aload_n dX1_verdict_54 rfl 1 rfl ?_
  refine E_iload_n dX1_verdict_55 rfl 2 rfl ?_
  refine E_cVI (As := [.int v2]) (rest := [.ref (G.ad 3 b), .int v3]) (sW_yearOf G h w hw v2) ck_X7_yearOf lk_X1_38 rfl rfl kc_13 hw rfl rfl rfl dX1_verdict_56 (fun r1 _ => ?_)
  refine E_iconst (v := (-1)) dX1_verdict_59 rfl ?_
  refine E_cVI (As := [.int r1, .int (-1)]) (rest := [.int v3]) (sB_guardedIn G h b hb r1 (-1)) ck_X0_guardedIn lk_X1_41 rfl rfl kc_3 hb rfl rfl rfl dX1_verdict_60 (fun r2 _ => ?_)
  refine E_iand dX1_verdict_63 ?_
  refine E_if_eq (t := 69) dX1_verdict_64 rfl ?_ ?_
  · refine E_aload_n dX1_verdict_69 rfl 0 rfl ?_
    refine E_aload_n dX1_verdict_70 rfl 1 rfl ?_
    refine E_iload_n dX1_verdict_71 rfl 2 rfl ?_
    refine E_cSI (As := [.ref (G.ad 3 b), .ref (G.ad 13 w), .int v2]) (rest := []) (sL_untimelyCells G h b hb w hw v2) ck_X1_untimelyCells lk_X1_45 rfl rfl rfl rfl rfl dX1_verdict_72 (fun r3 _ => ?_)
    refine E_if_eq (t := 82) dX1_verdict_75 rfl ?_ ?_
    · refine E_iconst (v := 0) dX1_verdict_82 rfl ?_
      exact E_iret rfl rfl dX1_verdict_83
    · refine E_iconst (v := 4) dX1_verdict_78 rfl ?_
      refine E_goto (t := 83) dX1_verdict_79 rfl ?_
      exact E_iret rfl rfl dX1_verdict_83
  · refine E_iconst (v := 3) dX1_verdict_67 rfl ?_
    exact E_iret rfl rfl dX1_verdict_68
def jL_verdict (h : AH) (b : Nat) (w : Nat) (v2 : Int32) : Option (Int32) :=
  (jW_cellsOf h w v2).bind fun r1 =>
  (jB_allCells h b).bind fun r2 =>
  (jJ_bitCount (r2 &&& (r1 ^^^ (-1)))).bind fun r3 =>
  if r3 < (gI h 3 b 2) then (some 1)
  else (if (gI h 3 b 3) = 0 then ((jL_verdict_52 h b w v2 r1))
  else ((jB_partsOf h b (r2 &&& (r1 ^^^ (-1)))).bind fun r4 =>
  if r4 ≤ (gI h 3 b 3) then ((jL_verdict_52 h b w v2 r1))
  else (some 2)))
set_option maxRecDepth 20000 in
set_option maxHeartbeats 2000000 in
theorem sL_verdict (G : JG) (h : AH) (b : Nat) (hb : b < nIn 0 3) (w : Nat) (hw : w < nIn 0 13) (v2 : Int32) : Mt G iL_verdict (rvI h) [.ref (G.ad 3 b), .ref (G.ad 13 w), .int v2] h (jL_verdict h b w v2) := by
  refine Mt_of (by decide) (Nat.le_of_ble_eq_true rfl) ?_
  unfold jL_verdict
  show Sim G iL_verdict (rvI h) 0 [(0, .ref (G.ad 3 b)), (1, .ref (G.ad 13 w)), (2, .int v2)] [] h _
  refine E_aload_n dX1_verdict_0 rfl 1 rfl ?_
  refine E_iload_n dX1_verdict_1 rfl 2 rfl ?_
  refine E_cVI (As := [.int v2]) (rest := []) (sW_cellsOf G h w hw v2) ck_X7_cellsOf lk_X1_9 rfl rfl kc_13 hw rfl rfl rfl dX1_verdict_2 (fun r1 _ => ?_)
  refine E_istore_n (ls' := [(3, .int r1), (0, .ref (G.ad 3 b)), (1, .ref (G.ad 13 w)), (2, .int v2)]) dX1_verdict_5 rfl (Nat.le_of_ble_eq_true rfl) rfl ?_
  refine E_aload_n dX1_verdict_6 rfl 1 rfl ?_
  refine E_cVI (As := []) (rest := []) (sB_allCells G h b hb) ck_X0_allCells lk_X1_15 rfl rfl kc_3 hb rfl rfl rfl dX1_verdict_7 (fun r2 _ => ?_)
  refine E_iload_n dX1_verdict_10 rfl 0 rfl ?_
  refine E_iconst (v := (-1)) dX1_verdict_11 rfl ?_
  refine E_ixor dX1_verdict_12 ?_
  refine E_iand dX1_verdict_13 ?_
  refine E_istore (ls' := [(4, .int (r2 &&& (r1 ^^^ (-1)))), (3, .int r1), (0, .ref (G.ad 3 b)), (1, .ref (G.ad 13 w)), (2, .int v2)]) dX1_verdict_14 (Nat.le_of_ble_eq_true rfl) rfl ?_
  refine E_iload dX1_verdict_16 0 rfl ?_
  refine E_cSI (As := [.int (r2 &&& (r1 ^^^ (-1)))]) (rest := []) (sJ_bitCount G h (r2 &&& (r1 ^^^ (-1)))) ck_J6_bitCount_0f7a4 lk_X1_21 rfl rfl rfl rfl rfl dX1_verdict_18 (fun r3 _ => ?_)
  refine E_aload_n dX1_verdict_21 rfl 2 rfl ?_
  refine E_getI fl_X1_26 dX1_verdict_22 hb ?_
  refine E_icmp_ge (t := 30) dX1_verdict_25 rfl ?_ ?_
  · refine E_aload_n dX1_verdict_30 rfl 2 rfl ?_
    refine E_getI fl_X1_32 dX1_verdict_31 hb ?_
    refine E_if_eq (t := 52) dX1_verdict_34 rfl ?_ ?_
    · exact E_sub [2, 3, 4, 1] rfl (sL_verdict_52 G h b hb w hw v2 r1)
    · refine E_aload_n dX1_verdict_37 rfl 2 rfl ?_
      refine E_iload dX1_verdict_38 0 rfl ?_
      refine E_cVI (As := [.int (r2 &&& (r1 ^^^ (-1)))]) (rest := []) (sB_partsOf G h b hb (r2 &&& (r1 ^^^ (-1)))) ck_X0_partsOf lk_X1_35 rfl rfl kc_3 hb rfl rfl rfl dX1_verdict_40 (fun r4 _ => ?_)
      refine E_aload_n dX1_verdict_43 rfl 2 rfl ?_
      refine E_getI fl_X1_32 dX1_verdict_44 hb ?_
      refine E_icmp_le (t := 52) dX1_verdict_47 rfl ?_ ?_
      · exact E_sub [2, 3, 4, 1] rfl (sL_verdict_52 G h b hb w hw v2 r1)
      · refine E_iconst (v := 2) dX1_verdict_50 rfl ?_
        exact E_iret rfl rfl dX1_verdict_51
  · refine E_iconst (v := 1) dX1_verdict_28 rfl ?_
    exact E_iret rfl rfl dX1_verdict_29
def iL_cellBehind : MI := (yX1_cellBehind, cX1_cellBehind, 4, (some .int), { frames := 2, cells := 0, slots := 0, locals := 40 }, 0)
theorem ck_X1_cellBehind : CS iL_cellBehind 2 := ⟨⟨wd_121, wd_852, by decide +kernel⟩, wd_851⟩
def jL_cellBehind_4 (v1 : Int32) : Nat → Int32 → Int32 → Option (Int32)
  | 0, _, _ => none
  | n + 1, v2, v3 =>
    if v3 < v1 then ((jL_cellBehind_4 v1 n (v2 &&& (v2 - 1)) (v3 + 1)))
    else ((jX_firstOf v2).bind fun r1 =>
    some r1)
set_option maxRecDepth 20000 in
set_option maxHeartbeats 2000000 in
theorem sL_cellBehind_4 (G : JG) (h : AH) (v1 : Int32)  : ∀ (n : Nat) (v2 : Int32) (v3 : Int32), Sim G iL_cellBehind (rvI h) 4 [(1, .int v1), (2, .int v2), (3, .int v3)] [] h (jL_cellBehind_4 v1 n v2 v3) := by
  intro n
  induction n with
  | zero => intro v2 v3; exact E_none
  | succ n ih =>
    intro v2 v3
    rw [jL_cellBehind_4]
    refine E_iload_n dX1_cellBehind_4 rfl 2 rfl ?_
    refine E_iload_n dX1_cellBehind_5 rfl 0 rfl ?_
    refine E_icmp_ge (t := 21) dX1_cellBehind_6 rfl ?_ ?_
    · refine E_iload_n dX1_cellBehind_21 rfl 1 rfl ?_
      refine E_cNI (host := "PaintedOve\x72") (As := [.int v2]) (rest := []) (sX_firstOf G h v2) ck_X8_firstOf (by decide) rfl rfl rfl rfl rfl dX1_cellBehind_22 (fun r1 _ => ?_)
      exact E_iret rfl rfl dX1_cellBehind_25
    · refine E_iload_n dX1_cellBehind_9 rfl 1 rfl ?_
      refine E_iload_n dX1_cellBehind_10 rfl 1 rfl ?_
      refine E_iconst (v := 1) dX1_cellBehind_11 rfl ?_
      refine E_isub dX1_cellBehind_12 ?_
      refine E_iand dX1_cellBehind_13 ?_
      refine E_istore_n (ls' := [(2, .int (v2 &&& (v2 - 1))), (1, .int v1), (3, .int v3)]) dX1_cellBehind_14 rfl (Nat.le_of_ble_eq_true rfl) rfl ?_
      refine E_iinc (q := 2) (v := (v3 + 1)) (ls' := [(3, .int (v3 + 1)), (2, .int (v2 &&& (v2 - 1))), (1, .int v1)]) dX1_cellBehind_15 rfl rfl (Nat.le_of_ble_eq_true rfl) rfl ?_
      refine E_goto (t := 4) dX1_cellBehind_18 rfl ?_
      exact E_sub [2, 1, 0] rfl (ih (v2 &&& (v2 - 1)) (v3 + 1))
def jL_cellBehind (v0 : Int32) (v1 : Int32) : Option (Int32) :=
  (jL_cellBehind_4 v1 FU v0 0)
set_option maxRecDepth 20000 in
set_option maxHeartbeats 2000000 in
theorem sL_cellBehind (G : JG) (h : AH) (v0 : Int32) (v1 : Int32) : Mt G iL_cellBehind (rvI h) [.int v0, .int v1] h (jL_cellBehind v0 v1) := by
  refine Mt_of (by decide) (Nat.le_of_ble_eq_true rfl) ?_
  unfold jL_cellBehind
  show Sim G iL_cellBehind (rvI h) 0 [(0, .int v0), (1, .int v1)] [] h _
  refine E_iload_n dX1_cellBehind_0 rfl 0 rfl ?_
  refine E_istore_n (ls' := [(2, .int v0), (0, .int v0), (1, .int v1)]) dX1_cellBehind_1 rfl (Nat.le_of_ble_eq_true rfl) rfl ?_
  refine E_iconst (v := 0) dX1_cellBehind_2 rfl ?_
  refine E_istore_n (ls' := [(3, .int 0), (2, .int v0), (0, .int v0), (1, .int v1)]) dX1_cellBehind_3 rfl (Nat.le_of_ble_eq_true rfl) rfl ?_
  exact E_sub [3, 1, 0] rfl (sL_cellBehind_4 G h v1 FU v0 0)
def iL_breach : MI := (yX1_breach, cX1_breach, 4, (some .int), { frames := 4, cells := 0, slots := 0, locals := 95 }, 0)
theorem ck_X1_breach : CS iL_breach 3 := ⟨⟨wd_121, wd_848, by decide +kernel⟩, wd_847⟩
def jL_breach (h : AH) (b : Nat) (w : Nat) (v2 : Int32) : Option (Int32) :=
  (jW_cellsOf h w v2).bind fun r1 =>
  (jL_verdict h b w v2).bind fun r2 =>
  if r2 = 1 then ((jB_cells h b).bind fun r3 =>
  (jL_cellBehind r1 (r3 - (gI h 3 b 2))).bind fun r4 =>
  some r4)
  else if r2 = 2 then ((jB_allCells h b).bind fun r5 =>
  (jB_partStart h b (r5 &&& (r1 ^^^ (-1))) (gI h 3 b 3)).bind fun r6 =>
  some r6)
  else if r2 = 3 then ((jW_yearOf h w v2).bind fun r7 =>
  (jB_guardedIn h b r7 (-1)).bind fun r8 =>
  (jX_firstOf (r1 &&& r8)).bind fun r9 =>
  some r9)
  else if r2 = 4 then ((jL_untimelyCells h b w v2).bind fun r10 =>
  (jX_firstOf r10).bind fun r11 =>
  some r11)
  else (some (-2))
set_option maxRecDepth 20000 in
set_option maxHeartbeats 2000000 in
theorem sL_breach (G : JG) (h : AH) (b : Nat) (hb : b < nIn 0 3) (w : Nat) (hw : w < nIn 0 13) (v2 : Int32) : Mt G iL_breach (rvI h) [.ref (G.ad 3 b), .ref (G.ad 13 w), .int v2] h (jL_breach h b w v2) := by
  refine Mt_of (by decide) (Nat.le_of_ble_eq_true rfl) ?_
  unfold jL_breach
  show Sim G iL_breach (rvI h) 0 [(0, .ref (G.ad 3 b)), (1, .ref (G.ad 13 w)), (2, .int v2)] [] h _
  refine E_aload_n dX1_breach_0 rfl 1 rfl ?_
  refine E_iload_n dX1_breach_1 rfl 2 rfl ?_
  refine E_cVI (As := [.int v2]) (rest := []) (sW_cellsOf G h w hw v2) ck_X7_cellsOf lk_X1_9 rfl rfl kc_13 hw rfl rfl rfl dX1_breach_2 (fun r1 _ => ?_)
  refine E_istore_n (ls' := [(3, .int r1), (0, .ref (G.ad 3 b)), (1, .ref (G.ad 13 w)), (2, .int v2)]) dX1_breach_5 rfl (Nat.le_of_ble_eq_true rfl) rfl ?_
  refine E_aload_n dX1_breach_6 rfl 1 rfl ?_
  refine E_aload_n dX1_breach_7 rfl 2 rfl ?_
  refine E_iload_n dX1_breach_8 rfl 3 rfl ?_
  refine E_cSI (As := [.ref (G.ad 3 b), .ref (G.ad 13 w), .int v2]) (rest := []) (sL_verdict G h b hb w hw v2) ck_X1_verdict lk_X1_49 rfl rfl rfl rfl rfl dX1_breach_9 (fun r2 _ => ?_)
  refine E_tsw (t := 101) [44, 58, 75, 91] dX1_breach_12 rfl rfl (by decide) (fun hx12 => ?_) (fun j hj hx12 => ?_)
  · rw [if_neg (show ¬ r2 = 1 from fun z => by rw [z] at hx12; revert hx12; decide)]
    rw [if_neg (show ¬ r2 = 2 from fun z => by rw [z] at hx12; revert hx12; decide)]
    rw [if_neg (show ¬ r2 = 3 from fun z => by rw [z] at hx12; revert hx12; decide)]
    rw [if_neg (show ¬ r2 = 4 from fun z => by rw [z] at hx12; revert hx12; decide)]
    refine E_bipush (v := (-2)) dX1_breach_101 rfl ?_
    exact E_iret rfl rfl dX1_breach_103
  · rcases j with _ | _ | _ | _ | j
    · have ex : r2 = 1 := Int32.toInt_inj.mp (hx12.trans rfl)
      rw [if_pos ex]
      show Sim G iL_breach (rvI h) 44 [(3, .int r1), (0, .ref (G.ad 3 b)), (1, .ref (G.ad 13 w)), (2, .int v2)] [] h _
      refine E_iload_n dX1_breach_44 rfl 0 rfl ?_
      refine E_aload_n dX1_breach_45 rfl 1 rfl ?_
      refine E_cVI (As := []) (rest := [.int r1]) (sB_cells G h b hb) ck_X0_cells lk_X1_52 rfl rfl kc_3 hb rfl rfl rfl dX1_breach_46 (fun r3 _ => ?_)
      refine E_aload_n dX1_breach_49 rfl 1 rfl ?_
      refine E_getI fl_X1_26 dX1_breach_50 hb ?_
      refine E_isub dX1_breach_53 ?_
      refine E_cSI (As := [.int r1, .int (r3 - (gI h 3 b 2))]) (rest := []) (sL_cellBehind G h r1 (r3 - (gI h 3 b 2))) ck_X1_cellBehind lk_X1_55 rfl rfl rfl rfl rfl dX1_breach_54 (fun r4 _ => ?_)
      exact E_iret rfl rfl dX1_breach_57
    · have ex : r2 = 2 := Int32.toInt_inj.mp (hx12.trans rfl)
      rw [if_neg (show ¬ r2 = 1 from fun z => absurd (ex.symm.trans z) (by decide))]
      rw [if_pos ex]
      show Sim G iL_breach (rvI h) 58 [(3, .int r1), (0, .ref (G.ad 3 b)), (1, .ref (G.ad 13 w)), (2, .int v2)] [] h _
      refine E_aload_n dX1_breach_58 rfl 1 rfl ?_
      refine E_aload_n dX1_breach_59 rfl 1 rfl ?_
      refine E_cVI (As := []) (rest := [.ref (G.ad 3 b)]) (sB_allCells G h b hb) ck_X0_allCells lk_X1_15 rfl rfl kc_3 hb rfl rfl rfl dX1_breach_60 (fun r5 _ => ?_)
      refine E_iload_n dX1_breach_63 rfl 0 rfl ?_
      refine E_iconst (v := (-1)) dX1_breach_64 rfl ?_
      refine E_ixor dX1_breach_65 ?_
      refine E_iand dX1_breach_66 ?_
      refine E_aload_n dX1_breach_67 rfl 1 rfl ?_
      refine E_getI fl_X1_32 dX1_breach_68 hb ?_
      refine E_cVI (As := [.int (r5 &&& (r1 ^^^ (-1))), .int (gI h 3 b 3)]) (rest := []) (sB_partStart G h b hb (r5 &&& (r1 ^^^ (-1))) (gI h 3 b 3)) ck_X0_partStart lk_X1_58 rfl rfl kc_3 hb rfl rfl rfl dX1_breach_71 (fun r6 _ => ?_)
      exact E_iret rfl rfl dX1_breach_74
    · have ex : r2 = 3 := Int32.toInt_inj.mp (hx12.trans rfl)
      rw [if_neg (show ¬ r2 = 1 from fun z => absurd (ex.symm.trans z) (by decide))]
      rw [if_neg (show ¬ r2 = 2 from fun z => absurd (ex.symm.trans z) (by decide))]
      rw [if_pos ex]
      show Sim G iL_breach (rvI h) 75 [(3, .int r1), (0, .ref (G.ad 3 b)), (1, .ref (G.ad 13 w)), (2, .int v2)] [] h _
      refine E_iload_n dX1_breach_75 rfl 0 rfl ?_
      refine E_aload_n dX1_breach_76 rfl 1 rfl ?_
      refine E_aload_n dX1_breach_77 rfl 2 rfl ?_
      refine E_iload_n dX1_breach_78 rfl 3 rfl ?_
      refine E_cVI (As := [.int v2]) (rest := [.ref (G.ad 3 b), .int r1]) (sW_yearOf G h w hw v2) ck_X7_yearOf lk_X1_38 rfl rfl kc_13 hw rfl rfl rfl dX1_breach_79 (fun r7 _ => ?_)
      refine E_iconst (v := (-1)) dX1_breach_82 rfl ?_
      refine E_cVI (As := [.int r7, .int (-1)]) (rest := [.int r1]) (sB_guardedIn G h b hb r7 (-1)) ck_X0_guardedIn lk_X1_41 rfl rfl kc_3 hb rfl rfl rfl dX1_breach_83 (fun r8 _ => ?_)
      refine E_iand dX1_breach_86 ?_
      refine E_cNI (host := "PaintedOve\x72") (As := [.int (r1 &&& r8)]) (rest := []) (sX_firstOf G h (r1 &&& r8)) ck_X8_firstOf (by decide) rfl rfl rfl rfl rfl dX1_breach_87 (fun r9 _ => ?_)
      exact E_iret rfl rfl dX1_breach_90
    · have ex : r2 = 4 := Int32.toInt_inj.mp (hx12.trans rfl)
      rw [if_neg (show ¬ r2 = 1 from fun z => absurd (ex.symm.trans z) (by decide))]
      rw [if_neg (show ¬ r2 = 2 from fun z => absurd (ex.symm.trans z) (by decide))]
      rw [if_neg (show ¬ r2 = 3 from fun z => absurd (ex.symm.trans z) (by decide))]
      rw [if_pos ex]
      show Sim G iL_breach (rvI h) 91 [(3, .int r1), (0, .ref (G.ad 3 b)), (1, .ref (G.ad 13 w)), (2, .int v2)] [] h _
      refine E_aload_n dX1_breach_91 rfl 1 rfl ?_
      refine E_aload_n dX1_breach_92 rfl 2 rfl ?_
      refine E_iload_n dX1_breach_93 rfl 3 rfl ?_
      refine E_cSI (As := [.ref (G.ad 3 b), .ref (G.ad 13 w), .int v2]) (rest := []) (sL_untimelyCells G h b hb w hw v2) ck_X1_untimelyCells lk_X1_45 rfl rfl rfl rfl rfl dX1_breach_94 (fun r10 _ => ?_)
      refine E_cNI (host := "PaintedOve\x72") (As := [.int r10]) (rest := []) (sX_firstOf G h r10) ck_X8_firstOf (by decide) rfl rfl rfl rfl rfl dX1_breach_97 (fun r11 _ => ?_)
      exact E_iret rfl rfl dX1_breach_100
    · exact absurd hj (by show ¬ (j + 4 < 4); omega)
def iO_countAll : MI := (yX2_countAll, cX2_countAll, 7, (some .long), { frames := 0, cells := 0, slots := 0, locals := 0 }, 0)
theorem ck_X2_countAll : CK iO_countAll 2 := ⟨⟨wd_111, wd_909, by decide +kernel⟩, ⟨wd_907, wd_908⟩⟩
def jO_countAll_97 (v1 : Int32) (v2 : Int32) (k_49 : Int32 → Int32 → Int32 → AH → Option (Int64 × AH)) (v3 : Int32) (v4 : Int32) (v5 : Int32) (s0 : Int32) (h : AH) : Option (Int64 × AH) :=
  if ((v4 >>> (v5 &&& 31)) &&& 1) = 0 then (if (s0 &&& (v4 ^^^ (-1))) = 0 then (if inb (v4 ||| ((1 : Int32) <<< (v5 &&& 31))) 4096 = true then (
  if inb v4 4096 = true then (
  if inb (v4 ||| ((1 : Int32) <<< (v5 &&& 31))) 4096 = true then (
  jb (uL h 27 0 (v4 ||| ((1 : Int32) <<< (v5 &&& 31))).toNatClampNeg ((gL h 27 0 (v4 ||| ((1 : Int32) <<< (v5 &&& 31))).toNatClampNeg) + (gL h 27 0 v4.toNatClampNeg))) fun h1 =>
  (k_49 v3 v4 (v5 + 1) h1)) else none) else none) else none)
  else ((k_49 v3 v4 (v5 + 1) h)))
  else ((k_49 v3 v4 (v5 + 1) h))
set_option maxRecDepth 20000 in
set_option maxHeartbeats 2000000 in
theorem sO_countAll_97 (G : JG) (v1 : Int32) (v2 : Int32) (k_49 : Int32 → Int32 → Int32 → AH → Option (Int64 × AH)) (hk_49 : ∀ (v3 : Int32) (v4 : Int32) (v5 : Int32) (h : AH), Sim G iO_countAll rvLM 49 [(0, .ref (G.ad 24 0)), (1, .int v1), (2, .int v2), (3, .int v3), (4, .int v4), (5, .int v5)] [] h (k_49 v3 v4 v5 h)) (v3 : Int32) (v4 : Int32) (v5 : Int32) (s0 : Int32) (h : AH) : Sim G iO_countAll rvLM 97 [(0, .ref (G.ad 24 0)), (1, .int v1), (2, .int v2), (3, .int v3), (4, .int v4), (5, .int v5)] [.int s0] h (jO_countAll_97 v1 v2 k_49 v3 v4 v5 s0 h) := by
  unfold jO_countAll_97
  refine E_istore (ls' := [(6, .int s0), (0, .ref (G.ad 24 0)), (1, .int v1), (2, .int v2), (3, .int v3), (4, .int v4), (5, .int v5)]) dX2_countAll_97 (Nat.le_of_ble_eq_true rfl) rfl ?_
  refine E_iload dX2_countAll_99 5 rfl ?_
  refine E_iload dX2_countAll_101 6 rfl ?_
  refine E_ishr dX2_countAll_103 ?_
  refine E_iconst (v := 1) dX2_countAll_104 rfl ?_
  refine E_iand dX2_countAll_105 ?_
  refine E_if_ne (t := 141) dX2_countAll_106 rfl ?_ ?_
  · refine E_iinc (q := 6) (v := (v5 + 1)) (ls' := [(5, .int (v5 + 1)), (6, .int s0), (0, .ref (G.ad 24 0)), (1, .int v1), (2, .int v2), (3, .int v3), (4, .int v4)]) dX2_countAll_141 rfl rfl (Nat.le_of_ble_eq_true rfl) rfl ?_
    refine E_goto (t := 49) dX2_countAll_144 rfl ?_
    exact E_sub [2, 3, 4, 5, 6, 0] rfl (hk_49 v3 v4 (v5 + 1) h)
  · refine E_iload dX2_countAll_109 0 rfl ?_
    refine E_iload dX2_countAll_111 5 rfl ?_
    refine E_iconst (v := (-1)) dX2_countAll_113 rfl ?_
    refine E_ixor dX2_countAll_114 ?_
    refine E_iand dX2_countAll_115 ?_
    refine E_if_ne (t := 141) dX2_countAll_116 rfl ?_ ?_
    · refine E_iinc (q := 6) (v := (v5 + 1)) (ls' := [(5, .int (v5 + 1)), (6, .int s0), (0, .ref (G.ad 24 0)), (1, .int v1), (2, .int v2), (3, .int v3), (4, .int v4)]) dX2_countAll_141 rfl rfl (Nat.le_of_ble_eq_true rfl) rfl ?_
      refine E_goto (t := 49) dX2_countAll_144 rfl ?_
      exact E_sub [2, 3, 4, 5, 6, 0] rfl (hk_49 v3 v4 (v5 + 1) h)
    · refine E_aload_n dX2_countAll_119 rfl 1 rfl ?_
      refine E_getF fl_X2_18 dX2_countAll_120 z24 ?_
      refine E_iload dX2_countAll_123 5 rfl ?_
      refine E_iconst (v := 1) dX2_countAll_125 rfl ?_
      refine E_iload dX2_countAll_126 6 rfl ?_
      refine E_ishl dX2_countAll_128 ?_
      refine E_ior dX2_countAll_129 ?_
      refine E_dup2 dX2_countAll_130 rfl rfl ?_
      refine E_lald (n := 4096) rfl dX2_countAll_131 z27 (fun _ => ?_)
      refine E_aload_n dX2_countAll_132 rfl 1 rfl ?_
      refine E_getF fl_X2_18 dX2_countAll_133 z24 ?_
      refine E_iload dX2_countAll_136 5 rfl ?_
      refine E_lald (n := 4096) rfl dX2_countAll_138 z27 (fun _ => ?_)
      refine E_ladd dX2_countAll_139 ?_
      refine E_last (n := 4096) rfl dX2_countAll_140 z27 (fun _ => ?_)
      refine E_hgen (fun h1 => ?_)
      refine E_iinc (q := 6) (v := (v5 + 1)) (ls' := [(5, .int (v5 + 1)), (6, .int s0), (0, .ref (G.ad 24 0)), (1, .int v1), (2, .int v2), (3, .int v3), (4, .int v4)]) dX2_countAll_141 rfl rfl (Nat.le_of_ble_eq_true rfl) rfl ?_
      refine E_goto (t := 49) dX2_countAll_144 rfl ?_
      exact E_sub [2, 3, 4, 5, 6, 0] rfl (hk_49 v3 v4 (v5 + 1) h1)
def jO_countAll_49 (v1 : Int32) (v2 : Int32) (k_40 : Int32 → Int32 → AH → Option (Int64 × AH)) : Nat → Int32 → Int32 → Int32 → AH → Option (Int64 × AH)
  | 0, _, _, _, _ => none
  | n + 1, v3, v4, v5, h =>
    if v5 < (gI h 24 0 0) then (if inb v4 4096 = true then (
    if (lg_cmp (gL h 27 0 v4.toNatClampNeg) 0) = 0 then ((k_40 v3 (v4 + 1) h))
    else (if v5 = v2 then (if inb v5 12 = true then (
    (jO_countAll_97 v1 v2 (jO_countAll_49 v1 v2 k_40 n) v3 v4 v5 ((gI h 26 0 v5.toNatClampNeg) ||| ((1 : Int32) <<< (v1 &&& 31))) h)) else none)
    else (if inb v5 12 = true then (
    (jO_countAll_97 v1 v2 (jO_countAll_49 v1 v2 k_40 n) v3 v4 v5 (gI h 26 0 v5.toNatClampNeg) h)) else none))) else none)
    else ((k_40 v3 (v4 + 1) h))
set_option maxRecDepth 20000 in
set_option maxHeartbeats 2000000 in
theorem sO_countAll_49 (G : JG) (v1 : Int32) (v2 : Int32) (k_40 : Int32 → Int32 → AH → Option (Int64 × AH)) (hk_40 : ∀ (v3 : Int32) (v4 : Int32) (h : AH), Sim G iO_countAll rvLM 40 [(0, .ref (G.ad 24 0)), (1, .int v1), (2, .int v2), (3, .int v3), (4, .int v4)] [] h (k_40 v3 v4 h)) : ∀ (n : Nat) (v3 : Int32) (v4 : Int32) (v5 : Int32) (h : AH), Sim G iO_countAll rvLM 49 [(0, .ref (G.ad 24 0)), (1, .int v1), (2, .int v2), (3, .int v3), (4, .int v4), (5, .int v5)] [] h (jO_countAll_49 v1 v2 k_40 n v3 v4 v5 h) := by
  intro n
  induction n with
  | zero => intro v3 v4 v5 h; exact E_none
  | succ n ih =>
    intro v3 v4 v5 h
    rw [jO_countAll_49]
    refine E_iload dX2_countAll_49 5 rfl ?_
    refine E_aload_n dX2_countAll_51 rfl 0 rfl ?_
    refine E_getI fl_X2_34 dX2_countAll_52 z24 ?_
    refine E_icmp_ge (t := 147) dX2_countAll_55 rfl ?_ ?_
    · refine E_iinc (q := 4) (v := (v4 + 1)) (ls' := [(4, .int (v4 + 1)), (0, .ref (G.ad 24 0)), (1, .int v1), (2, .int v2), (3, .int v3), (5, .int v5)]) dX2_countAll_147 rfl rfl (Nat.le_of_ble_eq_true rfl) rfl ?_
      refine E_goto (t := 40) dX2_countAll_150 rfl ?_
      exact E_sub [1, 2, 3, 4, 0] rfl (hk_40 v3 (v4 + 1) h)
    · refine E_aload_n dX2_countAll_58 rfl 0 rfl ?_
      refine E_getF fl_X2_18 dX2_countAll_59 z24 ?_
      refine E_iload dX2_countAll_62 4 rfl ?_
      refine E_lald (n := 4096) rfl dX2_countAll_64 z27 (fun _ => ?_)
      refine E_lconst (v := 0) dX2_countAll_65 rfl ?_
      refine E_lcmp dX2_countAll_66 ?_
      refine E_if_eq (t := 147) dX2_countAll_67 rfl ?_ ?_
      · refine E_iinc (q := 4) (v := (v4 + 1)) (ls' := [(4, .int (v4 + 1)), (0, .ref (G.ad 24 0)), (1, .int v1), (2, .int v2), (3, .int v3), (5, .int v5)]) dX2_countAll_147 rfl rfl (Nat.le_of_ble_eq_true rfl) rfl ?_
        refine E_goto (t := 40) dX2_countAll_150 rfl ?_
        exact E_sub [1, 2, 3, 4, 0] rfl (hk_40 v3 (v4 + 1) h)
      · refine E_iload dX2_countAll_70 5 rfl ?_
        refine E_iload_n dX2_countAll_72 rfl 2 rfl ?_
        refine E_icmp_ne (t := 90) dX2_countAll_73 rfl ?_ ?_
        · refine E_aload_n dX2_countAll_90 rfl 0 rfl ?_
          refine E_getF fl_X2_15 dX2_countAll_91 z24 ?_
          refine E_iload dX2_countAll_94 5 rfl ?_
          refine E_iald (n := 12) rfl dX2_countAll_96 z26 (fun _ => ?_)
          exact E_sub [0, 1, 2, 3, 4, 5] rfl (sO_countAll_97 G v1 v2 (jO_countAll_49 v1 v2 k_40 n) ih v3 v4 v5 (gI h 26 0 v5.toNatClampNeg) h)
        · refine E_aload_n dX2_countAll_76 rfl 0 rfl ?_
          refine E_getF fl_X2_15 dX2_countAll_77 z24 ?_
          refine E_iload dX2_countAll_80 5 rfl ?_
          refine E_iald (n := 12) rfl dX2_countAll_82 z26 (fun _ => ?_)
          refine E_iconst (v := 1) dX2_countAll_83 rfl ?_
          refine E_iload_n dX2_countAll_84 rfl 1 rfl ?_
          refine E_ishl dX2_countAll_85 ?_
          refine E_ior dX2_countAll_86 ?_
          refine E_goto (t := 97) dX2_countAll_87 rfl ?_
          exact E_sub [0, 1, 2, 3, 4, 5] rfl (sO_countAll_97 G v1 v2 (jO_countAll_49 v1 v2 k_40 n) ih v3 v4 v5 ((gI h 26 0 v5.toNatClampNeg) ||| ((1 : Int32) <<< (v1 &&& 31))) h)
def jO_countAll_153  (v3 : Int32) (h : AH) : Option (Int64 × AH) :=
  if inb (v3 - 1) 4096 = true then (
  some ((gL h 27 0 (v3 - 1).toNatClampNeg), h)) else none
set_option maxRecDepth 20000 in
set_option maxHeartbeats 2000000 in
theorem sO_countAll_153 (G : JG)   (v3 : Int32) (h : AH) : Sim G iO_countAll rvLM 153 [(0, .ref (G.ad 24 0)), (3, .int v3)] [] h (jO_countAll_153 v3 h) := by
  unfold jO_countAll_153
  refine E_aload_n dX2_countAll_153 rfl 0 rfl ?_
  refine E_getF fl_X2_18 dX2_countAll_154 z24 ?_
  refine E_iload_n dX2_countAll_157 rfl 1 rfl ?_
  refine E_iconst (v := 1) dX2_countAll_158 rfl ?_
  refine E_isub dX2_countAll_159 ?_
  refine E_lald (n := 4096) rfl dX2_countAll_160 z27 (fun _ => ?_)
  exact E_lret rfl rfl dX2_countAll_161
def jO_countAll_40 (v1 : Int32) (v2 : Int32) : Nat → Int32 → Int32 → AH → Option (Int64 × AH)
  | 0, _, _, _ => none
  | n + 1, v3, v4, h =>
    if v4 < v3 then ((jO_countAll_49 v1 v2 (jO_countAll_40 v1 v2 n) FU v3 v4 0 h))
    else ((jO_countAll_153 v3 h))
set_option maxRecDepth 20000 in
set_option maxHeartbeats 2000000 in
theorem sO_countAll_40 (G : JG) (v1 : Int32) (v2 : Int32)  : ∀ (n : Nat) (v3 : Int32) (v4 : Int32) (h : AH), Sim G iO_countAll rvLM 40 [(0, .ref (G.ad 24 0)), (1, .int v1), (2, .int v2), (3, .int v3), (4, .int v4)] [] h (jO_countAll_40 v1 v2 n v3 v4 h) := by
  intro n
  induction n with
  | zero => intro v3 v4 h; exact E_none
  | succ n ih =>
    intro v3 v4 h
    rw [jO_countAll_40]
    refine E_iload dX2_countAll_40 4 rfl ?_
    refine E_iload_n dX2_countAll_42 rfl 3 rfl ?_
    refine E_icmp_ge (t := 153) dX2_countAll_43 rfl ?_ ?_
    · exact E_sub [0, 3] rfl (sO_countAll_153 G v3 h)
    · refine E_iconst (v := 0) dX2_countAll_46 rfl ?_
      refine E_istore (ls' := [(5, .int 0), (0, .ref (G.ad 24 0)), (1, .int v1), (2, .int v2), (3, .int v3), (4, .int v4)]) dX2_countAll_47 (Nat.le_of_ble_eq_true rfl) rfl ?_
      exact E_sub [1, 2, 3, 4, 5, 0] rfl (sO_countAll_49 G v1 v2 (jO_countAll_40 v1 v2 n) ih FU v3 v4 0 h)
def jO_countAll_30 (v1 : Int32) (v2 : Int32) (v3 : Int32) (h : AH) : Option (Int64 × AH) :=
  if inb 0 4096 = true then (
  jb (uL h 27 0 (0 : Int32).toNatClampNeg 1) fun h1 =>
  (jO_countAll_40 v1 v2 FU v3 0 h1)) else none
set_option maxRecDepth 20000 in
set_option maxHeartbeats 2000000 in
theorem sO_countAll_30 (G : JG) (v1 : Int32) (v2 : Int32)  (v3 : Int32) (h : AH) : Sim G iO_countAll rvLM 30 [(0, .ref (G.ad 24 0)), (1, .int v1), (2, .int v2), (3, .int v3)] [] h (jO_countAll_30 v1 v2 v3 h) := by
  unfold jO_countAll_30
  refine E_aload_n dX2_countAll_30 rfl 0 rfl ?_
  refine E_getF fl_X2_18 dX2_countAll_31 z24 ?_
  refine E_iconst (v := 0) dX2_countAll_34 rfl ?_
  refine E_lconst (v := 1) dX2_countAll_35 rfl ?_
  refine E_last (n := 4096) rfl dX2_countAll_36 z27 (fun _ => ?_)
  refine E_hgen (fun h1 => ?_)
  refine E_iconst (v := 0) dX2_countAll_37 rfl ?_
  refine E_istore (ls' := [(4, .int 0), (0, .ref (G.ad 24 0)), (1, .int v1), (2, .int v2), (3, .int v3)]) dX2_countAll_38 (Nat.le_of_ble_eq_true rfl) rfl ?_
  exact E_sub [1, 2, 3, 4, 0] rfl (sO_countAll_40 G v1 v2 FU v3 0 h1)
def jO_countAll_10 (v1 : Int32) (v2 : Int32) : Nat → Int32 → Int32 → AH → Option (Int64 × AH)
  | 0, _, _, _ => none
  | n + 1, v3, v4, h =>
    if v4 < v3 then (if inb v4 4096 = true then (
    jb (uL h 27 0 v4.toNatClampNeg 0) fun h1 =>
    (jO_countAll_10 v1 v2 n v3 (v4 + 1) h1)) else none)
    else ((jO_countAll_30 v1 v2 v3 h))
set_option maxRecDepth 20000 in
set_option maxHeartbeats 2000000 in
theorem sO_countAll_10 (G : JG) (v1 : Int32) (v2 : Int32)  : ∀ (n : Nat) (v3 : Int32) (v4 : Int32) (h : AH), Sim G iO_countAll rvLM 10 [(0, .ref (G.ad 24 0)), (1, .int v1), (2, .int v2), (3, .int v3), (4, .int v4)] [] h (jO_countAll_10 v1 v2 n v3 v4 h) := by
  intro n
  induction n with
  | zero => intro v3 v4 h; exact E_none
  | succ n ih =>
    intro v3 v4 h
    rw [jO_countAll_10]
    refine E_iload dX2_countAll_10 4 rfl ?_
    refine E_iload_n dX2_countAll_12 rfl 3 rfl ?_
    refine E_icmp_ge (t := 30) dX2_countAll_13 rfl ?_ ?_
    · exact E_sub [0, 1, 2, 3] rfl (sO_countAll_30 G v1 v2 v3 h)
    · refine E_aload_n dX2_countAll_16 rfl 0 rfl ?_
      refine E_getF fl_X2_18 dX2_countAll_17 z24 ?_
      refine E_iload dX2_countAll_20 4 rfl ?_
      refine E_lconst (v := 0) dX2_countAll_22 rfl ?_
      refine E_last (n := 4096) rfl dX2_countAll_23 z27 (fun _ => ?_)
      refine E_hgen (fun h1 => ?_)
      refine E_iinc (q := 4) (v := (v4 + 1)) (ls' := [(4, .int (v4 + 1)), (0, .ref (G.ad 24 0)), (1, .int v1), (2, .int v2), (3, .int v3)]) dX2_countAll_24 rfl rfl (Nat.le_of_ble_eq_true rfl) rfl ?_
      refine E_goto (t := 10) dX2_countAll_27 rfl ?_
      exact E_sub [1, 2, 3, 4, 0] rfl (ih v3 (v4 + 1) h1)
def jO_countAll (h : AH) (v1 : Int32) (v2 : Int32) : Option (Int64 × AH) :=
  (jO_countAll_10 v1 v2 FU ((1 : Int32) <<< ((gI h 24 0 0) &&& 31)) 0 h)
set_option maxRecDepth 20000 in
set_option maxHeartbeats 2000000 in
theorem sO_countAll (G : JG) (h : AH) (v1 : Int32) (v2 : Int32) : Mt G iO_countAll rvLM [.ref (G.ad 24 0), .int v1, .int v2] h (jO_countAll h v1 v2) := by
  refine Mt_of (by decide) (Nat.le_of_ble_eq_true rfl) ?_
  unfold jO_countAll
  show Sim G iO_countAll rvLM 0 [(0, .ref (G.ad 24 0)), (1, .int v1), (2, .int v2)] [] h _
  refine E_iconst (v := 1) dX2_countAll_0 rfl ?_
  refine E_aload_n dX2_countAll_1 rfl 0 rfl ?_
  refine E_getI fl_X2_34 dX2_countAll_2 z24 ?_
  refine E_ishl dX2_countAll_5 ?_
  refine E_istore_n (ls' := [(3, .int ((1 : Int32) <<< ((gI h 24 0 0) &&& 31))), (0, .ref (G.ad 24 0)), (1, .int v1), (2, .int v2)]) dX2_countAll_6 rfl (Nat.le_of_ble_eq_true rfl) rfl ?_
  refine E_iconst (v := 0) dX2_countAll_7 rfl ?_
  refine E_istore (ls' := [(4, .int 0), (3, .int ((1 : Int32) <<< ((gI h 24 0 0) &&& 31))), (0, .ref (G.ad 24 0)), (1, .int v1), (2, .int v2)]) dX2_countAll_8 (Nat.le_of_ble_eq_true rfl) rfl ?_
  exact E_sub [2, 3, 4, 1, 0] rfl (sO_countAll_10 G v1 v2 FU ((1 : Int32) <<< ((gI h 24 0 0) &&& 31)) 0 h)
def iO_isSure : MI := (yX2_isSure, cX2_isSure, 3, (some .boolean), { frames := 0, cells := 0, slots := 0, locals := 0 }, 0)
theorem ck_X2_isSure : CK iO_isSure 2 := ⟨⟨wd_111, wd_892, by decide +kernel⟩, ⟨wd_890, wd_891⟩⟩
def jO_isSure (h : AH) (v1 : Int32) (v2 : Int32) : Option (Int32) :=
  if v2 < 0 then (some 0)
  else (if v2 < (gI h 24 0 0) then (if inb v2 12 = true then (
  if (((gI h 26 0 v2.toNatClampNeg) >>> (v1 &&& 31)) &&& 1) = 0 then (some 0)
  else (some 1)) else none)
  else (some 0))
set_option maxRecDepth 20000 in
set_option maxHeartbeats 2000000 in
theorem sO_isSure (G : JG) (h : AH) (v1 : Int32) (v2 : Int32) : Mt G iO_isSure (rvI h) [.ref (G.ad 24 0), .int v1, .int v2] h (jO_isSure h v1 v2) := by
  refine Mt_of (by decide) (Nat.le_of_ble_eq_true rfl) ?_
  unfold jO_isSure
  show Sim G iO_isSure (rvI h) 0 [(0, .ref (G.ad 24 0)), (1, .int v1), (2, .int v2)] [] h _
  refine E_iload_n dX2_isSure_0 rfl 2 rfl ?_
  refine E_if_lt (t := 29) dX2_isSure_1 rfl ?_ ?_
  · refine E_iconst (v := 0) dX2_isSure_29 rfl ?_
    exact E_zret rfl rfl rfl dX2_isSure_30
  · refine E_iload_n dX2_isSure_4 rfl 2 rfl ?_
    refine E_aload_n dX2_isSure_5 rfl 0 rfl ?_
    refine E_getI fl_X2_34 dX2_isSure_6 z24 ?_
    refine E_icmp_ge (t := 29) dX2_isSure_9 rfl ?_ ?_
    · refine E_iconst (v := 0) dX2_isSure_29 rfl ?_
      exact E_zret rfl rfl rfl dX2_isSure_30
    · refine E_aload_n dX2_isSure_12 rfl 0 rfl ?_
      refine E_getF fl_X2_15 dX2_isSure_13 z24 ?_
      refine E_iload_n dX2_isSure_16 rfl 2 rfl ?_
      refine E_iald (n := 12) rfl dX2_isSure_17 z26 (fun _ => ?_)
      refine E_iload_n dX2_isSure_18 rfl 1 rfl ?_
      refine E_ishr dX2_isSure_19 ?_
      refine E_iconst (v := 1) dX2_isSure_20 rfl ?_
      refine E_iand dX2_isSure_21 ?_
      refine E_if_eq (t := 29) dX2_isSure_22 rfl ?_ ?_
      · refine E_iconst (v := 0) dX2_isSure_29 rfl ?_
        exact E_zret rfl rfl rfl dX2_isSure_30
      · refine E_iconst (v := 1) dX2_isSure_25 rfl ?_
        refine E_goto (t := 30) dX2_isSure_26 rfl ?_
        exact E_zret rfl rfl rfl dX2_isSure_30
def iO_earliestPlace : MI := (yX2_earliestPlace, cX2_earliestPlace, 4, (some .int), { frames := 1, cells := 0, slots := 0, locals := 22 }, 0)
theorem ck_X2_earliestPlace : CK iO_earliestPlace 1 := ⟨⟨wd_111, wd_922, by decide +kernel⟩, ⟨wd_920, wd_921⟩⟩
def jO_earliestPlace_4 (h : AH) (v1 : Int32) : Nat → Int32 → Int32 → Option (Int32)
  | 0, _, _ => none
  | n + 1, v2, v3 =>
    if v3 < (gI h 24 0 0) then ((jO_isSure h v3 v1).bind fun r1 =>
    if r1 = 0 then ((jO_earliestPlace_4 h v1 n v2 (v3 + 1)))
    else ((jO_earliestPlace_4 h v1 n (v2 + 1) (v3 + 1))))
    else (some v2)
set_option maxRecDepth 20000 in
set_option maxHeartbeats 2000000 in
theorem sO_earliestPlace_4 (G : JG) (h : AH) (v1 : Int32)  : ∀ (n : Nat) (v2 : Int32) (v3 : Int32), Sim G iO_earliestPlace (rvI h) 4 [(0, .ref (G.ad 24 0)), (1, .int v1), (2, .int v2), (3, .int v3)] [] h (jO_earliestPlace_4 h v1 n v2 v3) := by
  intro n
  induction n with
  | zero => intro v2 v3; exact E_none
  | succ n ih =>
    intro v2 v3
    rw [jO_earliestPlace_4]
    refine E_iload_n dX2_earliestPlace_4 rfl 3 rfl ?_
    refine E_aload_n dX2_earliestPlace_5 rfl 0 rfl ?_
    refine E_getI fl_X2_34 dX2_earliestPlace_6 z24 ?_
    refine E_icmp_ge (t := 30) dX2_earliestPlace_9 rfl ?_ ?_
    · refine E_iload_n dX2_earliestPlace_30 rfl 2 rfl ?_
      exact E_iret rfl rfl dX2_earliestPlace_31
    · refine E_aload_n dX2_earliestPlace_12 rfl 0 rfl ?_
      refine E_iload_n dX2_earliestPlace_13 rfl 3 rfl ?_
      refine E_iload_n dX2_earliestPlace_14 rfl 1 rfl ?_
      refine E_cVI (As := [.int v3, .int v1]) (rest := []) (sO_isSure G h v3 v1) ck_X2_isSure lk_X2_44 rfl rfl kc_24 z24 rfl rfl rfl dX2_earliestPlace_15 (fun r1 _ => ?_)
      refine E_if_eq (t := 24) dX2_earliestPlace_18 rfl ?_ ?_
      · refine E_iinc (q := 3) (v := (v3 + 1)) (ls' := [(3, .int (v3 + 1)), (0, .ref (G.ad 24 0)), (1, .int v1), (2, .int v2)]) dX2_earliestPlace_24 rfl rfl (Nat.le_of_ble_eq_true rfl) rfl ?_
        refine E_goto (t := 4) dX2_earliestPlace_27 rfl ?_
        exact E_sub [1, 2, 3, 0] rfl (ih v2 (v3 + 1))
      · refine E_iinc (q := 2) (v := (v2 + 1)) (ls' := [(2, .int (v2 + 1)), (0, .ref (G.ad 24 0)), (1, .int v1), (3, .int v3)]) dX2_earliestPlace_21 rfl rfl (Nat.le_of_ble_eq_true rfl) rfl ?_
        refine E_iinc (q := 3) (v := (v3 + 1)) (ls' := [(3, .int (v3 + 1)), (2, .int (v2 + 1)), (0, .ref (G.ad 24 0)), (1, .int v1)]) dX2_earliestPlace_24 rfl rfl (Nat.le_of_ble_eq_true rfl) rfl ?_
        refine E_goto (t := 4) dX2_earliestPlace_27 rfl ?_
        exact E_sub [2, 3, 1, 0] rfl (ih (v2 + 1) (v3 + 1))
def jO_earliestPlace (h : AH) (v1 : Int32) : Option (Int32) :=
  (jO_earliestPlace_4 h v1 FU 0 0)
set_option maxRecDepth 20000 in
set_option maxHeartbeats 2000000 in
theorem sO_earliestPlace (G : JG) (h : AH) (v1 : Int32) : Mt G iO_earliestPlace (rvI h) [.ref (G.ad 24 0), .int v1] h (jO_earliestPlace h v1) := by
  refine Mt_of (by decide) (Nat.le_of_ble_eq_true rfl) ?_
  unfold jO_earliestPlace
  show Sim G iO_earliestPlace (rvI h) 0 [(0, .ref (G.ad 24 0)), (1, .int v1)] [] h _
  refine E_iconst (v := 0) dX2_earliestPlace_0 rfl ?_
  refine E_istore_n (ls' := [(2, .int 0), (0, .ref (G.ad 24 0)), (1, .int v1)]) dX2_earliestPlace_1 rfl (Nat.le_of_ble_eq_true rfl) rfl ?_
  refine E_iconst (v := 0) dX2_earliestPlace_2 rfl ?_
  refine E_istore_n (ls' := [(3, .int 0), (2, .int 0), (0, .ref (G.ad 24 0)), (1, .int v1)]) dX2_earliestPlace_3 rfl (Nat.le_of_ble_eq_true rfl) rfl ?_
  exact E_sub [2, 3, 1, 0] rfl (sO_earliestPlace_4 G h v1 FU 0 0)
def iO_latestPlace : MI := (yX2_latestPlace, cX2_latestPlace, 4, (some .int), { frames := 1, cells := 0, slots := 0, locals := 22 }, 0)
theorem ck_X2_latestPlace : CK iO_latestPlace 1 := ⟨⟨wd_111, wd_917, by decide +kernel⟩, ⟨wd_915, wd_916⟩⟩
def jO_latestPlace_9 (h : AH) (v1 : Int32) : Nat → Int32 → Int32 → Option (Int32)
  | 0, _, _ => none
  | n + 1, v2, v3 =>
    if v3 < (gI h 24 0 0) then ((jO_isSure h v1 v3).bind fun r1 =>
    if r1 = 0 then ((jO_latestPlace_9 h v1 n v2 (v3 + 1)))
    else ((jO_latestPlace_9 h v1 n (v2 + (-1)) (v3 + 1))))
    else (some v2)
set_option maxRecDepth 20000 in
set_option maxHeartbeats 2000000 in
theorem sO_latestPlace_9 (G : JG) (h : AH) (v1 : Int32)  : ∀ (n : Nat) (v2 : Int32) (v3 : Int32), Sim G iO_latestPlace (rvI h) 9 [(0, .ref (G.ad 24 0)), (1, .int v1), (2, .int v2), (3, .int v3)] [] h (jO_latestPlace_9 h v1 n v2 v3) := by
  intro n
  induction n with
  | zero => intro v2 v3; exact E_none
  | succ n ih =>
    intro v2 v3
    rw [jO_latestPlace_9]
    refine E_iload_n dX2_latestPlace_9 rfl 3 rfl ?_
    refine E_aload_n dX2_latestPlace_10 rfl 0 rfl ?_
    refine E_getI fl_X2_34 dX2_latestPlace_11 z24 ?_
    refine E_icmp_ge (t := 35) dX2_latestPlace_14 rfl ?_ ?_
    · refine E_iload_n dX2_latestPlace_35 rfl 2 rfl ?_
      exact E_iret rfl rfl dX2_latestPlace_36
    · refine E_aload_n dX2_latestPlace_17 rfl 0 rfl ?_
      refine E_iload_n dX2_latestPlace_18 rfl 1 rfl ?_
      refine E_iload_n dX2_latestPlace_19 rfl 3 rfl ?_
      refine E_cVI (As := [.int v1, .int v3]) (rest := []) (sO_isSure G h v1 v3) ck_X2_isSure lk_X2_44 rfl rfl kc_24 z24 rfl rfl rfl dX2_latestPlace_20 (fun r1 _ => ?_)
      refine E_if_eq (t := 29) dX2_latestPlace_23 rfl ?_ ?_
      · refine E_iinc (q := 3) (v := (v3 + 1)) (ls' := [(3, .int (v3 + 1)), (0, .ref (G.ad 24 0)), (1, .int v1), (2, .int v2)]) dX2_latestPlace_29 rfl rfl (Nat.le_of_ble_eq_true rfl) rfl ?_
        refine E_goto (t := 9) dX2_latestPlace_32 rfl ?_
        exact E_sub [1, 2, 3, 0] rfl (ih v2 (v3 + 1))
      · refine E_iinc (q := 2) (v := (v2 + (-1))) (ls' := [(2, .int (v2 + (-1))), (0, .ref (G.ad 24 0)), (1, .int v1), (3, .int v3)]) dX2_latestPlace_26 rfl rfl (Nat.le_of_ble_eq_true rfl) rfl ?_
        refine E_iinc (q := 3) (v := (v3 + 1)) (ls' := [(3, .int (v3 + 1)), (2, .int (v2 + (-1))), (0, .ref (G.ad 24 0)), (1, .int v1)]) dX2_latestPlace_29 rfl rfl (Nat.le_of_ble_eq_true rfl) rfl ?_
        refine E_goto (t := 9) dX2_latestPlace_32 rfl ?_
        exact E_sub [2, 3, 1, 0] rfl (ih (v2 + (-1)) (v3 + 1))
def jO_latestPlace (h : AH) (v1 : Int32) : Option (Int32) :=
  (jO_latestPlace_9 h v1 FU ((gI h 24 0 0) - 1) 0)
set_option maxRecDepth 20000 in
set_option maxHeartbeats 2000000 in
theorem sO_latestPlace (G : JG) (h : AH) (v1 : Int32) : Mt G iO_latestPlace (rvI h) [.ref (G.ad 24 0), .int v1] h (jO_latestPlace h v1) := by
  refine Mt_of (by decide) (Nat.le_of_ble_eq_true rfl) ?_
  unfold jO_latestPlace
  show Sim G iO_latestPlace (rvI h) 0 [(0, .ref (G.ad 24 0)), (1, .int v1)] [] h _
  refine E_aload_n dX2_latestPlace_0 rfl 0 rfl ?_
  refine E_getI fl_X2_34 dX2_latestPlace_1 z24 ?_
  refine E_iconst (v := 1) dX2_latestPlace_4 rfl ?_
  refine E_isub dX2_latestPlace_5 ?_
  refine E_istore_n (ls' := [(2, .int ((gI h 24 0 0) - 1)), (0, .ref (G.ad 24 0)), (1, .int v1)]) dX2_latestPlace_6 rfl (Nat.le_of_ble_eq_true rfl) rfl ?_
  refine E_iconst (v := 0) dX2_latestPlace_7 rfl ?_
  refine E_istore_n (ls' := [(3, .int 0), (2, .int ((gI h 24 0 0) - 1)), (0, .ref (G.ad 24 0)), (1, .int v1)]) dX2_latestPlace_8 rfl (Nat.le_of_ble_eq_true rfl) rfl ?_
  exact E_sub [2, 3, 1, 0] rfl (sO_latestPlace_9 G h v1 FU ((gI h 24 0 0) - 1) 0)
def iO_learn : MI := (yX2_learn, cX2_learn, 4, none, { frames := 2, cells := 0, slots := 0, locals := 46 }, 0)
theorem ck_X2_learn : CK iO_learn 1 := ⟨⟨wd_111, wd_886, by decide +kernel⟩, ⟨wd_884, wd_885⟩⟩
def jO_learn_43 (w : Nat) (k_15 : Int32 → AH → Option AH) : Nat → Int32 → Int32 → AH → Option (AH)
  | 0, _, _, _ => none
  | n + 1, v2, v3, h =>
    if v3 < v2 then (if inb v3 12 = true then (
    if inb v2 12 = true then (
    if ((gI h 25 0 v3.toNatClampNeg) &&& (gI h 25 0 v2.toNatClampNeg)) = 0 then ((jO_learn_43 w k_15 n v2 (v3 + 1) h))
    else (if inb v2 12 = true then (
    if inb v3 12 = true then (
    if inb v2 12 = true then (
    jb (uI h 26 0 v2.toNatClampNeg ((gI h 26 0 v2.toNatClampNeg) ||| ((gI h 26 0 v3.toNatClampNeg) ||| ((1 : Int32) <<< (v3 &&& 31))))) fun h1 =>
    (jO_learn_43 w k_15 n v2 (v3 + 1) h1)) else none) else none) else none)) else none) else none)
    else ((k_15 (v2 + 1) h))
set_option maxRecDepth 20000 in
set_option maxHeartbeats 2000000 in
theorem sO_learn_43 (G : JG) (w : Nat) (hw : w < nIn 0 13) (k_15 : Int32 → AH → Option AH) (hk_15 : ∀ (v2 : Int32) (h : AH), Sim G iO_learn rvV 15 [(0, .ref (G.ad 24 0)), (1, .ref (G.ad 13 w)), (2, .int v2)] [] h (k_15 v2 h)) : ∀ (n : Nat) (v2 : Int32) (v3 : Int32) (h : AH), Sim G iO_learn rvV 43 [(0, .ref (G.ad 24 0)), (1, .ref (G.ad 13 w)), (2, .int v2), (3, .int v3)] [] h (jO_learn_43 w k_15 n v2 v3 h) := by
  intro n
  induction n with
  | zero => intro v2 v3 h; exact E_none
  | succ n ih =>
    intro v2 v3 h
    rw [jO_learn_43]
    refine E_iload_n dX2_learn_43 rfl 3 rfl ?_
    refine E_iload_n dX2_learn_44 rfl 2 rfl ?_
    refine E_icmp_ge (t := 89) dX2_learn_45 rfl ?_ ?_
    · refine E_iinc (q := 2) (v := (v2 + 1)) (ls' := [(2, .int (v2 + 1)), (0, .ref (G.ad 24 0)), (1, .ref (G.ad 13 w)), (3, .int v3)]) dX2_learn_89 rfl rfl (Nat.le_of_ble_eq_true rfl) rfl ?_
      refine E_goto (t := 15) dX2_learn_92 rfl ?_
      exact E_sub [1, 2, 0] rfl (hk_15 (v2 + 1) h)
    · refine E_aload_n dX2_learn_48 rfl 0 rfl ?_
      refine E_getF fl_X2_9 dX2_learn_49 z24 ?_
      refine E_iload_n dX2_learn_52 rfl 3 rfl ?_
      refine E_iald (n := 12) rfl dX2_learn_53 z25 (fun _ => ?_)
      refine E_aload_n dX2_learn_54 rfl 0 rfl ?_
      refine E_getF fl_X2_9 dX2_learn_55 z24 ?_
      refine E_iload_n dX2_learn_58 rfl 2 rfl ?_
      refine E_iald (n := 12) rfl dX2_learn_59 z25 (fun _ => ?_)
      refine E_iand dX2_learn_60 ?_
      refine E_if_eq (t := 83) dX2_learn_61 rfl ?_ ?_
      · refine E_iinc (q := 3) (v := (v3 + 1)) (ls' := [(3, .int (v3 + 1)), (0, .ref (G.ad 24 0)), (1, .ref (G.ad 13 w)), (2, .int v2)]) dX2_learn_83 rfl rfl (Nat.le_of_ble_eq_true rfl) rfl ?_
        refine E_goto (t := 43) dX2_learn_86 rfl ?_
        exact E_sub [1, 2, 3, 0] rfl (ih v2 (v3 + 1) h)
      · refine E_aload_n dX2_learn_64 rfl 0 rfl ?_
        refine E_getF fl_X2_15 dX2_learn_65 z24 ?_
        refine E_iload_n dX2_learn_68 rfl 2 rfl ?_
        refine E_dup2 dX2_learn_69 rfl rfl ?_
        refine E_iald (n := 12) rfl dX2_learn_70 z26 (fun _ => ?_)
        refine E_aload_n dX2_learn_71 rfl 0 rfl ?_
        refine E_getF fl_X2_15 dX2_learn_72 z24 ?_
        refine E_iload_n dX2_learn_75 rfl 3 rfl ?_
        refine E_iald (n := 12) rfl dX2_learn_76 z26 (fun _ => ?_)
        refine E_iconst (v := 1) dX2_learn_77 rfl ?_
        refine E_iload_n dX2_learn_78 rfl 3 rfl ?_
        refine E_ishl dX2_learn_79 ?_
        refine E_ior dX2_learn_80 ?_
        refine E_ior dX2_learn_81 ?_
        refine E_iast (n := 12) rfl dX2_learn_82 z26 (fun _ => ?_)
        refine E_hgen (fun h1 => ?_)
        refine E_iinc (q := 3) (v := (v3 + 1)) (ls' := [(3, .int (v3 + 1)), (0, .ref (G.ad 24 0)), (1, .ref (G.ad 13 w)), (2, .int v2)]) dX2_learn_83 rfl rfl (Nat.le_of_ble_eq_true rfl) rfl ?_
        refine E_goto (t := 43) dX2_learn_86 rfl ?_
        exact E_sub [1, 2, 3, 0] rfl (ih v2 (v3 + 1) h1)
def jO_learn_15 (w : Nat) : Nat → Int32 → AH → Option (AH)
  | 0, _, _ => none
  | n + 1, v2, h =>
    if v2 < (gI h 24 0 0) then ((jW_cellsOf h w v2).bind fun r1 =>
    if inb v2 12 = true then (
    jb (uI h 25 0 v2.toNatClampNeg r1) fun h2 =>
    if inb v2 12 = true then (
    jb (uI h2 26 0 v2.toNatClampNeg 0) fun h3 =>
    (jO_learn_43 w (jO_learn_15 w n) FU v2 0 h3)) else none) else none)
    else (some h)
set_option maxRecDepth 20000 in
set_option maxHeartbeats 2000000 in
theorem sO_learn_15 (G : JG) (w : Nat) (hw : w < nIn 0 13)  : ∀ (n : Nat) (v2 : Int32) (h : AH), Sim G iO_learn rvV 15 [(0, .ref (G.ad 24 0)), (1, .ref (G.ad 13 w)), (2, .int v2)] [] h (jO_learn_15 w n v2 h) := by
  intro n
  induction n with
  | zero => intro v2 h; exact E_none
  | succ n ih =>
    intro v2 h
    rw [jO_learn_15]
    refine E_iload_n dX2_learn_15 rfl 2 rfl ?_
    refine E_aload_n dX2_learn_16 rfl 0 rfl ?_
    refine E_getI fl_X2_34 dX2_learn_17 z24 ?_
    refine E_icmp_ge (t := 95) dX2_learn_20 rfl ?_ ?_
    · exact E_vret rfl rfl dX2_learn_95
    · refine E_aload_n dX2_learn_23 rfl 0 rfl ?_
      refine E_getF fl_X2_9 dX2_learn_24 z24 ?_
      refine E_iload_n dX2_learn_27 rfl 2 rfl ?_
      refine E_aload_n dX2_learn_28 rfl 1 rfl ?_
      refine E_iload_n dX2_learn_29 rfl 2 rfl ?_
      refine E_cVI (As := [.int v2]) (rest := [.int v2, .ref (G.ad 25 0)]) (sW_cellsOf G h w hw v2) ck_X7_cellsOf lk_X2_35 rfl rfl kc_13 hw rfl rfl rfl dX2_learn_30 (fun r1 _ => ?_)
      refine E_iast (n := 12) rfl dX2_learn_33 z25 (fun _ => ?_)
      refine E_hgen (fun h2 => ?_)
      refine E_aload_n dX2_learn_34 rfl 0 rfl ?_
      refine E_getF fl_X2_15 dX2_learn_35 z24 ?_
      refine E_iload_n dX2_learn_38 rfl 2 rfl ?_
      refine E_iconst (v := 0) dX2_learn_39 rfl ?_
      refine E_iast (n := 12) rfl dX2_learn_40 z26 (fun _ => ?_)
      refine E_hgen (fun h3 => ?_)
      refine E_iconst (v := 0) dX2_learn_41 rfl ?_
      refine E_istore_n (ls' := [(3, .int 0), (0, .ref (G.ad 24 0)), (1, .ref (G.ad 13 w)), (2, .int v2)]) dX2_learn_42 rfl (Nat.le_of_ble_eq_true rfl) rfl ?_
      exact E_sub [1, 2, 3, 0] rfl (sO_learn_43 G w hw (jO_learn_15 w n) ih FU v2 0 h3)
def jO_learn (h : AH) (w : Nat) : Option (AH) :=
  jb (uI h 24 0 0 (mmin (gI h 13 w 0) 12)) fun h1 =>
  (jO_learn_15 w FU 0 h1)
set_option maxRecDepth 20000 in
set_option maxHeartbeats 2000000 in
theorem sO_learn (G : JG) (h : AH) (w : Nat) (hw : w < nIn 0 13) : Mt G iO_learn rvV [.ref (G.ad 24 0), .ref (G.ad 13 w)] h (jO_learn h w) := by
  refine Mt_of (by decide) (Nat.le_of_ble_eq_true rfl) ?_
  unfold jO_learn
  show Sim G iO_learn rvV 0 [(0, .ref (G.ad 24 0)), (1, .ref (G.ad 13 w))] [] h _
  refine E_aload_n dX2_learn_0 rfl 0 rfl ?_
  refine E_aload_n dX2_learn_1 rfl 1 rfl ?_
  refine E_getI fl_X2_22 dX2_learn_2 hw ?_
  refine E_bipush (v := 12) dX2_learn_5 rfl ?_
  refine E_mmin lk_X2_28 wx_min1 wx_ma wx_min2 (by decide) (Nat.le_of_ble_eq_true rfl) dX2_learn_7 ?_
  refine E_putI fs_X2_34 dX2_learn_10 z24 ?_
  refine E_hgen (fun h1 => ?_)
  refine E_iconst (v := 0) dX2_learn_13 rfl ?_
  refine E_istore_n (ls' := [(2, .int 0), (0, .ref (G.ad 24 0)), (1, .ref (G.ad 13 w))]) dX2_learn_14 rfl (Nat.le_of_ble_eq_true rfl) rfl ?_
  exact E_sub [1, 2, 0] rfl (sO_learn_15 G w hw FU 0 h1)
def iO_openPairs : MI := (yX2_openPairs, cX2_openPairs, 3, (some .int), { frames := 1, cells := 0, slots := 0, locals := 20 }, 0)
theorem ck_X2_openPairs : CK iO_openPairs 0 := ⟨⟨wd_111, wd_900, by decide +kernel⟩, ⟨wd_898, wd_899⟩⟩
def jO_openPairs_16 (h : AH) : Nat → Int32 → Int32 → Option (Int32)
  | 0, _, _ => none
  | n + 1, v1, v2 =>
    if v2 < (gI h 24 0 0) then (if inb v2 12 = true then (
    (jJ_bitCount (gI h 26 0 v2.toNatClampNeg)).bind fun r1 =>
    (jO_openPairs_16 h n (v1 - r1) (v2 + 1))) else none)
    else (some v1)
set_option maxRecDepth 20000 in
set_option maxHeartbeats 2000000 in
theorem sO_openPairs_16 (G : JG) (h : AH)   : ∀ (n : Nat) (v1 : Int32) (v2 : Int32), Sim G iO_openPairs (rvI h) 16 [(0, .ref (G.ad 24 0)), (1, .int v1), (2, .int v2)] [] h (jO_openPairs_16 h n v1 v2) := by
  intro n
  induction n with
  | zero => intro v1 v2; exact E_none
  | succ n ih =>
    intro v1 v2
    rw [jO_openPairs_16]
    refine E_iload_n dX2_openPairs_16 rfl 2 rfl ?_
    refine E_aload_n dX2_openPairs_17 rfl 0 rfl ?_
    refine E_getI fl_X2_34 dX2_openPairs_18 z24 ?_
    refine E_icmp_ge (t := 42) dX2_openPairs_21 rfl ?_ ?_
    · refine E_iload_n dX2_openPairs_42 rfl 1 rfl ?_
      exact E_iret rfl rfl dX2_openPairs_43
    · refine E_iload_n dX2_openPairs_24 rfl 1 rfl ?_
      refine E_aload_n dX2_openPairs_25 rfl 0 rfl ?_
      refine E_getF fl_X2_15 dX2_openPairs_26 z24 ?_
      refine E_iload_n dX2_openPairs_29 rfl 2 rfl ?_
      refine E_iald (n := 12) rfl dX2_openPairs_30 z26 (fun _ => ?_)
      refine E_cSI (As := [.int (gI h 26 0 v2.toNatClampNeg)]) (rest := [.int v1]) (sJ_bitCount G h (gI h 26 0 v2.toNatClampNeg)) ck_J6_bitCount_0f7a4 lk_X2_39 rfl rfl rfl rfl rfl dX2_openPairs_31 (fun r1 _ => ?_)
      refine E_isub dX2_openPairs_34 ?_
      refine E_istore_n (ls' := [(1, .int (v1 - r1)), (0, .ref (G.ad 24 0)), (2, .int v2)]) dX2_openPairs_35 rfl (Nat.le_of_ble_eq_true rfl) rfl ?_
      refine E_iinc (q := 2) (v := (v2 + 1)) (ls' := [(2, .int (v2 + 1)), (1, .int (v1 - r1)), (0, .ref (G.ad 24 0))]) dX2_openPairs_36 rfl rfl (Nat.le_of_ble_eq_true rfl) rfl ?_
      refine E_goto (t := 16) dX2_openPairs_39 rfl ?_
      exact E_sub [2, 1, 0] rfl (ih (v1 - r1) (v2 + 1))
def jO_openPairs (h : AH)  : Option (Int32) :=
  if 2 = 0 then none else (
  (jO_openPairs_16 h FU (((gI h 24 0 0) * ((gI h 24 0 0) - 1)) / 2) 0))
set_option maxRecDepth 20000 in
set_option maxHeartbeats 2000000 in
theorem sO_openPairs (G : JG) (h : AH)  : Mt G iO_openPairs (rvI h) [.ref (G.ad 24 0)] h (jO_openPairs h) := by
  refine Mt_of (by decide) (Nat.le_of_ble_eq_true rfl) ?_
  unfold jO_openPairs
  show Sim G iO_openPairs (rvI h) 0 [(0, .ref (G.ad 24 0))] [] h _
  refine E_aload_n dX2_openPairs_0 rfl 0 rfl ?_
  refine E_getI fl_X2_34 dX2_openPairs_1 z24 ?_
  refine E_aload_n dX2_openPairs_4 rfl 0 rfl ?_
  refine E_getI fl_X2_34 dX2_openPairs_5 z24 ?_
  refine E_iconst (v := 1) dX2_openPairs_8 rfl ?_
  refine E_isub dX2_openPairs_9 ?_
  refine E_imul dX2_openPairs_10 ?_
  refine E_iconst (v := 2) dX2_openPairs_11 rfl ?_
  refine E_idiv dX2_openPairs_12 (fun _ => ?_)
  refine E_istore_n (ls' := [(1, .int (((gI h 24 0 0) * ((gI h 24 0 0) - 1)) / 2)), (0, .ref (G.ad 24 0))]) dX2_openPairs_13 rfl (Nat.le_of_ble_eq_true rfl) rfl ?_
  refine E_iconst (v := 0) dX2_openPairs_14 rfl ?_
  refine E_istore_n (ls' := [(2, .int 0), (1, .int (((gI h 24 0 0) * ((gI h 24 0 0) - 1)) / 2)), (0, .ref (G.ad 24 0))]) dX2_openPairs_15 rfl (Nat.le_of_ble_eq_true rfl) rfl ?_
  exact E_sub [2, 1, 0] rfl (sO_openPairs_16 G h FU (((gI h 24 0 0) * ((gI h 24 0 0) - 1)) / 2) 0)
def iP_forget : MI := (yX3_forget, cX3_forget, 1, none, { frames := 0, cells := 0, slots := 0, locals := 0 }, 0)
theorem ck_X3_forget : CK iP_forget 0 := ⟨⟨wd_110, wd_645, by decide +kernel⟩, ⟨wd_643, wd_644⟩⟩
def jP_forget (h : AH)  : Option (AH) :=
  jb (uI h 21 0 0 0) fun h1 =>
  some h1
set_option maxRecDepth 20000 in
set_option maxHeartbeats 2000000 in
theorem sP_forget (G : JG) (h : AH)  : Mt G iP_forget rvV [.ref (G.ad 21 0)] h (jP_forget h) := by
  refine Mt_of (by decide) (Nat.le_of_ble_eq_true rfl) ?_
  unfold jP_forget
  show Sim G iP_forget rvV 0 [(0, .ref (G.ad 21 0))] [] h _
  refine E_aload_n dX3_forget_0 rfl 0 rfl ?_
  refine E_iconst (v := 0) dX3_forget_1 rfl ?_
  refine E_putI fs_X3_18 dX3_forget_2 z21 ?_
  refine E_hgen (fun h1 => ?_)
  exact E_vret rfl rfl dX3_forget_5
def iW_become : MI := (yX7_become, cX7_become, 2, none, { frames := 1, cells := 0, slots := 0, locals := 40 }, 0)
theorem ck_X7_become : CK iW_become 1 := ⟨⟨wd_108, wd_1069, by decide +kernel⟩, ⟨wd_1067, wd_1068⟩⟩
def jW_become (h : AH) (w : Nat) (w2 : Nat) : Option (AH) :=
  jb (uI h 13 w 0 (gI h 13 w2 0)) fun h1 =>
  if isZ (gI h1 13 w2 1) = true then (
  jb (uI h1 13 w 1 (gI h1 13 w2 1)) fun h2 =>
  jb (uC h2 14 w2 0 14 w 0 12) fun h3 =>
  jb (uC h3 15 w2 0 15 w 0 12) fun h4 =>
  jb (uC h4 16 w2 0 16 w 0 288) fun h5 =>
  some h5) else none
set_option maxRecDepth 20000 in
set_option maxHeartbeats 2000000 in
theorem sW_become (G : JG) (h : AH) (w : Nat) (hw : w < nIn 0 13) (w2 : Nat) (hw2 : w2 < nIn 0 13) : Mt G iW_become rvV [.ref (G.ad 13 w), .ref (G.ad 13 w2)] h (jW_become h w w2) := by
  refine Mt_of (by decide) (Nat.le_of_ble_eq_true rfl) ?_
  unfold jW_become
  show Sim G iW_become rvV 0 [(0, .ref (G.ad 13 w)), (1, .ref (G.ad 13 w2))] [] h _
  refine E_aload_n dX7_become_0 rfl 0 rfl ?_
  refine E_aload_n dX7_become_1 rfl 1 rfl ?_
  refine E_getI fl_X7_21 dX7_become_2 hw2 ?_
  refine E_putI fs_X7_21 dX7_become_5 hw ?_
  refine E_hgen (fun h1 => ?_)
  refine E_aload_n dX7_become_8 rfl 0 rfl ?_
  refine E_aload_n dX7_become_9 rfl 1 rfl ?_
  refine E_getI fl_X7_25 dX7_become_10 hw2 ?_
  refine E_putZg fs_X7_25 dX7_become_13 hw ?_
  refine E_hgen (fun h2 => ?_)
  refine E_aload_n dX7_become_16 rfl 1 rfl ?_
  refine E_getS fl_X7_9 dX7_become_17 hw2 ?_
  refine E_iconst (v := 0) dX7_become_20 rfl ?_
  refine E_aload_n dX7_become_21 rfl 0 rfl ?_
  refine E_getS fl_X7_9 dX7_become_22 hw ?_
  refine E_iconst (v := 0) dX7_become_25 rfl ?_
  refine E_bipush (v := 12) dX7_become_26 rfl ?_
  refine E_copy (n0 := 12) (n1 := 12) rfl rfl hw2 hw lk_X7_29 wx_ac1 wx_ac2 wx_ac3 (by decide) (by decide) (by decide) (by decide) (by decide) (by decide) (Nat.le_of_ble_eq_true rfl) dX7_become_28 ?_
  refine E_hgen (fun h3 => ?_)
  refine E_aload_n dX7_become_31 rfl 1 rfl ?_
  refine E_getS fl_X7_15 dX7_become_32 hw2 ?_
  refine E_iconst (v := 0) dX7_become_35 rfl ?_
  refine E_aload_n dX7_become_36 rfl 0 rfl ?_
  refine E_getS fl_X7_15 dX7_become_37 hw ?_
  refine E_iconst (v := 0) dX7_become_40 rfl ?_
  refine E_bipush (v := 12) dX7_become_41 rfl ?_
  refine E_copy (n0 := 12) (n1 := 12) rfl rfl hw2 hw lk_X7_29 wx_ac1 wx_ac2 wx_ac3 (by decide) (by decide) (by decide) (by decide) (by decide) (by decide) (Nat.le_of_ble_eq_true rfl) dX7_become_43 ?_
  refine E_hgen (fun h4 => ?_)
  refine E_aload_n dX7_become_46 rfl 1 rfl ?_
  refine E_getS fl_X7_18 dX7_become_47 hw2 ?_
  refine E_iconst (v := 0) dX7_become_50 rfl ?_
  refine E_aload_n dX7_become_51 rfl 0 rfl ?_
  refine E_getS fl_X7_18 dX7_become_52 hw ?_
  refine E_iconst (v := 0) dX7_become_55 rfl ?_
  refine E_sipush (v := 288) dX7_become_56 rfl ?_
  refine E_copy (n0 := 288) (n1 := 288) rfl rfl hw2 hw lk_X7_29 wx_ac1 wx_ac2 wx_ac3 (by decide) (by decide) (by decide) (by decide) (by decide) (by decide) (Nat.le_of_ble_eq_true rfl) dX7_become_59 ?_
  refine E_hgen (fun h5 => ?_)
  exact E_vret rfl rfl dX7_become_62
