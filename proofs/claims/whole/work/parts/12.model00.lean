/-! ===== the model, 0 ===== -/
def iM_good : MI := (yX9_good, cX9_good, 1, none, { frames := 0, cells := 0, slots := 0, locals := 0 }, 1)
theorem ck_X9_good : CK iM_good 0 := ⟨⟨wd_113, wd_1343, by decide +kernel⟩, ⟨wd_1342, wd_40⟩⟩
def jM_good (h : AH)  : Option (AH) :=
  jb (uI h 32 0 0 0) fun h1 =>
  jb (uI h1 32 0 11 0) fun h2 =>
  some h2
set_option maxRecDepth 20000 in
set_option maxHeartbeats 2000000 in
theorem sM_good (G : JG) (h : AH)  : Mt G iM_good rvV [.ref (G.ad 32 0)] h (jM_good h) := by
  refine Mt_of (by decide) (Nat.le_of_ble_eq_true rfl) ?_
  unfold jM_good
  show Sim G iM_good rvV 0 [(0, .ref (G.ad 32 0))] [] h _
  refine E_aload_n dX9_good_0 rfl 0 rfl ?_
  refine E_iconst (v := 0) dX9_good_1 rfl ?_
  refine E_putI fs_X9_55 dX9_good_2 z32 ?_
  refine E_hgen (fun h1 => ?_)
  refine E_aload_n dX9_good_5 rfl 0 rfl ?_
  refine E_iconst (v := 0) dX9_good_6 rfl ?_
  refine E_putI fs_X9_58 dX9_good_7 z32 ?_
  refine E_hgen (fun h2 => ?_)
  exact E_vret rfl rfl dX9_good_10
def iM_within : MI := (yX9_within, cX9_within, 3, (some .boolean), { frames := 0, cells := 0, slots := 0, locals := 0 }, 1)
theorem ck_X9_within : CS iM_within 3 := ⟨⟨wd_113, wd_1346, by decide +kernel⟩, wd_1345⟩
def jM_within (v0 : Int32) (v1 : Int32) (v2 : Int32) : Option (Int32) :=
  if v0 < v1 then (some 0)
  else (if v0 ≤ v2 then (some 1)
  else (some 0))
set_option maxRecDepth 20000 in
set_option maxHeartbeats 2000000 in
theorem sM_within (G : JG) (h : AH) (v0 : Int32) (v1 : Int32) (v2 : Int32) : Mt G iM_within (rvI h) [.int v0, .int v1, .int v2] h (jM_within v0 v1 v2) := by
  refine Mt_of (by decide) (Nat.le_of_ble_eq_true rfl) ?_
  unfold jM_within
  show Sim G iM_within (rvI h) 0 [(0, .int v0), (1, .int v1), (2, .int v2)] [] h _
  refine E_iload_n dX9_within_0 rfl 0 rfl ?_
  refine E_iload_n dX9_within_1 rfl 1 rfl ?_
  refine E_icmp_lt (t := 14) dX9_within_2 rfl ?_ ?_
  · refine E_iconst (v := 0) dX9_within_14 rfl ?_
    exact E_zret rfl rfl rfl dX9_within_15
  · refine E_iload_n dX9_within_5 rfl 0 rfl ?_
    refine E_iload_n dX9_within_6 rfl 2 rfl ?_
    refine E_icmp_gt (t := 14) dX9_within_7 rfl ?_ ?_
    · refine E_iconst (v := 0) dX9_within_14 rfl ?_
      exact E_zret rfl rfl rfl dX9_within_15
    · refine E_iconst (v := 1) dX9_within_10 rfl ?_
      refine E_goto (t := 15) dX9_within_11 rfl ?_
      exact E_zret rfl rfl rfl dX9_within_15
def iM_isWork : MI := (yX9_isWork, cX9_isWork, 2, (some .boolean), { frames := 1, cells := 0, slots := 0, locals := 22 }, 1)
theorem ck_X9_isWork : CK iM_isWork 1 := ⟨⟨wd_113, wd_1620, by decide +kernel⟩, ⟨wd_1619, wd_76⟩⟩
def jM_isWork (h : AH) (v1 : Int32) : Option (Int32) :=
  if (gI h 32 0 14) = 0 then (some 0)
  else (if inb 0 340 = true then (
  (jM_within v1 0 ((gI h 37 0 (0 : Int32).toNatClampNeg) - 1)).bind fun r1 =>
  if r1 = 0 then (some 0)
  else (some 1)) else none)
set_option maxRecDepth 20000 in
set_option maxHeartbeats 2000000 in
theorem sM_isWork (G : JG) (h : AH) (v1 : Int32) : Mt G iM_isWork (rvI h) [.ref (G.ad 32 0), .int v1] h (jM_isWork h v1) := by
  refine Mt_of (by decide) (Nat.le_of_ble_eq_true rfl) ?_
  unfold jM_isWork
  show Sim G iM_isWork (rvI h) 0 [(0, .ref (G.ad 32 0)), (1, .int v1)] [] h _
  refine E_aload_n dX9_isWork_0 rfl 0 rfl ?_
  refine E_getI fl_X9_168 dX9_isWork_1 z32 ?_
  refine E_if_eq (t := 27) dX9_isWork_4 rfl ?_ ?_
  · refine E_iconst (v := 0) dX9_isWork_27 rfl ?_
    exact E_zret rfl rfl rfl dX9_isWork_28
  · refine E_iload_n dX9_isWork_7 rfl 1 rfl ?_
    refine E_iconst (v := 0) dX9_isWork_8 rfl ?_
    refine E_aload_n dX9_isWork_9 rfl 0 rfl ?_
    refine E_getF fl_X9_26 dX9_isWork_10 z32 ?_
    refine E_iconst (v := 0) dX9_isWork_13 rfl ?_
    refine E_iald (n := 340) rfl dX9_isWork_14 z37 (fun _ => ?_)
    refine E_iconst (v := 1) dX9_isWork_15 rfl ?_
    refine E_isub dX9_isWork_16 ?_
    refine E_cSI (As := [.int v1, .int 0, .int ((gI h 37 0 (0 : Int32).toNatClampNeg) - 1)]) (rest := []) (sM_within G h v1 0 ((gI h 37 0 (0 : Int32).toNatClampNeg) - 1)) ck_X9_within lk_X9_139 rfl rfl rfl rfl rfl dX9_isWork_17 (fun r1 _ => ?_)
    refine E_if_eq (t := 27) dX9_isWork_20 rfl ?_ ?_
    · refine E_iconst (v := 0) dX9_isWork_27 rfl ?_
      exact E_zret rfl rfl rfl dX9_isWork_28
    · refine E_iconst (v := 1) dX9_isWork_23 rfl ?_
      refine E_goto (t := 28) dX9_isWork_24 rfl ?_
      exact E_zret rfl rfl rfl dX9_isWork_28
def iM_no : MI := (yX9_no, cX9_no, 2, (some .int), { frames := 0, cells := 0, slots := 0, locals := 0 }, 1)
theorem ck_X9_no : CK iM_no 1 := ⟨⟨wd_113, wd_1350, by decide +kernel⟩, ⟨wd_1349, wd_41⟩⟩
def jM_no (h : AH) (v1 : Int32) : Option (Int32 × AH) :=
  jb (uI h 32 0 11 v1) fun h1 =>
  some ((-1), h1)
set_option maxRecDepth 20000 in
set_option maxHeartbeats 2000000 in
theorem sM_no (G : JG) (h : AH) (v1 : Int32) : Mt G iM_no rvIM [.ref (G.ad 32 0), .int v1] h (jM_no h v1) := by
  refine Mt_of (by decide) (Nat.le_of_ble_eq_true rfl) ?_
  unfold jM_no
  show Sim G iM_no rvIM 0 [(0, .ref (G.ad 32 0)), (1, .int v1)] [] h _
  refine E_aload_n dX9_no_0 rfl 0 rfl ?_
  refine E_iload_n dX9_no_1 rfl 1 rfl ?_
  refine E_putI fs_X9_58 dX9_no_2 z32 ?_
  refine E_hgen (fun h1 => ?_)
  refine E_iconst (v := (-1)) dX9_no_5 rfl ?_
  exact E_iret rfl rfl dX9_no_6
def iM_cellMany : MI := (yX9_cellMany, cX9_cellMany, 1, (some .int), { frames := 0, cells := 0, slots := 0, locals := 0 }, 1)
theorem ck_X9_cellMany : CK iM_cellMany 0 := ⟨⟨wd_113, wd_1600, by decide +kernel⟩, ⟨wd_1599, wd_75⟩⟩
def jM_cellMany (h : AH)  : Option (Int32) :=
  if inb 0 161 = true then (
  if inb 1 161 = true then (
  some ((gI h 35 0 (0 : Int32).toNatClampNeg) * (gI h 35 0 (1 : Int32).toNatClampNeg))) else none) else none
set_option maxRecDepth 20000 in
set_option maxHeartbeats 2000000 in
theorem sM_cellMany (G : JG) (h : AH)  : Mt G iM_cellMany (rvI h) [.ref (G.ad 32 0)] h (jM_cellMany h) := by
  refine Mt_of (by decide) (Nat.le_of_ble_eq_true rfl) ?_
  unfold jM_cellMany
  show Sim G iM_cellMany (rvI h) 0 [(0, .ref (G.ad 32 0))] [] h _
  refine E_aload_n dX9_cellMany_0 rfl 0 rfl ?_
  refine E_getF fl_X9_20 dX9_cellMany_1 z32 ?_
  refine E_iconst (v := 0) dX9_cellMany_4 rfl ?_
  refine E_iald (n := 161) rfl dX9_cellMany_5 z35 (fun _ => ?_)
  refine E_aload_n dX9_cellMany_6 rfl 0 rfl ?_
  refine E_getF fl_X9_20 dX9_cellMany_7 z32 ?_
  refine E_iconst (v := 1) dX9_cellMany_10 rfl ?_
  refine E_iald (n := 161) rfl dX9_cellMany_11 z35 (fun _ => ?_)
  refine E_imul dX9_cellMany_12 ?_
  exact E_iret rfl rfl dX9_cellMany_13
def iM_paintOf : MI := (yX9_paintOf, cX9_paintOf, 4, (some .int), { frames := 0, cells := 0, slots := 0, locals := 0 }, 1)
theorem ck_X9_paintOf : CK iM_paintOf 2 := ⟨⟨wd_113, wd_1556, by decide +kernel⟩, ⟨wd_1555, wd_71⟩⟩
def jM_paintOf (h : AH) (v1 : Int32) (v2 : Int32) : Option (Int32) :=
  if inb (((2 + (26 * v1)) + 2) + v2) 340 = true then (
  jb ((gI h 37 0 (((2 + (26 * v1)) + 2) + v2).toNatClampNeg) : Int32) fun y1 =>
  if y1 = 0 then (some (-2))
  else (some (y1 - 1))) else none
set_option maxRecDepth 20000 in
set_option maxHeartbeats 2000000 in
theorem sM_paintOf (G : JG) (h : AH) (v1 : Int32) (v2 : Int32) : Mt G iM_paintOf (rvI h) [.ref (G.ad 32 0), .int v1, .int v2] h (jM_paintOf h v1 v2) := by
  refine Mt_of (by decide) (Nat.le_of_ble_eq_true rfl) ?_
  unfold jM_paintOf
  show Sim G iM_paintOf (rvI h) 0 [(0, .ref (G.ad 32 0)), (1, .int v1), (2, .int v2)] [] h _
  refine E_aload_n dX9_paintOf_0 rfl 0 rfl ?_
  refine E_getF fl_X9_26 dX9_paintOf_1 z32 ?_
  refine E_iconst (v := 2) dX9_paintOf_4 rfl ?_
  refine E_bipush (v := 26) dX9_paintOf_5 rfl ?_
  refine E_iload_n dX9_paintOf_7 rfl 1 rfl ?_
  refine E_imul dX9_paintOf_8 ?_
  refine E_iadd dX9_paintOf_9 ?_
  refine E_iconst (v := 2) dX9_paintOf_10 rfl ?_
  refine E_iadd dX9_paintOf_11 ?_
  refine E_iload_n dX9_paintOf_12 rfl 2 rfl ?_
  refine E_iadd dX9_paintOf_13 ?_
  refine E_iald (n := 340) rfl dX9_paintOf_14 z37 (fun _ => ?_)
  refine E_topi (fun y1 => ?_)
  refine E_istore_n (ls' := [(3, .int y1), (0, .ref (G.ad 32 0)), (1, .int v1), (2, .int v2)]) dX9_paintOf_15 rfl (Nat.le_of_ble_eq_true rfl) rfl ?_
  refine E_iload_n dX9_paintOf_16 rfl 0 rfl ?_
  refine E_if_ne (t := 25) dX9_paintOf_17 rfl ?_ ?_
  · refine E_iload_n dX9_paintOf_25 rfl 0 rfl ?_
    refine E_iconst (v := 1) dX9_paintOf_26 rfl ?_
    refine E_isub dX9_paintOf_27 ?_
    exact E_iret rfl rfl dX9_paintOf_28
  · refine E_bipush (v := (-2)) dX9_paintOf_20 rfl ?_
    refine E_goto (t := 28) dX9_paintOf_22 rfl ?_
    exact E_iret rfl rfl dX9_paintOf_28
def iM_painted : MI := (yX9_painted, cX9_painted, 4, (some .int), { frames := 1, cells := 0, slots := 0, locals := 23 }, 1)
theorem ck_X9_painted : CK iM_painted 1 := ⟨⟨wd_113, wd_1624, by decide +kernel⟩, ⟨wd_1623, wd_77⟩⟩
def jM_painted_4 (h : AH) (v1 : Int32) : Nat → Int32 → Int32 → Option (Int32)
  | 0, _, _ => none
  | n + 1, v2, v3 =>
    (jM_cellMany h).bind fun r1 =>
    if v3 < r1 then ((jM_paintOf h v1 v3).bind fun r2 =>
    if r2 = (-2) then ((jM_painted_4 h v1 n (v2 ||| 0) (v3 + 1)))
    else ((jM_painted_4 h v1 n (v2 ||| ((1 : Int32) <<< (v3 &&& 31))) (v3 + 1))))
    else (some v2)
set_option maxRecDepth 20000 in
set_option maxHeartbeats 2000000 in
theorem sM_painted_4 (G : JG) (h : AH) (v1 : Int32)  : ∀ (n : Nat) (v2 : Int32) (v3 : Int32), Sim G iM_painted (rvI h) 4 [(0, .ref (G.ad 32 0)), (1, .int v1), (2, .int v2), (3, .int v3)] [] h (jM_painted_4 h v1 n v2 v3) := by
  intro n
  induction n with
  | zero => intro v2 v3; exact E_none
  | succ n ih =>
    intro v2 v3
    rw [jM_painted_4]
    refine E_iload_n dX9_painted_4 rfl 3 rfl ?_
    refine E_aload_n dX9_painted_5 rfl 0 rfl ?_
    refine E_cVI (As := []) (rest := [.int v3]) (sM_cellMany G h) ck_X9_cellMany lk_X9_287 rfl rfl kc_32 z32 rfl rfl rfl dX9_painted_6 (fun r1 _ => ?_)
    refine E_icmp_ge (t := 39) dX9_painted_9 rfl ?_ ?_
    · refine E_iload_n dX9_painted_39 rfl 2 rfl ?_
      exact E_iret rfl rfl dX9_painted_40
    · refine E_iload_n dX9_painted_12 rfl 2 rfl ?_
      refine E_aload_n dX9_painted_13 rfl 0 rfl ?_
      refine E_iload_n dX9_painted_14 rfl 1 rfl ?_
      refine E_iload_n dX9_painted_15 rfl 3 rfl ?_
      refine E_cVI (As := [.int v1, .int v3]) (rest := [.int v2]) (sM_paintOf G h v1 v3) ck_X9_paintOf lk_X9_262 rfl rfl kc_32 z32 rfl rfl rfl dX9_painted_16 (fun r2 _ => ?_)
      refine E_bipush (v := (-2)) dX9_painted_19 rfl ?_
      refine E_icmp_ne (t := 28) dX9_painted_21 rfl ?_ ?_
      · refine E_iconst (v := 1) dX9_painted_28 rfl ?_
        refine E_iload_n dX9_painted_29 rfl 3 rfl ?_
        refine E_ishl dX9_painted_30 ?_
        refine E_ior dX9_painted_31 ?_
        refine E_istore_n (ls' := [(2, .int (v2 ||| ((1 : Int32) <<< (v3 &&& 31)))), (0, .ref (G.ad 32 0)), (1, .int v1), (3, .int v3)]) dX9_painted_32 rfl (Nat.le_of_ble_eq_true rfl) rfl ?_
        refine E_iinc (q := 3) (v := (v3 + 1)) (ls' := [(3, .int (v3 + 1)), (2, .int (v2 ||| ((1 : Int32) <<< (v3 &&& 31)))), (0, .ref (G.ad 32 0)), (1, .int v1)]) dX9_painted_33 rfl rfl (Nat.le_of_ble_eq_true rfl) rfl ?_
        refine E_goto (t := 4) dX9_painted_36 rfl ?_
        exact E_sub [2, 3, 1, 0] rfl (ih (v2 ||| ((1 : Int32) <<< (v3 &&& 31))) (v3 + 1))
      · refine E_iconst (v := 0) dX9_painted_24 rfl ?_
        refine E_goto (t := 31) dX9_painted_25 rfl ?_
        refine E_ior dX9_painted_31 ?_
        refine E_istore_n (ls' := [(2, .int (v2 ||| 0)), (0, .ref (G.ad 32 0)), (1, .int v1), (3, .int v3)]) dX9_painted_32 rfl (Nat.le_of_ble_eq_true rfl) rfl ?_
        refine E_iinc (q := 3) (v := (v3 + 1)) (ls' := [(3, .int (v3 + 1)), (2, .int (v2 ||| 0)), (0, .ref (G.ad 32 0)), (1, .int v1)]) dX9_painted_33 rfl rfl (Nat.le_of_ble_eq_true rfl) rfl ?_
        refine E_goto (t := 4) dX9_painted_36 rfl ?_
        exact E_sub [2, 3, 1, 0] rfl (ih (v2 ||| 0) (v3 + 1))
def jM_painted (h : AH) (v1 : Int32) : Option (Int32) :=
  (jM_painted_4 h v1 FU 0 0)
set_option maxRecDepth 20000 in
set_option maxHeartbeats 2000000 in
theorem sM_painted (G : JG) (h : AH) (v1 : Int32) : Mt G iM_painted (rvI h) [.ref (G.ad 32 0), .int v1] h (jM_painted h v1) := by
  refine Mt_of (by decide) (Nat.le_of_ble_eq_true rfl) ?_
  unfold jM_painted
  show Sim G iM_painted (rvI h) 0 [(0, .ref (G.ad 32 0)), (1, .int v1)] [] h _
  refine E_iconst (v := 0) dX9_painted_0 rfl ?_
  refine E_istore_n (ls' := [(2, .int 0), (0, .ref (G.ad 32 0)), (1, .int v1)]) dX9_painted_1 rfl (Nat.le_of_ble_eq_true rfl) rfl ?_
  refine E_iconst (v := 0) dX9_painted_2 rfl ?_
  refine E_istore_n (ls' := [(3, .int 0), (2, .int 0), (0, .ref (G.ad 32 0)), (1, .int v1)]) dX9_painted_3 rfl (Nat.le_of_ble_eq_true rfl) rfl ?_
  exact E_sub [2, 3, 1, 0] rfl (sM_painted_4 G h v1 FU 0 0)
def iM_laySure : MI := (yX9_laySure, cX9_laySure, 3, none, { frames := 2, cells := 0, slots := 0, locals := 46 }, 1)
theorem ck_X9_laySure : CK iM_laySure 0 := ⟨⟨wd_113, wd_1697, by decide +kernel⟩, ⟨wd_1696, wd_87⟩⟩
def jM_laySure_21 (k_2 : Int32 → AH → Option AH) : Nat → Int32 → Int32 → AH → Option (AH)
  | 0, _, _, _ => none
  | n + 1, v1, v2, h =>
    if v2 < v1 then ((jM_painted h v2).bind fun r1 =>
    (jM_painted h v1).bind fun r2 =>
    if (r1 &&& r2) = 0 then ((jM_laySure_21 k_2 n v1 (v2 + 1) h))
    else (if inb v1 12 = true then (
    if inb v2 12 = true then (
    if inb v1 12 = true then (
    jb (uI h 42 0 v1.toNatClampNeg ((gI h 42 0 v1.toNatClampNeg) ||| (((1 : Int32) <<< (v2 &&& 31)) ||| (gI h 42 0 v2.toNatClampNeg)))) fun h3 =>
    (jM_laySure_21 k_2 n v1 (v2 + 1) h3)) else none) else none) else none))
    else ((k_2 (v1 + 1) h))
set_option maxRecDepth 20000 in
set_option maxHeartbeats 2000000 in
theorem sM_laySure_21 (G : JG)  (k_2 : Int32 → AH → Option AH) (hk_2 : ∀ (v1 : Int32) (h : AH), Sim G iM_laySure rvV 2 [(0, .ref (G.ad 32 0)), (1, .int v1)] [] h (k_2 v1 h)) : ∀ (n : Nat) (v1 : Int32) (v2 : Int32) (h : AH), Sim G iM_laySure rvV 21 [(0, .ref (G.ad 32 0)), (1, .int v1), (2, .int v2)] [] h (jM_laySure_21 k_2 n v1 v2 h) := by
  intro n
  induction n with
  | zero => intro v1 v2 h; exact E_none
  | succ n ih =>
    intro v1 v2 h
    rw [jM_laySure_21]
    refine E_iload_n dX9_laySure_21 rfl 2 rfl ?_
    refine E_iload_n dX9_laySure_22 rfl 1 rfl ?_
    refine E_icmp_ge (t := 65) dX9_laySure_23 rfl ?_ ?_
    · refine E_iinc (q := 1) (v := (v1 + 1)) (ls' := [(1, .int (v1 + 1)), (0, .ref (G.ad 32 0)), (2, .int v2)]) dX9_laySure_65 rfl rfl (Nat.le_of_ble_eq_true rfl) rfl ?_
      refine E_goto (t := 2) dX9_laySure_68 rfl ?_
      exact E_sub [1, 0] rfl (hk_2 (v1 + 1) h)
    · refine E_aload_n dX9_laySure_26 rfl 0 rfl ?_
      refine E_iload_n dX9_laySure_27 rfl 2 rfl ?_
      refine E_cVI (As := [.int v2]) (rest := []) (sM_painted G h v2) ck_X9_painted lk_X9_311 rfl rfl kc_32 z32 rfl rfl rfl dX9_laySure_28 (fun r1 _ => ?_)
      refine E_aload_n dX9_laySure_31 rfl 0 rfl ?_
      refine E_iload_n dX9_laySure_32 rfl 1 rfl ?_
      refine E_cVI (As := [.int v1]) (rest := [.int r1]) (sM_painted G h v1) ck_X9_painted lk_X9_311 rfl rfl kc_32 z32 rfl rfl rfl dX9_laySure_33 (fun r2 _ => ?_)
      refine E_iand dX9_laySure_36 ?_
      refine E_if_eq (t := 59) dX9_laySure_37 rfl ?_ ?_
      · refine E_iinc (q := 2) (v := (v2 + 1)) (ls' := [(2, .int (v2 + 1)), (0, .ref (G.ad 32 0)), (1, .int v1)]) dX9_laySure_59 rfl rfl (Nat.le_of_ble_eq_true rfl) rfl ?_
        refine E_goto (t := 21) dX9_laySure_62 rfl ?_
        exact E_sub [1, 2, 0] rfl (ih v1 (v2 + 1) h)
      · refine E_aload_n dX9_laySure_40 rfl 0 rfl ?_
        refine E_getF fl_X9_41 dX9_laySure_41 z32 ?_
        refine E_iload_n dX9_laySure_44 rfl 1 rfl ?_
        refine E_dup2 dX9_laySure_45 rfl rfl ?_
        refine E_iald (n := 12) rfl dX9_laySure_46 z42 (fun _ => ?_)
        refine E_iconst (v := 1) dX9_laySure_47 rfl ?_
        refine E_iload_n dX9_laySure_48 rfl 2 rfl ?_
        refine E_ishl dX9_laySure_49 ?_
        refine E_aload_n dX9_laySure_50 rfl 0 rfl ?_
        refine E_getF fl_X9_41 dX9_laySure_51 z32 ?_
        refine E_iload_n dX9_laySure_54 rfl 2 rfl ?_
        refine E_iald (n := 12) rfl dX9_laySure_55 z42 (fun _ => ?_)
        refine E_ior dX9_laySure_56 ?_
        refine E_ior dX9_laySure_57 ?_
        refine E_iast (n := 12) rfl dX9_laySure_58 z42 (fun _ => ?_)
        refine E_hgen (fun h3 => ?_)
        refine E_iinc (q := 2) (v := (v2 + 1)) (ls' := [(2, .int (v2 + 1)), (0, .ref (G.ad 32 0)), (1, .int v1)]) dX9_laySure_59 rfl rfl (Nat.le_of_ble_eq_true rfl) rfl ?_
        refine E_goto (t := 21) dX9_laySure_62 rfl ?_
        exact E_sub [1, 2, 0] rfl (ih v1 (v2 + 1) h3)
def jM_laySure_2  : Nat → Int32 → AH → Option (AH)
  | 0, _, _ => none
  | n + 1, v1, h =>
    if inb 0 340 = true then (
    if v1 < (gI h 37 0 (0 : Int32).toNatClampNeg) then (if inb v1 12 = true then (
    jb (uI h 42 0 v1.toNatClampNeg 0) fun h1 =>
    (jM_laySure_21 (jM_laySure_2 n) FU v1 0 h1)) else none)
    else (some h)) else none
set_option maxRecDepth 20000 in
set_option maxHeartbeats 2000000 in
theorem sM_laySure_2 (G : JG)   : ∀ (n : Nat) (v1 : Int32) (h : AH), Sim G iM_laySure rvV 2 [(0, .ref (G.ad 32 0)), (1, .int v1)] [] h (jM_laySure_2 n v1 h) := by
  intro n
  induction n with
  | zero => intro v1 h; exact E_none
  | succ n ih =>
    intro v1 h
    rw [jM_laySure_2]
    refine E_iload_n dX9_laySure_2 rfl 1 rfl ?_
    refine E_aload_n dX9_laySure_3 rfl 0 rfl ?_
    refine E_getF fl_X9_26 dX9_laySure_4 z32 ?_
    refine E_iconst (v := 0) dX9_laySure_7 rfl ?_
    refine E_iald (n := 340) rfl dX9_laySure_8 z37 (fun _ => ?_)
    refine E_icmp_ge (t := 71) dX9_laySure_9 rfl ?_ ?_
    · exact E_vret rfl rfl dX9_laySure_71
    · refine E_aload_n dX9_laySure_12 rfl 0 rfl ?_
      refine E_getF fl_X9_41 dX9_laySure_13 z32 ?_
      refine E_iload_n dX9_laySure_16 rfl 1 rfl ?_
      refine E_iconst (v := 0) dX9_laySure_17 rfl ?_
      refine E_iast (n := 12) rfl dX9_laySure_18 z42 (fun _ => ?_)
      refine E_hgen (fun h1 => ?_)
      refine E_iconst (v := 0) dX9_laySure_19 rfl ?_
      refine E_istore_n (ls' := [(2, .int 0), (0, .ref (G.ad 32 0)), (1, .int v1)]) dX9_laySure_20 rfl (Nat.le_of_ble_eq_true rfl) rfl ?_
      exact E_sub [1, 2, 0] rfl (sM_laySure_21 G (jM_laySure_2 n) ih FU v1 0 h1)
def jM_laySure (h : AH)  : Option (AH) :=
  (jM_laySure_2 FU 0 h)
set_option maxRecDepth 20000 in
set_option maxHeartbeats 2000000 in
theorem sM_laySure (G : JG) (h : AH)  : Mt G iM_laySure rvV [.ref (G.ad 32 0)] h (jM_laySure h) := by
  refine Mt_of (by decide) (Nat.le_of_ble_eq_true rfl) ?_
  unfold jM_laySure
  show Sim G iM_laySure rvV 0 [(0, .ref (G.ad 32 0))] [] h _
  refine E_iconst (v := 0) dX9_laySure_0 rfl ?_
  refine E_istore_n (ls' := [(1, .int 0), (0, .ref (G.ad 32 0))]) dX9_laySure_1 rfl (Nat.le_of_ble_eq_true rfl) rfl ?_
  exact E_sub [1, 0] rfl (sM_laySure_2 G FU 0 h)
def iM_has : MI := (yX9_has, cX9_has, 2, (some .boolean), { frames := 0, cells := 0, slots := 0, locals := 0 }, 1)
theorem ck_X9_has : CS iM_has 2 := ⟨⟨wd_113, wd_1642, by decide +kernel⟩, wd_1641⟩
def jM_has (v0 : Int32) (v1 : Int32) : Option (Int32) :=
  if ((v0 >>> (v1 &&& 31)) &&& 1) = 1 then (some 1)
  else (some 0)
set_option maxRecDepth 20000 in
set_option maxHeartbeats 2000000 in
theorem sM_has (G : JG) (h : AH) (v0 : Int32) (v1 : Int32) : Mt G iM_has (rvI h) [.int v0, .int v1] h (jM_has v0 v1) := by
  refine Mt_of (by decide) (Nat.le_of_ble_eq_true rfl) ?_
  unfold jM_has
  show Sim G iM_has (rvI h) 0 [(0, .int v0), (1, .int v1)] [] h _
  refine E_iload_n dX9_has_0 rfl 0 rfl ?_
  refine E_iload_n dX9_has_1 rfl 1 rfl ?_
  refine E_ishr dX9_has_2 ?_
  refine E_iconst (v := 1) dX9_has_3 rfl ?_
  refine E_iand dX9_has_4 ?_
  refine E_iconst (v := 1) dX9_has_5 rfl ?_
  refine E_icmp_ne (t := 13) dX9_has_6 rfl ?_ ?_
  · refine E_iconst (v := 0) dX9_has_13 rfl ?_
    exact E_zret rfl rfl rfl dX9_has_14
  · refine E_iconst (v := 1) dX9_has_9 rfl ?_
    refine E_goto (t := 14) dX9_has_10 rfl ?_
    exact E_zret rfl rfl rfl dX9_has_14
def iM_ahead : MI := (yX9_ahead, cX9_ahead, 7, (some .long), { frames := 3, cells := 0, slots := 0, locals := 68 }, 1)
theorem ck_X9_ahead : CK iM_ahead 2 := ⟨⟨wd_113, wd_1709, by decide +kernel⟩, ⟨wd_1707, wd_1708⟩⟩
def jM_ahead_136 (v1 : Int32) (v2 : Int32) (k_74 : Int32 → Int32 → Int32 → AH → Option (Int64 × AH)) (v3 : Int32) (v4 : Int32) (v5 : Int32) (v6 : Int32) (h : AH) : Option (Int64 × AH) :=
  if inb v4 4096 = true then (
  if inb v6 4096 = true then (
  if inb v4 4096 = true then (
  jb (uL h 43 0 v4.toNatClampNeg ((gL h 43 0 v4.toNatClampNeg) + (gL h 43 0 v6.toNatClampNeg))) fun h1 =>
  (k_74 v3 v4 (v5 + 1) h1)) else none) else none) else none
set_option maxRecDepth 20000 in
set_option maxHeartbeats 2000000 in
theorem sM_ahead_136 (G : JG) (v1 : Int32) (v2 : Int32) (k_74 : Int32 → Int32 → Int32 → AH → Option (Int64 × AH)) (hk_74 : ∀ (v3 : Int32) (v4 : Int32) (v5 : Int32) (h : AH), Sim G iM_ahead rvLM 74 [(0, .ref (G.ad 32 0)), (1, .int v1), (2, .int v2), (3, .int v3), (4, .int v4), (5, .int v5)] [] h (k_74 v3 v4 v5 h)) (v3 : Int32) (v4 : Int32) (v5 : Int32) (v6 : Int32) (h : AH) : Sim G iM_ahead rvLM 136 [(0, .ref (G.ad 32 0)), (1, .int v1), (2, .int v2), (3, .int v3), (4, .int v4), (5, .int v5), (6, .int v6)] [] h (jM_ahead_136 v1 v2 k_74 v3 v4 v5 v6 h) := by
  unfold jM_ahead_136
  refine E_aload_n dX9_ahead_136 rfl 0 rfl ?_
  refine E_getF fl_X9_44 dX9_ahead_137 z32 ?_
  refine E_iload dX9_ahead_140 4 rfl ?_
  refine E_dup2 dX9_ahead_142 rfl rfl ?_
  refine E_lald (n := 4096) rfl dX9_ahead_143 z43 (fun _ => ?_)
  refine E_aload_n dX9_ahead_144 rfl 0 rfl ?_
  refine E_getF fl_X9_44 dX9_ahead_145 z32 ?_
  refine E_iload dX9_ahead_148 6 rfl ?_
  refine E_lald (n := 4096) rfl dX9_ahead_150 z43 (fun _ => ?_)
  refine E_ladd dX9_ahead_151 ?_
  refine E_last (n := 4096) rfl dX9_ahead_152 z43 (fun _ => ?_)
  refine E_hgen (fun h1 => ?_)
  refine E_iinc (q := 5) (v := (v5 + 1)) (ls' := [(5, .int (v5 + 1)), (0, .ref (G.ad 32 0)), (1, .int v1), (2, .int v2), (3, .int v3), (4, .int v4), (6, .int v6)]) dX9_ahead_153 rfl rfl (Nat.le_of_ble_eq_true rfl) rfl ?_
  refine E_goto (t := 74) dX9_ahead_156 rfl ?_
  exact E_sub [1, 2, 3, 4, 5, 0] rfl (hk_74 v3 v4 (v5 + 1) h1)
def jM_ahead_74 (v1 : Int32) (v2 : Int32) (k_57 : Int32 → Int32 → AH → Option (Int64 × AH)) : Nat → Int32 → Int32 → Int32 → AH → Option (Int64 × AH)
  | 0, _, _, _, _ => none
  | n + 1, v3, v4, v5, h =>
    if inb 0 340 = true then (
    if v5 < (gI h 37 0 (0 : Int32).toNatClampNeg) then (jb ((v4 &&& (((1 : Int32) <<< (v5 &&& 31)) ^^^ (-1))) : Int32) fun y1 =>
    (jM_has v4 v5).bind fun r2 =>
    if r2 = 0 then ((jM_ahead_74 v1 v2 k_57 n v3 v4 (v5 + 1) h))
    else (if inb v5 12 = true then (
    if ((gI h 42 0 v5.toNatClampNeg) &&& (y1 ^^^ (-1))) = 0 then (if v5 = v2 then ((jM_has y1 v1).bind fun r3 =>
    if r3 = 0 then ((jM_ahead_74 v1 v2 k_57 n v3 v4 (v5 + 1) h))
    else ((jM_ahead_136 v1 v2 (jM_ahead_74 v1 v2 k_57 n) v3 v4 v5 y1 h)))
    else ((jM_ahead_136 v1 v2 (jM_ahead_74 v1 v2 k_57 n) v3 v4 v5 y1 h)))
    else ((jM_ahead_74 v1 v2 k_57 n v3 v4 (v5 + 1) h))) else none))
    else ((k_57 v3 (v4 + 1) h))) else none
set_option maxRecDepth 20000 in
set_option maxHeartbeats 2000000 in
theorem sM_ahead_74 (G : JG) (v1 : Int32) (v2 : Int32) (k_57 : Int32 → Int32 → AH → Option (Int64 × AH)) (hk_57 : ∀ (v3 : Int32) (v4 : Int32) (h : AH), Sim G iM_ahead rvLM 57 [(0, .ref (G.ad 32 0)), (1, .int v1), (2, .int v2), (3, .int v3), (4, .int v4)] [] h (k_57 v3 v4 h)) : ∀ (n : Nat) (v3 : Int32) (v4 : Int32) (v5 : Int32) (h : AH), Sim G iM_ahead rvLM 74 [(0, .ref (G.ad 32 0)), (1, .int v1), (2, .int v2), (3, .int v3), (4, .int v4), (5, .int v5)] [] h (jM_ahead_74 v1 v2 k_57 n v3 v4 v5 h) := by
  intro n
  induction n with
  | zero => intro v3 v4 v5 h; exact E_none
  | succ n ih =>
    intro v3 v4 v5 h
    rw [jM_ahead_74]
    refine E_iload dX9_ahead_74 5 rfl ?_
    refine E_aload_n dX9_ahead_76 rfl 0 rfl ?_
    refine E_getF fl_X9_26 dX9_ahead_77 z32 ?_
    refine E_iconst (v := 0) dX9_ahead_80 rfl ?_
    refine E_iald (n := 340) rfl dX9_ahead_81 z37 (fun _ => ?_)
    refine E_icmp_ge (t := 159) dX9_ahead_82 rfl ?_ ?_
    · refine E_iinc (q := 4) (v := (v4 + 1)) (ls' := [(4, .int (v4 + 1)), (0, .ref (G.ad 32 0)), (1, .int v1), (2, .int v2), (3, .int v3), (5, .int v5)]) dX9_ahead_159 rfl rfl (Nat.le_of_ble_eq_true rfl) rfl ?_
      refine E_goto (t := 57) dX9_ahead_162 rfl ?_
      exact E_sub [1, 2, 3, 4, 0] rfl (hk_57 v3 (v4 + 1) h)
    · refine E_iload dX9_ahead_85 4 rfl ?_
      refine E_iconst (v := 1) dX9_ahead_87 rfl ?_
      refine E_iload dX9_ahead_88 5 rfl ?_
      refine E_ishl dX9_ahead_90 ?_
      refine E_iconst (v := (-1)) dX9_ahead_91 rfl ?_
      refine E_ixor dX9_ahead_92 ?_
      refine E_iand dX9_ahead_93 ?_
      refine E_topi (fun y1 => ?_)
      refine E_istore (ls' := [(6, .int y1), (0, .ref (G.ad 32 0)), (1, .int v1), (2, .int v2), (3, .int v3), (4, .int v4), (5, .int v5)]) dX9_ahead_94 (Nat.le_of_ble_eq_true rfl) rfl ?_
      refine E_iload dX9_ahead_96 5 rfl ?_
      refine E_iload dX9_ahead_98 6 rfl ?_
      refine E_cSI (As := [.int v4, .int v5]) (rest := []) (sM_has G h v4 v5) ck_X9_has lk_X9_290 rfl rfl rfl rfl rfl dX9_ahead_100 (fun r2 _ => ?_)
      refine E_if_eq (t := 153) dX9_ahead_103 rfl ?_ ?_
      · refine E_iinc (q := 6) (v := (v5 + 1)) (ls' := [(5, .int (v5 + 1)), (6, .int y1), (0, .ref (G.ad 32 0)), (1, .int v1), (2, .int v2), (3, .int v3), (4, .int v4)]) dX9_ahead_153 rfl rfl (Nat.le_of_ble_eq_true rfl) rfl ?_
        refine E_goto (t := 74) dX9_ahead_156 rfl ?_
        exact E_sub [2, 3, 4, 5, 6, 0] rfl (ih v3 v4 (v5 + 1) h)
      · refine E_aload_n dX9_ahead_106 rfl 1 rfl ?_
        refine E_getF fl_X9_41 dX9_ahead_107 z32 ?_
        refine E_iload dX9_ahead_110 6 rfl ?_
        refine E_iald (n := 12) rfl dX9_ahead_112 z42 (fun _ => ?_)
        refine E_iload dX9_ahead_113 0 rfl ?_
        refine E_iconst (v := (-1)) dX9_ahead_115 rfl ?_
        refine E_ixor dX9_ahead_116 ?_
        refine E_iand dX9_ahead_117 ?_
        refine E_if_ne (t := 153) dX9_ahead_118 rfl ?_ ?_
        · refine E_iinc (q := 6) (v := (v5 + 1)) (ls' := [(5, .int (v5 + 1)), (6, .int y1), (0, .ref (G.ad 32 0)), (1, .int v1), (2, .int v2), (3, .int v3), (4, .int v4)]) dX9_ahead_153 rfl rfl (Nat.le_of_ble_eq_true rfl) rfl ?_
          refine E_goto (t := 74) dX9_ahead_156 rfl ?_
          exact E_sub [2, 3, 4, 5, 6, 0] rfl (ih v3 v4 (v5 + 1) h)
        · refine E_iload dX9_ahead_121 6 rfl ?_
          refine E_iload_n dX9_ahead_123 rfl 3 rfl ?_
          refine E_icmp_ne (t := 136) dX9_ahead_124 rfl ?_ ?_
          · exact E_sub [1, 2, 3, 4, 5, 6, 0] rfl (sM_ahead_136 G v1 v2 (jM_ahead_74 v1 v2 k_57 n) ih v3 v4 v5 y1 h)
          · refine E_iload dX9_ahead_127 0 rfl ?_
            refine E_iload_n dX9_ahead_129 rfl 2 rfl ?_
            refine E_cSI (As := [.int y1, .int v1]) (rest := []) (sM_has G h y1 v1) ck_X9_has lk_X9_290 rfl rfl rfl rfl rfl dX9_ahead_130 (fun r3 _ => ?_)
            refine E_if_eq (t := 153) dX9_ahead_133 rfl ?_ ?_
            · refine E_iinc (q := 6) (v := (v5 + 1)) (ls' := [(5, .int (v5 + 1)), (6, .int y1), (0, .ref (G.ad 32 0)), (1, .int v1), (2, .int v2), (3, .int v3), (4, .int v4)]) dX9_ahead_153 rfl rfl (Nat.le_of_ble_eq_true rfl) rfl ?_
              refine E_goto (t := 74) dX9_ahead_156 rfl ?_
              exact E_sub [2, 3, 4, 5, 6, 0] rfl (ih v3 v4 (v5 + 1) h)
            · exact E_sub [1, 2, 3, 4, 5, 6, 0] rfl (sM_ahead_136 G v1 v2 (jM_ahead_74 v1 v2 k_57 n) ih v3 v4 v5 y1 h)
def jM_ahead_57 (v1 : Int32) (v2 : Int32) : Nat → Int32 → Int32 → AH → Option (Int64 × AH)
  | 0, _, _, _ => none
  | n + 1, v3, v4, h =>
    if v4 ≤ v3 then (if inb v4 4096 = true then (
    jb (uL h 43 0 v4.toNatClampNeg 0) fun h1 =>
    (jM_ahead_74 v1 v2 (jM_ahead_57 v1 v2 n) FU v3 v4 0 h1)) else none)
    else (if inb v3 4096 = true then (
    some ((gL h 43 0 v3.toNatClampNeg), h)) else none)
set_option maxRecDepth 20000 in
set_option maxHeartbeats 2000000 in
theorem sM_ahead_57 (G : JG) (v1 : Int32) (v2 : Int32)  : ∀ (n : Nat) (v3 : Int32) (v4 : Int32) (h : AH), Sim G iM_ahead rvLM 57 [(0, .ref (G.ad 32 0)), (1, .int v1), (2, .int v2), (3, .int v3), (4, .int v4)] [] h (jM_ahead_57 v1 v2 n v3 v4 h) := by
  intro n
  induction n with
  | zero => intro v3 v4 h; exact E_none
  | succ n ih =>
    intro v3 v4 h
    rw [jM_ahead_57]
    refine E_iload dX9_ahead_57 4 rfl ?_
    refine E_iload_n dX9_ahead_59 rfl 3 rfl ?_
    refine E_icmp_gt (t := 165) dX9_ahead_60 rfl ?_ ?_
    · refine E_aload_n dX9_ahead_165 rfl 0 rfl ?_
      refine E_getF fl_X9_44 dX9_ahead_166 z32 ?_
      refine E_iload_n dX9_ahead_169 rfl 3 rfl ?_
      refine E_lald (n := 4096) rfl dX9_ahead_170 z43 (fun _ => ?_)
      exact E_lret rfl rfl dX9_ahead_171
    · refine E_aload_n dX9_ahead_63 rfl 0 rfl ?_
      refine E_getF fl_X9_44 dX9_ahead_64 z32 ?_
      refine E_iload dX9_ahead_67 4 rfl ?_
      refine E_lconst (v := 0) dX9_ahead_69 rfl ?_
      refine E_last (n := 4096) rfl dX9_ahead_70 z43 (fun _ => ?_)
      refine E_hgen (fun h1 => ?_)
      refine E_iconst (v := 0) dX9_ahead_71 rfl ?_
      refine E_istore (ls' := [(5, .int 0), (0, .ref (G.ad 32 0)), (1, .int v1), (2, .int v2), (3, .int v3), (4, .int v4)]) dX9_ahead_72 (Nat.le_of_ble_eq_true rfl) rfl ?_
      exact E_sub [1, 2, 3, 4, 5, 0] rfl (sM_ahead_74 G v1 v2 (jM_ahead_57 v1 v2 n) ih FU v3 v4 0 h1)
def jM_ahead (h : AH) (v1 : Int32) (v2 : Int32) : Option (Int64 × AH) :=
  (jM_good h).bind fun h1 =>
  (jM_isWork h1 v1).bind fun r2 =>
  if r2 = 0 then ((jM_no h1 1).bind fun q3 =>
  some (q3.1.toInt64, q3.2))
  else ((jM_isWork h1 v2).bind fun r4 =>
  if r4 = 0 then ((jM_no h1 1).bind fun q5 =>
  some (q5.1.toInt64, q5.2))
  else (if v1 = v2 then ((jM_no h1 1).bind fun q9 =>
  some (q9.1.toInt64, q9.2))
  else ((jM_laySure h1).bind fun h6 =>
  if inb 0 4096 = true then (
  jb (uL h6 43 0 (0 : Int32).toNatClampNeg 1) fun h7 =>
  if inb 0 340 = true then (
  jb ((((1 : Int32) <<< ((gI h7 37 0 (0 : Int32).toNatClampNeg) &&& 31)) - 1) : Int32) fun y8 =>
  (jM_ahead_57 v1 v2 FU y8 1 h7)) else none) else none)))
set_option maxRecDepth 20000 in
set_option maxHeartbeats 2000000 in
theorem sM_ahead (G : JG) (h : AH) (v1 : Int32) (v2 : Int32) : Mt G iM_ahead rvLM [.ref (G.ad 32 0), .int v1, .int v2] h (jM_ahead h v1 v2) := by
  refine Mt_of (by decide) (Nat.le_of_ble_eq_true rfl) ?_
  unfold jM_ahead
  show Sim G iM_ahead rvLM 0 [(0, .ref (G.ad 32 0)), (1, .int v1), (2, .int v2)] [] h _
  refine E_aload_n dX9_ahead_0 rfl 0 rfl ?_
  refine E_cVV (As := []) (rest := []) (sM_good G h) ck_X9_good lk_X9_155 rfl rfl kc_32 z32 rfl rfl rfl dX9_ahead_1 (fun h1 _ => ?_)
  refine E_aload_n dX9_ahead_4 rfl 0 rfl ?_
  refine E_iload_n dX9_ahead_5 rfl 1 rfl ?_
  refine E_cVI (As := [.int v1]) (rest := []) (sM_isWork G h1 v1) ck_X9_isWork lk_X9_326 rfl rfl kc_32 z32 rfl rfl rfl dX9_ahead_6 (fun r2 _ => ?_)
  refine E_if_eq (t := 25) dX9_ahead_9 rfl ?_ ?_
  · refine E_aload_n dX9_ahead_25 rfl 0 rfl ?_
    refine E_iconst (v := 1) dX9_ahead_26 rfl ?_
    refine E_cVIM (As := [.int 1]) (rest := []) (sM_no G h1 1) ck_X9_no lk_X9_158 rfl rfl kc_32 z32 rfl rfl rfl dX9_ahead_27 (fun q3 _ => ?_)
    refine E_i2l dX9_ahead_30 ?_
    exact E_lret rfl rfl dX9_ahead_31
  · refine E_aload_n dX9_ahead_12 rfl 0 rfl ?_
    refine E_iload_n dX9_ahead_13 rfl 2 rfl ?_
    refine E_cVI (As := [.int v2]) (rest := []) (sM_isWork G h1 v2) ck_X9_isWork lk_X9_326 rfl rfl kc_32 z32 rfl rfl rfl dX9_ahead_14 (fun r4 _ => ?_)
    refine E_if_eq (t := 25) dX9_ahead_17 rfl ?_ ?_
    · refine E_aload_n dX9_ahead_25 rfl 0 rfl ?_
      refine E_iconst (v := 1) dX9_ahead_26 rfl ?_
      refine E_cVIM (As := [.int 1]) (rest := []) (sM_no G h1 1) ck_X9_no lk_X9_158 rfl rfl kc_32 z32 rfl rfl rfl dX9_ahead_27 (fun q5 _ => ?_)
      refine E_i2l dX9_ahead_30 ?_
      exact E_lret rfl rfl dX9_ahead_31
    · refine E_iload_n dX9_ahead_20 rfl 1 rfl ?_
      refine E_iload_n dX9_ahead_21 rfl 2 rfl ?_
      refine E_icmp_ne (t := 32) dX9_ahead_22 rfl ?_ ?_
      · refine E_aload_n dX9_ahead_32 rfl 0 rfl ?_
        refine E_cVV (As := []) (rest := []) (sM_laySure G h1) ck_X9_laySure lk_X9_332 rfl rfl kc_32 z32 rfl rfl rfl dX9_ahead_33 (fun h6 _ => ?_)
        refine E_aload_n dX9_ahead_36 rfl 0 rfl ?_
        refine E_getF fl_X9_44 dX9_ahead_37 z32 ?_
        refine E_iconst (v := 0) dX9_ahead_40 rfl ?_
        refine E_lconst (v := 1) dX9_ahead_41 rfl ?_
        refine E_last (n := 4096) rfl dX9_ahead_42 z43 (fun _ => ?_)
        refine E_hgen (fun h7 => ?_)
        refine E_iconst (v := 1) dX9_ahead_43 rfl ?_
        refine E_aload_n dX9_ahead_44 rfl 0 rfl ?_
        refine E_getF fl_X9_26 dX9_ahead_45 z32 ?_
        refine E_iconst (v := 0) dX9_ahead_48 rfl ?_
        refine E_iald (n := 340) rfl dX9_ahead_49 z37 (fun _ => ?_)
        refine E_ishl dX9_ahead_50 ?_
        refine E_iconst (v := 1) dX9_ahead_51 rfl ?_
        refine E_isub dX9_ahead_52 ?_
        refine E_topi (fun y8 => ?_)
        refine E_istore_n (ls' := [(3, .int y8), (0, .ref (G.ad 32 0)), (1, .int v1), (2, .int v2)]) dX9_ahead_53 rfl (Nat.le_of_ble_eq_true rfl) rfl ?_
        refine E_iconst (v := 1) dX9_ahead_54 rfl ?_
        refine E_istore (ls' := [(4, .int 1), (3, .int y8), (0, .ref (G.ad 32 0)), (1, .int v1), (2, .int v2)]) dX9_ahead_55 (Nat.le_of_ble_eq_true rfl) rfl ?_
        exact E_sub [2, 3, 4, 1, 0] rfl (sM_ahead_57 G v1 v2 FU y8 1 h7)
      · refine E_aload_n dX9_ahead_25 rfl 0 rfl ?_
        refine E_iconst (v := 1) dX9_ahead_26 rfl ?_
        refine E_cVIM (As := [.int 1]) (rest := []) (sM_no G h1 1) ck_X9_no lk_X9_158 rfl rfl kc_32 z32 rfl rfl rfl dX9_ahead_27 (fun q9 _ => ?_)
        refine E_i2l dX9_ahead_30 ?_
        exact E_lret rfl rfl dX9_ahead_31
def iM_wantedAt : MI := (yX9_wantedAt, cX9_wantedAt, 2, (some .int), { frames := 0, cells := 0, slots := 0, locals := 0 }, 1)
theorem ck_X9_wantedAt : CK iM_wantedAt 1 := ⟨⟨wd_113, wd_1721, by decide +kernel⟩, ⟨wd_1720, wd_88⟩⟩
def jM_wantedAt (h : AH) (v1 : Int32) : Option (Int32) :=
  if inb (46 + v1) 161 = true then (
  if (gI h 35 0 (46 + v1).toNatClampNeg) = 0 then (some (-2))
  else (if inb (46 + v1) 161 = true then (
  some ((gI h 35 0 (46 + v1).toNatClampNeg) - 1)) else none)) else none
set_option maxRecDepth 20000 in
set_option maxHeartbeats 2000000 in
theorem sM_wantedAt (G : JG) (h : AH) (v1 : Int32) : Mt G iM_wantedAt (rvI h) [.ref (G.ad 32 0), .int v1] h (jM_wantedAt h v1) := by
  refine Mt_of (by decide) (Nat.le_of_ble_eq_true rfl) ?_
  unfold jM_wantedAt
  show Sim G iM_wantedAt (rvI h) 0 [(0, .ref (G.ad 32 0)), (1, .int v1)] [] h _
  refine E_aload_n dX9_wantedAt_0 rfl 0 rfl ?_
  refine E_getF fl_X9_20 dX9_wantedAt_1 z32 ?_
  refine E_bipush (v := 46) dX9_wantedAt_4 rfl ?_
  refine E_iload_n dX9_wantedAt_6 rfl 1 rfl ?_
  refine E_iadd dX9_wantedAt_7 ?_
  refine E_iald (n := 161) rfl dX9_wantedAt_8 z35 (fun _ => ?_)
  refine E_if_ne (t := 17) dX9_wantedAt_9 rfl ?_ ?_
  · refine E_aload_n dX9_wantedAt_17 rfl 0 rfl ?_
    refine E_getF fl_X9_20 dX9_wantedAt_18 z32 ?_
    refine E_bipush (v := 46) dX9_wantedAt_21 rfl ?_
    refine E_iload_n dX9_wantedAt_23 rfl 1 rfl ?_
    refine E_iadd dX9_wantedAt_24 ?_
    refine E_iald (n := 161) rfl dX9_wantedAt_25 z35 (fun _ => ?_)
    refine E_iconst (v := 1) dX9_wantedAt_26 rfl ?_
    refine E_isub dX9_wantedAt_27 ?_
    exact E_iret rfl rfl dX9_wantedAt_28
  · refine E_bipush (v := (-2)) dX9_wantedAt_12 rfl ?_
    refine E_goto (t := 28) dX9_wantedAt_14 rfl ?_
    exact E_iret rfl rfl dX9_wantedAt_28
def iM_under : MI := (yX9_under, cX9_under, 5, (some .int), { frames := 1, cells := 0, slots := 0, locals := 23 }, 1)
theorem ck_X9_under : CK iM_under 2 := ⟨⟨wd_113, wd_1552, by decide +kernel⟩, ⟨wd_1551, wd_70⟩⟩
def jM_under_12 (h : AH) (v1 : Int32) : Nat → Int32 → Int32 → Option (Int32)
  | 0, _, _ => none
  | n + 1, v3, v4 =>
    if v4 < 0 then (some (-2))
    else ((jM_paintOf h v4 v1).bind fun r1 =>
    if r1 = (-2) then ((jM_under_12 h v1 n v3 (v4 + (-1))))
    else (if v3 = 0 then (some v4)
    else ((jM_under_12 h v1 n (v3 + (-1)) (v4 + (-1))))))
set_option maxRecDepth 20000 in
set_option maxHeartbeats 2000000 in
theorem sM_under_12 (G : JG) (h : AH) (v1 : Int32)  : ∀ (n : Nat) (v3 : Int32) (v4 : Int32), Sim G iM_under (rvI h) 12 [(0, .ref (G.ad 32 0)), (1, .int v1), (3, .int v3), (4, .int v4)] [] h (jM_under_12 h v1 n v3 v4) := by
  intro n
  induction n with
  | zero => intro v3 v4; exact E_none
  | succ n ih =>
    intro v3 v4
    rw [jM_under_12]
    refine E_iload dX9_under_12 3 rfl ?_
    refine E_if_lt (t := 48) dX9_under_14 rfl ?_ ?_
    · refine E_bipush (v := (-2)) dX9_under_48 rfl ?_
      exact E_iret rfl rfl dX9_under_50
    · refine E_aload_n dX9_under_17 rfl 0 rfl ?_
      refine E_iload dX9_under_18 3 rfl ?_
      refine E_iload_n dX9_under_20 rfl 1 rfl ?_
      refine E_cVI (As := [.int v4, .int v1]) (rest := []) (sM_paintOf G h v4 v1) ck_X9_paintOf lk_X9_262 rfl rfl kc_32 z32 rfl rfl rfl dX9_under_21 (fun r1 _ => ?_)
      refine E_bipush (v := (-2)) dX9_under_24 rfl ?_
      refine E_icmp_ne (t := 32) dX9_under_26 rfl ?_ ?_
      · refine E_iload_n dX9_under_32 rfl 2 rfl ?_
        refine E_if_ne (t := 39) dX9_under_33 rfl ?_ ?_
        · refine E_iinc (q := 2) (v := (v3 + (-1))) (ls' := [(3, .int (v3 + (-1))), (0, .ref (G.ad 32 0)), (1, .int v1), (4, .int v4)]) dX9_under_39 rfl rfl (Nat.le_of_ble_eq_true rfl) rfl ?_
          refine E_iinc (q := 3) (v := (v4 + (-1))) (ls' := [(4, .int (v4 + (-1))), (3, .int (v3 + (-1))), (0, .ref (G.ad 32 0)), (1, .int v1)]) dX9_under_42 rfl rfl (Nat.le_of_ble_eq_true rfl) rfl ?_
          refine E_goto (t := 12) dX9_under_45 rfl ?_
          exact E_sub [2, 3, 1, 0] rfl (ih (v3 + (-1)) (v4 + (-1)))
        · refine E_iload dX9_under_36 3 rfl ?_
          exact E_iret rfl rfl dX9_under_38
      · refine E_goto (t := 42) dX9_under_29 rfl ?_
        refine E_iinc (q := 3) (v := (v4 + (-1))) (ls' := [(4, .int (v4 + (-1))), (0, .ref (G.ad 32 0)), (1, .int v1), (3, .int v3)]) dX9_under_42 rfl rfl (Nat.le_of_ble_eq_true rfl) rfl ?_
        refine E_goto (t := 12) dX9_under_45 rfl ?_
        exact E_sub [1, 2, 3, 0] rfl (ih v3 (v4 + (-1)))
def jM_under (h : AH) (v1 : Int32) (v2 : Int32) : Option (Int32) :=
  if inb 0 340 = true then (
  (jM_under_12 h v1 FU v2 ((gI h 37 0 (0 : Int32).toNatClampNeg) - 1))) else none
set_option maxRecDepth 20000 in
set_option maxHeartbeats 2000000 in
theorem sM_under (G : JG) (h : AH) (v1 : Int32) (v2 : Int32) : Mt G iM_under (rvI h) [.ref (G.ad 32 0), .int v1, .int v2] h (jM_under h v1 v2) := by
  refine Mt_of (by decide) (Nat.le_of_ble_eq_true rfl) ?_
  unfold jM_under
  show Sim G iM_under (rvI h) 0 [(0, .ref (G.ad 32 0)), (1, .int v1), (2, .int v2)] [] h _
  refine E_iload_n dX9_under_0 rfl 2 rfl ?_
  refine E_istore_n (ls' := [(3, .int v2), (0, .ref (G.ad 32 0)), (1, .int v1), (2, .int v2)]) dX9_under_1 rfl (Nat.le_of_ble_eq_true rfl) rfl ?_
  refine E_aload_n dX9_under_2 rfl 1 rfl ?_
  refine E_getF fl_X9_26 dX9_under_3 z32 ?_
  refine E_iconst (v := 0) dX9_under_6 rfl ?_
  refine E_iald (n := 340) rfl dX9_under_7 z37 (fun _ => ?_)
  refine E_iconst (v := 1) dX9_under_8 rfl ?_
  refine E_isub dX9_under_9 ?_
  refine E_istore (ls' := [(4, .int ((gI h 37 0 (0 : Int32).toNatClampNeg) - 1)), (3, .int v2), (0, .ref (G.ad 32 0)), (1, .int v1), (2, .int v2)]) dX9_under_10 (Nat.le_of_ble_eq_true rfl) rfl ?_
  exact E_sub [2, 3, 1, 0] rfl (sM_under_12 G h v1 FU v2 ((gI h 37 0 (0 : Int32).toNatClampNeg) - 1))
def iM_shown : MI := (yX9_shown, cX9_shown, 3, (some .int), { frames := 2, cells := 0, slots := 0, locals := 47 }, 1)
theorem ck_X9_shown : CK iM_shown 1 := ⟨⟨wd_113, wd_1548, by decide +kernel⟩, ⟨wd_1547, wd_69⟩⟩
def jM_shown (h : AH) (v1 : Int32) : Option (Int32) :=
  (jM_under h v1 0).bind fun r1 =>
  if r1 = (-2) then (some (-2))
  else ((jM_paintOf h r1 v1).bind fun r2 =>
  some r2)
set_option maxRecDepth 20000 in
set_option maxHeartbeats 2000000 in
theorem sM_shown (G : JG) (h : AH) (v1 : Int32) : Mt G iM_shown (rvI h) [.ref (G.ad 32 0), .int v1] h (jM_shown h v1) := by
  refine Mt_of (by decide) (Nat.le_of_ble_eq_true rfl) ?_
  unfold jM_shown
  show Sim G iM_shown (rvI h) 0 [(0, .ref (G.ad 32 0)), (1, .int v1)] [] h _
  refine E_aload_n dX9_shown_0 rfl 0 rfl ?_
  refine E_iload_n dX9_shown_1 rfl 1 rfl ?_
  refine E_iconst (v := 0) dX9_shown_2 rfl ?_
  refine E_cVI (As := [.int v1, .int 0]) (rest := []) (sM_under G h v1 0) ck_X9_under lk_X9_265 rfl rfl kc_32 z32 rfl rfl rfl dX9_shown_3 (fun r1 _ => ?_)
  refine E_istore_n (ls' := [(2, .int r1), (0, .ref (G.ad 32 0)), (1, .int v1)]) dX9_shown_6 rfl (Nat.le_of_ble_eq_true rfl) rfl ?_
  refine E_iload_n dX9_shown_7 rfl 0 rfl ?_
  refine E_bipush (v := (-2)) dX9_shown_8 rfl ?_
  refine E_icmp_ne (t := 18) dX9_shown_10 rfl ?_ ?_
  · refine E_aload_n dX9_shown_18 rfl 1 rfl ?_
    refine E_iload_n dX9_shown_19 rfl 0 rfl ?_
    refine E_iload_n dX9_shown_20 rfl 2 rfl ?_
    refine E_cVI (As := [.int r1, .int v1]) (rest := []) (sM_paintOf G h r1 v1) ck_X9_paintOf lk_X9_262 rfl rfl kc_32 z32 rfl rfl rfl dX9_shown_21 (fun r2 _ => ?_)
    exact E_iret rfl rfl dX9_shown_24
  · refine E_bipush (v := (-2)) dX9_shown_13 rfl ?_
    refine E_goto (t := 24) dX9_shown_15 rfl ?_
    exact E_iret rfl rfl dX9_shown_24
def iM_isAlike : MI := (yX9_isAlike, cX9_isAlike, 2, (some .boolean), { frames := 3, cells := 0, slots := 0, locals := 69 }, 1)
theorem ck_X9_isAlike : CK iM_isAlike 1 := ⟨⟨wd_113, wd_1733, by decide +kernel⟩, ⟨wd_1732, wd_90⟩⟩
def jM_isAlike (h : AH) (v1 : Int32) : Option (Int32) :=
  (jM_wantedAt h v1).bind fun r1 =>
  if r1 = (-2) then (some 0)
  else ((jM_shown h v1).bind fun r2 =>
  (jM_wantedAt h v1).bind fun r3 =>
  if r2 = r3 then (some 1)
  else (some 0))
set_option maxRecDepth 20000 in
set_option maxHeartbeats 2000000 in
theorem sM_isAlike (G : JG) (h : AH) (v1 : Int32) : Mt G iM_isAlike (rvI h) [.ref (G.ad 32 0), .int v1] h (jM_isAlike h v1) := by
  refine Mt_of (by decide) (Nat.le_of_ble_eq_true rfl) ?_
  unfold jM_isAlike
  show Sim G iM_isAlike (rvI h) 0 [(0, .ref (G.ad 32 0)), (1, .int v1)] [] h _
  refine E_aload_n dX9_isAlike_0 rfl 0 rfl ?_
  refine E_iload_n dX9_isAlike_1 rfl 1 rfl ?_
  refine E_cVI (As := [.int v1]) (rest := []) (sM_wantedAt G h v1) ck_X9_wantedAt lk_X9_335 rfl rfl kc_32 z32 rfl rfl rfl dX9_isAlike_2 (fun r1 _ => ?_)
  refine E_bipush (v := (-2)) dX9_isAlike_5 rfl ?_
  refine E_icmp_eq (t := 27) dX9_isAlike_7 rfl ?_ ?_
  · refine E_iconst (v := 0) dX9_isAlike_27 rfl ?_
    exact E_zret rfl rfl rfl dX9_isAlike_28
  · refine E_aload_n dX9_isAlike_10 rfl 0 rfl ?_
    refine E_iload_n dX9_isAlike_11 rfl 1 rfl ?_
    refine E_cVI (As := [.int v1]) (rest := []) (sM_shown G h v1) ck_X9_shown lk_X9_275 rfl rfl kc_32 z32 rfl rfl rfl dX9_isAlike_12 (fun r2 _ => ?_)
    refine E_aload_n dX9_isAlike_15 rfl 0 rfl ?_
    refine E_iload_n dX9_isAlike_16 rfl 1 rfl ?_
    refine E_cVI (As := [.int v1]) (rest := [.int r2]) (sM_wantedAt G h v1) ck_X9_wantedAt lk_X9_335 rfl rfl kc_32 z32 rfl rfl rfl dX9_isAlike_17 (fun r3 _ => ?_)
    refine E_icmp_ne (t := 27) dX9_isAlike_20 rfl ?_ ?_
    · refine E_iconst (v := 0) dX9_isAlike_27 rfl ?_
      exact E_zret rfl rfl rfl dX9_isAlike_28
    · refine E_iconst (v := 1) dX9_isAlike_23 rfl ?_
      refine E_goto (t := 28) dX9_isAlike_24 rfl ?_
      exact E_zret rfl rfl rfl dX9_isAlike_28
def iM_alikeCells : MI := (yX9_alikeCells, cX9_alikeCells, 3, (some .int), { frames := 4, cells := 0, slots := 0, locals := 90 }, 1)
theorem ck_X9_alikeCells : CK iM_alikeCells 0 := ⟨⟨wd_113, wd_1729, by decide +kernel⟩, ⟨wd_1728, wd_89⟩⟩
def jM_alikeCells_4 (h : AH) : Nat → Int32 → Int32 → Option (Int32)
  | 0, _, _ => none
  | n + 1, v1, v2 =>
    (jM_cellMany h).bind fun r1 =>
    if v2 < r1 then ((jM_isAlike h v2).bind fun r2 =>
    if r2 = 0 then ((jM_alikeCells_4 h n (v1 ||| 0) (v2 + 1)))
    else ((jM_alikeCells_4 h n (v1 ||| ((1 : Int32) <<< (v2 &&& 31))) (v2 + 1))))
    else (some v1)
set_option maxRecDepth 20000 in
set_option maxHeartbeats 2000000 in
theorem sM_alikeCells_4 (G : JG) (h : AH)   : ∀ (n : Nat) (v1 : Int32) (v2 : Int32), Sim G iM_alikeCells (rvI h) 4 [(0, .ref (G.ad 32 0)), (1, .int v1), (2, .int v2)] [] h (jM_alikeCells_4 h n v1 v2) := by
  intro n
  induction n with
  | zero => intro v1 v2; exact E_none
  | succ n ih =>
    intro v1 v2
    rw [jM_alikeCells_4]
    refine E_iload_n dX9_alikeCells_4 rfl 2 rfl ?_
    refine E_aload_n dX9_alikeCells_5 rfl 0 rfl ?_
    refine E_cVI (As := []) (rest := [.int v2]) (sM_cellMany G h) ck_X9_cellMany lk_X9_287 rfl rfl kc_32 z32 rfl rfl rfl dX9_alikeCells_6 (fun r1 _ => ?_)
    refine E_icmp_ge (t := 36) dX9_alikeCells_9 rfl ?_ ?_
    · refine E_iload_n dX9_alikeCells_36 rfl 1 rfl ?_
      exact E_iret rfl rfl dX9_alikeCells_37
    · refine E_iload_n dX9_alikeCells_12 rfl 1 rfl ?_
      refine E_aload_n dX9_alikeCells_13 rfl 0 rfl ?_
      refine E_iload_n dX9_alikeCells_14 rfl 2 rfl ?_
      refine E_cVI (As := [.int v2]) (rest := [.int v1]) (sM_isAlike G h v2) ck_X9_isAlike lk_X9_338 rfl rfl kc_32 z32 rfl rfl rfl dX9_alikeCells_15 (fun r2 _ => ?_)
      refine E_if_eq (t := 27) dX9_alikeCells_18 rfl ?_ ?_
      · refine E_iconst (v := 0) dX9_alikeCells_27 rfl ?_
        refine E_ior dX9_alikeCells_28 ?_
        refine E_istore_n (ls' := [(1, .int (v1 ||| 0)), (0, .ref (G.ad 32 0)), (2, .int v2)]) dX9_alikeCells_29 rfl (Nat.le_of_ble_eq_true rfl) rfl ?_
        refine E_iinc (q := 2) (v := (v2 + 1)) (ls' := [(2, .int (v2 + 1)), (1, .int (v1 ||| 0)), (0, .ref (G.ad 32 0))]) dX9_alikeCells_30 rfl rfl (Nat.le_of_ble_eq_true rfl) rfl ?_
        refine E_goto (t := 4) dX9_alikeCells_33 rfl ?_
        exact E_sub [2, 1, 0] rfl (ih (v1 ||| 0) (v2 + 1))
      · refine E_iconst (v := 1) dX9_alikeCells_21 rfl ?_
        refine E_iload_n dX9_alikeCells_22 rfl 2 rfl ?_
        refine E_ishl dX9_alikeCells_23 ?_
        refine E_goto (t := 28) dX9_alikeCells_24 rfl ?_
        refine E_ior dX9_alikeCells_28 ?_
        refine E_istore_n (ls' := [(1, .int (v1 ||| ((1 : Int32) <<< (v2 &&& 31)))), (0, .ref (G.ad 32 0)), (2, .int v2)]) dX9_alikeCells_29 rfl (Nat.le_of_ble_eq_true rfl) rfl ?_
        refine E_iinc (q := 2) (v := (v2 + 1)) (ls' := [(2, .int (v2 + 1)), (1, .int (v1 ||| ((1 : Int32) <<< (v2 &&& 31)))), (0, .ref (G.ad 32 0))]) dX9_alikeCells_30 rfl rfl (Nat.le_of_ble_eq_true rfl) rfl ?_
        refine E_goto (t := 4) dX9_alikeCells_33 rfl ?_
        exact E_sub [2, 1, 0] rfl (ih (v1 ||| ((1 : Int32) <<< (v2 &&& 31))) (v2 + 1))
def jM_alikeCells (h : AH)  : Option (Int32) :=
  (jM_alikeCells_4 h FU 0 0)
set_option maxRecDepth 20000 in
set_option maxHeartbeats 2000000 in
theorem sM_alikeCells (G : JG) (h : AH)  : Mt G iM_alikeCells (rvI h) [.ref (G.ad 32 0)] h (jM_alikeCells h) := by
  refine Mt_of (by decide) (Nat.le_of_ble_eq_true rfl) ?_
  unfold jM_alikeCells
  show Sim G iM_alikeCells (rvI h) 0 [(0, .ref (G.ad 32 0))] [] h _
  refine E_iconst (v := 0) dX9_alikeCells_0 rfl ?_
  refine E_istore_n (ls' := [(1, .int 0), (0, .ref (G.ad 32 0))]) dX9_alikeCells_1 rfl (Nat.le_of_ble_eq_true rfl) rfl ?_
  refine E_iconst (v := 0) dX9_alikeCells_2 rfl ?_
  refine E_istore_n (ls' := [(2, .int 0), (1, .int 0), (0, .ref (G.ad 32 0))]) dX9_alikeCells_3 rfl (Nat.le_of_ble_eq_true rfl) rfl ?_
  exact E_sub [2, 1, 0] rfl (sM_alikeCells_4 G h FU 0 0)
def iM_bits : MI := (yX9_bits, cX9_bits, 3, (some .int), { frames := 0, cells := 0, slots := 0, locals := 0 }, 1)
theorem ck_X9_bits : CS iM_bits 1 := ⟨⟨wd_113, wd_1627, by decide +kernel⟩, wd_1626⟩
def jM_bits_4 (v0 : Int32) : Nat → Int32 → Int32 → Option (Int32)
  | 0, _, _ => none
  | n + 1, v1, v2 =>
    if v2 < 24 then ((jM_bits_4 v0 n (v1 + ((v0 >>> (v2 &&& 31)) &&& 1)) (v2 + 1)))
    else (some v1)
set_option maxRecDepth 20000 in
set_option maxHeartbeats 2000000 in
theorem sM_bits_4 (G : JG) (h : AH) (v0 : Int32)  : ∀ (n : Nat) (v1 : Int32) (v2 : Int32), Sim G iM_bits (rvI h) 4 [(0, .int v0), (1, .int v1), (2, .int v2)] [] h (jM_bits_4 v0 n v1 v2) := by
  intro n
  induction n with
  | zero => intro v1 v2; exact E_none
  | succ n ih =>
    intro v1 v2
    rw [jM_bits_4]
    refine E_iload_n dX9_bits_4 rfl 2 rfl ?_
    refine E_bipush (v := 24) dX9_bits_5 rfl ?_
    refine E_icmp_ge (t := 24) dX9_bits_7 rfl ?_ ?_
    · refine E_iload_n dX9_bits_24 rfl 1 rfl ?_
      exact E_iret rfl rfl dX9_bits_25
    · refine E_iload_n dX9_bits_10 rfl 1 rfl ?_
      refine E_iload_n dX9_bits_11 rfl 0 rfl ?_
      refine E_iload_n dX9_bits_12 rfl 2 rfl ?_
      refine E_ishr dX9_bits_13 ?_
      refine E_iconst (v := 1) dX9_bits_14 rfl ?_
      refine E_iand dX9_bits_15 ?_
      refine E_iadd dX9_bits_16 ?_
      refine E_istore_n (ls' := [(1, .int (v1 + ((v0 >>> (v2 &&& 31)) &&& 1))), (0, .int v0), (2, .int v2)]) dX9_bits_17 rfl (Nat.le_of_ble_eq_true rfl) rfl ?_
      refine E_iinc (q := 2) (v := (v2 + 1)) (ls' := [(2, .int (v2 + 1)), (1, .int (v1 + ((v0 >>> (v2 &&& 31)) &&& 1))), (0, .int v0)]) dX9_bits_18 rfl rfl (Nat.le_of_ble_eq_true rfl) rfl ?_
      refine E_goto (t := 4) dX9_bits_21 rfl ?_
      exact E_sub [2, 1, 0] rfl (ih (v1 + ((v0 >>> (v2 &&& 31)) &&& 1)) (v2 + 1))
def jM_bits (v0 : Int32) : Option (Int32) :=
  (jM_bits_4 v0 FU 0 0)
set_option maxRecDepth 20000 in
set_option maxHeartbeats 2000000 in
theorem sM_bits (G : JG) (h : AH) (v0 : Int32) : Mt G iM_bits (rvI h) [.int v0] h (jM_bits v0) := by
  refine Mt_of (by decide) (Nat.le_of_ble_eq_true rfl) ?_
  unfold jM_bits
  show Sim G iM_bits (rvI h) 0 [(0, .int v0)] [] h _
  refine E_iconst (v := 0) dX9_bits_0 rfl ?_
  refine E_istore_n (ls' := [(1, .int 0), (0, .int v0)]) dX9_bits_1 rfl (Nat.le_of_ble_eq_true rfl) rfl ?_
  refine E_iconst (v := 0) dX9_bits_2 rfl ?_
  refine E_istore_n (ls' := [(2, .int 0), (1, .int 0), (0, .int v0)]) dX9_bits_3 rfl (Nat.le_of_ble_eq_true rfl) rfl ?_
  exact E_sub [2, 1, 0] rfl (sM_bits_4 G h v0 FU 0 0)
def iM_alike : MI := (yX9_alike, cX9_alike, 1, (some .int), { frames := 5, cells := 0, slots := 0, locals := 112 }, 1)
theorem ck_X9_alike : CK iM_alike 0 := ⟨⟨wd_113, wd_1725, by decide +kernel⟩, ⟨wd_1723, wd_1724⟩⟩
def jM_alike (h : AH)  : Option (Int32 × AH) :=
  (jM_good h).bind fun h1 =>
  if (gI h1 32 0 14) = 0 then ((jM_no h1 1).bind fun q2 =>
  some (q2.1, q2.2))
  else ((jM_alikeCells h1).bind fun r3 =>
  (jM_bits r3).bind fun r4 =>
  some (r4, h1))
set_option maxRecDepth 20000 in
set_option maxHeartbeats 2000000 in
theorem sM_alike (G : JG) (h : AH)  : Mt G iM_alike rvIM [.ref (G.ad 32 0)] h (jM_alike h) := by
  refine Mt_of (by decide) (Nat.le_of_ble_eq_true rfl) ?_
  unfold jM_alike
  show Sim G iM_alike rvIM 0 [(0, .ref (G.ad 32 0))] [] h _
  refine E_aload_n dX9_alike_0 rfl 0 rfl ?_
  refine E_cVV (As := []) (rest := []) (sM_good G h) ck_X9_good lk_X9_155 rfl rfl kc_32 z32 rfl rfl rfl dX9_alike_1 (fun h1 _ => ?_)
  refine E_aload_n dX9_alike_4 rfl 0 rfl ?_
  refine E_getI fl_X9_168 dX9_alike_5 z32 ?_
  refine E_if_eq (t := 21) dX9_alike_8 rfl ?_ ?_
  · refine E_aload_n dX9_alike_21 rfl 0 rfl ?_
    refine E_iconst (v := 1) dX9_alike_22 rfl ?_
    refine E_cVIM (As := [.int 1]) (rest := []) (sM_no G h1 1) ck_X9_no lk_X9_158 rfl rfl kc_32 z32 rfl rfl rfl dX9_alike_23 (fun q2 _ => ?_)
    exact E_iret rfl rfl dX9_alike_26
  · refine E_aload_n dX9_alike_11 rfl 0 rfl ?_
    refine E_cVI (As := []) (rest := []) (sM_alikeCells G h1) ck_X9_alikeCells lk_X9_341 rfl rfl kc_32 z32 rfl rfl rfl dX9_alike_12 (fun r3 _ => ?_)
    refine E_cSI (As := [.int r3]) (rest := []) (sM_bits G h1 r3) ck_X9_bits lk_X9_302 rfl rfl rfl rfl rfl dX9_alike_15 (fun r4 _ => ?_)
    refine E_goto (t := 26) dX9_alike_18 rfl ?_
    exact E_iret rfl rfl dX9_alike_26
def iM_allCells : MI := (yX9_allCells, cX9_allCells, 1, (some .int), { frames := 1, cells := 0, slots := 0, locals := 20 }, 1)
theorem ck_X9_allCells : CK iM_allCells 0 := ⟨⟨wd_113, wd_1631, by decide +kernel⟩, ⟨wd_1630, wd_78⟩⟩
def jM_allCells (h : AH)  : Option (Int32) :=
  (jM_cellMany h).bind fun r1 =>
  some (((1 : Int32) <<< (r1 &&& 31)) - 1)
set_option maxRecDepth 20000 in
set_option maxHeartbeats 2000000 in
theorem sM_allCells (G : JG) (h : AH)  : Mt G iM_allCells (rvI h) [.ref (G.ad 32 0)] h (jM_allCells h) := by
  refine Mt_of (by decide) (Nat.le_of_ble_eq_true rfl) ?_
  unfold jM_allCells
  show Sim G iM_allCells (rvI h) 0 [(0, .ref (G.ad 32 0))] [] h _
  refine E_iconst (v := 1) dX9_allCells_0 rfl ?_
  refine E_aload_n dX9_allCells_1 rfl 0 rfl ?_
  refine E_cVI (As := []) (rest := [.int 1]) (sM_cellMany G h) ck_X9_cellMany lk_X9_287 rfl rfl kc_32 z32 rfl rfl rfl dX9_allCells_2 (fun r1 _ => ?_)
  refine E_ishl dX9_allCells_5 ?_
  refine E_iconst (v := 1) dX9_allCells_6 rfl ?_
  refine E_isub dX9_allCells_7 ?_
  exact E_iret rfl rfl dX9_allCells_8
def iM_area : MI := (yX9_area, cX9_area, 4, (some .int), { frames := 3, cells := 0, slots := 0, locals := 69 }, 1)
theorem ck_X9_area : CK iM_area 1 := ⟨⟨wd_113, wd_1596, by decide +kernel⟩, ⟨wd_1594, wd_1595⟩⟩
def jM_area_37 (v1 : Int32) : Nat → Int32 → Int32 → AH → Option (Int32 × AH)
  | 0, _, _, _ => none
  | n + 1, v2, v3, h =>
    (jM_cellMany h).bind fun r1 =>
    if v3 < r1 then ((jM_shown h v3).bind fun r2 =>
    if r2 = v1 then ((jM_area_37 v1 n (v2 + 1) (v3 + 1) h))
    else ((jM_area_37 v1 n (v2 + 0) (v3 + 1) h)))
    else (some (v2, h))
set_option maxRecDepth 20000 in
set_option maxHeartbeats 2000000 in
theorem sM_area_37 (G : JG) (v1 : Int32)  : ∀ (n : Nat) (v2 : Int32) (v3 : Int32) (h : AH), Sim G iM_area rvIM 37 [(0, .ref (G.ad 32 0)), (1, .int v1), (2, .int v2), (3, .int v3)] [] h (jM_area_37 v1 n v2 v3 h) := by
  intro n
  induction n with
  | zero => intro v2 v3 h; exact E_none
  | succ n ih =>
    intro v2 v3 h
    rw [jM_area_37]
    refine E_iload_n dX9_area_37 rfl 3 rfl ?_
    refine E_aload_n dX9_area_38 rfl 0 rfl ?_
    refine E_cVI (As := []) (rest := [.int v3]) (sM_cellMany G h) ck_X9_cellMany lk_X9_287 rfl rfl kc_32 z32 rfl rfl rfl dX9_area_39 (fun r1 _ => ?_)
    refine E_icmp_ge (t := 68) dX9_area_42 rfl ?_ ?_
    · refine E_iload_n dX9_area_68 rfl 2 rfl ?_
      exact E_iret rfl rfl dX9_area_69
    · refine E_iload_n dX9_area_45 rfl 2 rfl ?_
      refine E_aload_n dX9_area_46 rfl 0 rfl ?_
      refine E_iload_n dX9_area_47 rfl 3 rfl ?_
      refine E_cVI (As := [.int v3]) (rest := [.int v2]) (sM_shown G h v3) ck_X9_shown lk_X9_275 rfl rfl kc_32 z32 rfl rfl rfl dX9_area_48 (fun r2 _ => ?_)
      refine E_iload_n dX9_area_51 rfl 1 rfl ?_
      refine E_icmp_ne (t := 59) dX9_area_52 rfl ?_ ?_
      · refine E_iconst (v := 0) dX9_area_59 rfl ?_
        refine E_iadd dX9_area_60 ?_
        refine E_istore_n (ls' := [(2, .int (v2 + 0)), (0, .ref (G.ad 32 0)), (1, .int v1), (3, .int v3)]) dX9_area_61 rfl (Nat.le_of_ble_eq_true rfl) rfl ?_
        refine E_iinc (q := 3) (v := (v3 + 1)) (ls' := [(3, .int (v3 + 1)), (2, .int (v2 + 0)), (0, .ref (G.ad 32 0)), (1, .int v1)]) dX9_area_62 rfl rfl (Nat.le_of_ble_eq_true rfl) rfl ?_
        refine E_goto (t := 37) dX9_area_65 rfl ?_
        exact E_sub [2, 3, 1, 0] rfl (ih (v2 + 0) (v3 + 1) h)
      · refine E_iconst (v := 1) dX9_area_55 rfl ?_
        refine E_goto (t := 60) dX9_area_56 rfl ?_
        refine E_iadd dX9_area_60 ?_
        refine E_istore_n (ls' := [(2, .int (v2 + 1)), (0, .ref (G.ad 32 0)), (1, .int v1), (3, .int v3)]) dX9_area_61 rfl (Nat.le_of_ble_eq_true rfl) rfl ?_
        refine E_iinc (q := 3) (v := (v3 + 1)) (ls' := [(3, .int (v3 + 1)), (2, .int (v2 + 1)), (0, .ref (G.ad 32 0)), (1, .int v1)]) dX9_area_62 rfl rfl (Nat.le_of_ble_eq_true rfl) rfl ?_
        refine E_goto (t := 37) dX9_area_65 rfl ?_
        exact E_sub [2, 3, 1, 0] rfl (ih (v2 + 1) (v3 + 1) h)
def jM_area (h : AH) (v1 : Int32) : Option (Int32 × AH) :=
  (jM_good h).bind fun h1 =>
  if (gI h1 32 0 14) = 0 then ((jM_no h1 1).bind fun q2 =>
  some (q2.1, q2.2))
  else (if inb 4 161 = true then (
  (jM_within v1 0 ((gI h1 35 0 (4 : Int32).toNatClampNeg) - 1)).bind fun r3 =>
  if r3 = 0 then ((jM_no h1 1).bind fun q4 =>
  some (q4.1, q4.2))
  else ((jM_area_37 v1 FU 0 0 h1))) else none)
set_option maxRecDepth 20000 in
set_option maxHeartbeats 2000000 in
theorem sM_area (G : JG) (h : AH) (v1 : Int32) : Mt G iM_area rvIM [.ref (G.ad 32 0), .int v1] h (jM_area h v1) := by
  refine Mt_of (by decide) (Nat.le_of_ble_eq_true rfl) ?_
  unfold jM_area
  show Sim G iM_area rvIM 0 [(0, .ref (G.ad 32 0)), (1, .int v1)] [] h _
  refine E_aload_n dX9_area_0 rfl 0 rfl ?_
  refine E_cVV (As := []) (rest := []) (sM_good G h) ck_X9_good lk_X9_155 rfl rfl kc_32 z32 rfl rfl rfl dX9_area_1 (fun h1 _ => ?_)
  refine E_aload_n dX9_area_4 rfl 0 rfl ?_
  refine E_getI fl_X9_168 dX9_area_5 z32 ?_
  refine E_if_eq (t := 27) dX9_area_8 rfl ?_ ?_
  · refine E_aload_n dX9_area_27 rfl 0 rfl ?_
    refine E_iconst (v := 1) dX9_area_28 rfl ?_
    refine E_cVIM (As := [.int 1]) (rest := []) (sM_no G h1 1) ck_X9_no lk_X9_158 rfl rfl kc_32 z32 rfl rfl rfl dX9_area_29 (fun q2 _ => ?_)
    exact E_iret rfl rfl dX9_area_32
  · refine E_iload_n dX9_area_11 rfl 1 rfl ?_
    refine E_iconst (v := 0) dX9_area_12 rfl ?_
    refine E_aload_n dX9_area_13 rfl 0 rfl ?_
    refine E_getF fl_X9_20 dX9_area_14 z32 ?_
    refine E_iconst (v := 4) dX9_area_17 rfl ?_
    refine E_iald (n := 161) rfl dX9_area_18 z35 (fun _ => ?_)
    refine E_iconst (v := 1) dX9_area_19 rfl ?_
    refine E_isub dX9_area_20 ?_
    refine E_cSI (As := [.int v1, .int 0, .int ((gI h1 35 0 (4 : Int32).toNatClampNeg) - 1)]) (rest := []) (sM_within G h1 v1 0 ((gI h1 35 0 (4 : Int32).toNatClampNeg) - 1)) ck_X9_within lk_X9_139 rfl rfl rfl rfl rfl dX9_area_21 (fun r3 _ => ?_)
    refine E_if_ne (t := 33) dX9_area_24 rfl ?_ ?_
    · refine E_iconst (v := 0) dX9_area_33 rfl ?_
      refine E_istore_n (ls' := [(2, .int 0), (0, .ref (G.ad 32 0)), (1, .int v1)]) dX9_area_34 rfl (Nat.le_of_ble_eq_true rfl) rfl ?_
      refine E_iconst (v := 0) dX9_area_35 rfl ?_
      refine E_istore_n (ls' := [(3, .int 0), (2, .int 0), (0, .ref (G.ad 32 0)), (1, .int v1)]) dX9_area_36 rfl (Nat.le_of_ble_eq_true rfl) rfl ?_
      exact E_sub [2, 3, 1, 0] rfl (sM_area_37 G v1 FU 0 0 h1)
    · refine E_aload_n dX9_area_27 rfl 0 rfl ?_
      refine E_iconst (v := 1) dX9_area_28 rfl ?_
      refine E_cVIM (As := [.int 1]) (rest := []) (sM_no G h1 1) ck_X9_no lk_X9_158 rfl rfl kc_32 z32 rfl rfl rfl dX9_area_29 (fun q4 _ => ?_)
      exact E_iret rfl rfl dX9_area_32
def iM_isNot : MI := (yX9_isNot, cX9_isNot, 2, (some .boolean), { frames := 0, cells := 0, slots := 0, locals := 0 }, 1)
theorem ck_X9_isNot : CK iM_isNot 1 := ⟨⟨wd_113, wd_1805, by decide +kernel⟩, ⟨wd_1804, wd_101⟩⟩
def jM_isNot (h : AH) (v1 : Int32) : Option (Int32 × AH) :=
  jb (uI h 32 0 11 v1) fun h1 =>
  some (0, h1)
set_option maxRecDepth 20000 in
set_option maxHeartbeats 2000000 in
theorem sM_isNot (G : JG) (h : AH) (v1 : Int32) : Mt G iM_isNot rvIM [.ref (G.ad 32 0), .int v1] h (jM_isNot h v1) := by
  refine Mt_of (by decide) (Nat.le_of_ble_eq_true rfl) ?_
  unfold jM_isNot
  show Sim G iM_isNot rvIM 0 [(0, .ref (G.ad 32 0)), (1, .int v1)] [] h _
  refine E_aload_n dX9_isNot_0 rfl 0 rfl ?_
  refine E_iload_n dX9_isNot_1 rfl 1 rfl ?_
  refine E_putI fs_X9_58 dX9_isNot_2 z32 ?_
  refine E_hgen (fun h1 => ?_)
  refine E_iconst (v := 0) dX9_isNot_5 rfl ?_
  exact E_zret rfl rfl rfl dX9_isNot_6
def iM_copy : MI := (yX9_copy, cX9_copy, 6, none, { frames := 0, cells := 0, slots := 0, locals := 0 }, 1)
theorem ck_X9_copy : CS iM_copy 5 := ⟨⟨wd_113, wd_1524, by decide +kernel⟩, wd_1523⟩
def jM_copy_3 (k1 : Nat) (v1 : Int32) (k2 : Nat) (v3 : Int32) (v4 : Int32) : Nat → Int32 → AH → Option (AH)
  | 0, _, _ => none
  | n + 1, v5, h =>
    if v5 < v4 then (if inb (v1 + v5) (asz k1) = true then (
    if inb (v3 + v5) (asz k2) = true then (
    jb (uI h k2 0 (v3 + v5).toNatClampNeg (gI h k1 0 (v1 + v5).toNatClampNeg)) fun h1 =>
    (jM_copy_3 k1 v1 k2 v3 v4 n (v5 + 1) h1)) else none) else none)
    else (some h)
set_option maxRecDepth 20000 in
set_option maxHeartbeats 2000000 in
theorem sM_copy_3 (G : JG) (k1 : Nat) (hak1 : AK k1 = some (0, asz k1)) (hzk1 : 0 < nIn 1 k1) (v1 : Int32) (k2 : Nat) (hak2 : AK k2 = some (0, asz k2)) (hzk2 : 0 < nIn 1 k2) (v3 : Int32) (v4 : Int32)  : ∀ (n : Nat) (v5 : Int32) (h : AH), Sim G iM_copy rvV 3 [(0, .ref (G.ad k1 0)), (1, .int v1), (2, .ref (G.ad k2 0)), (3, .int v3), (4, .int v4), (5, .int v5)] [] h (jM_copy_3 k1 v1 k2 v3 v4 n v5 h) := by
  intro n
  induction n with
  | zero => intro v5 h; exact E_none
  | succ n ih =>
    intro v5 h
    rw [jM_copy_3]
    refine E_iload dX9_copy_3 5 rfl ?_
    refine E_iload dX9_copy_5 4 rfl ?_
    refine E_icmp_ge (t := 28) dX9_copy_7 rfl ?_ ?_
    · exact E_vret rfl rfl dX9_copy_28
    · refine E_aload_n dX9_copy_10 rfl 2 rfl ?_
      refine E_iload_n dX9_copy_11 rfl 3 rfl ?_
      refine E_iload dX9_copy_12 5 rfl ?_
      refine E_iadd dX9_copy_14 ?_
      refine E_aload_n dX9_copy_15 rfl 0 rfl ?_
      refine E_iload_n dX9_copy_16 rfl 1 rfl ?_
      refine E_iload dX9_copy_17 5 rfl ?_
      refine E_iadd dX9_copy_19 ?_
      refine E_iald (n := (asz k1)) hak1 dX9_copy_20 hzk1 (fun _ => ?_)
      refine E_iast (n := (asz k2)) hak2 dX9_copy_21 hzk2 (fun _ => ?_)
      refine E_hgen (fun h1 => ?_)
      refine E_iinc (q := 5) (v := (v5 + 1)) (ls' := [(5, .int (v5 + 1)), (0, .ref (G.ad k1 0)), (1, .int v1), (2, .ref (G.ad k2 0)), (3, .int v3), (4, .int v4)]) dX9_copy_22 rfl rfl (Nat.le_of_ble_eq_true rfl) rfl ?_
      refine E_goto (t := 3) dX9_copy_25 rfl ?_
      exact E_sub [1, 2, 3, 4, 5, 0] rfl (ih (v5 + 1) h1)
def jM_copy (h : AH) (k1 : Nat) (v1 : Int32) (k2 : Nat) (v3 : Int32) (v4 : Int32) : Option (AH) :=
  (jM_copy_3 k1 v1 k2 v3 v4 FU 0 h)
set_option maxRecDepth 20000 in
set_option maxHeartbeats 2000000 in
theorem sM_copy (G : JG) (h : AH) (k1 : Nat) (hak1 : AK k1 = some (0, asz k1)) (hzk1 : 0 < nIn 1 k1) (v1 : Int32) (k2 : Nat) (hak2 : AK k2 = some (0, asz k2)) (hzk2 : 0 < nIn 1 k2) (v3 : Int32) (v4 : Int32) : Mt G iM_copy rvV [.ref (G.ad k1 0), .int v1, .ref (G.ad k2 0), .int v3, .int v4] h (jM_copy h k1 v1 k2 v3 v4) := by
  refine Mt_of (by decide) (Nat.le_of_ble_eq_true rfl) ?_
  unfold jM_copy
  show Sim G iM_copy rvV 0 [(0, .ref (G.ad k1 0)), (1, .int v1), (2, .ref (G.ad k2 0)), (3, .int v3), (4, .int v4)] [] h _
  refine E_iconst (v := 0) dX9_copy_0 rfl ?_
  refine E_istore (ls' := [(5, .int 0), (0, .ref (G.ad k1 0)), (1, .int v1), (2, .ref (G.ad k2 0)), (3, .int v3), (4, .int v4)]) dX9_copy_1 (Nat.le_of_ble_eq_true rfl) rfl ?_
  exact E_sub [1, 2, 3, 4, 5, 0] rfl (sM_copy_3 G k1 hak1 hzk1 v1 k2 hak2 hzk2 v3 v4 FU 0 h)
def iM_back : MI := (yX9_back, cX9_back, 2, (some .boolean), { frames := 1, cells := 0, slots := 0, locals := 25 }, 1)
theorem ck_X9_back : CK iM_back 1 := ⟨⟨wd_113, wd_1853, by decide +kernel⟩, ⟨wd_1851, wd_1852⟩⟩
def jM_back (h : AH) (v1 : Int32) : Option (Int32 × AH) :=
  (jM_good h).bind fun h1 =>
  (jM_within v1 0 ((gI h1 32 0 23) - 1)).bind fun r2 =>
  if r2 = 0 then ((jM_isNot h1 1).bind fun q5 =>
  if isZ q5.1 = true then some (q5.1, q5.2) else none)
  else ((jM_copy h1 41 (340 * v1) 37 0 340).bind fun h3 =>
  jb (uI h3 32 0 22 0) fun h4 =>
  some (1, h4))
set_option maxRecDepth 20000 in
set_option maxHeartbeats 2000000 in
theorem sM_back (G : JG) (h : AH) (v1 : Int32) : Mt G iM_back rvIM [.ref (G.ad 32 0), .int v1] h (jM_back h v1) := by
  refine Mt_of (by decide) (Nat.le_of_ble_eq_true rfl) ?_
  unfold jM_back
  show Sim G iM_back rvIM 0 [(0, .ref (G.ad 32 0)), (1, .int v1)] [] h _
  refine E_aload_n dX9_back_0 rfl 0 rfl ?_
  refine E_cVV (As := []) (rest := []) (sM_good G h) ck_X9_good lk_X9_155 rfl rfl kc_32 z32 rfl rfl rfl dX9_back_1 (fun h1 _ => ?_)
  refine E_iload_n dX9_back_4 rfl 1 rfl ?_
  refine E_iconst (v := 0) dX9_back_5 rfl ?_
  refine E_aload_n dX9_back_6 rfl 0 rfl ?_
  refine E_getI fl_X9_174 dX9_back_7 z32 ?_
  refine E_iconst (v := 1) dX9_back_10 rfl ?_
  refine E_isub dX9_back_11 ?_
  refine E_cSI (As := [.int v1, .int 0, .int ((gI h1 32 0 23) - 1)]) (rest := []) (sM_within G h1 v1 0 ((gI h1 32 0 23) - 1)) ck_X9_within lk_X9_139 rfl rfl rfl rfl rfl dX9_back_12 (fun r2 _ => ?_)
  refine E_if_ne (t := 24) dX9_back_15 rfl ?_ ?_
  · refine E_aload_n dX9_back_24 rfl 0 rfl ?_
    refine E_getF fl_X9_38 dX9_back_25 z32 ?_
    refine E_sipush (v := 340) dX9_back_28 rfl ?_
    refine E_iload_n dX9_back_31 rfl 1 rfl ?_
    refine E_imul dX9_back_32 ?_
    refine E_aload_n dX9_back_33 rfl 0 rfl ?_
    refine E_getF fl_X9_26 dX9_back_34 z32 ?_
    refine E_iconst (v := 0) dX9_back_37 rfl ?_
    refine E_sipush (v := 340) dX9_back_38 rfl ?_
    refine E_cSV (As := [.ref (G.ad 41 0), .int (340 * v1), .ref (G.ad 37 0), .int 0, .int 340]) (rest := []) (sM_copy G h1 41 rfl z41 (340 * v1) 37 rfl z37 0 340) ck_X9_copy lk_X9_164 rfl rfl rfl rfl rfl dX9_back_41 (fun h3 _ => ?_)
    refine E_aload_n dX9_back_44 rfl 0 rfl ?_
    refine E_iconst (v := 0) dX9_back_45 rfl ?_
    refine E_putI fs_X9_171 dX9_back_46 z32 ?_
    refine E_hgen (fun h4 => ?_)
    refine E_iconst (v := 1) dX9_back_49 rfl ?_
    exact E_zret rfl rfl rfl dX9_back_50
  · refine E_aload_n dX9_back_18 rfl 0 rfl ?_
    refine E_iconst (v := 1) dX9_back_19 rfl ?_
    refine E_cVIM (As := [.int 1]) (rest := []) (sM_isNot G h1 1) ck_X9_isNot lk_X9_380 rfl rfl kc_32 z32 rfl rfl rfl dX9_back_20 (fun q5 _ => ?_)
    exact E_zretg rfl rfl dX9_back_23
def iM_cellOf : MI := (yX9_cellOf, cX9_cellOf, 3, (some .int), { frames := 0, cells := 0, slots := 0, locals := 0 }, 1)
theorem ck_X9_cellOf : CK iM_cellOf 2 := ⟨⟨wd_113, wd_1544, by decide +kernel⟩, ⟨wd_1543, wd_68⟩⟩
def jM_cellOf (h : AH) (v1 : Int32) (v2 : Int32) : Option (Int32) :=
  if inb 0 161 = true then (
  some (((gI h 35 0 (0 : Int32).toNatClampNeg) * v2) + v1)) else none
set_option maxRecDepth 20000 in
set_option maxHeartbeats 2000000 in
theorem sM_cellOf (G : JG) (h : AH) (v1 : Int32) (v2 : Int32) : Mt G iM_cellOf (rvI h) [.ref (G.ad 32 0), .int v1, .int v2] h (jM_cellOf h v1 v2) := by
  refine Mt_of (by decide) (Nat.le_of_ble_eq_true rfl) ?_
  unfold jM_cellOf
  show Sim G iM_cellOf (rvI h) 0 [(0, .ref (G.ad 32 0)), (1, .int v1), (2, .int v2)] [] h _
  refine E_aload_n dX9_cellOf_0 rfl 0 rfl ?_
  refine E_getF fl_X9_20 dX9_cellOf_1 z32 ?_
  refine E_iconst (v := 0) dX9_cellOf_4 rfl ?_
  refine E_iald (n := 161) rfl dX9_cellOf_5 z35 (fun _ => ?_)
  refine E_iload_n dX9_cellOf_6 rfl 2 rfl ?_
  refine E_imul dX9_cellOf_7 ?_
  refine E_iload_n dX9_cellOf_8 rfl 1 rfl ?_
  refine E_iadd dX9_cellOf_9 ?_
  exact E_iret rfl rfl dX9_cellOf_10
def iM_barred : MI := (yX9_barred, cX9_barred, 7, (some .int), { frames := 1, cells := 0, slots := 0, locals := 22 }, 1)
theorem ck_X9_barred : CK iM_barred 1 := ⟨⟨wd_113, wd_1666, by decide +kernel⟩, ⟨wd_1665, wd_84⟩⟩
def jM_barred_86 (h : AH) (v1 : Int32) (k_63 : Int32 → Int32 → Int32 → Int32 → Option Int32) : Nat → Int32 → Int32 → Int32 → Int32 → Int32 → Option (Int32)
  | 0, _, _, _, _, _ => none
  | n + 1, v2, v3, v4, v5, v6 =>
    if inb (v4 + 2) 161 = true then (
    if v6 ≤ (gI h 35 0 (v4 + 2).toNatClampNeg) then ((jM_cellOf h v6 v5).bind fun r1 =>
    (jM_barred_86 h v1 k_63 n (v2 ||| ((1 : Int32) <<< (r1 &&& 31))) v3 v4 v5 (v6 + 1)))
    else ((k_63 v2 v3 v4 (v5 + 1)))) else none
set_option maxRecDepth 20000 in
set_option maxHeartbeats 2000000 in
theorem sM_barred_86 (G : JG) (h : AH) (v1 : Int32) (k_63 : Int32 → Int32 → Int32 → Int32 → Option Int32) (hk_63 : ∀ (v2 : Int32) (v3 : Int32) (v4 : Int32) (v5 : Int32), Sim G iM_barred (rvI h) 63 [(0, .ref (G.ad 32 0)), (1, .int v1), (2, .int v2), (3, .int v3), (4, .int v4), (5, .int v5)] [] h (k_63 v2 v3 v4 v5)) : ∀ (n : Nat) (v2 : Int32) (v3 : Int32) (v4 : Int32) (v5 : Int32) (v6 : Int32), Sim G iM_barred (rvI h) 86 [(0, .ref (G.ad 32 0)), (1, .int v1), (2, .int v2), (3, .int v3), (4, .int v4), (5, .int v5), (6, .int v6)] [] h (jM_barred_86 h v1 k_63 n v2 v3 v4 v5 v6) := by
  intro n
  induction n with
  | zero => intro v2 v3 v4 v5 v6; exact E_none
  | succ n ih =>
    intro v2 v3 v4 v5 v6
    rw [jM_barred_86]
    refine E_iload dX9_barred_86 6 rfl ?_
    refine E_aload_n dX9_barred_88 rfl 0 rfl ?_
    refine E_getF fl_X9_20 dX9_barred_89 z32 ?_
    refine E_iload dX9_barred_92 4 rfl ?_
    refine E_iconst (v := 2) dX9_barred_94 rfl ?_
    refine E_iadd dX9_barred_95 ?_
    refine E_iald (n := 161) rfl dX9_barred_96 z35 (fun _ => ?_)
    refine E_icmp_gt (t := 119) dX9_barred_97 rfl ?_ ?_
    · refine E_iinc (q := 5) (v := (v5 + 1)) (ls' := [(5, .int (v5 + 1)), (0, .ref (G.ad 32 0)), (1, .int v1), (2, .int v2), (3, .int v3), (4, .int v4), (6, .int v6)]) dX9_barred_119 rfl rfl (Nat.le_of_ble_eq_true rfl) rfl ?_
      refine E_goto (t := 63) dX9_barred_122 rfl ?_
      exact E_sub [1, 2, 3, 4, 5, 0] rfl (hk_63 v2 v3 v4 (v5 + 1))
    · refine E_iload_n dX9_barred_100 rfl 2 rfl ?_
      refine E_iconst (v := 1) dX9_barred_101 rfl ?_
      refine E_aload_n dX9_barred_102 rfl 0 rfl ?_
      refine E_iload dX9_barred_103 6 rfl ?_
      refine E_iload dX9_barred_105 5 rfl ?_
      refine E_cVI (As := [.int v6, .int v5]) (rest := [.int 1, .int v2]) (sM_cellOf G h v6 v5) ck_X9_cellOf lk_X9_272 rfl rfl kc_32 z32 rfl rfl rfl dX9_barred_107 (fun r1 _ => ?_)
      refine E_ishl dX9_barred_110 ?_
      refine E_ior dX9_barred_111 ?_
      refine E_istore_n (ls' := [(2, .int (v2 ||| ((1 : Int32) <<< (r1 &&& 31)))), (0, .ref (G.ad 32 0)), (1, .int v1), (3, .int v3), (4, .int v4), (5, .int v5), (6, .int v6)]) dX9_barred_112 rfl (Nat.le_of_ble_eq_true rfl) rfl ?_
      refine E_iinc (q := 6) (v := (v6 + 1)) (ls' := [(6, .int (v6 + 1)), (2, .int (v2 ||| ((1 : Int32) <<< (r1 &&& 31)))), (0, .ref (G.ad 32 0)), (1, .int v1), (3, .int v3), (4, .int v4), (5, .int v5)]) dX9_barred_113 rfl rfl (Nat.le_of_ble_eq_true rfl) rfl ?_
      refine E_goto (t := 86) dX9_barred_116 rfl ?_
      exact E_sub [2, 3, 1, 4, 5, 6, 0] rfl (ih (v2 ||| ((1 : Int32) <<< (r1 &&& 31))) v3 v4 v5 (v6 + 1))
def jM_barred_63 (h : AH) (v1 : Int32) (k_4 : Int32 → Int32 → Option Int32) : Nat → Int32 → Int32 → Int32 → Int32 → Option (Int32)
  | 0, _, _, _, _ => none
  | n + 1, v2, v3, v4, v5 =>
    if inb (v4 + 3) 161 = true then (
    if v5 ≤ (gI h 35 0 (v4 + 3).toNatClampNeg) then (if inb v4 161 = true then (
    (jM_barred_86 h v1 (jM_barred_63 h v1 k_4 n) FU v2 v3 v4 v5 (gI h 35 0 v4.toNatClampNeg))) else none)
    else ((k_4 v2 (v3 + 1)))) else none
set_option maxRecDepth 20000 in
set_option maxHeartbeats 2000000 in
theorem sM_barred_63 (G : JG) (h : AH) (v1 : Int32) (k_4 : Int32 → Int32 → Option Int32) (hk_4 : ∀ (v2 : Int32) (v3 : Int32), Sim G iM_barred (rvI h) 4 [(0, .ref (G.ad 32 0)), (1, .int v1), (2, .int v2), (3, .int v3)] [] h (k_4 v2 v3)) : ∀ (n : Nat) (v2 : Int32) (v3 : Int32) (v4 : Int32) (v5 : Int32), Sim G iM_barred (rvI h) 63 [(0, .ref (G.ad 32 0)), (1, .int v1), (2, .int v2), (3, .int v3), (4, .int v4), (5, .int v5)] [] h (jM_barred_63 h v1 k_4 n v2 v3 v4 v5) := by
  intro n
  induction n with
  | zero => intro v2 v3 v4 v5; exact E_none
  | succ n ih =>
    intro v2 v3 v4 v5
    rw [jM_barred_63]
    refine E_iload dX9_barred_63 5 rfl ?_
    refine E_aload_n dX9_barred_65 rfl 0 rfl ?_
    refine E_getF fl_X9_20 dX9_barred_66 z32 ?_
    refine E_iload dX9_barred_69 4 rfl ?_
    refine E_iconst (v := 3) dX9_barred_71 rfl ?_
    refine E_iadd dX9_barred_72 ?_
    refine E_iald (n := 161) rfl dX9_barred_73 z35 (fun _ => ?_)
    refine E_icmp_gt (t := 125) dX9_barred_74 rfl ?_ ?_
    · refine E_iinc (q := 3) (v := (v3 + 1)) (ls' := [(3, .int (v3 + 1)), (0, .ref (G.ad 32 0)), (1, .int v1), (2, .int v2), (4, .int v4), (5, .int v5)]) dX9_barred_125 rfl rfl (Nat.le_of_ble_eq_true rfl) rfl ?_
      refine E_goto (t := 4) dX9_barred_128 rfl ?_
      exact E_sub [1, 2, 3, 0] rfl (hk_4 v2 (v3 + 1))
    · refine E_aload_n dX9_barred_77 rfl 0 rfl ?_
      refine E_getF fl_X9_20 dX9_barred_78 z32 ?_
      refine E_iload dX9_barred_81 4 rfl ?_
      refine E_iald (n := 161) rfl dX9_barred_83 z35 (fun _ => ?_)
      refine E_istore (ls' := [(6, .int (gI h 35 0 v4.toNatClampNeg)), (0, .ref (G.ad 32 0)), (1, .int v1), (2, .int v2), (3, .int v3), (4, .int v4), (5, .int v5)]) dX9_barred_84 (Nat.le_of_ble_eq_true rfl) rfl ?_
      exact E_sub [1, 2, 3, 4, 5, 6, 0] rfl (sM_barred_86 G h v1 (jM_barred_63 h v1 k_4 n) ih FU v2 v3 v4 v5 (gI h 35 0 v4.toNatClampNeg))
def jM_barred_4 (h : AH) (v1 : Int32) : Nat → Int32 → Int32 → Option (Int32)
  | 0, _, _ => none
  | n + 1, v2, v3 =>
    if inb 6 161 = true then (
    if v3 < (gI h 35 0 (6 : Int32).toNatClampNeg) then (if inb ((22 + (6 * v3)) + 4) 161 = true then (
    if inb ((22 + (6 * v3)) + 5) 161 = true then (
    (jM_within v1 (gI h 35 0 ((22 + (6 * v3)) + 4).toNatClampNeg) (gI h 35 0 ((22 + (6 * v3)) + 5).toNatClampNeg)).bind fun r1 =>
    if r1 = 0 then ((jM_barred_4 h v1 n v2 (v3 + 1)))
    else (if inb ((22 + (6 * v3)) + 1) 161 = true then (
    (jM_barred_63 h v1 (jM_barred_4 h v1 n) FU v2 v3 (22 + (6 * v3)) (gI h 35 0 ((22 + (6 * v3)) + 1).toNatClampNeg))) else none)) else none) else none)
    else (some v2)) else none
set_option maxRecDepth 20000 in
set_option maxHeartbeats 2000000 in
theorem sM_barred_4 (G : JG) (h : AH) (v1 : Int32)  : ∀ (n : Nat) (v2 : Int32) (v3 : Int32), Sim G iM_barred (rvI h) 4 [(0, .ref (G.ad 32 0)), (1, .int v1), (2, .int v2), (3, .int v3)] [] h (jM_barred_4 h v1 n v2 v3) := by
  intro n
  induction n with
  | zero => intro v2 v3; exact E_none
  | succ n ih =>
    intro v2 v3
    rw [jM_barred_4]
    refine E_iload_n dX9_barred_4 rfl 3 rfl ?_
    refine E_aload_n dX9_barred_5 rfl 0 rfl ?_
    refine E_getF fl_X9_20 dX9_barred_6 z32 ?_
    refine E_bipush (v := 6) dX9_barred_9 rfl ?_
    refine E_iald (n := 161) rfl dX9_barred_11 z35 (fun _ => ?_)
    refine E_icmp_ge (t := 131) dX9_barred_12 rfl ?_ ?_
    · refine E_iload_n dX9_barred_131 rfl 2 rfl ?_
      exact E_iret rfl rfl dX9_barred_132
    · refine E_bipush (v := 22) dX9_barred_15 rfl ?_
      refine E_bipush (v := 6) dX9_barred_17 rfl ?_
      refine E_iload_n dX9_barred_19 rfl 3 rfl ?_
      refine E_imul dX9_barred_20 ?_
      refine E_iadd dX9_barred_21 ?_
      refine E_istore (ls' := [(4, .int (22 + (6 * v3))), (0, .ref (G.ad 32 0)), (1, .int v1), (2, .int v2), (3, .int v3)]) dX9_barred_22 (Nat.le_of_ble_eq_true rfl) rfl ?_
      refine E_iload_n dX9_barred_24 rfl 2 rfl ?_
      refine E_aload_n dX9_barred_25 rfl 1 rfl ?_
      refine E_getF fl_X9_20 dX9_barred_26 z32 ?_
      refine E_iload dX9_barred_29 0 rfl ?_
      refine E_iconst (v := 4) dX9_barred_31 rfl ?_
      refine E_iadd dX9_barred_32 ?_
      refine E_iald (n := 161) rfl dX9_barred_33 z35 (fun _ => ?_)
      refine E_aload_n dX9_barred_34 rfl 1 rfl ?_
      refine E_getF fl_X9_20 dX9_barred_35 z32 ?_
      refine E_iload dX9_barred_38 0 rfl ?_
      refine E_iconst (v := 5) dX9_barred_40 rfl ?_
      refine E_iadd dX9_barred_41 ?_
      refine E_iald (n := 161) rfl dX9_barred_42 z35 (fun _ => ?_)
      refine E_cSI (As := [.int v1, .int (gI h 35 0 ((22 + (6 * v3)) + 4).toNatClampNeg), .int (gI h 35 0 ((22 + (6 * v3)) + 5).toNatClampNeg)]) (rest := []) (sM_within G h v1 (gI h 35 0 ((22 + (6 * v3)) + 4).toNatClampNeg) (gI h 35 0 ((22 + (6 * v3)) + 5).toNatClampNeg)) ck_X9_within lk_X9_139 rfl rfl rfl rfl rfl dX9_barred_43 (fun r1 _ => ?_)
      refine E_if_ne (t := 52) dX9_barred_46 rfl ?_ ?_
      · refine E_aload_n dX9_barred_52 rfl 1 rfl ?_
        refine E_getF fl_X9_20 dX9_barred_53 z32 ?_
        refine E_iload dX9_barred_56 0 rfl ?_
        refine E_iconst (v := 1) dX9_barred_58 rfl ?_
        refine E_iadd dX9_barred_59 ?_
        refine E_iald (n := 161) rfl dX9_barred_60 z35 (fun _ => ?_)
        refine E_istore (ls' := [(5, .int (gI h 35 0 ((22 + (6 * v3)) + 1).toNatClampNeg)), (4, .int (22 + (6 * v3))), (0, .ref (G.ad 32 0)), (1, .int v1), (2, .int v2), (3, .int v3)]) dX9_barred_61 (Nat.le_of_ble_eq_true rfl) rfl ?_
        exact E_sub [2, 3, 4, 5, 1, 0] rfl (sM_barred_63 G h v1 (jM_barred_4 h v1 n) ih FU v2 v3 (22 + (6 * v3)) (gI h 35 0 ((22 + (6 * v3)) + 1).toNatClampNeg))
      · refine E_goto (t := 125) dX9_barred_49 rfl ?_
        refine E_iinc (q := 4) (v := (v3 + 1)) (ls' := [(3, .int (v3 + 1)), (4, .int (22 + (6 * v3))), (0, .ref (G.ad 32 0)), (1, .int v1), (2, .int v2)]) dX9_barred_125 rfl rfl (Nat.le_of_ble_eq_true rfl) rfl ?_
        refine E_goto (t := 4) dX9_barred_128 rfl ?_
        exact E_sub [2, 3, 4, 0] rfl (ih v2 (v3 + 1))
def jM_barred (h : AH) (v1 : Int32) : Option (Int32) :=
  (jM_barred_4 h v1 FU 0 0)
set_option maxRecDepth 20000 in
set_option maxHeartbeats 2000000 in
theorem sM_barred (G : JG) (h : AH) (v1 : Int32) : Mt G iM_barred (rvI h) [.ref (G.ad 32 0), .int v1] h (jM_barred h v1) := by
  refine Mt_of (by decide) (Nat.le_of_ble_eq_true rfl) ?_
  unfold jM_barred
  show Sim G iM_barred (rvI h) 0 [(0, .ref (G.ad 32 0)), (1, .int v1)] [] h _
  refine E_iconst (v := 0) dX9_barred_0 rfl ?_
  refine E_istore_n (ls' := [(2, .int 0), (0, .ref (G.ad 32 0)), (1, .int v1)]) dX9_barred_1 rfl (Nat.le_of_ble_eq_true rfl) rfl ?_
  refine E_iconst (v := 0) dX9_barred_2 rfl ?_
  refine E_istore_n (ls' := [(3, .int 0), (2, .int 0), (0, .ref (G.ad 32 0)), (1, .int v1)]) dX9_barred_3 rfl (Nat.le_of_ble_eq_true rfl) rfl ?_
  exact E_sub [2, 3, 1, 0] rfl (sM_barred_4 G h v1 FU 0 0)
