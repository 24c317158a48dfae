/-! ===== the model, 5 ===== -/
def iM_left : MI := (yX9_left, cX9_left, 4, (some .int), { frames := 2, cells := 0, slots := 0, locals := 47 }, 1)
theorem ck_X9_left : CK iM_left 1 := ⟨⟨wd_113, wd_1689, by decide +kernel⟩, ⟨wd_1687, wd_1688⟩⟩
def jM_left_22 (v1 : Int32) : Nat → Int32 → Int32 → AH → Option (Int32 × AH)
  | 0, _, _, _ => none
  | n + 1, v2, v3, h =>
    (jM_cellMany h).bind fun r1 =>
    if v3 < r1 then ((jM_under h v3 0).bind fun r2 =>
    if r2 = v1 then ((jM_left_22 v1 n (v2 + 1) (v3 + 1) h))
    else ((jM_left_22 v1 n (v2 + 0) (v3 + 1) h)))
    else (some (v2, h))
set_option maxRecDepth 20000 in
set_option maxHeartbeats 2000000 in
theorem sM_left_22 (G : JG) (v1 : Int32)  : ∀ (n : Nat) (v2 : Int32) (v3 : Int32) (h : AH), Sim G iM_left rvIM 22 [(0, .ref (G.ad 32 0)), (1, .int v1), (2, .int v2), (3, .int v3)] [] h (jM_left_22 v1 n v2 v3 h) := by
  intro n
  induction n with
  | zero => intro v2 v3 h; exact E_none
  | succ n ih =>
    intro v2 v3 h
    rw [jM_left_22]
    refine E_iload_n dX9_left_22 rfl 3 rfl ?_
    refine E_aload_n dX9_left_23 rfl 0 rfl ?_
    refine E_cVI (As := []) (rest := [.int v3]) (sM_cellMany G h) ck_X9_cellMany lk_X9_287 rfl rfl kc_32 z32 rfl rfl rfl dX9_left_24 (fun r1 _ => ?_)
    refine E_icmp_ge (t := 54) dX9_left_27 rfl ?_ ?_
    · refine E_iload_n dX9_left_54 rfl 2 rfl ?_
      exact E_iret rfl rfl dX9_left_55
    · refine E_iload_n dX9_left_30 rfl 2 rfl ?_
      refine E_aload_n dX9_left_31 rfl 0 rfl ?_
      refine E_iload_n dX9_left_32 rfl 3 rfl ?_
      refine E_iconst (v := 0) dX9_left_33 rfl ?_
      refine E_cVI (As := [.int v3, .int 0]) (rest := [.int v2]) (sM_under G h v3 0) ck_X9_under lk_X9_265 rfl rfl kc_32 z32 rfl rfl rfl dX9_left_34 (fun r2 _ => ?_)
      refine E_iload_n dX9_left_37 rfl 1 rfl ?_
      refine E_icmp_ne (t := 45) dX9_left_38 rfl ?_ ?_
      · refine E_iconst (v := 0) dX9_left_45 rfl ?_
        refine E_iadd dX9_left_46 ?_
        refine E_istore_n (ls' := [(2, .int (v2 + 0)), (0, .ref (G.ad 32 0)), (1, .int v1), (3, .int v3)]) dX9_left_47 rfl (Nat.le_of_ble_eq_true rfl) rfl ?_
        refine E_iinc (q := 3) (v := (v3 + 1)) (ls' := [(3, .int (v3 + 1)), (2, .int (v2 + 0)), (0, .ref (G.ad 32 0)), (1, .int v1)]) dX9_left_48 rfl rfl (Nat.le_of_ble_eq_true rfl) rfl ?_
        refine E_goto (t := 22) dX9_left_51 rfl ?_
        exact E_sub [2, 3, 1, 0] rfl (ih (v2 + 0) (v3 + 1) h)
      · refine E_iconst (v := 1) dX9_left_41 rfl ?_
        refine E_goto (t := 46) dX9_left_42 rfl ?_
        refine E_iadd dX9_left_46 ?_
        refine E_istore_n (ls' := [(2, .int (v2 + 1)), (0, .ref (G.ad 32 0)), (1, .int v1), (3, .int v3)]) dX9_left_47 rfl (Nat.le_of_ble_eq_true rfl) rfl ?_
        refine E_iinc (q := 3) (v := (v3 + 1)) (ls' := [(3, .int (v3 + 1)), (2, .int (v2 + 1)), (0, .ref (G.ad 32 0)), (1, .int v1)]) dX9_left_48 rfl rfl (Nat.le_of_ble_eq_true rfl) rfl ?_
        refine E_goto (t := 22) dX9_left_51 rfl ?_
        exact E_sub [2, 3, 1, 0] rfl (ih (v2 + 1) (v3 + 1) h)
def jM_left (h : AH) (v1 : Int32) : Option (Int32 × AH) :=
  (jM_good h).bind fun h1 =>
  (jM_isWork h1 v1).bind fun r2 =>
  if r2 = 0 then ((jM_no h1 1).bind fun q3 =>
  some (q3.1, q3.2))
  else ((jM_left_22 v1 FU 0 0 h1))
set_option maxRecDepth 20000 in
set_option maxHeartbeats 2000000 in
theorem sM_left (G : JG) (h : AH) (v1 : Int32) : Mt G iM_left rvIM [.ref (G.ad 32 0), .int v1] h (jM_left h v1) := by
  refine Mt_of (by decide) (Nat.le_of_ble_eq_true rfl) ?_
  unfold jM_left
  show Sim G iM_left rvIM 0 [(0, .ref (G.ad 32 0)), (1, .int v1)] [] h _
  refine E_aload_n dX9_left_0 rfl 0 rfl ?_
  refine E_cVV (As := []) (rest := []) (sM_good G h) ck_X9_good lk_X9_155 rfl rfl kc_32 z32 rfl rfl rfl dX9_left_1 (fun h1 _ => ?_)
  refine E_aload_n dX9_left_4 rfl 0 rfl ?_
  refine E_iload_n dX9_left_5 rfl 1 rfl ?_
  refine E_cVI (As := [.int v1]) (rest := []) (sM_isWork G h1 v1) ck_X9_isWork lk_X9_326 rfl rfl kc_32 z32 rfl rfl rfl dX9_left_6 (fun r2 _ => ?_)
  refine E_if_ne (t := 18) dX9_left_9 rfl ?_ ?_
  · refine E_iconst (v := 0) dX9_left_18 rfl ?_
    refine E_istore_n (ls' := [(2, .int 0), (0, .ref (G.ad 32 0)), (1, .int v1)]) dX9_left_19 rfl (Nat.le_of_ble_eq_true rfl) rfl ?_
    refine E_iconst (v := 0) dX9_left_20 rfl ?_
    refine E_istore_n (ls' := [(3, .int 0), (2, .int 0), (0, .ref (G.ad 32 0)), (1, .int v1)]) dX9_left_21 rfl (Nat.le_of_ble_eq_true rfl) rfl ?_
    exact E_sub [2, 3, 1, 0] rfl (sM_left_22 G v1 FU 0 0 h1)
  · refine E_aload_n dX9_left_12 rfl 0 rfl ?_
    refine E_iconst (v := 1) dX9_left_13 rfl ?_
    refine E_cVIM (As := [.int 1]) (rest := []) (sM_no G h1 1) ck_X9_no lk_X9_158 rfl rfl kc_32 z32 rfl rfl rfl dX9_left_14 (fun q3 _ => ?_)
    exact E_iret rfl rfl dX9_left_17
def iM_reliefOf : MI := (yX9_reliefOf, cX9_reliefOf, 4, (some .int), { frames := 1, cells := 0, slots := 0, locals := 23 }, 1)
theorem ck_X9_reliefOf : CK iM_reliefOf 1 := ⟨⟨wd_113, wd_1588, by decide +kernel⟩, ⟨wd_1587, wd_74⟩⟩
def jM_reliefOf_4 (h : AH) (v1 : Int32) : Nat → Int32 → Int32 → Option (Int32)
  | 0, _, _ => none
  | n + 1, v2, v3 =>
    if inb 0 340 = true then (
    if v3 < (gI h 37 0 (0 : Int32).toNatClampNeg) then ((jM_paintOf h v3 v1).bind fun r1 =>
    if r1 = (-2) then ((jM_reliefOf_4 h v1 n (v2 + 0) (v3 + 1)))
    else ((jM_paintOf h v3 v1).bind fun r2 =>
    if inb (7 + r2) 161 = true then (
    (jM_reliefOf_4 h v1 n (v2 + (gI h 35 0 (7 + r2).toNatClampNeg)) (v3 + 1))) else none))
    else (some v2)) else none
set_option maxRecDepth 20000 in
set_option maxHeartbeats 2000000 in
theorem sM_reliefOf_4 (G : JG) (h : AH) (v1 : Int32)  : ∀ (n : Nat) (v2 : Int32) (v3 : Int32), Sim G iM_reliefOf (rvI h) 4 [(0, .ref (G.ad 32 0)), (1, .int v1), (2, .int v2), (3, .int v3)] [] h (jM_reliefOf_4 h v1 n v2 v3) := by
  intro n
  induction n with
  | zero => intro v2 v3; exact E_none
  | succ n ih =>
    intro v2 v3
    rw [jM_reliefOf_4]
    refine E_iload_n dX9_reliefOf_4 rfl 3 rfl ?_
    refine E_aload_n dX9_reliefOf_5 rfl 0 rfl ?_
    refine E_getF fl_X9_26 dX9_reliefOf_6 z32 ?_
    refine E_iconst (v := 0) dX9_reliefOf_9 rfl ?_
    refine E_iald (n := 340) rfl dX9_reliefOf_10 z37 (fun _ => ?_)
    refine E_icmp_ge (t := 52) dX9_reliefOf_11 rfl ?_ ?_
    · refine E_iload_n dX9_reliefOf_52 rfl 2 rfl ?_
      exact E_iret rfl rfl dX9_reliefOf_53
    · refine E_iload_n dX9_reliefOf_14 rfl 2 rfl ?_
      refine E_aload_n dX9_reliefOf_15 rfl 0 rfl ?_
      refine E_iload_n dX9_reliefOf_16 rfl 3 rfl ?_
      refine E_iload_n dX9_reliefOf_17 rfl 1 rfl ?_
      refine E_cVI (As := [.int v3, .int v1]) (rest := [.int v2]) (sM_paintOf G h v3 v1) ck_X9_paintOf lk_X9_262 rfl rfl kc_32 z32 rfl rfl rfl dX9_reliefOf_18 (fun r1 _ => ?_)
      refine E_bipush (v := (-2)) dX9_reliefOf_21 rfl ?_
      refine E_icmp_ne (t := 30) dX9_reliefOf_23 rfl ?_ ?_
      · refine E_aload_n dX9_reliefOf_30 rfl 0 rfl ?_
        refine E_getF fl_X9_20 dX9_reliefOf_31 z32 ?_
        refine E_bipush (v := 7) dX9_reliefOf_34 rfl ?_
        refine E_aload_n dX9_reliefOf_36 rfl 0 rfl ?_
        refine E_iload_n dX9_reliefOf_37 rfl 3 rfl ?_
        refine E_iload_n dX9_reliefOf_38 rfl 1 rfl ?_
        refine E_cVI (As := [.int v3, .int v1]) (rest := [.int 7, .ref (G.ad 35 0), .int v2]) (sM_paintOf G h v3 v1) ck_X9_paintOf lk_X9_262 rfl rfl kc_32 z32 rfl rfl rfl dX9_reliefOf_39 (fun r2 _ => ?_)
        refine E_iadd dX9_reliefOf_42 ?_
        refine E_iald (n := 161) rfl dX9_reliefOf_43 z35 (fun _ => ?_)
        refine E_iadd dX9_reliefOf_44 ?_
        refine E_istore_n (ls' := [(2, .int (v2 + (gI h 35 0 (7 + r2).toNatClampNeg))), (0, .ref (G.ad 32 0)), (1, .int v1), (3, .int v3)]) dX9_reliefOf_45 rfl (Nat.le_of_ble_eq_true rfl) rfl ?_
        refine E_iinc (q := 3) (v := (v3 + 1)) (ls' := [(3, .int (v3 + 1)), (2, .int (v2 + (gI h 35 0 (7 + r2).toNatClampNeg))), (0, .ref (G.ad 32 0)), (1, .int v1)]) dX9_reliefOf_46 rfl rfl (Nat.le_of_ble_eq_true rfl) rfl ?_
        refine E_goto (t := 4) dX9_reliefOf_49 rfl ?_
        exact E_sub [2, 3, 1, 0] rfl (ih (v2 + (gI h 35 0 (7 + r2).toNatClampNeg)) (v3 + 1))
      · refine E_iconst (v := 0) dX9_reliefOf_26 rfl ?_
        refine E_goto (t := 44) dX9_reliefOf_27 rfl ?_
        refine E_iadd dX9_reliefOf_44 ?_
        refine E_istore_n (ls' := [(2, .int (v2 + 0)), (0, .ref (G.ad 32 0)), (1, .int v1), (3, .int v3)]) dX9_reliefOf_45 rfl (Nat.le_of_ble_eq_true rfl) rfl ?_
        refine E_iinc (q := 3) (v := (v3 + 1)) (ls' := [(3, .int (v3 + 1)), (2, .int (v2 + 0)), (0, .ref (G.ad 32 0)), (1, .int v1)]) dX9_reliefOf_46 rfl rfl (Nat.le_of_ble_eq_true rfl) rfl ?_
        refine E_goto (t := 4) dX9_reliefOf_49 rfl ?_
        exact E_sub [2, 3, 1, 0] rfl (ih (v2 + 0) (v3 + 1))
def jM_reliefOf (h : AH) (v1 : Int32) : Option (Int32) :=
  (jM_reliefOf_4 h v1 FU 0 0)
set_option maxRecDepth 20000 in
set_option maxHeartbeats 2000000 in
theorem sM_reliefOf (G : JG) (h : AH) (v1 : Int32) : Mt G iM_reliefOf (rvI h) [.ref (G.ad 32 0), .int v1] h (jM_reliefOf h v1) := by
  refine Mt_of (by decide) (Nat.le_of_ble_eq_true rfl) ?_
  unfold jM_reliefOf
  show Sim G iM_reliefOf (rvI h) 0 [(0, .ref (G.ad 32 0)), (1, .int v1)] [] h _
  refine E_iconst (v := 0) dX9_reliefOf_0 rfl ?_
  refine E_istore_n (ls' := [(2, .int 0), (0, .ref (G.ad 32 0)), (1, .int v1)]) dX9_reliefOf_1 rfl (Nat.le_of_ble_eq_true rfl) rfl ?_
  refine E_iconst (v := 0) dX9_reliefOf_2 rfl ?_
  refine E_istore_n (ls' := [(3, .int 0), (2, .int 0), (0, .ref (G.ad 32 0)), (1, .int v1)]) dX9_reliefOf_3 rfl (Nat.le_of_ble_eq_true rfl) rfl ?_
  exact E_sub [2, 3, 1, 0] rfl (sM_reliefOf_4 G h v1 FU 0 0)
def iM_light : MI := (yX9_light, cX9_light, 4, (some .int), { frames := 2, cells := 0, slots := 0, locals := 46 }, 1)
theorem ck_X9_light : CK iM_light 2 := ⟨⟨wd_113, wd_1592, by decide +kernel⟩, ⟨wd_1590, wd_1591⟩⟩
def jM_light_39 (v1 : Int32) (v2 : Int32) (s0 : Int32) (h : AH) : Option (Int32 × AH) :=
  (jM_cellOf h v1 v2).bind fun r1 =>
  (jM_reliefOf h r1).bind fun r2 =>
  if r2 ≤ s0 then (some (0, h))
  else (some (1, h))
set_option maxRecDepth 20000 in
set_option maxHeartbeats 2000000 in
theorem sM_light_39 (G : JG) (v1 : Int32) (v2 : Int32)  (s0 : Int32) (h : AH) : Sim G iM_light rvIM 39 [(0, .ref (G.ad 32 0)), (1, .int v1), (2, .int v2)] [.int s0] h (jM_light_39 v1 v2 s0 h) := by
  unfold jM_light_39
  refine E_istore_n (ls' := [(3, .int s0), (0, .ref (G.ad 32 0)), (1, .int v1), (2, .int v2)]) dX9_light_39 rfl (Nat.le_of_ble_eq_true rfl) rfl ?_
  refine E_aload_n dX9_light_40 rfl 1 rfl ?_
  refine E_aload_n dX9_light_41 rfl 1 rfl ?_
  refine E_iload_n dX9_light_42 rfl 2 rfl ?_
  refine E_iload_n dX9_light_43 rfl 3 rfl ?_
  refine E_cVI (As := [.int v1, .int v2]) (rest := [.ref (G.ad 32 0)]) (sM_cellOf G h v1 v2) ck_X9_cellOf lk_X9_272 rfl rfl kc_32 z32 rfl rfl rfl dX9_light_44 (fun r1 _ => ?_)
  refine E_cVI (As := [.int r1]) (rest := []) (sM_reliefOf G h r1) ck_X9_reliefOf lk_X9_284 rfl rfl kc_32 z32 rfl rfl rfl dX9_light_47 (fun r2 _ => ?_)
  refine E_iload_n dX9_light_50 rfl 0 rfl ?_
  refine E_icmp_le (t := 58) dX9_light_51 rfl ?_ ?_
  · refine E_iconst (v := 0) dX9_light_58 rfl ?_
    exact E_iret rfl rfl dX9_light_59
  · refine E_iconst (v := 1) dX9_light_54 rfl ?_
    refine E_goto (t := 59) dX9_light_55 rfl ?_
    exact E_iret rfl rfl dX9_light_59
def jM_light (h : AH) (v1 : Int32) (v2 : Int32) : Option (Int32 × AH) :=
  (jM_good h).bind fun h1 =>
  (jM_isCell h1 v1 v2).bind fun r2 =>
  if r2 = 0 then ((jM_no h1 1).bind fun q5 =>
  some (q5.1, q5.2))
  else (if v1 = 0 then ((jM_light_39 v1 v2 0 h1))
  else ((jM_cellOf h1 (v1 - 1) v2).bind fun r3 =>
  (jM_reliefOf h1 r3).bind fun r4 =>
  (jM_light_39 v1 v2 r4 h1)))
set_option maxRecDepth 20000 in
set_option maxHeartbeats 2000000 in
theorem sM_light (G : JG) (h : AH) (v1 : Int32) (v2 : Int32) : Mt G iM_light rvIM [.ref (G.ad 32 0), .int v1, .int v2] h (jM_light h v1 v2) := by
  refine Mt_of (by decide) (Nat.le_of_ble_eq_true rfl) ?_
  unfold jM_light
  show Sim G iM_light rvIM 0 [(0, .ref (G.ad 32 0)), (1, .int v1), (2, .int v2)] [] h _
  refine E_aload_n dX9_light_0 rfl 0 rfl ?_
  refine E_cVV (As := []) (rest := []) (sM_good G h) ck_X9_good lk_X9_155 rfl rfl kc_32 z32 rfl rfl rfl dX9_light_1 (fun h1 _ => ?_)
  refine E_aload_n dX9_light_4 rfl 0 rfl ?_
  refine E_iload_n dX9_light_5 rfl 1 rfl ?_
  refine E_iload_n dX9_light_6 rfl 2 rfl ?_
  refine E_cVI (As := [.int v1, .int v2]) (rest := []) (sM_isCell G h1 v1 v2) ck_X9_isCell lk_X9_268 rfl rfl kc_32 z32 rfl rfl rfl dX9_light_7 (fun r2 _ => ?_)
  refine E_if_ne (t := 19) dX9_light_10 rfl ?_ ?_
  · refine E_iload_n dX9_light_19 rfl 1 rfl ?_
    refine E_if_ne (t := 27) dX9_light_20 rfl ?_ ?_
    · refine E_aload_n dX9_light_27 rfl 0 rfl ?_
      refine E_aload_n dX9_light_28 rfl 0 rfl ?_
      refine E_iload_n dX9_light_29 rfl 1 rfl ?_
      refine E_iconst (v := 1) dX9_light_30 rfl ?_
      refine E_isub dX9_light_31 ?_
      refine E_iload_n dX9_light_32 rfl 2 rfl ?_
      refine E_cVI (As := [.int (v1 - 1), .int v2]) (rest := [.ref (G.ad 32 0)]) (sM_cellOf G h1 (v1 - 1) v2) ck_X9_cellOf lk_X9_272 rfl rfl kc_32 z32 rfl rfl rfl dX9_light_33 (fun r3 _ => ?_)
      refine E_cVI (As := [.int r3]) (rest := []) (sM_reliefOf G h1 r3) ck_X9_reliefOf lk_X9_284 rfl rfl kc_32 z32 rfl rfl rfl dX9_light_36 (fun r4 _ => ?_)
      exact E_sub [0, 1, 2] rfl (sM_light_39 G v1 v2 r4 h1)
    · refine E_iconst (v := 0) dX9_light_23 rfl ?_
      refine E_goto (t := 39) dX9_light_24 rfl ?_
      exact E_sub [0, 1, 2] rfl (sM_light_39 G v1 v2 0 h1)
  · refine E_aload_n dX9_light_13 rfl 0 rfl ?_
    refine E_iconst (v := 1) dX9_light_14 rfl ?_
    refine E_cVIM (As := [.int 1]) (rest := []) (sM_no G h1 1) ck_X9_no lk_X9_158 rfl rfl kc_32 z32 rfl rfl rfl dX9_light_15 (fun q5 _ => ?_)
    exact E_iret rfl rfl dX9_light_18
def iM_wantedCells : MI := (yX9_wantedCells, cX9_wantedCells, 3, (some .int), { frames := 1, cells := 0, slots := 0, locals := 21 }, 1)
theorem ck_X9_wantedCells : CK iM_wantedCells 0 := ⟨⟨wd_113, wd_1765, by decide +kernel⟩, ⟨wd_1764, wd_96⟩⟩
def jM_wantedCells_4 (h : AH) : Nat → Int32 → Int32 → Option (Int32)
  | 0, _, _ => none
  | n + 1, v1, v2 =>
    (jM_cellMany h).bind fun r1 =>
    if v2 < r1 then ((jM_wantedAt h v2).bind fun r2 =>
    if r2 = (-2) then ((jM_wantedCells_4 h n (v1 ||| 0) (v2 + 1)))
    else ((jM_wantedCells_4 h n (v1 ||| ((1 : Int32) <<< (v2 &&& 31))) (v2 + 1))))
    else (some v1)
set_option maxRecDepth 20000 in
set_option maxHeartbeats 2000000 in
theorem sM_wantedCells_4 (G : JG) (h : AH)   : ∀ (n : Nat) (v1 : Int32) (v2 : Int32), Sim G iM_wantedCells (rvI h) 4 [(0, .ref (G.ad 32 0)), (1, .int v1), (2, .int v2)] [] h (jM_wantedCells_4 h n v1 v2) := by
  intro n
  induction n with
  | zero => intro v1 v2; exact E_none
  | succ n ih =>
    intro v1 v2
    rw [jM_wantedCells_4]
    refine E_iload_n dX9_wantedCells_4 rfl 2 rfl ?_
    refine E_aload_n dX9_wantedCells_5 rfl 0 rfl ?_
    refine E_cVI (As := []) (rest := [.int v2]) (sM_cellMany G h) ck_X9_cellMany lk_X9_287 rfl rfl kc_32 z32 rfl rfl rfl dX9_wantedCells_6 (fun r1 _ => ?_)
    refine E_icmp_ge (t := 38) dX9_wantedCells_9 rfl ?_ ?_
    · refine E_iload_n dX9_wantedCells_38 rfl 1 rfl ?_
      exact E_iret rfl rfl dX9_wantedCells_39
    · refine E_iload_n dX9_wantedCells_12 rfl 1 rfl ?_
      refine E_aload_n dX9_wantedCells_13 rfl 0 rfl ?_
      refine E_iload_n dX9_wantedCells_14 rfl 2 rfl ?_
      refine E_cVI (As := [.int v2]) (rest := [.int v1]) (sM_wantedAt G h v2) ck_X9_wantedAt lk_X9_335 rfl rfl kc_32 z32 rfl rfl rfl dX9_wantedCells_15 (fun r2 _ => ?_)
      refine E_bipush (v := (-2)) dX9_wantedCells_18 rfl ?_
      refine E_icmp_ne (t := 27) dX9_wantedCells_20 rfl ?_ ?_
      · refine E_iconst (v := 1) dX9_wantedCells_27 rfl ?_
        refine E_iload_n dX9_wantedCells_28 rfl 2 rfl ?_
        refine E_ishl dX9_wantedCells_29 ?_
        refine E_ior dX9_wantedCells_30 ?_
        refine E_istore_n (ls' := [(1, .int (v1 ||| ((1 : Int32) <<< (v2 &&& 31)))), (0, .ref (G.ad 32 0)), (2, .int v2)]) dX9_wantedCells_31 rfl (Nat.le_of_ble_eq_true rfl) rfl ?_
        refine E_iinc (q := 2) (v := (v2 + 1)) (ls' := [(2, .int (v2 + 1)), (1, .int (v1 ||| ((1 : Int32) <<< (v2 &&& 31)))), (0, .ref (G.ad 32 0))]) dX9_wantedCells_32 rfl rfl (Nat.le_of_ble_eq_true rfl) rfl ?_
        refine E_goto (t := 4) dX9_wantedCells_35 rfl ?_
        exact E_sub [2, 1, 0] rfl (ih (v1 ||| ((1 : Int32) <<< (v2 &&& 31))) (v2 + 1))
      · refine E_iconst (v := 0) dX9_wantedCells_23 rfl ?_
        refine E_goto (t := 30) dX9_wantedCells_24 rfl ?_
        refine E_ior dX9_wantedCells_30 ?_
        refine E_istore_n (ls' := [(1, .int (v1 ||| 0)), (0, .ref (G.ad 32 0)), (2, .int v2)]) dX9_wantedCells_31 rfl (Nat.le_of_ble_eq_true rfl) rfl ?_
        refine E_iinc (q := 2) (v := (v2 + 1)) (ls' := [(2, .int (v2 + 1)), (1, .int (v1 ||| 0)), (0, .ref (G.ad 32 0))]) dX9_wantedCells_32 rfl rfl (Nat.le_of_ble_eq_true rfl) rfl ?_
        refine E_goto (t := 4) dX9_wantedCells_35 rfl ?_
        exact E_sub [2, 1, 0] rfl (ih (v1 ||| 0) (v2 + 1))
def jM_wantedCells (h : AH)  : Option (Int32) :=
  (jM_wantedCells_4 h FU 0 0)
set_option maxRecDepth 20000 in
set_option maxHeartbeats 2000000 in
theorem sM_wantedCells (G : JG) (h : AH)  : Mt G iM_wantedCells (rvI h) [.ref (G.ad 32 0)] h (jM_wantedCells h) := by
  refine Mt_of (by decide) (Nat.le_of_ble_eq_true rfl) ?_
  unfold jM_wantedCells
  show Sim G iM_wantedCells (rvI h) 0 [(0, .ref (G.ad 32 0))] [] h _
  refine E_iconst (v := 0) dX9_wantedCells_0 rfl ?_
  refine E_istore_n (ls' := [(1, .int 0), (0, .ref (G.ad 32 0))]) dX9_wantedCells_1 rfl (Nat.le_of_ble_eq_true rfl) rfl ?_
  refine E_iconst (v := 0) dX9_wantedCells_2 rfl ?_
  refine E_istore_n (ls' := [(2, .int 0), (1, .int 0), (0, .ref (G.ad 32 0))]) dX9_wantedCells_3 rfl (Nat.le_of_ble_eq_true rfl) rfl ?_
  exact E_sub [2, 1, 0] rfl (sM_wantedCells_4 G h FU 0 0)
def iM_staying : MI := (yX9_staying, cX9_staying, 2, (some .int), { frames := 5, cells := 0, slots := 0, locals := 112 }, 1)
theorem ck_X9_staying : CK iM_staying 1 := ⟨⟨wd_113, wd_1773, by decide +kernel⟩, ⟨wd_1772, wd_98⟩⟩
def jM_staying (h : AH) (v1 : Int32) : Option (Int32) :=
  (jM_alikeCells h).bind fun r1 =>
  (jM_payable h v1).bind fun r2 =>
  some (r1 &&& (r2 ^^^ (-1)))
set_option maxRecDepth 20000 in
set_option maxHeartbeats 2000000 in
theorem sM_staying (G : JG) (h : AH) (v1 : Int32) : Mt G iM_staying (rvI h) [.ref (G.ad 32 0), .int v1] h (jM_staying h v1) := by
  refine Mt_of (by decide) (Nat.le_of_ble_eq_true rfl) ?_
  unfold jM_staying
  show Sim G iM_staying (rvI h) 0 [(0, .ref (G.ad 32 0)), (1, .int v1)] [] h _
  refine E_aload_n dX9_staying_0 rfl 0 rfl ?_
  refine E_cVI (As := []) (rest := []) (sM_alikeCells G h) ck_X9_alikeCells lk_X9_341 rfl rfl kc_32 z32 rfl rfl rfl dX9_staying_1 (fun r1 _ => ?_)
  refine E_aload_n dX9_staying_4 rfl 0 rfl ?_
  refine E_iload_n dX9_staying_5 rfl 1 rfl ?_
  refine E_cVI (As := [.int v1]) (rest := [.int r1]) (sM_payable G h v1) ck_X9_payable lk_X9_344 rfl rfl kc_32 z32 rfl rfl rfl dX9_staying_6 (fun r2 _ => ?_)
  refine E_iconst (v := (-1)) dX9_staying_9 rfl ?_
  refine E_ixor dX9_staying_10 ?_
  refine E_iand dX9_staying_11 ?_
  exact E_iret rfl rfl dX9_staying_12
def iM_needOf : MI := (yX9_needOf, cX9_needOf, 9, (some .int), { frames := 6, cells := 0, slots := 0, locals := 140 }, 1)
theorem ck_X9_needOf : CK iM_needOf 1 := ⟨⟨wd_113, wd_1761, by decide +kernel⟩, ⟨wd_1760, wd_95⟩⟩
def jM_needOf_179 (k_96 : Int32 → Int32 → Int32 → Int32 → AH → Option (Int32 × AH)) (k_136 : Int32 → Int32 → Int32 → Int32 → Int32 → AH → Option (Int32 × AH)) (v3 : Int32) (v5 : Int32) (v6 : Int32) (v7 : Int32) (v8 : Int32) (h : AH) : Option (Int32 × AH) :=
  if v8 = 0 then ((k_96 v3 v5 v6 (v7 + 1) h))
  else ((k_136 v3 v5 v6 v7 ((v8 - 1) &&& v3) h))
set_option maxRecDepth 20000 in
set_option maxHeartbeats 2000000 in
theorem sM_needOf_179 (G : JG)  (k_96 : Int32 → Int32 → Int32 → Int32 → AH → Option (Int32 × AH)) (hk_96 : ∀ (v3 : Int32) (v5 : Int32) (v6 : Int32) (v7 : Int32) (h : AH), Sim G iM_needOf rvIM 96 [(0, .ref (G.ad 32 0)), (3, .int v3), (5, .int v5), (6, .int v6), (7, .int v7)] [] h (k_96 v3 v5 v6 v7 h)) (k_136 : Int32 → Int32 → Int32 → Int32 → Int32 → AH → Option (Int32 × AH)) (hk_136 : ∀ (v3 : Int32) (v5 : Int32) (v6 : Int32) (v7 : Int32) (v8 : Int32) (h : AH), Sim G iM_needOf rvIM 136 [(0, .ref (G.ad 32 0)), (3, .int v3), (5, .int v5), (6, .int v6), (7, .int v7), (8, .int v8)] [] h (k_136 v3 v5 v6 v7 v8 h)) (v3 : Int32) (v5 : Int32) (v6 : Int32) (v7 : Int32) (v8 : Int32) (h : AH) : Sim G iM_needOf rvIM 179 [(0, .ref (G.ad 32 0)), (3, .int v3), (5, .int v5), (6, .int v6), (7, .int v7), (8, .int v8)] [] h (jM_needOf_179 k_96 k_136 v3 v5 v6 v7 v8 h) := by
  unfold jM_needOf_179
  refine E_iload dX9_needOf_179 5 rfl ?_
  refine E_if_ne (t := 187) dX9_needOf_181 rfl ?_ ?_
  · refine E_iload dX9_needOf_187 5 rfl ?_
    refine E_iconst (v := 1) dX9_needOf_189 rfl ?_
    refine E_isub dX9_needOf_190 ?_
    refine E_iload_n dX9_needOf_191 rfl 1 rfl ?_
    refine E_iand dX9_needOf_192 ?_
    refine E_istore (ls' := [(8, .int ((v8 - 1) &&& v3)), (0, .ref (G.ad 32 0)), (3, .int v3), (5, .int v5), (6, .int v6), (7, .int v7)]) dX9_needOf_193 (Nat.le_of_ble_eq_true rfl) rfl ?_
    refine E_goto (t := 136) dX9_needOf_195 rfl ?_
    exact E_sub [1, 2, 3, 4, 5, 0] rfl (hk_136 v3 v5 v6 v7 ((v8 - 1) &&& v3) h)
  · refine E_goto (t := 198) dX9_needOf_184 rfl ?_
    refine E_iinc (q := 4) (v := (v7 + 1)) (ls' := [(7, .int (v7 + 1)), (0, .ref (G.ad 32 0)), (3, .int v3), (5, .int v5), (6, .int v6), (8, .int v8)]) dX9_needOf_198 rfl rfl (Nat.le_of_ble_eq_true rfl) rfl ?_
    refine E_goto (t := 96) dX9_needOf_201 rfl ?_
    exact E_sub [1, 2, 3, 4, 0] rfl (hk_96 v3 v5 v6 (v7 + 1) h)
def jM_needOf_136 (k_96 : Int32 → Int32 → Int32 → Int32 → AH → Option (Int32 × AH)) : Nat → Int32 → Int32 → Int32 → Int32 → Int32 → AH → Option (Int32 × AH)
  | 0, _, _, _, _, _, _ => none
  | n + 1, v3, v5, v6, v7, v8, h =>
    if inb v8 4096 = true then (
    if (gI h 44 0 v8.toNatClampNeg) = (v6 - 1) then (if inb (v8 ||| (v7 &&& v3)) 4096 = true then (
    if 0 ≤ (gI h 44 0 (v8 ||| (v7 &&& v3)).toNatClampNeg) then ((jM_needOf_179 k_96 (jM_needOf_136 k_96 n) v3 v5 v6 v7 v8 h))
    else (if inb (v8 ||| (v7 &&& v3)) 4096 = true then (
    jb (uI h 44 0 (v8 ||| (v7 &&& v3)).toNatClampNeg v6) fun h1 =>
    (jM_needOf_179 k_96 (jM_needOf_136 k_96 n) v3 v5 v6 v7 v8 h1)) else none)) else none)
    else ((jM_needOf_179 k_96 (jM_needOf_136 k_96 n) v3 v5 v6 v7 v8 h))) else none
set_option maxRecDepth 20000 in
set_option maxHeartbeats 2000000 in
theorem sM_needOf_136 (G : JG)  (k_96 : Int32 → Int32 → Int32 → Int32 → AH → Option (Int32 × AH)) (hk_96 : ∀ (v3 : Int32) (v5 : Int32) (v6 : Int32) (v7 : Int32) (h : AH), Sim G iM_needOf rvIM 96 [(0, .ref (G.ad 32 0)), (3, .int v3), (5, .int v5), (6, .int v6), (7, .int v7)] [] h (k_96 v3 v5 v6 v7 h)) : ∀ (n : Nat) (v3 : Int32) (v5 : Int32) (v6 : Int32) (v7 : Int32) (v8 : Int32) (h : AH), Sim G iM_needOf rvIM 136 [(0, .ref (G.ad 32 0)), (3, .int v3), (5, .int v5), (6, .int v6), (7, .int v7), (8, .int v8)] [] h (jM_needOf_136 k_96 n v3 v5 v6 v7 v8 h) := by
  intro n
  induction n with
  | zero => intro v3 v5 v6 v7 v8 h; exact E_none
  | succ n ih =>
    intro v3 v5 v6 v7 v8 h
    rw [jM_needOf_136]
    refine E_aload_n dX9_needOf_136 rfl 0 rfl ?_
    refine E_getF fl_X9_48 dX9_needOf_137 z32 ?_
    refine E_iload dX9_needOf_140 5 rfl ?_
    refine E_iald (n := 4096) rfl dX9_needOf_142 z44 (fun _ => ?_)
    refine E_iload dX9_needOf_143 3 rfl ?_
    refine E_iconst (v := 1) dX9_needOf_145 rfl ?_
    refine E_isub dX9_needOf_146 ?_
    refine E_icmp_ne (t := 179) dX9_needOf_147 rfl ?_ ?_
    · exact E_sub [0, 1, 2, 3, 4, 5] rfl (sM_needOf_179 G k_96 hk_96 (jM_needOf_136 k_96 n) ih v3 v5 v6 v7 v8 h)
    · refine E_aload_n dX9_needOf_150 rfl 0 rfl ?_
      refine E_getF fl_X9_48 dX9_needOf_151 z32 ?_
      refine E_iload dX9_needOf_154 5 rfl ?_
      refine E_iload dX9_needOf_156 4 rfl ?_
      refine E_iload_n dX9_needOf_158 rfl 1 rfl ?_
      refine E_iand dX9_needOf_159 ?_
      refine E_ior dX9_needOf_160 ?_
      refine E_iald (n := 4096) rfl dX9_needOf_161 z44 (fun _ => ?_)
      refine E_if_ge (t := 179) dX9_needOf_162 rfl ?_ ?_
      · exact E_sub [0, 1, 2, 3, 4, 5] rfl (sM_needOf_179 G k_96 hk_96 (jM_needOf_136 k_96 n) ih v3 v5 v6 v7 v8 h)
      · refine E_aload_n dX9_needOf_165 rfl 0 rfl ?_
        refine E_getF fl_X9_48 dX9_needOf_166 z32 ?_
        refine E_iload dX9_needOf_169 5 rfl ?_
        refine E_iload dX9_needOf_171 4 rfl ?_
        refine E_iload_n dX9_needOf_173 rfl 1 rfl ?_
        refine E_iand dX9_needOf_174 ?_
        refine E_ior dX9_needOf_175 ?_
        refine E_iload dX9_needOf_176 3 rfl ?_
        refine E_iast (n := 4096) rfl dX9_needOf_178 z44 (fun _ => ?_)
        refine E_hgen (fun h1 => ?_)
        exact E_sub [0, 1, 2, 3, 4, 5] rfl (sM_needOf_179 G k_96 hk_96 (jM_needOf_136 k_96 n) ih v3 v5 v6 v7 v8 h1)
def jM_needOf_204 (k_86 : Int32 → Int32 → Int32 → AH → Option (Int32 × AH)) (v3 : Int32) (v5 : Int32) (v6 : Int32) (h : AH) : Option (Int32 × AH) :=
  if inb v3 4096 = true then (
  if (gI h 44 0 v3.toNatClampNeg) < 0 then ((k_86 v3 v5 (v6 + 1) h))
  else (if inb v3 4096 = true then (
  some ((gI h 44 0 v3.toNatClampNeg), h)) else none)) else none
set_option maxRecDepth 20000 in
set_option maxHeartbeats 2000000 in
theorem sM_needOf_204 (G : JG)  (k_86 : Int32 → Int32 → Int32 → AH → Option (Int32 × AH)) (hk_86 : ∀ (v3 : Int32) (v5 : Int32) (v6 : Int32) (h : AH), Sim G iM_needOf rvIM 86 [(0, .ref (G.ad 32 0)), (3, .int v3), (5, .int v5), (6, .int v6)] [] h (k_86 v3 v5 v6 h)) (v3 : Int32) (v5 : Int32) (v6 : Int32) (h : AH) : Sim G iM_needOf rvIM 204 [(0, .ref (G.ad 32 0)), (3, .int v3), (5, .int v5), (6, .int v6)] [] h (jM_needOf_204 k_86 v3 v5 v6 h) := by
  unfold jM_needOf_204
  refine E_aload_n dX9_needOf_204 rfl 0 rfl ?_
  refine E_getF fl_X9_48 dX9_needOf_205 z32 ?_
  refine E_iload_n dX9_needOf_208 rfl 1 rfl ?_
  refine E_iald (n := 4096) rfl dX9_needOf_209 z44 (fun _ => ?_)
  refine E_if_lt (t := 220) dX9_needOf_210 rfl ?_ ?_
  · refine E_iinc (q := 3) (v := (v6 + 1)) (ls' := [(6, .int (v6 + 1)), (0, .ref (G.ad 32 0)), (3, .int v3), (5, .int v5)]) dX9_needOf_220 rfl rfl (Nat.le_of_ble_eq_true rfl) rfl ?_
    refine E_goto (t := 86) dX9_needOf_223 rfl ?_
    exact E_sub [1, 2, 3, 0] rfl (hk_86 v3 v5 (v6 + 1) h)
  · refine E_aload_n dX9_needOf_213 rfl 0 rfl ?_
    refine E_getF fl_X9_48 dX9_needOf_214 z32 ?_
    refine E_iload_n dX9_needOf_217 rfl 1 rfl ?_
    refine E_iald (n := 4096) rfl dX9_needOf_218 z44 (fun _ => ?_)
    exact E_iret rfl rfl dX9_needOf_219
def jM_needOf_96 (k_86 : Int32 → Int32 → Int32 → AH → Option (Int32 × AH)) : Nat → Int32 → Int32 → Int32 → Int32 → AH → Option (Int32 × AH)
  | 0, _, _, _, _, _ => none
  | n + 1, v3, v5, v6, v7, h =>
    (jM_allCells h).bind fun r1 =>
    if v7 ≤ r1 then (if inb v7 4096 = true then (
    if (gI h 45 0 v7.toNatClampNeg) = 0 then ((jM_needOf_96 k_86 n v3 v5 v6 (v7 + 1) h))
    else (if (v7 &&& v5) = 0 then (if (v7 &&& v3) = 0 then ((jM_needOf_96 k_86 n v3 v5 v6 (v7 + 1) h))
    else ((jM_needOf_136 (jM_needOf_96 k_86 n) FU v3 v5 v6 v7 v3 h)))
    else ((jM_needOf_96 k_86 n v3 v5 v6 (v7 + 1) h)))) else none)
    else ((jM_needOf_204 k_86 v3 v5 v6 h))
set_option maxRecDepth 20000 in
set_option maxHeartbeats 2000000 in
theorem sM_needOf_96 (G : JG)  (k_86 : Int32 → Int32 → Int32 → AH → Option (Int32 × AH)) (hk_86 : ∀ (v3 : Int32) (v5 : Int32) (v6 : Int32) (h : AH), Sim G iM_needOf rvIM 86 [(0, .ref (G.ad 32 0)), (3, .int v3), (5, .int v5), (6, .int v6)] [] h (k_86 v3 v5 v6 h)) : ∀ (n : Nat) (v3 : Int32) (v5 : Int32) (v6 : Int32) (v7 : Int32) (h : AH), Sim G iM_needOf rvIM 96 [(0, .ref (G.ad 32 0)), (3, .int v3), (5, .int v5), (6, .int v6), (7, .int v7)] [] h (jM_needOf_96 k_86 n v3 v5 v6 v7 h) := by
  intro n
  induction n with
  | zero => intro v3 v5 v6 v7 h; exact E_none
  | succ n ih =>
    intro v3 v5 v6 v7 h
    rw [jM_needOf_96]
    refine E_iload dX9_needOf_96 4 rfl ?_
    refine E_aload_n dX9_needOf_98 rfl 0 rfl ?_
    refine E_cVI (As := []) (rest := [.int v7]) (sM_allCells G h) ck_X9_allCells lk_X9_299 rfl rfl kc_32 z32 rfl rfl rfl dX9_needOf_99 (fun r1 _ => ?_)
    refine E_icmp_gt (t := 204) dX9_needOf_102 rfl ?_ ?_
    · exact E_sub [0, 1, 2, 3] rfl (sM_needOf_204 G k_86 hk_86 v3 v5 v6 h)
    · refine E_aload_n dX9_needOf_105 rfl 0 rfl ?_
      refine E_getF fl_X9_51 dX9_needOf_106 z32 ?_
      refine E_iload dX9_needOf_109 4 rfl ?_
      refine E_zald (n := 4096) rfl dX9_needOf_111 z45 (fun _ => ?_)
      refine E_if_eq (t := 198) dX9_needOf_112 rfl ?_ ?_
      · refine E_iinc (q := 4) (v := (v7 + 1)) (ls' := [(7, .int (v7 + 1)), (0, .ref (G.ad 32 0)), (3, .int v3), (5, .int v5), (6, .int v6)]) dX9_needOf_198 rfl rfl (Nat.le_of_ble_eq_true rfl) rfl ?_
        refine E_goto (t := 96) dX9_needOf_201 rfl ?_
        exact E_sub [1, 2, 3, 4, 0] rfl (ih v3 v5 v6 (v7 + 1) h)
      · refine E_iload dX9_needOf_115 4 rfl ?_
        refine E_iload dX9_needOf_117 2 rfl ?_
        refine E_iand dX9_needOf_119 ?_
        refine E_if_ne (t := 198) dX9_needOf_120 rfl ?_ ?_
        · refine E_iinc (q := 4) (v := (v7 + 1)) (ls' := [(7, .int (v7 + 1)), (0, .ref (G.ad 32 0)), (3, .int v3), (5, .int v5), (6, .int v6)]) dX9_needOf_198 rfl rfl (Nat.le_of_ble_eq_true rfl) rfl ?_
          refine E_goto (t := 96) dX9_needOf_201 rfl ?_
          exact E_sub [1, 2, 3, 4, 0] rfl (ih v3 v5 v6 (v7 + 1) h)
        · refine E_iload dX9_needOf_123 4 rfl ?_
          refine E_iload_n dX9_needOf_125 rfl 1 rfl ?_
          refine E_iand dX9_needOf_126 ?_
          refine E_if_ne (t := 133) dX9_needOf_127 rfl ?_ ?_
          · refine E_iload_n dX9_needOf_133 rfl 1 rfl ?_
            refine E_istore (ls' := [(8, .int v3), (0, .ref (G.ad 32 0)), (3, .int v3), (5, .int v5), (6, .int v6), (7, .int v7)]) dX9_needOf_134 (Nat.le_of_ble_eq_true rfl) rfl ?_
            exact E_sub [1, 2, 3, 4, 5, 0] rfl (sM_needOf_136 G (jM_needOf_96 k_86 n) ih FU v3 v5 v6 v7 v3 h)
          · refine E_goto (t := 198) dX9_needOf_130 rfl ?_
            refine E_iinc (q := 4) (v := (v7 + 1)) (ls' := [(7, .int (v7 + 1)), (0, .ref (G.ad 32 0)), (3, .int v3), (5, .int v5), (6, .int v6)]) dX9_needOf_198 rfl rfl (Nat.le_of_ble_eq_true rfl) rfl ?_
            refine E_goto (t := 96) dX9_needOf_201 rfl ?_
            exact E_sub [1, 2, 3, 4, 0] rfl (ih v3 v5 v6 (v7 + 1) h)
def jM_needOf_86  : Nat → Int32 → Int32 → Int32 → AH → Option (Int32 × AH)
  | 0, _, _, _, _ => none
  | n + 1, v3, v5, v6, h =>
    if v6 ≤ 12 then ((jM_needOf_96 (jM_needOf_86 n) FU v3 v5 v6 0 h))
    else (some ((-2), h))
set_option maxRecDepth 20000 in
set_option maxHeartbeats 2000000 in
theorem sM_needOf_86 (G : JG)   : ∀ (n : Nat) (v3 : Int32) (v5 : Int32) (v6 : Int32) (h : AH), Sim G iM_needOf rvIM 86 [(0, .ref (G.ad 32 0)), (3, .int v3), (5, .int v5), (6, .int v6)] [] h (jM_needOf_86 n v3 v5 v6 h) := by
  intro n
  induction n with
  | zero => intro v3 v5 v6 h; exact E_none
  | succ n ih =>
    intro v3 v5 v6 h
    rw [jM_needOf_86]
    refine E_iload dX9_needOf_86 3 rfl ?_
    refine E_bipush (v := 12) dX9_needOf_88 rfl ?_
    refine E_icmp_gt (t := 226) dX9_needOf_90 rfl ?_ ?_
    · refine E_bipush (v := (-2)) dX9_needOf_226 rfl ?_
      exact E_iret rfl rfl dX9_needOf_228
    · refine E_iconst (v := 0) dX9_needOf_93 rfl ?_
      refine E_istore (ls' := [(7, .int 0), (0, .ref (G.ad 32 0)), (3, .int v3), (5, .int v5), (6, .int v6)]) dX9_needOf_94 (Nat.le_of_ble_eq_true rfl) rfl ?_
      exact E_sub [1, 2, 3, 4, 0] rfl (sM_needOf_96 G (jM_needOf_86 n) ih FU v3 v5 v6 0 h)
def jM_needOf_46 (v1 : Int32) (v3 : Int32) (v4 : Int32) (h : AH) : Option (Int32 × AH) :=
  if inb 0 4096 = true then (
  jb (uI h 44 0 (0 : Int32).toNatClampNeg 0) fun h1 =>
  if v3 = 0 then (some (0, h1))
  else (if (v3 &&& (v4 ^^^ (-1))) = 0 then ((jM_layLawful h1 v1).bind fun h2 =>
  (jM_staying h2 v1).bind fun r3 =>
  (jM_needOf_86 FU v3 r3 1 h2))
  else (some ((-2), h1)))) else none
set_option maxRecDepth 20000 in
set_option maxHeartbeats 2000000 in
theorem sM_needOf_46 (G : JG) (v1 : Int32)  (v3 : Int32) (v4 : Int32) (h : AH) : Sim G iM_needOf rvIM 46 [(0, .ref (G.ad 32 0)), (1, .int v1), (3, .int v3), (4, .int v4)] [] h (jM_needOf_46 v1 v3 v4 h) := by
  unfold jM_needOf_46
  refine E_aload_n dX9_needOf_46 rfl 0 rfl ?_
  refine E_getF fl_X9_48 dX9_needOf_47 z32 ?_
  refine E_iconst (v := 0) dX9_needOf_50 rfl ?_
  refine E_iconst (v := 0) dX9_needOf_51 rfl ?_
  refine E_iast (n := 4096) rfl dX9_needOf_52 z44 (fun _ => ?_)
  refine E_hgen (fun h1 => ?_)
  refine E_iload_n dX9_needOf_53 rfl 2 rfl ?_
  refine E_if_ne (t := 59) dX9_needOf_54 rfl ?_ ?_
  · refine E_iload_n dX9_needOf_59 rfl 2 rfl ?_
    refine E_iload dX9_needOf_60 3 rfl ?_
    refine E_iconst (v := (-1)) dX9_needOf_62 rfl ?_
    refine E_ixor dX9_needOf_63 ?_
    refine E_iand dX9_needOf_64 ?_
    refine E_if_eq (t := 71) dX9_needOf_65 rfl ?_ ?_
    · refine E_aload_n dX9_needOf_71 rfl 0 rfl ?_
      refine E_iload_n dX9_needOf_72 rfl 1 rfl ?_
      refine E_cVV (As := [.int v1]) (rest := []) (sM_layLawful G h1 v1) ck_X9_layLawful lk_X9_365 rfl rfl kc_32 z32 rfl rfl rfl dX9_needOf_73 (fun h2 _ => ?_)
      refine E_aload_n dX9_needOf_76 rfl 0 rfl ?_
      refine E_iload_n dX9_needOf_77 rfl 1 rfl ?_
      refine E_cVI (As := [.int v1]) (rest := []) (sM_staying G h2 v1) ck_X9_staying lk_X9_368 rfl rfl kc_32 z32 rfl rfl rfl dX9_needOf_78 (fun r3 _ => ?_)
      refine E_istore (ls' := [(5, .int r3), (0, .ref (G.ad 32 0)), (1, .int v1), (3, .int v3), (4, .int v4)]) dX9_needOf_81 (Nat.le_of_ble_eq_true rfl) rfl ?_
      refine E_iconst (v := 1) dX9_needOf_83 rfl ?_
      refine E_istore (ls' := [(6, .int 1), (5, .int r3), (0, .ref (G.ad 32 0)), (1, .int v1), (3, .int v3), (4, .int v4)]) dX9_needOf_84 (Nat.le_of_ble_eq_true rfl) rfl ?_
      exact E_sub [2, 4, 1, 0] rfl (sM_needOf_86 G FU v3 r3 1 h2)
    · refine E_bipush (v := (-2)) dX9_needOf_68 rfl ?_
      exact E_iret rfl rfl dX9_needOf_70
  · refine E_iconst (v := 0) dX9_needOf_57 rfl ?_
    exact E_iret rfl rfl dX9_needOf_58
def jM_needOf_24 (v1 : Int32) : Nat → Int32 → Int32 → Int32 → AH → Option (Int32 × AH)
  | 0, _, _, _, _ => none
  | n + 1, v3, v4, v5, h =>
    if v5 < 4096 then (if inb v5 4096 = true then (
    jb (uI h 44 0 v5.toNatClampNeg (-1)) fun h1 =>
    (jM_needOf_24 v1 n v3 v4 (v5 + 1) h1)) else none)
    else ((jM_needOf_46 v1 v3 v4 h))
set_option maxRecDepth 20000 in
set_option maxHeartbeats 2000000 in
theorem sM_needOf_24 (G : JG) (v1 : Int32)  : ∀ (n : Nat) (v3 : Int32) (v4 : Int32) (v5 : Int32) (h : AH), Sim G iM_needOf rvIM 24 [(0, .ref (G.ad 32 0)), (1, .int v1), (3, .int v3), (4, .int v4), (5, .int v5)] [] h (jM_needOf_24 v1 n v3 v4 v5 h) := by
  intro n
  induction n with
  | zero => intro v3 v4 v5 h; exact E_none
  | succ n ih =>
    intro v3 v4 v5 h
    rw [jM_needOf_24]
    refine E_iload dX9_needOf_24 4 rfl ?_
    refine E_sipush (v := 4096) dX9_needOf_26 rfl ?_
    refine E_icmp_ge (t := 46) dX9_needOf_29 rfl ?_ ?_
    · exact E_sub [0, 1, 2, 3] rfl (sM_needOf_46 G v1 v3 v4 h)
    · refine E_aload_n dX9_needOf_32 rfl 0 rfl ?_
      refine E_getF fl_X9_48 dX9_needOf_33 z32 ?_
      refine E_iload dX9_needOf_36 4 rfl ?_
      refine E_iconst (v := (-1)) dX9_needOf_38 rfl ?_
      refine E_iast (n := 4096) rfl dX9_needOf_39 z44 (fun _ => ?_)
      refine E_hgen (fun h1 => ?_)
      refine E_iinc (q := 4) (v := (v5 + 1)) (ls' := [(5, .int (v5 + 1)), (0, .ref (G.ad 32 0)), (1, .int v1), (3, .int v3), (4, .int v4)]) dX9_needOf_40 rfl rfl (Nat.le_of_ble_eq_true rfl) rfl ?_
      refine E_goto (t := 24) dX9_needOf_43 rfl ?_
      exact E_sub [1, 2, 3, 4, 0] rfl (ih v3 v4 (v5 + 1) h1)
def jM_needOf (h : AH) (v1 : Int32) : Option (Int32 × AH) :=
  (jM_alikeCells h).bind fun r1 =>
  (jM_wantedCells h).bind fun r2 =>
  (jM_payable h v1).bind fun r3 =>
  (jM_needOf_24 v1 FU (r2 &&& (r1 ^^^ (-1))) r3 0 h)
set_option maxRecDepth 20000 in
set_option maxHeartbeats 2000000 in
theorem sM_needOf (G : JG) (h : AH) (v1 : Int32) : Mt G iM_needOf rvIM [.ref (G.ad 32 0), .int v1] h (jM_needOf h v1) := by
  refine Mt_of (by decide) (Nat.le_of_ble_eq_true rfl) ?_
  unfold jM_needOf
  show Sim G iM_needOf rvIM 0 [(0, .ref (G.ad 32 0)), (1, .int v1)] [] h _
  refine E_aload_n dX9_needOf_0 rfl 0 rfl ?_
  refine E_cVI (As := []) (rest := []) (sM_alikeCells G h) ck_X9_alikeCells lk_X9_341 rfl rfl kc_32 z32 rfl rfl rfl dX9_needOf_1 (fun r1 _ => ?_)
  refine E_istore_n (ls' := [(2, .int r1), (0, .ref (G.ad 32 0)), (1, .int v1)]) dX9_needOf_4 rfl (Nat.le_of_ble_eq_true rfl) rfl ?_
  refine E_aload_n dX9_needOf_5 rfl 1 rfl ?_
  refine E_cVI (As := []) (rest := []) (sM_wantedCells G h) ck_X9_wantedCells lk_X9_362 rfl rfl kc_32 z32 rfl rfl rfl dX9_needOf_6 (fun r2 _ => ?_)
  refine E_iload_n dX9_needOf_9 rfl 0 rfl ?_
  refine E_iconst (v := (-1)) dX9_needOf_10 rfl ?_
  refine E_ixor dX9_needOf_11 ?_
  refine E_iand dX9_needOf_12 ?_
  refine E_istore_n (ls' := [(3, .int (r2 &&& (r1 ^^^ (-1)))), (2, .int r1), (0, .ref (G.ad 32 0)), (1, .int v1)]) dX9_needOf_13 rfl (Nat.le_of_ble_eq_true rfl) rfl ?_
  refine E_aload_n dX9_needOf_14 rfl 2 rfl ?_
  refine E_iload_n dX9_needOf_15 rfl 3 rfl ?_
  refine E_cVI (As := [.int v1]) (rest := []) (sM_payable G h v1) ck_X9_payable lk_X9_344 rfl rfl kc_32 z32 rfl rfl rfl dX9_needOf_16 (fun r3 _ => ?_)
  refine E_istore (ls' := [(4, .int r3), (3, .int (r2 &&& (r1 ^^^ (-1)))), (2, .int r1), (0, .ref (G.ad 32 0)), (1, .int v1)]) dX9_needOf_19 (Nat.le_of_ble_eq_true rfl) rfl ?_
  refine E_iconst (v := 0) dX9_needOf_21 rfl ?_
  refine E_istore (ls' := [(5, .int 0), (4, .int r3), (3, .int (r2 &&& (r1 ^^^ (-1)))), (2, .int r1), (0, .ref (G.ad 32 0)), (1, .int v1)]) dX9_needOf_22 (Nat.le_of_ble_eq_true rfl) rfl ?_
  exact E_sub [4, 5, 2, 1, 0] rfl (sM_needOf_24 G v1 FU (r2 &&& (r1 ^^^ (-1))) r3 0 h)
def iM_need : MI := (yX9_need, cX9_need, 3, (some .int), { frames := 7, cells := 0, slots := 0, locals := 168 }, 1)
theorem ck_X9_need : CK iM_need 1 := ⟨⟨wd_113, wd_1757, by decide +kernel⟩, ⟨wd_1755, wd_1756⟩⟩
def jM_need (h : AH) (v1 : Int32) : Option (Int32 × AH) :=
  (jM_good h).bind fun h1 =>
  (jM_yearWhy h1 v1).bind fun r2 =>
  if r2 = 0 then ((jM_needOf h1 v1).bind fun q3 =>
  some (q3.1, q3.2))
  else ((jM_no h1 r2).bind fun q4 =>
  some (q4.1, q4.2))
set_option maxRecDepth 20000 in
set_option maxHeartbeats 2000000 in
theorem sM_need (G : JG) (h : AH) (v1 : Int32) : Mt G iM_need rvIM [.ref (G.ad 32 0), .int v1] h (jM_need h v1) := by
  refine Mt_of (by decide) (Nat.le_of_ble_eq_true rfl) ?_
  unfold jM_need
  show Sim G iM_need rvIM 0 [(0, .ref (G.ad 32 0)), (1, .int v1)] [] h _
  refine E_aload_n dX9_need_0 rfl 0 rfl ?_
  refine E_cVV (As := []) (rest := []) (sM_good G h) ck_X9_good lk_X9_155 rfl rfl kc_32 z32 rfl rfl rfl dX9_need_1 (fun h1 _ => ?_)
  refine E_aload_n dX9_need_4 rfl 0 rfl ?_
  refine E_iload_n dX9_need_5 rfl 1 rfl ?_
  refine E_cVI (As := [.int v1]) (rest := []) (sM_yearWhy G h1 v1) ck_X9_yearWhy lk_X9_356 rfl rfl kc_32 z32 rfl rfl rfl dX9_need_6 (fun r2 _ => ?_)
  refine E_istore_n (ls' := [(2, .int r2), (0, .ref (G.ad 32 0)), (1, .int v1)]) dX9_need_9 rfl (Nat.le_of_ble_eq_true rfl) rfl ?_
  refine E_iload_n dX9_need_10 rfl 0 rfl ?_
  refine E_if_eq (t := 22) dX9_need_11 rfl ?_ ?_
  · refine E_aload_n dX9_need_22 rfl 1 rfl ?_
    refine E_iload_n dX9_need_23 rfl 2 rfl ?_
    refine E_cVIM (As := [.int v1]) (rest := []) (sM_needOf G h1 v1) ck_X9_needOf lk_X9_371 rfl rfl kc_32 z32 rfl rfl rfl dX9_need_24 (fun q3 _ => ?_)
    exact E_iret rfl rfl dX9_need_27
  · refine E_aload_n dX9_need_14 rfl 1 rfl ?_
    refine E_iload_n dX9_need_15 rfl 0 rfl ?_
    refine E_cVIM (As := [.int r2]) (rest := []) (sM_no G h1 r2) ck_X9_no lk_X9_158 rfl rfl kc_32 z32 rfl rfl rfl dX9_need_16 (fun q4 _ => ?_)
    refine E_goto (t := 27) dX9_need_19 rfl ?_
    exact E_iret rfl rfl dX9_need_27
def iM_old : MI := (yX9_old, cX9_old, 4, (some .int), { frames := 2, cells := 0, slots := 0, locals := 47 }, 1)
theorem ck_X9_old : CK iM_old 1 := ⟨⟨wd_113, wd_1608, by decide +kernel⟩, ⟨wd_1606, wd_1607⟩⟩
def jM_old_76 (v1 : Int32) (k_38 : Int32 → Int32 → AH → Option (Int32 × AH)) (v3 : Int32) (s0 : Int32) (h : AH) : Option (Int32 × AH) :=
  (k_38 (s0 + 0) (v3 + 1) h)
set_option maxRecDepth 20000 in
set_option maxHeartbeats 2000000 in
theorem sM_old_76 (G : JG) (v1 : Int32) (k_38 : Int32 → Int32 → AH → Option (Int32 × AH)) (hk_38 : ∀ (v2 : Int32) (v3 : Int32) (h : AH), Sim G iM_old rvIM 38 [(0, .ref (G.ad 32 0)), (1, .int v1), (2, .int v2), (3, .int v3)] [] h (k_38 v2 v3 h)) (v3 : Int32) (s0 : Int32) (h : AH) : Sim G iM_old rvIM 76 [(0, .ref (G.ad 32 0)), (1, .int v1), (3, .int v3)] [.int s0] h (jM_old_76 v1 k_38 v3 s0 h) := by
  unfold jM_old_76
  refine E_iconst (v := 0) dX9_old_76 rfl ?_
  refine E_iadd dX9_old_77 ?_
  refine E_istore_n (ls' := [(2, .int (s0 + 0)), (0, .ref (G.ad 32 0)), (1, .int v1), (3, .int v3)]) dX9_old_78 rfl (Nat.le_of_ble_eq_true rfl) rfl ?_
  refine E_iinc (q := 3) (v := (v3 + 1)) (ls' := [(3, .int (v3 + 1)), (2, .int (s0 + 0)), (0, .ref (G.ad 32 0)), (1, .int v1)]) dX9_old_79 rfl rfl (Nat.le_of_ble_eq_true rfl) rfl ?_
  refine E_goto (t := 38) dX9_old_82 rfl ?_
  exact E_sub [2, 3, 1, 0] rfl (hk_38 (s0 + 0) (v3 + 1) h)
def jM_old_38 (v1 : Int32) : Nat → Int32 → Int32 → AH → Option (Int32 × AH)
  | 0, _, _, _ => none
  | n + 1, v2, v3, h =>
    (jM_cellMany h).bind fun r1 =>
    if v3 < r1 then ((jM_under h v3 0).bind fun r2 =>
    if r2 = (-2) then ((jM_old_76 v1 (jM_old_38 v1 n) v3 v2 h))
    else ((jM_under h v3 0).bind fun r3 =>
    (jM_yearOf h r3).bind fun r4 =>
    if r4 ≤ v1 then ((jM_old_38 v1 n (v2 + 1) (v3 + 1) h))
    else ((jM_old_76 v1 (jM_old_38 v1 n) v3 v2 h))))
    else (some (v2, h))
set_option maxRecDepth 20000 in
set_option maxHeartbeats 2000000 in
theorem sM_old_38 (G : JG) (v1 : Int32)  : ∀ (n : Nat) (v2 : Int32) (v3 : Int32) (h : AH), Sim G iM_old rvIM 38 [(0, .ref (G.ad 32 0)), (1, .int v1), (2, .int v2), (3, .int v3)] [] h (jM_old_38 v1 n v2 v3 h) := by
  intro n
  induction n with
  | zero => intro v2 v3 h; exact E_none
  | succ n ih =>
    intro v2 v3 h
    rw [jM_old_38]
    refine E_iload_n dX9_old_38 rfl 3 rfl ?_
    refine E_aload_n dX9_old_39 rfl 0 rfl ?_
    refine E_cVI (As := []) (rest := [.int v3]) (sM_cellMany G h) ck_X9_cellMany lk_X9_287 rfl rfl kc_32 z32 rfl rfl rfl dX9_old_40 (fun r1 _ => ?_)
    refine E_icmp_ge (t := 85) dX9_old_43 rfl ?_ ?_
    · refine E_iload_n dX9_old_85 rfl 2 rfl ?_
      exact E_iret rfl rfl dX9_old_86
    · refine E_iload_n dX9_old_46 rfl 2 rfl ?_
      refine E_aload_n dX9_old_47 rfl 0 rfl ?_
      refine E_iload_n dX9_old_48 rfl 3 rfl ?_
      refine E_iconst (v := 0) dX9_old_49 rfl ?_
      refine E_cVI (As := [.int v3, .int 0]) (rest := [.int v2]) (sM_under G h v3 0) ck_X9_under lk_X9_265 rfl rfl kc_32 z32 rfl rfl rfl dX9_old_50 (fun r2 _ => ?_)
      refine E_bipush (v := (-2)) dX9_old_53 rfl ?_
      refine E_icmp_eq (t := 76) dX9_old_55 rfl ?_ ?_
      · exact E_sub [0, 1, 3] rfl (sM_old_76 G v1 (jM_old_38 v1 n) ih v3 v2 h)
      · refine E_aload_n dX9_old_58 rfl 0 rfl ?_
        refine E_aload_n dX9_old_59 rfl 0 rfl ?_
        refine E_iload_n dX9_old_60 rfl 3 rfl ?_
        refine E_iconst (v := 0) dX9_old_61 rfl ?_
        refine E_cVI (As := [.int v3, .int 0]) (rest := [.ref (G.ad 32 0), .int v2]) (sM_under G h v3 0) ck_X9_under lk_X9_265 rfl rfl kc_32 z32 rfl rfl rfl dX9_old_62 (fun r3 _ => ?_)
        refine E_cVI (As := [.int r3]) (rest := [.int v2]) (sM_yearOf G h r3) ck_X9_yearOf lk_X9_278 rfl rfl kc_32 z32 rfl rfl rfl dX9_old_65 (fun r4 _ => ?_)
        refine E_iload_n dX9_old_68 rfl 1 rfl ?_
        refine E_icmp_gt (t := 76) dX9_old_69 rfl ?_ ?_
        · exact E_sub [0, 1, 3] rfl (sM_old_76 G v1 (jM_old_38 v1 n) ih v3 v2 h)
        · refine E_iconst (v := 1) dX9_old_72 rfl ?_
          refine E_goto (t := 77) dX9_old_73 rfl ?_
          refine E_iadd dX9_old_77 ?_
          refine E_istore_n (ls' := [(2, .int (v2 + 1)), (0, .ref (G.ad 32 0)), (1, .int v1), (3, .int v3)]) dX9_old_78 rfl (Nat.le_of_ble_eq_true rfl) rfl ?_
          refine E_iinc (q := 3) (v := (v3 + 1)) (ls' := [(3, .int (v3 + 1)), (2, .int (v2 + 1)), (0, .ref (G.ad 32 0)), (1, .int v1)]) dX9_old_79 rfl rfl (Nat.le_of_ble_eq_true rfl) rfl ?_
          refine E_goto (t := 38) dX9_old_82 rfl ?_
          exact E_sub [2, 3, 1, 0] rfl (ih (v2 + 1) (v3 + 1) h)
def jM_old (h : AH) (v1 : Int32) : Option (Int32 × AH) :=
  (jM_good h).bind fun h1 =>
  if (gI h1 32 0 14) = 0 then ((jM_no h1 1).bind fun q4 =>
  some (q4.1, q4.2))
  else ((jM_within v1 0 999).bind fun r2 =>
  if r2 = 0 then ((jM_no h1 2).bind fun q3 =>
  some (q3.1, q3.2))
  else ((jM_old_38 v1 FU 0 0 h1)))
set_option maxRecDepth 20000 in
set_option maxHeartbeats 2000000 in
theorem sM_old (G : JG) (h : AH) (v1 : Int32) : Mt G iM_old rvIM [.ref (G.ad 32 0), .int v1] h (jM_old h v1) := by
  refine Mt_of (by decide) (Nat.le_of_ble_eq_true rfl) ?_
  unfold jM_old
  show Sim G iM_old rvIM 0 [(0, .ref (G.ad 32 0)), (1, .int v1)] [] h _
  refine E_aload_n dX9_old_0 rfl 0 rfl ?_
  refine E_cVV (As := []) (rest := []) (sM_good G h) ck_X9_good lk_X9_155 rfl rfl kc_32 z32 rfl rfl rfl dX9_old_1 (fun h1 _ => ?_)
  refine E_aload_n dX9_old_4 rfl 0 rfl ?_
  refine E_getI fl_X9_168 dX9_old_5 z32 ?_
  refine E_if_ne (t := 17) dX9_old_8 rfl ?_ ?_
  · refine E_iload_n dX9_old_17 rfl 1 rfl ?_
    refine E_iconst (v := 0) dX9_old_18 rfl ?_
    refine E_sipush (v := 999) dX9_old_19 rfl ?_
    refine E_cSI (As := [.int v1, .int 0, .int 999]) (rest := []) (sM_within G h1 v1 0 999) ck_X9_within lk_X9_139 rfl rfl rfl rfl rfl dX9_old_22 (fun r2 _ => ?_)
    refine E_if_ne (t := 34) dX9_old_25 rfl ?_ ?_
    · refine E_iconst (v := 0) dX9_old_34 rfl ?_
      refine E_istore_n (ls' := [(2, .int 0), (0, .ref (G.ad 32 0)), (1, .int v1)]) dX9_old_35 rfl (Nat.le_of_ble_eq_true rfl) rfl ?_
      refine E_iconst (v := 0) dX9_old_36 rfl ?_
      refine E_istore_n (ls' := [(3, .int 0), (2, .int 0), (0, .ref (G.ad 32 0)), (1, .int v1)]) dX9_old_37 rfl (Nat.le_of_ble_eq_true rfl) rfl ?_
      exact E_sub [2, 3, 1, 0] rfl (sM_old_38 G v1 FU 0 0 h1)
    · refine E_aload_n dX9_old_28 rfl 0 rfl ?_
      refine E_iconst (v := 2) dX9_old_29 rfl ?_
      refine E_cVIM (As := [.int 2]) (rest := []) (sM_no G h1 2) ck_X9_no lk_X9_158 rfl rfl kc_32 z32 rfl rfl rfl dX9_old_30 (fun q3 _ => ?_)
      exact E_iret rfl rfl dX9_old_33
  · refine E_aload_n dX9_old_11 rfl 0 rfl ?_
    refine E_iconst (v := 1) dX9_old_12 rfl ?_
    refine E_cVIM (As := [.int 1]) (rest := []) (sM_no G h1 1) ck_X9_no lk_X9_158 rfl rfl kc_32 z32 rfl rfl rfl dX9_old_13 (fun q4 _ => ?_)
    exact E_iret rfl rfl dX9_old_16
def iM_orders : MI := (yX9_orders, cX9_orders, 5, (some .long), { frames := 3, cells := 0, slots := 0, locals := 68 }, 1)
theorem ck_X9_orders : CK iM_orders 0 := ⟨⟨wd_113, wd_1705, by decide +kernel⟩, ⟨wd_1703, wd_1704⟩⟩
def jM_orders_56 (k_42 : Int32 → Int32 → AH → Option (Int64 × AH)) : Nat → Int32 → Int32 → Int32 → AH → Option (Int64 × AH)
  | 0, _, _, _, _ => none
  | n + 1, v1, v2, v3, h =>
    if inb 0 340 = true then (
    if v3 < (gI h 37 0 (0 : Int32).toNatClampNeg) then (jb ((v2 &&& (((1 : Int32) <<< (v3 &&& 31)) ^^^ (-1))) : Int32) fun y1 =>
    (jM_has v2 v3).bind fun r2 =>
    if r2 = 0 then ((jM_orders_56 k_42 n v1 v2 (v3 + 1) h))
    else (if inb v3 12 = true then (
    if ((gI h 42 0 v3.toNatClampNeg) &&& (y1 ^^^ (-1))) = 0 then (if inb v2 4096 = true then (
    if inb y1 4096 = true then (
    if inb v2 4096 = true then (
    jb (uL h 43 0 v2.toNatClampNeg ((gL h 43 0 v2.toNatClampNeg) + (gL h 43 0 y1.toNatClampNeg))) fun h3 =>
    (jM_orders_56 k_42 n v1 v2 (v3 + 1) h3)) else none) else none) else none)
    else ((jM_orders_56 k_42 n v1 v2 (v3 + 1) h))) else none))
    else ((k_42 v1 (v2 + 1) h))) else none
set_option maxRecDepth 20000 in
set_option maxHeartbeats 2000000 in
theorem sM_orders_56 (G : JG)  (k_42 : Int32 → Int32 → AH → Option (Int64 × AH)) (hk_42 : ∀ (v1 : Int32) (v2 : Int32) (h : AH), Sim G iM_orders rvLM 42 [(0, .ref (G.ad 32 0)), (1, .int v1), (2, .int v2)] [] h (k_42 v1 v2 h)) : ∀ (n : Nat) (v1 : Int32) (v2 : Int32) (v3 : Int32) (h : AH), Sim G iM_orders rvLM 56 [(0, .ref (G.ad 32 0)), (1, .int v1), (2, .int v2), (3, .int v3)] [] h (jM_orders_56 k_42 n v1 v2 v3 h) := by
  intro n
  induction n with
  | zero => intro v1 v2 v3 h; exact E_none
  | succ n ih =>
    intro v1 v2 v3 h
    rw [jM_orders_56]
    refine E_iload_n dX9_orders_56 rfl 3 rfl ?_
    refine E_aload_n dX9_orders_57 rfl 0 rfl ?_
    refine E_getF fl_X9_26 dX9_orders_58 z32 ?_
    refine E_iconst (v := 0) dX9_orders_61 rfl ?_
    refine E_iald (n := 340) rfl dX9_orders_62 z37 (fun _ => ?_)
    refine E_icmp_ge (t := 119) dX9_orders_63 rfl ?_ ?_
    · refine E_iinc (q := 2) (v := (v2 + 1)) (ls' := [(2, .int (v2 + 1)), (0, .ref (G.ad 32 0)), (1, .int v1), (3, .int v3)]) dX9_orders_119 rfl rfl (Nat.le_of_ble_eq_true rfl) rfl ?_
      refine E_goto (t := 42) dX9_orders_122 rfl ?_
      exact E_sub [1, 2, 0] rfl (hk_42 v1 (v2 + 1) h)
    · refine E_iload_n dX9_orders_66 rfl 2 rfl ?_
      refine E_iconst (v := 1) dX9_orders_67 rfl ?_
      refine E_iload_n dX9_orders_68 rfl 3 rfl ?_
      refine E_ishl dX9_orders_69 ?_
      refine E_iconst (v := (-1)) dX9_orders_70 rfl ?_
      refine E_ixor dX9_orders_71 ?_
      refine E_iand dX9_orders_72 ?_
      refine E_topi (fun y1 => ?_)
      refine E_istore (ls' := [(4, .int y1), (0, .ref (G.ad 32 0)), (1, .int v1), (2, .int v2), (3, .int v3)]) dX9_orders_73 (Nat.le_of_ble_eq_true rfl) rfl ?_
      refine E_iload_n dX9_orders_75 rfl 3 rfl ?_
      refine E_iload_n dX9_orders_76 rfl 4 rfl ?_
      refine E_cSI (As := [.int v2, .int v3]) (rest := []) (sM_has G h v2 v3) ck_X9_has lk_X9_290 rfl rfl rfl rfl rfl dX9_orders_77 (fun r2 _ => ?_)
      refine E_if_eq (t := 113) dX9_orders_80 rfl ?_ ?_
      · refine E_iinc (q := 4) (v := (v3 + 1)) (ls' := [(3, .int (v3 + 1)), (4, .int y1), (0, .ref (G.ad 32 0)), (1, .int v1), (2, .int v2)]) dX9_orders_113 rfl rfl (Nat.le_of_ble_eq_true rfl) rfl ?_
        refine E_goto (t := 56) dX9_orders_116 rfl ?_
        exact E_sub [2, 3, 4, 0] rfl (ih v1 v2 (v3 + 1) h)
      · refine E_aload_n dX9_orders_83 rfl 1 rfl ?_
        refine E_getF fl_X9_41 dX9_orders_84 z32 ?_
        refine E_iload_n dX9_orders_87 rfl 4 rfl ?_
        refine E_iald (n := 12) rfl dX9_orders_88 z42 (fun _ => ?_)
        refine E_iload dX9_orders_89 0 rfl ?_
        refine E_iconst (v := (-1)) dX9_orders_91 rfl ?_
        refine E_ixor dX9_orders_92 ?_
        refine E_iand dX9_orders_93 ?_
        refine E_if_ne (t := 113) dX9_orders_94 rfl ?_ ?_
        · refine E_iinc (q := 4) (v := (v3 + 1)) (ls' := [(3, .int (v3 + 1)), (4, .int y1), (0, .ref (G.ad 32 0)), (1, .int v1), (2, .int v2)]) dX9_orders_113 rfl rfl (Nat.le_of_ble_eq_true rfl) rfl ?_
          refine E_goto (t := 56) dX9_orders_116 rfl ?_
          exact E_sub [2, 3, 4, 0] rfl (ih v1 v2 (v3 + 1) h)
        · refine E_aload_n dX9_orders_97 rfl 1 rfl ?_
          refine E_getF fl_X9_44 dX9_orders_98 z32 ?_
          refine E_iload_n dX9_orders_101 rfl 3 rfl ?_
          refine E_dup2 dX9_orders_102 rfl rfl ?_
          refine E_lald (n := 4096) rfl dX9_orders_103 z43 (fun _ => ?_)
          refine E_aload_n dX9_orders_104 rfl 1 rfl ?_
          refine E_getF fl_X9_44 dX9_orders_105 z32 ?_
          refine E_iload dX9_orders_108 0 rfl ?_
          refine E_lald (n := 4096) rfl dX9_orders_110 z43 (fun _ => ?_)
          refine E_ladd dX9_orders_111 ?_
          refine E_last (n := 4096) rfl dX9_orders_112 z43 (fun _ => ?_)
          refine E_hgen (fun h3 => ?_)
          refine E_iinc (q := 4) (v := (v3 + 1)) (ls' := [(3, .int (v3 + 1)), (4, .int y1), (0, .ref (G.ad 32 0)), (1, .int v1), (2, .int v2)]) dX9_orders_113 rfl rfl (Nat.le_of_ble_eq_true rfl) rfl ?_
          refine E_goto (t := 56) dX9_orders_116 rfl ?_
          exact E_sub [2, 3, 4, 0] rfl (ih v1 v2 (v3 + 1) h3)
def jM_orders_42  : Nat → Int32 → Int32 → AH → Option (Int64 × AH)
  | 0, _, _, _ => none
  | n + 1, v1, v2, h =>
    if v2 ≤ v1 then (if inb v2 4096 = true then (
    jb (uL h 43 0 v2.toNatClampNeg 0) fun h1 =>
    (jM_orders_56 (jM_orders_42 n) FU v1 v2 0 h1)) else none)
    else (if inb v1 4096 = true then (
    some ((gL h 43 0 v1.toNatClampNeg), h)) else none)
set_option maxRecDepth 20000 in
set_option maxHeartbeats 2000000 in
theorem sM_orders_42 (G : JG)   : ∀ (n : Nat) (v1 : Int32) (v2 : Int32) (h : AH), Sim G iM_orders rvLM 42 [(0, .ref (G.ad 32 0)), (1, .int v1), (2, .int v2)] [] h (jM_orders_42 n v1 v2 h) := by
  intro n
  induction n with
  | zero => intro v1 v2 h; exact E_none
  | succ n ih =>
    intro v1 v2 h
    rw [jM_orders_42]
    refine E_iload_n dX9_orders_42 rfl 2 rfl ?_
    refine E_iload_n dX9_orders_43 rfl 1 rfl ?_
    refine E_icmp_gt (t := 125) dX9_orders_44 rfl ?_ ?_
    · refine E_aload_n dX9_orders_125 rfl 0 rfl ?_
      refine E_getF fl_X9_44 dX9_orders_126 z32 ?_
      refine E_iload_n dX9_orders_129 rfl 1 rfl ?_
      refine E_lald (n := 4096) rfl dX9_orders_130 z43 (fun _ => ?_)
      exact E_lret rfl rfl dX9_orders_131
    · refine E_aload_n dX9_orders_47 rfl 0 rfl ?_
      refine E_getF fl_X9_44 dX9_orders_48 z32 ?_
      refine E_iload_n dX9_orders_51 rfl 2 rfl ?_
      refine E_lconst (v := 0) dX9_orders_52 rfl ?_
      refine E_last (n := 4096) rfl dX9_orders_53 z43 (fun _ => ?_)
      refine E_hgen (fun h1 => ?_)
      refine E_iconst (v := 0) dX9_orders_54 rfl ?_
      refine E_istore_n (ls' := [(3, .int 0), (0, .ref (G.ad 32 0)), (1, .int v1), (2, .int v2)]) dX9_orders_55 rfl (Nat.le_of_ble_eq_true rfl) rfl ?_
      exact E_sub [1, 2, 3, 0] rfl (sM_orders_56 G (jM_orders_42 n) ih FU v1 v2 0 h1)
def jM_orders (h : AH)  : Option (Int64 × AH) :=
  (jM_good h).bind fun h1 =>
  if (gI h1 32 0 14) = 0 then ((jM_no h1 1).bind fun q5 =>
  some (q5.1.toInt64, q5.2))
  else ((jM_laySure h1).bind fun h2 =>
  if inb 0 4096 = true then (
  jb (uL h2 43 0 (0 : Int32).toNatClampNeg 1) fun h3 =>
  if inb 0 340 = true then (
  jb ((((1 : Int32) <<< ((gI h3 37 0 (0 : Int32).toNatClampNeg) &&& 31)) - 1) : Int32) fun y4 =>
  (jM_orders_42 FU y4 1 h3)) else none) else none)
set_option maxRecDepth 20000 in
set_option maxHeartbeats 2000000 in
theorem sM_orders (G : JG) (h : AH)  : Mt G iM_orders rvLM [.ref (G.ad 32 0)] h (jM_orders h) := by
  refine Mt_of (by decide) (Nat.le_of_ble_eq_true rfl) ?_
  unfold jM_orders
  show Sim G iM_orders rvLM 0 [(0, .ref (G.ad 32 0))] [] h _
  refine E_aload_n dX9_orders_0 rfl 0 rfl ?_
  refine E_cVV (As := []) (rest := []) (sM_good G h) ck_X9_good lk_X9_155 rfl rfl kc_32 z32 rfl rfl rfl dX9_orders_1 (fun h1 _ => ?_)
  refine E_aload_n dX9_orders_4 rfl 0 rfl ?_
  refine E_getI fl_X9_168 dX9_orders_5 z32 ?_
  refine E_if_ne (t := 18) dX9_orders_8 rfl ?_ ?_
  · refine E_aload_n dX9_orders_18 rfl 0 rfl ?_
    refine E_cVV (As := []) (rest := []) (sM_laySure G h1) ck_X9_laySure lk_X9_332 rfl rfl kc_32 z32 rfl rfl rfl dX9_orders_19 (fun h2 _ => ?_)
    refine E_aload_n dX9_orders_22 rfl 0 rfl ?_
    refine E_getF fl_X9_44 dX9_orders_23 z32 ?_
    refine E_iconst (v := 0) dX9_orders_26 rfl ?_
    refine E_lconst (v := 1) dX9_orders_27 rfl ?_
    refine E_last (n := 4096) rfl dX9_orders_28 z43 (fun _ => ?_)
    refine E_hgen (fun h3 => ?_)
    refine E_iconst (v := 1) dX9_orders_29 rfl ?_
    refine E_aload_n dX9_orders_30 rfl 0 rfl ?_
    refine E_getF fl_X9_26 dX9_orders_31 z32 ?_
    refine E_iconst (v := 0) dX9_orders_34 rfl ?_
    refine E_iald (n := 340) rfl dX9_orders_35 z37 (fun _ => ?_)
    refine E_ishl dX9_orders_36 ?_
    refine E_iconst (v := 1) dX9_orders_37 rfl ?_
    refine E_isub dX9_orders_38 ?_
    refine E_topi (fun y4 => ?_)
    refine E_istore_n (ls' := [(1, .int y4), (0, .ref (G.ad 32 0))]) dX9_orders_39 rfl (Nat.le_of_ble_eq_true rfl) rfl ?_
    refine E_iconst (v := 1) dX9_orders_40 rfl ?_
    refine E_istore_n (ls' := [(2, .int 1), (1, .int y4), (0, .ref (G.ad 32 0))]) dX9_orders_41 rfl (Nat.le_of_ble_eq_true rfl) rfl ?_
    exact E_sub [2, 1, 0] rfl (sM_orders_42 G FU y4 1 h3)
  · refine E_aload_n dX9_orders_11 rfl 0 rfl ?_
    refine E_iconst (v := 1) dX9_orders_12 rfl ?_
    refine E_cVIM (As := [.int 1]) (rest := []) (sM_no G h1 1) ck_X9_no lk_X9_158 rfl rfl kc_32 z32 rfl rfl rfl dX9_orders_13 (fun q5 _ => ?_)
    refine E_i2l dX9_orders_16 ?_
    exact E_lret rfl rfl dX9_orders_17
def iM_paint : MI := (yX9_paint, cX9_paint, 4, (some .int), { frames := 2, cells := 0, slots := 0, locals := 44 }, 1)
theorem ck_X9_paint : CK iM_paint 3 := ⟨⟨wd_113, wd_1650, by decide +kernel⟩, ⟨wd_1648, wd_1649⟩⟩
def jM_paint (h : AH) (v1 : Int32) (v2 : Int32) (v3 : Int32) : Option (Int32 × AH) :=
  (jM_good h).bind fun h1 =>
  (jM_isWork h1 v1).bind fun r2 =>
  if r2 = 0 then ((jM_no h1 1).bind fun q3 =>
  some (q3.1, q3.2))
  else ((jM_isCell h1 v2 v3).bind fun r4 =>
  if r4 = 0 then ((jM_no h1 1).bind fun q5 =>
  some (q5.1, q5.2))
  else ((jM_cellOf h1 v2 v3).bind fun r6 =>
  (jM_paintOf h1 v1 r6).bind fun r7 =>
  some (r7, h1)))
set_option maxRecDepth 20000 in
set_option maxHeartbeats 2000000 in
theorem sM_paint (G : JG) (h : AH) (v1 : Int32) (v2 : Int32) (v3 : Int32) : Mt G iM_paint rvIM [.ref (G.ad 32 0), .int v1, .int v2, .int v3] h (jM_paint h v1 v2 v3) := by
  refine Mt_of (by decide) (Nat.le_of_ble_eq_true rfl) ?_
  unfold jM_paint
  show Sim G iM_paint rvIM 0 [(0, .ref (G.ad 32 0)), (1, .int v1), (2, .int v2), (3, .int v3)] [] h _
  refine E_aload_n dX9_paint_0 rfl 0 rfl ?_
  refine E_cVV (As := []) (rest := []) (sM_good G h) ck_X9_good lk_X9_155 rfl rfl kc_32 z32 rfl rfl rfl dX9_paint_1 (fun h1 _ => ?_)
  refine E_aload_n dX9_paint_4 rfl 0 rfl ?_
  refine E_iload_n dX9_paint_5 rfl 1 rfl ?_
  refine E_cVI (As := [.int v1]) (rest := []) (sM_isWork G h1 v1) ck_X9_isWork lk_X9_326 rfl rfl kc_32 z32 rfl rfl rfl dX9_paint_6 (fun r2 _ => ?_)
  refine E_if_eq (t := 35) dX9_paint_9 rfl ?_ ?_
  · refine E_aload_n dX9_paint_35 rfl 0 rfl ?_
    refine E_iconst (v := 1) dX9_paint_36 rfl ?_
    refine E_cVIM (As := [.int 1]) (rest := []) (sM_no G h1 1) ck_X9_no lk_X9_158 rfl rfl kc_32 z32 rfl rfl rfl dX9_paint_37 (fun q3 _ => ?_)
    exact E_iret rfl rfl dX9_paint_40
  · refine E_aload_n dX9_paint_12 rfl 0 rfl ?_
    refine E_iload_n dX9_paint_13 rfl 2 rfl ?_
    refine E_iload_n dX9_paint_14 rfl 3 rfl ?_
    refine E_cVI (As := [.int v2, .int v3]) (rest := []) (sM_isCell G h1 v2 v3) ck_X9_isCell lk_X9_268 rfl rfl kc_32 z32 rfl rfl rfl dX9_paint_15 (fun r4 _ => ?_)
    refine E_if_eq (t := 35) dX9_paint_18 rfl ?_ ?_
    · refine E_aload_n dX9_paint_35 rfl 0 rfl ?_
      refine E_iconst (v := 1) dX9_paint_36 rfl ?_
      refine E_cVIM (As := [.int 1]) (rest := []) (sM_no G h1 1) ck_X9_no lk_X9_158 rfl rfl kc_32 z32 rfl rfl rfl dX9_paint_37 (fun q5 _ => ?_)
      exact E_iret rfl rfl dX9_paint_40
    · refine E_aload_n dX9_paint_21 rfl 0 rfl ?_
      refine E_iload_n dX9_paint_22 rfl 1 rfl ?_
      refine E_aload_n dX9_paint_23 rfl 0 rfl ?_
      refine E_iload_n dX9_paint_24 rfl 2 rfl ?_
      refine E_iload_n dX9_paint_25 rfl 3 rfl ?_
      refine E_cVI (As := [.int v2, .int v3]) (rest := [.int v1, .ref (G.ad 32 0)]) (sM_cellOf G h1 v2 v3) ck_X9_cellOf lk_X9_272 rfl rfl kc_32 z32 rfl rfl rfl dX9_paint_26 (fun r6 _ => ?_)
      refine E_cVI (As := [.int v1, .int r6]) (rest := []) (sM_paintOf G h1 v1 r6) ck_X9_paintOf lk_X9_262 rfl rfl kc_32 z32 rfl rfl rfl dX9_paint_29 (fun r7 _ => ?_)
      refine E_goto (t := 40) dX9_paint_32 rfl ?_
      exact E_iret rfl rfl dX9_paint_40
def iM_patch : MI := (yX9_patch, cX9_patch, 6, (some .boolean), { frames := 2, cells := 0, slots := 0, locals := 46 }, 1)
theorem ck_X9_patch : CK iM_patch 5 := ⟨⟨wd_113, wd_1817, by decide +kernel⟩, ⟨wd_1815, wd_1816⟩⟩
def jM_patch (h : AH) (v1 : Int32) (v2 : Int32) (v3 : Int32) (v4 : Int32) (v5 : Int32) : Option (Int32 × AH) :=
  (jM_good h).bind fun h1 =>
  if (gI h1 32 0 14) = 0 then ((jM_isNot h1 1).bind fun q2 =>
  if isZ q2.1 = true then some (q2.1, q2.2) else none)
  else (if inb 4 161 = true then (
  (jM_within v1 0 ((gI h1 35 0 (4 : Int32).toNatClampNeg) - 1)).bind fun r3 =>
  if r3 = 0 then ((jM_isNot h1 1).bind fun q18 =>
  if isZ q18.1 = true then some (q18.1, q18.2) else none)
  else ((jM_isCell h1 v2 v3).bind fun r4 =>
  if r4 = 0 then ((jM_isNot h1 2).bind fun q5 =>
  if isZ q5.1 = true then some (q5.1, q5.2) else none)
  else ((jM_isCell h1 v4 v5).bind fun r6 =>
  if r6 = 0 then ((jM_isNot h1 2).bind fun q7 =>
  if isZ q7.1 = true then some (q7.1, q7.2) else none)
  else (if v4 < v2 then ((jM_isNot h1 2).bind fun q8 =>
  if isZ q8.1 = true then some (q8.1, q8.2) else none)
  else (if v5 < v3 then ((jM_isNot h1 2).bind fun q17 =>
  if isZ q17.1 = true then some (q17.1, q17.2) else none)
  else (if inb 1 340 = true then (
  if (gI h1 37 0 (1 : Int32).toNatClampNeg) = 0 then ((jM_isNot h1 6).bind fun q16 =>
  if isZ q16.1 = true then some (q16.1, q16.2) else none)
  else ((jM_note h1).bind fun h9 =>
  jb (uI h9 32 0 24 v2) fun h10 =>
  jb (uI h10 32 0 25 v3) fun h11 =>
  jb (uI h11 32 0 26 v4) fun h12 =>
  jb (uI h12 32 0 27 v5) fun h13 =>
  if inb 0 340 = true then (
  if inb 0 161 = true then (
  (jM_fill h13 37 ((2 + (26 * (gI h13 37 0 (0 : Int32).toNatClampNeg))) + 2) v1 (gI h13 35 0 (0 : Int32).toNatClampNeg)).bind fun h14 =>
  (jM_did h14).bind fun q15 =>
  if isZ q15.1 = true then some (q15.1, q15.2) else none) else none) else none)) else none)))))) else none)
set_option maxRecDepth 20000 in
set_option maxHeartbeats 2000000 in
theorem sM_patch (G : JG) (h : AH) (v1 : Int32) (v2 : Int32) (v3 : Int32) (v4 : Int32) (v5 : Int32) : Mt G iM_patch rvIM [.ref (G.ad 32 0), .int v1, .int v2, .int v3, .int v4, .int v5] h (jM_patch h v1 v2 v3 v4 v5) := by
  refine Mt_of (by decide) (Nat.le_of_ble_eq_true rfl) ?_
  unfold jM_patch
  show Sim G iM_patch rvIM 0 [(0, .ref (G.ad 32 0)), (1, .int v1), (2, .int v2), (3, .int v3), (4, .int v4), (5, .int v5)] [] h _
  refine E_aload_n dX9_patch_0 rfl 0 rfl ?_
  refine E_cVV (As := []) (rest := []) (sM_good G h) ck_X9_good lk_X9_155 rfl rfl kc_32 z32 rfl rfl rfl dX9_patch_1 (fun h1 _ => ?_)
  refine E_aload_n dX9_patch_4 rfl 0 rfl ?_
  refine E_getI fl_X9_168 dX9_patch_5 z32 ?_
  refine E_if_eq (t := 27) dX9_patch_8 rfl ?_ ?_
  · refine E_aload_n dX9_patch_27 rfl 0 rfl ?_
    refine E_iconst (v := 1) dX9_patch_28 rfl ?_
    refine E_cVIM (As := [.int 1]) (rest := []) (sM_isNot G h1 1) ck_X9_isNot lk_X9_380 rfl rfl kc_32 z32 rfl rfl rfl dX9_patch_29 (fun q2 _ => ?_)
    exact E_zretg rfl rfl dX9_patch_32
  · refine E_iload_n dX9_patch_11 rfl 1 rfl ?_
    refine E_iconst (v := 0) dX9_patch_12 rfl ?_
    refine E_aload_n dX9_patch_13 rfl 0 rfl ?_
    refine E_getF fl_X9_20 dX9_patch_14 z32 ?_
    refine E_iconst (v := 4) dX9_patch_17 rfl ?_
    refine E_iald (n := 161) rfl dX9_patch_18 z35 (fun _ => ?_)
    refine E_iconst (v := 1) dX9_patch_19 rfl ?_
    refine E_isub dX9_patch_20 ?_
    refine E_cSI (As := [.int v1, .int 0, .int ((gI h1 35 0 (4 : Int32).toNatClampNeg) - 1)]) (rest := []) (sM_within G h1 v1 0 ((gI h1 35 0 (4 : Int32).toNatClampNeg) - 1)) ck_X9_within lk_X9_139 rfl rfl rfl rfl rfl dX9_patch_21 (fun r3 _ => ?_)
    refine E_if_ne (t := 33) dX9_patch_24 rfl ?_ ?_
    · refine E_aload_n dX9_patch_33 rfl 0 rfl ?_
      refine E_iload_n dX9_patch_34 rfl 2 rfl ?_
      refine E_iload_n dX9_patch_35 rfl 3 rfl ?_
      refine E_cVI (As := [.int v2, .int v3]) (rest := []) (sM_isCell G h1 v2 v3) ck_X9_isCell lk_X9_268 rfl rfl kc_32 z32 rfl rfl rfl dX9_patch_36 (fun r4 _ => ?_)
      refine E_if_eq (t := 65) dX9_patch_39 rfl ?_ ?_
      · refine E_aload_n dX9_patch_65 rfl 0 rfl ?_
        refine E_iconst (v := 2) dX9_patch_66 rfl ?_
        refine E_cVIM (As := [.int 2]) (rest := []) (sM_isNot G h1 2) ck_X9_isNot lk_X9_380 rfl rfl kc_32 z32 rfl rfl rfl dX9_patch_67 (fun q5 _ => ?_)
        exact E_zretg rfl rfl dX9_patch_70
      · refine E_aload_n dX9_patch_42 rfl 0 rfl ?_
        refine E_iload dX9_patch_43 4 rfl ?_
        refine E_iload dX9_patch_45 5 rfl ?_
        refine E_cVI (As := [.int v4, .int v5]) (rest := []) (sM_isCell G h1 v4 v5) ck_X9_isCell lk_X9_268 rfl rfl kc_32 z32 rfl rfl rfl dX9_patch_47 (fun r6 _ => ?_)
        refine E_if_eq (t := 65) dX9_patch_50 rfl ?_ ?_
        · refine E_aload_n dX9_patch_65 rfl 0 rfl ?_
          refine E_iconst (v := 2) dX9_patch_66 rfl ?_
          refine E_cVIM (As := [.int 2]) (rest := []) (sM_isNot G h1 2) ck_X9_isNot lk_X9_380 rfl rfl kc_32 z32 rfl rfl rfl dX9_patch_67 (fun q7 _ => ?_)
          exact E_zretg rfl rfl dX9_patch_70
        · refine E_iload dX9_patch_53 4 rfl ?_
          refine E_iload_n dX9_patch_55 rfl 2 rfl ?_
          refine E_icmp_lt (t := 65) dX9_patch_56 rfl ?_ ?_
          · refine E_aload_n dX9_patch_65 rfl 0 rfl ?_
            refine E_iconst (v := 2) dX9_patch_66 rfl ?_
            refine E_cVIM (As := [.int 2]) (rest := []) (sM_isNot G h1 2) ck_X9_isNot lk_X9_380 rfl rfl kc_32 z32 rfl rfl rfl dX9_patch_67 (fun q8 _ => ?_)
            exact E_zretg rfl rfl dX9_patch_70
          · refine E_iload dX9_patch_59 5 rfl ?_
            refine E_iload_n dX9_patch_61 rfl 3 rfl ?_
            refine E_icmp_ge (t := 71) dX9_patch_62 rfl ?_ ?_
            · refine E_aload_n dX9_patch_71 rfl 0 rfl ?_
              refine E_getF fl_X9_26 dX9_patch_72 z32 ?_
              refine E_iconst (v := 1) dX9_patch_75 rfl ?_
              refine E_iald (n := 340) rfl dX9_patch_76 z37 (fun _ => ?_)
              refine E_if_ne (t := 87) dX9_patch_77 rfl ?_ ?_
              · refine E_aload_n dX9_patch_87 rfl 0 rfl ?_
                refine E_cVV (As := []) (rest := []) (sM_note G h1) ck_X9_note lk_X9_383 rfl rfl kc_32 z32 rfl rfl rfl dX9_patch_88 (fun h9 _ => ?_)
                refine E_aload_n dX9_patch_91 rfl 0 rfl ?_
                refine E_iload_n dX9_patch_92 rfl 2 rfl ?_
                refine E_putI fs_X9_224 dX9_patch_93 z32 ?_
                refine E_hgen (fun h10 => ?_)
                refine E_aload_n dX9_patch_96 rfl 0 rfl ?_
                refine E_iload_n dX9_patch_97 rfl 3 rfl ?_
                refine E_putI fs_X9_230 dX9_patch_98 z32 ?_
                refine E_hgen (fun h11 => ?_)
                refine E_aload_n dX9_patch_101 rfl 0 rfl ?_
                refine E_iload dX9_patch_102 4 rfl ?_
                refine E_putI fs_X9_235 dX9_patch_104 z32 ?_
                refine E_hgen (fun h12 => ?_)
                refine E_aload_n dX9_patch_107 rfl 0 rfl ?_
                refine E_iload dX9_patch_108 5 rfl ?_
                refine E_putI fs_X9_238 dX9_patch_110 z32 ?_
                refine E_hgen (fun h13 => ?_)
                refine E_aload_n dX9_patch_113 rfl 0 rfl ?_
                refine E_aload_n dX9_patch_114 rfl 0 rfl ?_
                refine E_getF fl_X9_26 dX9_patch_115 z32 ?_
                refine E_iconst (v := 2) dX9_patch_118 rfl ?_
                refine E_bipush (v := 26) dX9_patch_119 rfl ?_
                refine E_aload_n dX9_patch_121 rfl 0 rfl ?_
                refine E_getF fl_X9_26 dX9_patch_122 z32 ?_
                refine E_iconst (v := 0) dX9_patch_125 rfl ?_
                refine E_iald (n := 340) rfl dX9_patch_126 z37 (fun _ => ?_)
                refine E_imul dX9_patch_127 ?_
                refine E_iadd dX9_patch_128 ?_
                refine E_iconst (v := 2) dX9_patch_129 rfl ?_
                refine E_iadd dX9_patch_130 ?_
                refine E_iload_n dX9_patch_131 rfl 1 rfl ?_
                refine E_aload_n dX9_patch_132 rfl 0 rfl ?_
                refine E_getF fl_X9_20 dX9_patch_133 z32 ?_
                refine E_iconst (v := 0) dX9_patch_136 rfl ?_
                refine E_iald (n := 161) rfl dX9_patch_137 z35 (fun _ => ?_)
                refine E_cVV (As := [.ref (G.ad 37 0), .int ((2 + (26 * (gI h13 37 0 (0 : Int32).toNatClampNeg))) + 2), .int v1, .int (gI h13 35 0 (0 : Int32).toNatClampNeg)]) (rest := []) (sM_fill G h13 37 rfl z37 ((2 + (26 * (gI h13 37 0 (0 : Int32).toNatClampNeg))) + 2) v1 (gI h13 35 0 (0 : Int32).toNatClampNeg)) ck_X9_fill lk_X9_248 rfl rfl kc_32 z32 rfl rfl rfl dX9_patch_138 (fun h14 _ => ?_)
                refine E_aload_n dX9_patch_141 rfl 0 rfl ?_
                refine E_cVIM (As := []) (rest := []) (sM_did G h14) ck_X9_did lk_X9_386 rfl rfl kc_32 z32 rfl rfl rfl dX9_patch_142 (fun q15 _ => ?_)
                exact E_zretg rfl rfl dX9_patch_145
              · refine E_aload_n dX9_patch_80 rfl 0 rfl ?_
                refine E_bipush (v := 6) dX9_patch_81 rfl ?_
                refine E_cVIM (As := [.int 6]) (rest := []) (sM_isNot G h1 6) ck_X9_isNot lk_X9_380 rfl rfl kc_32 z32 rfl rfl rfl dX9_patch_83 (fun q16 _ => ?_)
                exact E_zretg rfl rfl dX9_patch_86
            · refine E_aload_n dX9_patch_65 rfl 0 rfl ?_
              refine E_iconst (v := 2) dX9_patch_66 rfl ?_
              refine E_cVIM (As := [.int 2]) (rest := []) (sM_isNot G h1 2) ck_X9_isNot lk_X9_380 rfl rfl kc_32 z32 rfl rfl rfl dX9_patch_67 (fun q17 _ => ?_)
              exact E_zretg rfl rfl dX9_patch_70
    · refine E_aload_n dX9_patch_27 rfl 0 rfl ?_
      refine E_iconst (v := 1) dX9_patch_28 rfl ?_
      refine E_cVIM (As := [.int 1]) (rest := []) (sM_isNot G h1 1) ck_X9_isNot lk_X9_380 rfl rfl kc_32 z32 rfl rfl rfl dX9_patch_29 (fun q18 _ => ?_)
      exact E_zretg rfl rfl dX9_patch_32
def iM_placed : MI := (yX9_placed, cX9_placed, 5, (some .int), { frames := 3, cells := 0, slots := 0, locals := 68 }, 1)
theorem ck_X9_placed : CK iM_placed 2 := ⟨⟨wd_113, wd_1713, by decide +kernel⟩, ⟨wd_1711, wd_1712⟩⟩
def jM_placed_80  (v3 : Int32) (h : AH) : Option (Int32 × AH) :=
  if inb 0 340 = true then (
  some ((((gI h 37 0 (0 : Int32).toNatClampNeg) - 1) - v3), h)) else none
set_option maxRecDepth 20000 in
set_option maxHeartbeats 2000000 in
theorem sM_placed_80 (G : JG)   (v3 : Int32) (h : AH) : Sim G iM_placed rvIM 80 [(0, .ref (G.ad 32 0)), (3, .int v3)] [] h (jM_placed_80 v3 h) := by
  unfold jM_placed_80
  refine E_aload_n dX9_placed_80 rfl 0 rfl ?_
  refine E_getF fl_X9_26 dX9_placed_81 z32 ?_
  refine E_iconst (v := 0) dX9_placed_84 rfl ?_
  refine E_iald (n := 340) rfl dX9_placed_85 z37 (fun _ => ?_)
  refine E_iconst (v := 1) dX9_placed_86 rfl ?_
  refine E_isub dX9_placed_87 ?_
  refine E_iload_n dX9_placed_88 rfl 1 rfl ?_
  refine E_isub dX9_placed_89 ?_
  exact E_iret rfl rfl dX9_placed_90
def jM_placed_41 (v1 : Int32) : Nat → Int32 → Int32 → AH → Option (Int32 × AH)
  | 0, _, _, _ => none
  | n + 1, v3, v4, h =>
    if inb 0 340 = true then (
    if v4 < (gI h 37 0 (0 : Int32).toNatClampNeg) then (if inb v4 12 = true then (
    (jM_has (gI h 42 0 v4.toNatClampNeg) v1).bind fun r1 =>
    if r1 = 0 then ((jM_placed_41 v1 n (v3 + 0) (v4 + 1) h))
    else ((jM_placed_41 v1 n (v3 + 1) (v4 + 1) h))) else none)
    else ((jM_placed_80 v3 h))) else none
set_option maxRecDepth 20000 in
set_option maxHeartbeats 2000000 in
theorem sM_placed_41 (G : JG) (v1 : Int32)  : ∀ (n : Nat) (v3 : Int32) (v4 : Int32) (h : AH), Sim G iM_placed rvIM 41 [(0, .ref (G.ad 32 0)), (1, .int v1), (3, .int v3), (4, .int v4)] [] h (jM_placed_41 v1 n v3 v4 h) := by
  intro n
  induction n with
  | zero => intro v3 v4 h; exact E_none
  | succ n ih =>
    intro v3 v4 h
    rw [jM_placed_41]
    refine E_iload dX9_placed_41 3 rfl ?_
    refine E_aload_n dX9_placed_43 rfl 0 rfl ?_
    refine E_getF fl_X9_26 dX9_placed_44 z32 ?_
    refine E_iconst (v := 0) dX9_placed_47 rfl ?_
    refine E_iald (n := 340) rfl dX9_placed_48 z37 (fun _ => ?_)
    refine E_icmp_ge (t := 80) dX9_placed_49 rfl ?_ ?_
    · exact E_sub [0, 2] rfl (sM_placed_80 G v3 h)
    · refine E_iload_n dX9_placed_52 rfl 2 rfl ?_
      refine E_aload_n dX9_placed_53 rfl 0 rfl ?_
      refine E_getF fl_X9_41 dX9_placed_54 z32 ?_
      refine E_iload dX9_placed_57 3 rfl ?_
      refine E_iald (n := 12) rfl dX9_placed_59 z42 (fun _ => ?_)
      refine E_iload_n dX9_placed_60 rfl 1 rfl ?_
      refine E_cSI (As := [.int (gI h 42 0 v4.toNatClampNeg), .int v1]) (rest := [.int v3]) (sM_has G h (gI h 42 0 v4.toNatClampNeg) v1) ck_X9_has lk_X9_290 rfl rfl rfl rfl rfl dX9_placed_61 (fun r1 _ => ?_)
      refine E_if_eq (t := 71) dX9_placed_64 rfl ?_ ?_
      · refine E_iconst (v := 0) dX9_placed_71 rfl ?_
        refine E_iadd dX9_placed_72 ?_
        refine E_istore_n (ls' := [(3, .int (v3 + 0)), (0, .ref (G.ad 32 0)), (1, .int v1), (4, .int v4)]) dX9_placed_73 rfl (Nat.le_of_ble_eq_true rfl) rfl ?_
        refine E_iinc (q := 3) (v := (v4 + 1)) (ls' := [(4, .int (v4 + 1)), (3, .int (v3 + 0)), (0, .ref (G.ad 32 0)), (1, .int v1)]) dX9_placed_74 rfl rfl (Nat.le_of_ble_eq_true rfl) rfl ?_
        refine E_goto (t := 41) dX9_placed_77 rfl ?_
        exact E_sub [2, 3, 1, 0] rfl (ih (v3 + 0) (v4 + 1) h)
      · refine E_iconst (v := 1) dX9_placed_67 rfl ?_
        refine E_goto (t := 72) dX9_placed_68 rfl ?_
        refine E_iadd dX9_placed_72 ?_
        refine E_istore_n (ls' := [(3, .int (v3 + 1)), (0, .ref (G.ad 32 0)), (1, .int v1), (4, .int v4)]) dX9_placed_73 rfl (Nat.le_of_ble_eq_true rfl) rfl ?_
        refine E_iinc (q := 3) (v := (v4 + 1)) (ls' := [(4, .int (v4 + 1)), (3, .int (v3 + 1)), (0, .ref (G.ad 32 0)), (1, .int v1)]) dX9_placed_74 rfl rfl (Nat.le_of_ble_eq_true rfl) rfl ?_
        refine E_goto (t := 41) dX9_placed_77 rfl ?_
        exact E_sub [2, 3, 1, 0] rfl (ih (v3 + 1) (v4 + 1) h)
def jM_placed (h : AH) (v1 : Int32) (v2 : Int32) : Option (Int32 × AH) :=
  (jM_good h).bind fun h1 =>
  (jM_isWork h1 v1).bind fun r2 =>
  if r2 = 0 then ((jM_no h1 1).bind fun q5 =>
  some (q5.1, q5.2))
  else ((jM_laySure h1).bind fun h3 =>
  if v2 = 0 then (if inb v1 12 = true then (
  (jM_bits (gI h3 42 0 v1.toNatClampNeg)).bind fun r4 =>
  some (r4, h3)) else none)
  else ((jM_placed_41 v1 FU 0 0 h3)))
set_option maxRecDepth 20000 in
set_option maxHeartbeats 2000000 in
theorem sM_placed (G : JG) (h : AH) (v1 : Int32) (v2 : Int32) : Mt G iM_placed rvIM [.ref (G.ad 32 0), .int v1, .int v2] h (jM_placed h v1 v2) := by
  refine Mt_of (by decide) (Nat.le_of_ble_eq_true rfl) ?_
  unfold jM_placed
  show Sim G iM_placed rvIM 0 [(0, .ref (G.ad 32 0)), (1, .int v1), (2, .int v2)] [] h _
  refine E_aload_n dX9_placed_0 rfl 0 rfl ?_
  refine E_cVV (As := []) (rest := []) (sM_good G h) ck_X9_good lk_X9_155 rfl rfl kc_32 z32 rfl rfl rfl dX9_placed_1 (fun h1 _ => ?_)
  refine E_aload_n dX9_placed_4 rfl 0 rfl ?_
  refine E_iload_n dX9_placed_5 rfl 1 rfl ?_
  refine E_cVI (As := [.int v1]) (rest := []) (sM_isWork G h1 v1) ck_X9_isWork lk_X9_326 rfl rfl kc_32 z32 rfl rfl rfl dX9_placed_6 (fun r2 _ => ?_)
  refine E_if_ne (t := 18) dX9_placed_9 rfl ?_ ?_
  · refine E_aload_n dX9_placed_18 rfl 0 rfl ?_
    refine E_cVV (As := []) (rest := []) (sM_laySure G h1) ck_X9_laySure lk_X9_332 rfl rfl kc_32 z32 rfl rfl rfl dX9_placed_19 (fun h3 _ => ?_)
    refine E_iload_n dX9_placed_22 rfl 2 rfl ?_
    refine E_if_ne (t := 36) dX9_placed_23 rfl ?_ ?_
    · refine E_iconst (v := 0) dX9_placed_36 rfl ?_
      refine E_istore_n (ls' := [(3, .int 0), (0, .ref (G.ad 32 0)), (1, .int v1), (2, .int v2)]) dX9_placed_37 rfl (Nat.le_of_ble_eq_true rfl) rfl ?_
      refine E_iconst (v := 0) dX9_placed_38 rfl ?_
      refine E_istore (ls' := [(4, .int 0), (3, .int 0), (0, .ref (G.ad 32 0)), (1, .int v1), (2, .int v2)]) dX9_placed_39 (Nat.le_of_ble_eq_true rfl) rfl ?_
      exact E_sub [2, 3, 1, 0] rfl (sM_placed_41 G v1 FU 0 0 h3)
    · refine E_aload_n dX9_placed_26 rfl 0 rfl ?_
      refine E_getF fl_X9_41 dX9_placed_27 z32 ?_
      refine E_iload_n dX9_placed_30 rfl 1 rfl ?_
      refine E_iald (n := 12) rfl dX9_placed_31 z42 (fun _ => ?_)
      refine E_cSI (As := [.int (gI h3 42 0 v1.toNatClampNeg)]) (rest := []) (sM_bits G h3 (gI h3 42 0 v1.toNatClampNeg)) ck_X9_bits lk_X9_302 rfl rfl rfl rfl rfl dX9_placed_32 (fun r4 _ => ?_)
      exact E_iret rfl rfl dX9_placed_35
  · refine E_aload_n dX9_placed_12 rfl 0 rfl ?_
    refine E_iconst (v := 1) dX9_placed_13 rfl ?_
    refine E_cVIM (As := [.int 1]) (rest := []) (sM_no G h1 1) ck_X9_no lk_X9_158 rfl rfl kc_32 z32 rfl rfl rfl dX9_placed_14 (fun q5 _ => ?_)
    exact E_iret rfl rfl dX9_placed_17
