/-! ===== the model, 4 ===== -/
def iM_breaks : MI := (yX9_breaks, cX9_breaks, 2, (some .int), { frames := 7, cells := 0, slots := 0, locals := 163 }, 1)
theorem ck_X9_breaks : CK iM_breaks 1 := ⟨⟨wd_113, wd_1674, by decide +kernel⟩, ⟨wd_1672, wd_1673⟩⟩
def jM_breaks (h : AH) (v1 : Int32) : Option (Int32 × AH) :=
  (jM_good h).bind fun h1 =>
  (jM_isWork h1 v1).bind fun r2 =>
  if r2 = 0 then ((jM_no h1 1).bind fun q3 =>
  some (q3.1, q3.2))
  else ((jM_breaksAt h1 v1).bind fun r4 =>
  some (r4, h1))
set_option maxRecDepth 20000 in
set_option maxHeartbeats 2000000 in
theorem sM_breaks (G : JG) (h : AH) (v1 : Int32) : Mt G iM_breaks rvIM [.ref (G.ad 32 0), .int v1] h (jM_breaks h v1) := by
  refine Mt_of (by decide) (Nat.le_of_ble_eq_true rfl) ?_
  unfold jM_breaks
  show Sim G iM_breaks rvIM 0 [(0, .ref (G.ad 32 0)), (1, .int v1)] [] h _
  refine E_aload_n dX9_breaks_0 rfl 0 rfl ?_
  refine E_cVV (As := []) (rest := []) (sM_good G h) ck_X9_good lk_X9_155 rfl rfl kc_32 z32 rfl rfl rfl dX9_breaks_1 (fun h1 _ => ?_)
  refine E_aload_n dX9_breaks_4 rfl 0 rfl ?_
  refine E_iload_n dX9_breaks_5 rfl 1 rfl ?_
  refine E_cVI (As := [.int v1]) (rest := []) (sM_isWork G h1 v1) ck_X9_isWork lk_X9_326 rfl rfl kc_32 z32 rfl rfl rfl dX9_breaks_6 (fun r2 _ => ?_)
  refine E_if_eq (t := 20) dX9_breaks_9 rfl ?_ ?_
  · refine E_aload_n dX9_breaks_20 rfl 0 rfl ?_
    refine E_iconst (v := 1) dX9_breaks_21 rfl ?_
    refine E_cVIM (As := [.int 1]) (rest := []) (sM_no G h1 1) ck_X9_no lk_X9_158 rfl rfl kc_32 z32 rfl rfl rfl dX9_breaks_22 (fun q3 _ => ?_)
    exact E_iret rfl rfl dX9_breaks_25
  · refine E_aload_n dX9_breaks_12 rfl 0 rfl ?_
    refine E_iload_n dX9_breaks_13 rfl 1 rfl ?_
    refine E_cVI (As := [.int v1]) (rest := []) (sM_breaksAt G h1 v1) ck_X9_breaksAt lk_X9_329 rfl rfl kc_32 z32 rfl rfl rfl dX9_breaks_14 (fun r4 _ => ?_)
    refine E_goto (t := 25) dX9_breaks_17 rfl ?_
    exact E_iret rfl rfl dX9_breaks_25
def iM_canBe : MI := (yX9_canBe, cX9_canBe, 5, (some .boolean), { frames := 0, cells := 0, slots := 0, locals := 0 }, 1)
theorem ck_X9_canBe : CK iM_canBe 2 := ⟨⟨wd_113, wd_1781, by decide +kernel⟩, ⟨wd_1780, wd_99⟩⟩
def jM_canBe_5 (h : AH) (v1 : Int32) (v2 : Int32) : Nat → Int32 → Int32 → Option (Int32)
  | 0, _, _ => none
  | n + 1, v3, v4 =>
    if v4 < 4096 then (if v3 = 0 then (if (v1 &&& (v4 ^^^ (-1))) = 0 then (if inb v4 4096 = true then (
    if (gI h 44 0 v4.toNatClampNeg) < 0 then ((jM_canBe_5 h v1 v2 n 0 (v4 + 1)))
    else (if inb v4 4096 = true then (
    if (gI h 44 0 v4.toNatClampNeg) ≤ v2 then ((jM_canBe_5 h v1 v2 n 1 (v4 + 1)))
    else ((jM_canBe_5 h v1 v2 n 0 (v4 + 1)))) else none)) else none)
    else ((jM_canBe_5 h v1 v2 n 0 (v4 + 1))))
    else (if isZ v3 = true then some v3 else none))
    else (if isZ v3 = true then some v3 else none)
set_option maxRecDepth 20000 in
set_option maxHeartbeats 2000000 in
theorem sM_canBe_5 (G : JG) (h : AH) (v1 : Int32) (v2 : Int32)  : ∀ (n : Nat) (v3 : Int32) (v4 : Int32), Sim G iM_canBe (rvI h) 5 [(0, .ref (G.ad 32 0)), (1, .int v1), (2, .int v2), (3, .int v3), (4, .int v4)] [] h (jM_canBe_5 h v1 v2 n v3 v4) := by
  intro n
  induction n with
  | zero => intro v3 v4; exact E_none
  | succ n ih =>
    intro v3 v4
    rw [jM_canBe_5]
    refine E_iload dX9_canBe_5 4 rfl ?_
    refine E_sipush (v := 4096) dX9_canBe_7 rfl ?_
    refine E_icmp_ge (t := 59) dX9_canBe_10 rfl ?_ ?_
    · refine E_iload_n dX9_canBe_59 rfl 3 rfl ?_
      exact E_zretg rfl rfl dX9_canBe_60
    · refine E_iload_n dX9_canBe_13 rfl 3 rfl ?_
      refine E_if_ne (t := 59) dX9_canBe_14 rfl ?_ ?_
      · refine E_iload_n dX9_canBe_59 rfl 3 rfl ?_
        exact E_zretg rfl rfl dX9_canBe_60
      · refine E_iload_n dX9_canBe_17 rfl 1 rfl ?_
        refine E_iload dX9_canBe_18 4 rfl ?_
        refine E_iconst (v := (-1)) dX9_canBe_20 rfl ?_
        refine E_ixor dX9_canBe_21 ?_
        refine E_iand dX9_canBe_22 ?_
        refine E_if_ne (t := 51) dX9_canBe_23 rfl ?_ ?_
        · refine E_iconst (v := 0) dX9_canBe_51 rfl ?_
          refine E_istore_n (ls' := [(3, .int 0), (0, .ref (G.ad 32 0)), (1, .int v1), (2, .int v2), (4, .int v4)]) dX9_canBe_52 rfl (Nat.le_of_ble_eq_true rfl) rfl ?_
          refine E_iinc (q := 4) (v := (v4 + 1)) (ls' := [(4, .int (v4 + 1)), (3, .int 0), (0, .ref (G.ad 32 0)), (1, .int v1), (2, .int v2)]) dX9_canBe_53 rfl rfl (Nat.le_of_ble_eq_true rfl) rfl ?_
          refine E_goto (t := 5) dX9_canBe_56 rfl ?_
          exact E_sub [2, 3, 4, 1, 0] rfl (ih 0 (v4 + 1))
        · refine E_aload_n dX9_canBe_26 rfl 0 rfl ?_
          refine E_getF fl_X9_48 dX9_canBe_27 z32 ?_
          refine E_iload dX9_canBe_30 4 rfl ?_
          refine E_iald (n := 4096) rfl dX9_canBe_32 z44 (fun _ => ?_)
          refine E_if_lt (t := 51) dX9_canBe_33 rfl ?_ ?_
          · refine E_iconst (v := 0) dX9_canBe_51 rfl ?_
            refine E_istore_n (ls' := [(3, .int 0), (0, .ref (G.ad 32 0)), (1, .int v1), (2, .int v2), (4, .int v4)]) dX9_canBe_52 rfl (Nat.le_of_ble_eq_true rfl) rfl ?_
            refine E_iinc (q := 4) (v := (v4 + 1)) (ls' := [(4, .int (v4 + 1)), (3, .int 0), (0, .ref (G.ad 32 0)), (1, .int v1), (2, .int v2)]) dX9_canBe_53 rfl rfl (Nat.le_of_ble_eq_true rfl) rfl ?_
            refine E_goto (t := 5) dX9_canBe_56 rfl ?_
            exact E_sub [2, 3, 4, 1, 0] rfl (ih 0 (v4 + 1))
          · refine E_aload_n dX9_canBe_36 rfl 0 rfl ?_
            refine E_getF fl_X9_48 dX9_canBe_37 z32 ?_
            refine E_iload dX9_canBe_40 4 rfl ?_
            refine E_iald (n := 4096) rfl dX9_canBe_42 z44 (fun _ => ?_)
            refine E_iload_n dX9_canBe_43 rfl 2 rfl ?_
            refine E_icmp_gt (t := 51) dX9_canBe_44 rfl ?_ ?_
            · refine E_iconst (v := 0) dX9_canBe_51 rfl ?_
              refine E_istore_n (ls' := [(3, .int 0), (0, .ref (G.ad 32 0)), (1, .int v1), (2, .int v2), (4, .int v4)]) dX9_canBe_52 rfl (Nat.le_of_ble_eq_true rfl) rfl ?_
              refine E_iinc (q := 4) (v := (v4 + 1)) (ls' := [(4, .int (v4 + 1)), (3, .int 0), (0, .ref (G.ad 32 0)), (1, .int v1), (2, .int v2)]) dX9_canBe_53 rfl rfl (Nat.le_of_ble_eq_true rfl) rfl ?_
              refine E_goto (t := 5) dX9_canBe_56 rfl ?_
              exact E_sub [2, 3, 4, 1, 0] rfl (ih 0 (v4 + 1))
            · refine E_iconst (v := 1) dX9_canBe_47 rfl ?_
              refine E_goto (t := 52) dX9_canBe_48 rfl ?_
              refine E_istore_n (ls' := [(3, .int 1), (0, .ref (G.ad 32 0)), (1, .int v1), (2, .int v2), (4, .int v4)]) dX9_canBe_52 rfl (Nat.le_of_ble_eq_true rfl) rfl ?_
              refine E_iinc (q := 4) (v := (v4 + 1)) (ls' := [(4, .int (v4 + 1)), (3, .int 1), (0, .ref (G.ad 32 0)), (1, .int v1), (2, .int v2)]) dX9_canBe_53 rfl rfl (Nat.le_of_ble_eq_true rfl) rfl ?_
              refine E_goto (t := 5) dX9_canBe_56 rfl ?_
              exact E_sub [2, 3, 4, 1, 0] rfl (ih 1 (v4 + 1))
def jM_canBe (h : AH) (v1 : Int32) (v2 : Int32) : Option (Int32) :=
  (jM_canBe_5 h v1 v2 FU 0 0)
set_option maxRecDepth 20000 in
set_option maxHeartbeats 2000000 in
theorem sM_canBe (G : JG) (h : AH) (v1 : Int32) (v2 : Int32) : Mt G iM_canBe (rvI h) [.ref (G.ad 32 0), .int v1, .int v2] h (jM_canBe h v1 v2) := by
  refine Mt_of (by decide) (Nat.le_of_ble_eq_true rfl) ?_
  unfold jM_canBe
  show Sim G iM_canBe (rvI h) 0 [(0, .ref (G.ad 32 0)), (1, .int v1), (2, .int v2)] [] h _
  refine E_iconst (v := 0) dX9_canBe_0 rfl ?_
  refine E_istore_n (ls' := [(3, .int 0), (0, .ref (G.ad 32 0)), (1, .int v1), (2, .int v2)]) dX9_canBe_1 rfl (Nat.le_of_ble_eq_true rfl) rfl ?_
  refine E_iconst (v := 0) dX9_canBe_2 rfl ?_
  refine E_istore (ls' := [(4, .int 0), (3, .int 0), (0, .ref (G.ad 32 0)), (1, .int v1), (2, .int v2)]) dX9_canBe_3 (Nat.le_of_ble_eq_true rfl) rfl ?_
  exact E_sub [2, 3, 4, 1, 0] rfl (sM_canBe_5 G h v1 v2 FU 0 0)
def iM_isCell : MI := (yX9_isCell, cX9_isCell, 3, (some .boolean), { frames := 1, cells := 0, slots := 0, locals := 22 }, 1)
theorem ck_X9_isCell : CK iM_isCell 2 := ⟨⟨wd_113, wd_1540, by decide +kernel⟩, ⟨wd_1539, wd_67⟩⟩
def jM_isCell (h : AH) (v1 : Int32) (v2 : Int32) : Option (Int32) :=
  if (gI h 32 0 14) = 0 then (some 0)
  else (if inb 0 161 = true then (
  (jM_within v1 0 ((gI h 35 0 (0 : Int32).toNatClampNeg) - 1)).bind fun r1 =>
  if r1 = 0 then (some 0)
  else (if inb 1 161 = true then (
  (jM_within v2 0 ((gI h 35 0 (1 : Int32).toNatClampNeg) - 1)).bind fun r2 =>
  if r2 = 0 then (some 0)
  else (some 1)) else none)) else none)
set_option maxRecDepth 20000 in
set_option maxHeartbeats 2000000 in
theorem sM_isCell (G : JG) (h : AH) (v1 : Int32) (v2 : Int32) : Mt G iM_isCell (rvI h) [.ref (G.ad 32 0), .int v1, .int v2] h (jM_isCell h v1 v2) := by
  refine Mt_of (by decide) (Nat.le_of_ble_eq_true rfl) ?_
  unfold jM_isCell
  show Sim G iM_isCell (rvI h) 0 [(0, .ref (G.ad 32 0)), (1, .int v1), (2, .int v2)] [] h _
  refine E_aload_n dX9_isCell_0 rfl 0 rfl ?_
  refine E_getI fl_X9_168 dX9_isCell_1 z32 ?_
  refine E_if_eq (t := 43) dX9_isCell_4 rfl ?_ ?_
  · refine E_iconst (v := 0) dX9_isCell_43 rfl ?_
    exact E_zret rfl rfl rfl dX9_isCell_44
  · refine E_iload_n dX9_isCell_7 rfl 1 rfl ?_
    refine E_iconst (v := 0) dX9_isCell_8 rfl ?_
    refine E_aload_n dX9_isCell_9 rfl 0 rfl ?_
    refine E_getF fl_X9_20 dX9_isCell_10 z32 ?_
    refine E_iconst (v := 0) dX9_isCell_13 rfl ?_
    refine E_iald (n := 161) rfl dX9_isCell_14 z35 (fun _ => ?_)
    refine E_iconst (v := 1) dX9_isCell_15 rfl ?_
    refine E_isub dX9_isCell_16 ?_
    refine E_cSI (As := [.int v1, .int 0, .int ((gI h 35 0 (0 : Int32).toNatClampNeg) - 1)]) (rest := []) (sM_within G h v1 0 ((gI h 35 0 (0 : Int32).toNatClampNeg) - 1)) ck_X9_within lk_X9_139 rfl rfl rfl rfl rfl dX9_isCell_17 (fun r1 _ => ?_)
    refine E_if_eq (t := 43) dX9_isCell_20 rfl ?_ ?_
    · refine E_iconst (v := 0) dX9_isCell_43 rfl ?_
      exact E_zret rfl rfl rfl dX9_isCell_44
    · refine E_iload_n dX9_isCell_23 rfl 2 rfl ?_
      refine E_iconst (v := 0) dX9_isCell_24 rfl ?_
      refine E_aload_n dX9_isCell_25 rfl 0 rfl ?_
      refine E_getF fl_X9_20 dX9_isCell_26 z32 ?_
      refine E_iconst (v := 1) dX9_isCell_29 rfl ?_
      refine E_iald (n := 161) rfl dX9_isCell_30 z35 (fun _ => ?_)
      refine E_iconst (v := 1) dX9_isCell_31 rfl ?_
      refine E_isub dX9_isCell_32 ?_
      refine E_cSI (As := [.int v2, .int 0, .int ((gI h 35 0 (1 : Int32).toNatClampNeg) - 1)]) (rest := []) (sM_within G h v2 0 ((gI h 35 0 (1 : Int32).toNatClampNeg) - 1)) ck_X9_within lk_X9_139 rfl rfl rfl rfl rfl dX9_isCell_33 (fun r2 _ => ?_)
      refine E_if_eq (t := 43) dX9_isCell_36 rfl ?_ ?_
      · refine E_iconst (v := 0) dX9_isCell_43 rfl ?_
        exact E_zret rfl rfl rfl dX9_isCell_44
      · refine E_iconst (v := 1) dX9_isCell_39 rfl ?_
        refine E_goto (t := 44) dX9_isCell_40 rfl ?_
        exact E_zret rfl rfl rfl dX9_isCell_44
def iM_shownIn : MI := (yX9_shownIn, cX9_shownIn, 5, (some .int), { frames := 1, cells := 0, slots := 0, locals := 23 }, 1)
theorem ck_X9_shownIn : CK iM_shownIn 2 := ⟨⟨wd_113, wd_1568, by decide +kernel⟩, ⟨wd_1567, wd_72⟩⟩
def jM_shownIn_9 (h : AH) (v1 : Int32) (v2 : Int32) : Nat → Int32 → Option (Int32)
  | 0, _ => none
  | n + 1, v3 =>
    if v3 < 0 then (some (-2))
    else ((jM_paintOf h v3 v1).bind fun r1 =>
    if r1 = (-2) then ((jM_shownIn_9 h v1 v2 n (v3 + (-1))))
    else ((jM_yearOf h v3).bind fun r2 =>
    if r2 ≤ v2 then (if inb (12 + r1) 161 = true then (
    if (gI h 35 0 (12 + r1).toNatClampNeg) = 0 then (some r1)
    else ((jM_yearOf h v3).bind fun r3 =>
    if inb (12 + r1) 161 = true then (
    if (v2 - r3) < (gI h 35 0 (12 + r1).toNatClampNeg) then (some r1)
    else ((jM_shownIn_9 h v1 v2 n (v3 + (-1))))) else none)) else none)
    else ((jM_shownIn_9 h v1 v2 n (v3 + (-1))))))
set_option maxRecDepth 20000 in
set_option maxHeartbeats 2000000 in
theorem sM_shownIn_9 (G : JG) (h : AH) (v1 : Int32) (v2 : Int32)  : ∀ (n : Nat) (v3 : Int32), Sim G iM_shownIn (rvI h) 9 [(0, .ref (G.ad 32 0)), (1, .int v1), (2, .int v2), (3, .int v3)] [] h (jM_shownIn_9 h v1 v2 n v3) := by
  intro n
  induction n with
  | zero => intro v3; exact E_none
  | succ n ih =>
    intro v3
    rw [jM_shownIn_9]
    refine E_iload_n dX9_shownIn_9 rfl 3 rfl ?_
    refine E_if_lt (t := 82) dX9_shownIn_10 rfl ?_ ?_
    · refine E_bipush (v := (-2)) dX9_shownIn_82 rfl ?_
      exact E_iret rfl rfl dX9_shownIn_84
    · refine E_aload_n dX9_shownIn_13 rfl 0 rfl ?_
      refine E_iload_n dX9_shownIn_14 rfl 3 rfl ?_
      refine E_iload_n dX9_shownIn_15 rfl 1 rfl ?_
      refine E_cVI (As := [.int v3, .int v1]) (rest := []) (sM_paintOf G h v3 v1) ck_X9_paintOf lk_X9_262 rfl rfl kc_32 z32 rfl rfl rfl dX9_shownIn_16 (fun r1 _ => ?_)
      refine E_istore (ls' := [(4, .int r1), (0, .ref (G.ad 32 0)), (1, .int v1), (2, .int v2), (3, .int v3)]) dX9_shownIn_19 (Nat.le_of_ble_eq_true rfl) rfl ?_
      refine E_iload dX9_shownIn_21 0 rfl ?_
      refine E_bipush (v := (-2)) dX9_shownIn_23 rfl ?_
      refine E_icmp_eq (t := 76) dX9_shownIn_25 rfl ?_ ?_
      · refine E_iinc (q := 4) (v := (v3 + (-1))) (ls' := [(3, .int (v3 + (-1))), (4, .int r1), (0, .ref (G.ad 32 0)), (1, .int v1), (2, .int v2)]) dX9_shownIn_76 rfl rfl (Nat.le_of_ble_eq_true rfl) rfl ?_
        refine E_goto (t := 9) dX9_shownIn_79 rfl ?_
        exact E_sub [2, 3, 4, 0] rfl (ih (v3 + (-1)))
      · refine E_aload_n dX9_shownIn_28 rfl 1 rfl ?_
        refine E_iload_n dX9_shownIn_29 rfl 4 rfl ?_
        refine E_cVI (As := [.int v3]) (rest := []) (sM_yearOf G h v3) ck_X9_yearOf lk_X9_278 rfl rfl kc_32 z32 rfl rfl rfl dX9_shownIn_30 (fun r2 _ => ?_)
        refine E_iload_n dX9_shownIn_33 rfl 3 rfl ?_
        refine E_icmp_le (t := 40) dX9_shownIn_34 rfl ?_ ?_
        · refine E_aload_n dX9_shownIn_40 rfl 1 rfl ?_
          refine E_getF fl_X9_20 dX9_shownIn_41 z32 ?_
          refine E_bipush (v := 12) dX9_shownIn_44 rfl ?_
          refine E_iload dX9_shownIn_46 0 rfl ?_
          refine E_iadd dX9_shownIn_48 ?_
          refine E_iald (n := 161) rfl dX9_shownIn_49 z35 (fun _ => ?_)
          refine E_if_eq (t := 73) dX9_shownIn_50 rfl ?_ ?_
          · refine E_iload dX9_shownIn_73 0 rfl ?_
            exact E_iret rfl rfl dX9_shownIn_75
          · refine E_iload_n dX9_shownIn_53 rfl 3 rfl ?_
            refine E_aload_n dX9_shownIn_54 rfl 1 rfl ?_
            refine E_iload_n dX9_shownIn_55 rfl 4 rfl ?_
            refine E_cVI (As := [.int v3]) (rest := [.int v2]) (sM_yearOf G h v3) ck_X9_yearOf lk_X9_278 rfl rfl kc_32 z32 rfl rfl rfl dX9_shownIn_56 (fun r3 _ => ?_)
            refine E_isub dX9_shownIn_59 ?_
            refine E_aload_n dX9_shownIn_60 rfl 1 rfl ?_
            refine E_getF fl_X9_20 dX9_shownIn_61 z32 ?_
            refine E_bipush (v := 12) dX9_shownIn_64 rfl ?_
            refine E_iload dX9_shownIn_66 0 rfl ?_
            refine E_iadd dX9_shownIn_68 ?_
            refine E_iald (n := 161) rfl dX9_shownIn_69 z35 (fun _ => ?_)
            refine E_icmp_ge (t := 76) dX9_shownIn_70 rfl ?_ ?_
            · refine E_iinc (q := 4) (v := (v3 + (-1))) (ls' := [(3, .int (v3 + (-1))), (4, .int r1), (0, .ref (G.ad 32 0)), (1, .int v1), (2, .int v2)]) dX9_shownIn_76 rfl rfl (Nat.le_of_ble_eq_true rfl) rfl ?_
              refine E_goto (t := 9) dX9_shownIn_79 rfl ?_
              exact E_sub [2, 3, 4, 0] rfl (ih (v3 + (-1)))
            · refine E_iload dX9_shownIn_73 0 rfl ?_
              exact E_iret rfl rfl dX9_shownIn_75
        · refine E_goto (t := 76) dX9_shownIn_37 rfl ?_
          refine E_iinc (q := 4) (v := (v3 + (-1))) (ls' := [(3, .int (v3 + (-1))), (4, .int r1), (0, .ref (G.ad 32 0)), (1, .int v1), (2, .int v2)]) dX9_shownIn_76 rfl rfl (Nat.le_of_ble_eq_true rfl) rfl ?_
          refine E_goto (t := 9) dX9_shownIn_79 rfl ?_
          exact E_sub [2, 3, 4, 0] rfl (ih (v3 + (-1)))
def jM_shownIn (h : AH) (v1 : Int32) (v2 : Int32) : Option (Int32) :=
  if inb 0 340 = true then (
  (jM_shownIn_9 h v1 v2 FU ((gI h 37 0 (0 : Int32).toNatClampNeg) - 1))) else none
set_option maxRecDepth 20000 in
set_option maxHeartbeats 2000000 in
theorem sM_shownIn (G : JG) (h : AH) (v1 : Int32) (v2 : Int32) : Mt G iM_shownIn (rvI h) [.ref (G.ad 32 0), .int v1, .int v2] h (jM_shownIn h v1 v2) := by
  refine Mt_of (by decide) (Nat.le_of_ble_eq_true rfl) ?_
  unfold jM_shownIn
  show Sim G iM_shownIn (rvI h) 0 [(0, .ref (G.ad 32 0)), (1, .int v1), (2, .int v2)] [] h _
  refine E_aload_n dX9_shownIn_0 rfl 0 rfl ?_
  refine E_getF fl_X9_26 dX9_shownIn_1 z32 ?_
  refine E_iconst (v := 0) dX9_shownIn_4 rfl ?_
  refine E_iald (n := 340) rfl dX9_shownIn_5 z37 (fun _ => ?_)
  refine E_iconst (v := 1) dX9_shownIn_6 rfl ?_
  refine E_isub dX9_shownIn_7 ?_
  refine E_istore_n (ls' := [(3, .int ((gI h 37 0 (0 : Int32).toNatClampNeg) - 1)), (0, .ref (G.ad 32 0)), (1, .int v1), (2, .int v2)]) dX9_shownIn_8 rfl (Nat.le_of_ble_eq_true rfl) rfl ?_
  exact E_sub [1, 2, 3, 0] rfl (sM_shownIn_9 G h v1 v2 FU ((gI h 37 0 (0 : Int32).toNatClampNeg) - 1))
def iM_changes : MI := (yX9_changes, cX9_changes, 6, (some .int), { frames := 2, cells := 0, slots := 0, locals := 47 }, 1)
theorem ck_X9_changes : CK iM_changes 2 := ⟨⟨wd_113, wd_1612, by decide +kernel⟩, ⟨wd_1610, wd_1611⟩⟩
def jM_changes_60 (v1 : Int32) (v2 : Int32) : Nat → Int32 → Int32 → AH → Option (Int32 × AH)
  | 0, _, _, _ => none
  | n + 1, v4, v5, h =>
    if v5 ≤ 999 then ((jM_cellOf h v1 v2).bind fun r1 =>
    (jM_shownIn h r1 v5).bind fun r2 =>
    if r2 = v4 then ((jM_changes_60 v1 v2 n v4 (v5 + 1) h))
    else (some (v5, h)))
    else (some ((-2), h))
set_option maxRecDepth 20000 in
set_option maxHeartbeats 2000000 in
theorem sM_changes_60 (G : JG) (v1 : Int32) (v2 : Int32)  : ∀ (n : Nat) (v4 : Int32) (v5 : Int32) (h : AH), Sim G iM_changes rvIM 60 [(0, .ref (G.ad 32 0)), (1, .int v1), (2, .int v2), (4, .int v4), (5, .int v5)] [] h (jM_changes_60 v1 v2 n v4 v5 h) := by
  intro n
  induction n with
  | zero => intro v4 v5 h; exact E_none
  | succ n ih =>
    intro v4 v5 h
    rw [jM_changes_60]
    refine E_iload dX9_changes_60 4 rfl ?_
    refine E_sipush (v := 999) dX9_changes_62 rfl ?_
    refine E_icmp_gt (t := 94) dX9_changes_65 rfl ?_ ?_
    · refine E_bipush (v := (-2)) dX9_changes_94 rfl ?_
      exact E_iret rfl rfl dX9_changes_96
    · refine E_aload_n dX9_changes_68 rfl 0 rfl ?_
      refine E_aload_n dX9_changes_69 rfl 0 rfl ?_
      refine E_iload_n dX9_changes_70 rfl 1 rfl ?_
      refine E_iload_n dX9_changes_71 rfl 2 rfl ?_
      refine E_cVI (As := [.int v1, .int v2]) (rest := [.ref (G.ad 32 0)]) (sM_cellOf G h v1 v2) ck_X9_cellOf lk_X9_272 rfl rfl kc_32 z32 rfl rfl rfl dX9_changes_72 (fun r1 _ => ?_)
      refine E_iload dX9_changes_75 4 rfl ?_
      refine E_cVI (As := [.int r1, .int v5]) (rest := []) (sM_shownIn G h r1 v5) ck_X9_shownIn lk_X9_281 rfl rfl kc_32 z32 rfl rfl rfl dX9_changes_77 (fun r2 _ => ?_)
      refine E_iload dX9_changes_80 3 rfl ?_
      refine E_icmp_eq (t := 88) dX9_changes_82 rfl ?_ ?_
      · refine E_iinc (q := 4) (v := (v5 + 1)) (ls' := [(5, .int (v5 + 1)), (0, .ref (G.ad 32 0)), (1, .int v1), (2, .int v2), (4, .int v4)]) dX9_changes_88 rfl rfl (Nat.le_of_ble_eq_true rfl) rfl ?_
        refine E_goto (t := 60) dX9_changes_91 rfl ?_
        exact E_sub [1, 2, 3, 4, 0] rfl (ih v4 (v5 + 1) h)
      · refine E_iload dX9_changes_85 4 rfl ?_
        exact E_iret rfl rfl dX9_changes_87
def jM_changes (h : AH) (v1 : Int32) (v2 : Int32) : Option (Int32 × AH) :=
  (jM_good h).bind fun h1 =>
  (jM_isCell h1 v1 v2).bind fun r2 =>
  if r2 = 0 then ((jM_no h1 1).bind fun q6 =>
  some (q6.1, q6.2))
  else (if inb 0 340 = true then (
  if (gI h1 37 0 (0 : Int32).toNatClampNeg) = 0 then (some ((-2), h1))
  else (if inb 0 340 = true then (
  (jM_yearOf h1 ((gI h1 37 0 (0 : Int32).toNatClampNeg) - 1)).bind fun r3 =>
  (jM_cellOf h1 v1 v2).bind fun r4 =>
  (jM_shownIn h1 r4 r3).bind fun r5 =>
  (jM_changes_60 v1 v2 FU r5 r3 h1)) else none)) else none)
set_option maxRecDepth 20000 in
set_option maxHeartbeats 2000000 in
theorem sM_changes (G : JG) (h : AH) (v1 : Int32) (v2 : Int32) : Mt G iM_changes rvIM [.ref (G.ad 32 0), .int v1, .int v2] h (jM_changes h v1 v2) := by
  refine Mt_of (by decide) (Nat.le_of_ble_eq_true rfl) ?_
  unfold jM_changes
  show Sim G iM_changes rvIM 0 [(0, .ref (G.ad 32 0)), (1, .int v1), (2, .int v2)] [] h _
  refine E_aload_n dX9_changes_0 rfl 0 rfl ?_
  refine E_cVV (As := []) (rest := []) (sM_good G h) ck_X9_good lk_X9_155 rfl rfl kc_32 z32 rfl rfl rfl dX9_changes_1 (fun h1 _ => ?_)
  refine E_aload_n dX9_changes_4 rfl 0 rfl ?_
  refine E_iload_n dX9_changes_5 rfl 1 rfl ?_
  refine E_iload_n dX9_changes_6 rfl 2 rfl ?_
  refine E_cVI (As := [.int v1, .int v2]) (rest := []) (sM_isCell G h1 v1 v2) ck_X9_isCell lk_X9_268 rfl rfl kc_32 z32 rfl rfl rfl dX9_changes_7 (fun r2 _ => ?_)
  refine E_if_ne (t := 19) dX9_changes_10 rfl ?_ ?_
  · refine E_aload_n dX9_changes_19 rfl 0 rfl ?_
    refine E_getF fl_X9_26 dX9_changes_20 z32 ?_
    refine E_iconst (v := 0) dX9_changes_23 rfl ?_
    refine E_iald (n := 340) rfl dX9_changes_24 z37 (fun _ => ?_)
    refine E_if_ne (t := 31) dX9_changes_25 rfl ?_ ?_
    · refine E_aload_n dX9_changes_31 rfl 0 rfl ?_
      refine E_aload_n dX9_changes_32 rfl 0 rfl ?_
      refine E_getF fl_X9_26 dX9_changes_33 z32 ?_
      refine E_iconst (v := 0) dX9_changes_36 rfl ?_
      refine E_iald (n := 340) rfl dX9_changes_37 z37 (fun _ => ?_)
      refine E_iconst (v := 1) dX9_changes_38 rfl ?_
      refine E_isub dX9_changes_39 ?_
      refine E_cVI (As := [.int ((gI h1 37 0 (0 : Int32).toNatClampNeg) - 1)]) (rest := []) (sM_yearOf G h1 ((gI h1 37 0 (0 : Int32).toNatClampNeg) - 1)) ck_X9_yearOf lk_X9_278 rfl rfl kc_32 z32 rfl rfl rfl dX9_changes_40 (fun r3 _ => ?_)
      refine E_istore_n (ls' := [(3, .int r3), (0, .ref (G.ad 32 0)), (1, .int v1), (2, .int v2)]) dX9_changes_43 rfl (Nat.le_of_ble_eq_true rfl) rfl ?_
      refine E_aload_n dX9_changes_44 rfl 1 rfl ?_
      refine E_aload_n dX9_changes_45 rfl 1 rfl ?_
      refine E_iload_n dX9_changes_46 rfl 2 rfl ?_
      refine E_iload_n dX9_changes_47 rfl 3 rfl ?_
      refine E_cVI (As := [.int v1, .int v2]) (rest := [.ref (G.ad 32 0)]) (sM_cellOf G h1 v1 v2) ck_X9_cellOf lk_X9_272 rfl rfl kc_32 z32 rfl rfl rfl dX9_changes_48 (fun r4 _ => ?_)
      refine E_iload_n dX9_changes_51 rfl 0 rfl ?_
      refine E_cVI (As := [.int r4, .int r3]) (rest := []) (sM_shownIn G h1 r4 r3) ck_X9_shownIn lk_X9_281 rfl rfl kc_32 z32 rfl rfl rfl dX9_changes_52 (fun r5 _ => ?_)
      refine E_istore (ls' := [(4, .int r5), (3, .int r3), (0, .ref (G.ad 32 0)), (1, .int v1), (2, .int v2)]) dX9_changes_55 (Nat.le_of_ble_eq_true rfl) rfl ?_
      refine E_iload_n dX9_changes_57 rfl 1 rfl ?_
      refine E_istore (ls' := [(5, .int r3), (4, .int r5), (3, .int r3), (0, .ref (G.ad 32 0)), (1, .int v1), (2, .int v2)]) dX9_changes_58 (Nat.le_of_ble_eq_true rfl) rfl ?_
      exact E_sub [3, 4, 5, 1, 0] rfl (sM_changes_60 G v1 v2 FU r5 r3 h1)
    · refine E_bipush (v := (-2)) dX9_changes_28 rfl ?_
      exact E_iret rfl rfl dX9_changes_30
  · refine E_aload_n dX9_changes_13 rfl 0 rfl ?_
    refine E_iconst (v := 1) dX9_changes_14 rfl ?_
    refine E_cVIM (As := [.int 1]) (rest := []) (sM_no G h1 1) ck_X9_no lk_X9_158 rfl rfl kc_32 z32 rfl rfl rfl dX9_changes_15 (fun q6 _ => ?_)
    exact E_iret rfl rfl dX9_changes_18
def iM_deep : MI := (yX9_deep, cX9_deep, 5, (some .int), { frames := 2, cells := 0, slots := 0, locals := 44 }, 1)
theorem ck_X9_deep : CK iM_deep 2 := ⟨⟨wd_113, wd_1580, by decide +kernel⟩, ⟨wd_1578, wd_1579⟩⟩
def jM_deep_24 (v1 : Int32) (v2 : Int32) : Nat → Int32 → Int32 → AH → Option (Int32 × AH)
  | 0, _, _, _ => none
  | n + 1, v3, v4, h =>
    if inb 0 340 = true then (
    if v4 < (gI h 37 0 (0 : Int32).toNatClampNeg) then ((jM_cellOf h v1 v2).bind fun r1 =>
    (jM_paintOf h v4 r1).bind fun r2 =>
    if r2 = (-2) then ((jM_deep_24 v1 v2 n (v3 + 0) (v4 + 1) h))
    else ((jM_deep_24 v1 v2 n (v3 + 1) (v4 + 1) h)))
    else (some (v3, h))) else none
set_option maxRecDepth 20000 in
set_option maxHeartbeats 2000000 in
theorem sM_deep_24 (G : JG) (v1 : Int32) (v2 : Int32)  : ∀ (n : Nat) (v3 : Int32) (v4 : Int32) (h : AH), Sim G iM_deep rvIM 24 [(0, .ref (G.ad 32 0)), (1, .int v1), (2, .int v2), (3, .int v3), (4, .int v4)] [] h (jM_deep_24 v1 v2 n v3 v4 h) := by
  intro n
  induction n with
  | zero => intro v3 v4 h; exact E_none
  | succ n ih =>
    intro v3 v4 h
    rw [jM_deep_24]
    refine E_iload dX9_deep_24 4 rfl ?_
    refine E_aload_n dX9_deep_26 rfl 0 rfl ?_
    refine E_getF fl_X9_26 dX9_deep_27 z32 ?_
    refine E_iconst (v := 0) dX9_deep_30 rfl ?_
    refine E_iald (n := 340) rfl dX9_deep_31 z37 (fun _ => ?_)
    refine E_icmp_ge (t := 66) dX9_deep_32 rfl ?_ ?_
    · refine E_iload_n dX9_deep_66 rfl 3 rfl ?_
      exact E_iret rfl rfl dX9_deep_67
    · refine E_iload_n dX9_deep_35 rfl 3 rfl ?_
      refine E_aload_n dX9_deep_36 rfl 0 rfl ?_
      refine E_iload dX9_deep_37 4 rfl ?_
      refine E_aload_n dX9_deep_39 rfl 0 rfl ?_
      refine E_iload_n dX9_deep_40 rfl 1 rfl ?_
      refine E_iload_n dX9_deep_41 rfl 2 rfl ?_
      refine E_cVI (As := [.int v1, .int v2]) (rest := [.int v4, .ref (G.ad 32 0), .int v3]) (sM_cellOf G h v1 v2) ck_X9_cellOf lk_X9_272 rfl rfl kc_32 z32 rfl rfl rfl dX9_deep_42 (fun r1 _ => ?_)
      refine E_cVI (As := [.int v4, .int r1]) (rest := [.int v3]) (sM_paintOf G h v4 r1) ck_X9_paintOf lk_X9_262 rfl rfl kc_32 z32 rfl rfl rfl dX9_deep_45 (fun r2 _ => ?_)
      refine E_bipush (v := (-2)) dX9_deep_48 rfl ?_
      refine E_icmp_ne (t := 57) dX9_deep_50 rfl ?_ ?_
      · refine E_iconst (v := 1) dX9_deep_57 rfl ?_
        refine E_iadd dX9_deep_58 ?_
        refine E_istore_n (ls' := [(3, .int (v3 + 1)), (0, .ref (G.ad 32 0)), (1, .int v1), (2, .int v2), (4, .int v4)]) dX9_deep_59 rfl (Nat.le_of_ble_eq_true rfl) rfl ?_
        refine E_iinc (q := 4) (v := (v4 + 1)) (ls' := [(4, .int (v4 + 1)), (3, .int (v3 + 1)), (0, .ref (G.ad 32 0)), (1, .int v1), (2, .int v2)]) dX9_deep_60 rfl rfl (Nat.le_of_ble_eq_true rfl) rfl ?_
        refine E_goto (t := 24) dX9_deep_63 rfl ?_
        exact E_sub [2, 3, 4, 1, 0] rfl (ih (v3 + 1) (v4 + 1) h)
      · refine E_iconst (v := 0) dX9_deep_53 rfl ?_
        refine E_goto (t := 58) dX9_deep_54 rfl ?_
        refine E_iadd dX9_deep_58 ?_
        refine E_istore_n (ls' := [(3, .int (v3 + 0)), (0, .ref (G.ad 32 0)), (1, .int v1), (2, .int v2), (4, .int v4)]) dX9_deep_59 rfl (Nat.le_of_ble_eq_true rfl) rfl ?_
        refine E_iinc (q := 4) (v := (v4 + 1)) (ls' := [(4, .int (v4 + 1)), (3, .int (v3 + 0)), (0, .ref (G.ad 32 0)), (1, .int v1), (2, .int v2)]) dX9_deep_60 rfl rfl (Nat.le_of_ble_eq_true rfl) rfl ?_
        refine E_goto (t := 24) dX9_deep_63 rfl ?_
        exact E_sub [2, 3, 4, 1, 0] rfl (ih (v3 + 0) (v4 + 1) h)
def jM_deep (h : AH) (v1 : Int32) (v2 : Int32) : Option (Int32 × AH) :=
  (jM_good h).bind fun h1 =>
  (jM_isCell h1 v1 v2).bind fun r2 =>
  if r2 = 0 then ((jM_no h1 1).bind fun q3 =>
  some (q3.1, q3.2))
  else ((jM_deep_24 v1 v2 FU 0 0 h1))
set_option maxRecDepth 20000 in
set_option maxHeartbeats 2000000 in
theorem sM_deep (G : JG) (h : AH) (v1 : Int32) (v2 : Int32) : Mt G iM_deep rvIM [.ref (G.ad 32 0), .int v1, .int v2] h (jM_deep h v1 v2) := by
  refine Mt_of (by decide) (Nat.le_of_ble_eq_true rfl) ?_
  unfold jM_deep
  show Sim G iM_deep rvIM 0 [(0, .ref (G.ad 32 0)), (1, .int v1), (2, .int v2)] [] h _
  refine E_aload_n dX9_deep_0 rfl 0 rfl ?_
  refine E_cVV (As := []) (rest := []) (sM_good G h) ck_X9_good lk_X9_155 rfl rfl kc_32 z32 rfl rfl rfl dX9_deep_1 (fun h1 _ => ?_)
  refine E_aload_n dX9_deep_4 rfl 0 rfl ?_
  refine E_iload_n dX9_deep_5 rfl 1 rfl ?_
  refine E_iload_n dX9_deep_6 rfl 2 rfl ?_
  refine E_cVI (As := [.int v1, .int v2]) (rest := []) (sM_isCell G h1 v1 v2) ck_X9_isCell lk_X9_268 rfl rfl kc_32 z32 rfl rfl rfl dX9_deep_7 (fun r2 _ => ?_)
  refine E_if_ne (t := 19) dX9_deep_10 rfl ?_ ?_
  · refine E_iconst (v := 0) dX9_deep_19 rfl ?_
    refine E_istore_n (ls' := [(3, .int 0), (0, .ref (G.ad 32 0)), (1, .int v1), (2, .int v2)]) dX9_deep_20 rfl (Nat.le_of_ble_eq_true rfl) rfl ?_
    refine E_iconst (v := 0) dX9_deep_21 rfl ?_
    refine E_istore (ls' := [(4, .int 0), (3, .int 0), (0, .ref (G.ad 32 0)), (1, .int v1), (2, .int v2)]) dX9_deep_22 (Nat.le_of_ble_eq_true rfl) rfl ?_
    exact E_sub [2, 3, 4, 1, 0] rfl (sM_deep_24 G v1 v2 FU 0 0 h1)
  · refine E_aload_n dX9_deep_13 rfl 0 rfl ?_
    refine E_iconst (v := 1) dX9_deep_14 rfl ?_
    refine E_cVIM (As := [.int 1]) (rest := []) (sM_no G h1 1) ck_X9_no lk_X9_158 rfl rfl kc_32 z32 rfl rfl rfl dX9_deep_15 (fun q3 _ => ?_)
    exact E_iret rfl rfl dX9_deep_18
def iM_dry : MI := (yX9_dry, cX9_dry, 1, (some .int), { frames := 6, cells := 0, slots := 0, locals := 139 }, 1)
theorem ck_X9_dry : CK iM_dry 0 := ⟨⟨wd_113, wd_1821, by decide +kernel⟩, ⟨wd_1819, wd_1820⟩⟩
def jM_dry (h : AH)  : Option (Int32 × AH) :=
  (jM_good h).bind fun h1 =>
  if (gI h1 32 0 14) = 0 then ((jM_no h1 6).bind fun q2 =>
  some (q2.1, q2.2))
  else (if inb 1 340 = true then (
  if (gI h1 37 0 (1 : Int32).toNatClampNeg) = 0 then ((jM_no h1 6).bind fun q9 =>
  some (q9.1, q9.2))
  else (if inb 0 340 = true then (
  (jM_judgedOf h1 (gI h1 37 0 (0 : Int32).toNatClampNeg)).bind fun r3 =>
  if r3 = 0 then ((jM_note h1).bind fun h4 =>
  if inb 1 340 = true then (
  jb (uI h4 37 0 (1 : Int32).toNatClampNeg 0) fun h5 =>
  if inb 0 340 = true then (
  if inb 0 340 = true then (
  jb (uI h5 37 0 (0 : Int32).toNatClampNeg ((gI h5 37 0 (0 : Int32).toNatClampNeg) + 1)) fun h6 =>
  (jM_did h6).bind fun q7 =>
  if inb 0 340 = true then (
  some (((gI q7.2 37 0 (0 : Int32).toNatClampNeg) - 1), q7.2)) else none) else none) else none) else none)
  else ((jM_no h1 5).bind fun q8 =>
  some (q8.1, q8.2))) else none)) else none)
set_option maxRecDepth 20000 in
set_option maxHeartbeats 2000000 in
theorem sM_dry (G : JG) (h : AH)  : Mt G iM_dry rvIM [.ref (G.ad 32 0)] h (jM_dry h) := by
  refine Mt_of (by decide) (Nat.le_of_ble_eq_true rfl) ?_
  unfold jM_dry
  show Sim G iM_dry rvIM 0 [(0, .ref (G.ad 32 0))] [] h _
  refine E_aload_n dX9_dry_0 rfl 0 rfl ?_
  refine E_cVV (As := []) (rest := []) (sM_good G h) ck_X9_good lk_X9_155 rfl rfl kc_32 z32 rfl rfl rfl dX9_dry_1 (fun h1 _ => ?_)
  refine E_aload_n dX9_dry_4 rfl 0 rfl ?_
  refine E_getI fl_X9_168 dX9_dry_5 z32 ?_
  refine E_if_eq (t := 20) dX9_dry_8 rfl ?_ ?_
  · refine E_aload_n dX9_dry_20 rfl 0 rfl ?_
    refine E_bipush (v := 6) dX9_dry_21 rfl ?_
    refine E_cVIM (As := [.int 6]) (rest := []) (sM_no G h1 6) ck_X9_no lk_X9_158 rfl rfl kc_32 z32 rfl rfl rfl dX9_dry_23 (fun q2 _ => ?_)
    exact E_iret rfl rfl dX9_dry_26
  · refine E_aload_n dX9_dry_11 rfl 0 rfl ?_
    refine E_getF fl_X9_26 dX9_dry_12 z32 ?_
    refine E_iconst (v := 1) dX9_dry_15 rfl ?_
    refine E_iald (n := 340) rfl dX9_dry_16 z37 (fun _ => ?_)
    refine E_if_ne (t := 27) dX9_dry_17 rfl ?_ ?_
    · refine E_aload_n dX9_dry_27 rfl 0 rfl ?_
      refine E_aload_n dX9_dry_28 rfl 0 rfl ?_
      refine E_getF fl_X9_26 dX9_dry_29 z32 ?_
      refine E_iconst (v := 0) dX9_dry_32 rfl ?_
      refine E_iald (n := 340) rfl dX9_dry_33 z37 (fun _ => ?_)
      refine E_cVI (As := [.int (gI h1 37 0 (0 : Int32).toNatClampNeg)]) (rest := []) (sM_judgedOf G h1 (gI h1 37 0 (0 : Int32).toNatClampNeg)) ck_X9_judgedOf lk_X9_320 rfl rfl kc_32 z32 rfl rfl rfl dX9_dry_34 (fun r3 _ => ?_)
      refine E_if_eq (t := 46) dX9_dry_37 rfl ?_ ?_
      · refine E_aload_n dX9_dry_46 rfl 0 rfl ?_
        refine E_cVV (As := []) (rest := []) (sM_note G h1) ck_X9_note lk_X9_383 rfl rfl kc_32 z32 rfl rfl rfl dX9_dry_47 (fun h4 _ => ?_)
        refine E_aload_n dX9_dry_50 rfl 0 rfl ?_
        refine E_getF fl_X9_26 dX9_dry_51 z32 ?_
        refine E_iconst (v := 1) dX9_dry_54 rfl ?_
        refine E_iconst (v := 0) dX9_dry_55 rfl ?_
        refine E_iast (n := 340) rfl dX9_dry_56 z37 (fun _ => ?_)
        refine E_hgen (fun h5 => ?_)
        refine E_aload_n dX9_dry_57 rfl 0 rfl ?_
        refine E_getF fl_X9_26 dX9_dry_58 z32 ?_
        refine E_iconst (v := 0) dX9_dry_61 rfl ?_
        refine E_dup2 dX9_dry_62 rfl rfl ?_
        refine E_iald (n := 340) rfl dX9_dry_63 z37 (fun _ => ?_)
        refine E_iconst (v := 1) dX9_dry_64 rfl ?_
        refine E_iadd dX9_dry_65 ?_
        refine E_iast (n := 340) rfl dX9_dry_66 z37 (fun _ => ?_)
        refine E_hgen (fun h6 => ?_)
        refine E_aload_n dX9_dry_67 rfl 0 rfl ?_
        refine E_cVIM (As := []) (rest := []) (sM_did G h6) ck_X9_did lk_X9_386 rfl rfl kc_32 z32 rfl rfl rfl dX9_dry_68 (fun q7 _ => ?_)
        refine E_pop dX9_dry_71 rfl ?_
        refine E_aload_n dX9_dry_72 rfl 0 rfl ?_
        refine E_getF fl_X9_26 dX9_dry_73 z32 ?_
        refine E_iconst (v := 0) dX9_dry_76 rfl ?_
        refine E_iald (n := 340) rfl dX9_dry_77 z37 (fun _ => ?_)
        refine E_iconst (v := 1) dX9_dry_78 rfl ?_
        refine E_isub dX9_dry_79 ?_
        exact E_iret rfl rfl dX9_dry_80
      · refine E_aload_n dX9_dry_40 rfl 0 rfl ?_
        refine E_iconst (v := 5) dX9_dry_41 rfl ?_
        refine E_cVIM (As := [.int 5]) (rest := []) (sM_no G h1 5) ck_X9_no lk_X9_158 rfl rfl kc_32 z32 rfl rfl rfl dX9_dry_42 (fun q8 _ => ?_)
        exact E_iret rfl rfl dX9_dry_45
    · refine E_aload_n dX9_dry_20 rfl 0 rfl ?_
      refine E_bipush (v := 6) dX9_dry_21 rfl ?_
      refine E_cVIM (As := [.int 6]) (rest := []) (sM_no G h1 6) ck_X9_no lk_X9_158 rfl rfl kc_32 z32 rfl rfl rfl dX9_dry_23 (fun q9 _ => ?_)
      exact E_iret rfl rfl dX9_dry_26
def iM_fault : MI := (yX9_fault, cX9_fault, 1, (some .int), { frames := 0, cells := 0, slots := 0, locals := 0 }, 1)
theorem ck_X9_fault : CK iM_fault 0 := ⟨⟨wd_113, wd_1528, by decide +kernel⟩, ⟨wd_1526, wd_1527⟩⟩
def jM_fault (h : AH)  : Option (Int32 × AH) :=
  jb (uI h 32 0 0 0) fun h1 =>
  some ((gI h1 32 0 9), h1)
set_option maxRecDepth 20000 in
set_option maxHeartbeats 2000000 in
theorem sM_fault (G : JG) (h : AH)  : Mt G iM_fault rvIM [.ref (G.ad 32 0)] h (jM_fault h) := by
  refine Mt_of (by decide) (Nat.le_of_ble_eq_true rfl) ?_
  unfold jM_fault
  show Sim G iM_fault rvIM 0 [(0, .ref (G.ad 32 0))] [] h _
  refine E_aload_n dX9_fault_0 rfl 0 rfl ?_
  refine E_iconst (v := 0) dX9_fault_1 rfl ?_
  refine E_putI fs_X9_55 dX9_fault_2 z32 ?_
  refine E_hgen (fun h1 => ?_)
  refine E_aload_n dX9_fault_5 rfl 0 rfl ?_
  refine E_getI fl_X9_97 dX9_fault_6 z32 ?_
  exact E_iret rfl rfl dX9_fault_9
def iM_feed : MI := (yX9_feed, cX9_feed, 8, (some .int), { frames := 0, cells := 0, slots := 0, locals := 0 }, 1)
theorem ck_X9_feed : CK iM_feed 5 := ⟨⟨wd_113, wd_1335, by decide +kernel⟩, ⟨wd_1333, wd_1334⟩⟩
def jM_feed_76 (v1 : Int32) (v2 : Int32) (v3 : Int32) (v4 : Int32) (v5 : Int32) (k_23 : Int32 → AH → Option (Int32 × AH)) (v6 : Int32) (s0 : Int32) (h : AH) : Option (Int32 × AH) :=
  if 4 = 0 then none else (
  if inb (gI h 32 0 2) 900 = true then (
  jb (uI h 33 0 (gI h 32 0 2).toNatClampNeg ((s0 >>> ((24 - (8 * (v6 - (v6 / 4) * 4))) &&& 31)) &&& 255)) fun h1 =>
  jb (uI h1 32 0 2 ((gI h1 32 0 2) + 1)) fun h2 =>
  (k_23 (v6 + 1) h2)) else none)
set_option maxRecDepth 20000 in
set_option maxHeartbeats 2000000 in
theorem sM_feed_76 (G : JG) (v1 : Int32) (v2 : Int32) (v3 : Int32) (v4 : Int32) (v5 : Int32) (k_23 : Int32 → AH → Option (Int32 × AH)) (hk_23 : ∀ (v6 : Int32) (h : AH), Sim G iM_feed rvIM 23 [(0, .ref (G.ad 32 0)), (1, .int v1), (2, .int v2), (3, .int v3), (4, .int v4), (5, .int v5), (6, .int v6)] [] h (k_23 v6 h)) (v6 : Int32) (s0 : Int32) (h : AH) : Sim G iM_feed rvIM 76 [(0, .ref (G.ad 32 0)), (1, .int v1), (2, .int v2), (3, .int v3), (4, .int v4), (5, .int v5), (6, .int v6)] [.int s0] h (jM_feed_76 v1 v2 v3 v4 v5 k_23 v6 s0 h) := by
  unfold jM_feed_76
  refine E_istore (ls' := [(7, .int s0), (0, .ref (G.ad 32 0)), (1, .int v1), (2, .int v2), (3, .int v3), (4, .int v4), (5, .int v5), (6, .int v6)]) dX9_feed_76 (Nat.le_of_ble_eq_true rfl) rfl ?_
  refine E_aload_n dX9_feed_78 rfl 1 rfl ?_
  refine E_getF fl_X9_7 dX9_feed_79 z32 ?_
  refine E_aload_n dX9_feed_82 rfl 1 rfl ?_
  refine E_getI fl_X9_61 dX9_feed_83 z32 ?_
  refine E_iload dX9_feed_86 0 rfl ?_
  refine E_bipush (v := 24) dX9_feed_88 rfl ?_
  refine E_bipush (v := 8) dX9_feed_90 rfl ?_
  refine E_iload dX9_feed_92 7 rfl ?_
  refine E_iconst (v := 4) dX9_feed_94 rfl ?_
  refine E_irem dX9_feed_95 (fun _ => ?_)
  refine E_imul dX9_feed_96 ?_
  refine E_isub dX9_feed_97 ?_
  refine E_ishr dX9_feed_98 ?_
  refine E_sipush (v := 255) dX9_feed_99 rfl ?_
  refine E_iand dX9_feed_102 ?_
  refine E_iast (n := 900) rfl dX9_feed_103 z33 (fun _ => ?_)
  refine E_hgen (fun h1 => ?_)
  refine E_aload_n dX9_feed_104 rfl 1 rfl ?_
  refine E_dup dX9_feed_105 rfl ?_
  refine E_getI fl_X9_61 dX9_feed_106 z32 ?_
  refine E_iconst (v := 1) dX9_feed_109 rfl ?_
  refine E_iadd dX9_feed_110 ?_
  refine E_putI fs_X9_61 dX9_feed_111 z32 ?_
  refine E_hgen (fun h2 => ?_)
  refine E_iinc (q := 7) (v := (v6 + 1)) (ls' := [(6, .int (v6 + 1)), (7, .int s0), (0, .ref (G.ad 32 0)), (1, .int v1), (2, .int v2), (3, .int v3), (4, .int v4), (5, .int v5)]) dX9_feed_114 rfl rfl (Nat.le_of_ble_eq_true rfl) rfl ?_
  refine E_goto (t := 23) dX9_feed_117 rfl ?_
  exact E_sub [2, 3, 4, 5, 6, 7, 0] rfl (hk_23 (v6 + 1) h2)
def jM_feed_23 (v1 : Int32) (v2 : Int32) (v3 : Int32) (v4 : Int32) (v5 : Int32) : Nat → Int32 → AH → Option (Int32 × AH)
  | 0, _, _ => none
  | n + 1, v6, h =>
    if v6 < 20 then (if v6 < 4 then ((jM_feed_76 v1 v2 v3 v4 v5 (jM_feed_23 v1 v2 v3 v4 v5 n) v6 v1 h))
    else (if v6 < 8 then ((jM_feed_76 v1 v2 v3 v4 v5 (jM_feed_23 v1 v2 v3 v4 v5 n) v6 v2 h))
    else (if v6 < 12 then ((jM_feed_76 v1 v2 v3 v4 v5 (jM_feed_23 v1 v2 v3 v4 v5 n) v6 v3 h))
    else (if v6 < 16 then ((jM_feed_76 v1 v2 v3 v4 v5 (jM_feed_23 v1 v2 v3 v4 v5 n) v6 v4 h))
    else ((jM_feed_76 v1 v2 v3 v4 v5 (jM_feed_23 v1 v2 v3 v4 v5 n) v6 v5 h))))))
    else (some ((gI h 32 0 2), h))
set_option maxRecDepth 20000 in
set_option maxHeartbeats 2000000 in
theorem sM_feed_23 (G : JG) (v1 : Int32) (v2 : Int32) (v3 : Int32) (v4 : Int32) (v5 : Int32)  : ∀ (n : Nat) (v6 : Int32) (h : AH), Sim G iM_feed rvIM 23 [(0, .ref (G.ad 32 0)), (1, .int v1), (2, .int v2), (3, .int v3), (4, .int v4), (5, .int v5), (6, .int v6)] [] h (jM_feed_23 v1 v2 v3 v4 v5 n v6 h) := by
  intro n
  induction n with
  | zero => intro v6 h; exact E_none
  | succ n ih =>
    intro v6 h
    rw [jM_feed_23]
    refine E_iload dX9_feed_23 6 rfl ?_
    refine E_bipush (v := 20) dX9_feed_25 rfl ?_
    refine E_icmp_ge (t := 120) dX9_feed_27 rfl ?_ ?_
    · refine E_aload_n dX9_feed_120 rfl 0 rfl ?_
      refine E_getI fl_X9_61 dX9_feed_121 z32 ?_
      exact E_iret rfl rfl dX9_feed_124
    · refine E_iload dX9_feed_30 6 rfl ?_
      refine E_iconst (v := 4) dX9_feed_32 rfl ?_
      refine E_icmp_ge (t := 40) dX9_feed_33 rfl ?_ ?_
      · refine E_iload dX9_feed_40 6 rfl ?_
        refine E_bipush (v := 8) dX9_feed_42 rfl ?_
        refine E_icmp_ge (t := 51) dX9_feed_44 rfl ?_ ?_
        · refine E_iload dX9_feed_51 6 rfl ?_
          refine E_bipush (v := 12) dX9_feed_53 rfl ?_
          refine E_icmp_ge (t := 62) dX9_feed_55 rfl ?_ ?_
          · refine E_iload dX9_feed_62 6 rfl ?_
            refine E_bipush (v := 16) dX9_feed_64 rfl ?_
            refine E_icmp_ge (t := 74) dX9_feed_66 rfl ?_ ?_
            · refine E_iload dX9_feed_74 5 rfl ?_
              exact E_sub [0, 1, 2, 3, 4, 5, 6] rfl (sM_feed_76 G v1 v2 v3 v4 v5 (jM_feed_23 v1 v2 v3 v4 v5 n) ih v6 v5 h)
            · refine E_iload dX9_feed_69 4 rfl ?_
              refine E_goto (t := 76) dX9_feed_71 rfl ?_
              exact E_sub [0, 1, 2, 3, 4, 5, 6] rfl (sM_feed_76 G v1 v2 v3 v4 v5 (jM_feed_23 v1 v2 v3 v4 v5 n) ih v6 v4 h)
          · refine E_iload_n dX9_feed_58 rfl 3 rfl ?_
            refine E_goto (t := 76) dX9_feed_59 rfl ?_
            exact E_sub [0, 1, 2, 3, 4, 5, 6] rfl (sM_feed_76 G v1 v2 v3 v4 v5 (jM_feed_23 v1 v2 v3 v4 v5 n) ih v6 v3 h)
        · refine E_iload_n dX9_feed_47 rfl 2 rfl ?_
          refine E_goto (t := 76) dX9_feed_48 rfl ?_
          exact E_sub [0, 1, 2, 3, 4, 5, 6] rfl (sM_feed_76 G v1 v2 v3 v4 v5 (jM_feed_23 v1 v2 v3 v4 v5 n) ih v6 v2 h)
      · refine E_iload_n dX9_feed_36 rfl 1 rfl ?_
        refine E_goto (t := 76) dX9_feed_37 rfl ?_
        exact E_sub [0, 1, 2, 3, 4, 5, 6] rfl (sM_feed_76 G v1 v2 v3 v4 v5 (jM_feed_23 v1 v2 v3 v4 v5 n) ih v6 v1 h)
def jM_feed (h : AH) (v1 : Int32) (v2 : Int32) (v3 : Int32) (v4 : Int32) (v5 : Int32) : Option (Int32 × AH) :=
  jb (uI h 32 0 0 0) fun h1 =>
  if ((gI h1 32 0 2) + 20) ≤ 900 then ((jM_feed_23 v1 v2 v3 v4 v5 FU 0 h1))
  else (some ((-1), h1))
set_option maxRecDepth 20000 in
set_option maxHeartbeats 2000000 in
theorem sM_feed (G : JG) (h : AH) (v1 : Int32) (v2 : Int32) (v3 : Int32) (v4 : Int32) (v5 : Int32) : Mt G iM_feed rvIM [.ref (G.ad 32 0), .int v1, .int v2, .int v3, .int v4, .int v5] h (jM_feed h v1 v2 v3 v4 v5) := by
  refine Mt_of (by decide) (Nat.le_of_ble_eq_true rfl) ?_
  unfold jM_feed
  show Sim G iM_feed rvIM 0 [(0, .ref (G.ad 32 0)), (1, .int v1), (2, .int v2), (3, .int v3), (4, .int v4), (5, .int v5)] [] h _
  refine E_aload_n dX9_feed_0 rfl 0 rfl ?_
  refine E_iconst (v := 0) dX9_feed_1 rfl ?_
  refine E_putI fs_X9_55 dX9_feed_2 z32 ?_
  refine E_hgen (fun h1 => ?_)
  refine E_aload_n dX9_feed_5 rfl 0 rfl ?_
  refine E_getI fl_X9_61 dX9_feed_6 z32 ?_
  refine E_bipush (v := 20) dX9_feed_9 rfl ?_
  refine E_iadd dX9_feed_11 ?_
  refine E_sipush (v := 900) dX9_feed_12 rfl ?_
  refine E_icmp_le (t := 20) dX9_feed_15 rfl ?_ ?_
  · refine E_iconst (v := 0) dX9_feed_20 rfl ?_
    refine E_istore (ls' := [(6, .int 0), (0, .ref (G.ad 32 0)), (1, .int v1), (2, .int v2), (3, .int v3), (4, .int v4), (5, .int v5)]) dX9_feed_21 (Nat.le_of_ble_eq_true rfl) rfl ?_
    exact E_sub [1, 2, 3, 4, 5, 6, 0] rfl (sM_feed_23 G v1 v2 v3 v4 v5 FU 0 h1)
  · refine E_iconst (v := (-1)) dX9_feed_18 rfl ?_
    exact E_iret rfl rfl dX9_feed_19
def iM_forged : MI := (yX9_forged, cX9_forged, 2, (some .int), { frames := 2, cells := 0, slots := 0, locals := 45 }, 1)
theorem ck_X9_forged : CK iM_forged 0 := ⟨⟨wd_113, wd_1685, by decide +kernel⟩, ⟨wd_1683, wd_1684⟩⟩
def jM_forged_19  : Nat → Int32 → AH → Option (Int32 × AH)
  | 0, _, _ => none
  | n + 1, v1, h =>
    if inb 0 340 = true then (
    if v1 < (gI h 37 0 (0 : Int32).toNatClampNeg) then ((jM_tooNew h v1).bind fun r1 =>
    if r1 = (-2) then ((jM_forged_19 n (v1 + 1) h))
    else (some (v1, h)))
    else (some ((-2), h))) else none
set_option maxRecDepth 20000 in
set_option maxHeartbeats 2000000 in
theorem sM_forged_19 (G : JG)   : ∀ (n : Nat) (v1 : Int32) (h : AH), Sim G iM_forged rvIM 19 [(0, .ref (G.ad 32 0)), (1, .int v1)] [] h (jM_forged_19 n v1 h) := by
  intro n
  induction n with
  | zero => intro v1 h; exact E_none
  | succ n ih =>
    intro v1 h
    rw [jM_forged_19]
    refine E_iload_n dX9_forged_19 rfl 1 rfl ?_
    refine E_aload_n dX9_forged_20 rfl 0 rfl ?_
    refine E_getF fl_X9_26 dX9_forged_21 z32 ?_
    refine E_iconst (v := 0) dX9_forged_24 rfl ?_
    refine E_iald (n := 340) rfl dX9_forged_25 z37 (fun _ => ?_)
    refine E_icmp_ge (t := 47) dX9_forged_26 rfl ?_ ?_
    · refine E_bipush (v := (-2)) dX9_forged_47 rfl ?_
      exact E_iret rfl rfl dX9_forged_49
    · refine E_aload_n dX9_forged_29 rfl 0 rfl ?_
      refine E_iload_n dX9_forged_30 rfl 1 rfl ?_
      refine E_cVI (As := [.int v1]) (rest := []) (sM_tooNew G h v1) ck_X9_tooNew lk_X9_317 rfl rfl kc_32 z32 rfl rfl rfl dX9_forged_31 (fun r1 _ => ?_)
      refine E_bipush (v := (-2)) dX9_forged_34 rfl ?_
      refine E_icmp_eq (t := 41) dX9_forged_36 rfl ?_ ?_
      · refine E_iinc (q := 1) (v := (v1 + 1)) (ls' := [(1, .int (v1 + 1)), (0, .ref (G.ad 32 0))]) dX9_forged_41 rfl rfl (Nat.le_of_ble_eq_true rfl) rfl ?_
        refine E_goto (t := 19) dX9_forged_44 rfl ?_
        exact E_sub [1, 0] rfl (ih (v1 + 1) h)
      · refine E_iload_n dX9_forged_39 rfl 1 rfl ?_
        exact E_iret rfl rfl dX9_forged_40
def jM_forged (h : AH)  : Option (Int32 × AH) :=
  (jM_good h).bind fun h1 =>
  if (gI h1 32 0 14) = 0 then ((jM_no h1 1).bind fun q2 =>
  some (q2.1, q2.2))
  else ((jM_forged_19 FU 0 h1))
set_option maxRecDepth 20000 in
set_option maxHeartbeats 2000000 in
theorem sM_forged (G : JG) (h : AH)  : Mt G iM_forged rvIM [.ref (G.ad 32 0)] h (jM_forged h) := by
  refine Mt_of (by decide) (Nat.le_of_ble_eq_true rfl) ?_
  unfold jM_forged
  show Sim G iM_forged rvIM 0 [(0, .ref (G.ad 32 0))] [] h _
  refine E_aload_n dX9_forged_0 rfl 0 rfl ?_
  refine E_cVV (As := []) (rest := []) (sM_good G h) ck_X9_good lk_X9_155 rfl rfl kc_32 z32 rfl rfl rfl dX9_forged_1 (fun h1 _ => ?_)
  refine E_aload_n dX9_forged_4 rfl 0 rfl ?_
  refine E_getI fl_X9_168 dX9_forged_5 z32 ?_
  refine E_if_ne (t := 17) dX9_forged_8 rfl ?_ ?_
  · refine E_iconst (v := 0) dX9_forged_17 rfl ?_
    refine E_istore_n (ls' := [(1, .int 0), (0, .ref (G.ad 32 0))]) dX9_forged_18 rfl (Nat.le_of_ble_eq_true rfl) rfl ?_
    exact E_sub [1, 0] rfl (sM_forged_19 G FU 0 h1)
  · refine E_aload_n dX9_forged_11 rfl 0 rfl ?_
    refine E_iconst (v := 1) dX9_forged_12 rfl ?_
    refine E_cVIM (As := [.int 1]) (rest := []) (sM_no G h1 1) ck_X9_no lk_X9_158 rfl rfl kc_32 z32 rfl rfl rfl dX9_forged_13 (fun q2 _ => ?_)
    exact E_iret rfl rfl dX9_forged_16
def iM_freed : MI := (yX9_freed, cX9_freed, 7, (some .int), { frames := 6, cells := 0, slots := 0, locals := 143 }, 1)
theorem ck_X9_freed : CK iM_freed 2 := ⟨⟨wd_113, wd_1797, by decide +kernel⟩, ⟨wd_1795, wd_1796⟩⟩
def jM_freed (h : AH) (v1 : Int32) (v2 : Int32) : Option (Int32 × AH) :=
  (jM_good h).bind fun h1 =>
  if (gI h1 32 0 14) = 0 then ((jM_no h1 1).bind fun q2 =>
  some (q2.1, q2.2))
  else (if inb 6 161 = true then (
  (jM_within v1 0 ((gI h1 35 0 (6 : Int32).toNatClampNeg) - 1)).bind fun r3 =>
  if r3 = 0 then ((jM_no h1 1).bind fun q10 =>
  some (q10.1, q10.2))
  else ((jM_yearWhy h1 v2).bind fun r4 =>
  if r4 = 0 then ((jM_layBest h1 v2).bind fun h5 =>
  if inb ((22 + (6 * v1)) + 4) 161 = true then (
  if inb ((22 + (6 * v1)) + 4) 161 = true then (
  jb (uI h5 35 0 ((22 + (6 * v1)) + 4).toNatClampNeg 1001) fun h6 =>
  (jM_layBest h6 v2).bind fun h7 =>
  if inb ((22 + (6 * v1)) + 4) 161 = true then (
  jb (uI h7 35 0 ((22 + (6 * v1)) + 4).toNatClampNeg (gI h5 35 0 ((22 + (6 * v1)) + 4).toNatClampNeg)) fun h8 =>
  some (((gI h8 32 0 31) - (gI h5 32 0 31)), h8)) else none) else none) else none)
  else ((jM_no h1 r4).bind fun q9 =>
  some (q9.1, q9.2)))) else none)
set_option maxRecDepth 20000 in
set_option maxHeartbeats 2000000 in
theorem sM_freed (G : JG) (h : AH) (v1 : Int32) (v2 : Int32) : Mt G iM_freed rvIM [.ref (G.ad 32 0), .int v1, .int v2] h (jM_freed h v1 v2) := by
  refine Mt_of (by decide) (Nat.le_of_ble_eq_true rfl) ?_
  unfold jM_freed
  show Sim G iM_freed rvIM 0 [(0, .ref (G.ad 32 0)), (1, .int v1), (2, .int v2)] [] h _
  refine E_aload_n dX9_freed_0 rfl 0 rfl ?_
  refine E_cVV (As := []) (rest := []) (sM_good G h) ck_X9_good lk_X9_155 rfl rfl kc_32 z32 rfl rfl rfl dX9_freed_1 (fun h1 _ => ?_)
  refine E_aload_n dX9_freed_4 rfl 0 rfl ?_
  refine E_getI fl_X9_168 dX9_freed_5 z32 ?_
  refine E_if_eq (t := 28) dX9_freed_8 rfl ?_ ?_
  · refine E_aload_n dX9_freed_28 rfl 0 rfl ?_
    refine E_iconst (v := 1) dX9_freed_29 rfl ?_
    refine E_cVIM (As := [.int 1]) (rest := []) (sM_no G h1 1) ck_X9_no lk_X9_158 rfl rfl kc_32 z32 rfl rfl rfl dX9_freed_30 (fun q2 _ => ?_)
    exact E_iret rfl rfl dX9_freed_33
  · refine E_iload_n dX9_freed_11 rfl 1 rfl ?_
    refine E_iconst (v := 0) dX9_freed_12 rfl ?_
    refine E_aload_n dX9_freed_13 rfl 0 rfl ?_
    refine E_getF fl_X9_20 dX9_freed_14 z32 ?_
    refine E_bipush (v := 6) dX9_freed_17 rfl ?_
    refine E_iald (n := 161) rfl dX9_freed_19 z35 (fun _ => ?_)
    refine E_iconst (v := 1) dX9_freed_20 rfl ?_
    refine E_isub dX9_freed_21 ?_
    refine E_cSI (As := [.int v1, .int 0, .int ((gI h1 35 0 (6 : Int32).toNatClampNeg) - 1)]) (rest := []) (sM_within G h1 v1 0 ((gI h1 35 0 (6 : Int32).toNatClampNeg) - 1)) ck_X9_within lk_X9_139 rfl rfl rfl rfl rfl dX9_freed_22 (fun r3 _ => ?_)
    refine E_if_ne (t := 34) dX9_freed_25 rfl ?_ ?_
    · refine E_aload_n dX9_freed_34 rfl 0 rfl ?_
      refine E_iload_n dX9_freed_35 rfl 2 rfl ?_
      refine E_cVI (As := [.int v2]) (rest := []) (sM_yearWhy G h1 v2) ck_X9_yearWhy lk_X9_356 rfl rfl kc_32 z32 rfl rfl rfl dX9_freed_36 (fun r4 _ => ?_)
      refine E_istore_n (ls' := [(3, .int r4), (0, .ref (G.ad 32 0)), (1, .int v1), (2, .int v2)]) dX9_freed_39 rfl (Nat.le_of_ble_eq_true rfl) rfl ?_
      refine E_iload_n dX9_freed_40 rfl 0 rfl ?_
      refine E_if_eq (t := 50) dX9_freed_41 rfl ?_ ?_
      · refine E_aload_n dX9_freed_50 rfl 1 rfl ?_
        refine E_iload_n dX9_freed_51 rfl 3 rfl ?_
        refine E_cVV (As := [.int v2]) (rest := []) (sM_layBest G h1 v2) ck_X9_layBest lk_X9_359 rfl rfl kc_32 z32 rfl rfl rfl dX9_freed_52 (fun h5 _ => ?_)
        refine E_aload_n dX9_freed_55 rfl 1 rfl ?_
        refine E_getI fl_X9_353 dX9_freed_56 z32 ?_
        refine E_istore (ls' := [(4, .int (gI h5 32 0 31)), (3, .int r4), (0, .ref (G.ad 32 0)), (1, .int v1), (2, .int v2)]) dX9_freed_59 (Nat.le_of_ble_eq_true rfl) rfl ?_
        refine E_bipush (v := 22) dX9_freed_61 rfl ?_
        refine E_bipush (v := 6) dX9_freed_63 rfl ?_
        refine E_iload_n dX9_freed_65 rfl 3 rfl ?_
        refine E_imul dX9_freed_66 ?_
        refine E_iadd dX9_freed_67 ?_
        refine E_iconst (v := 4) dX9_freed_68 rfl ?_
        refine E_iadd dX9_freed_69 ?_
        refine E_istore (ls' := [(5, .int ((22 + (6 * v1)) + 4)), (4, .int (gI h5 32 0 31)), (3, .int r4), (0, .ref (G.ad 32 0)), (1, .int v1), (2, .int v2)]) dX9_freed_70 (Nat.le_of_ble_eq_true rfl) rfl ?_
        refine E_aload_n dX9_freed_72 rfl 3 rfl ?_
        refine E_getF fl_X9_20 dX9_freed_73 z32 ?_
        refine E_iload dX9_freed_76 0 rfl ?_
        refine E_iald (n := 161) rfl dX9_freed_78 z35 (fun _ => ?_)
        refine E_istore (ls' := [(6, .int (gI h5 35 0 ((22 + (6 * v1)) + 4).toNatClampNeg)), (5, .int ((22 + (6 * v1)) + 4)), (4, .int (gI h5 32 0 31)), (3, .int r4), (0, .ref (G.ad 32 0)), (1, .int v1), (2, .int v2)]) dX9_freed_79 (Nat.le_of_ble_eq_true rfl) rfl ?_
        refine E_aload_n dX9_freed_81 rfl 4 rfl ?_
        refine E_getF fl_X9_20 dX9_freed_82 z32 ?_
        refine E_iload dX9_freed_85 1 rfl ?_
        refine E_sipush (v := 1001) dX9_freed_87 rfl ?_
        refine E_iast (n := 161) rfl dX9_freed_90 z35 (fun _ => ?_)
        refine E_hgen (fun h6 => ?_)
        refine E_aload_n dX9_freed_91 rfl 4 rfl ?_
        refine E_iload_n dX9_freed_92 rfl 6 rfl ?_
        refine E_cVV (As := [.int v2]) (rest := []) (sM_layBest G h6 v2) ck_X9_layBest lk_X9_359 rfl rfl kc_32 z32 rfl rfl rfl dX9_freed_93 (fun h7 _ => ?_)
        refine E_aload_n dX9_freed_96 rfl 4 rfl ?_
        refine E_getF fl_X9_20 dX9_freed_97 z32 ?_
        refine E_iload dX9_freed_100 1 rfl ?_
        refine E_iload dX9_freed_102 0 rfl ?_
        refine E_iast (n := 161) rfl dX9_freed_104 z35 (fun _ => ?_)
        refine E_hgen (fun h8 => ?_)
        refine E_aload_n dX9_freed_105 rfl 4 rfl ?_
        refine E_getI fl_X9_353 dX9_freed_106 z32 ?_
        refine E_iload dX9_freed_109 2 rfl ?_
        refine E_isub dX9_freed_111 ?_
        exact E_iret rfl rfl dX9_freed_112
      · refine E_aload_n dX9_freed_44 rfl 1 rfl ?_
        refine E_iload_n dX9_freed_45 rfl 0 rfl ?_
        refine E_cVIM (As := [.int r4]) (rest := []) (sM_no G h1 r4) ck_X9_no lk_X9_158 rfl rfl kc_32 z32 rfl rfl rfl dX9_freed_46 (fun q9 _ => ?_)
        exact E_iret rfl rfl dX9_freed_49
    · refine E_aload_n dX9_freed_28 rfl 0 rfl ?_
      refine E_iconst (v := 1) dX9_freed_29 rfl ?_
      refine E_cVIM (As := [.int 1]) (rest := []) (sM_no G h1 1) ck_X9_no lk_X9_158 rfl rfl kc_32 z32 rfl rfl rfl dX9_freed_30 (fun q10 _ => ?_)
      exact E_iret rfl rfl dX9_freed_33
def iM_image : MI := (yX9_image, cX9_image, 1, (some .int), { frames := 1, cells := 0, slots := 0, locals := 25 }, 1)
theorem ck_X9_image : CK iM_image 0 := ⟨⟨wd_113, wd_1849, by decide +kernel⟩, ⟨wd_1847, wd_1848⟩⟩
def jM_image (h : AH)  : Option (Int32 × AH) :=
  (jM_good h).bind fun h1 =>
  if (gI h1 32 0 14) = 0 then ((jM_no h1 1).bind fun q5 =>
  some (q5.1, q5.2))
  else (if (gI h1 32 0 23) = 3 then ((jM_no h1 3).bind fun q4 =>
  some (q4.1, q4.2))
  else ((jM_copy h1 37 0 41 (340 * (gI h1 32 0 23)) 340).bind fun h2 =>
  jb (uI h2 32 0 23 ((gI h2 32 0 23) + 1)) fun h3 =>
  some (((gI h3 32 0 23) - 1), h3)))
set_option maxRecDepth 20000 in
set_option maxHeartbeats 2000000 in
theorem sM_image (G : JG) (h : AH)  : Mt G iM_image rvIM [.ref (G.ad 32 0)] h (jM_image h) := by
  refine Mt_of (by decide) (Nat.le_of_ble_eq_true rfl) ?_
  unfold jM_image
  show Sim G iM_image rvIM 0 [(0, .ref (G.ad 32 0))] [] h _
  refine E_aload_n dX9_image_0 rfl 0 rfl ?_
  refine E_cVV (As := []) (rest := []) (sM_good G h) ck_X9_good lk_X9_155 rfl rfl kc_32 z32 rfl rfl rfl dX9_image_1 (fun h1 _ => ?_)
  refine E_aload_n dX9_image_4 rfl 0 rfl ?_
  refine E_getI fl_X9_168 dX9_image_5 z32 ?_
  refine E_if_ne (t := 17) dX9_image_8 rfl ?_ ?_
  · refine E_aload_n dX9_image_17 rfl 0 rfl ?_
    refine E_getI fl_X9_174 dX9_image_18 z32 ?_
    refine E_iconst (v := 3) dX9_image_21 rfl ?_
    refine E_icmp_ne (t := 31) dX9_image_22 rfl ?_ ?_
    · refine E_aload_n dX9_image_31 rfl 0 rfl ?_
      refine E_getF fl_X9_26 dX9_image_32 z32 ?_
      refine E_iconst (v := 0) dX9_image_35 rfl ?_
      refine E_aload_n dX9_image_36 rfl 0 rfl ?_
      refine E_getF fl_X9_38 dX9_image_37 z32 ?_
      refine E_sipush (v := 340) dX9_image_40 rfl ?_
      refine E_aload_n dX9_image_43 rfl 0 rfl ?_
      refine E_getI fl_X9_174 dX9_image_44 z32 ?_
      refine E_imul dX9_image_47 ?_
      refine E_sipush (v := 340) dX9_image_48 rfl ?_
      refine E_cSV (As := [.ref (G.ad 37 0), .int 0, .ref (G.ad 41 0), .int (340 * (gI h1 32 0 23)), .int 340]) (rest := []) (sM_copy G h1 37 rfl z37 0 41 rfl z41 (340 * (gI h1 32 0 23)) 340) ck_X9_copy lk_X9_164 rfl rfl rfl rfl rfl dX9_image_51 (fun h2 _ => ?_)
      refine E_aload_n dX9_image_54 rfl 0 rfl ?_
      refine E_dup dX9_image_55 rfl ?_
      refine E_getI fl_X9_174 dX9_image_56 z32 ?_
      refine E_iconst (v := 1) dX9_image_59 rfl ?_
      refine E_iadd dX9_image_60 ?_
      refine E_putI fs_X9_174 dX9_image_61 z32 ?_
      refine E_hgen (fun h3 => ?_)
      refine E_aload_n dX9_image_64 rfl 0 rfl ?_
      refine E_getI fl_X9_174 dX9_image_65 z32 ?_
      refine E_iconst (v := 1) dX9_image_68 rfl ?_
      refine E_isub dX9_image_69 ?_
      exact E_iret rfl rfl dX9_image_70
    · refine E_aload_n dX9_image_25 rfl 0 rfl ?_
      refine E_iconst (v := 3) dX9_image_26 rfl ?_
      refine E_cVIM (As := [.int 3]) (rest := []) (sM_no G h1 3) ck_X9_no lk_X9_158 rfl rfl kc_32 z32 rfl rfl rfl dX9_image_27 (fun q4 _ => ?_)
      exact E_iret rfl rfl dX9_image_30
  · refine E_aload_n dX9_image_11 rfl 0 rfl ?_
    refine E_iconst (v := 1) dX9_image_12 rfl ?_
    refine E_cVIM (As := [.int 1]) (rest := []) (sM_no G h1 1) ck_X9_no lk_X9_158 rfl rfl kc_32 z32 rfl rfl rfl dX9_image_13 (fun q5 _ => ?_)
    exact E_iret rfl rfl dX9_image_16
def iM_judged : MI := (yX9_judged, cX9_judged, 2, (some .int), { frames := 6, cells := 0, slots := 0, locals := 139 }, 1)
theorem ck_X9_judged : CK iM_judged 1 := ⟨⟨wd_113, wd_1654, by decide +kernel⟩, ⟨wd_1652, wd_1653⟩⟩
def jM_judged (h : AH) (v1 : Int32) : Option (Int32 × AH) :=
  (jM_good h).bind fun h1 =>
  (jM_isWork h1 v1).bind fun r2 =>
  if r2 = 0 then ((jM_no h1 1).bind fun q3 =>
  some (q3.1, q3.2))
  else ((jM_judgedOf h1 v1).bind fun r4 =>
  some (r4, h1))
set_option maxRecDepth 20000 in
set_option maxHeartbeats 2000000 in
theorem sM_judged (G : JG) (h : AH) (v1 : Int32) : Mt G iM_judged rvIM [.ref (G.ad 32 0), .int v1] h (jM_judged h v1) := by
  refine Mt_of (by decide) (Nat.le_of_ble_eq_true rfl) ?_
  unfold jM_judged
  show Sim G iM_judged rvIM 0 [(0, .ref (G.ad 32 0)), (1, .int v1)] [] h _
  refine E_aload_n dX9_judged_0 rfl 0 rfl ?_
  refine E_cVV (As := []) (rest := []) (sM_good G h) ck_X9_good lk_X9_155 rfl rfl kc_32 z32 rfl rfl rfl dX9_judged_1 (fun h1 _ => ?_)
  refine E_aload_n dX9_judged_4 rfl 0 rfl ?_
  refine E_iload_n dX9_judged_5 rfl 1 rfl ?_
  refine E_cVI (As := [.int v1]) (rest := []) (sM_isWork G h1 v1) ck_X9_isWork lk_X9_326 rfl rfl kc_32 z32 rfl rfl rfl dX9_judged_6 (fun r2 _ => ?_)
  refine E_if_eq (t := 20) dX9_judged_9 rfl ?_ ?_
  · refine E_aload_n dX9_judged_20 rfl 0 rfl ?_
    refine E_iconst (v := 1) dX9_judged_21 rfl ?_
    refine E_cVIM (As := [.int 1]) (rest := []) (sM_no G h1 1) ck_X9_no lk_X9_158 rfl rfl kc_32 z32 rfl rfl rfl dX9_judged_22 (fun q3 _ => ?_)
    exact E_iret rfl rfl dX9_judged_25
  · refine E_aload_n dX9_judged_12 rfl 0 rfl ?_
    refine E_iload_n dX9_judged_13 rfl 1 rfl ?_
    refine E_cVI (As := [.int v1]) (rest := []) (sM_judgedOf G h1 v1) ck_X9_judgedOf lk_X9_320 rfl rfl kc_32 z32 rfl rfl rfl dX9_judged_14 (fun r4 _ => ?_)
    refine E_goto (t := 25) dX9_judged_17 rfl ?_
    exact E_iret rfl rfl dX9_judged_25
def iM_layLawful : MI := (yX9_layLawful, cX9_layLawful, 4, none, { frames := 5, cells := 0, slots := 0, locals := 117 }, 1)
theorem ck_X9_layLawful : CK iM_layLawful 1 := ⟨⟨wd_113, wd_1769, by decide +kernel⟩, ⟨wd_1768, wd_97⟩⟩
def jM_layLawful_19 (v1 : Int32) : Nat → Int32 → Int32 → AH → Option (AH)
  | 0, _, _, _ => none
  | n + 1, v2, v3, h =>
    if v3 < 4096 then (if v3 ≤ v2 then ((jM_judgedCells h v3 v1).bind fun r2 =>
    if r2 = 0 then (if inb v3 4096 = true then (
    jb (uI h 45 0 v3.toNatClampNeg (vp_nar .boolean 1)) fun h4 =>
    (jM_layLawful_19 v1 n v2 (v3 + 1) h4)) else none)
    else (if inb v3 4096 = true then (
    jb (uI h 45 0 v3.toNatClampNeg (vp_nar .boolean 0)) fun h3 =>
    (jM_layLawful_19 v1 n v2 (v3 + 1) h3)) else none))
    else (if inb v3 4096 = true then (
    jb (uI h 45 0 v3.toNatClampNeg (vp_nar .boolean 0)) fun h1 =>
    (jM_layLawful_19 v1 n v2 (v3 + 1) h1)) else none))
    else (some h)
set_option maxRecDepth 20000 in
set_option maxHeartbeats 2000000 in
theorem sM_layLawful_19 (G : JG) (v1 : Int32)  : ∀ (n : Nat) (v2 : Int32) (v3 : Int32) (h : AH), Sim G iM_layLawful rvV 19 [(0, .ref (G.ad 32 0)), (1, .int v1), (2, .int v2), (3, .int v3)] [] h (jM_layLawful_19 v1 n v2 v3 h) := by
  intro n
  induction n with
  | zero => intro v2 v3 h; exact E_none
  | succ n ih =>
    intro v2 v3 h
    rw [jM_layLawful_19]
    refine E_iload_n dX9_layLawful_19 rfl 3 rfl ?_
    refine E_sipush (v := 4096) dX9_layLawful_20 rfl ?_
    refine E_icmp_ge (t := 57) dX9_layLawful_23 rfl ?_ ?_
    · exact E_vret rfl rfl dX9_layLawful_57
    · refine E_aload_n dX9_layLawful_26 rfl 0 rfl ?_
      refine E_getF fl_X9_51 dX9_layLawful_27 z32 ?_
      refine E_iload_n dX9_layLawful_30 rfl 3 rfl ?_
      refine E_iload_n dX9_layLawful_31 rfl 3 rfl ?_
      refine E_iload_n dX9_layLawful_32 rfl 2 rfl ?_
      refine E_icmp_gt (t := 49) dX9_layLawful_33 rfl ?_ ?_
      · refine E_iconst (v := 0) dX9_layLawful_49 rfl ?_
        refine E_zast (n := 4096) rfl dX9_layLawful_50 z45 (fun _ => ?_)
        refine E_hgen (fun h1 => ?_)
        refine E_iinc (q := 3) (v := (v3 + 1)) (ls' := [(3, .int (v3 + 1)), (0, .ref (G.ad 32 0)), (1, .int v1), (2, .int v2)]) dX9_layLawful_51 rfl rfl (Nat.le_of_ble_eq_true rfl) rfl ?_
        refine E_goto (t := 19) dX9_layLawful_54 rfl ?_
        exact E_sub [1, 2, 3, 0] rfl (ih v2 (v3 + 1) h1)
      · refine E_aload_n dX9_layLawful_36 rfl 0 rfl ?_
        refine E_iload_n dX9_layLawful_37 rfl 3 rfl ?_
        refine E_iload_n dX9_layLawful_38 rfl 1 rfl ?_
        refine E_cVI (As := [.int v3, .int v1]) (rest := [.int v3, .ref (G.ad 45 0)]) (sM_judgedCells G h v3 v1) ck_X9_judgedCells lk_X9_314 rfl rfl kc_32 z32 rfl rfl rfl dX9_layLawful_39 (fun r2 _ => ?_)
        refine E_if_ne (t := 49) dX9_layLawful_42 rfl ?_ ?_
        · refine E_iconst (v := 0) dX9_layLawful_49 rfl ?_
          refine E_zast (n := 4096) rfl dX9_layLawful_50 z45 (fun _ => ?_)
          refine E_hgen (fun h3 => ?_)
          refine E_iinc (q := 3) (v := (v3 + 1)) (ls' := [(3, .int (v3 + 1)), (0, .ref (G.ad 32 0)), (1, .int v1), (2, .int v2)]) dX9_layLawful_51 rfl rfl (Nat.le_of_ble_eq_true rfl) rfl ?_
          refine E_goto (t := 19) dX9_layLawful_54 rfl ?_
          exact E_sub [1, 2, 3, 0] rfl (ih v2 (v3 + 1) h3)
        · refine E_iconst (v := 1) dX9_layLawful_45 rfl ?_
          refine E_goto (t := 50) dX9_layLawful_46 rfl ?_
          refine E_zast (n := 4096) rfl dX9_layLawful_50 z45 (fun _ => ?_)
          refine E_hgen (fun h4 => ?_)
          refine E_iinc (q := 3) (v := (v3 + 1)) (ls' := [(3, .int (v3 + 1)), (0, .ref (G.ad 32 0)), (1, .int v1), (2, .int v2)]) dX9_layLawful_51 rfl rfl (Nat.le_of_ble_eq_true rfl) rfl ?_
          refine E_goto (t := 19) dX9_layLawful_54 rfl ?_
          exact E_sub [1, 2, 3, 0] rfl (ih v2 (v3 + 1) h4)
def jM_layLawful (h : AH) (v1 : Int32) : Option (AH) :=
  (jM_hasColours h v1).bind fun r1 =>
  if r1 = 0 then ((jM_layLawful_19 v1 FU 0 0 h))
  else ((jM_allCells h).bind fun r2 =>
  (jM_layLawful_19 v1 FU r2 0 h))
set_option maxRecDepth 20000 in
set_option maxHeartbeats 2000000 in
theorem sM_layLawful (G : JG) (h : AH) (v1 : Int32) : Mt G iM_layLawful rvV [.ref (G.ad 32 0), .int v1] h (jM_layLawful h v1) := by
  refine Mt_of (by decide) (Nat.le_of_ble_eq_true rfl) ?_
  unfold jM_layLawful
  show Sim G iM_layLawful rvV 0 [(0, .ref (G.ad 32 0)), (1, .int v1)] [] h _
  refine E_aload_n dX9_layLawful_0 rfl 0 rfl ?_
  refine E_iload_n dX9_layLawful_1 rfl 1 rfl ?_
  refine E_cVI (As := [.int v1]) (rest := []) (sM_hasColours G h v1) ck_X9_hasColours lk_X9_347 rfl rfl kc_32 z32 rfl rfl rfl dX9_layLawful_2 (fun r1 _ => ?_)
  refine E_if_eq (t := 15) dX9_layLawful_5 rfl ?_ ?_
  · refine E_iconst (v := 0) dX9_layLawful_15 rfl ?_
    refine E_istore_n (ls' := [(2, .int 0), (0, .ref (G.ad 32 0)), (1, .int v1)]) dX9_layLawful_16 rfl (Nat.le_of_ble_eq_true rfl) rfl ?_
    refine E_iconst (v := 0) dX9_layLawful_17 rfl ?_
    refine E_istore_n (ls' := [(3, .int 0), (2, .int 0), (0, .ref (G.ad 32 0)), (1, .int v1)]) dX9_layLawful_18 rfl (Nat.le_of_ble_eq_true rfl) rfl ?_
    exact E_sub [2, 3, 1, 0] rfl (sM_layLawful_19 G v1 FU 0 0 h)
  · refine E_aload_n dX9_layLawful_8 rfl 0 rfl ?_
    refine E_cVI (As := []) (rest := []) (sM_allCells G h) ck_X9_allCells lk_X9_299 rfl rfl kc_32 z32 rfl rfl rfl dX9_layLawful_9 (fun r2 _ => ?_)
    refine E_goto (t := 16) dX9_layLawful_12 rfl ?_
    refine E_istore_n (ls' := [(2, .int r2), (0, .ref (G.ad 32 0)), (1, .int v1)]) dX9_layLawful_16 rfl (Nat.le_of_ble_eq_true rfl) rfl ?_
    refine E_iconst (v := 0) dX9_layLawful_17 rfl ?_
    refine E_istore_n (ls' := [(3, .int 0), (2, .int r2), (0, .ref (G.ad 32 0)), (1, .int v1)]) dX9_layLawful_18 rfl (Nat.le_of_ble_eq_true rfl) rfl ?_
    exact E_sub [2, 3, 1, 0] rfl (sM_layLawful_19 G v1 FU r2 0 h)
def iM_shownBy : MI := (yX9_shownBy, cX9_shownBy, 4, (some .int), { frames := 2, cells := 0, slots := 0, locals := 47 }, 1)
theorem ck_X9_shownBy : CK iM_shownBy 1 := ⟨⟨wd_113, wd_1793, by decide +kernel⟩, ⟨wd_1792, wd_100⟩⟩
def jM_shownBy_4 (h : AH) (v1 : Int32) : Nat → Int32 → Int32 → Option (Int32)
  | 0, _, _ => none
  | n + 1, v2, v3 =>
    (jM_cellMany h).bind fun r1 =>
    if v3 < r1 then ((jM_under h v3 0).bind fun r2 =>
    if r2 = v1 then ((jM_shownBy_4 h v1 n (v2 ||| ((1 : Int32) <<< (v3 &&& 31))) (v3 + 1)))
    else ((jM_shownBy_4 h v1 n (v2 ||| 0) (v3 + 1))))
    else (some v2)
set_option maxRecDepth 20000 in
set_option maxHeartbeats 2000000 in
theorem sM_shownBy_4 (G : JG) (h : AH) (v1 : Int32)  : ∀ (n : Nat) (v2 : Int32) (v3 : Int32), Sim G iM_shownBy (rvI h) 4 [(0, .ref (G.ad 32 0)), (1, .int v1), (2, .int v2), (3, .int v3)] [] h (jM_shownBy_4 h v1 n v2 v3) := by
  intro n
  induction n with
  | zero => intro v2 v3; exact E_none
  | succ n ih =>
    intro v2 v3
    rw [jM_shownBy_4]
    refine E_iload_n dX9_shownBy_4 rfl 3 rfl ?_
    refine E_aload_n dX9_shownBy_5 rfl 0 rfl ?_
    refine E_cVI (As := []) (rest := [.int v3]) (sM_cellMany G h) ck_X9_cellMany lk_X9_287 rfl rfl kc_32 z32 rfl rfl rfl dX9_shownBy_6 (fun r1 _ => ?_)
    refine E_icmp_ge (t := 38) dX9_shownBy_9 rfl ?_ ?_
    · refine E_iload_n dX9_shownBy_38 rfl 2 rfl ?_
      exact E_iret rfl rfl dX9_shownBy_39
    · refine E_iload_n dX9_shownBy_12 rfl 2 rfl ?_
      refine E_aload_n dX9_shownBy_13 rfl 0 rfl ?_
      refine E_iload_n dX9_shownBy_14 rfl 3 rfl ?_
      refine E_iconst (v := 0) dX9_shownBy_15 rfl ?_
      refine E_cVI (As := [.int v3, .int 0]) (rest := [.int v2]) (sM_under G h v3 0) ck_X9_under lk_X9_265 rfl rfl kc_32 z32 rfl rfl rfl dX9_shownBy_16 (fun r2 _ => ?_)
      refine E_iload_n dX9_shownBy_19 rfl 1 rfl ?_
      refine E_icmp_ne (t := 29) dX9_shownBy_20 rfl ?_ ?_
      · refine E_iconst (v := 0) dX9_shownBy_29 rfl ?_
        refine E_ior dX9_shownBy_30 ?_
        refine E_istore_n (ls' := [(2, .int (v2 ||| 0)), (0, .ref (G.ad 32 0)), (1, .int v1), (3, .int v3)]) dX9_shownBy_31 rfl (Nat.le_of_ble_eq_true rfl) rfl ?_
        refine E_iinc (q := 3) (v := (v3 + 1)) (ls' := [(3, .int (v3 + 1)), (2, .int (v2 ||| 0)), (0, .ref (G.ad 32 0)), (1, .int v1)]) dX9_shownBy_32 rfl rfl (Nat.le_of_ble_eq_true rfl) rfl ?_
        refine E_goto (t := 4) dX9_shownBy_35 rfl ?_
        exact E_sub [2, 3, 1, 0] rfl (ih (v2 ||| 0) (v3 + 1))
      · refine E_iconst (v := 1) dX9_shownBy_23 rfl ?_
        refine E_iload_n dX9_shownBy_24 rfl 3 rfl ?_
        refine E_ishl dX9_shownBy_25 ?_
        refine E_goto (t := 30) dX9_shownBy_26 rfl ?_
        refine E_ior dX9_shownBy_30 ?_
        refine E_istore_n (ls' := [(2, .int (v2 ||| ((1 : Int32) <<< (v3 &&& 31)))), (0, .ref (G.ad 32 0)), (1, .int v1), (3, .int v3)]) dX9_shownBy_31 rfl (Nat.le_of_ble_eq_true rfl) rfl ?_
        refine E_iinc (q := 3) (v := (v3 + 1)) (ls' := [(3, .int (v3 + 1)), (2, .int (v2 ||| ((1 : Int32) <<< (v3 &&& 31)))), (0, .ref (G.ad 32 0)), (1, .int v1)]) dX9_shownBy_32 rfl rfl (Nat.le_of_ble_eq_true rfl) rfl ?_
        refine E_goto (t := 4) dX9_shownBy_35 rfl ?_
        exact E_sub [2, 3, 1, 0] rfl (ih (v2 ||| ((1 : Int32) <<< (v3 &&& 31))) (v3 + 1))
def jM_shownBy (h : AH) (v1 : Int32) : Option (Int32) :=
  (jM_shownBy_4 h v1 FU 0 0)
set_option maxRecDepth 20000 in
set_option maxHeartbeats 2000000 in
theorem sM_shownBy (G : JG) (h : AH) (v1 : Int32) : Mt G iM_shownBy (rvI h) [.ref (G.ad 32 0), .int v1] h (jM_shownBy h v1) := by
  refine Mt_of (by decide) (Nat.le_of_ble_eq_true rfl) ?_
  unfold jM_shownBy
  show Sim G iM_shownBy (rvI h) 0 [(0, .ref (G.ad 32 0)), (1, .int v1)] [] h _
  refine E_iconst (v := 0) dX9_shownBy_0 rfl ?_
  refine E_istore_n (ls' := [(2, .int 0), (0, .ref (G.ad 32 0)), (1, .int v1)]) dX9_shownBy_1 rfl (Nat.le_of_ble_eq_true rfl) rfl ?_
  refine E_iconst (v := 0) dX9_shownBy_2 rfl ?_
  refine E_istore_n (ls' := [(3, .int 0), (2, .int 0), (0, .ref (G.ad 32 0)), (1, .int v1)]) dX9_shownBy_3 rfl (Nat.le_of_ble_eq_true rfl) rfl ?_
  exact E_sub [2, 3, 1, 0] rfl (sM_shownBy_4 G h v1 FU 0 0)
def iM_least : MI := (yX9_least, cX9_least, 7, (some .int), { frames := 6, cells := 0, slots := 0, locals := 140 }, 1)
theorem ck_X9_least : CK iM_least 2 := ⟨⟨wd_113, wd_1789, by decide +kernel⟩, ⟨wd_1787, wd_1788⟩⟩
def jM_least_56  : Nat → Int32 → Int32 → Int32 → AH → Option (Int32 × AH)
  | 0, _, _, _, _ => none
  | n + 1, v4, v5, v6, h =>
    if v6 < 4096 then (if inb v6 4096 = true then (
    if (gI h 45 0 v6.toNatClampNeg) = 0 then ((jM_least_56 n v4 v5 (v6 + 1) h))
    else ((jM_bits (v4 &&& (v6 ^^^ (-1)))).bind fun r1 =>
    if r1 < v5 then ((jM_bits (v4 &&& (v6 ^^^ (-1)))).bind fun r2 =>
    (jM_least_56 n v4 r2 (v6 + 1) h))
    else ((jM_least_56 n v4 v5 (v6 + 1) h)))) else none)
    else (some (v5, h))
set_option maxRecDepth 20000 in
set_option maxHeartbeats 2000000 in
theorem sM_least_56 (G : JG)   : ∀ (n : Nat) (v4 : Int32) (v5 : Int32) (v6 : Int32) (h : AH), Sim G iM_least rvIM 56 [(0, .ref (G.ad 32 0)), (4, .int v4), (5, .int v5), (6, .int v6)] [] h (jM_least_56 n v4 v5 v6 h) := by
  intro n
  induction n with
  | zero => intro v4 v5 v6 h; exact E_none
  | succ n ih =>
    intro v4 v5 v6 h
    rw [jM_least_56]
    refine E_iload dX9_least_56 3 rfl ?_
    refine E_sipush (v := 4096) dX9_least_58 rfl ?_
    refine E_icmp_ge (t := 107) dX9_least_61 rfl ?_ ?_
    · refine E_iload dX9_least_107 2 rfl ?_
      exact E_iret rfl rfl dX9_least_109
    · refine E_aload_n dX9_least_64 rfl 0 rfl ?_
      refine E_getF fl_X9_51 dX9_least_65 z32 ?_
      refine E_iload dX9_least_68 3 rfl ?_
      refine E_zald (n := 4096) rfl dX9_least_70 z45 (fun _ => ?_)
      refine E_if_eq (t := 101) dX9_least_71 rfl ?_ ?_
      · refine E_iinc (q := 3) (v := (v6 + 1)) (ls' := [(6, .int (v6 + 1)), (0, .ref (G.ad 32 0)), (4, .int v4), (5, .int v5)]) dX9_least_101 rfl rfl (Nat.le_of_ble_eq_true rfl) rfl ?_
        refine E_goto (t := 56) dX9_least_104 rfl ?_
        exact E_sub [1, 2, 3, 0] rfl (ih v4 v5 (v6 + 1) h)
      · refine E_iload dX9_least_74 1 rfl ?_
        refine E_iload dX9_least_76 3 rfl ?_
        refine E_iconst (v := (-1)) dX9_least_78 rfl ?_
        refine E_ixor dX9_least_79 ?_
        refine E_iand dX9_least_80 ?_
        refine E_cSI (As := [.int (v4 &&& (v6 ^^^ (-1)))]) (rest := []) (sM_bits G h (v4 &&& (v6 ^^^ (-1)))) ck_X9_bits lk_X9_302 rfl rfl rfl rfl rfl dX9_least_81 (fun r1 _ => ?_)
        refine E_iload dX9_least_84 2 rfl ?_
        refine E_icmp_ge (t := 101) dX9_least_86 rfl ?_ ?_
        · refine E_iinc (q := 3) (v := (v6 + 1)) (ls' := [(6, .int (v6 + 1)), (0, .ref (G.ad 32 0)), (4, .int v4), (5, .int v5)]) dX9_least_101 rfl rfl (Nat.le_of_ble_eq_true rfl) rfl ?_
          refine E_goto (t := 56) dX9_least_104 rfl ?_
          exact E_sub [1, 2, 3, 0] rfl (ih v4 v5 (v6 + 1) h)
        · refine E_iload dX9_least_89 1 rfl ?_
          refine E_iload dX9_least_91 3 rfl ?_
          refine E_iconst (v := (-1)) dX9_least_93 rfl ?_
          refine E_ixor dX9_least_94 ?_
          refine E_iand dX9_least_95 ?_
          refine E_cSI (As := [.int (v4 &&& (v6 ^^^ (-1)))]) (rest := []) (sM_bits G h (v4 &&& (v6 ^^^ (-1)))) ck_X9_bits lk_X9_302 rfl rfl rfl rfl rfl dX9_least_96 (fun r2 _ => ?_)
          refine E_istore (ls' := [(5, .int r2), (0, .ref (G.ad 32 0)), (4, .int v4), (6, .int v6)]) dX9_least_99 (Nat.le_of_ble_eq_true rfl) rfl ?_
          refine E_iinc (q := 3) (v := (v6 + 1)) (ls' := [(6, .int (v6 + 1)), (5, .int r2), (0, .ref (G.ad 32 0)), (4, .int v4)]) dX9_least_101 rfl rfl (Nat.le_of_ble_eq_true rfl) rfl ?_
          refine E_goto (t := 56) dX9_least_104 rfl ?_
          exact E_sub [2, 3, 1, 0] rfl (ih v4 r2 (v6 + 1) h)
def jM_least (h : AH) (v1 : Int32) (v2 : Int32) : Option (Int32 × AH) :=
  (jM_good h).bind fun h1 =>
  (jM_isWork h1 v1).bind fun r2 =>
  if r2 = 0 then ((jM_no h1 1).bind fun q8 =>
  some (q8.1, q8.2))
  else ((jM_yearWhy h1 v2).bind fun r3 =>
  if r3 = 0 then ((jM_layLawful h1 v2).bind fun h4 =>
  (jM_shownBy h4 v1).bind fun r5 =>
  (jM_bits r5).bind fun r6 =>
  (jM_least_56 FU r5 r6 0 h4))
  else ((jM_no h1 r3).bind fun q7 =>
  some (q7.1, q7.2)))
set_option maxRecDepth 20000 in
set_option maxHeartbeats 2000000 in
theorem sM_least (G : JG) (h : AH) (v1 : Int32) (v2 : Int32) : Mt G iM_least rvIM [.ref (G.ad 32 0), .int v1, .int v2] h (jM_least h v1 v2) := by
  refine Mt_of (by decide) (Nat.le_of_ble_eq_true rfl) ?_
  unfold jM_least
  show Sim G iM_least rvIM 0 [(0, .ref (G.ad 32 0)), (1, .int v1), (2, .int v2)] [] h _
  refine E_aload_n dX9_least_0 rfl 0 rfl ?_
  refine E_cVV (As := []) (rest := []) (sM_good G h) ck_X9_good lk_X9_155 rfl rfl kc_32 z32 rfl rfl rfl dX9_least_1 (fun h1 _ => ?_)
  refine E_aload_n dX9_least_4 rfl 0 rfl ?_
  refine E_iload_n dX9_least_5 rfl 1 rfl ?_
  refine E_cVI (As := [.int v1]) (rest := []) (sM_isWork G h1 v1) ck_X9_isWork lk_X9_326 rfl rfl kc_32 z32 rfl rfl rfl dX9_least_6 (fun r2 _ => ?_)
  refine E_if_ne (t := 18) dX9_least_9 rfl ?_ ?_
  · refine E_aload_n dX9_least_18 rfl 0 rfl ?_
    refine E_iload_n dX9_least_19 rfl 2 rfl ?_
    refine E_cVI (As := [.int v2]) (rest := []) (sM_yearWhy G h1 v2) ck_X9_yearWhy lk_X9_356 rfl rfl kc_32 z32 rfl rfl rfl dX9_least_20 (fun r3 _ => ?_)
    refine E_istore_n (ls' := [(3, .int r3), (0, .ref (G.ad 32 0)), (1, .int v1), (2, .int v2)]) dX9_least_23 rfl (Nat.le_of_ble_eq_true rfl) rfl ?_
    refine E_iload_n dX9_least_24 rfl 0 rfl ?_
    refine E_if_eq (t := 34) dX9_least_25 rfl ?_ ?_
    · refine E_aload_n dX9_least_34 rfl 1 rfl ?_
      refine E_iload_n dX9_least_35 rfl 3 rfl ?_
      refine E_cVV (As := [.int v2]) (rest := []) (sM_layLawful G h1 v2) ck_X9_layLawful lk_X9_365 rfl rfl kc_32 z32 rfl rfl rfl dX9_least_36 (fun h4 _ => ?_)
      refine E_aload_n dX9_least_39 rfl 1 rfl ?_
      refine E_iload_n dX9_least_40 rfl 2 rfl ?_
      refine E_cVI (As := [.int v1]) (rest := []) (sM_shownBy G h4 v1) ck_X9_shownBy lk_X9_377 rfl rfl kc_32 z32 rfl rfl rfl dX9_least_41 (fun r5 _ => ?_)
      refine E_istore (ls' := [(4, .int r5), (3, .int r3), (0, .ref (G.ad 32 0)), (1, .int v1), (2, .int v2)]) dX9_least_44 (Nat.le_of_ble_eq_true rfl) rfl ?_
      refine E_iload dX9_least_46 0 rfl ?_
      refine E_cSI (As := [.int r5]) (rest := []) (sM_bits G h4 r5) ck_X9_bits lk_X9_302 rfl rfl rfl rfl rfl dX9_least_48 (fun r6 _ => ?_)
      refine E_istore (ls' := [(5, .int r6), (4, .int r5), (3, .int r3), (0, .ref (G.ad 32 0)), (1, .int v1), (2, .int v2)]) dX9_least_51 (Nat.le_of_ble_eq_true rfl) rfl ?_
      refine E_iconst (v := 0) dX9_least_53 rfl ?_
      refine E_istore (ls' := [(6, .int 0), (5, .int r6), (4, .int r5), (3, .int r3), (0, .ref (G.ad 32 0)), (1, .int v1), (2, .int v2)]) dX9_least_54 (Nat.le_of_ble_eq_true rfl) rfl ?_
      exact E_sub [4, 2, 1, 0] rfl (sM_least_56 G FU r5 r6 0 h4)
    · refine E_aload_n dX9_least_28 rfl 1 rfl ?_
      refine E_iload_n dX9_least_29 rfl 0 rfl ?_
      refine E_cVIM (As := [.int r3]) (rest := []) (sM_no G h1 r3) ck_X9_no lk_X9_158 rfl rfl kc_32 z32 rfl rfl rfl dX9_least_30 (fun q7 _ => ?_)
      exact E_iret rfl rfl dX9_least_33
  · refine E_aload_n dX9_least_12 rfl 0 rfl ?_
    refine E_iconst (v := 1) dX9_least_13 rfl ?_
    refine E_cVIM (As := [.int 1]) (rest := []) (sM_no G h1 1) ck_X9_no lk_X9_158 rfl rfl kc_32 z32 rfl rfl rfl dX9_least_14 (fun q8 _ => ?_)
    exact E_iret rfl rfl dX9_least_17
def iM_led : MI := (yX9_led, cX9_led, 4, (some .int), { frames := 2, cells := 0, slots := 0, locals := 47 }, 1)
theorem ck_X9_led : CK iM_led 1 := ⟨⟨wd_113, wd_1857, by decide +kernel⟩, ⟨wd_1855, wd_1856⟩⟩
def jM_led_4 (v1 : Int32) : Nat → Int32 → Int32 → AH → Option (Int32 × AH)
  | 0, _, _, _ => none
  | n + 1, v2, v3, h =>
    if (gI h 32 0 14) = 0 then (jb (uI h 32 0 0 1) fun h1 =>
    some (0, h1))
    else ((jM_cellMany h).bind fun r2 =>
    if v3 < r2 then ((jM_under h v3 0).bind fun r4 =>
    if r4 = (-2) then (if v2 = v1 then (jb (uI h 32 0 0 0) fun h5 =>
    some (v3, h5))
    else ((jM_led_4 v1 n (v2 + 1) (v3 + 1) h)))
    else ((jM_led_4 v1 n v2 (v3 + 1) h)))
    else (jb (uI h 32 0 0 1) fun h3 =>
    some (0, h3)))
set_option maxRecDepth 20000 in
set_option maxHeartbeats 2000000 in
theorem sM_led_4 (G : JG) (v1 : Int32)  : ∀ (n : Nat) (v2 : Int32) (v3 : Int32) (h : AH), Sim G iM_led rvIM 4 [(0, .ref (G.ad 32 0)), (1, .int v1), (2, .int v2), (3, .int v3)] [] h (jM_led_4 v1 n v2 v3 h) := by
  intro n
  induction n with
  | zero => intro v2 v3 h; exact E_none
  | succ n ih =>
    intro v2 v3 h
    rw [jM_led_4]
    refine E_aload_n dX9_led_4 rfl 0 rfl ?_
    refine E_getI fl_X9_168 dX9_led_5 z32 ?_
    refine E_if_eq (t := 54) dX9_led_8 rfl ?_ ?_
    · refine E_aload_n dX9_led_54 rfl 0 rfl ?_
      refine E_iconst (v := 1) dX9_led_55 rfl ?_
      refine E_putI fs_X9_55 dX9_led_56 z32 ?_
      refine E_hgen (fun h1 => ?_)
      refine E_iconst (v := 0) dX9_led_59 rfl ?_
      exact E_iret rfl rfl dX9_led_60
    · refine E_iload_n dX9_led_11 rfl 3 rfl ?_
      refine E_aload_n dX9_led_12 rfl 0 rfl ?_
      refine E_cVI (As := []) (rest := [.int v3]) (sM_cellMany G h) ck_X9_cellMany lk_X9_287 rfl rfl kc_32 z32 rfl rfl rfl dX9_led_13 (fun r2 _ => ?_)
      refine E_icmp_ge (t := 54) dX9_led_16 rfl ?_ ?_
      · refine E_aload_n dX9_led_54 rfl 0 rfl ?_
        refine E_iconst (v := 1) dX9_led_55 rfl ?_
        refine E_putI fs_X9_55 dX9_led_56 z32 ?_
        refine E_hgen (fun h3 => ?_)
        refine E_iconst (v := 0) dX9_led_59 rfl ?_
        exact E_iret rfl rfl dX9_led_60
      · refine E_aload_n dX9_led_19 rfl 0 rfl ?_
        refine E_iload_n dX9_led_20 rfl 3 rfl ?_
        refine E_iconst (v := 0) dX9_led_21 rfl ?_
        refine E_cVI (As := [.int v3, .int 0]) (rest := []) (sM_under G h v3 0) ck_X9_under lk_X9_265 rfl rfl kc_32 z32 rfl rfl rfl dX9_led_22 (fun r4 _ => ?_)
        refine E_bipush (v := (-2)) dX9_led_25 rfl ?_
        refine E_icmp_eq (t := 33) dX9_led_27 rfl ?_ ?_
        · refine E_iload_n dX9_led_33 rfl 2 rfl ?_
          refine E_iload_n dX9_led_34 rfl 1 rfl ?_
          refine E_icmp_ne (t := 45) dX9_led_35 rfl ?_ ?_
          · refine E_iinc (q := 2) (v := (v2 + 1)) (ls' := [(2, .int (v2 + 1)), (0, .ref (G.ad 32 0)), (1, .int v1), (3, .int v3)]) dX9_led_45 rfl rfl (Nat.le_of_ble_eq_true rfl) rfl ?_
            refine E_iinc (q := 3) (v := (v3 + 1)) (ls' := [(3, .int (v3 + 1)), (2, .int (v2 + 1)), (0, .ref (G.ad 32 0)), (1, .int v1)]) dX9_led_48 rfl rfl (Nat.le_of_ble_eq_true rfl) rfl ?_
            refine E_goto (t := 4) dX9_led_51 rfl ?_
            exact E_sub [2, 3, 1, 0] rfl (ih (v2 + 1) (v3 + 1) h)
          · refine E_aload_n dX9_led_38 rfl 0 rfl ?_
            refine E_iconst (v := 0) dX9_led_39 rfl ?_
            refine E_putI fs_X9_55 dX9_led_40 z32 ?_
            refine E_hgen (fun h5 => ?_)
            refine E_iload_n dX9_led_43 rfl 3 rfl ?_
            exact E_iret rfl rfl dX9_led_44
        · refine E_goto (t := 48) dX9_led_30 rfl ?_
          refine E_iinc (q := 3) (v := (v3 + 1)) (ls' := [(3, .int (v3 + 1)), (0, .ref (G.ad 32 0)), (1, .int v1), (2, .int v2)]) dX9_led_48 rfl rfl (Nat.le_of_ble_eq_true rfl) rfl ?_
          refine E_goto (t := 4) dX9_led_51 rfl ?_
          exact E_sub [1, 2, 3, 0] rfl (ih v2 (v3 + 1) h)
def jM_led (h : AH) (v1 : Int32) : Option (Int32 × AH) :=
  (jM_led_4 v1 FU 0 0 h)
set_option maxRecDepth 20000 in
set_option maxHeartbeats 2000000 in
theorem sM_led (G : JG) (h : AH) (v1 : Int32) : Mt G iM_led rvIM [.ref (G.ad 32 0), .int v1] h (jM_led h v1) := by
  refine Mt_of (by decide) (Nat.le_of_ble_eq_true rfl) ?_
  unfold jM_led
  show Sim G iM_led rvIM 0 [(0, .ref (G.ad 32 0)), (1, .int v1)] [] h _
  refine E_iconst (v := 0) dX9_led_0 rfl ?_
  refine E_istore_n (ls' := [(2, .int 0), (0, .ref (G.ad 32 0)), (1, .int v1)]) dX9_led_1 rfl (Nat.le_of_ble_eq_true rfl) rfl ?_
  refine E_iconst (v := 0) dX9_led_2 rfl ?_
  refine E_istore_n (ls' := [(3, .int 0), (2, .int 0), (0, .ref (G.ad 32 0)), (1, .int v1)]) dX9_led_3 rfl (Nat.le_of_ble_eq_true rfl) rfl ?_
  exact E_sub [2, 3, 1, 0] rfl (sM_led_4 G v1 FU 0 0 h)
