/-! ===== the class, 4 ===== -/
def iR_isLineToCome : MI := (yX5_isLineToCome, cX5_isLineToCome, 2, (some .boolean), { frames := 1, cells := 0, slots := 0, locals := 22 }, 0)
theorem ck_X5_isLineToCome : CK iR_isLineToCome 0 := ⟨⟨wd_106, wd_633, by decide +kernel⟩, ⟨wd_632, wd_18⟩⟩
def jR_isLineToCome_57  (v1 : Int32) (h : AH) : Option (Int32 × AH) :=
  jb (uI h 2 0 5 ((gI h 2 0 5) + 1)) fun h1 =>
  if v1 = 0 then (some (0, h1))
  else (if (gI h1 2 0 0) = 0 then (some (1, h1))
  else (some (0, h1)))
set_option maxRecDepth 20000 in
set_option maxHeartbeats 2000000 in
theorem sR_isLineToCome_57 (G : JG)   (v1 : Int32) (h : AH) : Sim G iR_isLineToCome rvIM 57 [(0, .ref (G.ad 2 0)), (1, .int v1)] [] h (jR_isLineToCome_57 v1 h) := by
  unfold jR_isLineToCome_57
  refine E_aload_n dX5_isLineToCome_57 rfl 0 rfl ?_
  refine E_dup dX5_isLineToCome_58 rfl ?_
  refine E_getI fl_X5_53 dX5_isLineToCome_59 z2 ?_
  refine E_iconst (v := 1) dX5_isLineToCome_62 rfl ?_
  refine E_iadd dX5_isLineToCome_63 ?_
  refine E_putI fs_X5_53 dX5_isLineToCome_64 z2 ?_
  refine E_hgen (fun h1 => ?_)
  refine E_iload_n dX5_isLineToCome_67 rfl 1 rfl ?_
  refine E_if_eq (t := 82) dX5_isLineToCome_68 rfl ?_ ?_
  · refine E_iconst (v := 0) dX5_isLineToCome_82 rfl ?_
    exact E_zret rfl rfl rfl dX5_isLineToCome_83
  · refine E_aload_n dX5_isLineToCome_71 rfl 0 rfl ?_
    refine E_getI fl_X5_50 dX5_isLineToCome_72 z2 ?_
    refine E_if_ne (t := 82) dX5_isLineToCome_75 rfl ?_ ?_
    · refine E_iconst (v := 0) dX5_isLineToCome_82 rfl ?_
      exact E_zret rfl rfl rfl dX5_isLineToCome_83
    · refine E_iconst (v := 1) dX5_isLineToCome_78 rfl ?_
      refine E_goto (t := 83) dX5_isLineToCome_79 rfl ?_
      exact E_zret rfl rfl rfl dX5_isLineToCome_83
def jR_isLineToCome_37  (v1 : Int32) (h : AH) : Option (Int32 × AH) :=
  if v1 = 0 then ((jB_isTold h ((gB h 2).toNat)).bind fun r1 =>
  if r1 = 0 then ((jR_fail h 6).bind fun h2 =>
  (jR_isLineToCome_57 v1 h2))
  else ((jR_isLineToCome_57 v1 h)))
  else ((jR_isLineToCome_57 v1 h))
set_option maxRecDepth 20000 in
set_option maxHeartbeats 2000000 in
theorem sR_isLineToCome_37 (G : JG)   (v1 : Int32) (h : AH) : Sim G iR_isLineToCome rvIM 37 [(0, .ref (G.ad 2 0)), (1, .int v1)] [] h (jR_isLineToCome_37 v1 h) := by
  unfold jR_isLineToCome_37
  refine E_iload_n dX5_isLineToCome_37 rfl 1 rfl ?_
  refine E_if_ne (t := 57) dX5_isLineToCome_38 rfl ?_ ?_
  · exact E_sub [0, 1] rfl (sR_isLineToCome_57 G v1 h)
  · refine E_aload_n dX5_isLineToCome_41 rfl 0 rfl ?_
    refine E_getD fl_X5_18 dX5_isLineToCome_42 z2 ?_
    refine E_cVI (As := []) (rest := []) (sB_isTold G h ((gB h 2).toNat) (tB3 _)) ck_X0_isTold lk_X5_109 rfl rfl kc_3 (tB3 _) rfl rfl rfl dX5_isLineToCome_45 (fun r1 _ => ?_)
    refine E_if_ne (t := 57) dX5_isLineToCome_48 rfl ?_ ?_
    · exact E_sub [0, 1] rfl (sR_isLineToCome_57 G v1 h)
    · refine E_aload_n dX5_isLineToCome_51 rfl 0 rfl ?_
      refine E_bipush (v := 6) dX5_isLineToCome_52 rfl ?_
      refine E_cVV (As := [.int 6]) (rest := []) (sR_fail G h 6) ck_X5_fail lk_X5_90 rfl rfl kc_2 z2 rfl rfl rfl dX5_isLineToCome_54 (fun h2 _ => ?_)
      exact E_sub [0, 1] rfl (sR_isLineToCome_57 G v1 h2)
def jR_isLineToCome (h : AH)  : Option (Int32 × AH) :=
  (jT_isKind h (gI h 2 0 5) 4).bind fun r1 =>
  if r1 = 0 then ((jT_isKind h (gI h 2 0 5) 1).bind fun r2 =>
  if r2 = 0 then ((jR_fail h 1).bind fun h3 =>
  (jR_isLineToCome_37 r1 h3))
  else ((jR_isLineToCome_37 r1 h)))
  else ((jR_isLineToCome_37 r1 h))
set_option maxRecDepth 20000 in
set_option maxHeartbeats 2000000 in
theorem sR_isLineToCome (G : JG) (h : AH)  : Mt G iR_isLineToCome rvIM [.ref (G.ad 2 0)] h (jR_isLineToCome h) := by
  refine Mt_of (by decide) (Nat.le_of_ble_eq_true rfl) ?_
  unfold jR_isLineToCome
  show Sim G iR_isLineToCome rvIM 0 [(0, .ref (G.ad 2 0))] [] h _
  refine E_aload_n dX5_isLineToCome_0 rfl 0 rfl ?_
  refine E_getF fl_X5_32 dX5_isLineToCome_1 z2 ?_
  refine E_aload_n dX5_isLineToCome_4 rfl 0 rfl ?_
  refine E_getI fl_X5_53 dX5_isLineToCome_5 z2 ?_
  refine E_iconst (v := 4) dX5_isLineToCome_8 rfl ?_
  refine E_cVI (As := [.int (gI h 2 0 5), .int 4]) (rest := []) (sT_isKind G h (gI h 2 0 5) 4) ck_X6_isKind lk_X5_105 rfl rfl kc_17 z17 rfl rfl rfl dX5_isLineToCome_9 (fun r1 _ => ?_)
  refine E_istore_n (ls' := [(1, .int r1), (0, .ref (G.ad 2 0))]) dX5_isLineToCome_12 rfl (Nat.le_of_ble_eq_true rfl) rfl ?_
  refine E_iload_n dX5_isLineToCome_13 rfl 0 rfl ?_
  refine E_if_ne (t := 37) dX5_isLineToCome_14 rfl ?_ ?_
  · exact E_sub [1, 0] rfl (sR_isLineToCome_37 G r1 h)
  · refine E_aload_n dX5_isLineToCome_17 rfl 1 rfl ?_
    refine E_getF fl_X5_32 dX5_isLineToCome_18 z2 ?_
    refine E_aload_n dX5_isLineToCome_21 rfl 1 rfl ?_
    refine E_getI fl_X5_53 dX5_isLineToCome_22 z2 ?_
    refine E_iconst (v := 1) dX5_isLineToCome_25 rfl ?_
    refine E_cVI (As := [.int (gI h 2 0 5), .int 1]) (rest := []) (sT_isKind G h (gI h 2 0 5) 1) ck_X6_isKind lk_X5_105 rfl rfl kc_17 z17 rfl rfl rfl dX5_isLineToCome_26 (fun r2 _ => ?_)
    refine E_if_ne (t := 37) dX5_isLineToCome_29 rfl ?_ ?_
    · exact E_sub [1, 0] rfl (sR_isLineToCome_37 G r1 h)
    · refine E_aload_n dX5_isLineToCome_32 rfl 1 rfl ?_
      refine E_iconst (v := 1) dX5_isLineToCome_33 rfl ?_
      refine E_cVV (As := [.int 1]) (rest := []) (sR_fail G h 1) ck_X5_fail lk_X5_90 rfl rfl kc_2 z2 rfl rfl rfl dX5_isLineToCome_34 (fun h3 _ => ?_)
      exact E_sub [1, 0] rfl (sR_isLineToCome_37 G r1 h3)
def iT_areLetters : MI := (yX6_areLetters, cX6_areLetters, 2, (some .boolean), { frames := 0, cells := 0, slots := 0, locals := 0 }, 0)
theorem ck_X6_areLetters : CS iT_areLetters 2 := ⟨⟨wd_109, wd_441, by decide +kernel⟩, wd_440⟩
def jT_areLetters (v0 : Int32) (v1 : Int32) : Option (Int32) :=
  if v0 < 97 then (some 0)
  else (if v0 ≤ 122 then (if v1 < 97 then (some 0)
  else (if v1 ≤ 122 then (some 1)
  else (some 0)))
  else (some 0))
set_option maxRecDepth 20000 in
set_option maxHeartbeats 2000000 in
theorem sT_areLetters (G : JG) (h : AH) (v0 : Int32) (v1 : Int32) : Mt G iT_areLetters (rvI h) [.int v0, .int v1] h (jT_areLetters v0 v1) := by
  refine Mt_of (by decide) (Nat.le_of_ble_eq_true rfl) ?_
  unfold jT_areLetters
  show Sim G iT_areLetters (rvI h) 0 [(0, .int v0), (1, .int v1)] [] h _
  refine E_iload_n dX6_areLetters_0 rfl 0 rfl ?_
  refine E_bipush (v := 97) dX6_areLetters_1 rfl ?_
  refine E_icmp_lt (t := 28) dX6_areLetters_3 rfl ?_ ?_
  · refine E_iconst (v := 0) dX6_areLetters_28 rfl ?_
    exact E_zret rfl rfl rfl dX6_areLetters_29
  · refine E_iload_n dX6_areLetters_6 rfl 0 rfl ?_
    refine E_bipush (v := 122) dX6_areLetters_7 rfl ?_
    refine E_icmp_gt (t := 28) dX6_areLetters_9 rfl ?_ ?_
    · refine E_iconst (v := 0) dX6_areLetters_28 rfl ?_
      exact E_zret rfl rfl rfl dX6_areLetters_29
    · refine E_iload_n dX6_areLetters_12 rfl 1 rfl ?_
      refine E_bipush (v := 97) dX6_areLetters_13 rfl ?_
      refine E_icmp_lt (t := 28) dX6_areLetters_15 rfl ?_ ?_
      · refine E_iconst (v := 0) dX6_areLetters_28 rfl ?_
        exact E_zret rfl rfl rfl dX6_areLetters_29
      · refine E_iload_n dX6_areLetters_18 rfl 1 rfl ?_
        refine E_bipush (v := 122) dX6_areLetters_19 rfl ?_
        refine E_icmp_gt (t := 28) dX6_areLetters_21 rfl ?_ ?_
        · refine E_iconst (v := 0) dX6_areLetters_28 rfl ?_
          exact E_zret rfl rfl rfl dX6_areLetters_29
        · refine E_iconst (v := 1) dX6_areLetters_24 rfl ?_
          refine E_goto (t := 29) dX6_areLetters_25 rfl ?_
          exact E_zret rfl rfl rfl dX6_areLetters_29
def iT_areDigits : MI := (yX6_areDigits, cX6_areDigits, 2, (some .boolean), { frames := 0, cells := 0, slots := 0, locals := 0 }, 0)
theorem ck_X6_areDigits : CS iT_areDigits 2 := ⟨⟨wd_109, wd_444, by decide +kernel⟩, wd_443⟩
def jT_areDigits (v0 : Int32) (v1 : Int32) : Option (Int32) :=
  if v0 < 48 then (some 0)
  else (if v0 ≤ 57 then (if v1 < 48 then (some 0)
  else (if v1 ≤ 57 then (some 1)
  else (some 0)))
  else (some 0))
set_option maxRecDepth 20000 in
set_option maxHeartbeats 2000000 in
theorem sT_areDigits (G : JG) (h : AH) (v0 : Int32) (v1 : Int32) : Mt G iT_areDigits (rvI h) [.int v0, .int v1] h (jT_areDigits v0 v1) := by
  refine Mt_of (by decide) (Nat.le_of_ble_eq_true rfl) ?_
  unfold jT_areDigits
  show Sim G iT_areDigits (rvI h) 0 [(0, .int v0), (1, .int v1)] [] h _
  refine E_iload_n dX6_areDigits_0 rfl 0 rfl ?_
  refine E_bipush (v := 48) dX6_areDigits_1 rfl ?_
  refine E_icmp_lt (t := 28) dX6_areDigits_3 rfl ?_ ?_
  · refine E_iconst (v := 0) dX6_areDigits_28 rfl ?_
    exact E_zret rfl rfl rfl dX6_areDigits_29
  · refine E_iload_n dX6_areDigits_6 rfl 0 rfl ?_
    refine E_bipush (v := 57) dX6_areDigits_7 rfl ?_
    refine E_icmp_gt (t := 28) dX6_areDigits_9 rfl ?_ ?_
    · refine E_iconst (v := 0) dX6_areDigits_28 rfl ?_
      exact E_zret rfl rfl rfl dX6_areDigits_29
    · refine E_iload_n dX6_areDigits_12 rfl 1 rfl ?_
      refine E_bipush (v := 48) dX6_areDigits_13 rfl ?_
      refine E_icmp_lt (t := 28) dX6_areDigits_15 rfl ?_ ?_
      · refine E_iconst (v := 0) dX6_areDigits_28 rfl ?_
        exact E_zret rfl rfl rfl dX6_areDigits_29
      · refine E_iload_n dX6_areDigits_18 rfl 1 rfl ?_
        refine E_bipush (v := 57) dX6_areDigits_19 rfl ?_
        refine E_icmp_gt (t := 28) dX6_areDigits_21 rfl ?_ ?_
        · refine E_iconst (v := 0) dX6_areDigits_28 rfl ?_
          exact E_zret rfl rfl rfl dX6_areDigits_29
        · refine E_iconst (v := 1) dX6_areDigits_24 rfl ?_
          refine E_goto (t := 29) dX6_areDigits_25 rfl ?_
          exact E_zret rfl rfl rfl dX6_areDigits_29
def iT_endOf : MI := (yX6_endOf, cX6_endOf, 4, (some .int), { frames := 1, cells := 0, slots := 0, locals := 21 }, 0)
theorem ck_X6_endOf : CS iT_endOf 3 := ⟨⟨wd_109, wd_438, by decide +kernel⟩, wd_437⟩
def jT_endOf_4 (h : AH) (v1 : Int32) (v2 : Int32) : Nat → Int32 → Option (Int32)
  | 0, _ => none
  | n + 1, v3 =>
    if v3 < v2 then (if inb v1 900 = true then (
    if inb v3 900 = true then (
    (jT_areLetters (gI h 1 0 v1.toNatClampNeg) (gI h 1 0 v3.toNatClampNeg)).bind fun r1 =>
    if r1 = 0 then (if inb v1 900 = true then (
    if inb v3 900 = true then (
    (jT_areDigits (gI h 1 0 v1.toNatClampNeg) (gI h 1 0 v3.toNatClampNeg)).bind fun r2 =>
    if r2 = 0 then (some v3)
    else ((jT_endOf_4 h v1 v2 n (v3 + 1)))) else none) else none)
    else ((jT_endOf_4 h v1 v2 n (v3 + 1)))) else none) else none)
    else (some v3)
set_option maxRecDepth 20000 in
set_option maxHeartbeats 2000000 in
theorem sT_endOf_4 (G : JG) (h : AH) (v1 : Int32) (v2 : Int32)  : ∀ (n : Nat) (v3 : Int32), Sim G iT_endOf (rvI h) 4 [(0, .ref (G.ad 1 0)), (1, .int v1), (2, .int v2), (3, .int v3)] [] h (jT_endOf_4 h v1 v2 n v3) := by
  intro n
  induction n with
  | zero => intro v3; exact E_none
  | succ n ih =>
    intro v3
    rw [jT_endOf_4]
    refine E_iload_n dX6_endOf_4 rfl 3 rfl ?_
    refine E_iload_n dX6_endOf_5 rfl 2 rfl ?_
    refine E_icmp_ge (t := 39) dX6_endOf_6 rfl ?_ ?_
    · refine E_iload_n dX6_endOf_39 rfl 3 rfl ?_
      exact E_iret rfl rfl dX6_endOf_40
    · refine E_aload_n dX6_endOf_9 rfl 0 rfl ?_
      refine E_iload_n dX6_endOf_10 rfl 1 rfl ?_
      refine E_bald (n := 900) rfl dX6_endOf_11 z1 (fun _ => ?_)
      refine E_aload_n dX6_endOf_12 rfl 0 rfl ?_
      refine E_iload_n dX6_endOf_13 rfl 3 rfl ?_
      refine E_bald (n := 900) rfl dX6_endOf_14 z1 (fun _ => ?_)
      refine E_cSI (As := [.int (gI h 1 0 v1.toNatClampNeg), .int (gI h 1 0 v3.toNatClampNeg)]) (rest := []) (sT_areLetters G h (gI h 1 0 v1.toNatClampNeg) (gI h 1 0 v3.toNatClampNeg)) ck_X6_areLetters lk_X6_45 rfl rfl rfl rfl rfl dX6_endOf_15 (fun r1 _ => ?_)
      refine E_if_ne (t := 33) dX6_endOf_18 rfl ?_ ?_
      · refine E_iinc (q := 3) (v := (v3 + 1)) (ls' := [(3, .int (v3 + 1)), (0, .ref (G.ad 1 0)), (1, .int v1), (2, .int v2)]) dX6_endOf_33 rfl rfl (Nat.le_of_ble_eq_true rfl) rfl ?_
        refine E_goto (t := 4) dX6_endOf_36 rfl ?_
        exact E_sub [1, 2, 3, 0] rfl (ih (v3 + 1))
      · refine E_aload_n dX6_endOf_21 rfl 0 rfl ?_
        refine E_iload_n dX6_endOf_22 rfl 1 rfl ?_
        refine E_bald (n := 900) rfl dX6_endOf_23 z1 (fun _ => ?_)
        refine E_aload_n dX6_endOf_24 rfl 0 rfl ?_
        refine E_iload_n dX6_endOf_25 rfl 3 rfl ?_
        refine E_bald (n := 900) rfl dX6_endOf_26 z1 (fun _ => ?_)
        refine E_cSI (As := [.int (gI h 1 0 v1.toNatClampNeg), .int (gI h 1 0 v3.toNatClampNeg)]) (rest := []) (sT_areDigits G h (gI h 1 0 v1.toNatClampNeg) (gI h 1 0 v3.toNatClampNeg)) ck_X6_areDigits lk_X6_49 rfl rfl rfl rfl rfl dX6_endOf_27 (fun r2 _ => ?_)
        refine E_if_eq (t := 39) dX6_endOf_30 rfl ?_ ?_
        · refine E_iload_n dX6_endOf_39 rfl 3 rfl ?_
          exact E_iret rfl rfl dX6_endOf_40
        · refine E_iinc (q := 3) (v := (v3 + 1)) (ls' := [(3, .int (v3 + 1)), (0, .ref (G.ad 1 0)), (1, .int v1), (2, .int v2)]) dX6_endOf_33 rfl rfl (Nat.le_of_ble_eq_true rfl) rfl ?_
          refine E_goto (t := 4) dX6_endOf_36 rfl ?_
          exact E_sub [1, 2, 3, 0] rfl (ih (v3 + 1))
def jT_endOf (h : AH) (v1 : Int32) (v2 : Int32) : Option (Int32) :=
  (jT_endOf_4 h v1 v2 FU (v1 + 1))
set_option maxRecDepth 20000 in
set_option maxHeartbeats 2000000 in
theorem sT_endOf (G : JG) (h : AH) (v1 : Int32) (v2 : Int32) : Mt G iT_endOf (rvI h) [.ref (G.ad 1 0), .int v1, .int v2] h (jT_endOf h v1 v2) := by
  refine Mt_of (by decide) (Nat.le_of_ble_eq_true rfl) ?_
  unfold jT_endOf
  show Sim G iT_endOf (rvI h) 0 [(0, .ref (G.ad 1 0)), (1, .int v1), (2, .int v2)] [] h _
  refine E_iload_n dX6_endOf_0 rfl 1 rfl ?_
  refine E_iconst (v := 1) dX6_endOf_1 rfl ?_
  refine E_iadd dX6_endOf_2 ?_
  refine E_istore_n (ls' := [(3, .int (v1 + 1)), (0, .ref (G.ad 1 0)), (1, .int v1), (2, .int v2)]) dX6_endOf_3 rfl (Nat.le_of_ble_eq_true rfl) rfl ?_
  exact E_sub [1, 2, 3, 0] rfl (sT_endOf_4 G h v1 v2 FU (v1 + 1))
def iT_kindOf : MI := (yX6_kindOf, cX6_kindOf, 2, (some .int), { frames := 1, cells := 0, slots := 0, locals := 21 }, 0)
theorem ck_X6_kindOf : CS iT_kindOf 2 := ⟨⟨wd_109, wd_447, by decide +kernel⟩, wd_446⟩
def jT_kindOf (v0 : Int32) (v1 : Int32) : Option (Int32) :=
  (jT_areLetters v0 v0).bind fun r1 =>
  if r1 = 0 then ((jT_areDigits v0 v0).bind fun r2 =>
  if r2 = 0 then (if v0 = 59 then (some 4)
  else (if v0 = 44 then (some 5)
  else (some 0)))
  else (if v1 ≤ 3 then (some 3)
  else (some 0)))
  else (if v1 ≤ 8 then (some 2)
  else (some 0))
set_option maxRecDepth 20000 in
set_option maxHeartbeats 2000000 in
theorem sT_kindOf (G : JG) (h : AH) (v0 : Int32) (v1 : Int32) : Mt G iT_kindOf (rvI h) [.int v0, .int v1] h (jT_kindOf v0 v1) := by
  refine Mt_of (by decide) (Nat.le_of_ble_eq_true rfl) ?_
  unfold jT_kindOf
  show Sim G iT_kindOf (rvI h) 0 [(0, .int v0), (1, .int v1)] [] h _
  refine E_iload_n dX6_kindOf_0 rfl 0 rfl ?_
  refine E_iload_n dX6_kindOf_1 rfl 0 rfl ?_
  refine E_cSI (As := [.int v0, .int v0]) (rest := []) (sT_areLetters G h v0 v0) ck_X6_areLetters lk_X6_45 rfl rfl rfl rfl rfl dX6_kindOf_2 (fun r1 _ => ?_)
  refine E_if_eq (t := 20) dX6_kindOf_5 rfl ?_ ?_
  · refine E_iload_n dX6_kindOf_20 rfl 0 rfl ?_
    refine E_iload_n dX6_kindOf_21 rfl 0 rfl ?_
    refine E_cSI (As := [.int v0, .int v0]) (rest := []) (sT_areDigits G h v0 v0) ck_X6_areDigits lk_X6_49 rfl rfl rfl rfl rfl dX6_kindOf_22 (fun r2 _ => ?_)
    refine E_if_eq (t := 39) dX6_kindOf_25 rfl ?_ ?_
    · refine E_iload_n dX6_kindOf_39 rfl 0 rfl ?_
      refine E_bipush (v := 59) dX6_kindOf_40 rfl ?_
      refine E_icmp_ne (t := 49) dX6_kindOf_42 rfl ?_ ?_
      · refine E_iload_n dX6_kindOf_49 rfl 0 rfl ?_
        refine E_bipush (v := 44) dX6_kindOf_50 rfl ?_
        refine E_icmp_ne (t := 59) dX6_kindOf_52 rfl ?_ ?_
        · refine E_iconst (v := 0) dX6_kindOf_59 rfl ?_
          exact E_iret rfl rfl dX6_kindOf_60
        · refine E_iconst (v := 5) dX6_kindOf_55 rfl ?_
          refine E_goto (t := 60) dX6_kindOf_56 rfl ?_
          exact E_iret rfl rfl dX6_kindOf_60
      · refine E_iconst (v := 4) dX6_kindOf_45 rfl ?_
        refine E_goto (t := 60) dX6_kindOf_46 rfl ?_
        exact E_iret rfl rfl dX6_kindOf_60
    · refine E_iload_n dX6_kindOf_28 rfl 1 rfl ?_
      refine E_iconst (v := 3) dX6_kindOf_29 rfl ?_
      refine E_icmp_le (t := 37) dX6_kindOf_30 rfl ?_ ?_
      · refine E_iconst (v := 3) dX6_kindOf_37 rfl ?_
        exact E_iret rfl rfl dX6_kindOf_38
      · refine E_iconst (v := 0) dX6_kindOf_33 rfl ?_
        refine E_goto (t := 38) dX6_kindOf_34 rfl ?_
        exact E_iret rfl rfl dX6_kindOf_38
  · refine E_iload_n dX6_kindOf_8 rfl 1 rfl ?_
    refine E_bipush (v := 8) dX6_kindOf_9 rfl ?_
    refine E_icmp_le (t := 18) dX6_kindOf_11 rfl ?_ ?_
    · refine E_iconst (v := 2) dX6_kindOf_18 rfl ?_
      exact E_iret rfl rfl dX6_kindOf_19
    · refine E_iconst (v := 0) dX6_kindOf_14 rfl ?_
      refine E_goto (t := 19) dX6_kindOf_15 rfl ?_
      exact E_iret rfl rfl dX6_kindOf_19
def iT_numberOf : MI := (yX6_numberOf, cX6_numberOf, 6, (some .long), { frames := 0, cells := 0, slots := 0, locals := 0 }, 0)
theorem ck_X6_numberOf : CS iT_numberOf 3 := ⟨⟨wd_109, wd_450, by decide +kernel⟩, wd_449⟩
def jT_numberOf_5 (h : AH) (v2 : Int32) : Nat → Int64 → Int32 → Option (Int64)
  | 0, _, _ => none
  | n + 1, v3, v5 =>
    if v5 < v2 then (if inb v5 900 = true then (
    jb (((v3 * 10) + (((gI h 1 0 v5.toNatClampNeg) - 48).toInt64)) : Int64) fun y1 =>
    (jT_numberOf_5 h v2 n y1 (v5 + 1))) else none)
    else (some v3)
set_option maxRecDepth 20000 in
set_option maxHeartbeats 2000000 in
theorem sT_numberOf_5 (G : JG) (h : AH) (v2 : Int32)  : ∀ (n : Nat) (v3 : Int64) (v5 : Int32), Sim G iT_numberOf (rvL h) 5 [(0, .ref (G.ad 1 0)), (2, .int v2), (3, .long v3), (5, .int v5)] [] h (jT_numberOf_5 h v2 n v3 v5) := by
  intro n
  induction n with
  | zero => intro v3 v5; exact E_none
  | succ n ih =>
    intro v3 v5
    rw [jT_numberOf_5]
    refine E_iload dX6_numberOf_5 3 rfl ?_
    refine E_iload_n dX6_numberOf_7 rfl 1 rfl ?_
    refine E_icmp_ge (t := 32) dX6_numberOf_8 rfl ?_ ?_
    · refine E_lload_n dX6_numberOf_32 rfl 2 rfl ?_
      exact E_lret rfl rfl dX6_numberOf_33
    · refine E_lload_n dX6_numberOf_11 rfl 2 rfl ?_
      refine E_ldc2 dX6_numberOf_12 cn_X6_52 ?_
      refine E_lmul dX6_numberOf_15 ?_
      refine E_aload_n dX6_numberOf_16 rfl 0 rfl ?_
      refine E_iload dX6_numberOf_17 3 rfl ?_
      refine E_bald (n := 900) rfl dX6_numberOf_19 z1 (fun _ => ?_)
      refine E_bipush (v := 48) dX6_numberOf_20 rfl ?_
      refine E_isub dX6_numberOf_22 ?_
      refine E_i2l dX6_numberOf_23 ?_
      refine E_ladd dX6_numberOf_24 ?_
      refine E_topl (fun y1 => ?_)
      refine E_lstore_n (ls' := [(3, .long y1), (0, .ref (G.ad 1 0)), (2, .int v2), (5, .int v5)]) dX6_numberOf_25 rfl (Nat.le_of_ble_eq_true rfl) rfl ?_
      refine E_iinc (q := 3) (v := (v5 + 1)) (ls' := [(5, .int (v5 + 1)), (3, .long y1), (0, .ref (G.ad 1 0)), (2, .int v2)]) dX6_numberOf_26 rfl rfl (Nat.le_of_ble_eq_true rfl) rfl ?_
      refine E_goto (t := 5) dX6_numberOf_29 rfl ?_
      exact E_sub [2, 3, 1, 0] rfl (ih y1 (v5 + 1))
def jT_numberOf (h : AH) (v1 : Int32) (v2 : Int32) : Option (Int64) :=
  (jT_numberOf_5 h v2 FU 0 v1)
set_option maxRecDepth 20000 in
set_option maxHeartbeats 2000000 in
theorem sT_numberOf (G : JG) (h : AH) (v1 : Int32) (v2 : Int32) : Mt G iT_numberOf (rvL h) [.ref (G.ad 1 0), .int v1, .int v2] h (jT_numberOf h v1 v2) := by
  refine Mt_of (by decide) (Nat.le_of_ble_eq_true rfl) ?_
  unfold jT_numberOf
  show Sim G iT_numberOf (rvL h) 0 [(0, .ref (G.ad 1 0)), (1, .int v1), (2, .int v2)] [] h _
  refine E_lconst (v := 0) dX6_numberOf_0 rfl ?_
  refine E_lstore_n (ls' := [(3, .long 0), (0, .ref (G.ad 1 0)), (1, .int v1), (2, .int v2)]) dX6_numberOf_1 rfl (Nat.le_of_ble_eq_true rfl) rfl ?_
  refine E_iload_n dX6_numberOf_2 rfl 2 rfl ?_
  refine E_istore (ls' := [(5, .int v1), (3, .long 0), (0, .ref (G.ad 1 0)), (1, .int v1), (2, .int v2)]) dX6_numberOf_3 (Nat.le_of_ble_eq_true rfl) rfl ?_
  exact E_sub [2, 4, 1, 0] rfl (sT_numberOf_5 G h v2 FU 0 v1)
def iT_lettersOf : MI := (yX6_lettersOf, cX6_lettersOf, 6, (some .long), { frames := 0, cells := 0, slots := 0, locals := 0 }, 0)
theorem ck_X6_lettersOf : CS iT_lettersOf 3 := ⟨⟨wd_109, wd_454, by decide +kernel⟩, wd_453⟩
def jT_lettersOf_5 (h : AH) (v2 : Int32) : Nat → Int64 → Int32 → Option (Int64)
  | 0, _, _ => none
  | n + 1, v3, v5 =>
    if v5 < v2 then (if inb v5 900 = true then (
    jb (((v3 <<< ((8 : Int32).toInt64 &&& 63)) ||| ((gI h 1 0 v5.toNatClampNeg).toInt64)) : Int64) fun y1 =>
    (jT_lettersOf_5 h v2 n y1 (v5 + 1))) else none)
    else (some v3)
set_option maxRecDepth 20000 in
set_option maxHeartbeats 2000000 in
theorem sT_lettersOf_5 (G : JG) (h : AH) (v2 : Int32)  : ∀ (n : Nat) (v3 : Int64) (v5 : Int32), Sim G iT_lettersOf (rvL h) 5 [(0, .ref (G.ad 1 0)), (2, .int v2), (3, .long v3), (5, .int v5)] [] h (jT_lettersOf_5 h v2 n v3 v5) := by
  intro n
  induction n with
  | zero => intro v3 v5; exact E_none
  | succ n ih =>
    intro v3 v5
    rw [jT_lettersOf_5]
    refine E_iload dX6_lettersOf_5 3 rfl ?_
    refine E_iload_n dX6_lettersOf_7 rfl 1 rfl ?_
    refine E_icmp_ge (t := 28) dX6_lettersOf_8 rfl ?_ ?_
    · refine E_lload_n dX6_lettersOf_28 rfl 2 rfl ?_
      exact E_lret rfl rfl dX6_lettersOf_29
    · refine E_lload_n dX6_lettersOf_11 rfl 2 rfl ?_
      refine E_bipush (v := 8) dX6_lettersOf_12 rfl ?_
      refine E_lshl dX6_lettersOf_14 ?_
      refine E_aload_n dX6_lettersOf_15 rfl 0 rfl ?_
      refine E_iload dX6_lettersOf_16 3 rfl ?_
      refine E_bald (n := 900) rfl dX6_lettersOf_18 z1 (fun _ => ?_)
      refine E_i2l dX6_lettersOf_19 ?_
      refine E_lor dX6_lettersOf_20 ?_
      refine E_topl (fun y1 => ?_)
      refine E_lstore_n (ls' := [(3, .long y1), (0, .ref (G.ad 1 0)), (2, .int v2), (5, .int v5)]) dX6_lettersOf_21 rfl (Nat.le_of_ble_eq_true rfl) rfl ?_
      refine E_iinc (q := 3) (v := (v5 + 1)) (ls' := [(5, .int (v5 + 1)), (3, .long y1), (0, .ref (G.ad 1 0)), (2, .int v2)]) dX6_lettersOf_22 rfl rfl (Nat.le_of_ble_eq_true rfl) rfl ?_
      refine E_goto (t := 5) dX6_lettersOf_25 rfl ?_
      exact E_sub [2, 3, 1, 0] rfl (ih y1 (v5 + 1))
def jT_lettersOf (h : AH) (v1 : Int32) (v2 : Int32) : Option (Int64) :=
  (jT_lettersOf_5 h v2 FU 0 v1)
set_option maxRecDepth 20000 in
set_option maxHeartbeats 2000000 in
theorem sT_lettersOf (G : JG) (h : AH) (v1 : Int32) (v2 : Int32) : Mt G iT_lettersOf (rvL h) [.ref (G.ad 1 0), .int v1, .int v2] h (jT_lettersOf h v1 v2) := by
  refine Mt_of (by decide) (Nat.le_of_ble_eq_true rfl) ?_
  unfold jT_lettersOf
  show Sim G iT_lettersOf (rvL h) 0 [(0, .ref (G.ad 1 0)), (1, .int v1), (2, .int v2)] [] h _
  refine E_lconst (v := 0) dX6_lettersOf_0 rfl ?_
  refine E_lstore_n (ls' := [(3, .long 0), (0, .ref (G.ad 1 0)), (1, .int v1), (2, .int v2)]) dX6_lettersOf_1 rfl (Nat.le_of_ble_eq_true rfl) rfl ?_
  refine E_iload_n dX6_lettersOf_2 rfl 2 rfl ?_
  refine E_istore (ls' := [(5, .int v1), (3, .long 0), (0, .ref (G.ad 1 0)), (1, .int v1), (2, .int v2)]) dX6_lettersOf_3 (Nat.le_of_ble_eq_true rfl) rfl ?_
  exact E_sub [2, 4, 1, 0] rfl (sT_lettersOf_5 G h v2 FU 0 v1)
def iT_put : MI := (yX6_put, cX6_put, 5, none, { frames := 0, cells := 0, slots := 0, locals := 0 }, 0)
theorem ck_X6_put : CK iT_put 3 := ⟨⟨wd_109, wd_458, by decide +kernel⟩, ⟨wd_457, wd_2⟩⟩
def jT_put (h : AH) (v1 : Int32) (v2 : Int32) (v3 : Int64) : Option (AH) :=
  if (gI h 17 0 0) < 901 then (if inb (gI h 17 0 0) 901 = true then (
  jb (uI h 18 0 (gI h 17 0 0).toNatClampNeg v1) fun h1 =>
  if inb (gI h1 17 0 0) 901 = true then (
  jb (uI h1 19 0 (gI h1 17 0 0).toNatClampNeg v2) fun h2 =>
  if inb (gI h2 17 0 0) 901 = true then (
  jb (uL h2 20 0 (gI h2 17 0 0).toNatClampNeg v3) fun h3 =>
  jb (uI h3 17 0 0 ((gI h3 17 0 0) + 1)) fun h4 =>
  some h4) else none) else none) else none)
  else (some h)
set_option maxRecDepth 20000 in
set_option maxHeartbeats 2000000 in
theorem sT_put (G : JG) (h : AH) (v1 : Int32) (v2 : Int32) (v3 : Int64) : Mt G iT_put rvV [.ref (G.ad 17 0), .int v1, .int v2, .long v3] h (jT_put h v1 v2 v3) := by
  refine Mt_of (by decide) (Nat.le_of_ble_eq_true rfl) ?_
  unfold jT_put
  show Sim G iT_put rvV 0 [(0, .ref (G.ad 17 0)), (1, .int v1), (2, .int v2), (3, .long v3)] [] h _
  refine E_aload_n dX6_put_0 rfl 0 rfl ?_
  refine E_getI fl_X6_22 dX6_put_1 z17 ?_
  refine E_aload_n dX6_put_4 rfl 0 rfl ?_
  refine E_getF fl_X6_9 dX6_put_5 z17 ?_
  refine E_alen0 (n := 901) (v := 901) rfl rfl dX6_put_8 z18 ?_
  refine E_icmp_ge (t := 52) dX6_put_9 rfl ?_ ?_
  · exact E_vret rfl rfl dX6_put_52
  · refine E_aload_n dX6_put_12 rfl 0 rfl ?_
    refine E_getF fl_X6_9 dX6_put_13 z17 ?_
    refine E_aload_n dX6_put_16 rfl 0 rfl ?_
    refine E_getI fl_X6_22 dX6_put_17 z17 ?_
    refine E_iload_n dX6_put_20 rfl 1 rfl ?_
    refine E_iast (n := 901) rfl dX6_put_21 z18 (fun _ => ?_)
    refine E_hgen (fun h1 => ?_)
    refine E_aload_n dX6_put_22 rfl 0 rfl ?_
    refine E_getF fl_X6_15 dX6_put_23 z17 ?_
    refine E_aload_n dX6_put_26 rfl 0 rfl ?_
    refine E_getI fl_X6_22 dX6_put_27 z17 ?_
    refine E_iload_n dX6_put_30 rfl 2 rfl ?_
    refine E_iast (n := 901) rfl dX6_put_31 z19 (fun _ => ?_)
    refine E_hgen (fun h2 => ?_)
    refine E_aload_n dX6_put_32 rfl 0 rfl ?_
    refine E_getF fl_X6_18 dX6_put_33 z17 ?_
    refine E_aload_n dX6_put_36 rfl 0 rfl ?_
    refine E_getI fl_X6_22 dX6_put_37 z17 ?_
    refine E_lload_n dX6_put_40 rfl 3 rfl ?_
    refine E_last (n := 901) rfl dX6_put_41 z20 (fun _ => ?_)
    refine E_hgen (fun h3 => ?_)
    refine E_aload_n dX6_put_42 rfl 0 rfl ?_
    refine E_dup dX6_put_43 rfl ?_
    refine E_getI fl_X6_22 dX6_put_44 z17 ?_
    refine E_iconst (v := 1) dX6_put_47 rfl ?_
    refine E_iadd dX6_put_48 ?_
    refine E_putI fs_X6_22 dX6_put_49 z17 ?_
    refine E_hgen (fun h4 => ?_)
    exact E_vret rfl rfl dX6_put_52
def iT_cut : MI := (yX6_cut, cX6_cut, 7, none, { frames := 2, cells := 0, slots := 0, locals := 44 }, 0)
theorem ck_X6_cut : CK iT_cut 2 := ⟨⟨wd_109, wd_435, by decide +kernel⟩, ⟨wd_433, wd_434⟩⟩
def jT_cut_76 (v2 : Int32) (k_10 : Int32 → Int32 → AH → Option AH) (v4 : Int32) (v5 : Int32) (s0 : Int64) (s1 : Int32) (s2 : Int32) (h : AH) : Option (AH) :=
  (jT_put h s2 s1 s0).bind fun h1 =>
  (k_10 v5 (v4 + 1) h1)
set_option maxRecDepth 20000 in
set_option maxHeartbeats 2000000 in
theorem sT_cut_76 (G : JG) (v2 : Int32) (k_10 : Int32 → Int32 → AH → Option AH) (hk_10 : ∀ (v3 : Int32) (v4 : Int32) (h : AH), Sim G iT_cut rvV 10 [(0, .ref (G.ad 17 0)), (1, .ref (G.ad 1 0)), (2, .int v2), (3, .int v3), (4, .int v4)] [] h (k_10 v3 v4 h)) (v4 : Int32) (v5 : Int32) (s0 : Int64) (s1 : Int32) (s2 : Int32) (h : AH) : Sim G iT_cut rvV 76 [(0, .ref (G.ad 17 0)), (1, .ref (G.ad 1 0)), (2, .int v2), (4, .int v4), (5, .int v5)] [.long s0, .int s1, .int s2, .ref (G.ad 17 0)] h (jT_cut_76 v2 k_10 v4 v5 s0 s1 s2 h) := by
  unfold jT_cut_76
  refine E_cVV (As := [.int s2, .int s1, .long s0]) (rest := []) (sT_put G h s2 s1 s0) ck_X6_put lk_X6_41 rfl rfl kc_17 z17 rfl rfl rfl dX6_cut_76 (fun h1 _ => ?_)
  refine E_iload dX6_cut_79 4 rfl ?_
  refine E_istore_n (ls' := [(3, .int v5), (0, .ref (G.ad 17 0)), (1, .ref (G.ad 1 0)), (2, .int v2), (4, .int v4), (5, .int v5)]) dX6_cut_81 rfl (Nat.le_of_ble_eq_true rfl) rfl ?_
  refine E_iinc (q := 4) (v := (v4 + 1)) (ls' := [(4, .int (v4 + 1)), (3, .int v5), (0, .ref (G.ad 17 0)), (1, .ref (G.ad 1 0)), (2, .int v2), (5, .int v5)]) dX6_cut_82 rfl rfl (Nat.le_of_ble_eq_true rfl) rfl ?_
  refine E_goto (t := 10) dX6_cut_85 rfl ?_
  exact E_sub [2, 3, 4, 1, 0] rfl (hk_10 v5 (v4 + 1) h1)
def jT_cut_10 (v2 : Int32) : Nat → Int32 → Int32 → AH → Option (AH)
  | 0, _, _, _ => none
  | n + 1, v3, v4, h =>
    if v4 < v2 then (if v3 < v2 then ((jT_endOf h v3 v2).bind fun r3 =>
    if inb v3 900 = true then (
    (jT_kindOf (gI h 1 0 v3.toNatClampNeg) (r3 - v3)).bind fun r4 =>
    if inb v3 900 = true then (
    if (gI h 1 0 v3.toNatClampNeg) = 32 then ((jT_cut_10 v2 n r3 (v4 + 1) h))
    else (if r4 = 3 then ((jT_numberOf h v3 r3).bind fun r6 =>
    (jT_cut_76 v2 (jT_cut_10 v2 n) v4 r3 r6 v3 r4 h))
    else ((jT_lettersOf h v3 r3).bind fun r5 =>
    (jT_cut_76 v2 (jT_cut_10 v2 n) v4 r3 r5 v3 r4 h)))) else none) else none)
    else ((jT_put h 1 v2 0).bind fun h2 =>
    some h2))
    else ((jT_put h 1 v2 0).bind fun h1 =>
    some h1)
set_option maxRecDepth 20000 in
set_option maxHeartbeats 2000000 in
theorem sT_cut_10 (G : JG) (v2 : Int32)  : ∀ (n : Nat) (v3 : Int32) (v4 : Int32) (h : AH), Sim G iT_cut rvV 10 [(0, .ref (G.ad 17 0)), (1, .ref (G.ad 1 0)), (2, .int v2), (3, .int v3), (4, .int v4)] [] h (jT_cut_10 v2 n v3 v4 h) := by
  intro n
  induction n with
  | zero => intro v3 v4 h; exact E_none
  | succ n ih =>
    intro v3 v4 h
    rw [jT_cut_10]
    refine E_iload dX6_cut_10 4 rfl ?_
    refine E_iload_n dX6_cut_12 rfl 2 rfl ?_
    refine E_icmp_ge (t := 88) dX6_cut_13 rfl ?_ ?_
    · refine E_aload_n dX6_cut_88 rfl 0 rfl ?_
      refine E_iconst (v := 1) dX6_cut_89 rfl ?_
      refine E_iload_n dX6_cut_90 rfl 2 rfl ?_
      refine E_lconst (v := 0) dX6_cut_91 rfl ?_
      refine E_cVV (As := [.int 1, .int v2, .long 0]) (rest := []) (sT_put G h 1 v2 0) ck_X6_put lk_X6_41 rfl rfl kc_17 z17 rfl rfl rfl dX6_cut_92 (fun h1 _ => ?_)
      exact E_vret rfl rfl dX6_cut_95
    · refine E_iload_n dX6_cut_16 rfl 3 rfl ?_
      refine E_iload_n dX6_cut_17 rfl 2 rfl ?_
      refine E_icmp_ge (t := 88) dX6_cut_18 rfl ?_ ?_
      · refine E_aload_n dX6_cut_88 rfl 0 rfl ?_
        refine E_iconst (v := 1) dX6_cut_89 rfl ?_
        refine E_iload_n dX6_cut_90 rfl 2 rfl ?_
        refine E_lconst (v := 0) dX6_cut_91 rfl ?_
        refine E_cVV (As := [.int 1, .int v2, .long 0]) (rest := []) (sT_put G h 1 v2 0) ck_X6_put lk_X6_41 rfl rfl kc_17 z17 rfl rfl rfl dX6_cut_92 (fun h2 _ => ?_)
        exact E_vret rfl rfl dX6_cut_95
      · refine E_aload_n dX6_cut_21 rfl 1 rfl ?_
        refine E_iload_n dX6_cut_22 rfl 3 rfl ?_
        refine E_iload_n dX6_cut_23 rfl 2 rfl ?_
        refine E_cSI (As := [.ref (G.ad 1 0), .int v3, .int v2]) (rest := []) (sT_endOf G h v3 v2) ck_X6_endOf lk_X6_26 rfl rfl rfl rfl rfl dX6_cut_24 (fun r3 _ => ?_)
        refine E_istore (ls' := [(5, .int r3), (0, .ref (G.ad 17 0)), (1, .ref (G.ad 1 0)), (2, .int v2), (3, .int v3), (4, .int v4)]) dX6_cut_27 (Nat.le_of_ble_eq_true rfl) rfl ?_
        refine E_aload_n dX6_cut_29 rfl 2 rfl ?_
        refine E_iload_n dX6_cut_30 rfl 4 rfl ?_
        refine E_bald (n := 900) rfl dX6_cut_31 z1 (fun _ => ?_)
        refine E_iload dX6_cut_32 0 rfl ?_
        refine E_iload_n dX6_cut_34 rfl 4 rfl ?_
        refine E_isub dX6_cut_35 ?_
        refine E_cSI (As := [.int (gI h 1 0 v3.toNatClampNeg), .int (r3 - v3)]) (rest := []) (sT_kindOf G h (gI h 1 0 v3.toNatClampNeg) (r3 - v3)) ck_X6_kindOf lk_X6_30 rfl rfl rfl rfl rfl dX6_cut_36 (fun r4 _ => ?_)
        refine E_istore (ls' := [(6, .int r4), (5, .int r3), (0, .ref (G.ad 17 0)), (1, .ref (G.ad 1 0)), (2, .int v2), (3, .int v3), (4, .int v4)]) dX6_cut_39 (Nat.le_of_ble_eq_true rfl) rfl ?_
        refine E_aload_n dX6_cut_41 rfl 3 rfl ?_
        refine E_iload_n dX6_cut_42 rfl 5 rfl ?_
        refine E_bald (n := 900) rfl dX6_cut_43 z1 (fun _ => ?_)
        refine E_bipush (v := 32) dX6_cut_44 rfl ?_
        refine E_icmp_eq (t := 79) dX6_cut_46 rfl ?_ ?_
        · refine E_iload dX6_cut_79 1 rfl ?_
          refine E_istore_n (ls' := [(3, .int r3), (6, .int r4), (5, .int r3), (0, .ref (G.ad 17 0)), (1, .ref (G.ad 1 0)), (2, .int v2), (4, .int v4)]) dX6_cut_81 rfl (Nat.le_of_ble_eq_true rfl) rfl ?_
          refine E_iinc (q := 6) (v := (v4 + 1)) (ls' := [(4, .int (v4 + 1)), (3, .int r3), (6, .int r4), (5, .int r3), (0, .ref (G.ad 17 0)), (1, .ref (G.ad 1 0)), (2, .int v2)]) dX6_cut_82 rfl rfl (Nat.le_of_ble_eq_true rfl) rfl ?_
          refine E_goto (t := 10) dX6_cut_85 rfl ?_
          exact E_sub [4, 5, 6, 1, 0] rfl (ih r3 (v4 + 1) h)
        · refine E_aload_n dX6_cut_49 rfl 2 rfl ?_
          refine E_iload dX6_cut_50 0 rfl ?_
          refine E_iload_n dX6_cut_52 rfl 5 rfl ?_
          refine E_iload dX6_cut_53 0 rfl ?_
          refine E_iconst (v := 3) dX6_cut_55 rfl ?_
          refine E_icmp_ne (t := 69) dX6_cut_56 rfl ?_ ?_
          · refine E_aload_n dX6_cut_69 rfl 3 rfl ?_
            refine E_iload_n dX6_cut_70 rfl 5 rfl ?_
            refine E_iload dX6_cut_71 1 rfl ?_
            refine E_cSL (As := [.ref (G.ad 1 0), .int v3, .int r3]) (rest := [.int v3, .int r4, .ref (G.ad 17 0)]) (sT_lettersOf G h v3 r3) ck_X6_lettersOf lk_X6_38 rfl rfl rfl rfl rfl dX6_cut_73 (fun r5 _ => ?_)
            exact E_sub [2, 3, 4, 6, 1] rfl (sT_cut_76 G v2 (jT_cut_10 v2 n) ih v4 r3 r5 v3 r4 h)
          · refine E_aload_n dX6_cut_59 rfl 3 rfl ?_
            refine E_iload_n dX6_cut_60 rfl 5 rfl ?_
            refine E_iload dX6_cut_61 1 rfl ?_
            refine E_cSL (As := [.ref (G.ad 1 0), .int v3, .int r3]) (rest := [.int v3, .int r4, .ref (G.ad 17 0)]) (sT_numberOf G h v3 r3) ck_X6_numberOf lk_X6_34 rfl rfl rfl rfl rfl dX6_cut_63 (fun r6 _ => ?_)
            refine E_goto (t := 76) dX6_cut_66 rfl ?_
            exact E_sub [2, 3, 4, 6, 1] rfl (sT_cut_76 G v2 (jT_cut_10 v2 n) ih v4 r3 r6 v3 r4 h)
def jT_cut (h : AH) (v2 : Int32) : Option (AH) :=
  jb (uI h 17 0 0 0) fun h1 =>
  (jT_cut_10 v2 FU 0 0 h1)
set_option maxRecDepth 20000 in
set_option maxHeartbeats 2000000 in
theorem sT_cut (G : JG) (h : AH) (v2 : Int32) : Mt G iT_cut rvV [.ref (G.ad 17 0), .ref (G.ad 1 0), .int v2] h (jT_cut h v2) := by
  refine Mt_of (by decide) (Nat.le_of_ble_eq_true rfl) ?_
  unfold jT_cut
  show Sim G iT_cut rvV 0 [(0, .ref (G.ad 17 0)), (1, .ref (G.ad 1 0)), (2, .int v2)] [] h _
  refine E_aload_n dX6_cut_0 rfl 0 rfl ?_
  refine E_iconst (v := 0) dX6_cut_1 rfl ?_
  refine E_putI fs_X6_22 dX6_cut_2 z17 ?_
  refine E_hgen (fun h1 => ?_)
  refine E_iconst (v := 0) dX6_cut_5 rfl ?_
  refine E_istore_n (ls' := [(3, .int 0), (0, .ref (G.ad 17 0)), (1, .ref (G.ad 1 0)), (2, .int v2)]) dX6_cut_6 rfl (Nat.le_of_ble_eq_true rfl) rfl ?_
  refine E_iconst (v := 0) dX6_cut_7 rfl ?_
  refine E_istore (ls' := [(4, .int 0), (3, .int 0), (0, .ref (G.ad 17 0)), (1, .ref (G.ad 1 0)), (2, .int v2)]) dX6_cut_8 (Nat.le_of_ble_eq_true rfl) rfl ?_
  exact E_sub [2, 3, 4, 1, 0] rfl (sT_cut_10 G v2 FU 0 0 h1)
def iW_clear : MI := (yX7_clear, cX7_clear, 1, none, { frames := 0, cells := 0, slots := 0, locals := 0 }, 0)
theorem ck_X7_clear : CK iW_clear 0 := ⟨⟨wd_108, wd_469, by decide +kernel⟩, ⟨wd_467, wd_468⟩⟩
def jW_clear (h : AH) (w : Nat) : Option (AH) :=
  jb (uI h 13 w 0 0) fun h1 =>
  jb (uI h1 13 w 1 0) fun h2 =>
  some h2
set_option maxRecDepth 20000 in
set_option maxHeartbeats 2000000 in
theorem sW_clear (G : JG) (h : AH) (w : Nat) (hw : w < nIn 0 13) : Mt G iW_clear rvV [.ref (G.ad 13 w)] h (jW_clear h w) := by
  refine Mt_of (by decide) (Nat.le_of_ble_eq_true rfl) ?_
  unfold jW_clear
  show Sim G iW_clear rvV 0 [(0, .ref (G.ad 13 w))] [] h _
  refine E_aload_n dX7_clear_0 rfl 0 rfl ?_
  refine E_iconst (v := 0) dX7_clear_1 rfl ?_
  refine E_putI fs_X7_21 dX7_clear_2 hw ?_
  refine E_hgen (fun h1 => ?_)
  refine E_aload_n dX7_clear_5 rfl 0 rfl ?_
  refine E_iconst (v := 0) dX7_clear_6 rfl ?_
  refine E_putZ fs_X7_25 (Or.inl rfl) dX7_clear_7 hw ?_
  refine E_hgen (fun h2 => ?_)
  exact E_vret rfl rfl dX7_clear_10
def iR_wallLine : MI := (yX5_wallLine, cX5_wallLine, 1, none, { frames := 2, cells := 0, slots := 0, locals := 46 }, 0)
theorem ck_X5_wallLine : CK iR_wallLine 0 := ⟨⟨wd_106, wd_478, by decide +kernel⟩, ⟨wd_477, wd_3⟩⟩
def jR_wallLine_15  (h : AH) : Option (AH) :=
  jb (uI h 2 0 5 ((gI h 2 0 5) + 1)) fun h1 =>
  (jR_readWord h1 2003395685).bind fun h2 =>
  (jR_readWhole h2 1 6).bind fun q3 =>
  jb (uI q3.2 3 ((gB h2 2).toNat) 0 q3.1) fun h4 =>
  (jR_readWord h4 1751738216).bind fun h5 =>
  (jR_readWhole h5 1 4).bind fun q6 =>
  jb (uI q6.2 3 ((gB h5 2).toNat) 1 q6.1) fun h7 =>
  (jR_readWord h7 461262647411).bind fun h8 =>
  (jB_cells h8 ((gB h8 2).toNat)).bind fun r9 =>
  (jR_readWhole h8 0 r9).bind fun q10 =>
  jb (uI q10.2 3 ((gB h8 2).toNat) 2 q10.1) fun h11 =>
  (jR_readWord h11 482671228019).bind fun h12 =>
  (jR_readWhole h12 0 9).bind fun q13 =>
  jb (uI q13.2 3 ((gB h12 2).toNat) 3 q13.1) fun h14 =>
  some h14
set_option maxRecDepth 20000 in
set_option maxHeartbeats 2000000 in
theorem sR_wallLine_15 (G : JG)   (h : AH) : Sim G iR_wallLine rvV 15 [(0, .ref (G.ad 2 0))] [] h (jR_wallLine_15 h) := by
  unfold jR_wallLine_15
  refine E_aload_n dX5_wallLine_15 rfl 0 rfl ?_
  refine E_dup dX5_wallLine_16 rfl ?_
  refine E_getI fl_X5_53 dX5_wallLine_17 z2 ?_
  refine E_iconst (v := 1) dX5_wallLine_20 rfl ?_
  refine E_iadd dX5_wallLine_21 ?_
  refine E_putI fs_X5_53 dX5_wallLine_22 z2 ?_
  refine E_hgen (fun h1 => ?_)
  refine E_aload_n dX5_wallLine_25 rfl 0 rfl ?_
  refine E_ldc2 dX5_wallLine_26 cn_X5_112 ?_
  refine E_cVV (As := [.long 2003395685]) (rest := []) (sR_readWord G h1 2003395685) ck_X5_readWord lk_X5_114 rfl rfl kc_2 z2 rfl rfl rfl dX5_wallLine_29 (fun h2 _ => ?_)
  refine E_aload_n dX5_wallLine_32 rfl 0 rfl ?_
  refine E_getD fl_X5_18 dX5_wallLine_33 z2 ?_
  refine E_aload_n dX5_wallLine_36 rfl 0 rfl ?_
  refine E_iconst (v := 1) dX5_wallLine_37 rfl ?_
  refine E_bipush (v := 6) dX5_wallLine_38 rfl ?_
  refine E_cVIM (As := [.int 1, .int 6]) (rest := [.ref (G.ad 3 ((gB h2 2).toNat))]) (sR_readWhole G h2 1 6) ck_X5_readWhole lk_X5_118 rfl rfl kc_2 z2 rfl rfl rfl dX5_wallLine_40 (fun q3 _ => ?_)
  refine E_putI fs_X5_121 dX5_wallLine_43 (tB3 _) ?_
  refine E_hgen (fun h4 => ?_)
  refine E_aload_n dX5_wallLine_46 rfl 0 rfl ?_
  refine E_ldc2 dX5_wallLine_47 cn_X5_124 ?_
  refine E_cVV (As := [.long 1751738216]) (rest := []) (sR_readWord G h4 1751738216) ck_X5_readWord lk_X5_114 rfl rfl kc_2 z2 rfl rfl rfl dX5_wallLine_50 (fun h5 _ => ?_)
  refine E_aload_n dX5_wallLine_53 rfl 0 rfl ?_
  refine E_getD fl_X5_18 dX5_wallLine_54 z2 ?_
  refine E_aload_n dX5_wallLine_57 rfl 0 rfl ?_
  refine E_iconst (v := 1) dX5_wallLine_58 rfl ?_
  refine E_iconst (v := 4) dX5_wallLine_59 rfl ?_
  refine E_cVIM (As := [.int 1, .int 4]) (rest := [.ref (G.ad 3 ((gB h5 2).toNat))]) (sR_readWhole G h5 1 4) ck_X5_readWhole lk_X5_118 rfl rfl kc_2 z2 rfl rfl rfl dX5_wallLine_60 (fun q6 _ => ?_)
  refine E_putI fs_X5_126 dX5_wallLine_63 (tB3 _) ?_
  refine E_hgen (fun h7 => ?_)
  refine E_aload_n dX5_wallLine_66 rfl 0 rfl ?_
  refine E_ldc2 dX5_wallLine_67 cn_X5_129 ?_
  refine E_cVV (As := [.long 461262647411]) (rest := []) (sR_readWord G h7 461262647411) ck_X5_readWord lk_X5_114 rfl rfl kc_2 z2 rfl rfl rfl dX5_wallLine_70 (fun h8 _ => ?_)
  refine E_aload_n dX5_wallLine_73 rfl 0 rfl ?_
  refine E_getD fl_X5_18 dX5_wallLine_74 z2 ?_
  refine E_aload_n dX5_wallLine_77 rfl 0 rfl ?_
  refine E_iconst (v := 0) dX5_wallLine_78 rfl ?_
  refine E_aload_n dX5_wallLine_79 rfl 0 rfl ?_
  refine E_getD fl_X5_18 dX5_wallLine_80 z2 ?_
  refine E_cVI (As := []) (rest := [.int 0, .ref (G.ad 2 0), .ref (G.ad 3 ((gB h8 2).toNat))]) (sB_cells G h8 ((gB h8 2).toNat) (tB3 _)) ck_X0_cells lk_X5_131 rfl rfl kc_3 (tB3 _) rfl rfl rfl dX5_wallLine_83 (fun r9 _ => ?_)
  refine E_cVIM (As := [.int 0, .int r9]) (rest := [.ref (G.ad 3 ((gB h8 2).toNat))]) (sR_readWhole G h8 0 r9) ck_X5_readWhole lk_X5_118 rfl rfl kc_2 z2 rfl rfl rfl dX5_wallLine_86 (fun q10 _ => ?_)
  refine E_putI fs_X5_135 dX5_wallLine_89 (tB3 _) ?_
  refine E_hgen (fun h11 => ?_)
  refine E_aload_n dX5_wallLine_92 rfl 0 rfl ?_
  refine E_ldc2 dX5_wallLine_93 cn_X5_138 ?_
  refine E_cVV (As := [.long 482671228019]) (rest := []) (sR_readWord G h11 482671228019) ck_X5_readWord lk_X5_114 rfl rfl kc_2 z2 rfl rfl rfl dX5_wallLine_96 (fun h12 _ => ?_)
  refine E_aload_n dX5_wallLine_99 rfl 0 rfl ?_
  refine E_getD fl_X5_18 dX5_wallLine_100 z2 ?_
  refine E_aload_n dX5_wallLine_103 rfl 0 rfl ?_
  refine E_iconst (v := 0) dX5_wallLine_104 rfl ?_
  refine E_bipush (v := 9) dX5_wallLine_105 rfl ?_
  refine E_cVIM (As := [.int 0, .int 9]) (rest := [.ref (G.ad 3 ((gB h12 2).toNat))]) (sR_readWhole G h12 0 9) ck_X5_readWhole lk_X5_118 rfl rfl kc_2 z2 rfl rfl rfl dX5_wallLine_107 (fun q13 _ => ?_)
  refine E_putI fs_X5_140 dX5_wallLine_110 (tB3 _) ?_
  refine E_hgen (fun h14 => ?_)
  exact E_vret rfl rfl dX5_wallLine_113
def jR_wallLine (h : AH)  : Option (AH) :=
  (jB_isTold h ((gB h 2).toNat)).bind fun r1 =>
  if r1 = 0 then ((jR_wallLine_15 h))
  else ((jR_fail h 3).bind fun h2 =>
  (jR_wallLine_15 h2))
set_option maxRecDepth 20000 in
set_option maxHeartbeats 2000000 in
theorem sR_wallLine (G : JG) (h : AH)  : Mt G iR_wallLine rvV [.ref (G.ad 2 0)] h (jR_wallLine h) := by
  refine Mt_of (by decide) (Nat.le_of_ble_eq_true rfl) ?_
  unfold jR_wallLine
  show Sim G iR_wallLine rvV 0 [(0, .ref (G.ad 2 0))] [] h _
  refine E_aload_n dX5_wallLine_0 rfl 0 rfl ?_
  refine E_getD fl_X5_18 dX5_wallLine_1 z2 ?_
  refine E_cVI (As := []) (rest := []) (sB_isTold G h ((gB h 2).toNat) (tB3 _)) ck_X0_isTold lk_X5_109 rfl rfl kc_3 (tB3 _) rfl rfl rfl dX5_wallLine_4 (fun r1 _ => ?_)
  refine E_if_eq (t := 15) dX5_wallLine_7 rfl ?_ ?_
  · exact E_sub [0] rfl (sR_wallLine_15 G h)
  · refine E_aload_n dX5_wallLine_10 rfl 0 rfl ?_
    refine E_iconst (v := 3) dX5_wallLine_11 rfl ?_
    refine E_cVV (As := [.int 3]) (rest := []) (sR_fail G h 3) ck_X5_fail lk_X5_90 rfl rfl kc_2 z2 rfl rfl rfl dX5_wallLine_12 (fun h2 _ => ?_)
    exact E_sub [0] rfl (sR_wallLine_15 G h2)
def iR_readHand : MI := (yX5_readHand, cX5_readHand, 2, (some .int), { frames := 2, cells := 0, slots := 0, locals := 45 }, 0)
theorem ck_X5_readHand : CK iR_readHand 0 := ⟨⟨wd_106, wd_564, by decide +kernel⟩, ⟨wd_563, wd_11⟩⟩
def jR_readHand_38  (v1 : Int32) (h : AH) : Option (Int32 × AH) :=
  if v1 = (-1) then ((jR_fail h 2).bind fun h2 =>
  jb (uI h2 2 0 5 ((gI h2 2 0 5) + 1)) fun h3 =>
  some (v1, h3))
  else (jb (uI h 2 0 5 ((gI h 2 0 5) + 1)) fun h1 =>
  some (v1, h1))
set_option maxRecDepth 20000 in
set_option maxHeartbeats 2000000 in
theorem sR_readHand_38 (G : JG)   (v1 : Int32) (h : AH) : Sim G iR_readHand rvIM 38 [(0, .ref (G.ad 2 0)), (1, .int v1)] [] h (jR_readHand_38 v1 h) := by
  unfold jR_readHand_38
  refine E_iload_n dX5_readHand_38 rfl 1 rfl ?_
  refine E_iconst (v := (-1)) dX5_readHand_39 rfl ?_
  refine E_icmp_ne (t := 48) dX5_readHand_40 rfl ?_ ?_
  · refine E_aload_n dX5_readHand_48 rfl 0 rfl ?_
    refine E_dup dX5_readHand_49 rfl ?_
    refine E_getI fl_X5_53 dX5_readHand_50 z2 ?_
    refine E_iconst (v := 1) dX5_readHand_53 rfl ?_
    refine E_iadd dX5_readHand_54 ?_
    refine E_putI fs_X5_53 dX5_readHand_55 z2 ?_
    refine E_hgen (fun h1 => ?_)
    refine E_iload_n dX5_readHand_58 rfl 1 rfl ?_
    exact E_iret rfl rfl dX5_readHand_59
  · refine E_aload_n dX5_readHand_43 rfl 0 rfl ?_
    refine E_iconst (v := 2) dX5_readHand_44 rfl ?_
    refine E_cVV (As := [.int 2]) (rest := []) (sR_fail G h 2) ck_X5_fail lk_X5_90 rfl rfl kc_2 z2 rfl rfl rfl dX5_readHand_45 (fun h2 _ => ?_)
    refine E_aload_n dX5_readHand_48 rfl 0 rfl ?_
    refine E_dup dX5_readHand_49 rfl ?_
    refine E_getI fl_X5_53 dX5_readHand_50 z2 ?_
    refine E_iconst (v := 1) dX5_readHand_53 rfl ?_
    refine E_iadd dX5_readHand_54 ?_
    refine E_putI fs_X5_53 dX5_readHand_55 z2 ?_
    refine E_hgen (fun h3 => ?_)
    refine E_iload_n dX5_readHand_58 rfl 1 rfl ?_
    exact E_iret rfl rfl dX5_readHand_59
def jR_readHand (h : AH)  : Option (Int32 × AH) :=
  (jT_valueOf h (gI h 2 0 5)).bind fun r1 =>
  (jB_handNamed h ((gB h 2).toNat) r1).bind fun r2 =>
  (jT_isName h (gI h 2 0 5)).bind fun r3 =>
  if r3 = 0 then ((jR_fail h 1).bind fun h4 =>
  (jR_readHand_38 r2 h4))
  else ((jR_readHand_38 r2 h))
set_option maxRecDepth 20000 in
set_option maxHeartbeats 2000000 in
theorem sR_readHand (G : JG) (h : AH)  : Mt G iR_readHand rvIM [.ref (G.ad 2 0)] h (jR_readHand h) := by
  refine Mt_of (by decide) (Nat.le_of_ble_eq_true rfl) ?_
  unfold jR_readHand
  show Sim G iR_readHand rvIM 0 [(0, .ref (G.ad 2 0))] [] h _
  refine E_aload_n dX5_readHand_0 rfl 0 rfl ?_
  refine E_getD fl_X5_18 dX5_readHand_1 z2 ?_
  refine E_aload_n dX5_readHand_4 rfl 0 rfl ?_
  refine E_getF fl_X5_32 dX5_readHand_5 z2 ?_
  refine E_aload_n dX5_readHand_8 rfl 0 rfl ?_
  refine E_getI fl_X5_53 dX5_readHand_9 z2 ?_
  refine E_cVL (As := [.int (gI h 2 0 5)]) (rest := [.ref (G.ad 3 ((gB h 2).toNat))]) (sT_valueOf G h (gI h 2 0 5)) ck_X6_valueOf lk_X5_221 rfl rfl kc_17 z17 rfl rfl rfl dX5_readHand_12 (fun r1 _ => ?_)
  refine E_cVI (As := [.long r1]) (rest := []) (sB_handNamed G h ((gB h 2).toNat) (tB3 _) r1) ck_X0_handNamed lk_X5_233 rfl rfl kc_3 (tB3 _) rfl rfl rfl dX5_readHand_15 (fun r2 _ => ?_)
  refine E_istore_n (ls' := [(1, .int r2), (0, .ref (G.ad 2 0))]) dX5_readHand_18 rfl (Nat.le_of_ble_eq_true rfl) rfl ?_
  refine E_aload_n dX5_readHand_19 rfl 1 rfl ?_
  refine E_getF fl_X5_32 dX5_readHand_20 z2 ?_
  refine E_aload_n dX5_readHand_23 rfl 1 rfl ?_
  refine E_getI fl_X5_53 dX5_readHand_24 z2 ?_
  refine E_cVI (As := [.int (gI h 2 0 5)]) (rest := []) (sT_isName G h (gI h 2 0 5)) ck_X6_isName lk_X5_225 rfl rfl kc_17 z17 rfl rfl rfl dX5_readHand_27 (fun r3 _ => ?_)
  refine E_if_ne (t := 38) dX5_readHand_30 rfl ?_ ?_
  · exact E_sub [1, 0] rfl (sR_readHand_38 G r2 h)
  · refine E_aload_n dX5_readHand_33 rfl 1 rfl ?_
    refine E_iconst (v := 1) dX5_readHand_34 rfl ?_
    refine E_cVV (As := [.int 1]) (rest := []) (sR_fail G h 1) ck_X5_fail lk_X5_90 rfl rfl kc_2 z2 rfl rfl rfl dX5_readHand_35 (fun h4 _ => ?_)
    exact E_sub [1, 0] rfl (sR_readHand_38 G r2 h4)
def iW_latestYear : MI := (yX7_latestYear, cX7_latestYear, 1, (some .int), { frames := 2, cells := 0, slots := 0, locals := 41 }, 0)
theorem ck_X7_latestYear : CK iW_latestYear 0 := ⟨⟨wd_108, wd_569, by decide +kernel⟩, ⟨wd_567, wd_568⟩⟩
def jW_latestYear (h : AH) (w : Nat) : Option (Int32) :=
  (jW_yearOf h w ((gI h 13 w 0) - 1)).bind fun r1 =>
  some r1
set_option maxRecDepth 20000 in
set_option maxHeartbeats 2000000 in
theorem sW_latestYear (G : JG) (h : AH) (w : Nat) (hw : w < nIn 0 13) : Mt G iW_latestYear (rvI h) [.ref (G.ad 13 w)] h (jW_latestYear h w) := by
  refine Mt_of (by decide) (Nat.le_of_ble_eq_true rfl) ?_
  unfold jW_latestYear
  show Sim G iW_latestYear (rvI h) 0 [(0, .ref (G.ad 13 w))] [] h _
  refine E_aload_n dX7_latestYear_0 rfl 0 rfl ?_
  refine E_aload_n dX7_latestYear_1 rfl 0 rfl ?_
  refine E_getI fl_X7_21 dX7_latestYear_2 hw ?_
  refine E_iconst (v := 1) dX7_latestYear_5 rfl ?_
  refine E_isub dX7_latestYear_6 ?_
  refine E_cVI (As := [.int ((gI h 13 w 0) - 1)]) (rest := []) (sW_yearOf G h w hw ((gI h 13 w 0) - 1)) ck_X7_yearOf lk_X7_39 rfl rfl kc_13 hw rfl rfl rfl dX7_latestYear_7 (fun r1 _ => ?_)
  exact E_iret rfl rfl dX7_latestYear_10
def iW_start : MI := (yX7_start, cX7_start, 4, none, { frames := 0, cells := 0, slots := 0, locals := 0 }, 0)
theorem ck_X7_start : CK iW_start 2 := ⟨⟨wd_108, wd_580, by decide +kernel⟩, ⟨wd_578, wd_579⟩⟩
def jW_start_38 (w : Nat) : Nat → Int32 → AH → Option (AH)
  | 0, _, _ => none
  | n + 1, v3, h =>
    if v3 < 24 then (if inb (((gI h 13 w 0) * 24) + v3) 288 = true then (
    jb (uI h 16 w (((gI h 13 w 0) * 24) + v3).toNatClampNeg (-2)) fun h1 =>
    (jW_start_38 w n (v3 + 1) h1)) else none)
    else (some h)
set_option maxRecDepth 20000 in
set_option maxHeartbeats 2000000 in
theorem sW_start_38 (G : JG) (w : Nat) (hw : w < nIn 0 13)  : ∀ (n : Nat) (v3 : Int32) (h : AH), Sim G iW_start rvV 38 [(0, .ref (G.ad 13 w)), (3, .int v3)] [] h (jW_start_38 w n v3 h) := by
  intro n
  induction n with
  | zero => intro v3 h; exact E_none
  | succ n ih =>
    intro v3 h
    rw [jW_start_38]
    refine E_iload_n dX7_start_38 rfl 1 rfl ?_
    refine E_bipush (v := 24) dX7_start_39 rfl ?_
    refine E_icmp_ge (t := 66) dX7_start_41 rfl ?_ ?_
    · exact E_vret rfl rfl dX7_start_66
    · refine E_aload_n dX7_start_44 rfl 0 rfl ?_
      refine E_getS fl_X7_18 dX7_start_45 hw ?_
      refine E_aload_n dX7_start_48 rfl 0 rfl ?_
      refine E_getI fl_X7_21 dX7_start_49 hw ?_
      refine E_bipush (v := 24) dX7_start_52 rfl ?_
      refine E_imul dX7_start_54 ?_
      refine E_iload_n dX7_start_55 rfl 1 rfl ?_
      refine E_iadd dX7_start_56 ?_
      refine E_bipush (v := (-2)) dX7_start_57 rfl ?_
      refine E_iast (n := 288) rfl dX7_start_59 hw (fun _ => ?_)
      refine E_hgen (fun h1 => ?_)
      refine E_iinc (q := 1) (v := (v3 + 1)) (ls' := [(3, .int (v3 + 1)), (0, .ref (G.ad 13 w))]) dX7_start_60 rfl rfl (Nat.le_of_ble_eq_true rfl) rfl ?_
      refine E_goto (t := 38) dX7_start_63 rfl ?_
      exact E_sub [1, 0] rfl (ih (v3 + 1) h1)
def jW_start (h : AH) (w : Nat) (v1 : Int32) (v2 : Int32) : Option (AH) :=
  if (gI h 13 w 0) < 0 then (some h)
  else (if (gI h 13 w 0) < 12 then (if inb (gI h 13 w 0) 12 = true then (
  jb (uI h 14 w (gI h 13 w 0).toNatClampNeg v1) fun h1 =>
  if inb (gI h1 13 w 0) 12 = true then (
  jb (uI h1 15 w (gI h1 13 w 0).toNatClampNeg v2) fun h2 =>
  (jW_start_38 w FU 0 h2)) else none) else none)
  else (some h))
set_option maxRecDepth 20000 in
set_option maxHeartbeats 2000000 in
theorem sW_start (G : JG) (h : AH) (w : Nat) (hw : w < nIn 0 13) (v1 : Int32) (v2 : Int32) : Mt G iW_start rvV [.ref (G.ad 13 w), .int v1, .int v2] h (jW_start h w v1 v2) := by
  refine Mt_of (by decide) (Nat.le_of_ble_eq_true rfl) ?_
  unfold jW_start
  show Sim G iW_start rvV 0 [(0, .ref (G.ad 13 w)), (1, .int v1), (2, .int v2)] [] h _
  refine E_aload_n dX7_start_0 rfl 0 rfl ?_
  refine E_getI fl_X7_21 dX7_start_1 hw ?_
  refine E_if_lt (t := 66) dX7_start_4 rfl ?_ ?_
  · exact E_vret rfl rfl dX7_start_66
  · refine E_aload_n dX7_start_7 rfl 0 rfl ?_
    refine E_getI fl_X7_21 dX7_start_8 hw ?_
    refine E_bipush (v := 12) dX7_start_11 rfl ?_
    refine E_icmp_ge (t := 66) dX7_start_13 rfl ?_ ?_
    · exact E_vret rfl rfl dX7_start_66
    · refine E_aload_n dX7_start_16 rfl 0 rfl ?_
      refine E_getS fl_X7_9 dX7_start_17 hw ?_
      refine E_aload_n dX7_start_20 rfl 0 rfl ?_
      refine E_getI fl_X7_21 dX7_start_21 hw ?_
      refine E_iload_n dX7_start_24 rfl 1 rfl ?_
      refine E_iast (n := 12) rfl dX7_start_25 hw (fun _ => ?_)
      refine E_hgen (fun h1 => ?_)
      refine E_aload_n dX7_start_26 rfl 0 rfl ?_
      refine E_getS fl_X7_15 dX7_start_27 hw ?_
      refine E_aload_n dX7_start_30 rfl 0 rfl ?_
      refine E_getI fl_X7_21 dX7_start_31 hw ?_
      refine E_iload_n dX7_start_34 rfl 2 rfl ?_
      refine E_iast (n := 12) rfl dX7_start_35 hw (fun _ => ?_)
      refine E_hgen (fun h2 => ?_)
      refine E_iconst (v := 0) dX7_start_36 rfl ?_
      refine E_istore_n (ls' := [(3, .int 0), (0, .ref (G.ad 13 w)), (1, .int v1), (2, .int v2)]) dX7_start_37 rfl (Nat.le_of_ble_eq_true rfl) rfl ?_
      exact E_sub [1, 0] rfl (sW_start_38 G w hw FU 0 h2)
def iR_readColour : MI := (yX5_readColour, cX5_readColour, 3, (some .int), { frames := 2, cells := 0, slots := 0, locals := 45 }, 0)
theorem ck_X5_readColour : CK iR_readColour 1 := ⟨⟨wd_106, wd_588, by decide +kernel⟩, ⟨wd_587, wd_13⟩⟩
def jR_readColour_48 (v1 : Int32) (v2 : Int32) (h : AH) : Option (Int32 × AH) :=
  if v1 = 0 then (jb (uI h 2 0 5 ((gI h 2 0 5) + 1)) fun h1 =>
  some (v2, h1))
  else ((jR_fail h 5).bind fun h2 =>
  jb (uI h2 2 0 5 ((gI h2 2 0 5) + 1)) fun h3 =>
  some (v2, h3))
set_option maxRecDepth 20000 in
set_option maxHeartbeats 2000000 in
theorem sR_readColour_48 (G : JG) (v1 : Int32)  (v2 : Int32) (h : AH) : Sim G iR_readColour rvIM 48 [(0, .ref (G.ad 2 0)), (1, .int v1), (2, .int v2)] [] h (jR_readColour_48 v1 v2 h) := by
  unfold jR_readColour_48
  refine E_iload_n dX5_readColour_48 rfl 1 rfl ?_
  refine E_if_eq (t := 57) dX5_readColour_49 rfl ?_ ?_
  · refine E_aload_n dX5_readColour_57 rfl 0 rfl ?_
    refine E_dup dX5_readColour_58 rfl ?_
    refine E_getI fl_X5_53 dX5_readColour_59 z2 ?_
    refine E_iconst (v := 1) dX5_readColour_62 rfl ?_
    refine E_iadd dX5_readColour_63 ?_
    refine E_putI fs_X5_53 dX5_readColour_64 z2 ?_
    refine E_hgen (fun h1 => ?_)
    refine E_iload_n dX5_readColour_67 rfl 2 rfl ?_
    exact E_iret rfl rfl dX5_readColour_68
  · refine E_aload_n dX5_readColour_52 rfl 0 rfl ?_
    refine E_iconst (v := 5) dX5_readColour_53 rfl ?_
    refine E_cVV (As := [.int 5]) (rest := []) (sR_fail G h 5) ck_X5_fail lk_X5_90 rfl rfl kc_2 z2 rfl rfl rfl dX5_readColour_54 (fun h2 _ => ?_)
    refine E_aload_n dX5_readColour_57 rfl 0 rfl ?_
    refine E_dup dX5_readColour_58 rfl ?_
    refine E_getI fl_X5_53 dX5_readColour_59 z2 ?_
    refine E_iconst (v := 1) dX5_readColour_62 rfl ?_
    refine E_iadd dX5_readColour_63 ?_
    refine E_putI fs_X5_53 dX5_readColour_64 z2 ?_
    refine E_hgen (fun h3 => ?_)
    refine E_iload_n dX5_readColour_67 rfl 2 rfl ?_
    exact E_iret rfl rfl dX5_readColour_68
def jR_readColour_38 (v1 : Int32) (v2 : Int32) (h : AH) : Option (Int32 × AH) :=
  if v2 = (-1) then ((jR_fail h 2).bind fun h1 =>
  (jR_readColour_48 v1 v2 h1))
  else ((jR_readColour_48 v1 v2 h))
set_option maxRecDepth 20000 in
set_option maxHeartbeats 2000000 in
theorem sR_readColour_38 (G : JG) (v1 : Int32)  (v2 : Int32) (h : AH) : Sim G iR_readColour rvIM 38 [(0, .ref (G.ad 2 0)), (1, .int v1), (2, .int v2)] [] h (jR_readColour_38 v1 v2 h) := by
  unfold jR_readColour_38
  refine E_iload_n dX5_readColour_38 rfl 2 rfl ?_
  refine E_iconst (v := (-1)) dX5_readColour_39 rfl ?_
  refine E_icmp_ne (t := 48) dX5_readColour_40 rfl ?_ ?_
  · exact E_sub [0, 1, 2] rfl (sR_readColour_48 G v1 v2 h)
  · refine E_aload_n dX5_readColour_43 rfl 0 rfl ?_
    refine E_iconst (v := 2) dX5_readColour_44 rfl ?_
    refine E_cVV (As := [.int 2]) (rest := []) (sR_fail G h 2) ck_X5_fail lk_X5_90 rfl rfl kc_2 z2 rfl rfl rfl dX5_readColour_45 (fun h1 _ => ?_)
    exact E_sub [0, 1, 2] rfl (sR_readColour_48 G v1 v2 h1)
def jR_readColour (h : AH) (v1 : Int32) : Option (Int32 × AH) :=
  (jT_valueOf h (gI h 2 0 5)).bind fun r1 =>
  (jB_colourNamed h ((gB h 2).toNat) r1).bind fun r2 =>
  (jT_isName h (gI h 2 0 5)).bind fun r3 =>
  if r3 = 0 then ((jR_fail h 1).bind fun h4 =>
  (jR_readColour_38 v1 r2 h4))
  else ((jR_readColour_38 v1 r2 h))
set_option maxRecDepth 20000 in
set_option maxHeartbeats 2000000 in
theorem sR_readColour (G : JG) (h : AH) (v1 : Int32) : Mt G iR_readColour rvIM [.ref (G.ad 2 0), .int v1] h (jR_readColour h v1) := by
  refine Mt_of (by decide) (Nat.le_of_ble_eq_true rfl) ?_
  unfold jR_readColour
  show Sim G iR_readColour rvIM 0 [(0, .ref (G.ad 2 0)), (1, .int v1)] [] h _
  refine E_aload_n dX5_readColour_0 rfl 0 rfl ?_
  refine E_getD fl_X5_18 dX5_readColour_1 z2 ?_
  refine E_aload_n dX5_readColour_4 rfl 0 rfl ?_
  refine E_getF fl_X5_32 dX5_readColour_5 z2 ?_
  refine E_aload_n dX5_readColour_8 rfl 0 rfl ?_
  refine E_getI fl_X5_53 dX5_readColour_9 z2 ?_
  refine E_cVL (As := [.int (gI h 2 0 5)]) (rest := [.ref (G.ad 3 ((gB h 2).toNat))]) (sT_valueOf G h (gI h 2 0 5)) ck_X6_valueOf lk_X5_221 rfl rfl kc_17 z17 rfl rfl rfl dX5_readColour_12 (fun r1 _ => ?_)
  refine E_cVI (As := [.long r1]) (rest := []) (sB_colourNamed G h ((gB h 2).toNat) (tB3 _) r1) ck_X0_colourNamed lk_X5_229 rfl rfl kc_3 (tB3 _) rfl rfl rfl dX5_readColour_15 (fun r2 _ => ?_)
  refine E_istore_n (ls' := [(2, .int r2), (0, .ref (G.ad 2 0)), (1, .int v1)]) dX5_readColour_18 rfl (Nat.le_of_ble_eq_true rfl) rfl ?_
  refine E_aload_n dX5_readColour_19 rfl 1 rfl ?_
  refine E_getF fl_X5_32 dX5_readColour_20 z2 ?_
  refine E_aload_n dX5_readColour_23 rfl 1 rfl ?_
  refine E_getI fl_X5_53 dX5_readColour_24 z2 ?_
  refine E_cVI (As := [.int (gI h 2 0 5)]) (rest := []) (sT_isName G h (gI h 2 0 5)) ck_X6_isName lk_X5_225 rfl rfl kc_17 z17 rfl rfl rfl dX5_readColour_27 (fun r3 _ => ?_)
  refine E_if_ne (t := 38) dX5_readColour_30 rfl ?_ ?_
  · exact E_sub [1, 2, 0] rfl (sR_readColour_38 G v1 r2 h)
  · refine E_aload_n dX5_readColour_33 rfl 1 rfl ?_
    refine E_iconst (v := 1) dX5_readColour_34 rfl ?_
    refine E_cVV (As := [.int 1]) (rest := []) (sR_fail G h 1) ck_X5_fail lk_X5_90 rfl rfl kc_2 z2 rfl rfl rfl dX5_readColour_35 (fun h4 _ => ?_)
    exact E_sub [1, 2, 0] rfl (sR_readColour_38 G v1 r2 h4)
def iW_lay : MI := (yX7_lay, cX7_lay, 5, none, { frames := 1, cells := 0, slots := 0, locals := 20 }, 0)
theorem ck_X7_lay : CK iW_lay 3 := ⟨⟨wd_108, wd_613, by decide +kernel⟩, ⟨wd_611, wd_612⟩⟩
def jW_lay_3 (w : Nat) (v1 : Int32) (v2 : Int32) (v3 : Int32) : Nat → Int32 → AH → Option (AH)
  | 0, _, _ => none
  | n + 1, v4, h =>
    if v4 < 24 then ((jW_isRow v1).bind fun r1 =>
    if r1 = 0 then (some h)
    else (if ((v3 >>> (v4 &&& 31)) &&& 1) = 0 then ((jW_lay_3 w v1 v2 v3 n (v4 + 1) h))
    else (if inb ((v1 * 24) + v4) 288 = true then (
    jb (uI h 16 w ((v1 * 24) + v4).toNatClampNeg v2) fun h2 =>
    (jW_lay_3 w v1 v2 v3 n (v4 + 1) h2)) else none)))
    else (some h)
set_option maxRecDepth 20000 in
set_option maxHeartbeats 2000000 in
theorem sW_lay_3 (G : JG) (w : Nat) (hw : w < nIn 0 13) (v1 : Int32) (v2 : Int32) (v3 : Int32)  : ∀ (n : Nat) (v4 : Int32) (h : AH), Sim G iW_lay rvV 3 [(0, .ref (G.ad 13 w)), (1, .int v1), (2, .int v2), (3, .int v3), (4, .int v4)] [] h (jW_lay_3 w v1 v2 v3 n v4 h) := by
  intro n
  induction n with
  | zero => intro v4 h; exact E_none
  | succ n ih =>
    intro v4 h
    rw [jW_lay_3]
    refine E_iload dX7_lay_3 4 rfl ?_
    refine E_bipush (v := 24) dX7_lay_5 rfl ?_
    refine E_icmp_ge (t := 45) dX7_lay_7 rfl ?_ ?_
    · exact E_vret rfl rfl dX7_lay_45
    · refine E_iload_n dX7_lay_10 rfl 1 rfl ?_
      refine E_cSI (As := [.int v1]) (rest := []) (sW_isRow G h v1) ck_X7_isRow lk_X7_35 rfl rfl rfl rfl rfl dX7_lay_11 (fun r1 _ => ?_)
      refine E_if_eq (t := 45) dX7_lay_14 rfl ?_ ?_
      · exact E_vret rfl rfl dX7_lay_45
      · refine E_iload_n dX7_lay_17 rfl 3 rfl ?_
        refine E_iload dX7_lay_18 4 rfl ?_
        refine E_ishr dX7_lay_20 ?_
        refine E_iconst (v := 1) dX7_lay_21 rfl ?_
        refine E_iand dX7_lay_22 ?_
        refine E_if_eq (t := 39) dX7_lay_23 rfl ?_ ?_
        · refine E_iinc (q := 4) (v := (v4 + 1)) (ls' := [(4, .int (v4 + 1)), (0, .ref (G.ad 13 w)), (1, .int v1), (2, .int v2), (3, .int v3)]) dX7_lay_39 rfl rfl (Nat.le_of_ble_eq_true rfl) rfl ?_
          refine E_goto (t := 3) dX7_lay_42 rfl ?_
          exact E_sub [1, 2, 3, 4, 0] rfl (ih (v4 + 1) h)
        · refine E_aload_n dX7_lay_26 rfl 0 rfl ?_
          refine E_getS fl_X7_18 dX7_lay_27 hw ?_
          refine E_iload_n dX7_lay_30 rfl 1 rfl ?_
          refine E_bipush (v := 24) dX7_lay_31 rfl ?_
          refine E_imul dX7_lay_33 ?_
          refine E_iload dX7_lay_34 4 rfl ?_
          refine E_iadd dX7_lay_36 ?_
          refine E_iload_n dX7_lay_37 rfl 2 rfl ?_
          refine E_iast (n := 288) rfl dX7_lay_38 hw (fun _ => ?_)
          refine E_hgen (fun h2 => ?_)
          refine E_iinc (q := 4) (v := (v4 + 1)) (ls' := [(4, .int (v4 + 1)), (0, .ref (G.ad 13 w)), (1, .int v1), (2, .int v2), (3, .int v3)]) dX7_lay_39 rfl rfl (Nat.le_of_ble_eq_true rfl) rfl ?_
          refine E_goto (t := 3) dX7_lay_42 rfl ?_
          exact E_sub [1, 2, 3, 4, 0] rfl (ih (v4 + 1) h2)
def jW_lay (h : AH) (w : Nat) (v1 : Int32) (v2 : Int32) (v3 : Int32) : Option (AH) :=
  (jW_lay_3 w v1 v2 v3 FU 0 h)
set_option maxRecDepth 20000 in
set_option maxHeartbeats 2000000 in
theorem sW_lay (G : JG) (h : AH) (w : Nat) (hw : w < nIn 0 13) (v1 : Int32) (v2 : Int32) (v3 : Int32) : Mt G iW_lay rvV [.ref (G.ad 13 w), .int v1, .int v2, .int v3] h (jW_lay h w v1 v2 v3) := by
  refine Mt_of (by decide) (Nat.le_of_ble_eq_true rfl) ?_
  unfold jW_lay
  show Sim G iW_lay rvV 0 [(0, .ref (G.ad 13 w)), (1, .int v1), (2, .int v2), (3, .int v3)] [] h _
  refine E_iconst (v := 0) dX7_lay_0 rfl ?_
  refine E_istore (ls' := [(4, .int 0), (0, .ref (G.ad 13 w)), (1, .int v1), (2, .int v2), (3, .int v3)]) dX7_lay_1 (Nat.le_of_ble_eq_true rfl) rfl ?_
  exact E_sub [1, 2, 3, 4, 0] rfl (sW_lay_3 G w hw v1 v2 v3 FU 0 h)
def iR_readPatches : MI := (yX5_readPatches, cX5_readPatches, 6, none, { frames := 3, cells := 0, slots := 0, locals := 73 }, 0)
theorem ck_X5_readPatches : CK iR_readPatches 1 := ⟨⟨wd_106, wd_584, by decide +kernel⟩, ⟨wd_583, wd_12⟩⟩
def jR_readPatches_107 (v1 : Int32) (k_4 : Int32 → Int32 → AH → Option AH) (v3 : Int32) (s0 : Int32) (h : AH) : Option (AH) :=
  if s0 = 0 then ((k_4 s0 (v3 + 1) h))
  else (jb (uI h 2 0 5 ((gI h 2 0 5) + 1)) fun h1 =>
  (k_4 s0 (v3 + 1) h1))
set_option maxRecDepth 20000 in
set_option maxHeartbeats 2000000 in
theorem sR_readPatches_107 (G : JG) (v1 : Int32) (k_4 : Int32 → Int32 → AH → Option AH) (hk_4 : ∀ (v2 : Int32) (v3 : Int32) (h : AH), Sim G iR_readPatches rvV 4 [(0, .ref (G.ad 2 0)), (1, .int v1), (2, .int v2), (3, .int v3)] [] h (k_4 v2 v3 h)) (v3 : Int32) (s0 : Int32) (h : AH) : Sim G iR_readPatches rvV 107 [(0, .ref (G.ad 2 0)), (1, .int v1), (3, .int v3)] [.int s0] h (jR_readPatches_107 v1 k_4 v3 s0 h) := by
  unfold jR_readPatches_107
  refine E_istore_n (ls' := [(2, .int s0), (0, .ref (G.ad 2 0)), (1, .int v1), (3, .int v3)]) dX5_readPatches_107 rfl (Nat.le_of_ble_eq_true rfl) rfl ?_
  refine E_iload_n dX5_readPatches_108 rfl 0 rfl ?_
  refine E_if_eq (t := 122) dX5_readPatches_109 rfl ?_ ?_
  · refine E_iinc (q := 3) (v := (v3 + 1)) (ls' := [(3, .int (v3 + 1)), (2, .int s0), (0, .ref (G.ad 2 0)), (1, .int v1)]) dX5_readPatches_122 rfl rfl (Nat.le_of_ble_eq_true rfl) rfl ?_
    refine E_goto (t := 4) dX5_readPatches_125 rfl ?_
    exact E_sub [2, 3, 1, 0] rfl (hk_4 s0 (v3 + 1) h)
  · refine E_aload_n dX5_readPatches_112 rfl 1 rfl ?_
    refine E_dup dX5_readPatches_113 rfl ?_
    refine E_getI fl_X5_53 dX5_readPatches_114 z2 ?_
    refine E_iconst (v := 1) dX5_readPatches_117 rfl ?_
    refine E_iadd dX5_readPatches_118 ?_
    refine E_putI fs_X5_53 dX5_readPatches_119 z2 ?_
    refine E_hgen (fun h1 => ?_)
    refine E_iinc (q := 3) (v := (v3 + 1)) (ls' := [(3, .int (v3 + 1)), (2, .int s0), (0, .ref (G.ad 2 0)), (1, .int v1)]) dX5_readPatches_122 rfl rfl (Nat.le_of_ble_eq_true rfl) rfl ?_
    refine E_goto (t := 4) dX5_readPatches_125 rfl ?_
    exact E_sub [2, 3, 1, 0] rfl (hk_4 s0 (v3 + 1) h1)
def jR_readPatches_106 (v1 : Int32) (k_4 : Int32 → Int32 → AH → Option AH) (v3 : Int32) (h : AH) : Option (AH) :=
  (jR_readPatches_107 v1 k_4 v3 0 h)
set_option maxRecDepth 20000 in
set_option maxHeartbeats 2000000 in
theorem sR_readPatches_106 (G : JG) (v1 : Int32) (k_4 : Int32 → Int32 → AH → Option AH) (hk_4 : ∀ (v2 : Int32) (v3 : Int32) (h : AH), Sim G iR_readPatches rvV 4 [(0, .ref (G.ad 2 0)), (1, .int v1), (2, .int v2), (3, .int v3)] [] h (k_4 v2 v3 h)) (v3 : Int32) (h : AH) : Sim G iR_readPatches rvV 106 [(0, .ref (G.ad 2 0)), (1, .int v1), (3, .int v3)] [] h (jR_readPatches_106 v1 k_4 v3 h) := by
  unfold jR_readPatches_106
  refine E_iconst (v := 0) dX5_readPatches_106 rfl ?_
  exact E_sub [0, 1, 2] rfl (sR_readPatches_107 G v1 k_4 hk_4 v3 0 h)
def jR_readPatches_80 (v1 : Int32) (k_4 : Int32 → Int32 → AH → Option AH) (v3 : Int32) (h : AH) : Option (AH) :=
  if (gI h 2 0 0) = 0 then ((jT_isKind h (gI h 2 0 5) 5).bind fun r1 =>
  if r1 = 0 then ((jR_readPatches_106 v1 k_4 v3 h))
  else ((jR_readPatches_107 v1 k_4 v3 1 h)))
  else ((jR_readPatches_106 v1 k_4 v3 h))
set_option maxRecDepth 20000 in
set_option maxHeartbeats 2000000 in
theorem sR_readPatches_80 (G : JG) (v1 : Int32) (k_4 : Int32 → Int32 → AH → Option AH) (hk_4 : ∀ (v2 : Int32) (v3 : Int32) (h : AH), Sim G iR_readPatches rvV 4 [(0, .ref (G.ad 2 0)), (1, .int v1), (2, .int v2), (3, .int v3)] [] h (k_4 v2 v3 h)) (v3 : Int32) (h : AH) : Sim G iR_readPatches rvV 80 [(0, .ref (G.ad 2 0)), (1, .int v1), (3, .int v3)] [] h (jR_readPatches_80 v1 k_4 v3 h) := by
  unfold jR_readPatches_80
  refine E_aload_n dX5_readPatches_80 rfl 0 rfl ?_
  refine E_getI fl_X5_50 dX5_readPatches_81 z2 ?_
  refine E_if_ne (t := 106) dX5_readPatches_84 rfl ?_ ?_
  · exact E_sub [0, 1, 2] rfl (sR_readPatches_106 G v1 k_4 hk_4 v3 h)
  · refine E_aload_n dX5_readPatches_87 rfl 0 rfl ?_
    refine E_getF fl_X5_32 dX5_readPatches_88 z2 ?_
    refine E_aload_n dX5_readPatches_91 rfl 0 rfl ?_
    refine E_getI fl_X5_53 dX5_readPatches_92 z2 ?_
    refine E_iconst (v := 5) dX5_readPatches_95 rfl ?_
    refine E_cVI (As := [.int (gI h 2 0 5), .int 5]) (rest := []) (sT_isKind G h (gI h 2 0 5) 5) ck_X6_isKind lk_X5_105 rfl rfl kc_17 z17 rfl rfl rfl dX5_readPatches_96 (fun r1 _ => ?_)
    refine E_if_eq (t := 106) dX5_readPatches_99 rfl ?_ ?_
    · exact E_sub [0, 1, 2] rfl (sR_readPatches_106 G v1 k_4 hk_4 v3 h)
    · refine E_iconst (v := 1) dX5_readPatches_102 rfl ?_
      refine E_goto (t := 107) dX5_readPatches_103 rfl ?_
      exact E_sub [0, 1, 2] rfl (sR_readPatches_107 G v1 k_4 hk_4 v3 1 h)
def jR_readPatches_61 (v1 : Int32) (k_4 : Int32 → Int32 → AH → Option AH) (v3 : Int32) (v4 : Int32) (v5 : Int32) (h : AH) : Option (AH) :=
  if (gI h 2 0 0) = 0 then ((jW_lay h ((gB h 3).toNat) v1 v4 v5).bind fun h1 =>
  (jR_readPatches_80 v1 k_4 v3 h1))
  else ((jR_readPatches_80 v1 k_4 v3 h))
set_option maxRecDepth 20000 in
set_option maxHeartbeats 2000000 in
theorem sR_readPatches_61 (G : JG) (v1 : Int32) (k_4 : Int32 → Int32 → AH → Option AH) (hk_4 : ∀ (v2 : Int32) (v3 : Int32) (h : AH), Sim G iR_readPatches rvV 4 [(0, .ref (G.ad 2 0)), (1, .int v1), (2, .int v2), (3, .int v3)] [] h (k_4 v2 v3 h)) (v3 : Int32) (v4 : Int32) (v5 : Int32) (h : AH) : Sim G iR_readPatches rvV 61 [(0, .ref (G.ad 2 0)), (1, .int v1), (3, .int v3), (4, .int v4), (5, .int v5)] [] h (jR_readPatches_61 v1 k_4 v3 v4 v5 h) := by
  unfold jR_readPatches_61
  refine E_aload_n dX5_readPatches_61 rfl 0 rfl ?_
  refine E_getI fl_X5_50 dX5_readPatches_62 z2 ?_
  refine E_if_ne (t := 80) dX5_readPatches_65 rfl ?_ ?_
  · exact E_sub [0, 1, 2] rfl (sR_readPatches_80 G v1 k_4 hk_4 v3 h)
  · refine E_aload_n dX5_readPatches_68 rfl 0 rfl ?_
    refine E_getD fl_X5_25 dX5_readPatches_69 z2 ?_
    refine E_iload_n dX5_readPatches_72 rfl 1 rfl ?_
    refine E_iload dX5_readPatches_73 3 rfl ?_
    refine E_iload dX5_readPatches_75 4 rfl ?_
    refine E_cVV (As := [.int v1, .int v4, .int v5]) (rest := []) (sW_lay G h ((gB h 3).toNat) (tB13 _) v1 v4 v5) ck_X7_lay lk_X5_209 rfl rfl kc_13 (tB13 _) rfl rfl rfl dX5_readPatches_77 (fun h1 _ => ?_)
    exact E_sub [0, 1, 2] rfl (sR_readPatches_80 G v1 k_4 hk_4 v3 h1)
def jR_readPatches_24 (v1 : Int32) (k_4 : Int32 → Int32 → AH → Option AH) (v3 : Int32) (s0 : Int32) (h : AH) : Option (AH) :=
  (jR_readColour h s0).bind fun q1 =>
  (jR_readCorners q1.2).bind fun q2 =>
  if (gI q2.2 2 0 0) = 0 then (if v1 = (-1) then ((jB_want q2.2 ((gB q2.2 2).toNat) q1.1 q2.1).bind fun h3 =>
  (jR_readPatches_80 v1 k_4 v3 h3))
  else ((jR_readPatches_61 v1 k_4 v3 q1.1 q2.1 q2.2)))
  else ((jR_readPatches_61 v1 k_4 v3 q1.1 q2.1 q2.2))
set_option maxRecDepth 20000 in
set_option maxHeartbeats 2000000 in
theorem sR_readPatches_24 (G : JG) (v1 : Int32) (k_4 : Int32 → Int32 → AH → Option AH) (hk_4 : ∀ (v2 : Int32) (v3 : Int32) (h : AH), Sim G iR_readPatches rvV 4 [(0, .ref (G.ad 2 0)), (1, .int v1), (2, .int v2), (3, .int v3)] [] h (k_4 v2 v3 h)) (v3 : Int32) (s0 : Int32) (h : AH) : Sim G iR_readPatches rvV 24 [(0, .ref (G.ad 2 0)), (1, .int v1), (3, .int v3)] [.int s0, .ref (G.ad 2 0)] h (jR_readPatches_24 v1 k_4 v3 s0 h) := by
  unfold jR_readPatches_24
  refine E_cVIM (As := [.int s0]) (rest := []) (sR_readColour G h s0) ck_X5_readColour lk_X5_202 rfl rfl kc_2 z2 rfl rfl rfl dX5_readPatches_24 (fun q1 _ => ?_)
  refine E_istore (ls' := [(4, .int q1.1), (0, .ref (G.ad 2 0)), (1, .int v1), (3, .int v3)]) dX5_readPatches_27 (Nat.le_of_ble_eq_true rfl) rfl ?_
  refine E_aload_n dX5_readPatches_29 rfl 1 rfl ?_
  refine E_cVIM (As := []) (rest := []) (sR_readCorners G q1.2) ck_X5_readCorners lk_X5_187 rfl rfl kc_2 z2 rfl rfl rfl dX5_readPatches_30 (fun q2 _ => ?_)
  refine E_istore (ls' := [(5, .int q2.1), (4, .int q1.1), (0, .ref (G.ad 2 0)), (1, .int v1), (3, .int v3)]) dX5_readPatches_33 (Nat.le_of_ble_eq_true rfl) rfl ?_
  refine E_aload_n dX5_readPatches_35 rfl 2 rfl ?_
  refine E_getI fl_X5_50 dX5_readPatches_36 z2 ?_
  refine E_if_ne (t := 61) dX5_readPatches_39 rfl ?_ ?_
  · exact E_sub [2, 3, 4, 1, 0] rfl (sR_readPatches_61 G v1 k_4 hk_4 v3 q1.1 q2.1 q2.2)
  · refine E_iload_n dX5_readPatches_42 rfl 3 rfl ?_
    refine E_iconst (v := (-1)) dX5_readPatches_43 rfl ?_
    refine E_icmp_ne (t := 61) dX5_readPatches_44 rfl ?_ ?_
    · exact E_sub [2, 3, 4, 1, 0] rfl (sR_readPatches_61 G v1 k_4 hk_4 v3 q1.1 q2.1 q2.2)
    · refine E_aload_n dX5_readPatches_47 rfl 2 rfl ?_
      refine E_getD fl_X5_18 dX5_readPatches_48 z2 ?_
      refine E_iload dX5_readPatches_51 1 rfl ?_
      refine E_iload dX5_readPatches_53 0 rfl ?_
      refine E_cVV (As := [.int q1.1, .int q2.1]) (rest := []) (sB_want G q2.2 ((gB q2.2 2).toNat) (tB3 _) q1.1 q2.1) ck_X0_want lk_X5_206 rfl rfl kc_3 (tB3 _) rfl rfl rfl dX5_readPatches_55 (fun h3 _ => ?_)
      refine E_goto (t := 80) dX5_readPatches_58 rfl ?_
      exact E_sub [2, 3, 4] rfl (sR_readPatches_80 G v1 k_4 hk_4 v3 h3)
def jR_readPatches_4 (v1 : Int32) : Nat → Int32 → Int32 → AH → Option (AH)
  | 0, _, _, _ => none
  | n + 1, v2, v3, h =>
    if v3 ≤ 4 then (if v2 = 0 then (some h)
    else (if v3 < 4 then ((jR_readPatches_24 v1 (jR_readPatches_4 v1 n) v3 0 h))
    else ((jR_readPatches_24 v1 (jR_readPatches_4 v1 n) v3 1 h))))
    else (some h)
set_option maxRecDepth 20000 in
set_option maxHeartbeats 2000000 in
theorem sR_readPatches_4 (G : JG) (v1 : Int32)  : ∀ (n : Nat) (v2 : Int32) (v3 : Int32) (h : AH), Sim G iR_readPatches rvV 4 [(0, .ref (G.ad 2 0)), (1, .int v1), (2, .int v2), (3, .int v3)] [] h (jR_readPatches_4 v1 n v2 v3 h) := by
  intro n
  induction n with
  | zero => intro v2 v3 h; exact E_none
  | succ n ih =>
    intro v2 v3 h
    rw [jR_readPatches_4]
    refine E_iload_n dX5_readPatches_4 rfl 3 rfl ?_
    refine E_iconst (v := 4) dX5_readPatches_5 rfl ?_
    refine E_icmp_gt (t := 128) dX5_readPatches_6 rfl ?_ ?_
    · exact E_vret rfl rfl dX5_readPatches_128
    · refine E_iload_n dX5_readPatches_9 rfl 2 rfl ?_
      refine E_if_eq (t := 128) dX5_readPatches_10 rfl ?_ ?_
      · exact E_vret rfl rfl dX5_readPatches_128
      · refine E_aload_n dX5_readPatches_13 rfl 0 rfl ?_
        refine E_iload_n dX5_readPatches_14 rfl 3 rfl ?_
        refine E_iconst (v := 4) dX5_readPatches_15 rfl ?_
        refine E_icmp_lt (t := 23) dX5_readPatches_16 rfl ?_ ?_
        · refine E_iconst (v := 0) dX5_readPatches_23 rfl ?_
          exact E_sub [0, 1, 3] rfl (sR_readPatches_24 G v1 (jR_readPatches_4 v1 n) ih v3 0 h)
        · refine E_iconst (v := 1) dX5_readPatches_19 rfl ?_
          refine E_goto (t := 24) dX5_readPatches_20 rfl ?_
          exact E_sub [0, 1, 3] rfl (sR_readPatches_24 G v1 (jR_readPatches_4 v1 n) ih v3 1 h)
def jR_readPatches (h : AH) (v1 : Int32) : Option (AH) :=
  (jR_readPatches_4 v1 FU 1 0 h)
set_option maxRecDepth 20000 in
set_option maxHeartbeats 2000000 in
theorem sR_readPatches (G : JG) (h : AH) (v1 : Int32) : Mt G iR_readPatches rvV [.ref (G.ad 2 0), .int v1] h (jR_readPatches h v1) := by
  refine Mt_of (by decide) (Nat.le_of_ble_eq_true rfl) ?_
  unfold jR_readPatches
  show Sim G iR_readPatches rvV 0 [(0, .ref (G.ad 2 0)), (1, .int v1)] [] h _
  refine E_iconst (v := 1) dX5_readPatches_0 rfl ?_
  refine E_istore_n (ls' := [(2, .int 1), (0, .ref (G.ad 2 0)), (1, .int v1)]) dX5_readPatches_1 rfl (Nat.le_of_ble_eq_true rfl) rfl ?_
  refine E_iconst (v := 0) dX5_readPatches_2 rfl ?_
  refine E_istore_n (ls' := [(3, .int 0), (2, .int 1), (0, .ref (G.ad 2 0)), (1, .int v1)]) dX5_readPatches_3 rfl (Nat.le_of_ble_eq_true rfl) rfl ?_
  exact E_sub [2, 3, 1, 0] rfl (sR_readPatches_4 G v1 FU 1 0 h)
def iR_workLine : MI := (yX5_workLine, cX5_workLine, 2, none, { frames := 4, cells := 0, slots := 0, locals := 98 }, 0)
theorem ck_X5_workLine : CK iR_workLine 0 := ⟨⟨wd_106, wd_560, by decide +kernel⟩, ⟨wd_559, wd_10⟩⟩
def jR_workLine_33  (h : AH) : Option (AH) :=
  jb (uI h 2 0 5 ((gI h 2 0 5) + 1)) fun h1 =>
  (jR_readHand h1).bind fun q2 =>
  (jR_readWord q2.2 2036687218).bind fun h3 =>
  (jW_latestYear h3 ((gB h3 3).toNat)).bind fun r4 =>
  (jR_readWhole h3 r4 999).bind fun q5 =>
  (jW_start q5.2 ((gB h3 3).toNat) q2.1 q5.1).bind fun h6 =>
  (jR_readPatches h6 (gI h6 13 ((gB h6 3).toNat) 0)).bind fun h7 =>
  if (gI h7 2 0 0) = 0 then (jb (uI h7 13 ((gB h7 3).toNat) 0 ((gI h7 13 ((gB h7 3).toNat) 0) + 1)) fun h8 =>
  some h8)
  else (some h7)
set_option maxRecDepth 20000 in
set_option maxHeartbeats 2000000 in
theorem sR_workLine_33 (G : JG)   (h : AH) : Sim G iR_workLine rvV 33 [(0, .ref (G.ad 2 0))] [] h (jR_workLine_33 h) := by
  unfold jR_workLine_33
  refine E_aload_n dX5_workLine_33 rfl 0 rfl ?_
  refine E_dup dX5_workLine_34 rfl ?_
  refine E_getI fl_X5_53 dX5_workLine_35 z2 ?_
  refine E_iconst (v := 1) dX5_workLine_38 rfl ?_
  refine E_iadd dX5_workLine_39 ?_
  refine E_putI fs_X5_53 dX5_workLine_40 z2 ?_
  refine E_hgen (fun h1 => ?_)
  refine E_aload_n dX5_workLine_43 rfl 0 rfl ?_
  refine E_cVIM (As := []) (rest := []) (sR_readHand G h1) ck_X5_readHand lk_X5_169 rfl rfl kc_2 z2 rfl rfl rfl dX5_workLine_44 (fun q2 _ => ?_)
  refine E_istore_n (ls' := [(1, .int q2.1), (0, .ref (G.ad 2 0))]) dX5_workLine_47 rfl (Nat.le_of_ble_eq_true rfl) rfl ?_
  refine E_aload_n dX5_workLine_48 rfl 1 rfl ?_
  refine E_ldc2 dX5_workLine_49 cn_X5_172 ?_
  refine E_cVV (As := [.long 2036687218]) (rest := []) (sR_readWord G q2.2 2036687218) ck_X5_readWord lk_X5_114 rfl rfl kc_2 z2 rfl rfl rfl dX5_workLine_52 (fun h3 _ => ?_)
  refine E_aload_n dX5_workLine_55 rfl 1 rfl ?_
  refine E_getD fl_X5_25 dX5_workLine_56 z2 ?_
  refine E_iload_n dX5_workLine_59 rfl 0 rfl ?_
  refine E_aload_n dX5_workLine_60 rfl 1 rfl ?_
  refine E_aload_n dX5_workLine_61 rfl 1 rfl ?_
  refine E_getD fl_X5_25 dX5_workLine_62 z2 ?_
  refine E_cVI (As := []) (rest := [.ref (G.ad 2 0), .int q2.1, .ref (G.ad 13 ((gB h3 3).toNat))]) (sW_latestYear G h3 ((gB h3 3).toNat) (tB13 _)) ck_X7_latestYear lk_X5_174 rfl rfl kc_13 (tB13 _) rfl rfl rfl dX5_workLine_65 (fun r4 _ => ?_)
  refine E_sipush (v := 999) dX5_workLine_68 rfl ?_
  refine E_cVIM (As := [.int r4, .int 999]) (rest := [.int q2.1, .ref (G.ad 13 ((gB h3 3).toNat))]) (sR_readWhole G h3 r4 999) ck_X5_readWhole lk_X5_118 rfl rfl kc_2 z2 rfl rfl rfl dX5_workLine_71 (fun q5 _ => ?_)
  refine E_cVV (As := [.int q2.1, .int q5.1]) (rest := []) (sW_start G q5.2 ((gB h3 3).toNat) (tB13 _) q2.1 q5.1) ck_X7_start lk_X5_177 rfl rfl kc_13 (tB13 _) rfl rfl rfl dX5_workLine_74 (fun h6 _ => ?_)
  refine E_aload_n dX5_workLine_77 rfl 1 rfl ?_
  refine E_aload_n dX5_workLine_78 rfl 1 rfl ?_
  refine E_getD fl_X5_25 dX5_workLine_79 z2 ?_
  refine E_getI fl_X5_166 dX5_workLine_82 (tB13 _) ?_
  refine E_cVV (As := [.int (gI h6 13 ((gB h6 3).toNat) 0)]) (rest := []) (sR_readPatches G h6 (gI h6 13 ((gB h6 3).toNat) 0)) ck_X5_readPatches lk_X5_181 rfl rfl kc_2 z2 rfl rfl rfl dX5_workLine_85 (fun h7 _ => ?_)
  refine E_aload_n dX5_workLine_88 rfl 1 rfl ?_
  refine E_getI fl_X5_50 dX5_workLine_89 z2 ?_
  refine E_if_ne (t := 108) dX5_workLine_92 rfl ?_ ?_
  · exact E_vret rfl rfl dX5_workLine_108
  · refine E_aload_n dX5_workLine_95 rfl 1 rfl ?_
    refine E_getD fl_X5_25 dX5_workLine_96 z2 ?_
    refine E_dup dX5_workLine_99 rfl ?_
    refine E_getI fl_X5_166 dX5_workLine_100 (tB13 _) ?_
    refine E_iconst (v := 1) dX5_workLine_103 rfl ?_
    refine E_iadd dX5_workLine_104 ?_
    refine E_putI fs_X5_166 dX5_workLine_105 (tB13 _) ?_
    refine E_hgen (fun h8 => ?_)
    exact E_vret rfl rfl dX5_workLine_108
def jR_workLine_17  (h : AH) : Option (AH) :=
  (jB_isTold h ((gB h 2).toNat)).bind fun r1 =>
  if r1 = 0 then ((jR_fail h 6).bind fun h2 =>
  (jR_workLine_33 h2))
  else ((jR_workLine_33 h))
set_option maxRecDepth 20000 in
set_option maxHeartbeats 2000000 in
theorem sR_workLine_17 (G : JG)   (h : AH) : Sim G iR_workLine rvV 17 [(0, .ref (G.ad 2 0))] [] h (jR_workLine_17 h) := by
  unfold jR_workLine_17
  refine E_aload_n dX5_workLine_17 rfl 0 rfl ?_
  refine E_getD fl_X5_18 dX5_workLine_18 z2 ?_
  refine E_cVI (As := []) (rest := []) (sB_isTold G h ((gB h 2).toNat) (tB3 _)) ck_X0_isTold lk_X5_109 rfl rfl kc_3 (tB3 _) rfl rfl rfl dX5_workLine_21 (fun r1 _ => ?_)
  refine E_if_ne (t := 33) dX5_workLine_24 rfl ?_ ?_
  · exact E_sub [0] rfl (sR_workLine_33 G h)
  · refine E_aload_n dX5_workLine_27 rfl 0 rfl ?_
    refine E_bipush (v := 6) dX5_workLine_28 rfl ?_
    refine E_cVV (As := [.int 6]) (rest := []) (sR_fail G h 6) ck_X5_fail lk_X5_90 rfl rfl kc_2 z2 rfl rfl rfl dX5_workLine_30 (fun h2 _ => ?_)
    exact E_sub [0] rfl (sR_workLine_33 G h2)
def jR_workLine (h : AH)  : Option (AH) :=
  if (gI h 13 ((gB h 3).toNat) 0) < 9 then ((jR_workLine_17 h))
  else ((jR_fail h 5).bind fun h1 =>
  (jR_workLine_17 h1))
set_option maxRecDepth 20000 in
set_option maxHeartbeats 2000000 in
theorem sR_workLine (G : JG) (h : AH)  : Mt G iR_workLine rvV [.ref (G.ad 2 0)] h (jR_workLine h) := by
  refine Mt_of (by decide) (Nat.le_of_ble_eq_true rfl) ?_
  unfold jR_workLine
  show Sim G iR_workLine rvV 0 [(0, .ref (G.ad 2 0))] [] h _
  refine E_aload_n dX5_workLine_0 rfl 0 rfl ?_
  refine E_getD fl_X5_25 dX5_workLine_1 z2 ?_
  refine E_getI fl_X5_166 dX5_workLine_4 (tB13 _) ?_
  refine E_bipush (v := 9) dX5_workLine_7 rfl ?_
  refine E_icmp_lt (t := 17) dX5_workLine_9 rfl ?_ ?_
  · exact E_sub [0] rfl (sR_workLine_17 G h)
  · refine E_aload_n dX5_workLine_12 rfl 0 rfl ?_
    refine E_iconst (v := 5) dX5_workLine_13 rfl ?_
    refine E_cVV (As := [.int 5]) (rest := []) (sR_fail G h 5) ck_X5_fail lk_X5_90 rfl rfl kc_2 z2 rfl rfl rfl dX5_workLine_14 (fun h1 _ => ?_)
    exact E_sub [0] rfl (sR_workLine_17 G h1)
