/-! ===== the model, 7 ===== -/
def iM_thrown : MI := (yX9_thrown, cX9_thrown, 1, (some .int), { frames := 0, cells := 0, slots := 0, locals := 0 }, 1)
theorem ck_X9_thrown : CK iM_thrown 0 := ⟨⟨wd_113, wd_1331, by decide +kernel⟩, ⟨wd_1329, wd_1330⟩⟩
def jM_thrown (h : AH)  : Option (Int32) :=
  some (gI h 32 0 0)
set_option maxRecDepth 20000 in
set_option maxHeartbeats 2000000 in
theorem sM_thrown (G : JG) (h : AH)  : Mt G iM_thrown (rvI h) [.ref (G.ad 32 0)] h (jM_thrown h) := by
  refine Mt_of (by decide) (Nat.le_of_ble_eq_true rfl) ?_
  unfold jM_thrown
  show Sim G iM_thrown (rvI h) 0 [(0, .ref (G.ad 32 0))] [] h _
  refine E_aload_n dX9_thrown_0 rfl 0 rfl ?_
  refine E_getI fl_X9_55 dX9_thrown_1 z32 ?_
  exact E_iret rfl rfl dX9_thrown_4
def iM_trouble : MI := (yX9_trouble, cX9_trouble, 1, (some .int), { frames := 0, cells := 0, slots := 0, locals := 0 }, 1)
theorem ck_X9_trouble : CK iM_trouble 0 := ⟨⟨wd_113, wd_1865, by decide +kernel⟩, ⟨wd_1863, wd_1864⟩⟩
def jM_trouble (h : AH)  : Option (Int32 × AH) :=
  jb (uI h 32 0 0 0) fun h1 =>
  some ((gI h1 32 0 11), h1)
set_option maxRecDepth 20000 in
set_option maxHeartbeats 2000000 in
theorem sM_trouble (G : JG) (h : AH)  : Mt G iM_trouble rvIM [.ref (G.ad 32 0)] h (jM_trouble h) := by
  refine Mt_of (by decide) (Nat.le_of_ble_eq_true rfl) ?_
  unfold jM_trouble
  show Sim G iM_trouble rvIM 0 [(0, .ref (G.ad 32 0))] [] h _
  refine E_aload_n dX9_trouble_0 rfl 0 rfl ?_
  refine E_iconst (v := 0) dX9_trouble_1 rfl ?_
  refine E_putI fs_X9_55 dX9_trouble_2 z32 ?_
  refine E_hgen (fun h1 => ?_)
  refine E_aload_n dX9_trouble_5 rfl 0 rfl ?_
  refine E_getI fl_X9_58 dX9_trouble_6 z32 ?_
  exact E_iret rfl rfl dX9_trouble_9
def iM_undo : MI := (yX9_undo, cX9_undo, 1, (some .boolean), { frames := 1, cells := 0, slots := 0, locals := 25 }, 1)
theorem ck_X9_undo : CK iM_undo 0 := ⟨⟨wd_113, wd_1845, by decide +kernel⟩, ⟨wd_1843, wd_1844⟩⟩
def jM_undo (h : AH)  : Option (Int32 × AH) :=
  (jM_good h).bind fun h1 =>
  if (gI h1 32 0 22) = 0 then ((jM_isNot h1 6).bind fun q4 =>
  if isZ q4.1 = true then some (q4.1, q4.2) else none)
  else (jb (uI h1 32 0 22 ((gI h1 32 0 22) - 1)) fun h2 =>
  (jM_copy h2 40 (340 * (gI h2 32 0 22)) 37 0 340).bind fun h3 =>
  some (1, h3))
set_option maxRecDepth 20000 in
set_option maxHeartbeats 2000000 in
theorem sM_undo (G : JG) (h : AH)  : Mt G iM_undo rvIM [.ref (G.ad 32 0)] h (jM_undo h) := by
  refine Mt_of (by decide) (Nat.le_of_ble_eq_true rfl) ?_
  unfold jM_undo
  show Sim G iM_undo rvIM 0 [(0, .ref (G.ad 32 0))] [] h _
  refine E_aload_n dX9_undo_0 rfl 0 rfl ?_
  refine E_cVV (As := []) (rest := []) (sM_good G h) ck_X9_good lk_X9_155 rfl rfl kc_32 z32 rfl rfl rfl dX9_undo_1 (fun h1 _ => ?_)
  refine E_aload_n dX9_undo_4 rfl 0 rfl ?_
  refine E_getI fl_X9_171 dX9_undo_5 z32 ?_
  refine E_if_ne (t := 18) dX9_undo_8 rfl ?_ ?_
  · refine E_aload_n dX9_undo_18 rfl 0 rfl ?_
    refine E_dup dX9_undo_19 rfl ?_
    refine E_getI fl_X9_171 dX9_undo_20 z32 ?_
    refine E_iconst (v := 1) dX9_undo_23 rfl ?_
    refine E_isub dX9_undo_24 ?_
    refine E_putI fs_X9_171 dX9_undo_25 z32 ?_
    refine E_hgen (fun h2 => ?_)
    refine E_aload_n dX9_undo_28 rfl 0 rfl ?_
    refine E_getF fl_X9_35 dX9_undo_29 z32 ?_
    refine E_sipush (v := 340) dX9_undo_32 rfl ?_
    refine E_aload_n dX9_undo_35 rfl 0 rfl ?_
    refine E_getI fl_X9_171 dX9_undo_36 z32 ?_
    refine E_imul dX9_undo_39 ?_
    refine E_aload_n dX9_undo_40 rfl 0 rfl ?_
    refine E_getF fl_X9_26 dX9_undo_41 z32 ?_
    refine E_iconst (v := 0) dX9_undo_44 rfl ?_
    refine E_sipush (v := 340) dX9_undo_45 rfl ?_
    refine E_cSV (As := [.ref (G.ad 40 0), .int (340 * (gI h2 32 0 22)), .ref (G.ad 37 0), .int 0, .int 340]) (rest := []) (sM_copy G h2 40 rfl z40 (340 * (gI h2 32 0 22)) 37 rfl z37 0 340) ck_X9_copy lk_X9_164 rfl rfl rfl rfl rfl dX9_undo_48 (fun h3 _ => ?_)
    refine E_iconst (v := 1) dX9_undo_51 rfl ?_
    exact E_zret rfl rfl rfl dX9_undo_52
  · refine E_aload_n dX9_undo_11 rfl 0 rfl ?_
    refine E_bipush (v := 6) dX9_undo_12 rfl ?_
    refine E_cVIM (As := [.int 6]) (rest := []) (sM_isNot G h1 6) ck_X9_isNot lk_X9_380 rfl rfl kc_32 z32 rfl rfl rfl dX9_undo_14 (fun q4 _ => ?_)
    exact E_zretg rfl rfl dX9_undo_17
def iM_untold : MI := (yX9_untold, cX9_untold, 3, (some .int), { frames := 3, cells := 0, slots := 0, locals := 68 }, 1)
theorem ck_X9_untold : CK iM_untold 0 := ⟨⟨wd_113, wd_1701, by decide +kernel⟩, ⟨wd_1699, wd_1700⟩⟩
def jM_untold_25  : Nat → Int32 → Int32 → AH → Option (Int32 × AH)
  | 0, _, _, _ => none
  | n + 1, v1, v2, h =>
    if inb 0 340 = true then (
    if v2 < (gI h 37 0 (0 : Int32).toNatClampNeg) then (if inb v2 12 = true then (
    (jM_bits (gI h 42 0 v2.toNatClampNeg)).bind fun r1 =>
    (jM_untold_25 n (v1 + (v2 - r1)) (v2 + 1) h)) else none)
    else (some (v1, h))) else none
set_option maxRecDepth 20000 in
set_option maxHeartbeats 2000000 in
theorem sM_untold_25 (G : JG)   : ∀ (n : Nat) (v1 : Int32) (v2 : Int32) (h : AH), Sim G iM_untold rvIM 25 [(0, .ref (G.ad 32 0)), (1, .int v1), (2, .int v2)] [] h (jM_untold_25 n v1 v2 h) := by
  intro n
  induction n with
  | zero => intro v1 v2 h; exact E_none
  | succ n ih =>
    intro v1 v2 h
    rw [jM_untold_25]
    refine E_iload_n dX9_untold_25 rfl 2 rfl ?_
    refine E_aload_n dX9_untold_26 rfl 0 rfl ?_
    refine E_getF fl_X9_26 dX9_untold_27 z32 ?_
    refine E_iconst (v := 0) dX9_untold_30 rfl ?_
    refine E_iald (n := 340) rfl dX9_untold_31 z37 (fun _ => ?_)
    refine E_icmp_ge (t := 55) dX9_untold_32 rfl ?_ ?_
    · refine E_iload_n dX9_untold_55 rfl 1 rfl ?_
      exact E_iret rfl rfl dX9_untold_56
    · refine E_iload_n dX9_untold_35 rfl 1 rfl ?_
      refine E_iload_n dX9_untold_36 rfl 2 rfl ?_
      refine E_aload_n dX9_untold_37 rfl 0 rfl ?_
      refine E_getF fl_X9_41 dX9_untold_38 z32 ?_
      refine E_iload_n dX9_untold_41 rfl 2 rfl ?_
      refine E_iald (n := 12) rfl dX9_untold_42 z42 (fun _ => ?_)
      refine E_cSI (As := [.int (gI h 42 0 v2.toNatClampNeg)]) (rest := [.int v2, .int v1]) (sM_bits G h (gI h 42 0 v2.toNatClampNeg)) ck_X9_bits lk_X9_302 rfl rfl rfl rfl rfl dX9_untold_43 (fun r1 _ => ?_)
      refine E_isub dX9_untold_46 ?_
      refine E_iadd dX9_untold_47 ?_
      refine E_istore_n (ls' := [(1, .int (v1 + (v2 - r1))), (0, .ref (G.ad 32 0)), (2, .int v2)]) dX9_untold_48 rfl (Nat.le_of_ble_eq_true rfl) rfl ?_
      refine E_iinc (q := 2) (v := (v2 + 1)) (ls' := [(2, .int (v2 + 1)), (1, .int (v1 + (v2 - r1))), (0, .ref (G.ad 32 0))]) dX9_untold_49 rfl rfl (Nat.le_of_ble_eq_true rfl) rfl ?_
      refine E_goto (t := 25) dX9_untold_52 rfl ?_
      exact E_sub [2, 1, 0] rfl (ih (v1 + (v2 - r1)) (v2 + 1) h)
def jM_untold (h : AH)  : Option (Int32 × AH) :=
  (jM_good h).bind fun h1 =>
  if (gI h1 32 0 14) = 0 then ((jM_no h1 1).bind fun q3 =>
  some (q3.1, q3.2))
  else ((jM_laySure h1).bind fun h2 =>
  (jM_untold_25 FU 0 0 h2))
set_option maxRecDepth 20000 in
set_option maxHeartbeats 2000000 in
theorem sM_untold (G : JG) (h : AH)  : Mt G iM_untold rvIM [.ref (G.ad 32 0)] h (jM_untold h) := by
  refine Mt_of (by decide) (Nat.le_of_ble_eq_true rfl) ?_
  unfold jM_untold
  show Sim G iM_untold rvIM 0 [(0, .ref (G.ad 32 0))] [] h _
  refine E_aload_n dX9_untold_0 rfl 0 rfl ?_
  refine E_cVV (As := []) (rest := []) (sM_good G h) ck_X9_good lk_X9_155 rfl rfl kc_32 z32 rfl rfl rfl dX9_untold_1 (fun h1 _ => ?_)
  refine E_aload_n dX9_untold_4 rfl 0 rfl ?_
  refine E_getI fl_X9_168 dX9_untold_5 z32 ?_
  refine E_if_ne (t := 17) dX9_untold_8 rfl ?_ ?_
  · refine E_aload_n dX9_untold_17 rfl 0 rfl ?_
    refine E_cVV (As := []) (rest := []) (sM_laySure G h1) ck_X9_laySure lk_X9_332 rfl rfl kc_32 z32 rfl rfl rfl dX9_untold_18 (fun h2 _ => ?_)
    refine E_iconst (v := 0) dX9_untold_21 rfl ?_
    refine E_istore_n (ls' := [(1, .int 0), (0, .ref (G.ad 32 0))]) dX9_untold_22 rfl (Nat.le_of_ble_eq_true rfl) rfl ?_
    refine E_iconst (v := 0) dX9_untold_23 rfl ?_
    refine E_istore_n (ls' := [(2, .int 0), (1, .int 0), (0, .ref (G.ad 32 0))]) dX9_untold_24 rfl (Nat.le_of_ble_eq_true rfl) rfl ?_
    exact E_sub [2, 1, 0] rfl (sM_untold_25 G FU 0 0 h2)
  · refine E_aload_n dX9_untold_11 rfl 0 rfl ?_
    refine E_iconst (v := 1) dX9_untold_12 rfl ?_
    refine E_cVIM (As := [.int 1]) (rest := []) (sM_no G h1 1) ck_X9_no lk_X9_158 rfl rfl kc_32 z32 rfl rfl rfl dX9_untold_13 (fun q3 _ => ?_)
    exact E_iret rfl rfl dX9_untold_16
def iM_wanted : MI := (yX9_wanted, cX9_wanted, 3, (some .int), { frames := 2, cells := 0, slots := 0, locals := 44 }, 1)
theorem ck_X9_wanted : CK iM_wanted 2 := ⟨⟨wd_113, wd_1717, by decide +kernel⟩, ⟨wd_1715, wd_1716⟩⟩
def jM_wanted (h : AH) (v1 : Int32) (v2 : Int32) : Option (Int32 × AH) :=
  (jM_good h).bind fun h1 =>
  (jM_isCell h1 v1 v2).bind fun r2 =>
  if r2 = 0 then ((jM_no h1 1).bind fun q3 =>
  some (q3.1, q3.2))
  else ((jM_cellOf h1 v1 v2).bind fun r4 =>
  (jM_wantedAt h1 r4).bind fun r5 =>
  some (r5, h1))
set_option maxRecDepth 20000 in
set_option maxHeartbeats 2000000 in
theorem sM_wanted (G : JG) (h : AH) (v1 : Int32) (v2 : Int32) : Mt G iM_wanted rvIM [.ref (G.ad 32 0), .int v1, .int v2] h (jM_wanted h v1 v2) := by
  refine Mt_of (by decide) (Nat.le_of_ble_eq_true rfl) ?_
  unfold jM_wanted
  show Sim G iM_wanted rvIM 0 [(0, .ref (G.ad 32 0)), (1, .int v1), (2, .int v2)] [] h _
  refine E_aload_n dX9_wanted_0 rfl 0 rfl ?_
  refine E_cVV (As := []) (rest := []) (sM_good G h) ck_X9_good lk_X9_155 rfl rfl kc_32 z32 rfl rfl rfl dX9_wanted_1 (fun h1 _ => ?_)
  refine E_aload_n dX9_wanted_4 rfl 0 rfl ?_
  refine E_iload_n dX9_wanted_5 rfl 1 rfl ?_
  refine E_iload_n dX9_wanted_6 rfl 2 rfl ?_
  refine E_cVI (As := [.int v1, .int v2]) (rest := []) (sM_isCell G h1 v1 v2) ck_X9_isCell lk_X9_268 rfl rfl kc_32 z32 rfl rfl rfl dX9_wanted_7 (fun r2 _ => ?_)
  refine E_if_eq (t := 26) dX9_wanted_10 rfl ?_ ?_
  · refine E_aload_n dX9_wanted_26 rfl 0 rfl ?_
    refine E_iconst (v := 1) dX9_wanted_27 rfl ?_
    refine E_cVIM (As := [.int 1]) (rest := []) (sM_no G h1 1) ck_X9_no lk_X9_158 rfl rfl kc_32 z32 rfl rfl rfl dX9_wanted_28 (fun q3 _ => ?_)
    exact E_iret rfl rfl dX9_wanted_31
  · refine E_aload_n dX9_wanted_13 rfl 0 rfl ?_
    refine E_aload_n dX9_wanted_14 rfl 0 rfl ?_
    refine E_iload_n dX9_wanted_15 rfl 1 rfl ?_
    refine E_iload_n dX9_wanted_16 rfl 2 rfl ?_
    refine E_cVI (As := [.int v1, .int v2]) (rest := [.ref (G.ad 32 0)]) (sM_cellOf G h1 v1 v2) ck_X9_cellOf lk_X9_272 rfl rfl kc_32 z32 rfl rfl rfl dX9_wanted_17 (fun r4 _ => ?_)
    refine E_cVI (As := [.int r4]) (rest := []) (sM_wantedAt G h1 r4) ck_X9_wantedAt lk_X9_335 rfl rfl kc_32 z32 rfl rfl rfl dX9_wanted_20 (fun r5 _ => ?_)
    refine E_goto (t := 31) dX9_wanted_23 rfl ?_
    exact E_iret rfl rfl dX9_wanted_31
def iM_was : MI := (yX9_was, cX9_was, 4, (some .int), { frames := 2, cells := 0, slots := 0, locals := 47 }, 1)
theorem ck_X9_was : CK iM_was 3 := ⟨⟨wd_113, wd_1564, by decide +kernel⟩, ⟨wd_1562, wd_1563⟩⟩
def jM_was (h : AH) (v1 : Int32) (v2 : Int32) (v3 : Int32) : Option (Int32 × AH) :=
  (jM_good h).bind fun h1 =>
  (jM_isCell h1 v1 v2).bind fun r2 =>
  if r2 = 0 then ((jM_no h1 1).bind fun q7 =>
  some (q7.1, q7.2))
  else ((jM_within v3 0 999).bind fun r3 =>
  if r3 = 0 then ((jM_no h1 2).bind fun q4 =>
  some (q4.1, q4.2))
  else ((jM_cellOf h1 v1 v2).bind fun r5 =>
  (jM_shownIn h1 r5 v3).bind fun r6 =>
  some (r6, h1)))
set_option maxRecDepth 20000 in
set_option maxHeartbeats 2000000 in
theorem sM_was (G : JG) (h : AH) (v1 : Int32) (v2 : Int32) (v3 : Int32) : Mt G iM_was rvIM [.ref (G.ad 32 0), .int v1, .int v2, .int v3] h (jM_was h v1 v2 v3) := by
  refine Mt_of (by decide) (Nat.le_of_ble_eq_true rfl) ?_
  unfold jM_was
  show Sim G iM_was rvIM 0 [(0, .ref (G.ad 32 0)), (1, .int v1), (2, .int v2), (3, .int v3)] [] h _
  refine E_aload_n dX9_was_0 rfl 0 rfl ?_
  refine E_cVV (As := []) (rest := []) (sM_good G h) ck_X9_good lk_X9_155 rfl rfl kc_32 z32 rfl rfl rfl dX9_was_1 (fun h1 _ => ?_)
  refine E_aload_n dX9_was_4 rfl 0 rfl ?_
  refine E_iload_n dX9_was_5 rfl 1 rfl ?_
  refine E_iload_n dX9_was_6 rfl 2 rfl ?_
  refine E_cVI (As := [.int v1, .int v2]) (rest := []) (sM_isCell G h1 v1 v2) ck_X9_isCell lk_X9_268 rfl rfl kc_32 z32 rfl rfl rfl dX9_was_7 (fun r2 _ => ?_)
  refine E_if_ne (t := 19) dX9_was_10 rfl ?_ ?_
  · refine E_iload_n dX9_was_19 rfl 3 rfl ?_
    refine E_iconst (v := 0) dX9_was_20 rfl ?_
    refine E_sipush (v := 999) dX9_was_21 rfl ?_
    refine E_cSI (As := [.int v3, .int 0, .int 999]) (rest := []) (sM_within G h1 v3 0 999) ck_X9_within lk_X9_139 rfl rfl rfl rfl rfl dX9_was_24 (fun r3 _ => ?_)
    refine E_if_eq (t := 44) dX9_was_27 rfl ?_ ?_
    · refine E_aload_n dX9_was_44 rfl 0 rfl ?_
      refine E_iconst (v := 2) dX9_was_45 rfl ?_
      refine E_cVIM (As := [.int 2]) (rest := []) (sM_no G h1 2) ck_X9_no lk_X9_158 rfl rfl kc_32 z32 rfl rfl rfl dX9_was_46 (fun q4 _ => ?_)
      exact E_iret rfl rfl dX9_was_49
    · refine E_aload_n dX9_was_30 rfl 0 rfl ?_
      refine E_aload_n dX9_was_31 rfl 0 rfl ?_
      refine E_iload_n dX9_was_32 rfl 1 rfl ?_
      refine E_iload_n dX9_was_33 rfl 2 rfl ?_
      refine E_cVI (As := [.int v1, .int v2]) (rest := [.ref (G.ad 32 0)]) (sM_cellOf G h1 v1 v2) ck_X9_cellOf lk_X9_272 rfl rfl kc_32 z32 rfl rfl rfl dX9_was_34 (fun r5 _ => ?_)
      refine E_iload_n dX9_was_37 rfl 3 rfl ?_
      refine E_cVI (As := [.int r5, .int v3]) (rest := []) (sM_shownIn G h1 r5 v3) ck_X9_shownIn lk_X9_281 rfl rfl kc_32 z32 rfl rfl rfl dX9_was_38 (fun r6 _ => ?_)
      refine E_goto (t := 49) dX9_was_41 rfl ?_
      exact E_iret rfl rfl dX9_was_49
  · refine E_aload_n dX9_was_13 rfl 0 rfl ?_
    refine E_iconst (v := 1) dX9_was_14 rfl ?_
    refine E_cVIM (As := [.int 1]) (rest := []) (sM_no G h1 1) ck_X9_no lk_X9_158 rfl rfl kc_32 z32 rfl rfl rfl dX9_was_15 (fun q7 _ => ?_)
    exact E_iret rfl rfl dX9_was_18
def iM_wet : MI := (yX9_wet, cX9_wet, 3, (some .int), { frames := 2, cells := 0, slots := 0, locals := 44 }, 1)
theorem ck_X9_wet : CK iM_wet 2 := ⟨⟨wd_113, wd_1829, by decide +kernel⟩, ⟨wd_1827, wd_1828⟩⟩
def jM_wet (h : AH) (v1 : Int32) (v2 : Int32) : Option (Int32 × AH) :=
  (jM_good h).bind fun h1 =>
  (jM_isCell h1 v1 v2).bind fun r2 =>
  if r2 = 0 then ((jM_no h1 1).bind fun q6 =>
  some (q6.1, q6.2))
  else (if inb 1 340 = true then (
  if (gI h1 37 0 (1 : Int32).toNatClampNeg) = 0 then ((jM_no h1 6).bind fun q5 =>
  some (q5.1, q5.2))
  else (if inb 0 340 = true then (
  (jM_cellOf h1 v1 v2).bind fun r3 =>
  (jM_paintOf h1 (gI h1 37 0 (0 : Int32).toNatClampNeg) r3).bind fun r4 =>
  some (r4, h1)) else none)) else none)
set_option maxRecDepth 20000 in
set_option maxHeartbeats 2000000 in
theorem sM_wet (G : JG) (h : AH) (v1 : Int32) (v2 : Int32) : Mt G iM_wet rvIM [.ref (G.ad 32 0), .int v1, .int v2] h (jM_wet h v1 v2) := by
  refine Mt_of (by decide) (Nat.le_of_ble_eq_true rfl) ?_
  unfold jM_wet
  show Sim G iM_wet rvIM 0 [(0, .ref (G.ad 32 0)), (1, .int v1), (2, .int v2)] [] h _
  refine E_aload_n dX9_wet_0 rfl 0 rfl ?_
  refine E_cVV (As := []) (rest := []) (sM_good G h) ck_X9_good lk_X9_155 rfl rfl kc_32 z32 rfl rfl rfl dX9_wet_1 (fun h1 _ => ?_)
  refine E_aload_n dX9_wet_4 rfl 0 rfl ?_
  refine E_iload_n dX9_wet_5 rfl 1 rfl ?_
  refine E_iload_n dX9_wet_6 rfl 2 rfl ?_
  refine E_cVI (As := [.int v1, .int v2]) (rest := []) (sM_isCell G h1 v1 v2) ck_X9_isCell lk_X9_268 rfl rfl kc_32 z32 rfl rfl rfl dX9_wet_7 (fun r2 _ => ?_)
  refine E_if_ne (t := 19) dX9_wet_10 rfl ?_ ?_
  · refine E_aload_n dX9_wet_19 rfl 0 rfl ?_
    refine E_getF fl_X9_26 dX9_wet_20 z32 ?_
    refine E_iconst (v := 1) dX9_wet_23 rfl ?_
    refine E_iald (n := 340) rfl dX9_wet_24 z37 (fun _ => ?_)
    refine E_if_ne (t := 37) dX9_wet_25 rfl ?_ ?_
    · refine E_aload_n dX9_wet_37 rfl 0 rfl ?_
      refine E_aload_n dX9_wet_38 rfl 0 rfl ?_
      refine E_getF fl_X9_26 dX9_wet_39 z32 ?_
      refine E_iconst (v := 0) dX9_wet_42 rfl ?_
      refine E_iald (n := 340) rfl dX9_wet_43 z37 (fun _ => ?_)
      refine E_aload_n dX9_wet_44 rfl 0 rfl ?_
      refine E_iload_n dX9_wet_45 rfl 1 rfl ?_
      refine E_iload_n dX9_wet_46 rfl 2 rfl ?_
      refine E_cVI (As := [.int v1, .int v2]) (rest := [.int (gI h1 37 0 (0 : Int32).toNatClampNeg), .ref (G.ad 32 0)]) (sM_cellOf G h1 v1 v2) ck_X9_cellOf lk_X9_272 rfl rfl kc_32 z32 rfl rfl rfl dX9_wet_47 (fun r3 _ => ?_)
      refine E_cVI (As := [.int (gI h1 37 0 (0 : Int32).toNatClampNeg), .int r3]) (rest := []) (sM_paintOf G h1 (gI h1 37 0 (0 : Int32).toNatClampNeg) r3) ck_X9_paintOf lk_X9_262 rfl rfl kc_32 z32 rfl rfl rfl dX9_wet_50 (fun r4 _ => ?_)
      exact E_iret rfl rfl dX9_wet_53
    · refine E_aload_n dX9_wet_28 rfl 0 rfl ?_
      refine E_bipush (v := 6) dX9_wet_29 rfl ?_
      refine E_cVIM (As := [.int 6]) (rest := []) (sM_no G h1 6) ck_X9_no lk_X9_158 rfl rfl kc_32 z32 rfl rfl rfl dX9_wet_31 (fun q5 _ => ?_)
      refine E_goto (t := 53) dX9_wet_34 rfl ?_
      exact E_iret rfl rfl dX9_wet_53
  · refine E_aload_n dX9_wet_13 rfl 0 rfl ?_
    refine E_iconst (v := 1) dX9_wet_14 rfl ?_
    refine E_cVIM (As := [.int 1]) (rest := []) (sM_no G h1 1) ck_X9_no lk_X9_158 rfl rfl kc_32 z32 rfl rfl rfl dX9_wet_15 (fun q6 _ => ?_)
    exact E_iret rfl rfl dX9_wet_18
def iM_wetJudged : MI := (yX9_wetJudged, cX9_wetJudged, 1, (some .int), { frames := 6, cells := 0, slots := 0, locals := 139 }, 1)
theorem ck_X9_wetJudged : CK iM_wetJudged 0 := ⟨⟨wd_113, wd_1833, by decide +kernel⟩, ⟨wd_1831, wd_1832⟩⟩
def jM_wetJudged (h : AH)  : Option (Int32 × AH) :=
  (jM_good h).bind fun h1 =>
  if (gI h1 32 0 14) = 0 then ((jM_no h1 6).bind fun q2 =>
  some (q2.1, q2.2))
  else (if inb 1 340 = true then (
  if (gI h1 37 0 (1 : Int32).toNatClampNeg) = 0 then ((jM_no h1 6).bind fun q4 =>
  some (q4.1, q4.2))
  else (if inb 0 340 = true then (
  (jM_judgedOf h1 (gI h1 37 0 (0 : Int32).toNatClampNeg)).bind fun r3 =>
  some (r3, h1)) else none)) else none)
set_option maxRecDepth 20000 in
set_option maxHeartbeats 2000000 in
theorem sM_wetJudged (G : JG) (h : AH)  : Mt G iM_wetJudged rvIM [.ref (G.ad 32 0)] h (jM_wetJudged h) := by
  refine Mt_of (by decide) (Nat.le_of_ble_eq_true rfl) ?_
  unfold jM_wetJudged
  show Sim G iM_wetJudged rvIM 0 [(0, .ref (G.ad 32 0))] [] h _
  refine E_aload_n dX9_wetJudged_0 rfl 0 rfl ?_
  refine E_cVV (As := []) (rest := []) (sM_good G h) ck_X9_good lk_X9_155 rfl rfl kc_32 z32 rfl rfl rfl dX9_wetJudged_1 (fun h1 _ => ?_)
  refine E_aload_n dX9_wetJudged_4 rfl 0 rfl ?_
  refine E_getI fl_X9_168 dX9_wetJudged_5 z32 ?_
  refine E_if_eq (t := 20) dX9_wetJudged_8 rfl ?_ ?_
  · refine E_aload_n dX9_wetJudged_20 rfl 0 rfl ?_
    refine E_bipush (v := 6) dX9_wetJudged_21 rfl ?_
    refine E_cVIM (As := [.int 6]) (rest := []) (sM_no G h1 6) ck_X9_no lk_X9_158 rfl rfl kc_32 z32 rfl rfl rfl dX9_wetJudged_23 (fun q2 _ => ?_)
    refine E_goto (t := 39) dX9_wetJudged_26 rfl ?_
    exact E_iret rfl rfl dX9_wetJudged_39
  · refine E_aload_n dX9_wetJudged_11 rfl 0 rfl ?_
    refine E_getF fl_X9_26 dX9_wetJudged_12 z32 ?_
    refine E_iconst (v := 1) dX9_wetJudged_15 rfl ?_
    refine E_iald (n := 340) rfl dX9_wetJudged_16 z37 (fun _ => ?_)
    refine E_if_ne (t := 29) dX9_wetJudged_17 rfl ?_ ?_
    · refine E_aload_n dX9_wetJudged_29 rfl 0 rfl ?_
      refine E_aload_n dX9_wetJudged_30 rfl 0 rfl ?_
      refine E_getF fl_X9_26 dX9_wetJudged_31 z32 ?_
      refine E_iconst (v := 0) dX9_wetJudged_34 rfl ?_
      refine E_iald (n := 340) rfl dX9_wetJudged_35 z37 (fun _ => ?_)
      refine E_cVI (As := [.int (gI h1 37 0 (0 : Int32).toNatClampNeg)]) (rest := []) (sM_judgedOf G h1 (gI h1 37 0 (0 : Int32).toNatClampNeg)) ck_X9_judgedOf lk_X9_320 rfl rfl kc_32 z32 rfl rfl rfl dX9_wetJudged_36 (fun r3 _ => ?_)
      exact E_iret rfl rfl dX9_wetJudged_39
    · refine E_aload_n dX9_wetJudged_20 rfl 0 rfl ?_
      refine E_bipush (v := 6) dX9_wetJudged_21 rfl ?_
      refine E_cVIM (As := [.int 6]) (rest := []) (sM_no G h1 6) ck_X9_no lk_X9_158 rfl rfl kc_32 z32 rfl rfl rfl dX9_wetJudged_23 (fun q4 _ => ?_)
      refine E_goto (t := 39) dX9_wetJudged_26 rfl ?_
      exact E_iret rfl rfl dX9_wetJudged_39
def iM_where : MI := (yX9_where, cX9_where, 1, (some .int), { frames := 0, cells := 0, slots := 0, locals := 0 }, 1)
theorem ck_X9_where : CK iM_where 0 := ⟨⟨wd_113, wd_1532, by decide +kernel⟩, ⟨wd_1530, wd_1531⟩⟩
def jM_where (h : AH)  : Option (Int32 × AH) :=
  jb (uI h 32 0 0 0) fun h1 =>
  if (gI h1 32 0 11) = 4 then (some ((gI h1 32 0 10), h1))
  else (some ((-1), h1))
set_option maxRecDepth 20000 in
set_option maxHeartbeats 2000000 in
theorem sM_where (G : JG) (h : AH)  : Mt G iM_where rvIM [.ref (G.ad 32 0)] h (jM_where h) := by
  refine Mt_of (by decide) (Nat.le_of_ble_eq_true rfl) ?_
  unfold jM_where
  show Sim G iM_where rvIM 0 [(0, .ref (G.ad 32 0))] [] h _
  refine E_aload_n dX9_where_0 rfl 0 rfl ?_
  refine E_iconst (v := 0) dX9_where_1 rfl ?_
  refine E_putI fs_X9_55 dX9_where_2 z32 ?_
  refine E_hgen (fun h1 => ?_)
  refine E_aload_n dX9_where_5 rfl 0 rfl ?_
  refine E_getI fl_X9_58 dX9_where_6 z32 ?_
  refine E_iconst (v := 4) dX9_where_9 rfl ?_
  refine E_icmp_ne (t := 20) dX9_where_10 rfl ?_ ?_
  · refine E_iconst (v := (-1)) dX9_where_20 rfl ?_
    exact E_iret rfl rfl dX9_where_21
  · refine E_aload_n dX9_where_13 rfl 0 rfl ?_
    refine E_getI fl_X9_13 dX9_where_14 z32 ?_
    refine E_goto (t := 21) dX9_where_17 rfl ?_
    exact E_iret rfl rfl dX9_where_21
def iM_whose : MI := (yX9_whose, cX9_whose, 4, (some .int), { frames := 2, cells := 0, slots := 0, locals := 47 }, 1)
theorem ck_X9_whose : CK iM_whose 2 := ⟨⟨wd_113, wd_1560, by decide +kernel⟩, ⟨wd_1558, wd_1559⟩⟩
def jM_whose (h : AH) (v1 : Int32) (v2 : Int32) : Option (Int32 × AH) :=
  (jM_good h).bind fun h1 =>
  (jM_isCell h1 v1 v2).bind fun r2 =>
  if r2 = 0 then ((jM_no h1 1).bind fun q5 =>
  some (q5.1, q5.2))
  else ((jM_cellOf h1 v1 v2).bind fun r3 =>
  (jM_under h1 r3 0).bind fun r4 =>
  if r4 = (-2) then (some ((-2), h1))
  else (if inb ((2 + (26 * r4)) + 0) 340 = true then (
  some ((gI h1 37 0 ((2 + (26 * r4)) + 0).toNatClampNeg), h1)) else none))
set_option maxRecDepth 20000 in
set_option maxHeartbeats 2000000 in
theorem sM_whose (G : JG) (h : AH) (v1 : Int32) (v2 : Int32) : Mt G iM_whose rvIM [.ref (G.ad 32 0), .int v1, .int v2] h (jM_whose h v1 v2) := by
  refine Mt_of (by decide) (Nat.le_of_ble_eq_true rfl) ?_
  unfold jM_whose
  show Sim G iM_whose rvIM 0 [(0, .ref (G.ad 32 0)), (1, .int v1), (2, .int v2)] [] h _
  refine E_aload_n dX9_whose_0 rfl 0 rfl ?_
  refine E_cVV (As := []) (rest := []) (sM_good G h) ck_X9_good lk_X9_155 rfl rfl kc_32 z32 rfl rfl rfl dX9_whose_1 (fun h1 _ => ?_)
  refine E_aload_n dX9_whose_4 rfl 0 rfl ?_
  refine E_iload_n dX9_whose_5 rfl 1 rfl ?_
  refine E_iload_n dX9_whose_6 rfl 2 rfl ?_
  refine E_cVI (As := [.int v1, .int v2]) (rest := []) (sM_isCell G h1 v1 v2) ck_X9_isCell lk_X9_268 rfl rfl kc_32 z32 rfl rfl rfl dX9_whose_7 (fun r2 _ => ?_)
  refine E_if_ne (t := 19) dX9_whose_10 rfl ?_ ?_
  · refine E_aload_n dX9_whose_19 rfl 0 rfl ?_
    refine E_aload_n dX9_whose_20 rfl 0 rfl ?_
    refine E_iload_n dX9_whose_21 rfl 1 rfl ?_
    refine E_iload_n dX9_whose_22 rfl 2 rfl ?_
    refine E_cVI (As := [.int v1, .int v2]) (rest := [.ref (G.ad 32 0)]) (sM_cellOf G h1 v1 v2) ck_X9_cellOf lk_X9_272 rfl rfl kc_32 z32 rfl rfl rfl dX9_whose_23 (fun r3 _ => ?_)
    refine E_iconst (v := 0) dX9_whose_26 rfl ?_
    refine E_cVI (As := [.int r3, .int 0]) (rest := []) (sM_under G h1 r3 0) ck_X9_under lk_X9_265 rfl rfl kc_32 z32 rfl rfl rfl dX9_whose_27 (fun r4 _ => ?_)
    refine E_istore_n (ls' := [(3, .int r4), (0, .ref (G.ad 32 0)), (1, .int v1), (2, .int v2)]) dX9_whose_30 rfl (Nat.le_of_ble_eq_true rfl) rfl ?_
    refine E_iload_n dX9_whose_31 rfl 0 rfl ?_
    refine E_bipush (v := (-2)) dX9_whose_32 rfl ?_
    refine E_icmp_ne (t := 42) dX9_whose_34 rfl ?_ ?_
    · refine E_aload_n dX9_whose_42 rfl 1 rfl ?_
      refine E_getF fl_X9_26 dX9_whose_43 z32 ?_
      refine E_iconst (v := 2) dX9_whose_46 rfl ?_
      refine E_bipush (v := 26) dX9_whose_47 rfl ?_
      refine E_iload_n dX9_whose_49 rfl 0 rfl ?_
      refine E_imul dX9_whose_50 ?_
      refine E_iadd dX9_whose_51 ?_
      refine E_iconst (v := 0) dX9_whose_52 rfl ?_
      refine E_iadd dX9_whose_53 ?_
      refine E_iald (n := 340) rfl dX9_whose_54 z37 (fun _ => ?_)
      exact E_iret rfl rfl dX9_whose_55
    · refine E_bipush (v := (-2)) dX9_whose_37 rfl ?_
      refine E_goto (t := 55) dX9_whose_39 rfl ?_
      exact E_iret rfl rfl dX9_whose_55
  · refine E_aload_n dX9_whose_13 rfl 0 rfl ?_
    refine E_iconst (v := 1) dX9_whose_14 rfl ?_
    refine E_cVIM (As := [.int 1]) (rest := []) (sM_no G h1 1) ck_X9_no lk_X9_158 rfl rfl kc_32 z32 rfl rfl rfl dX9_whose_15 (fun q5 _ => ?_)
    exact E_iret rfl rfl dX9_whose_18
def iM_wipe : MI := (yX9_wipe, cX9_wipe, 2, (some .boolean), { frames := 2, cells := 0, slots := 0, locals := 46 }, 1)
theorem ck_X9_wipe : CK iM_wipe 0 := ⟨⟨wd_113, wd_1825, by decide +kernel⟩, ⟨wd_1823, wd_1824⟩⟩
def jM_wipe_64  (h : AH) : Option (Int32 × AH) :=
  if inb 1 340 = true then (
  jb (uI h 37 0 (1 : Int32).toNatClampNeg 0) fun h1 =>
  (jM_did h1).bind fun q2 =>
  if isZ q2.1 = true then some (q2.1, q2.2) else none) else none
set_option maxRecDepth 20000 in
set_option maxHeartbeats 2000000 in
theorem sM_wipe_64 (G : JG)   (h : AH) : Sim G iM_wipe rvIM 64 [(0, .ref (G.ad 32 0))] [] h (jM_wipe_64 h) := by
  unfold jM_wipe_64
  refine E_aload_n dX9_wipe_64 rfl 0 rfl ?_
  refine E_getF fl_X9_26 dX9_wipe_65 z32 ?_
  refine E_iconst (v := 1) dX9_wipe_68 rfl ?_
  refine E_iconst (v := 0) dX9_wipe_69 rfl ?_
  refine E_iast (n := 340) rfl dX9_wipe_70 z37 (fun _ => ?_)
  refine E_hgen (fun h1 => ?_)
  refine E_aload_n dX9_wipe_71 rfl 0 rfl ?_
  refine E_cVIM (As := []) (rest := []) (sM_did G h1) ck_X9_did lk_X9_386 rfl rfl kc_32 z32 rfl rfl rfl dX9_wipe_72 (fun q2 _ => ?_)
  exact E_zretg rfl rfl dX9_wipe_75
def jM_wipe_33  : Nat → Int32 → AH → Option (Int32 × AH)
  | 0, _, _ => none
  | n + 1, v1, h =>
    if v1 < 26 then (if inb 0 340 = true then (
    if inb ((2 + (26 * (gI h 37 0 (0 : Int32).toNatClampNeg))) + v1) 340 = true then (
    jb (uI h 37 0 ((2 + (26 * (gI h 37 0 (0 : Int32).toNatClampNeg))) + v1).toNatClampNeg 0) fun h1 =>
    (jM_wipe_33 n (v1 + 1) h1)) else none) else none)
    else ((jM_wipe_64 h))
set_option maxRecDepth 20000 in
set_option maxHeartbeats 2000000 in
theorem sM_wipe_33 (G : JG)   : ∀ (n : Nat) (v1 : Int32) (h : AH), Sim G iM_wipe rvIM 33 [(0, .ref (G.ad 32 0)), (1, .int v1)] [] h (jM_wipe_33 n v1 h) := by
  intro n
  induction n with
  | zero => intro v1 h; exact E_none
  | succ n ih =>
    intro v1 h
    rw [jM_wipe_33]
    refine E_iload_n dX9_wipe_33 rfl 1 rfl ?_
    refine E_bipush (v := 26) dX9_wipe_34 rfl ?_
    refine E_icmp_ge (t := 64) dX9_wipe_36 rfl ?_ ?_
    · exact E_sub [0] rfl (sM_wipe_64 G h)
    · refine E_aload_n dX9_wipe_39 rfl 0 rfl ?_
      refine E_getF fl_X9_26 dX9_wipe_40 z32 ?_
      refine E_iconst (v := 2) dX9_wipe_43 rfl ?_
      refine E_bipush (v := 26) dX9_wipe_44 rfl ?_
      refine E_aload_n dX9_wipe_46 rfl 0 rfl ?_
      refine E_getF fl_X9_26 dX9_wipe_47 z32 ?_
      refine E_iconst (v := 0) dX9_wipe_50 rfl ?_
      refine E_iald (n := 340) rfl dX9_wipe_51 z37 (fun _ => ?_)
      refine E_imul dX9_wipe_52 ?_
      refine E_iadd dX9_wipe_53 ?_
      refine E_iload_n dX9_wipe_54 rfl 1 rfl ?_
      refine E_iadd dX9_wipe_55 ?_
      refine E_iconst (v := 0) dX9_wipe_56 rfl ?_
      refine E_iast (n := 340) rfl dX9_wipe_57 z37 (fun _ => ?_)
      refine E_hgen (fun h1 => ?_)
      refine E_iinc (q := 1) (v := (v1 + 1)) (ls' := [(1, .int (v1 + 1)), (0, .ref (G.ad 32 0))]) dX9_wipe_58 rfl rfl (Nat.le_of_ble_eq_true rfl) rfl ?_
      refine E_goto (t := 33) dX9_wipe_61 rfl ?_
      exact E_sub [1, 0] rfl (ih (v1 + 1) h1)
def jM_wipe (h : AH)  : Option (Int32 × AH) :=
  (jM_good h).bind fun h1 =>
  if (gI h1 32 0 14) = 0 then ((jM_isNot h1 6).bind fun q2 =>
  if isZ q2.1 = true then some (q2.1, q2.2) else none)
  else (if inb 1 340 = true then (
  if (gI h1 37 0 (1 : Int32).toNatClampNeg) = 0 then ((jM_isNot h1 6).bind fun q4 =>
  if isZ q4.1 = true then some (q4.1, q4.2) else none)
  else ((jM_note h1).bind fun h3 =>
  (jM_wipe_33 FU 0 h3))) else none)
set_option maxRecDepth 20000 in
set_option maxHeartbeats 2000000 in
theorem sM_wipe (G : JG) (h : AH)  : Mt G iM_wipe rvIM [.ref (G.ad 32 0)] h (jM_wipe h) := by
  refine Mt_of (by decide) (Nat.le_of_ble_eq_true rfl) ?_
  unfold jM_wipe
  show Sim G iM_wipe rvIM 0 [(0, .ref (G.ad 32 0))] [] h _
  refine E_aload_n dX9_wipe_0 rfl 0 rfl ?_
  refine E_cVV (As := []) (rest := []) (sM_good G h) ck_X9_good lk_X9_155 rfl rfl kc_32 z32 rfl rfl rfl dX9_wipe_1 (fun h1 _ => ?_)
  refine E_aload_n dX9_wipe_4 rfl 0 rfl ?_
  refine E_getI fl_X9_168 dX9_wipe_5 z32 ?_
  refine E_if_eq (t := 20) dX9_wipe_8 rfl ?_ ?_
  · refine E_aload_n dX9_wipe_20 rfl 0 rfl ?_
    refine E_bipush (v := 6) dX9_wipe_21 rfl ?_
    refine E_cVIM (As := [.int 6]) (rest := []) (sM_isNot G h1 6) ck_X9_isNot lk_X9_380 rfl rfl kc_32 z32 rfl rfl rfl dX9_wipe_23 (fun q2 _ => ?_)
    exact E_zretg rfl rfl dX9_wipe_26
  · refine E_aload_n dX9_wipe_11 rfl 0 rfl ?_
    refine E_getF fl_X9_26 dX9_wipe_12 z32 ?_
    refine E_iconst (v := 1) dX9_wipe_15 rfl ?_
    refine E_iald (n := 340) rfl dX9_wipe_16 z37 (fun _ => ?_)
    refine E_if_ne (t := 27) dX9_wipe_17 rfl ?_ ?_
    · refine E_aload_n dX9_wipe_27 rfl 0 rfl ?_
      refine E_cVV (As := []) (rest := []) (sM_note G h1) ck_X9_note lk_X9_383 rfl rfl kc_32 z32 rfl rfl rfl dX9_wipe_28 (fun h3 _ => ?_)
      refine E_iconst (v := 0) dX9_wipe_31 rfl ?_
      refine E_istore_n (ls' := [(1, .int 0), (0, .ref (G.ad 32 0))]) dX9_wipe_32 rfl (Nat.le_of_ble_eq_true rfl) rfl ?_
      exact E_sub [1, 0] rfl (sM_wipe_33 G FU 0 h3)
    · refine E_aload_n dX9_wipe_20 rfl 0 rfl ?_
      refine E_bipush (v := 6) dX9_wipe_21 rfl ?_
      refine E_cVIM (As := [.int 6]) (rest := []) (sM_isNot G h1 6) ck_X9_isNot lk_X9_380 rfl rfl kc_32 z32 rfl rfl rfl dX9_wipe_23 (fun q4 _ => ?_)
      exact E_zretg rfl rfl dX9_wipe_26
def iM_work : MI := (yX9_work, cX9_work, 3, (some .int), { frames := 4, cells := 0, slots := 0, locals := 94 }, 1)
theorem ck_X9_work : CK iM_work 2 := ⟨⟨wd_113, wd_1616, by decide +kernel⟩, ⟨wd_1614, wd_1615⟩⟩
def jM_work (h : AH) (v1 : Int32) (v2 : Int32) : Option (Int32 × AH) :=
  (jM_good h).bind fun h1 =>
  (jM_isWork h1 v1).bind fun r2 =>
  if r2 = 0 then ((jM_no h1 1).bind fun q14 =>
  some (q14.1, q14.2))
  else (if v2 = 0 then (if inb ((2 + (26 * v1)) + 0) 340 = true then (
  some ((gI h1 37 0 ((2 + (26 * v1)) + 0).toNatClampNeg), h1)) else none)
  else if v2 = 1 then ((jM_yearOf h1 v1).bind fun r3 =>
  some (r3, h1))
  else if v2 = 2 then ((jM_painted h1 v1).bind fun r4 =>
  (jM_bits r4).bind fun r5 =>
  some (r5, h1))
  else if v2 = 3 then ((jM_cellMany h1).bind fun r6 =>
  (jM_painted h1 v1).bind fun r7 =>
  (jM_bits r7).bind fun r8 =>
  some ((r6 - r8), h1))
  else if v2 = 4 then ((jM_allCells h1).bind fun r9 =>
  (jM_painted h1 v1).bind fun r10 =>
  (jM_partsOf h1 (r9 &&& (r10 ^^^ (-1)))).bind fun r11 =>
  some (r11, h1))
  else ((jM_no h1 1).bind fun q12 =>
  some (q12.1, q12.2)))
set_option maxRecDepth 20000 in
set_option maxHeartbeats 2000000 in
theorem sM_work (G : JG) (h : AH) (v1 : Int32) (v2 : Int32) : Mt G iM_work rvIM [.ref (G.ad 32 0), .int v1, .int v2] h (jM_work h v1 v2) := by
  refine Mt_of (by decide) (Nat.le_of_ble_eq_true rfl) ?_
  unfold jM_work
  show Sim G iM_work rvIM 0 [(0, .ref (G.ad 32 0)), (1, .int v1), (2, .int v2)] [] h _
  refine E_aload_n dX9_work_0 rfl 0 rfl ?_
  refine E_cVV (As := []) (rest := []) (sM_good G h) ck_X9_good lk_X9_155 rfl rfl kc_32 z32 rfl rfl rfl dX9_work_1 (fun h1 _ => ?_)
  refine E_aload_n dX9_work_4 rfl 0 rfl ?_
  refine E_iload_n dX9_work_5 rfl 1 rfl ?_
  refine E_cVI (As := [.int v1]) (rest := []) (sM_isWork G h1 v1) ck_X9_isWork lk_X9_326 rfl rfl kc_32 z32 rfl rfl rfl dX9_work_6 (fun r2 _ => ?_)
  refine E_if_ne (t := 18) dX9_work_9 rfl ?_ ?_
  · refine E_iload_n dX9_work_18 rfl 2 rfl ?_
    refine E_tsw (t := 112) [52, 66, 72, 81, 95] dX9_work_19 rfl rfl (by decide) (fun hx13 => ?_) (fun j hj hx13 => ?_)
    · rw [if_neg (show ¬ v2 = 0 from fun z => by rw [z] at hx13; revert hx13; decide)]
      rw [if_neg (show ¬ v2 = 1 from fun z => by rw [z] at hx13; revert hx13; decide)]
      rw [if_neg (show ¬ v2 = 2 from fun z => by rw [z] at hx13; revert hx13; decide)]
      rw [if_neg (show ¬ v2 = 3 from fun z => by rw [z] at hx13; revert hx13; decide)]
      rw [if_neg (show ¬ v2 = 4 from fun z => by rw [z] at hx13; revert hx13; decide)]
      refine E_aload_n dX9_work_112 rfl 0 rfl ?_
      refine E_iconst (v := 1) dX9_work_113 rfl ?_
      refine E_cVIM (As := [.int 1]) (rest := []) (sM_no G h1 1) ck_X9_no lk_X9_158 rfl rfl kc_32 z32 rfl rfl rfl dX9_work_114 (fun q12 _ => ?_)
      exact E_iret rfl rfl dX9_work_117
    · rcases j with _ | _ | _ | _ | _ | j
      · have ex : v2 = 0 := Int32.toInt_inj.mp (hx13.trans rfl)
        rw [if_pos ex]
        show Sim G iM_work rvIM 52 [(0, .ref (G.ad 32 0)), (1, .int v1), (2, .int v2)] [] h1 _
        refine E_aload_n dX9_work_52 rfl 0 rfl ?_
        refine E_getF fl_X9_26 dX9_work_53 z32 ?_
        refine E_iconst (v := 2) dX9_work_56 rfl ?_
        refine E_bipush (v := 26) dX9_work_57 rfl ?_
        refine E_iload_n dX9_work_59 rfl 1 rfl ?_
        refine E_imul dX9_work_60 ?_
        refine E_iadd dX9_work_61 ?_
        refine E_iconst (v := 0) dX9_work_62 rfl ?_
        refine E_iadd dX9_work_63 ?_
        refine E_iald (n := 340) rfl dX9_work_64 z37 (fun _ => ?_)
        exact E_iret rfl rfl dX9_work_65
      · have ex : v2 = 1 := Int32.toInt_inj.mp (hx13.trans rfl)
        rw [if_neg (show ¬ v2 = 0 from fun z => absurd (ex.symm.trans z) (by decide))]
        rw [if_pos ex]
        show Sim G iM_work rvIM 66 [(0, .ref (G.ad 32 0)), (1, .int v1), (2, .int v2)] [] h1 _
        refine E_aload_n dX9_work_66 rfl 0 rfl ?_
        refine E_iload_n dX9_work_67 rfl 1 rfl ?_
        refine E_cVI (As := [.int v1]) (rest := []) (sM_yearOf G h1 v1) ck_X9_yearOf lk_X9_278 rfl rfl kc_32 z32 rfl rfl rfl dX9_work_68 (fun r3 _ => ?_)
        exact E_iret rfl rfl dX9_work_71
      · have ex : v2 = 2 := Int32.toInt_inj.mp (hx13.trans rfl)
        rw [if_neg (show ¬ v2 = 0 from fun z => absurd (ex.symm.trans z) (by decide))]
        rw [if_neg (show ¬ v2 = 1 from fun z => absurd (ex.symm.trans z) (by decide))]
        rw [if_pos ex]
        show Sim G iM_work rvIM 72 [(0, .ref (G.ad 32 0)), (1, .int v1), (2, .int v2)] [] h1 _
        refine E_aload_n dX9_work_72 rfl 0 rfl ?_
        refine E_iload_n dX9_work_73 rfl 1 rfl ?_
        refine E_cVI (As := [.int v1]) (rest := []) (sM_painted G h1 v1) ck_X9_painted lk_X9_311 rfl rfl kc_32 z32 rfl rfl rfl dX9_work_74 (fun r4 _ => ?_)
        refine E_cSI (As := [.int r4]) (rest := []) (sM_bits G h1 r4) ck_X9_bits lk_X9_302 rfl rfl rfl rfl rfl dX9_work_77 (fun r5 _ => ?_)
        exact E_iret rfl rfl dX9_work_80
      · have ex : v2 = 3 := Int32.toInt_inj.mp (hx13.trans rfl)
        rw [if_neg (show ¬ v2 = 0 from fun z => absurd (ex.symm.trans z) (by decide))]
        rw [if_neg (show ¬ v2 = 1 from fun z => absurd (ex.symm.trans z) (by decide))]
        rw [if_neg (show ¬ v2 = 2 from fun z => absurd (ex.symm.trans z) (by decide))]
        rw [if_pos ex]
        show Sim G iM_work rvIM 81 [(0, .ref (G.ad 32 0)), (1, .int v1), (2, .int v2)] [] h1 _
        refine E_aload_n dX9_work_81 rfl 0 rfl ?_
        refine E_cVI (As := []) (rest := []) (sM_cellMany G h1) ck_X9_cellMany lk_X9_287 rfl rfl kc_32 z32 rfl rfl rfl dX9_work_82 (fun r6 _ => ?_)
        refine E_aload_n dX9_work_85 rfl 0 rfl ?_
        refine E_iload_n dX9_work_86 rfl 1 rfl ?_
        refine E_cVI (As := [.int v1]) (rest := [.int r6]) (sM_painted G h1 v1) ck_X9_painted lk_X9_311 rfl rfl kc_32 z32 rfl rfl rfl dX9_work_87 (fun r7 _ => ?_)
        refine E_cSI (As := [.int r7]) (rest := [.int r6]) (sM_bits G h1 r7) ck_X9_bits lk_X9_302 rfl rfl rfl rfl rfl dX9_work_90 (fun r8 _ => ?_)
        refine E_isub dX9_work_93 ?_
        exact E_iret rfl rfl dX9_work_94
      · have ex : v2 = 4 := Int32.toInt_inj.mp (hx13.trans rfl)
        rw [if_neg (show ¬ v2 = 0 from fun z => absurd (ex.symm.trans z) (by decide))]
        rw [if_neg (show ¬ v2 = 1 from fun z => absurd (ex.symm.trans z) (by decide))]
        rw [if_neg (show ¬ v2 = 2 from fun z => absurd (ex.symm.trans z) (by decide))]
        rw [if_neg (show ¬ v2 = 3 from fun z => absurd (ex.symm.trans z) (by decide))]
        rw [if_pos ex]
        show Sim G iM_work rvIM 95 [(0, .ref (G.ad 32 0)), (1, .int v1), (2, .int v2)] [] h1 _
        refine E_aload_n dX9_work_95 rfl 0 rfl ?_
        refine E_aload_n dX9_work_96 rfl 0 rfl ?_
        refine E_cVI (As := []) (rest := [.ref (G.ad 32 0)]) (sM_allCells G h1) ck_X9_allCells lk_X9_299 rfl rfl kc_32 z32 rfl rfl rfl dX9_work_97 (fun r9 _ => ?_)
        refine E_aload_n dX9_work_100 rfl 0 rfl ?_
        refine E_iload_n dX9_work_101 rfl 1 rfl ?_
        refine E_cVI (As := [.int v1]) (rest := [.int r9, .ref (G.ad 32 0)]) (sM_painted G h1 v1) ck_X9_painted lk_X9_311 rfl rfl kc_32 z32 rfl rfl rfl dX9_work_102 (fun r10 _ => ?_)
        refine E_iconst (v := (-1)) dX9_work_105 rfl ?_
        refine E_ixor dX9_work_106 ?_
        refine E_iand dX9_work_107 ?_
        refine E_cVI (As := [.int (r9 &&& (r10 ^^^ (-1)))]) (rest := []) (sM_partsOf G h1 (r9 &&& (r10 ^^^ (-1)))) ck_X9_partsOf lk_X9_305 rfl rfl kc_32 z32 rfl rfl rfl dX9_work_108 (fun r11 _ => ?_)
        exact E_iret rfl rfl dX9_work_111
      · exact absurd hj (by show ¬ (j + 5 < 5); omega)
  · refine E_aload_n dX9_work_12 rfl 0 rfl ?_
    refine E_iconst (v := 1) dX9_work_13 rfl ?_
    refine E_cVIM (As := [.int 1]) (rest := []) (sM_no G h1 1) ck_X9_no lk_X9_158 rfl rfl kc_32 z32 rfl rfl rfl dX9_work_14 (fun q14 _ => ?_)
    exact E_iret rfl rfl dX9_work_17
