/-! ===== the model, 1 ===== -/
def iM_before : MI := (yX9_before, cX9_before, 3, (some .int), { frames := 3, cells := 0, slots := 0, locals := 68 }, 1)
theorem ck_X9_before : CK iM_before 2 := ⟨⟨wd_113, wd_1693, by decide +kernel⟩, ⟨wd_1691, wd_1692⟩⟩
def jM_before (h : AH) (v1 : Int32) (v2 : Int32) : Option (Int32 × AH) :=
  (jM_good h).bind fun h1 =>
  (jM_isWork h1 v1).bind fun r2 =>
  if r2 = 0 then ((jM_no h1 1).bind fun q3 =>
  some (q3.1, q3.2))
  else ((jM_isWork h1 v2).bind fun r4 =>
  if r4 = 0 then ((jM_no h1 1).bind fun q5 =>
  some (q5.1, q5.2))
  else (if v1 = v2 then ((jM_no h1 1).bind fun q8 =>
  some (q8.1, q8.2))
  else ((jM_laySure h1).bind fun h6 =>
  if inb v2 12 = true then (
  (jM_has (gI h6 42 0 v2.toNatClampNeg) v1).bind fun r7 =>
  if r7 = 0 then (some (0, h6))
  else (some (1, h6))) else none)))
set_option maxRecDepth 20000 in
set_option maxHeartbeats 2000000 in
theorem sM_before (G : JG) (h : AH) (v1 : Int32) (v2 : Int32) : Mt G iM_before rvIM [.ref (G.ad 32 0), .int v1, .int v2] h (jM_before h v1 v2) := by
  refine Mt_of (by decide) (Nat.le_of_ble_eq_true rfl) ?_
  unfold jM_before
  show Sim G iM_before rvIM 0 [(0, .ref (G.ad 32 0)), (1, .int v1), (2, .int v2)] [] h _
  refine E_aload_n dX9_before_0 rfl 0 rfl ?_
  refine E_cVV (As := []) (rest := []) (sM_good G h) ck_X9_good lk_X9_155 rfl rfl kc_32 z32 rfl rfl rfl dX9_before_1 (fun h1 _ => ?_)
  refine E_aload_n dX9_before_4 rfl 0 rfl ?_
  refine E_iload_n dX9_before_5 rfl 1 rfl ?_
  refine E_cVI (As := [.int v1]) (rest := []) (sM_isWork G h1 v1) ck_X9_isWork lk_X9_326 rfl rfl kc_32 z32 rfl rfl rfl dX9_before_6 (fun r2 _ => ?_)
  refine E_if_eq (t := 25) dX9_before_9 rfl ?_ ?_
  · refine E_aload_n dX9_before_25 rfl 0 rfl ?_
    refine E_iconst (v := 1) dX9_before_26 rfl ?_
    refine E_cVIM (As := [.int 1]) (rest := []) (sM_no G h1 1) ck_X9_no lk_X9_158 rfl rfl kc_32 z32 rfl rfl rfl dX9_before_27 (fun q3 _ => ?_)
    exact E_iret rfl rfl dX9_before_30
  · refine E_aload_n dX9_before_12 rfl 0 rfl ?_
    refine E_iload_n dX9_before_13 rfl 2 rfl ?_
    refine E_cVI (As := [.int v2]) (rest := []) (sM_isWork G h1 v2) ck_X9_isWork lk_X9_326 rfl rfl kc_32 z32 rfl rfl rfl dX9_before_14 (fun r4 _ => ?_)
    refine E_if_eq (t := 25) dX9_before_17 rfl ?_ ?_
    · refine E_aload_n dX9_before_25 rfl 0 rfl ?_
      refine E_iconst (v := 1) dX9_before_26 rfl ?_
      refine E_cVIM (As := [.int 1]) (rest := []) (sM_no G h1 1) ck_X9_no lk_X9_158 rfl rfl kc_32 z32 rfl rfl rfl dX9_before_27 (fun q5 _ => ?_)
      exact E_iret rfl rfl dX9_before_30
    · refine E_iload_n dX9_before_20 rfl 1 rfl ?_
      refine E_iload_n dX9_before_21 rfl 2 rfl ?_
      refine E_icmp_ne (t := 31) dX9_before_22 rfl ?_ ?_
      · refine E_aload_n dX9_before_31 rfl 0 rfl ?_
        refine E_cVV (As := []) (rest := []) (sM_laySure G h1) ck_X9_laySure lk_X9_332 rfl rfl kc_32 z32 rfl rfl rfl dX9_before_32 (fun h6 _ => ?_)
        refine E_aload_n dX9_before_35 rfl 0 rfl ?_
        refine E_getF fl_X9_41 dX9_before_36 z32 ?_
        refine E_iload_n dX9_before_39 rfl 2 rfl ?_
        refine E_iald (n := 12) rfl dX9_before_40 z42 (fun _ => ?_)
        refine E_iload_n dX9_before_41 rfl 1 rfl ?_
        refine E_cSI (As := [.int (gI h6 42 0 v2.toNatClampNeg), .int v1]) (rest := []) (sM_has G h6 (gI h6 42 0 v2.toNatClampNeg) v1) ck_X9_has lk_X9_290 rfl rfl rfl rfl rfl dX9_before_42 (fun r7 _ => ?_)
        refine E_if_eq (t := 52) dX9_before_45 rfl ?_ ?_
        · refine E_iconst (v := 0) dX9_before_52 rfl ?_
          exact E_iret rfl rfl dX9_before_53
        · refine E_iconst (v := 1) dX9_before_48 rfl ?_
          refine E_goto (t := 53) dX9_before_49 rfl ?_
          exact E_iret rfl rfl dX9_before_53
      · refine E_aload_n dX9_before_25 rfl 0 rfl ?_
        refine E_iconst (v := 1) dX9_before_26 rfl ?_
        refine E_cVIM (As := [.int 1]) (rest := []) (sM_no G h1 1) ck_X9_no lk_X9_158 rfl rfl kc_32 z32 rfl rfl rfl dX9_before_27 (fun q8 _ => ?_)
        exact E_iret rfl rfl dX9_before_30
def iM_yearOf : MI := (yX9_yearOf, cX9_yearOf, 2, (some .int), { frames := 0, cells := 0, slots := 0, locals := 0 }, 1)
theorem ck_X9_yearOf : CK iM_yearOf 1 := ⟨⟨wd_113, wd_1572, by decide +kernel⟩, ⟨wd_1571, wd_73⟩⟩
def jM_yearOf (h : AH) (v1 : Int32) : Option (Int32) :=
  if inb ((2 + (26 * v1)) + 1) 340 = true then (
  some (gI h 37 0 ((2 + (26 * v1)) + 1).toNatClampNeg)) else none
set_option maxRecDepth 20000 in
set_option maxHeartbeats 2000000 in
theorem sM_yearOf (G : JG) (h : AH) (v1 : Int32) : Mt G iM_yearOf (rvI h) [.ref (G.ad 32 0), .int v1] h (jM_yearOf h v1) := by
  refine Mt_of (by decide) (Nat.le_of_ble_eq_true rfl) ?_
  unfold jM_yearOf
  show Sim G iM_yearOf (rvI h) 0 [(0, .ref (G.ad 32 0)), (1, .int v1)] [] h _
  refine E_aload_n dX9_yearOf_0 rfl 0 rfl ?_
  refine E_getF fl_X9_26 dX9_yearOf_1 z32 ?_
  refine E_iconst (v := 2) dX9_yearOf_4 rfl ?_
  refine E_bipush (v := 26) dX9_yearOf_5 rfl ?_
  refine E_iload_n dX9_yearOf_7 rfl 1 rfl ?_
  refine E_imul dX9_yearOf_8 ?_
  refine E_iadd dX9_yearOf_9 ?_
  refine E_iconst (v := 1) dX9_yearOf_10 rfl ?_
  refine E_iadd dX9_yearOf_11 ?_
  refine E_iald (n := 340) rfl dX9_yearOf_12 z37 (fun _ => ?_)
  exact E_iret rfl rfl dX9_yearOf_13
def iM_note : MI := (yX9_note, cX9_note, 1, none, { frames := 1, cells := 0, slots := 0, locals := 25 }, 1)
theorem ck_X9_note : CK iM_note 0 := ⟨⟨wd_113, wd_1809, by decide +kernel⟩, ⟨wd_1808, wd_102⟩⟩
def jM_note (h : AH)  : Option (AH) :=
  (jM_copy h 37 0 39 0 340).bind fun h1 =>
  some h1
set_option maxRecDepth 20000 in
set_option maxHeartbeats 2000000 in
theorem sM_note (G : JG) (h : AH)  : Mt G iM_note rvV [.ref (G.ad 32 0)] h (jM_note h) := by
  refine Mt_of (by decide) (Nat.le_of_ble_eq_true rfl) ?_
  unfold jM_note
  show Sim G iM_note rvV 0 [(0, .ref (G.ad 32 0))] [] h _
  refine E_aload_n dX9_note_0 rfl 0 rfl ?_
  refine E_getF fl_X9_26 dX9_note_1 z32 ?_
  refine E_iconst (v := 0) dX9_note_4 rfl ?_
  refine E_aload_n dX9_note_5 rfl 0 rfl ?_
  refine E_getF fl_X9_32 dX9_note_6 z32 ?_
  refine E_iconst (v := 0) dX9_note_9 rfl ?_
  refine E_sipush (v := 340) dX9_note_10 rfl ?_
  refine E_cSV (As := [.ref (G.ad 37 0), .int 0, .ref (G.ad 39 0), .int 0, .int 340]) (rest := []) (sM_copy G h 37 rfl z37 0 39 rfl z39 0 340) ck_X9_copy lk_X9_164 rfl rfl rfl rfl rfl dX9_note_13 (fun h1 _ => ?_)
  exact E_vret rfl rfl dX9_note_16
def iM_did : MI := (yX9_did, cX9_did, 2, (some .boolean), { frames := 1, cells := 0, slots := 0, locals := 25 }, 1)
theorem ck_X9_did : CK iM_did 0 := ⟨⟨wd_113, wd_1813, by decide +kernel⟩, ⟨wd_1812, wd_103⟩⟩
def jM_did_50  (h : AH) : Option (Int32 × AH) :=
  (jM_copy h 39 0 40 (340 * (gI h 32 0 22)) 340).bind fun h1 =>
  jb (uI h1 32 0 22 ((gI h1 32 0 22) + 1)) fun h2 =>
  some (1, h2)
set_option maxRecDepth 20000 in
set_option maxHeartbeats 2000000 in
theorem sM_did_50 (G : JG)   (h : AH) : Sim G iM_did rvIM 50 [(0, .ref (G.ad 32 0))] [] h (jM_did_50 h) := by
  unfold jM_did_50
  refine E_aload_n dX9_did_50 rfl 0 rfl ?_
  refine E_getF fl_X9_32 dX9_did_51 z32 ?_
  refine E_iconst (v := 0) dX9_did_54 rfl ?_
  refine E_aload_n dX9_did_55 rfl 0 rfl ?_
  refine E_getF fl_X9_35 dX9_did_56 z32 ?_
  refine E_sipush (v := 340) dX9_did_59 rfl ?_
  refine E_aload_n dX9_did_62 rfl 0 rfl ?_
  refine E_getI fl_X9_171 dX9_did_63 z32 ?_
  refine E_imul dX9_did_66 ?_
  refine E_sipush (v := 340) dX9_did_67 rfl ?_
  refine E_cSV (As := [.ref (G.ad 39 0), .int 0, .ref (G.ad 40 0), .int (340 * (gI h 32 0 22)), .int 340]) (rest := []) (sM_copy G h 39 rfl z39 0 40 rfl z40 (340 * (gI h 32 0 22)) 340) ck_X9_copy lk_X9_164 rfl rfl rfl rfl rfl dX9_did_70 (fun h1 _ => ?_)
  refine E_aload_n dX9_did_73 rfl 0 rfl ?_
  refine E_dup dX9_did_74 rfl ?_
  refine E_getI fl_X9_171 dX9_did_75 z32 ?_
  refine E_iconst (v := 1) dX9_did_78 rfl ?_
  refine E_iadd dX9_did_79 ?_
  refine E_putI fs_X9_171 dX9_did_80 z32 ?_
  refine E_hgen (fun h2 => ?_)
  refine E_iconst (v := 1) dX9_did_83 rfl ?_
  exact E_zret rfl rfl rfl dX9_did_84
def jM_did_40  (h : AH) : Option (Int32 × AH) :=
  jb (uI h 32 0 22 ((gI h 32 0 22) - 1)) fun h1 =>
  (jM_did_50 h1)
set_option maxRecDepth 20000 in
set_option maxHeartbeats 2000000 in
theorem sM_did_40 (G : JG)   (h : AH) : Sim G iM_did rvIM 40 [(0, .ref (G.ad 32 0))] [] h (jM_did_40 h) := by
  unfold jM_did_40
  refine E_aload_n dX9_did_40 rfl 0 rfl ?_
  refine E_dup dX9_did_41 rfl ?_
  refine E_getI fl_X9_171 dX9_did_42 z32 ?_
  refine E_iconst (v := 1) dX9_did_45 rfl ?_
  refine E_isub dX9_did_46 ?_
  refine E_putI fs_X9_171 dX9_did_47 z32 ?_
  refine E_hgen (fun h1 => ?_)
  exact E_sub [0] rfl (sM_did_50 G h1)
def jM_did_11  : Nat → Int32 → AH → Option (Int32 × AH)
  | 0, _, _ => none
  | n + 1, v1, h =>
    if v1 < 2380 then (if inb (v1 + 340) 2720 = true then (
    if inb v1 2720 = true then (
    jb (uI h 40 0 v1.toNatClampNeg (gI h 40 0 (v1 + 340).toNatClampNeg)) fun h1 =>
    (jM_did_11 n (v1 + 1) h1)) else none) else none)
    else ((jM_did_40 h))
set_option maxRecDepth 20000 in
set_option maxHeartbeats 2000000 in
theorem sM_did_11 (G : JG)   : ∀ (n : Nat) (v1 : Int32) (h : AH), Sim G iM_did rvIM 11 [(0, .ref (G.ad 32 0)), (1, .int v1)] [] h (jM_did_11 n v1 h) := by
  intro n
  induction n with
  | zero => intro v1 h; exact E_none
  | succ n ih =>
    intro v1 h
    rw [jM_did_11]
    refine E_iload_n dX9_did_11 rfl 1 rfl ?_
    refine E_sipush (v := 2380) dX9_did_12 rfl ?_
    refine E_icmp_ge (t := 40) dX9_did_15 rfl ?_ ?_
    · exact E_sub [0] rfl (sM_did_40 G h)
    · refine E_aload_n dX9_did_18 rfl 0 rfl ?_
      refine E_getF fl_X9_35 dX9_did_19 z32 ?_
      refine E_iload_n dX9_did_22 rfl 1 rfl ?_
      refine E_aload_n dX9_did_23 rfl 0 rfl ?_
      refine E_getF fl_X9_35 dX9_did_24 z32 ?_
      refine E_iload_n dX9_did_27 rfl 1 rfl ?_
      refine E_sipush (v := 340) dX9_did_28 rfl ?_
      refine E_iadd dX9_did_31 ?_
      refine E_iald (n := 2720) rfl dX9_did_32 z40 (fun _ => ?_)
      refine E_iast (n := 2720) rfl dX9_did_33 z40 (fun _ => ?_)
      refine E_hgen (fun h1 => ?_)
      refine E_iinc (q := 1) (v := (v1 + 1)) (ls' := [(1, .int (v1 + 1)), (0, .ref (G.ad 32 0))]) dX9_did_34 rfl rfl (Nat.le_of_ble_eq_true rfl) rfl ?_
      refine E_goto (t := 11) dX9_did_37 rfl ?_
      exact E_sub [1, 0] rfl (ih (v1 + 1) h1)
def jM_did (h : AH)  : Option (Int32 × AH) :=
  if (gI h 32 0 22) = 8 then ((jM_did_11 FU 0 h))
  else ((jM_did_50 h))
set_option maxRecDepth 20000 in
set_option maxHeartbeats 2000000 in
theorem sM_did (G : JG) (h : AH)  : Mt G iM_did rvIM [.ref (G.ad 32 0)] h (jM_did h) := by
  refine Mt_of (by decide) (Nat.le_of_ble_eq_true rfl) ?_
  unfold jM_did
  show Sim G iM_did rvIM 0 [(0, .ref (G.ad 32 0))] [] h _
  refine E_aload_n dX9_did_0 rfl 0 rfl ?_
  refine E_getI fl_X9_171 dX9_did_1 z32 ?_
  refine E_bipush (v := 8) dX9_did_4 rfl ?_
  refine E_icmp_ne (t := 50) dX9_did_6 rfl ?_ ?_
  · exact E_sub [0] rfl (sM_did_50 G h)
  · refine E_iconst (v := 0) dX9_did_9 rfl ?_
    refine E_istore_n (ls' := [(1, .int 0), (0, .ref (G.ad 32 0))]) dX9_did_10 rfl (Nat.le_of_ble_eq_true rfl) rfl ?_
    exact E_sub [1, 0] rfl (sM_did_11 G FU 0 h)
def iM_begin : MI := (yX9_begin, cX9_begin, 5, (some .boolean), { frames := 2, cells := 0, slots := 0, locals := 46 }, 1)
theorem ck_X9_begin : CK iM_begin 2 := ⟨⟨wd_113, wd_1801, by decide +kernel⟩, ⟨wd_1799, wd_1800⟩⟩
def jM_begin_149 (v1 : Int32) (v2 : Int32) (v3 : Int32) (h : AH) : Option (Int32 × AH) :=
  if inb (v3 + 0) 340 = true then (
  jb (uI h 37 0 (v3 + 0).toNatClampNeg v1) fun h1 =>
  if inb (v3 + 1) 340 = true then (
  jb (uI h1 37 0 (v3 + 1).toNatClampNeg v2) fun h2 =>
  if inb 1 340 = true then (
  jb (uI h2 37 0 (1 : Int32).toNatClampNeg 1) fun h3 =>
  (jM_did h3).bind fun q4 =>
  if isZ q4.1 = true then some (q4.1, q4.2) else none) else none) else none) else none
set_option maxRecDepth 20000 in
set_option maxHeartbeats 2000000 in
theorem sM_begin_149 (G : JG) (v1 : Int32) (v2 : Int32)  (v3 : Int32) (h : AH) : Sim G iM_begin rvIM 149 [(0, .ref (G.ad 32 0)), (1, .int v1), (2, .int v2), (3, .int v3)] [] h (jM_begin_149 v1 v2 v3 h) := by
  unfold jM_begin_149
  refine E_aload_n dX9_begin_149 rfl 0 rfl ?_
  refine E_getF fl_X9_26 dX9_begin_150 z32 ?_
  refine E_iload_n dX9_begin_153 rfl 3 rfl ?_
  refine E_iconst (v := 0) dX9_begin_154 rfl ?_
  refine E_iadd dX9_begin_155 ?_
  refine E_iload_n dX9_begin_156 rfl 1 rfl ?_
  refine E_iast (n := 340) rfl dX9_begin_157 z37 (fun _ => ?_)
  refine E_hgen (fun h1 => ?_)
  refine E_aload_n dX9_begin_158 rfl 0 rfl ?_
  refine E_getF fl_X9_26 dX9_begin_159 z32 ?_
  refine E_iload_n dX9_begin_162 rfl 3 rfl ?_
  refine E_iconst (v := 1) dX9_begin_163 rfl ?_
  refine E_iadd dX9_begin_164 ?_
  refine E_iload_n dX9_begin_165 rfl 2 rfl ?_
  refine E_iast (n := 340) rfl dX9_begin_166 z37 (fun _ => ?_)
  refine E_hgen (fun h2 => ?_)
  refine E_aload_n dX9_begin_167 rfl 0 rfl ?_
  refine E_getF fl_X9_26 dX9_begin_168 z32 ?_
  refine E_iconst (v := 1) dX9_begin_171 rfl ?_
  refine E_iconst (v := 1) dX9_begin_172 rfl ?_
  refine E_iast (n := 340) rfl dX9_begin_173 z37 (fun _ => ?_)
  refine E_hgen (fun h3 => ?_)
  refine E_aload_n dX9_begin_174 rfl 0 rfl ?_
  refine E_cVIM (As := []) (rest := []) (sM_did G h3) ck_X9_did lk_X9_386 rfl rfl kc_32 z32 rfl rfl rfl dX9_begin_175 (fun q4 _ => ?_)
  exact E_zretg rfl rfl dX9_begin_178
def jM_begin_126 (v1 : Int32) (v2 : Int32) : Nat → Int32 → Int32 → AH → Option (Int32 × AH)
  | 0, _, _, _ => none
  | n + 1, v3, v4, h =>
    if v4 < 26 then (if inb (v3 + v4) 340 = true then (
    jb (uI h 37 0 (v3 + v4).toNatClampNeg 0) fun h1 =>
    (jM_begin_126 v1 v2 n v3 (v4 + 1) h1)) else none)
    else ((jM_begin_149 v1 v2 v3 h))
set_option maxRecDepth 20000 in
set_option maxHeartbeats 2000000 in
theorem sM_begin_126 (G : JG) (v1 : Int32) (v2 : Int32)  : ∀ (n : Nat) (v3 : Int32) (v4 : Int32) (h : AH), Sim G iM_begin rvIM 126 [(0, .ref (G.ad 32 0)), (1, .int v1), (2, .int v2), (3, .int v3), (4, .int v4)] [] h (jM_begin_126 v1 v2 n v3 v4 h) := by
  intro n
  induction n with
  | zero => intro v3 v4 h; exact E_none
  | succ n ih =>
    intro v3 v4 h
    rw [jM_begin_126]
    refine E_iload dX9_begin_126 4 rfl ?_
    refine E_bipush (v := 26) dX9_begin_128 rfl ?_
    refine E_icmp_ge (t := 149) dX9_begin_130 rfl ?_ ?_
    · exact E_sub [0, 1, 2, 3] rfl (sM_begin_149 G v1 v2 v3 h)
    · refine E_aload_n dX9_begin_133 rfl 0 rfl ?_
      refine E_getF fl_X9_26 dX9_begin_134 z32 ?_
      refine E_iload_n dX9_begin_137 rfl 3 rfl ?_
      refine E_iload dX9_begin_138 4 rfl ?_
      refine E_iadd dX9_begin_140 ?_
      refine E_iconst (v := 0) dX9_begin_141 rfl ?_
      refine E_iast (n := 340) rfl dX9_begin_142 z37 (fun _ => ?_)
      refine E_hgen (fun h1 => ?_)
      refine E_iinc (q := 4) (v := (v4 + 1)) (ls' := [(4, .int (v4 + 1)), (0, .ref (G.ad 32 0)), (1, .int v1), (2, .int v2), (3, .int v3)]) dX9_begin_143 rfl rfl (Nat.le_of_ble_eq_true rfl) rfl ?_
      refine E_goto (t := 126) dX9_begin_146 rfl ?_
      exact E_sub [1, 2, 3, 4, 0] rfl (ih v3 (v4 + 1) h1)
def jM_begin_59 (v1 : Int32) (v2 : Int32) (s0 : Int32) (s1 : Int32) (h : AH) : Option (Int32 × AH) :=
  (jM_within s1 s0 999).bind fun r1 =>
  if r1 = 0 then ((jM_isNot h 2).bind fun q6 =>
  if isZ q6.1 = true then some (q6.1, q6.2) else none)
  else (if inb 0 340 = true then (
  if (gI h 37 0 (0 : Int32).toNatClampNeg) = 12 then ((jM_isNot h 3).bind fun q5 =>
  if isZ q5.1 = true then some (q5.1, q5.2) else none)
  else (if inb 1 340 = true then (
  if (gI h 37 0 (1 : Int32).toNatClampNeg) = 1 then ((jM_isNot h 5).bind fun q4 =>
  if isZ q4.1 = true then some (q4.1, q4.2) else none)
  else ((jM_note h).bind fun h2 =>
  if inb 0 340 = true then (
  jb ((2 + (26 * (gI h2 37 0 (0 : Int32).toNatClampNeg))) : Int32) fun y3 =>
  (jM_begin_126 v1 v2 FU y3 0 h2)) else none)) else none)) else none)
set_option maxRecDepth 20000 in
set_option maxHeartbeats 2000000 in
theorem sM_begin_59 (G : JG) (v1 : Int32) (v2 : Int32)  (s0 : Int32) (s1 : Int32) (h : AH) : Sim G iM_begin rvIM 59 [(0, .ref (G.ad 32 0)), (1, .int v1), (2, .int v2)] [.int s0, .int s1] h (jM_begin_59 v1 v2 s0 s1 h) := by
  unfold jM_begin_59
  refine E_sipush (v := 999) dX9_begin_59 rfl ?_
  refine E_cSI (As := [.int s1, .int s0, .int 999]) (rest := []) (sM_within G h s1 s0 999) ck_X9_within lk_X9_139 rfl rfl rfl rfl rfl dX9_begin_62 (fun r1 _ => ?_)
  refine E_if_ne (t := 74) dX9_begin_65 rfl ?_ ?_
  · refine E_aload_n dX9_begin_74 rfl 0 rfl ?_
    refine E_getF fl_X9_26 dX9_begin_75 z32 ?_
    refine E_iconst (v := 0) dX9_begin_78 rfl ?_
    refine E_iald (n := 340) rfl dX9_begin_79 z37 (fun _ => ?_)
    refine E_bipush (v := 12) dX9_begin_80 rfl ?_
    refine E_icmp_ne (t := 91) dX9_begin_82 rfl ?_ ?_
    · refine E_aload_n dX9_begin_91 rfl 0 rfl ?_
      refine E_getF fl_X9_26 dX9_begin_92 z32 ?_
      refine E_iconst (v := 1) dX9_begin_95 rfl ?_
      refine E_iald (n := 340) rfl dX9_begin_96 z37 (fun _ => ?_)
      refine E_iconst (v := 1) dX9_begin_97 rfl ?_
      refine E_icmp_ne (t := 107) dX9_begin_98 rfl ?_ ?_
      · refine E_aload_n dX9_begin_107 rfl 0 rfl ?_
        refine E_cVV (As := []) (rest := []) (sM_note G h) ck_X9_note lk_X9_383 rfl rfl kc_32 z32 rfl rfl rfl dX9_begin_108 (fun h2 _ => ?_)
        refine E_iconst (v := 2) dX9_begin_111 rfl ?_
        refine E_bipush (v := 26) dX9_begin_112 rfl ?_
        refine E_aload_n dX9_begin_114 rfl 0 rfl ?_
        refine E_getF fl_X9_26 dX9_begin_115 z32 ?_
        refine E_iconst (v := 0) dX9_begin_118 rfl ?_
        refine E_iald (n := 340) rfl dX9_begin_119 z37 (fun _ => ?_)
        refine E_imul dX9_begin_120 ?_
        refine E_iadd dX9_begin_121 ?_
        refine E_topi (fun y3 => ?_)
        refine E_istore_n (ls' := [(3, .int y3), (0, .ref (G.ad 32 0)), (1, .int v1), (2, .int v2)]) dX9_begin_122 rfl (Nat.le_of_ble_eq_true rfl) rfl ?_
        refine E_iconst (v := 0) dX9_begin_123 rfl ?_
        refine E_istore (ls' := [(4, .int 0), (3, .int y3), (0, .ref (G.ad 32 0)), (1, .int v1), (2, .int v2)]) dX9_begin_124 (Nat.le_of_ble_eq_true rfl) rfl ?_
        exact E_sub [2, 3, 4, 1, 0] rfl (sM_begin_126 G v1 v2 FU y3 0 h2)
      · refine E_aload_n dX9_begin_101 rfl 0 rfl ?_
        refine E_iconst (v := 5) dX9_begin_102 rfl ?_
        refine E_cVIM (As := [.int 5]) (rest := []) (sM_isNot G h 5) ck_X9_isNot lk_X9_380 rfl rfl kc_32 z32 rfl rfl rfl dX9_begin_103 (fun q4 _ => ?_)
        exact E_zretg rfl rfl dX9_begin_106
    · refine E_aload_n dX9_begin_85 rfl 0 rfl ?_
      refine E_iconst (v := 3) dX9_begin_86 rfl ?_
      refine E_cVIM (As := [.int 3]) (rest := []) (sM_isNot G h 3) ck_X9_isNot lk_X9_380 rfl rfl kc_32 z32 rfl rfl rfl dX9_begin_87 (fun q5 _ => ?_)
      exact E_zretg rfl rfl dX9_begin_90
  · refine E_aload_n dX9_begin_68 rfl 0 rfl ?_
    refine E_iconst (v := 2) dX9_begin_69 rfl ?_
    refine E_cVIM (As := [.int 2]) (rest := []) (sM_isNot G h 2) ck_X9_isNot lk_X9_380 rfl rfl kc_32 z32 rfl rfl rfl dX9_begin_70 (fun q6 _ => ?_)
    exact E_zretg rfl rfl dX9_begin_73
def jM_begin (h : AH) (v1 : Int32) (v2 : Int32) : Option (Int32 × AH) :=
  (jM_good h).bind fun h1 =>
  if (gI h1 32 0 14) = 0 then ((jM_isNot h1 1).bind fun q2 =>
  if isZ q2.1 = true then some (q2.1, q2.2) else none)
  else (if inb 5 161 = true then (
  (jM_within v1 0 ((gI h1 35 0 (5 : Int32).toNatClampNeg) - 1)).bind fun r3 =>
  if r3 = 0 then ((jM_isNot h1 1).bind fun q5 =>
  if isZ q5.1 = true then some (q5.1, q5.2) else none)
  else (if inb 0 340 = true then (
  if (gI h1 37 0 (0 : Int32).toNatClampNeg) = 0 then ((jM_begin_59 v1 v2 0 v2 h1))
  else (if inb 0 340 = true then (
  (jM_yearOf h1 ((gI h1 37 0 (0 : Int32).toNatClampNeg) - 1)).bind fun r4 =>
  (jM_begin_59 v1 v2 r4 v2 h1)) else none)) else none)) else none)
set_option maxRecDepth 20000 in
set_option maxHeartbeats 2000000 in
theorem sM_begin (G : JG) (h : AH) (v1 : Int32) (v2 : Int32) : Mt G iM_begin rvIM [.ref (G.ad 32 0), .int v1, .int v2] h (jM_begin h v1 v2) := by
  refine Mt_of (by decide) (Nat.le_of_ble_eq_true rfl) ?_
  unfold jM_begin
  show Sim G iM_begin rvIM 0 [(0, .ref (G.ad 32 0)), (1, .int v1), (2, .int v2)] [] h _
  refine E_aload_n dX9_begin_0 rfl 0 rfl ?_
  refine E_cVV (As := []) (rest := []) (sM_good G h) ck_X9_good lk_X9_155 rfl rfl kc_32 z32 rfl rfl rfl dX9_begin_1 (fun h1 _ => ?_)
  refine E_aload_n dX9_begin_4 rfl 0 rfl ?_
  refine E_getI fl_X9_168 dX9_begin_5 z32 ?_
  refine E_if_eq (t := 27) dX9_begin_8 rfl ?_ ?_
  · refine E_aload_n dX9_begin_27 rfl 0 rfl ?_
    refine E_iconst (v := 1) dX9_begin_28 rfl ?_
    refine E_cVIM (As := [.int 1]) (rest := []) (sM_isNot G h1 1) ck_X9_isNot lk_X9_380 rfl rfl kc_32 z32 rfl rfl rfl dX9_begin_29 (fun q2 _ => ?_)
    exact E_zretg rfl rfl dX9_begin_32
  · refine E_iload_n dX9_begin_11 rfl 1 rfl ?_
    refine E_iconst (v := 0) dX9_begin_12 rfl ?_
    refine E_aload_n dX9_begin_13 rfl 0 rfl ?_
    refine E_getF fl_X9_20 dX9_begin_14 z32 ?_
    refine E_iconst (v := 5) dX9_begin_17 rfl ?_
    refine E_iald (n := 161) rfl dX9_begin_18 z35 (fun _ => ?_)
    refine E_iconst (v := 1) dX9_begin_19 rfl ?_
    refine E_isub dX9_begin_20 ?_
    refine E_cSI (As := [.int v1, .int 0, .int ((gI h1 35 0 (5 : Int32).toNatClampNeg) - 1)]) (rest := []) (sM_within G h1 v1 0 ((gI h1 35 0 (5 : Int32).toNatClampNeg) - 1)) ck_X9_within lk_X9_139 rfl rfl rfl rfl rfl dX9_begin_21 (fun r3 _ => ?_)
    refine E_if_ne (t := 33) dX9_begin_24 rfl ?_ ?_
    · refine E_iload_n dX9_begin_33 rfl 2 rfl ?_
      refine E_aload_n dX9_begin_34 rfl 0 rfl ?_
      refine E_getF fl_X9_26 dX9_begin_35 z32 ?_
      refine E_iconst (v := 0) dX9_begin_38 rfl ?_
      refine E_iald (n := 340) rfl dX9_begin_39 z37 (fun _ => ?_)
      refine E_if_ne (t := 47) dX9_begin_40 rfl ?_ ?_
      · refine E_aload_n dX9_begin_47 rfl 0 rfl ?_
        refine E_aload_n dX9_begin_48 rfl 0 rfl ?_
        refine E_getF fl_X9_26 dX9_begin_49 z32 ?_
        refine E_iconst (v := 0) dX9_begin_52 rfl ?_
        refine E_iald (n := 340) rfl dX9_begin_53 z37 (fun _ => ?_)
        refine E_iconst (v := 1) dX9_begin_54 rfl ?_
        refine E_isub dX9_begin_55 ?_
        refine E_cVI (As := [.int ((gI h1 37 0 (0 : Int32).toNatClampNeg) - 1)]) (rest := [.int v2]) (sM_yearOf G h1 ((gI h1 37 0 (0 : Int32).toNatClampNeg) - 1)) ck_X9_yearOf lk_X9_278 rfl rfl kc_32 z32 rfl rfl rfl dX9_begin_56 (fun r4 _ => ?_)
        exact E_sub [0, 1, 2] rfl (sM_begin_59 G v1 v2 r4 v2 h1)
      · refine E_iconst (v := 0) dX9_begin_43 rfl ?_
        refine E_goto (t := 59) dX9_begin_44 rfl ?_
        exact E_sub [0, 1, 2] rfl (sM_begin_59 G v1 v2 0 v2 h1)
    · refine E_aload_n dX9_begin_27 rfl 0 rfl ?_
      refine E_iconst (v := 1) dX9_begin_28 rfl ?_
      refine E_cVIM (As := [.int 1]) (rest := []) (sM_isNot G h1 1) ck_X9_isNot lk_X9_380 rfl rfl kc_32 z32 rfl rfl rfl dX9_begin_29 (fun q5 _ => ?_)
      exact E_zretg rfl rfl dX9_begin_32
def iM_isWord : MI := (yX9_isWord, cX9_isWord, 4, (some .boolean), { frames := 4, cells := 0, slots := 0, locals := 85 }, 1)
theorem ck_X9_isWord : CK iM_isWord 1 := ⟨⟨wd_113, wd_1377, by decide +kernel⟩, ⟨wd_1376, wd_46⟩⟩
def jM_isWord_32 (h : AH) (t1 : Nat) : Nat → Int32 → Int32 → Option (Int32)
  | 0, _, _ => none
  | n + 1, v2, v3 =>
    if v3 < (gI h 32 0 8) then (if v2 = 0 then ((jM_isWord_32 h t1 n 0 (v3 + 1)))
    else (if inb v3 8 = true then (
    if inb v3 (sLen.getD t1 0) = true then (
    if (gI h 34 0 v3.toNatClampNeg) = (strat t1 v3.toNatClampNeg) then ((jM_isWord_32 h t1 n 1 (v3 + 1)))
    else ((jM_isWord_32 h t1 n 0 (v3 + 1)))) else none) else none))
    else (if isZ v2 = true then some v2 else none)
set_option maxRecDepth 20000 in
set_option maxHeartbeats 2000000 in
theorem sM_isWord_32 (G : JG) (h : AH) (t1 : Nat) (ht1 : t1 < 17)  : ∀ (n : Nat) (v2 : Int32) (v3 : Int32), Sim G iM_isWord (rvI h) 32 [(0, .ref (G.ad 32 0)), (1, .ref (G.aK t1)), (2, .int v2), (3, .int v3)] [] h (jM_isWord_32 h t1 n v2 v3) := by
  intro n
  induction n with
  | zero => intro v2 v3; exact E_none
  | succ n ih =>
    intro v2 v3
    rw [jM_isWord_32]
    refine E_iload_n dX9_isWord_32 rfl 3 rfl ?_
    refine E_aload_n dX9_isWord_33 rfl 0 rfl ?_
    refine E_getI fl_X9_77 dX9_isWord_34 z32 ?_
    refine E_icmp_ge (t := 70) dX9_isWord_37 rfl ?_ ?_
    · refine E_iload_n dX9_isWord_70 rfl 2 rfl ?_
      exact E_zretg rfl rfl dX9_isWord_71
    · refine E_iload_n dX9_isWord_40 rfl 2 rfl ?_
      refine E_if_eq (t := 62) dX9_isWord_41 rfl ?_ ?_
      · refine E_iconst (v := 0) dX9_isWord_62 rfl ?_
        refine E_istore_n (ls' := [(2, .int 0), (0, .ref (G.ad 32 0)), (1, .ref (G.aK t1)), (3, .int v3)]) dX9_isWord_63 rfl (Nat.le_of_ble_eq_true rfl) rfl ?_
        refine E_iinc (q := 3) (v := (v3 + 1)) (ls' := [(3, .int (v3 + 1)), (2, .int 0), (0, .ref (G.ad 32 0)), (1, .ref (G.aK t1))]) dX9_isWord_64 rfl rfl (Nat.le_of_ble_eq_true rfl) rfl ?_
        refine E_goto (t := 32) dX9_isWord_67 rfl ?_
        exact E_sub [2, 3, 1, 0] rfl (ih 0 (v3 + 1))
      · refine E_aload_n dX9_isWord_44 rfl 0 rfl ?_
        refine E_getF fl_X9_17 dX9_isWord_45 z32 ?_
        refine E_iload_n dX9_isWord_48 rfl 3 rfl ?_
        refine E_iald (n := 8) rfl dX9_isWord_49 z34 (fun _ => ?_)
        refine E_aload_n dX9_isWord_50 rfl 1 rfl ?_
        refine E_iload_n dX9_isWord_51 rfl 3 rfl ?_
        refine E_charAt (t := t1) rfl ht1 lk_X9_106 rfl dX9_isWord_52 (fun _ => ?_)
        refine E_icmp_ne (t := 62) dX9_isWord_55 rfl ?_ ?_
        · refine E_iconst (v := 0) dX9_isWord_62 rfl ?_
          refine E_istore_n (ls' := [(2, .int 0), (0, .ref (G.ad 32 0)), (1, .ref (G.aK t1)), (3, .int v3)]) dX9_isWord_63 rfl (Nat.le_of_ble_eq_true rfl) rfl ?_
          refine E_iinc (q := 3) (v := (v3 + 1)) (ls' := [(3, .int (v3 + 1)), (2, .int 0), (0, .ref (G.ad 32 0)), (1, .ref (G.aK t1))]) dX9_isWord_64 rfl rfl (Nat.le_of_ble_eq_true rfl) rfl ?_
          refine E_goto (t := 32) dX9_isWord_67 rfl ?_
          exact E_sub [2, 3, 1, 0] rfl (ih 0 (v3 + 1))
        · refine E_iconst (v := 1) dX9_isWord_58 rfl ?_
          refine E_goto (t := 63) dX9_isWord_59 rfl ?_
          refine E_istore_n (ls' := [(2, .int 1), (0, .ref (G.ad 32 0)), (1, .ref (G.aK t1)), (3, .int v3)]) dX9_isWord_63 rfl (Nat.le_of_ble_eq_true rfl) rfl ?_
          refine E_iinc (q := 3) (v := (v3 + 1)) (ls' := [(3, .int (v3 + 1)), (2, .int 1), (0, .ref (G.ad 32 0)), (1, .ref (G.aK t1))]) dX9_isWord_64 rfl rfl (Nat.le_of_ble_eq_true rfl) rfl ?_
          refine E_goto (t := 32) dX9_isWord_67 rfl ?_
          exact E_sub [2, 3, 1, 0] rfl (ih 1 (v3 + 1))
def jM_isWord (h : AH) (t1 : Nat) : Option (Int32) :=
  if (gI h 32 0 13) = 0 then (if (gI h 32 0 6) = 2 then (if (gI h 32 0 8) = (strlen t1) then ((jM_isWord_32 h t1 FU 1 0))
  else (some 0))
  else (some 0))
  else (some 0)
set_option maxRecDepth 20000 in
set_option maxHeartbeats 2000000 in
theorem sM_isWord (G : JG) (h : AH) (t1 : Nat) (ht1 : t1 < 17) : Mt G iM_isWord (rvI h) [.ref (G.ad 32 0), .ref (G.aK t1)] h (jM_isWord h t1) := by
  refine Mt_of (by decide) (Nat.le_of_ble_eq_true rfl) ?_
  unfold jM_isWord
  show Sim G iM_isWord (rvI h) 0 [(0, .ref (G.ad 32 0)), (1, .ref (G.aK t1))] [] h _
  refine E_aload_n dX9_isWord_0 rfl 0 rfl ?_
  refine E_getI fl_X9_93 dX9_isWord_1 z32 ?_
  refine E_if_ne (t := 26) dX9_isWord_4 rfl ?_ ?_
  · refine E_iconst (v := 0) dX9_isWord_26 rfl ?_
    exact E_zret rfl rfl rfl dX9_isWord_27
  · refine E_aload_n dX9_isWord_7 rfl 0 rfl ?_
    refine E_getI fl_X9_83 dX9_isWord_8 z32 ?_
    refine E_iconst (v := 2) dX9_isWord_11 rfl ?_
    refine E_icmp_ne (t := 26) dX9_isWord_12 rfl ?_ ?_
    · refine E_iconst (v := 0) dX9_isWord_26 rfl ?_
      exact E_zret rfl rfl rfl dX9_isWord_27
    · refine E_aload_n dX9_isWord_15 rfl 0 rfl ?_
      refine E_getI fl_X9_77 dX9_isWord_16 z32 ?_
      refine E_aload_n dX9_isWord_19 rfl 1 rfl ?_
      refine E_strlen (t := t1) rfl ht1 lk_X9_100 rfl dX9_isWord_20 ?_
      refine E_icmp_eq (t := 28) dX9_isWord_23 rfl ?_ ?_
      · refine E_iconst (v := 1) dX9_isWord_28 rfl ?_
        refine E_istore_n (ls' := [(2, .int 1), (0, .ref (G.ad 32 0)), (1, .ref (G.aK t1))]) dX9_isWord_29 rfl (Nat.le_of_ble_eq_true rfl) rfl ?_
        refine E_iconst (v := 0) dX9_isWord_30 rfl ?_
        refine E_istore_n (ls' := [(3, .int 0), (2, .int 1), (0, .ref (G.ad 32 0)), (1, .ref (G.aK t1))]) dX9_isWord_31 rfl (Nat.le_of_ble_eq_true rfl) rfl ?_
        exact E_sub [2, 3, 1, 0] rfl (sM_isWord_32 G h t1 ht1 FU 1 0)
      · refine E_iconst (v := 0) dX9_isWord_26 rfl ?_
        exact E_zret rfl rfl rfl dX9_isWord_27
def iM_wrong : MI := (yX9_wrong, cX9_wrong, 3, none, { frames := 0, cells := 0, slots := 0, locals := 0 }, 1)
theorem ck_X9_wrong : CK iM_wrong 2 := ⟨⟨wd_113, wd_1429, by decide +kernel⟩, ⟨wd_1428, wd_47⟩⟩
def jM_wrong (h : AH) (v1 : Int32) (v2 : Int32) : Option (AH) :=
  if (gI h 32 0 13) = 0 then (jb (uI h 32 0 13 1) fun h1 =>
  jb (uI h1 32 0 9 v1) fun h2 =>
  jb (uI h2 32 0 10 v2) fun h3 =>
  some h3)
  else (some h)
set_option maxRecDepth 20000 in
set_option maxHeartbeats 2000000 in
theorem sM_wrong (G : JG) (h : AH) (v1 : Int32) (v2 : Int32) : Mt G iM_wrong rvV [.ref (G.ad 32 0), .int v1, .int v2] h (jM_wrong h v1 v2) := by
  refine Mt_of (by decide) (Nat.le_of_ble_eq_true rfl) ?_
  unfold jM_wrong
  show Sim G iM_wrong rvV 0 [(0, .ref (G.ad 32 0)), (1, .int v1), (2, .int v2)] [] h _
  refine E_aload_n dX9_wrong_0 rfl 0 rfl ?_
  refine E_getI fl_X9_93 dX9_wrong_1 z32 ?_
  refine E_if_eq (t := 8) dX9_wrong_4 rfl ?_ ?_
  · refine E_aload_n dX9_wrong_8 rfl 0 rfl ?_
    refine E_iconst (v := 1) dX9_wrong_9 rfl ?_
    refine E_putZ fs_X9_93 (Or.inr rfl) dX9_wrong_10 z32 ?_
    refine E_hgen (fun h1 => ?_)
    refine E_aload_n dX9_wrong_13 rfl 0 rfl ?_
    refine E_iload_n dX9_wrong_14 rfl 1 rfl ?_
    refine E_putI fs_X9_97 dX9_wrong_15 z32 ?_
    refine E_hgen (fun h2 => ?_)
    refine E_aload_n dX9_wrong_18 rfl 0 rfl ?_
    refine E_iload_n dX9_wrong_19 rfl 2 rfl ?_
    refine E_putI fs_X9_13 dX9_wrong_20 z32 ?_
    refine E_hgen (fun h3 => ?_)
    exact E_vret rfl rfl dX9_wrong_23
  · exact E_vret rfl rfl dX9_wrong_7
def iM_look : MI := (yX9_look, cX9_look, 2, (some .int), { frames := 0, cells := 0, slots := 0, locals := 0 }, 1)
theorem ck_X9_look : CK iM_look 1 := ⟨⟨wd_113, wd_1358, by decide +kernel⟩, ⟨wd_1357, wd_43⟩⟩
def jM_look (h : AH) (v1 : Int32) : Option (Int32) :=
  if v1 < (gI h 32 0 3) then (if inb v1 900 = true then (
  some (gI h 33 0 v1.toNatClampNeg)) else none)
  else (some (-1))
set_option maxRecDepth 20000 in
set_option maxHeartbeats 2000000 in
theorem sM_look (G : JG) (h : AH) (v1 : Int32) : Mt G iM_look (rvI h) [.ref (G.ad 32 0), .int v1] h (jM_look h v1) := by
  refine Mt_of (by decide) (Nat.le_of_ble_eq_true rfl) ?_
  unfold jM_look
  show Sim G iM_look (rvI h) 0 [(0, .ref (G.ad 32 0)), (1, .int v1)] [] h _
  refine E_iload_n dX9_look_0 rfl 1 rfl ?_
  refine E_aload_n dX9_look_1 rfl 0 rfl ?_
  refine E_getI fl_X9_64 dX9_look_2 z32 ?_
  refine E_icmp_ge (t := 17) dX9_look_5 rfl ?_ ?_
  · refine E_iconst (v := (-1)) dX9_look_17 rfl ?_
    exact E_iret rfl rfl dX9_look_18
  · refine E_aload_n dX9_look_8 rfl 0 rfl ?_
    refine E_getF fl_X9_7 dX9_look_9 z32 ?_
    refine E_iload_n dX9_look_12 rfl 1 rfl ?_
    refine E_iald (n := 900) rfl dX9_look_13 z33 (fun _ => ?_)
    refine E_goto (t := 18) dX9_look_14 rfl ?_
    exact E_iret rfl rfl dX9_look_18
def iM_isSmall : MI := (yX9_isSmall, cX9_isSmall, 1, (some .boolean), { frames := 0, cells := 0, slots := 0, locals := 0 }, 1)
theorem ck_X9_isSmall : CS iM_isSmall 1 := ⟨⟨wd_113, wd_1361, by decide +kernel⟩, wd_1360⟩
def jM_isSmall (v0 : Int32) : Option (Int32) :=
  if v0 < 97 then (some 0)
  else (if v0 ≤ 122 then (some 1)
  else (some 0))
set_option maxRecDepth 20000 in
set_option maxHeartbeats 2000000 in
theorem sM_isSmall (G : JG) (h : AH) (v0 : Int32) : Mt G iM_isSmall (rvI h) [.int v0] h (jM_isSmall v0) := by
  refine Mt_of (by decide) (Nat.le_of_ble_eq_true rfl) ?_
  unfold jM_isSmall
  show Sim G iM_isSmall (rvI h) 0 [(0, .int v0)] [] h _
  refine E_iload_n dX9_isSmall_0 rfl 0 rfl ?_
  refine E_bipush (v := 97) dX9_isSmall_1 rfl ?_
  refine E_icmp_lt (t := 16) dX9_isSmall_3 rfl ?_ ?_
  · refine E_iconst (v := 0) dX9_isSmall_16 rfl ?_
    exact E_zret rfl rfl rfl dX9_isSmall_17
  · refine E_iload_n dX9_isSmall_6 rfl 0 rfl ?_
    refine E_bipush (v := 122) dX9_isSmall_7 rfl ?_
    refine E_icmp_gt (t := 16) dX9_isSmall_9 rfl ?_ ?_
    · refine E_iconst (v := 0) dX9_isSmall_16 rfl ?_
      exact E_zret rfl rfl rfl dX9_isSmall_17
    · refine E_iconst (v := 1) dX9_isSmall_12 rfl ?_
      refine E_goto (t := 17) dX9_isSmall_13 rfl ?_
      exact E_zret rfl rfl rfl dX9_isSmall_17
def iM_isDigit : MI := (yX9_isDigit, cX9_isDigit, 1, (some .boolean), { frames := 0, cells := 0, slots := 0, locals := 0 }, 1)
theorem ck_X9_isDigit : CS iM_isDigit 1 := ⟨⟨wd_113, wd_1364, by decide +kernel⟩, wd_1363⟩
def jM_isDigit (v0 : Int32) : Option (Int32) :=
  if v0 < 48 then (some 0)
  else (if v0 ≤ 57 then (some 1)
  else (some 0))
set_option maxRecDepth 20000 in
set_option maxHeartbeats 2000000 in
theorem sM_isDigit (G : JG) (h : AH) (v0 : Int32) : Mt G iM_isDigit (rvI h) [.int v0] h (jM_isDigit v0) := by
  refine Mt_of (by decide) (Nat.le_of_ble_eq_true rfl) ?_
  unfold jM_isDigit
  show Sim G iM_isDigit (rvI h) 0 [(0, .int v0)] [] h _
  refine E_iload_n dX9_isDigit_0 rfl 0 rfl ?_
  refine E_bipush (v := 48) dX9_isDigit_1 rfl ?_
  refine E_icmp_lt (t := 16) dX9_isDigit_3 rfl ?_ ?_
  · refine E_iconst (v := 0) dX9_isDigit_16 rfl ?_
    exact E_zret rfl rfl rfl dX9_isDigit_17
  · refine E_iload_n dX9_isDigit_6 rfl 0 rfl ?_
    refine E_bipush (v := 57) dX9_isDigit_7 rfl ?_
    refine E_icmp_gt (t := 16) dX9_isDigit_9 rfl ?_ ?_
    · refine E_iconst (v := 0) dX9_isDigit_16 rfl ?_
      exact E_zret rfl rfl rfl dX9_isDigit_17
    · refine E_iconst (v := 1) dX9_isDigit_12 rfl ?_
      refine E_goto (t := 17) dX9_isDigit_13 rfl ?_
      exact E_zret rfl rfl rfl dX9_isDigit_17
def iM_next : MI := (yX9_next, cX9_next, 4, none, { frames := 1, cells := 0, slots := 0, locals := 21 }, 1)
theorem ck_X9_next : CK iM_next 0 := ⟨⟨wd_113, wd_1354, by decide +kernel⟩, ⟨wd_1353, wd_42⟩⟩
def jM_next_101 (k_67 : Int32 → AH → Option AH) (v1 : Int32) (h : AH) : Option (AH) :=
  jb (uI h 32 0 8 ((gI h 32 0 8) + 1)) fun h1 =>
  (k_67 (v1 + 1) h1)
set_option maxRecDepth 20000 in
set_option maxHeartbeats 2000000 in
theorem sM_next_101 (G : JG)  (k_67 : Int32 → AH → Option AH) (hk_67 : ∀ (v1 : Int32) (h : AH), Sim G iM_next rvV 67 [(0, .ref (G.ad 32 0)), (1, .int v1)] [] h (k_67 v1 h)) (v1 : Int32) (h : AH) : Sim G iM_next rvV 101 [(0, .ref (G.ad 32 0)), (1, .int v1)] [] h (jM_next_101 k_67 v1 h) := by
  unfold jM_next_101
  refine E_aload_n dX9_next_101 rfl 0 rfl ?_
  refine E_dup dX9_next_102 rfl ?_
  refine E_getI fl_X9_77 dX9_next_103 z32 ?_
  refine E_iconst (v := 1) dX9_next_106 rfl ?_
  refine E_iadd dX9_next_107 ?_
  refine E_putI fs_X9_77 dX9_next_108 z32 ?_
  refine E_hgen (fun h1 => ?_)
  refine E_iinc (q := 1) (v := (v1 + 1)) (ls' := [(1, .int (v1 + 1)), (0, .ref (G.ad 32 0))]) dX9_next_111 rfl rfl (Nat.le_of_ble_eq_true rfl) rfl ?_
  refine E_goto (t := 67) dX9_next_114 rfl ?_
  exact E_sub [1, 0] rfl (hk_67 (v1 + 1) h1)
def jM_next_117  (v1 : Int32) (h : AH) : Option (AH) :=
  jb (uI h 32 0 5 v1) fun h1 =>
  if (gI h1 32 0 8) ≤ 8 then (jb (uI h1 32 0 6 2) fun h2 =>
  some h2)
  else (jb (uI h1 32 0 6 1) fun h3 =>
  some h3)
set_option maxRecDepth 20000 in
set_option maxHeartbeats 2000000 in
theorem sM_next_117 (G : JG)   (v1 : Int32) (h : AH) : Sim G iM_next rvV 117 [(0, .ref (G.ad 32 0)), (1, .int v1)] [] h (jM_next_117 v1 h) := by
  unfold jM_next_117
  refine E_aload_n dX9_next_117 rfl 0 rfl ?_
  refine E_iload_n dX9_next_118 rfl 1 rfl ?_
  refine E_putI fs_X9_67 dX9_next_119 z32 ?_
  refine E_hgen (fun h1 => ?_)
  refine E_aload_n dX9_next_122 rfl 0 rfl ?_
  refine E_aload_n dX9_next_123 rfl 0 rfl ?_
  refine E_getI fl_X9_77 dX9_next_124 z32 ?_
  refine E_bipush (v := 8) dX9_next_127 rfl ?_
  refine E_icmp_le (t := 136) dX9_next_129 rfl ?_ ?_
  · refine E_iconst (v := 2) dX9_next_136 rfl ?_
    refine E_putI fs_X9_83 dX9_next_137 z32 ?_
    refine E_hgen (fun h2 => ?_)
    refine E_goto (t := 247) dX9_next_140 rfl ?_
    exact E_vret rfl rfl dX9_next_247
  · refine E_iconst (v := 1) dX9_next_132 rfl ?_
    refine E_goto (t := 137) dX9_next_133 rfl ?_
    refine E_putI fs_X9_83 dX9_next_137 z32 ?_
    refine E_hgen (fun h3 => ?_)
    refine E_goto (t := 247) dX9_next_140 rfl ?_
    exact E_vret rfl rfl dX9_next_247
def jM_next_67  : Nat → Int32 → AH → Option (AH)
  | 0, _, _ => none
  | n + 1, v1, h =>
    (jM_look h v1).bind fun r1 =>
    (jM_isSmall r1).bind fun r2 =>
    if r2 = 0 then ((jM_next_117 v1 h))
    else (if (gI h 32 0 8) < 8 then ((jM_look h v1).bind fun r3 =>
    if inb (gI h 32 0 8) 8 = true then (
    jb (uI h 34 0 (gI h 32 0 8).toNatClampNeg r3) fun h4 =>
    (jM_next_101 (jM_next_67 n) v1 h4)) else none)
    else ((jM_next_101 (jM_next_67 n) v1 h)))
set_option maxRecDepth 20000 in
set_option maxHeartbeats 2000000 in
theorem sM_next_67 (G : JG)   : ∀ (n : Nat) (v1 : Int32) (h : AH), Sim G iM_next rvV 67 [(0, .ref (G.ad 32 0)), (1, .int v1)] [] h (jM_next_67 n v1 h) := by
  intro n
  induction n with
  | zero => intro v1 h; exact E_none
  | succ n ih =>
    intro v1 h
    rw [jM_next_67]
    refine E_aload_n dX9_next_67 rfl 0 rfl ?_
    refine E_iload_n dX9_next_68 rfl 1 rfl ?_
    refine E_cVI (As := [.int v1]) (rest := []) (sM_look G h v1) ck_X9_look lk_X9_70 rfl rfl kc_32 z32 rfl rfl rfl dX9_next_69 (fun r1 _ => ?_)
    refine E_cSI (As := [.int r1]) (rest := []) (sM_isSmall G h r1) ck_X9_isSmall lk_X9_86 rfl rfl rfl rfl rfl dX9_next_72 (fun r2 _ => ?_)
    refine E_if_eq (t := 117) dX9_next_75 rfl ?_ ?_
    · exact E_sub [0, 1] rfl (sM_next_117 G v1 h)
    · refine E_aload_n dX9_next_78 rfl 0 rfl ?_
      refine E_getI fl_X9_77 dX9_next_79 z32 ?_
      refine E_bipush (v := 8) dX9_next_82 rfl ?_
      refine E_icmp_ge (t := 101) dX9_next_84 rfl ?_ ?_
      · exact E_sub [0, 1] rfl (sM_next_101 G (jM_next_67 n) ih v1 h)
      · refine E_aload_n dX9_next_87 rfl 0 rfl ?_
        refine E_getF fl_X9_17 dX9_next_88 z32 ?_
        refine E_aload_n dX9_next_91 rfl 0 rfl ?_
        refine E_getI fl_X9_77 dX9_next_92 z32 ?_
        refine E_aload_n dX9_next_95 rfl 0 rfl ?_
        refine E_iload_n dX9_next_96 rfl 1 rfl ?_
        refine E_cVI (As := [.int v1]) (rest := [.int (gI h 32 0 8), .ref (G.ad 34 0)]) (sM_look G h v1) ck_X9_look lk_X9_70 rfl rfl kc_32 z32 rfl rfl rfl dX9_next_97 (fun r3 _ => ?_)
        refine E_iast (n := 8) rfl dX9_next_100 z34 (fun _ => ?_)
        refine E_hgen (fun h4 => ?_)
        exact E_sub [0, 1] rfl (sM_next_101 G (jM_next_67 n) ih v1 h4)
def jM_next_197  (v1 : Int32) (v3 : Int32) (h : AH) : Option (AH) :=
  jb (uI h 32 0 5 v1) fun h1 =>
  if v3 ≤ 3 then (jb (uI h1 32 0 6 3) fun h2 =>
  some h2)
  else (jb (uI h1 32 0 6 1) fun h3 =>
  some h3)
set_option maxRecDepth 20000 in
set_option maxHeartbeats 2000000 in
theorem sM_next_197 (G : JG)   (v1 : Int32) (v3 : Int32) (h : AH) : Sim G iM_next rvV 197 [(0, .ref (G.ad 32 0)), (1, .int v1), (3, .int v3)] [] h (jM_next_197 v1 v3 h) := by
  unfold jM_next_197
  refine E_aload_n dX9_next_197 rfl 0 rfl ?_
  refine E_iload_n dX9_next_198 rfl 1 rfl ?_
  refine E_putI fs_X9_67 dX9_next_199 z32 ?_
  refine E_hgen (fun h1 => ?_)
  refine E_aload_n dX9_next_202 rfl 0 rfl ?_
  refine E_iload_n dX9_next_203 rfl 2 rfl ?_
  refine E_iconst (v := 3) dX9_next_204 rfl ?_
  refine E_icmp_le (t := 212) dX9_next_205 rfl ?_ ?_
  · refine E_iconst (v := 3) dX9_next_212 rfl ?_
    refine E_putI fs_X9_83 dX9_next_213 z32 ?_
    refine E_hgen (fun h2 => ?_)
    refine E_goto (t := 247) dX9_next_216 rfl ?_
    exact E_vret rfl rfl dX9_next_247
  · refine E_iconst (v := 1) dX9_next_208 rfl ?_
    refine E_goto (t := 213) dX9_next_209 rfl ?_
    refine E_putI fs_X9_83 dX9_next_213 z32 ?_
    refine E_hgen (fun h3 => ?_)
    refine E_goto (t := 247) dX9_next_216 rfl ?_
    exact E_vret rfl rfl dX9_next_247
def jM_next_152  : Nat → Int32 → Int32 → AH → Option (AH)
  | 0, _, _, _ => none
  | n + 1, v1, v3, h =>
    (jM_look h v1).bind fun r1 =>
    (jM_isDigit r1).bind fun r2 =>
    if r2 = 0 then ((jM_next_197 v1 v3 h))
    else (if v3 < 3 then ((jM_look h v1).bind fun r3 =>
    jb (uI h 32 0 7 (((10 * (gI h 32 0 7)) + r3) - 48)) fun h4 =>
    (jM_next_152 n (v1 + 1) (v3 + 1) h4))
    else ((jM_next_152 n (v1 + 1) (v3 + 1) h)))
set_option maxRecDepth 20000 in
set_option maxHeartbeats 2000000 in
theorem sM_next_152 (G : JG)   : ∀ (n : Nat) (v1 : Int32) (v3 : Int32) (h : AH), Sim G iM_next rvV 152 [(0, .ref (G.ad 32 0)), (1, .int v1), (3, .int v3)] [] h (jM_next_152 n v1 v3 h) := by
  intro n
  induction n with
  | zero => intro v1 v3 h; exact E_none
  | succ n ih =>
    intro v1 v3 h
    rw [jM_next_152]
    refine E_aload_n dX9_next_152 rfl 0 rfl ?_
    refine E_iload_n dX9_next_153 rfl 1 rfl ?_
    refine E_cVI (As := [.int v1]) (rest := []) (sM_look G h v1) ck_X9_look lk_X9_70 rfl rfl kc_32 z32 rfl rfl rfl dX9_next_154 (fun r1 _ => ?_)
    refine E_cSI (As := [.int r1]) (rest := []) (sM_isDigit G h r1) ck_X9_isDigit lk_X9_90 rfl rfl rfl rfl rfl dX9_next_157 (fun r2 _ => ?_)
    refine E_if_eq (t := 197) dX9_next_160 rfl ?_ ?_
    · exact E_sub [0, 1, 2] rfl (sM_next_197 G v1 v3 h)
    · refine E_iload_n dX9_next_163 rfl 2 rfl ?_
      refine E_iconst (v := 3) dX9_next_164 rfl ?_
      refine E_icmp_ge (t := 188) dX9_next_165 rfl ?_ ?_
      · refine E_iinc (q := 2) (v := (v3 + 1)) (ls' := [(3, .int (v3 + 1)), (0, .ref (G.ad 32 0)), (1, .int v1)]) dX9_next_188 rfl rfl (Nat.le_of_ble_eq_true rfl) rfl ?_
        refine E_iinc (q := 2) (v := (v1 + 1)) (ls' := [(1, .int (v1 + 1)), (3, .int (v3 + 1)), (0, .ref (G.ad 32 0))]) dX9_next_191 rfl rfl (Nat.le_of_ble_eq_true rfl) rfl ?_
        refine E_goto (t := 152) dX9_next_194 rfl ?_
        exact E_sub [2, 0, 1] rfl (ih (v1 + 1) (v3 + 1) h)
      · refine E_aload_n dX9_next_168 rfl 0 rfl ?_
        refine E_bipush (v := 10) dX9_next_169 rfl ?_
        refine E_aload_n dX9_next_171 rfl 0 rfl ?_
        refine E_getI fl_X9_80 dX9_next_172 z32 ?_
        refine E_imul dX9_next_175 ?_
        refine E_aload_n dX9_next_176 rfl 0 rfl ?_
        refine E_iload_n dX9_next_177 rfl 1 rfl ?_
        refine E_cVI (As := [.int v1]) (rest := [.int (10 * (gI h 32 0 7)), .ref (G.ad 32 0)]) (sM_look G h v1) ck_X9_look lk_X9_70 rfl rfl kc_32 z32 rfl rfl rfl dX9_next_178 (fun r3 _ => ?_)
        refine E_iadd dX9_next_181 ?_
        refine E_bipush (v := 48) dX9_next_182 rfl ?_
        refine E_isub dX9_next_184 ?_
        refine E_putI fs_X9_80 dX9_next_185 z32 ?_
        refine E_hgen (fun h4 => ?_)
        refine E_iinc (q := 2) (v := (v3 + 1)) (ls' := [(3, .int (v3 + 1)), (0, .ref (G.ad 32 0)), (1, .int v1)]) dX9_next_188 rfl rfl (Nat.le_of_ble_eq_true rfl) rfl ?_
        refine E_iinc (q := 2) (v := (v1 + 1)) (ls' := [(1, .int (v1 + 1)), (3, .int (v3 + 1)), (0, .ref (G.ad 32 0))]) dX9_next_191 rfl rfl (Nat.le_of_ble_eq_true rfl) rfl ?_
        refine E_goto (t := 152) dX9_next_194 rfl ?_
        exact E_sub [2, 0, 1] rfl (ih (v1 + 1) (v3 + 1) h4)
def jM_next_21  (v1 : Int32) (h : AH) : Option (AH) :=
  jb (uI h 32 0 4 v1) fun h1 =>
  (jM_look h1 v1).bind fun r2 =>
  jb (uI h1 32 0 8 0) fun h3 =>
  jb (uI h3 32 0 7 0) fun h4 =>
  if r2 = (-1) then (jb (uI h4 32 0 6 0) fun h11 =>
  jb (uI h11 32 0 5 v1) fun h12 =>
  some h12)
  else ((jM_isSmall r2).bind fun r5 =>
  if r5 = 0 then ((jM_isDigit r2).bind fun r6 =>
  if r6 = 0 then (jb (uI h4 32 0 5 (v1 + 1)) fun h7 =>
  if r2 = 59 then (jb (uI h7 32 0 6 r2) fun h8 =>
  some h8)
  else (if r2 = 44 then (jb (uI h7 32 0 6 r2) fun h10 =>
  some h10)
  else (jb (uI h7 32 0 6 1) fun h9 =>
  some h9)))
  else ((jM_next_152 FU v1 0 h4)))
  else ((jM_next_67 FU v1 h4)))
set_option maxRecDepth 20000 in
set_option maxHeartbeats 2000000 in
theorem sM_next_21 (G : JG)   (v1 : Int32) (h : AH) : Sim G iM_next rvV 21 [(0, .ref (G.ad 32 0)), (1, .int v1)] [] h (jM_next_21 v1 h) := by
  unfold jM_next_21
  refine E_aload_n dX9_next_21 rfl 0 rfl ?_
  refine E_iload_n dX9_next_22 rfl 1 rfl ?_
  refine E_putI fs_X9_74 dX9_next_23 z32 ?_
  refine E_hgen (fun h1 => ?_)
  refine E_aload_n dX9_next_26 rfl 0 rfl ?_
  refine E_iload_n dX9_next_27 rfl 1 rfl ?_
  refine E_cVI (As := [.int v1]) (rest := []) (sM_look G h1 v1) ck_X9_look lk_X9_70 rfl rfl kc_32 z32 rfl rfl rfl dX9_next_28 (fun r2 _ => ?_)
  refine E_istore_n (ls' := [(2, .int r2), (0, .ref (G.ad 32 0)), (1, .int v1)]) dX9_next_31 rfl (Nat.le_of_ble_eq_true rfl) rfl ?_
  refine E_aload_n dX9_next_32 rfl 1 rfl ?_
  refine E_iconst (v := 0) dX9_next_33 rfl ?_
  refine E_putI fs_X9_77 dX9_next_34 z32 ?_
  refine E_hgen (fun h3 => ?_)
  refine E_aload_n dX9_next_37 rfl 1 rfl ?_
  refine E_iconst (v := 0) dX9_next_38 rfl ?_
  refine E_putI fs_X9_80 dX9_next_39 z32 ?_
  refine E_hgen (fun h4 => ?_)
  refine E_iload_n dX9_next_42 rfl 0 rfl ?_
  refine E_iconst (v := (-1)) dX9_next_43 rfl ?_
  refine E_icmp_ne (t := 60) dX9_next_44 rfl ?_ ?_
  · refine E_iload_n dX9_next_60 rfl 0 rfl ?_
    refine E_cSI (As := [.int r2]) (rest := []) (sM_isSmall G h4 r2) ck_X9_isSmall lk_X9_86 rfl rfl rfl rfl rfl dX9_next_61 (fun r5 _ => ?_)
    refine E_if_eq (t := 143) dX9_next_64 rfl ?_ ?_
    · refine E_iload_n dX9_next_143 rfl 0 rfl ?_
      refine E_cSI (As := [.int r2]) (rest := []) (sM_isDigit G h4 r2) ck_X9_isDigit lk_X9_90 rfl rfl rfl rfl rfl dX9_next_144 (fun r6 _ => ?_)
      refine E_if_eq (t := 219) dX9_next_147 rfl ?_ ?_
      · refine E_aload_n dX9_next_219 rfl 1 rfl ?_
        refine E_iload_n dX9_next_220 rfl 2 rfl ?_
        refine E_iconst (v := 1) dX9_next_221 rfl ?_
        refine E_iadd dX9_next_222 ?_
        refine E_putI fs_X9_67 dX9_next_223 z32 ?_
        refine E_hgen (fun h7 => ?_)
        refine E_aload_n dX9_next_226 rfl 1 rfl ?_
        refine E_iload_n dX9_next_227 rfl 0 rfl ?_
        refine E_bipush (v := 59) dX9_next_228 rfl ?_
        refine E_icmp_eq (t := 239) dX9_next_230 rfl ?_ ?_
        · refine E_iload_n dX9_next_239 rfl 0 rfl ?_
          refine E_goto (t := 244) dX9_next_240 rfl ?_
          refine E_putI fs_X9_83 dX9_next_244 z32 ?_
          refine E_hgen (fun h8 => ?_)
          exact E_vret rfl rfl dX9_next_247
        · refine E_iload_n dX9_next_233 rfl 0 rfl ?_
          refine E_bipush (v := 44) dX9_next_234 rfl ?_
          refine E_icmp_ne (t := 243) dX9_next_236 rfl ?_ ?_
          · refine E_iconst (v := 1) dX9_next_243 rfl ?_
            refine E_putI fs_X9_83 dX9_next_244 z32 ?_
            refine E_hgen (fun h9 => ?_)
            exact E_vret rfl rfl dX9_next_247
          · refine E_iload_n dX9_next_239 rfl 0 rfl ?_
            refine E_goto (t := 244) dX9_next_240 rfl ?_
            refine E_putI fs_X9_83 dX9_next_244 z32 ?_
            refine E_hgen (fun h10 => ?_)
            exact E_vret rfl rfl dX9_next_247
      · refine E_iconst (v := 0) dX9_next_150 rfl ?_
        refine E_istore_n (ls' := [(3, .int 0), (2, .int r2), (0, .ref (G.ad 32 0)), (1, .int v1)]) dX9_next_151 rfl (Nat.le_of_ble_eq_true rfl) rfl ?_
        exact E_sub [2, 3, 0] rfl (sM_next_152 G FU v1 0 h4)
    · exact E_sub [1, 2] rfl (sM_next_67 G FU v1 h4)
  · refine E_aload_n dX9_next_47 rfl 1 rfl ?_
    refine E_iconst (v := 0) dX9_next_48 rfl ?_
    refine E_putI fs_X9_83 dX9_next_49 z32 ?_
    refine E_hgen (fun h11 => ?_)
    refine E_aload_n dX9_next_52 rfl 1 rfl ?_
    refine E_iload_n dX9_next_53 rfl 2 rfl ?_
    refine E_putI fs_X9_67 dX9_next_54 z32 ?_
    refine E_hgen (fun h12 => ?_)
    refine E_goto (t := 247) dX9_next_57 rfl ?_
    exact E_vret rfl rfl dX9_next_247
def jM_next_5  : Nat → Int32 → AH → Option (AH)
  | 0, _, _ => none
  | n + 1, v1, h =>
    (jM_look h v1).bind fun r1 =>
    if r1 = 32 then ((jM_next_5 n (v1 + 1) h))
    else ((jM_next_21 v1 h))
set_option maxRecDepth 20000 in
set_option maxHeartbeats 2000000 in
theorem sM_next_5 (G : JG)   : ∀ (n : Nat) (v1 : Int32) (h : AH), Sim G iM_next rvV 5 [(0, .ref (G.ad 32 0)), (1, .int v1)] [] h (jM_next_5 n v1 h) := by
  intro n
  induction n with
  | zero => intro v1 h; exact E_none
  | succ n ih =>
    intro v1 h
    rw [jM_next_5]
    refine E_aload_n dX9_next_5 rfl 0 rfl ?_
    refine E_iload_n dX9_next_6 rfl 1 rfl ?_
    refine E_cVI (As := [.int v1]) (rest := []) (sM_look G h v1) ck_X9_look lk_X9_70 rfl rfl kc_32 z32 rfl rfl rfl dX9_next_7 (fun r1 _ => ?_)
    refine E_bipush (v := 32) dX9_next_10 rfl ?_
    refine E_icmp_ne (t := 21) dX9_next_12 rfl ?_ ?_
    · exact E_sub [0, 1] rfl (sM_next_21 G v1 h)
    · refine E_iinc (q := 1) (v := (v1 + 1)) (ls' := [(1, .int (v1 + 1)), (0, .ref (G.ad 32 0))]) dX9_next_15 rfl rfl (Nat.le_of_ble_eq_true rfl) rfl ?_
      refine E_goto (t := 5) dX9_next_18 rfl ?_
      exact E_sub [1, 0] rfl (ih (v1 + 1) h)
def jM_next (h : AH)  : Option (AH) :=
  (jM_next_5 FU (gI h 32 0 5) h)
set_option maxRecDepth 20000 in
set_option maxHeartbeats 2000000 in
theorem sM_next (G : JG) (h : AH)  : Mt G iM_next rvV [.ref (G.ad 32 0)] h (jM_next h) := by
  refine Mt_of (by decide) (Nat.le_of_ble_eq_true rfl) ?_
  unfold jM_next
  show Sim G iM_next rvV 0 [(0, .ref (G.ad 32 0))] [] h _
  refine E_aload_n dX9_next_0 rfl 0 rfl ?_
  refine E_getI fl_X9_67 dX9_next_1 z32 ?_
  refine E_istore_n (ls' := [(1, .int (gI h 32 0 5)), (0, .ref (G.ad 32 0))]) dX9_next_4 rfl (Nat.le_of_ble_eq_true rfl) rfl ?_
  exact E_sub [1, 0] rfl (sM_next_5 G FU (gI h 32 0 5) h)
def iM_begins : MI := (yX9_begins, cX9_begins, 5, (some .boolean), { frames := 5, cells := 0, slots := 0, locals := 108 }, 1)
theorem ck_X9_begins : CK iM_begins 4 := ⟨⟨wd_113, wd_1373, by decide +kernel⟩, ⟨wd_1372, wd_45⟩⟩
def jM_begins_47  (h : AH) : Option (Int32 × AH) :=
  if (gI h 32 0 13) = 0 then ((jM_next h).bind fun h1 =>
  some (1, h1))
  else (some (1, h))
set_option maxRecDepth 20000 in
set_option maxHeartbeats 2000000 in
theorem sM_begins_47 (G : JG)   (h : AH) : Sim G iM_begins rvIM 47 [(0, .ref (G.ad 32 0))] [] h (jM_begins_47 h) := by
  unfold jM_begins_47
  refine E_aload_n dX9_begins_47 rfl 0 rfl ?_
  refine E_getI fl_X9_93 dX9_begins_48 z32 ?_
  refine E_if_ne (t := 58) dX9_begins_51 rfl ?_ ?_
  · refine E_iconst (v := 1) dX9_begins_58 rfl ?_
    exact E_zret rfl rfl rfl dX9_begins_59
  · refine E_aload_n dX9_begins_54 rfl 0 rfl ?_
    refine E_cVV (As := []) (rest := []) (sM_next G h) ck_X9_next lk_X9_114 rfl rfl kc_32 z32 rfl rfl rfl dX9_begins_55 (fun h1 _ => ?_)
    refine E_iconst (v := 1) dX9_begins_58 rfl ?_
    exact E_zret rfl rfl rfl dX9_begins_59
def jM_begins_23 (v4 : Int32) (h : AH) : Option (Int32 × AH) :=
  if v4 = 0 then ((jM_begins_47 h))
  else (if inb 0 161 = true then (
  if (gI h 36 0 (0 : Int32).toNatClampNeg) = 0 then ((jM_wrong h 6 (gI h 32 0 4)).bind fun h1 =>
  (jM_begins_47 h1))
  else ((jM_begins_47 h))) else none)
set_option maxRecDepth 20000 in
set_option maxHeartbeats 2000000 in
theorem sM_begins_23 (G : JG) (v4 : Int32)  (h : AH) : Sim G iM_begins rvIM 23 [(0, .ref (G.ad 32 0)), (4, .int v4)] [] h (jM_begins_23 v4 h) := by
  unfold jM_begins_23
  refine E_iload dX9_begins_23 1 rfl ?_
  refine E_if_eq (t := 47) dX9_begins_25 rfl ?_ ?_
  · exact E_sub [0] rfl (sM_begins_47 G h)
  · refine E_aload_n dX9_begins_28 rfl 0 rfl ?_
    refine E_getF fl_X9_23 dX9_begins_29 z32 ?_
    refine E_iconst (v := 0) dX9_begins_32 rfl ?_
    refine E_iald (n := 161) rfl dX9_begins_33 z36 (fun _ => ?_)
    refine E_if_ne (t := 47) dX9_begins_34 rfl ?_ ?_
    · exact E_sub [0] rfl (sM_begins_47 G h)
    · refine E_aload_n dX9_begins_37 rfl 0 rfl ?_
      refine E_bipush (v := 6) dX9_begins_38 rfl ?_
      refine E_aload_n dX9_begins_40 rfl 0 rfl ?_
      refine E_getI fl_X9_74 dX9_begins_41 z32 ?_
      refine E_cVV (As := [.int 6, .int (gI h 32 0 4)]) (rest := []) (sM_wrong G h 6 (gI h 32 0 4)) ck_X9_wrong lk_X9_117 rfl rfl kc_32 z32 rfl rfl rfl dX9_begins_44 (fun h1 _ => ?_)
      exact E_sub [0] rfl (sM_begins_47 G h1)
def jM_begins (h : AH) (t1 : Nat) (v2 : Int32) (v3 : Int32) (v4 : Int32) : Option (Int32 × AH) :=
  (jM_isWord h t1).bind fun r1 =>
  if r1 = 0 then (some (0, h))
  else (if v2 = 0 then ((jM_wrong h v3 (gI h 32 0 4)).bind fun h2 =>
  (jM_begins_23 v4 h2))
  else ((jM_begins_23 v4 h)))
set_option maxRecDepth 20000 in
set_option maxHeartbeats 2000000 in
theorem sM_begins (G : JG) (h : AH) (t1 : Nat) (ht1 : t1 < 17) (v2 : Int32) (v3 : Int32) (v4 : Int32) : Mt G iM_begins rvIM [.ref (G.ad 32 0), .ref (G.aK t1), .int v2, .int v3, .int v4] h (jM_begins h t1 v2 v3 v4) := by
  refine Mt_of (by decide) (Nat.le_of_ble_eq_true rfl) ?_
  unfold jM_begins
  show Sim G iM_begins rvIM 0 [(0, .ref (G.ad 32 0)), (1, .ref (G.aK t1)), (2, .int v2), (3, .int v3), (4, .int v4)] [] h _
  refine E_aload_n dX9_begins_0 rfl 0 rfl ?_
  refine E_aload_n dX9_begins_1 rfl 1 rfl ?_
  refine E_cVI (As := [.ref (G.aK t1)]) (rest := []) (sM_isWord G h t1 ht1) ck_X9_isWord lk_X9_110 rfl rfl kc_32 z32 rfl rfl rfl dX9_begins_2 (fun r1 _ => ?_)
  refine E_if_ne (t := 10) dX9_begins_5 rfl ?_ ?_
  · refine E_iload_n dX9_begins_10 rfl 2 rfl ?_
    refine E_if_ne (t := 23) dX9_begins_11 rfl ?_ ?_
    · exact E_sub [0, 4] rfl (sM_begins_23 G v4 h)
    · refine E_aload_n dX9_begins_14 rfl 0 rfl ?_
      refine E_iload_n dX9_begins_15 rfl 3 rfl ?_
      refine E_aload_n dX9_begins_16 rfl 0 rfl ?_
      refine E_getI fl_X9_74 dX9_begins_17 z32 ?_
      refine E_cVV (As := [.int v3, .int (gI h 32 0 4)]) (rest := []) (sM_wrong G h v3 (gI h 32 0 4)) ck_X9_wrong lk_X9_117 rfl rfl kc_32 z32 rfl rfl rfl dX9_begins_20 (fun h2 _ => ?_)
      exact E_sub [0, 4] rfl (sM_begins_23 G v4 h2)
  · refine E_iconst (v := 0) dX9_begins_8 rfl ?_
    exact E_zret rfl rfl rfl dX9_begins_9
def iM_yearWhy : MI := (yX9_yearWhy, cX9_yearWhy, 2, (some .int), { frames := 1, cells := 0, slots := 0, locals := 22 }, 1)
theorem ck_X9_yearWhy : CK iM_yearWhy 1 := ⟨⟨wd_113, wd_1741, by decide +kernel⟩, ⟨wd_1740, wd_91⟩⟩
def jM_yearWhy (h : AH) (v1 : Int32) : Option (Int32) :=
  if (gI h 32 0 14) = 0 then (some 1)
  else ((jM_within v1 0 999).bind fun r1 =>
  if r1 = 0 then (some 2)
  else ((jM_cellMany h).bind fun r2 =>
  if r2 ≤ 12 then (some 0)
  else (some 3)))
set_option maxRecDepth 20000 in
set_option maxHeartbeats 2000000 in
theorem sM_yearWhy (G : JG) (h : AH) (v1 : Int32) : Mt G iM_yearWhy (rvI h) [.ref (G.ad 32 0), .int v1] h (jM_yearWhy h v1) := by
  refine Mt_of (by decide) (Nat.le_of_ble_eq_true rfl) ?_
  unfold jM_yearWhy
  show Sim G iM_yearWhy (rvI h) 0 [(0, .ref (G.ad 32 0)), (1, .int v1)] [] h _
  refine E_aload_n dX9_yearWhy_0 rfl 0 rfl ?_
  refine E_getI fl_X9_168 dX9_yearWhy_1 z32 ?_
  refine E_if_ne (t := 11) dX9_yearWhy_4 rfl ?_ ?_
  · refine E_iload_n dX9_yearWhy_11 rfl 1 rfl ?_
    refine E_iconst (v := 0) dX9_yearWhy_12 rfl ?_
    refine E_sipush (v := 999) dX9_yearWhy_13 rfl ?_
    refine E_cSI (As := [.int v1, .int 0, .int 999]) (rest := []) (sM_within G h v1 0 999) ck_X9_within lk_X9_139 rfl rfl rfl rfl rfl dX9_yearWhy_16 (fun r1 _ => ?_)
    refine E_if_ne (t := 26) dX9_yearWhy_19 rfl ?_ ?_
    · refine E_aload_n dX9_yearWhy_26 rfl 0 rfl ?_
      refine E_cVI (As := []) (rest := []) (sM_cellMany G h) ck_X9_cellMany lk_X9_287 rfl rfl kc_32 z32 rfl rfl rfl dX9_yearWhy_27 (fun r2 _ => ?_)
      refine E_bipush (v := 12) dX9_yearWhy_30 rfl ?_
      refine E_icmp_le (t := 39) dX9_yearWhy_32 rfl ?_ ?_
      · refine E_iconst (v := 0) dX9_yearWhy_39 rfl ?_
        exact E_iret rfl rfl dX9_yearWhy_40
      · refine E_iconst (v := 3) dX9_yearWhy_35 rfl ?_
        refine E_goto (t := 40) dX9_yearWhy_36 rfl ?_
        exact E_iret rfl rfl dX9_yearWhy_40
    · refine E_iconst (v := 2) dX9_yearWhy_22 rfl ?_
      refine E_goto (t := 40) dX9_yearWhy_23 rfl ?_
      exact E_iret rfl rfl dX9_yearWhy_40
  · refine E_iconst (v := 1) dX9_yearWhy_7 rfl ?_
    refine E_goto (t := 40) dX9_yearWhy_8 rfl ?_
    exact E_iret rfl rfl dX9_yearWhy_40
def iM_payable : MI := (yX9_payable, cX9_payable, 4, (some .int), { frames := 1, cells := 0, slots := 0, locals := 21 }, 1)
theorem ck_X9_payable : CK iM_payable 1 := ⟨⟨wd_113, wd_1749, by decide +kernel⟩, ⟨wd_1748, wd_93⟩⟩
def jM_payable_46 (h : AH) (v1 : Int32) (k_4 : Int32 → Int32 → Option Int32) (v3 : Int32) (s0 : Int32) : Option (Int32) :=
  (k_4 (s0 ||| 0) (v3 + 1))
set_option maxRecDepth 20000 in
set_option maxHeartbeats 2000000 in
theorem sM_payable_46 (G : JG) (h : AH) (v1 : Int32) (k_4 : Int32 → Int32 → Option Int32) (hk_4 : ∀ (v2 : Int32) (v3 : Int32), Sim G iM_payable (rvI h) 4 [(0, .ref (G.ad 32 0)), (1, .int v1), (2, .int v2), (3, .int v3)] [] h (k_4 v2 v3)) (v3 : Int32) (s0 : Int32) : Sim G iM_payable (rvI h) 46 [(0, .ref (G.ad 32 0)), (1, .int v1), (3, .int v3)] [.int s0] h (jM_payable_46 h v1 k_4 v3 s0) := by
  unfold jM_payable_46
  refine E_iconst (v := 0) dX9_payable_46 rfl ?_
  refine E_ior dX9_payable_47 ?_
  refine E_istore_n (ls' := [(2, .int (s0 ||| 0)), (0, .ref (G.ad 32 0)), (1, .int v1), (3, .int v3)]) dX9_payable_48 rfl (Nat.le_of_ble_eq_true rfl) rfl ?_
  refine E_iinc (q := 3) (v := (v3 + 1)) (ls' := [(3, .int (v3 + 1)), (2, .int (s0 ||| 0)), (0, .ref (G.ad 32 0)), (1, .int v1)]) dX9_payable_49 rfl rfl (Nat.le_of_ble_eq_true rfl) rfl ?_
  refine E_goto (t := 4) dX9_payable_52 rfl ?_
  exact E_sub [2, 3, 1, 0] rfl (hk_4 (s0 ||| 0) (v3 + 1))
def jM_payable_4 (h : AH) (v1 : Int32) : Nat → Int32 → Int32 → Option (Int32)
  | 0, _, _ => none
  | n + 1, v2, v3 =>
    (jM_cellMany h).bind fun r1 =>
    if v3 < r1 then ((jM_wantedAt h v3).bind fun r2 =>
    if r2 = (-2) then ((jM_payable_46 h v1 (jM_payable_4 h v1 n) v3 v2))
    else ((jM_wantedAt h v3).bind fun r3 =>
    if inb (17 + r3) 161 = true then (
    if (gI h 35 0 (17 + r3).toNatClampNeg) ≤ v1 then ((jM_payable_4 h v1 n (v2 ||| ((1 : Int32) <<< (v3 &&& 31))) (v3 + 1)))
    else ((jM_payable_46 h v1 (jM_payable_4 h v1 n) v3 v2))) else none))
    else (some v2)
set_option maxRecDepth 20000 in
set_option maxHeartbeats 2000000 in
theorem sM_payable_4 (G : JG) (h : AH) (v1 : Int32)  : ∀ (n : Nat) (v2 : Int32) (v3 : Int32), Sim G iM_payable (rvI h) 4 [(0, .ref (G.ad 32 0)), (1, .int v1), (2, .int v2), (3, .int v3)] [] h (jM_payable_4 h v1 n v2 v3) := by
  intro n
  induction n with
  | zero => intro v2 v3; exact E_none
  | succ n ih =>
    intro v2 v3
    rw [jM_payable_4]
    refine E_iload_n dX9_payable_4 rfl 3 rfl ?_
    refine E_aload_n dX9_payable_5 rfl 0 rfl ?_
    refine E_cVI (As := []) (rest := [.int v3]) (sM_cellMany G h) ck_X9_cellMany lk_X9_287 rfl rfl kc_32 z32 rfl rfl rfl dX9_payable_6 (fun r1 _ => ?_)
    refine E_icmp_ge (t := 55) dX9_payable_9 rfl ?_ ?_
    · refine E_iload_n dX9_payable_55 rfl 2 rfl ?_
      exact E_iret rfl rfl dX9_payable_56
    · refine E_iload_n dX9_payable_12 rfl 2 rfl ?_
      refine E_aload_n dX9_payable_13 rfl 0 rfl ?_
      refine E_iload_n dX9_payable_14 rfl 3 rfl ?_
      refine E_cVI (As := [.int v3]) (rest := [.int v2]) (sM_wantedAt G h v3) ck_X9_wantedAt lk_X9_335 rfl rfl kc_32 z32 rfl rfl rfl dX9_payable_15 (fun r2 _ => ?_)
      refine E_bipush (v := (-2)) dX9_payable_18 rfl ?_
      refine E_icmp_eq (t := 46) dX9_payable_20 rfl ?_ ?_
      · exact E_sub [0, 1, 3] rfl (sM_payable_46 G h v1 (jM_payable_4 h v1 n) ih v3 v2)
      · refine E_aload_n dX9_payable_23 rfl 0 rfl ?_
        refine E_getF fl_X9_20 dX9_payable_24 z32 ?_
        refine E_bipush (v := 17) dX9_payable_27 rfl ?_
        refine E_aload_n dX9_payable_29 rfl 0 rfl ?_
        refine E_iload_n dX9_payable_30 rfl 3 rfl ?_
        refine E_cVI (As := [.int v3]) (rest := [.int 17, .ref (G.ad 35 0), .int v2]) (sM_wantedAt G h v3) ck_X9_wantedAt lk_X9_335 rfl rfl kc_32 z32 rfl rfl rfl dX9_payable_31 (fun r3 _ => ?_)
        refine E_iadd dX9_payable_34 ?_
        refine E_iald (n := 161) rfl dX9_payable_35 z35 (fun _ => ?_)
        refine E_iload_n dX9_payable_36 rfl 1 rfl ?_
        refine E_icmp_gt (t := 46) dX9_payable_37 rfl ?_ ?_
        · exact E_sub [0, 1, 3] rfl (sM_payable_46 G h v1 (jM_payable_4 h v1 n) ih v3 v2)
        · refine E_iconst (v := 1) dX9_payable_40 rfl ?_
          refine E_iload_n dX9_payable_41 rfl 3 rfl ?_
          refine E_ishl dX9_payable_42 ?_
          refine E_goto (t := 47) dX9_payable_43 rfl ?_
          refine E_ior dX9_payable_47 ?_
          refine E_istore_n (ls' := [(2, .int (v2 ||| ((1 : Int32) <<< (v3 &&& 31)))), (0, .ref (G.ad 32 0)), (1, .int v1), (3, .int v3)]) dX9_payable_48 rfl (Nat.le_of_ble_eq_true rfl) rfl ?_
          refine E_iinc (q := 3) (v := (v3 + 1)) (ls' := [(3, .int (v3 + 1)), (2, .int (v2 ||| ((1 : Int32) <<< (v3 &&& 31)))), (0, .ref (G.ad 32 0)), (1, .int v1)]) dX9_payable_49 rfl rfl (Nat.le_of_ble_eq_true rfl) rfl ?_
          refine E_goto (t := 4) dX9_payable_52 rfl ?_
          exact E_sub [2, 3, 1, 0] rfl (ih (v2 ||| ((1 : Int32) <<< (v3 &&& 31))) (v3 + 1))
def jM_payable (h : AH) (v1 : Int32) : Option (Int32) :=
  (jM_payable_4 h v1 FU 0 0)
set_option maxRecDepth 20000 in
set_option maxHeartbeats 2000000 in
theorem sM_payable (G : JG) (h : AH) (v1 : Int32) : Mt G iM_payable (rvI h) [.ref (G.ad 32 0), .int v1] h (jM_payable h v1) := by
  refine Mt_of (by decide) (Nat.le_of_ble_eq_true rfl) ?_
  unfold jM_payable
  show Sim G iM_payable (rvI h) 0 [(0, .ref (G.ad 32 0)), (1, .int v1)] [] h _
  refine E_iconst (v := 0) dX9_payable_0 rfl ?_
  refine E_istore_n (ls' := [(2, .int 0), (0, .ref (G.ad 32 0)), (1, .int v1)]) dX9_payable_1 rfl (Nat.le_of_ble_eq_true rfl) rfl ?_
  refine E_iconst (v := 0) dX9_payable_2 rfl ?_
  refine E_istore_n (ls' := [(3, .int 0), (2, .int 0), (0, .ref (G.ad 32 0)), (1, .int v1)]) dX9_payable_3 rfl (Nat.le_of_ble_eq_true rfl) rfl ?_
  exact E_sub [2, 3, 1, 0] rfl (sM_payable_4 G h v1 FU 0 0)
def iM_hasColours : MI := (yX9_hasColours, cX9_hasColours, 4, (some .boolean), { frames := 0, cells := 0, slots := 0, locals := 0 }, 1)
theorem ck_X9_hasColours : CK iM_hasColours 1 := ⟨⟨wd_113, wd_1753, by decide +kernel⟩, ⟨wd_1752, wd_94⟩⟩
def jM_hasColours_31 (h : AH) (v1 : Int32) (k_4 : Int32 → Int32 → Option Int32) (v3 : Int32) : Option (Int32) :=
  (k_4 1 (v3 + 1))
set_option maxRecDepth 20000 in
set_option maxHeartbeats 2000000 in
theorem sM_hasColours_31 (G : JG) (h : AH) (v1 : Int32) (k_4 : Int32 → Int32 → Option Int32) (hk_4 : ∀ (v2 : Int32) (v3 : Int32), Sim G iM_hasColours (rvI h) 4 [(0, .ref (G.ad 32 0)), (1, .int v1), (2, .int v2), (3, .int v3)] [] h (k_4 v2 v3)) (v3 : Int32) : Sim G iM_hasColours (rvI h) 31 [(0, .ref (G.ad 32 0)), (1, .int v1), (3, .int v3)] [] h (jM_hasColours_31 h v1 k_4 v3) := by
  unfold jM_hasColours_31
  refine E_iconst (v := 1) dX9_hasColours_31 rfl ?_
  refine E_goto (t := 36) dX9_hasColours_32 rfl ?_
  refine E_istore_n (ls' := [(2, .int 1), (0, .ref (G.ad 32 0)), (1, .int v1), (3, .int v3)]) dX9_hasColours_36 rfl (Nat.le_of_ble_eq_true rfl) rfl ?_
  refine E_iinc (q := 3) (v := (v3 + 1)) (ls' := [(3, .int (v3 + 1)), (2, .int 1), (0, .ref (G.ad 32 0)), (1, .int v1)]) dX9_hasColours_37 rfl rfl (Nat.le_of_ble_eq_true rfl) rfl ?_
  refine E_goto (t := 4) dX9_hasColours_40 rfl ?_
  exact E_sub [2, 3, 1, 0] rfl (hk_4 1 (v3 + 1))
def jM_hasColours_4 (h : AH) (v1 : Int32) : Nat → Int32 → Int32 → Option (Int32)
  | 0, _, _ => none
  | n + 1, v2, v3 =>
    if inb 4 161 = true then (
    if v3 < (gI h 35 0 (4 : Int32).toNatClampNeg) then (if v2 = 0 then (if inb (17 + v3) 161 = true then (
    if (gI h 35 0 (17 + v3).toNatClampNeg) ≤ v1 then ((jM_hasColours_31 h v1 (jM_hasColours_4 h v1 n) v3))
    else ((jM_hasColours_4 h v1 n 0 (v3 + 1)))) else none)
    else ((jM_hasColours_31 h v1 (jM_hasColours_4 h v1 n) v3)))
    else (if isZ v2 = true then some v2 else none)) else none
set_option maxRecDepth 20000 in
set_option maxHeartbeats 2000000 in
theorem sM_hasColours_4 (G : JG) (h : AH) (v1 : Int32)  : ∀ (n : Nat) (v2 : Int32) (v3 : Int32), Sim G iM_hasColours (rvI h) 4 [(0, .ref (G.ad 32 0)), (1, .int v1), (2, .int v2), (3, .int v3)] [] h (jM_hasColours_4 h v1 n v2 v3) := by
  intro n
  induction n with
  | zero => intro v2 v3; exact E_none
  | succ n ih =>
    intro v2 v3
    rw [jM_hasColours_4]
    refine E_iload_n dX9_hasColours_4 rfl 3 rfl ?_
    refine E_aload_n dX9_hasColours_5 rfl 0 rfl ?_
    refine E_getF fl_X9_20 dX9_hasColours_6 z32 ?_
    refine E_iconst (v := 4) dX9_hasColours_9 rfl ?_
    refine E_iald (n := 161) rfl dX9_hasColours_10 z35 (fun _ => ?_)
    refine E_icmp_ge (t := 43) dX9_hasColours_11 rfl ?_ ?_
    · refine E_iload_n dX9_hasColours_43 rfl 2 rfl ?_
      exact E_zretg rfl rfl dX9_hasColours_44
    · refine E_iload_n dX9_hasColours_14 rfl 2 rfl ?_
      refine E_if_ne (t := 31) dX9_hasColours_15 rfl ?_ ?_
      · exact E_sub [0, 1, 3] rfl (sM_hasColours_31 G h v1 (jM_hasColours_4 h v1 n) ih v3)
      · refine E_aload_n dX9_hasColours_18 rfl 0 rfl ?_
        refine E_getF fl_X9_20 dX9_hasColours_19 z32 ?_
        refine E_bipush (v := 17) dX9_hasColours_22 rfl ?_
        refine E_iload_n dX9_hasColours_24 rfl 3 rfl ?_
        refine E_iadd dX9_hasColours_25 ?_
        refine E_iald (n := 161) rfl dX9_hasColours_26 z35 (fun _ => ?_)
        refine E_iload_n dX9_hasColours_27 rfl 1 rfl ?_
        refine E_icmp_gt (t := 35) dX9_hasColours_28 rfl ?_ ?_
        · refine E_iconst (v := 0) dX9_hasColours_35 rfl ?_
          refine E_istore_n (ls' := [(2, .int 0), (0, .ref (G.ad 32 0)), (1, .int v1), (3, .int v3)]) dX9_hasColours_36 rfl (Nat.le_of_ble_eq_true rfl) rfl ?_
          refine E_iinc (q := 3) (v := (v3 + 1)) (ls' := [(3, .int (v3 + 1)), (2, .int 0), (0, .ref (G.ad 32 0)), (1, .int v1)]) dX9_hasColours_37 rfl rfl (Nat.le_of_ble_eq_true rfl) rfl ?_
          refine E_goto (t := 4) dX9_hasColours_40 rfl ?_
          exact E_sub [2, 3, 1, 0] rfl (ih 0 (v3 + 1))
        · exact E_sub [0, 1, 3] rfl (sM_hasColours_31 G h v1 (jM_hasColours_4 h v1 n) ih v3)
def jM_hasColours (h : AH) (v1 : Int32) : Option (Int32) :=
  (jM_hasColours_4 h v1 FU 0 0)
set_option maxRecDepth 20000 in
set_option maxHeartbeats 2000000 in
theorem sM_hasColours (G : JG) (h : AH) (v1 : Int32) : Mt G iM_hasColours (rvI h) [.ref (G.ad 32 0), .int v1] h (jM_hasColours h v1) := by
  refine Mt_of (by decide) (Nat.le_of_ble_eq_true rfl) ?_
  unfold jM_hasColours
  show Sim G iM_hasColours (rvI h) 0 [(0, .ref (G.ad 32 0)), (1, .int v1)] [] h _
  refine E_iconst (v := 0) dX9_hasColours_0 rfl ?_
  refine E_istore_n (ls' := [(2, .int 0), (0, .ref (G.ad 32 0)), (1, .int v1)]) dX9_hasColours_1 rfl (Nat.le_of_ble_eq_true rfl) rfl ?_
  refine E_iconst (v := 0) dX9_hasColours_2 rfl ?_
  refine E_istore_n (ls' := [(3, .int 0), (2, .int 0), (0, .ref (G.ad 32 0)), (1, .int v1)]) dX9_hasColours_3 rfl (Nat.le_of_ble_eq_true rfl) rfl ?_
  exact E_sub [2, 3, 1, 0] rfl (sM_hasColours_4 G h v1 FU 0 0)
def iM_partOf : MI := (yX9_partOf, cX9_partOf, 7, (some .int), { frames := 1, cells := 0, slots := 0, locals := 21 }, 1)
theorem ck_X9_partOf : CK iM_partOf 2 := ⟨⟨wd_113, wd_1646, by decide +kernel⟩, ⟨wd_1645, wd_81⟩⟩
def jM_partOf_109 (h : AH) (v1 : Int32) (k_27 : Int32 → Int32 → Int32 → Int32 → Option Int32) (v3 : Int32) (v4 : Int32) (v5 : Int32) (v6 : Int32) : Option (Int32) :=
  (jM_cellMany h).bind fun r1 =>
  if (v6 + v5) < r1 then (jb ((v3 ||| (v1 &&& ((1 : Int32) <<< ((v6 + v5) &&& 31)))) : Int32) fun y2 =>
  (k_27 y2 v4 v5 (v6 + 1)))
  else ((k_27 v3 v4 v5 (v6 + 1)))
set_option maxRecDepth 20000 in
set_option maxHeartbeats 2000000 in
theorem sM_partOf_109 (G : JG) (h : AH) (v1 : Int32) (k_27 : Int32 → Int32 → Int32 → Int32 → Option Int32) (hk_27 : ∀ (v3 : Int32) (v4 : Int32) (v5 : Int32) (v6 : Int32), Sim G iM_partOf (rvI h) 27 [(0, .ref (G.ad 32 0)), (1, .int v1), (3, .int v3), (4, .int v4), (5, .int v5), (6, .int v6)] [] h (k_27 v3 v4 v5 v6)) (v3 : Int32) (v4 : Int32) (v5 : Int32) (v6 : Int32) : Sim G iM_partOf (rvI h) 109 [(0, .ref (G.ad 32 0)), (1, .int v1), (3, .int v3), (4, .int v4), (5, .int v5), (6, .int v6)] [] h (jM_partOf_109 h v1 k_27 v3 v4 v5 v6) := by
  unfold jM_partOf_109
  refine E_iload dX9_partOf_109 5 rfl ?_
  refine E_iload dX9_partOf_111 4 rfl ?_
  refine E_iadd dX9_partOf_113 ?_
  refine E_aload_n dX9_partOf_114 rfl 0 rfl ?_
  refine E_cVI (As := []) (rest := [.int (v6 + v5)]) (sM_cellMany G h) ck_X9_cellMany lk_X9_287 rfl rfl kc_32 z32 rfl rfl rfl dX9_partOf_115 (fun r1 _ => ?_)
  refine E_icmp_ge (t := 133) dX9_partOf_118 rfl ?_ ?_
  · refine E_iinc (q := 5) (v := (v6 + 1)) (ls' := [(6, .int (v6 + 1)), (0, .ref (G.ad 32 0)), (1, .int v1), (3, .int v3), (4, .int v4), (5, .int v5)]) dX9_partOf_133 rfl rfl (Nat.le_of_ble_eq_true rfl) rfl ?_
    refine E_goto (t := 27) dX9_partOf_136 rfl ?_
    exact E_sub [1, 2, 3, 4, 5, 0] rfl (hk_27 v3 v4 v5 (v6 + 1))
  · refine E_iload_n dX9_partOf_121 rfl 2 rfl ?_
    refine E_iload_n dX9_partOf_122 rfl 1 rfl ?_
    refine E_iconst (v := 1) dX9_partOf_123 rfl ?_
    refine E_iload dX9_partOf_124 5 rfl ?_
    refine E_iload dX9_partOf_126 4 rfl ?_
    refine E_iadd dX9_partOf_128 ?_
    refine E_ishl dX9_partOf_129 ?_
    refine E_iand dX9_partOf_130 ?_
    refine E_ior dX9_partOf_131 ?_
    refine E_topi (fun y2 => ?_)
    refine E_istore_n (ls' := [(3, .int y2), (0, .ref (G.ad 32 0)), (1, .int v1), (4, .int v4), (5, .int v5), (6, .int v6)]) dX9_partOf_132 rfl (Nat.le_of_ble_eq_true rfl) rfl ?_
    refine E_iinc (q := 5) (v := (v6 + 1)) (ls' := [(6, .int (v6 + 1)), (3, .int y2), (0, .ref (G.ad 32 0)), (1, .int v1), (4, .int v4), (5, .int v5)]) dX9_partOf_133 rfl rfl (Nat.le_of_ble_eq_true rfl) rfl ?_
    refine E_goto (t := 27) dX9_partOf_136 rfl ?_
    exact E_sub [2, 3, 1, 4, 5, 0] rfl (hk_27 y2 v4 v5 (v6 + 1))
def jM_partOf_90 (h : AH) (v1 : Int32) (k_27 : Int32 → Int32 → Int32 → Int32 → Option Int32) (v3 : Int32) (v4 : Int32) (v5 : Int32) (v6 : Int32) : Option (Int32) :=
  if v6 < v5 then ((jM_partOf_109 h v1 k_27 v3 v4 v5 v6))
  else (jb ((v3 ||| (v1 &&& ((1 : Int32) <<< ((v6 - v5) &&& 31)))) : Int32) fun y1 =>
  (jM_partOf_109 h v1 k_27 y1 v4 v5 v6))
set_option maxRecDepth 20000 in
set_option maxHeartbeats 2000000 in
theorem sM_partOf_90 (G : JG) (h : AH) (v1 : Int32) (k_27 : Int32 → Int32 → Int32 → Int32 → Option Int32) (hk_27 : ∀ (v3 : Int32) (v4 : Int32) (v5 : Int32) (v6 : Int32), Sim G iM_partOf (rvI h) 27 [(0, .ref (G.ad 32 0)), (1, .int v1), (3, .int v3), (4, .int v4), (5, .int v5), (6, .int v6)] [] h (k_27 v3 v4 v5 v6)) (v3 : Int32) (v4 : Int32) (v5 : Int32) (v6 : Int32) : Sim G iM_partOf (rvI h) 90 [(0, .ref (G.ad 32 0)), (1, .int v1), (3, .int v3), (4, .int v4), (5, .int v5), (6, .int v6)] [] h (jM_partOf_90 h v1 k_27 v3 v4 v5 v6) := by
  unfold jM_partOf_90
  refine E_iload dX9_partOf_90 5 rfl ?_
  refine E_iload dX9_partOf_92 4 rfl ?_
  refine E_icmp_lt (t := 109) dX9_partOf_94 rfl ?_ ?_
  · exact E_sub [0, 1, 2, 3, 4, 5] rfl (sM_partOf_109 G h v1 k_27 hk_27 v3 v4 v5 v6)
  · refine E_iload_n dX9_partOf_97 rfl 2 rfl ?_
    refine E_iload_n dX9_partOf_98 rfl 1 rfl ?_
    refine E_iconst (v := 1) dX9_partOf_99 rfl ?_
    refine E_iload dX9_partOf_100 5 rfl ?_
    refine E_iload dX9_partOf_102 4 rfl ?_
    refine E_isub dX9_partOf_104 ?_
    refine E_ishl dX9_partOf_105 ?_
    refine E_iand dX9_partOf_106 ?_
    refine E_ior dX9_partOf_107 ?_
    refine E_topi (fun y1 => ?_)
    refine E_istore_n (ls' := [(3, .int y1), (0, .ref (G.ad 32 0)), (1, .int v1), (4, .int v4), (5, .int v5), (6, .int v6)]) dX9_partOf_108 rfl (Nat.le_of_ble_eq_true rfl) rfl ?_
    exact E_sub [1, 2, 0, 3, 4, 5] rfl (sM_partOf_109 G h v1 k_27 hk_27 y1 v4 v5 v6)
def jM_partOf_67 (h : AH) (v1 : Int32) (k_27 : Int32 → Int32 → Int32 → Int32 → Option Int32) (v3 : Int32) (v4 : Int32) (v5 : Int32) (v6 : Int32) : Option (Int32) :=
  if v5 = 0 then none else (
  if (v6 - (v6 / v5) * v5) < (v5 - 1) then (jb ((v3 ||| (v1 &&& ((1 : Int32) <<< ((v6 + 1) &&& 31)))) : Int32) fun y1 =>
  (jM_partOf_90 h v1 k_27 y1 v4 v5 v6))
  else ((jM_partOf_90 h v1 k_27 v3 v4 v5 v6)))
set_option maxRecDepth 20000 in
set_option maxHeartbeats 2000000 in
theorem sM_partOf_67 (G : JG) (h : AH) (v1 : Int32) (k_27 : Int32 → Int32 → Int32 → Int32 → Option Int32) (hk_27 : ∀ (v3 : Int32) (v4 : Int32) (v5 : Int32) (v6 : Int32), Sim G iM_partOf (rvI h) 27 [(0, .ref (G.ad 32 0)), (1, .int v1), (3, .int v3), (4, .int v4), (5, .int v5), (6, .int v6)] [] h (k_27 v3 v4 v5 v6)) (v3 : Int32) (v4 : Int32) (v5 : Int32) (v6 : Int32) : Sim G iM_partOf (rvI h) 67 [(0, .ref (G.ad 32 0)), (1, .int v1), (3, .int v3), (4, .int v4), (5, .int v5), (6, .int v6)] [] h (jM_partOf_67 h v1 k_27 v3 v4 v5 v6) := by
  unfold jM_partOf_67
  refine E_iload dX9_partOf_67 5 rfl ?_
  refine E_iload dX9_partOf_69 4 rfl ?_
  refine E_irem dX9_partOf_71 (fun _ => ?_)
  refine E_iload dX9_partOf_72 4 rfl ?_
  refine E_iconst (v := 1) dX9_partOf_74 rfl ?_
  refine E_isub dX9_partOf_75 ?_
  refine E_icmp_ge (t := 90) dX9_partOf_76 rfl ?_ ?_
  · exact E_sub [0, 1, 2, 3, 4, 5] rfl (sM_partOf_90 G h v1 k_27 hk_27 v3 v4 v5 v6)
  · refine E_iload_n dX9_partOf_79 rfl 2 rfl ?_
    refine E_iload_n dX9_partOf_80 rfl 1 rfl ?_
    refine E_iconst (v := 1) dX9_partOf_81 rfl ?_
    refine E_iload dX9_partOf_82 5 rfl ?_
    refine E_iconst (v := 1) dX9_partOf_84 rfl ?_
    refine E_iadd dX9_partOf_85 ?_
    refine E_ishl dX9_partOf_86 ?_
    refine E_iand dX9_partOf_87 ?_
    refine E_ior dX9_partOf_88 ?_
    refine E_topi (fun y1 => ?_)
    refine E_istore_n (ls' := [(3, .int y1), (0, .ref (G.ad 32 0)), (1, .int v1), (4, .int v4), (5, .int v5), (6, .int v6)]) dX9_partOf_89 rfl (Nat.le_of_ble_eq_true rfl) rfl ?_
    exact E_sub [1, 2, 0, 3, 4, 5] rfl (sM_partOf_90 G h v1 k_27 hk_27 y1 v4 v5 v6)
def jM_partOf_27 (h : AH) (v1 : Int32) (k_15 : Int32 → Int32 → Int32 → Option Int32) : Nat → Int32 → Int32 → Int32 → Int32 → Option (Int32)
  | 0, _, _, _, _ => none
  | n + 1, v3, v4, v5, v6 =>
    (jM_cellMany h).bind fun r1 =>
    if v6 < r1 then ((jM_has v3 v6).bind fun r2 =>
    if r2 = 0 then ((jM_partOf_27 h v1 k_15 n v3 v4 v5 (v6 + 1)))
    else (if v5 = 0 then none else (
    if (v6 - (v6 / v5) * v5) ≤ 0 then ((jM_partOf_67 h v1 (jM_partOf_27 h v1 k_15 n) v3 v4 v5 v6))
    else (jb ((v3 ||| (v1 &&& ((1 : Int32) <<< ((v6 - 1) &&& 31)))) : Int32) fun y3 =>
    (jM_partOf_67 h v1 (jM_partOf_27 h v1 k_15 n) y3 v4 v5 v6)))))
    else ((k_15 v3 v4 v5))
set_option maxRecDepth 20000 in
set_option maxHeartbeats 2000000 in
theorem sM_partOf_27 (G : JG) (h : AH) (v1 : Int32) (k_15 : Int32 → Int32 → Int32 → Option Int32) (hk_15 : ∀ (v3 : Int32) (v4 : Int32) (v5 : Int32), Sim G iM_partOf (rvI h) 15 [(0, .ref (G.ad 32 0)), (1, .int v1), (3, .int v3), (4, .int v4), (5, .int v5)] [] h (k_15 v3 v4 v5)) : ∀ (n : Nat) (v3 : Int32) (v4 : Int32) (v5 : Int32) (v6 : Int32), Sim G iM_partOf (rvI h) 27 [(0, .ref (G.ad 32 0)), (1, .int v1), (3, .int v3), (4, .int v4), (5, .int v5), (6, .int v6)] [] h (jM_partOf_27 h v1 k_15 n v3 v4 v5 v6) := by
  intro n
  induction n with
  | zero => intro v3 v4 v5 v6; exact E_none
  | succ n ih =>
    intro v3 v4 v5 v6
    rw [jM_partOf_27]
    refine E_iload dX9_partOf_27 5 rfl ?_
    refine E_aload_n dX9_partOf_29 rfl 0 rfl ?_
    refine E_cVI (As := []) (rest := [.int v6]) (sM_cellMany G h) ck_X9_cellMany lk_X9_287 rfl rfl kc_32 z32 rfl rfl rfl dX9_partOf_30 (fun r1 _ => ?_)
    refine E_icmp_ge (t := 139) dX9_partOf_33 rfl ?_ ?_
    · refine E_goto (t := 15) dX9_partOf_139 rfl ?_
      exact E_sub [0, 1, 2, 3, 4] rfl (hk_15 v3 v4 v5)
    · refine E_iload_n dX9_partOf_36 rfl 2 rfl ?_
      refine E_iload dX9_partOf_37 5 rfl ?_
      refine E_cSI (As := [.int v3, .int v6]) (rest := []) (sM_has G h v3 v6) ck_X9_has lk_X9_290 rfl rfl rfl rfl rfl dX9_partOf_39 (fun r2 _ => ?_)
      refine E_if_ne (t := 48) dX9_partOf_42 rfl ?_ ?_
      · refine E_iload dX9_partOf_48 5 rfl ?_
        refine E_iload dX9_partOf_50 4 rfl ?_
        refine E_irem dX9_partOf_52 (fun _ => ?_)
        refine E_if_le (t := 67) dX9_partOf_53 rfl ?_ ?_
        · exact E_sub [0, 1, 2, 3, 4, 5] rfl (sM_partOf_67 G h v1 (jM_partOf_27 h v1 k_15 n) ih v3 v4 v5 v6)
        · refine E_iload_n dX9_partOf_56 rfl 2 rfl ?_
          refine E_iload_n dX9_partOf_57 rfl 1 rfl ?_
          refine E_iconst (v := 1) dX9_partOf_58 rfl ?_
          refine E_iload dX9_partOf_59 5 rfl ?_
          refine E_iconst (v := 1) dX9_partOf_61 rfl ?_
          refine E_isub dX9_partOf_62 ?_
          refine E_ishl dX9_partOf_63 ?_
          refine E_iand dX9_partOf_64 ?_
          refine E_ior dX9_partOf_65 ?_
          refine E_topi (fun y3 => ?_)
          refine E_istore_n (ls' := [(3, .int y3), (0, .ref (G.ad 32 0)), (1, .int v1), (4, .int v4), (5, .int v5), (6, .int v6)]) dX9_partOf_66 rfl (Nat.le_of_ble_eq_true rfl) rfl ?_
          exact E_sub [1, 2, 0, 3, 4, 5] rfl (sM_partOf_67 G h v1 (jM_partOf_27 h v1 k_15 n) ih y3 v4 v5 v6)
      · refine E_goto (t := 133) dX9_partOf_45 rfl ?_
        refine E_iinc (q := 5) (v := (v6 + 1)) (ls' := [(6, .int (v6 + 1)), (0, .ref (G.ad 32 0)), (1, .int v1), (3, .int v3), (4, .int v4), (5, .int v5)]) dX9_partOf_133 rfl rfl (Nat.le_of_ble_eq_true rfl) rfl ?_
        refine E_goto (t := 27) dX9_partOf_136 rfl ?_
        exact E_sub [1, 2, 3, 4, 5, 0] rfl (ih v3 v4 v5 (v6 + 1))
def jM_partOf_15 (h : AH) (v1 : Int32) : Nat → Int32 → Int32 → Int32 → Option (Int32)
  | 0, _, _, _ => none
  | n + 1, v3, v4, v5 =>
    if v3 = v4 then (some v3)
    else ((jM_partOf_27 h v1 (jM_partOf_15 h v1 n) FU v3 v3 v5 0))
set_option maxRecDepth 20000 in
set_option maxHeartbeats 2000000 in
theorem sM_partOf_15 (G : JG) (h : AH) (v1 : Int32)  : ∀ (n : Nat) (v3 : Int32) (v4 : Int32) (v5 : Int32), Sim G iM_partOf (rvI h) 15 [(0, .ref (G.ad 32 0)), (1, .int v1), (3, .int v3), (4, .int v4), (5, .int v5)] [] h (jM_partOf_15 h v1 n v3 v4 v5) := by
  intro n
  induction n with
  | zero => intro v3 v4 v5; exact E_none
  | succ n ih =>
    intro v3 v4 v5
    rw [jM_partOf_15]
    refine E_iload_n dX9_partOf_15 rfl 2 rfl ?_
    refine E_iload dX9_partOf_16 3 rfl ?_
    refine E_icmp_eq (t := 142) dX9_partOf_18 rfl ?_ ?_
    · refine E_iload_n dX9_partOf_142 rfl 2 rfl ?_
      exact E_iret rfl rfl dX9_partOf_143
    · refine E_iload_n dX9_partOf_21 rfl 2 rfl ?_
      refine E_istore (ls' := [(4, .int v3), (0, .ref (G.ad 32 0)), (1, .int v1), (3, .int v3), (5, .int v5)]) dX9_partOf_22 (Nat.le_of_ble_eq_true rfl) rfl ?_
      refine E_iconst (v := 0) dX9_partOf_24 rfl ?_
      refine E_istore (ls' := [(6, .int 0), (4, .int v3), (0, .ref (G.ad 32 0)), (1, .int v1), (3, .int v3), (5, .int v5)]) dX9_partOf_25 (Nat.le_of_ble_eq_true rfl) rfl ?_
      exact E_sub [2, 3, 4, 1, 5, 0] rfl (sM_partOf_27 G h v1 (jM_partOf_15 h v1 n) ih FU v3 v3 v5 0)
def jM_partOf (h : AH) (v1 : Int32) (v2 : Int32) : Option (Int32) :=
  if inb 0 161 = true then (
  (jM_partOf_15 h v1 FU ((1 : Int32) <<< (v2 &&& 31)) 0 (gI h 35 0 (0 : Int32).toNatClampNeg))) else none
set_option maxRecDepth 20000 in
set_option maxHeartbeats 2000000 in
theorem sM_partOf (G : JG) (h : AH) (v1 : Int32) (v2 : Int32) : Mt G iM_partOf (rvI h) [.ref (G.ad 32 0), .int v1, .int v2] h (jM_partOf h v1 v2) := by
  refine Mt_of (by decide) (Nat.le_of_ble_eq_true rfl) ?_
  unfold jM_partOf
  show Sim G iM_partOf (rvI h) 0 [(0, .ref (G.ad 32 0)), (1, .int v1), (2, .int v2)] [] h _
  refine E_iconst (v := 1) dX9_partOf_0 rfl ?_
  refine E_iload_n dX9_partOf_1 rfl 2 rfl ?_
  refine E_ishl dX9_partOf_2 ?_
  refine E_istore_n (ls' := [(3, .int ((1 : Int32) <<< (v2 &&& 31))), (0, .ref (G.ad 32 0)), (1, .int v1), (2, .int v2)]) dX9_partOf_3 rfl (Nat.le_of_ble_eq_true rfl) rfl ?_
  refine E_iconst (v := 0) dX9_partOf_4 rfl ?_
  refine E_istore (ls' := [(4, .int 0), (3, .int ((1 : Int32) <<< (v2 &&& 31))), (0, .ref (G.ad 32 0)), (1, .int v1), (2, .int v2)]) dX9_partOf_5 (Nat.le_of_ble_eq_true rfl) rfl ?_
  refine E_aload_n dX9_partOf_7 rfl 2 rfl ?_
  refine E_getF fl_X9_20 dX9_partOf_8 z32 ?_
  refine E_iconst (v := 0) dX9_partOf_11 rfl ?_
  refine E_iald (n := 161) rfl dX9_partOf_12 z35 (fun _ => ?_)
  refine E_istore (ls' := [(5, .int (gI h 35 0 (0 : Int32).toNatClampNeg)), (4, .int 0), (3, .int ((1 : Int32) <<< (v2 &&& 31))), (0, .ref (G.ad 32 0)), (1, .int v1), (2, .int v2)]) dX9_partOf_13 (Nat.le_of_ble_eq_true rfl) rfl ?_
  exact E_sub [3, 4, 2, 1, 0] rfl (sM_partOf_15 G h v1 FU ((1 : Int32) <<< (v2 &&& 31)) 0 (gI h 35 0 (0 : Int32).toNatClampNeg))
