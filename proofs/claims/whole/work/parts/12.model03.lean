/-! ===== the model, 3 ===== -/
def iM_mustComma : MI := (yX9_mustComma, cX9_mustComma, 1, none, { frames := 3, cells := 0, slots := 0, locals := 64 }, 1)
theorem ck_X9_mustComma : CK iM_mustComma 0 := ⟨⟨wd_113, wd_1506, by decide +kernel⟩, ⟨wd_1505, wd_63⟩⟩
def jM_mustComma (h : AH)  : Option (AH) :=
  if (gI h 32 0 13) = 0 then ((jM_comma h).bind fun q1 =>
  if q1.1 = 0 then ((jM_wrong q1.2 1 (gI q1.2 32 0 4)).bind fun h2 =>
  some h2)
  else (some q1.2))
  else (some h)
set_option maxRecDepth 20000 in
set_option maxHeartbeats 2000000 in
theorem sM_mustComma (G : JG) (h : AH)  : Mt G iM_mustComma rvV [.ref (G.ad 32 0)] h (jM_mustComma h) := by
  refine Mt_of (by decide) (Nat.le_of_ble_eq_true rfl) ?_
  unfold jM_mustComma
  show Sim G iM_mustComma rvV 0 [(0, .ref (G.ad 32 0))] [] h _
  refine E_aload_n dX9_mustComma_0 rfl 0 rfl ?_
  refine E_getI fl_X9_93 dX9_mustComma_1 z32 ?_
  refine E_if_ne (t := 23) dX9_mustComma_4 rfl ?_ ?_
  · exact E_vret rfl rfl dX9_mustComma_23
  · refine E_aload_n dX9_mustComma_7 rfl 0 rfl ?_
    refine E_cVIM (As := []) (rest := []) (sM_comma G h) ck_X9_comma lk_X9_151 rfl rfl kc_32 z32 rfl rfl rfl dX9_mustComma_8 (fun q1 _ => ?_)
    refine E_if_ne (t := 23) dX9_mustComma_11 rfl ?_ ?_
    · exact E_vret rfl rfl dX9_mustComma_23
    · refine E_aload_n dX9_mustComma_14 rfl 0 rfl ?_
      refine E_iconst (v := 1) dX9_mustComma_15 rfl ?_
      refine E_aload_n dX9_mustComma_16 rfl 0 rfl ?_
      refine E_getI fl_X9_74 dX9_mustComma_17 z32 ?_
      refine E_cVV (As := [.int 1, .int (gI q1.2 32 0 4)]) (rest := []) (sM_wrong G q1.2 1 (gI q1.2 32 0 4)) ck_X9_wrong lk_X9_117 rfl rfl kc_32 z32 rfl rfl rfl dX9_mustComma_20 (fun h2 _ => ?_)
      exact E_vret rfl rfl dX9_mustComma_23
def iM_cells : MI := (yX9_cells, cX9_cells, 1, none, { frames := 6, cells := 0, slots := 0, locals := 129 }, 1)
theorem ck_X9_cells : CK iM_cells 0 := ⟨⟨wd_113, wd_1502, by decide +kernel⟩, ⟨wd_1501, wd_62⟩⟩
def jM_cells (h : AH)  : Option (AH) :=
  if inb 0 161 = true then (
  (jM_number h 0 ((gI h 36 0 (0 : Int32).toNatClampNeg) - 1)).bind fun q1 =>
  jb (uI q1.2 32 0 24 q1.1) fun h2 =>
  (jM_mustComma h2).bind fun h3 =>
  if inb 1 161 = true then (
  (jM_number h3 0 ((gI h3 36 0 (1 : Int32).toNatClampNeg) - 1)).bind fun q4 =>
  jb (uI q4.2 32 0 25 q4.1) fun h5 =>
  (jM_must h5 13).bind fun h6 =>
  if inb 0 161 = true then (
  (jM_number h6 (gI h6 32 0 24) ((gI h6 36 0 (0 : Int32).toNatClampNeg) - 1)).bind fun q7 =>
  jb (uI q7.2 32 0 26 q7.1) fun h8 =>
  (jM_mustComma h8).bind fun h9 =>
  if inb 1 161 = true then (
  (jM_number h9 (gI h9 32 0 25) ((gI h9 36 0 (1 : Int32).toNatClampNeg) - 1)).bind fun q10 =>
  jb (uI q10.2 32 0 27 q10.1) fun h11 =>
  some h11) else none) else none) else none) else none
set_option maxRecDepth 20000 in
set_option maxHeartbeats 2000000 in
theorem sM_cells (G : JG) (h : AH)  : Mt G iM_cells rvV [.ref (G.ad 32 0)] h (jM_cells h) := by
  refine Mt_of (by decide) (Nat.le_of_ble_eq_true rfl) ?_
  unfold jM_cells
  show Sim G iM_cells rvV 0 [(0, .ref (G.ad 32 0))] [] h _
  refine E_aload_n dX9_cells_0 rfl 0 rfl ?_
  refine E_aload_n dX9_cells_1 rfl 0 rfl ?_
  refine E_iconst (v := 0) dX9_cells_2 rfl ?_
  refine E_aload_n dX9_cells_3 rfl 0 rfl ?_
  refine E_getF fl_X9_23 dX9_cells_4 z32 ?_
  refine E_iconst (v := 0) dX9_cells_7 rfl ?_
  refine E_iald (n := 161) rfl dX9_cells_8 z36 (fun _ => ?_)
  refine E_iconst (v := 1) dX9_cells_9 rfl ?_
  refine E_isub dX9_cells_10 ?_
  refine E_cVIM (As := [.int 0, .int ((gI h 36 0 (0 : Int32).toNatClampNeg) - 1)]) (rest := [.ref (G.ad 32 0)]) (sM_number G h 0 ((gI h 36 0 (0 : Int32).toNatClampNeg) - 1)) ck_X9_number lk_X9_147 rfl rfl kc_32 z32 rfl rfl rfl dX9_cells_11 (fun q1 _ => ?_)
  refine E_putI fs_X9_224 dX9_cells_14 z32 ?_
  refine E_hgen (fun h2 => ?_)
  refine E_aload_n dX9_cells_17 rfl 0 rfl ?_
  refine E_cVV (As := []) (rest := []) (sM_mustComma G h2) ck_X9_mustComma lk_X9_227 rfl rfl kc_32 z32 rfl rfl rfl dX9_cells_18 (fun h3 _ => ?_)
  refine E_aload_n dX9_cells_21 rfl 0 rfl ?_
  refine E_aload_n dX9_cells_22 rfl 0 rfl ?_
  refine E_iconst (v := 0) dX9_cells_23 rfl ?_
  refine E_aload_n dX9_cells_24 rfl 0 rfl ?_
  refine E_getF fl_X9_23 dX9_cells_25 z32 ?_
  refine E_iconst (v := 1) dX9_cells_28 rfl ?_
  refine E_iald (n := 161) rfl dX9_cells_29 z36 (fun _ => ?_)
  refine E_iconst (v := 1) dX9_cells_30 rfl ?_
  refine E_isub dX9_cells_31 ?_
  refine E_cVIM (As := [.int 0, .int ((gI h3 36 0 (1 : Int32).toNatClampNeg) - 1)]) (rest := [.ref (G.ad 32 0)]) (sM_number G h3 0 ((gI h3 36 0 (1 : Int32).toNatClampNeg) - 1)) ck_X9_number lk_X9_147 rfl rfl kc_32 z32 rfl rfl rfl dX9_cells_32 (fun q4 _ => ?_)
  refine E_putI fs_X9_230 dX9_cells_35 z32 ?_
  refine E_hgen (fun h5 => ?_)
  refine E_aload_n dX9_cells_38 rfl 0 rfl ?_
  refine E_ldcS (i := 13) rfl rfl (by decide) rfl dX9_cells_39 ?_
  refine E_cVV (As := [.ref (G.aK 13)]) (rest := []) (sM_must G h5 13 (by decide)) ck_X9_must lk_X9_143 rfl rfl kc_32 z32 rfl rfl rfl dX9_cells_41 (fun h6 _ => ?_)
  refine E_aload_n dX9_cells_44 rfl 0 rfl ?_
  refine E_aload_n dX9_cells_45 rfl 0 rfl ?_
  refine E_aload_n dX9_cells_46 rfl 0 rfl ?_
  refine E_getI fl_X9_224 dX9_cells_47 z32 ?_
  refine E_aload_n dX9_cells_50 rfl 0 rfl ?_
  refine E_getF fl_X9_23 dX9_cells_51 z32 ?_
  refine E_iconst (v := 0) dX9_cells_54 rfl ?_
  refine E_iald (n := 161) rfl dX9_cells_55 z36 (fun _ => ?_)
  refine E_iconst (v := 1) dX9_cells_56 rfl ?_
  refine E_isub dX9_cells_57 ?_
  refine E_cVIM (As := [.int (gI h6 32 0 24), .int ((gI h6 36 0 (0 : Int32).toNatClampNeg) - 1)]) (rest := [.ref (G.ad 32 0)]) (sM_number G h6 (gI h6 32 0 24) ((gI h6 36 0 (0 : Int32).toNatClampNeg) - 1)) ck_X9_number lk_X9_147 rfl rfl kc_32 z32 rfl rfl rfl dX9_cells_58 (fun q7 _ => ?_)
  refine E_putI fs_X9_235 dX9_cells_61 z32 ?_
  refine E_hgen (fun h8 => ?_)
  refine E_aload_n dX9_cells_64 rfl 0 rfl ?_
  refine E_cVV (As := []) (rest := []) (sM_mustComma G h8) ck_X9_mustComma lk_X9_227 rfl rfl kc_32 z32 rfl rfl rfl dX9_cells_65 (fun h9 _ => ?_)
  refine E_aload_n dX9_cells_68 rfl 0 rfl ?_
  refine E_aload_n dX9_cells_69 rfl 0 rfl ?_
  refine E_aload_n dX9_cells_70 rfl 0 rfl ?_
  refine E_getI fl_X9_230 dX9_cells_71 z32 ?_
  refine E_aload_n dX9_cells_74 rfl 0 rfl ?_
  refine E_getF fl_X9_23 dX9_cells_75 z32 ?_
  refine E_iconst (v := 1) dX9_cells_78 rfl ?_
  refine E_iald (n := 161) rfl dX9_cells_79 z36 (fun _ => ?_)
  refine E_iconst (v := 1) dX9_cells_80 rfl ?_
  refine E_isub dX9_cells_81 ?_
  refine E_cVIM (As := [.int (gI h9 32 0 25), .int ((gI h9 36 0 (1 : Int32).toNatClampNeg) - 1)]) (rest := [.ref (G.ad 32 0)]) (sM_number G h9 (gI h9 32 0 25) ((gI h9 36 0 (1 : Int32).toNatClampNeg) - 1)) ck_X9_number lk_X9_147 rfl rfl kc_32 z32 rfl rfl rfl dX9_cells_82 (fun q10 _ => ?_)
  refine E_putI fs_X9_238 dX9_cells_85 z32 ?_
  refine E_hgen (fun h11 => ?_)
  exact E_vret rfl rfl dX9_cells_88
def iM_fill : MI := (yX9_fill, cX9_fill, 7, none, { frames := 0, cells := 0, slots := 0, locals := 0 }, 1)
theorem ck_X9_fill : CK iM_fill 4 := ⟨⟨wd_113, wd_1511, by decide +kernel⟩, ⟨wd_1510, wd_64⟩⟩
def jM_fill_21 (k1 : Nat) (v2 : Int32) (v3 : Int32) (v4 : Int32) (k_6 : Int32 → AH → Option AH) : Nat → Int32 → Int32 → AH → Option (AH)
  | 0, _, _, _ => none
  | n + 1, v5, v6, h =>
    if v6 ≤ (gI h 32 0 26) then (if inb ((v2 + (v4 * v5)) + v6) (asz k1) = true then (
    jb (uI h k1 0 ((v2 + (v4 * v5)) + v6).toNatClampNeg (v3 + 1)) fun h1 =>
    (jM_fill_21 k1 v2 v3 v4 k_6 n v5 (v6 + 1) h1)) else none)
    else ((k_6 (v5 + 1) h))
set_option maxRecDepth 20000 in
set_option maxHeartbeats 2000000 in
theorem sM_fill_21 (G : JG) (k1 : Nat) (hak1 : AK k1 = some (0, asz k1)) (hzk1 : 0 < nIn 1 k1) (v2 : Int32) (v3 : Int32) (v4 : Int32) (k_6 : Int32 → AH → Option AH) (hk_6 : ∀ (v5 : Int32) (h : AH), Sim G iM_fill rvV 6 [(0, .ref (G.ad 32 0)), (1, .ref (G.ad k1 0)), (2, .int v2), (3, .int v3), (4, .int v4), (5, .int v5)] [] h (k_6 v5 h)) : ∀ (n : Nat) (v5 : Int32) (v6 : Int32) (h : AH), Sim G iM_fill rvV 21 [(0, .ref (G.ad 32 0)), (1, .ref (G.ad k1 0)), (2, .int v2), (3, .int v3), (4, .int v4), (5, .int v5), (6, .int v6)] [] h (jM_fill_21 k1 v2 v3 v4 k_6 n v5 v6 h) := by
  intro n
  induction n with
  | zero => intro v5 v6 h; exact E_none
  | succ n ih =>
    intro v5 v6 h
    rw [jM_fill_21]
    refine E_iload dX9_fill_21 6 rfl ?_
    refine E_aload_n dX9_fill_23 rfl 0 rfl ?_
    refine E_getI fl_X9_235 dX9_fill_24 z32 ?_
    refine E_icmp_gt (t := 51) dX9_fill_27 rfl ?_ ?_
    · refine E_iinc (q := 5) (v := (v5 + 1)) (ls' := [(5, .int (v5 + 1)), (0, .ref (G.ad 32 0)), (1, .ref (G.ad k1 0)), (2, .int v2), (3, .int v3), (4, .int v4), (6, .int v6)]) dX9_fill_51 rfl rfl (Nat.le_of_ble_eq_true rfl) rfl ?_
      refine E_goto (t := 6) dX9_fill_54 rfl ?_
      exact E_sub [1, 2, 3, 4, 5, 0] rfl (hk_6 (v5 + 1) h)
    · refine E_aload_n dX9_fill_30 rfl 1 rfl ?_
      refine E_iload_n dX9_fill_31 rfl 2 rfl ?_
      refine E_iload dX9_fill_32 4 rfl ?_
      refine E_iload dX9_fill_34 5 rfl ?_
      refine E_imul dX9_fill_36 ?_
      refine E_iadd dX9_fill_37 ?_
      refine E_iload dX9_fill_38 6 rfl ?_
      refine E_iadd dX9_fill_40 ?_
      refine E_iload_n dX9_fill_41 rfl 3 rfl ?_
      refine E_iconst (v := 1) dX9_fill_42 rfl ?_
      refine E_iadd dX9_fill_43 ?_
      refine E_iast (n := (asz k1)) hak1 dX9_fill_44 hzk1 (fun _ => ?_)
      refine E_hgen (fun h1 => ?_)
      refine E_iinc (q := 6) (v := (v6 + 1)) (ls' := [(6, .int (v6 + 1)), (0, .ref (G.ad 32 0)), (1, .ref (G.ad k1 0)), (2, .int v2), (3, .int v3), (4, .int v4), (5, .int v5)]) dX9_fill_45 rfl rfl (Nat.le_of_ble_eq_true rfl) rfl ?_
      refine E_goto (t := 21) dX9_fill_48 rfl ?_
      exact E_sub [1, 2, 3, 4, 5, 6, 0] rfl (ih v5 (v6 + 1) h1)
def jM_fill_6 (k1 : Nat) (v2 : Int32) (v3 : Int32) (v4 : Int32) : Nat → Int32 → AH → Option (AH)
  | 0, _, _ => none
  | n + 1, v5, h =>
    if v5 ≤ (gI h 32 0 27) then ((jM_fill_21 k1 v2 v3 v4 (jM_fill_6 k1 v2 v3 v4 n) FU v5 (gI h 32 0 24) h))
    else (some h)
set_option maxRecDepth 20000 in
set_option maxHeartbeats 2000000 in
theorem sM_fill_6 (G : JG) (k1 : Nat) (hak1 : AK k1 = some (0, asz k1)) (hzk1 : 0 < nIn 1 k1) (v2 : Int32) (v3 : Int32) (v4 : Int32)  : ∀ (n : Nat) (v5 : Int32) (h : AH), Sim G iM_fill rvV 6 [(0, .ref (G.ad 32 0)), (1, .ref (G.ad k1 0)), (2, .int v2), (3, .int v3), (4, .int v4), (5, .int v5)] [] h (jM_fill_6 k1 v2 v3 v4 n v5 h) := by
  intro n
  induction n with
  | zero => intro v5 h; exact E_none
  | succ n ih =>
    intro v5 h
    rw [jM_fill_6]
    refine E_iload dX9_fill_6 5 rfl ?_
    refine E_aload_n dX9_fill_8 rfl 0 rfl ?_
    refine E_getI fl_X9_238 dX9_fill_9 z32 ?_
    refine E_icmp_gt (t := 57) dX9_fill_12 rfl ?_ ?_
    · exact E_vret rfl rfl dX9_fill_57
    · refine E_aload_n dX9_fill_15 rfl 0 rfl ?_
      refine E_getI fl_X9_224 dX9_fill_16 z32 ?_
      refine E_istore (ls' := [(6, .int (gI h 32 0 24)), (0, .ref (G.ad 32 0)), (1, .ref (G.ad k1 0)), (2, .int v2), (3, .int v3), (4, .int v4), (5, .int v5)]) dX9_fill_19 (Nat.le_of_ble_eq_true rfl) rfl ?_
      exact E_sub [1, 2, 3, 4, 5, 6, 0] rfl (sM_fill_21 G k1 hak1 hzk1 v2 v3 v4 (jM_fill_6 k1 v2 v3 v4 n) ih FU v5 (gI h 32 0 24) h)
def jM_fill (h : AH) (k1 : Nat) (v2 : Int32) (v3 : Int32) (v4 : Int32) : Option (AH) :=
  (jM_fill_6 k1 v2 v3 v4 FU (gI h 32 0 25) h)
set_option maxRecDepth 20000 in
set_option maxHeartbeats 2000000 in
theorem sM_fill (G : JG) (h : AH) (k1 : Nat) (hak1 : AK k1 = some (0, asz k1)) (hzk1 : 0 < nIn 1 k1) (v2 : Int32) (v3 : Int32) (v4 : Int32) : Mt G iM_fill rvV [.ref (G.ad 32 0), .ref (G.ad k1 0), .int v2, .int v3, .int v4] h (jM_fill h k1 v2 v3 v4) := by
  refine Mt_of (by decide) (Nat.le_of_ble_eq_true rfl) ?_
  unfold jM_fill
  show Sim G iM_fill rvV 0 [(0, .ref (G.ad 32 0)), (1, .ref (G.ad k1 0)), (2, .int v2), (3, .int v3), (4, .int v4)] [] h _
  refine E_aload_n dX9_fill_0 rfl 0 rfl ?_
  refine E_getI fl_X9_230 dX9_fill_1 z32 ?_
  refine E_istore (ls' := [(5, .int (gI h 32 0 25)), (0, .ref (G.ad 32 0)), (1, .ref (G.ad k1 0)), (2, .int v2), (3, .int v3), (4, .int v4)]) dX9_fill_4 (Nat.le_of_ble_eq_true rfl) rfl ?_
  exact E_sub [1, 2, 3, 4, 5, 0] rfl (sM_fill_6 G k1 hak1 hzk1 v2 v3 v4 FU (gI h 32 0 25) h)
def iM_patches : MI := (yX9_patches, cX9_patches, 6, none, { frames := 7, cells := 0, slots := 0, locals := 151 }, 1)
theorem ck_X9_patches : CK iM_patches 2 := ⟨⟨wd_113, wd_1498, by decide +kernel⟩, ⟨wd_1497, wd_61⟩⟩
def jM_patches_38 (k1 : Nat) (v2 : Int32) (k_5 : Int32 → Int32 → AH → Option AH) (v3 : Int32) (v5 : Int32) (h : AH) : Option (AH) :=
  if (gI h 32 0 13) = 0 then ((jM_next h).bind fun h1 =>
  (jM_cells h1).bind fun h2 =>
  if (gI h2 32 0 13) = 0 then (if inb 0 161 = true then (
  (jM_fill h2 k1 v2 v5 (gI h2 36 0 (0 : Int32).toNatClampNeg)).bind fun h3 =>
  (jM_comma h3).bind fun q4 =>
  (k_5 (v3 + 1) q4.1 q4.2)) else none)
  else (some h2))
  else (some h)
set_option maxRecDepth 20000 in
set_option maxHeartbeats 2000000 in
theorem sM_patches_38 (G : JG) (k1 : Nat) (hak1 : AK k1 = some (0, asz k1)) (hzk1 : 0 < nIn 1 k1) (v2 : Int32) (k_5 : Int32 → Int32 → AH → Option AH) (hk_5 : ∀ (v3 : Int32) (v4 : Int32) (h : AH), Sim G iM_patches rvV 5 [(0, .ref (G.ad 32 0)), (1, .ref (G.ad k1 0)), (2, .int v2), (3, .int v3), (4, .int v4)] [] h (k_5 v3 v4 h)) (v3 : Int32) (v5 : Int32) (h : AH) : Sim G iM_patches rvV 38 [(0, .ref (G.ad 32 0)), (1, .ref (G.ad k1 0)), (2, .int v2), (3, .int v3), (5, .int v5)] [] h (jM_patches_38 k1 v2 k_5 v3 v5 h) := by
  unfold jM_patches_38
  refine E_aload_n dX9_patches_38 rfl 0 rfl ?_
  refine E_getI fl_X9_93 dX9_patches_39 z32 ?_
  refine E_if_eq (t := 46) dX9_patches_42 rfl ?_ ?_
  · refine E_aload_n dX9_patches_46 rfl 0 rfl ?_
    refine E_cVV (As := []) (rest := []) (sM_next G h) ck_X9_next lk_X9_114 rfl rfl kc_32 z32 rfl rfl rfl dX9_patches_47 (fun h1 _ => ?_)
    refine E_aload_n dX9_patches_50 rfl 0 rfl ?_
    refine E_cVV (As := []) (rest := []) (sM_cells G h1) ck_X9_cells lk_X9_245 rfl rfl kc_32 z32 rfl rfl rfl dX9_patches_51 (fun h2 _ => ?_)
    refine E_aload_n dX9_patches_54 rfl 0 rfl ?_
    refine E_getI fl_X9_93 dX9_patches_55 z32 ?_
    refine E_if_eq (t := 62) dX9_patches_58 rfl ?_ ?_
    · refine E_aload_n dX9_patches_62 rfl 0 rfl ?_
      refine E_aload_n dX9_patches_63 rfl 1 rfl ?_
      refine E_iload_n dX9_patches_64 rfl 2 rfl ?_
      refine E_iload dX9_patches_65 4 rfl ?_
      refine E_aload_n dX9_patches_67 rfl 0 rfl ?_
      refine E_getF fl_X9_23 dX9_patches_68 z32 ?_
      refine E_iconst (v := 0) dX9_patches_71 rfl ?_
      refine E_iald (n := 161) rfl dX9_patches_72 z36 (fun _ => ?_)
      refine E_cVV (As := [.ref (G.ad k1 0), .int v2, .int v5, .int (gI h2 36 0 (0 : Int32).toNatClampNeg)]) (rest := []) (sM_fill G h2 k1 hak1 hzk1 v2 v5 (gI h2 36 0 (0 : Int32).toNatClampNeg)) ck_X9_fill lk_X9_248 rfl rfl kc_32 z32 rfl rfl rfl dX9_patches_73 (fun h3 _ => ?_)
      refine E_iinc (q := 3) (v := (v3 + 1)) (ls' := [(3, .int (v3 + 1)), (0, .ref (G.ad 32 0)), (1, .ref (G.ad k1 0)), (2, .int v2), (5, .int v5)]) dX9_patches_76 rfl rfl (Nat.le_of_ble_eq_true rfl) rfl ?_
      refine E_aload_n dX9_patches_79 rfl 1 rfl ?_
      refine E_cVIM (As := []) (rest := []) (sM_comma G h3) ck_X9_comma lk_X9_151 rfl rfl kc_32 z32 rfl rfl rfl dX9_patches_80 (fun q4 _ => ?_)
      refine E_istore (ls' := [(4, .int q4.1), (3, .int (v3 + 1)), (0, .ref (G.ad 32 0)), (1, .ref (G.ad k1 0)), (2, .int v2), (5, .int v5)]) dX9_patches_83 (Nat.le_of_ble_eq_true rfl) rfl ?_
      refine E_goto (t := 5) dX9_patches_85 rfl ?_
      exact E_sub [2, 3, 4, 1, 0] rfl (hk_5 (v3 + 1) q4.1 q4.2)
    · exact E_vret rfl rfl dX9_patches_61
  · exact E_vret rfl rfl dX9_patches_45
def jM_patches_5 (k1 : Nat) (v2 : Int32) : Nat → Int32 → Int32 → AH → Option (AH)
  | 0, _, _, _ => none
  | n + 1, v3, v4, h =>
    if v4 = 0 then (some h)
    else ((jM_named h 1).bind fun q1 =>
    if (gI q1.2 32 0 13) = 0 then (if v3 = 4 then ((jM_wrong q1.2 5 (gI q1.2 32 0 4)).bind fun h2 =>
    (jM_patches_38 k1 v2 (jM_patches_5 k1 v2 n) v3 q1.1 h2))
    else ((jM_patches_38 k1 v2 (jM_patches_5 k1 v2 n) v3 q1.1 q1.2)))
    else ((jM_patches_38 k1 v2 (jM_patches_5 k1 v2 n) v3 q1.1 q1.2)))
set_option maxRecDepth 20000 in
set_option maxHeartbeats 2000000 in
theorem sM_patches_5 (G : JG) (k1 : Nat) (hak1 : AK k1 = some (0, asz k1)) (hzk1 : 0 < nIn 1 k1) (v2 : Int32)  : ∀ (n : Nat) (v3 : Int32) (v4 : Int32) (h : AH), Sim G iM_patches rvV 5 [(0, .ref (G.ad 32 0)), (1, .ref (G.ad k1 0)), (2, .int v2), (3, .int v3), (4, .int v4)] [] h (jM_patches_5 k1 v2 n v3 v4 h) := by
  intro n
  induction n with
  | zero => intro v3 v4 h; exact E_none
  | succ n ih =>
    intro v3 v4 h
    rw [jM_patches_5]
    refine E_iload dX9_patches_5 4 rfl ?_
    refine E_if_eq (t := 88) dX9_patches_7 rfl ?_ ?_
    · exact E_vret rfl rfl dX9_patches_88
    · refine E_aload_n dX9_patches_10 rfl 0 rfl ?_
      refine E_iconst (v := 1) dX9_patches_11 rfl ?_
      refine E_cVIM (As := [.int 1]) (rest := []) (sM_named G h 1) ck_X9_named lk_X9_241 rfl rfl kc_32 z32 rfl rfl rfl dX9_patches_12 (fun q1 _ => ?_)
      refine E_istore (ls' := [(5, .int q1.1), (0, .ref (G.ad 32 0)), (1, .ref (G.ad k1 0)), (2, .int v2), (3, .int v3), (4, .int v4)]) dX9_patches_15 (Nat.le_of_ble_eq_true rfl) rfl ?_
      refine E_aload_n dX9_patches_17 rfl 1 rfl ?_
      refine E_getI fl_X9_93 dX9_patches_18 z32 ?_
      refine E_if_ne (t := 38) dX9_patches_21 rfl ?_ ?_
      · exact E_sub [1, 2, 3, 4, 0] rfl (sM_patches_38 G k1 hak1 hzk1 v2 (jM_patches_5 k1 v2 n) ih v3 q1.1 q1.2)
      · refine E_iload_n dX9_patches_24 rfl 4 rfl ?_
        refine E_iconst (v := 4) dX9_patches_25 rfl ?_
        refine E_icmp_ne (t := 38) dX9_patches_26 rfl ?_ ?_
        · exact E_sub [1, 2, 3, 4, 0] rfl (sM_patches_38 G k1 hak1 hzk1 v2 (jM_patches_5 k1 v2 n) ih v3 q1.1 q1.2)
        · refine E_aload_n dX9_patches_29 rfl 1 rfl ?_
          refine E_iconst (v := 5) dX9_patches_30 rfl ?_
          refine E_aload_n dX9_patches_31 rfl 1 rfl ?_
          refine E_getI fl_X9_74 dX9_patches_32 z32 ?_
          refine E_cVV (As := [.int 5, .int (gI q1.2 32 0 4)]) (rest := []) (sM_wrong G q1.2 5 (gI q1.2 32 0 4)) ck_X9_wrong lk_X9_117 rfl rfl kc_32 z32 rfl rfl rfl dX9_patches_35 (fun h2 _ => ?_)
          exact E_sub [1, 2, 3, 4, 0] rfl (sM_patches_38 G k1 hak1 hzk1 v2 (jM_patches_5 k1 v2 n) ih v3 q1.1 h2)
def jM_patches (h : AH) (k1 : Nat) (v2 : Int32) : Option (AH) :=
  (jM_patches_5 k1 v2 FU 0 1 h)
set_option maxRecDepth 20000 in
set_option maxHeartbeats 2000000 in
theorem sM_patches (G : JG) (h : AH) (k1 : Nat) (hak1 : AK k1 = some (0, asz k1)) (hzk1 : 0 < nIn 1 k1) (v2 : Int32) : Mt G iM_patches rvV [.ref (G.ad 32 0), .ref (G.ad k1 0), .int v2] h (jM_patches h k1 v2) := by
  refine Mt_of (by decide) (Nat.le_of_ble_eq_true rfl) ?_
  unfold jM_patches
  show Sim G iM_patches rvV 0 [(0, .ref (G.ad 32 0)), (1, .ref (G.ad k1 0)), (2, .int v2)] [] h _
  refine E_iconst (v := 0) dX9_patches_0 rfl ?_
  refine E_istore_n (ls' := [(3, .int 0), (0, .ref (G.ad 32 0)), (1, .ref (G.ad k1 0)), (2, .int v2)]) dX9_patches_1 rfl (Nat.le_of_ble_eq_true rfl) rfl ?_
  refine E_iconst (v := 1) dX9_patches_2 rfl ?_
  refine E_istore (ls' := [(4, .int 1), (3, .int 0), (0, .ref (G.ad 32 0)), (1, .ref (G.ad k1 0)), (2, .int v2)]) dX9_patches_3 (Nat.le_of_ble_eq_true rfl) rfl ?_
  exact E_sub [2, 3, 4, 1, 0] rfl (sM_patches_5 G k1 hak1 hzk1 v2 FU 0 1 h)
def iM_workLine : MI := (yX9_workLine, cX9_workLine, 4, none, { frames := 8, cells := 0, slots := 0, locals := 176 }, 1)
theorem ck_X9_workLine : CK iM_workLine 0 := ⟨⟨wd_113, wd_1489, by decide +kernel⟩, ⟨wd_1488, wd_59⟩⟩
def jM_workLine_108  (h : AH) : Option (AH) :=
  if (gI h 32 0 13) = 0 then (if inb 0 340 = true then (
  if inb 0 340 = true then (
  jb (uI h 38 0 (0 : Int32).toNatClampNeg ((gI h 38 0 (0 : Int32).toNatClampNeg) + 1)) fun h1 =>
  some h1) else none) else none)
  else (some h)
set_option maxRecDepth 20000 in
set_option maxHeartbeats 2000000 in
theorem sM_workLine_108 (G : JG)   (h : AH) : Sim G iM_workLine rvV 108 [(0, .ref (G.ad 32 0))] [] h (jM_workLine_108 h) := by
  unfold jM_workLine_108
  refine E_aload_n dX9_workLine_108 rfl 0 rfl ?_
  refine E_getI fl_X9_93 dX9_workLine_109 z32 ?_
  refine E_if_ne (t := 125) dX9_workLine_112 rfl ?_ ?_
  · exact E_vret rfl rfl dX9_workLine_125
  · refine E_aload_n dX9_workLine_115 rfl 0 rfl ?_
    refine E_getF fl_X9_29 dX9_workLine_116 z32 ?_
    refine E_iconst (v := 0) dX9_workLine_119 rfl ?_
    refine E_dup2 dX9_workLine_120 rfl rfl ?_
    refine E_iald (n := 340) rfl dX9_workLine_121 z38 (fun _ => ?_)
    refine E_iconst (v := 1) dX9_workLine_122 rfl ?_
    refine E_iadd dX9_workLine_123 ?_
    refine E_iast (n := 340) rfl dX9_workLine_124 z38 (fun _ => ?_)
    refine E_hgen (fun h1 => ?_)
    exact E_vret rfl rfl dX9_workLine_125
def jM_workLine_65  (v1 : Int32) (v2 : Int32) (s0 : Int32) (h : AH) : Option (AH) :=
  (jM_told h 14 s0 999).bind fun q1 =>
  if inb (v1 + 0) 340 = true then (
  jb (uI q1.2 38 0 (v1 + 0).toNatClampNeg v2) fun h2 =>
  if inb (v1 + 1) 340 = true then (
  jb (uI h2 38 0 (v1 + 1).toNatClampNeg q1.1) fun h3 =>
  if (gI h3 32 0 13) = 0 then ((jM_patches h3 38 (v1 + 2)).bind fun h4 =>
  (jM_workLine_108 h4))
  else ((jM_workLine_108 h3))) else none) else none
set_option maxRecDepth 20000 in
set_option maxHeartbeats 2000000 in
theorem sM_workLine_65 (G : JG)   (v1 : Int32) (v2 : Int32) (s0 : Int32) (h : AH) : Sim G iM_workLine rvV 65 [(0, .ref (G.ad 32 0)), (1, .int v1), (2, .int v2)] [.int s0, .ref (G.aK 14), .ref (G.ad 32 0)] h (jM_workLine_65 v1 v2 s0 h) := by
  unfold jM_workLine_65
  refine E_sipush (v := 999) dX9_workLine_65 rfl ?_
  refine E_cVIM (As := [.ref (G.aK 14), .int s0, .int 999]) (rest := []) (sM_told G h 14 (by decide) s0 999) ck_X9_told lk_X9_201 rfl rfl kc_32 z32 rfl rfl rfl dX9_workLine_68 (fun q1 _ => ?_)
  refine E_istore_n (ls' := [(3, .int q1.1), (0, .ref (G.ad 32 0)), (1, .int v1), (2, .int v2)]) dX9_workLine_71 rfl (Nat.le_of_ble_eq_true rfl) rfl ?_
  refine E_aload_n dX9_workLine_72 rfl 1 rfl ?_
  refine E_getF fl_X9_29 dX9_workLine_73 z32 ?_
  refine E_iload_n dX9_workLine_76 rfl 2 rfl ?_
  refine E_iconst (v := 0) dX9_workLine_77 rfl ?_
  refine E_iadd dX9_workLine_78 ?_
  refine E_iload_n dX9_workLine_79 rfl 3 rfl ?_
  refine E_iast (n := 340) rfl dX9_workLine_80 z38 (fun _ => ?_)
  refine E_hgen (fun h2 => ?_)
  refine E_aload_n dX9_workLine_81 rfl 1 rfl ?_
  refine E_getF fl_X9_29 dX9_workLine_82 z32 ?_
  refine E_iload_n dX9_workLine_85 rfl 2 rfl ?_
  refine E_iconst (v := 1) dX9_workLine_86 rfl ?_
  refine E_iadd dX9_workLine_87 ?_
  refine E_iload_n dX9_workLine_88 rfl 0 rfl ?_
  refine E_iast (n := 340) rfl dX9_workLine_89 z38 (fun _ => ?_)
  refine E_hgen (fun h3 => ?_)
  refine E_aload_n dX9_workLine_90 rfl 1 rfl ?_
  refine E_getI fl_X9_93 dX9_workLine_91 z32 ?_
  refine E_if_ne (t := 108) dX9_workLine_94 rfl ?_ ?_
  · exact E_sub [1] rfl (sM_workLine_108 G h3)
  · refine E_aload_n dX9_workLine_97 rfl 1 rfl ?_
    refine E_aload_n dX9_workLine_98 rfl 1 rfl ?_
    refine E_getF fl_X9_29 dX9_workLine_99 z32 ?_
    refine E_iload_n dX9_workLine_102 rfl 2 rfl ?_
    refine E_iconst (v := 2) dX9_workLine_103 rfl ?_
    refine E_iadd dX9_workLine_104 ?_
    refine E_cVV (As := [.ref (G.ad 38 0), .int (v1 + 2)]) (rest := []) (sM_patches G h3 38 rfl z38 (v1 + 2)) ck_X9_patches lk_X9_254 rfl rfl kc_32 z32 rfl rfl rfl dX9_workLine_105 (fun h4 _ => ?_)
    exact E_sub [1] rfl (sM_workLine_108 G h4)
def jM_workLine (h : AH)  : Option (AH) :=
  if (gI h 32 0 13) = 0 then (if inb 0 340 = true then (
  jb ((2 + (26 * (gI h 38 0 (0 : Int32).toNatClampNeg))) : Int32) fun y1 =>
  (jM_named h 0).bind fun q2 =>
  if (gI q2.2 32 0 13) = 0 then ((jM_next q2.2).bind fun h3 =>
  if inb 0 340 = true then (
  if (gI h3 38 0 (0 : Int32).toNatClampNeg) = 0 then ((jM_workLine_65 y1 q2.1 0 h3))
  else (if inb ((y1 - 26) + 1) 340 = true then (
  (jM_workLine_65 y1 q2.1 (gI h3 38 0 ((y1 - 26) + 1).toNatClampNeg) h3)) else none)) else none)
  else (some q2.2)) else none)
  else (some h)
set_option maxRecDepth 20000 in
set_option maxHeartbeats 2000000 in
theorem sM_workLine (G : JG) (h : AH)  : Mt G iM_workLine rvV [.ref (G.ad 32 0)] h (jM_workLine h) := by
  refine Mt_of (by decide) (Nat.le_of_ble_eq_true rfl) ?_
  unfold jM_workLine
  show Sim G iM_workLine rvV 0 [(0, .ref (G.ad 32 0))] [] h _
  refine E_aload_n dX9_workLine_0 rfl 0 rfl ?_
  refine E_getI fl_X9_93 dX9_workLine_1 z32 ?_
  refine E_if_eq (t := 8) dX9_workLine_4 rfl ?_ ?_
  · refine E_iconst (v := 2) dX9_workLine_8 rfl ?_
    refine E_bipush (v := 26) dX9_workLine_9 rfl ?_
    refine E_aload_n dX9_workLine_11 rfl 0 rfl ?_
    refine E_getF fl_X9_29 dX9_workLine_12 z32 ?_
    refine E_iconst (v := 0) dX9_workLine_15 rfl ?_
    refine E_iald (n := 340) rfl dX9_workLine_16 z38 (fun _ => ?_)
    refine E_imul dX9_workLine_17 ?_
    refine E_iadd dX9_workLine_18 ?_
    refine E_topi (fun y1 => ?_)
    refine E_istore_n (ls' := [(1, .int y1), (0, .ref (G.ad 32 0))]) dX9_workLine_19 rfl (Nat.le_of_ble_eq_true rfl) rfl ?_
    refine E_aload_n dX9_workLine_20 rfl 1 rfl ?_
    refine E_iconst (v := 0) dX9_workLine_21 rfl ?_
    refine E_cVIM (As := [.int 0]) (rest := []) (sM_named G h 0) ck_X9_named lk_X9_241 rfl rfl kc_32 z32 rfl rfl rfl dX9_workLine_22 (fun q2 _ => ?_)
    refine E_istore_n (ls' := [(2, .int q2.1), (1, .int y1), (0, .ref (G.ad 32 0))]) dX9_workLine_25 rfl (Nat.le_of_ble_eq_true rfl) rfl ?_
    refine E_aload_n dX9_workLine_26 rfl 2 rfl ?_
    refine E_getI fl_X9_93 dX9_workLine_27 z32 ?_
    refine E_if_eq (t := 34) dX9_workLine_30 rfl ?_ ?_
    · refine E_aload_n dX9_workLine_34 rfl 2 rfl ?_
      refine E_cVV (As := []) (rest := []) (sM_next G q2.2) ck_X9_next lk_X9_114 rfl rfl kc_32 z32 rfl rfl rfl dX9_workLine_35 (fun h3 _ => ?_)
      refine E_aload_n dX9_workLine_38 rfl 2 rfl ?_
      refine E_ldcS (i := 14) rfl rfl (by decide) rfl dX9_workLine_39 ?_
      refine E_aload_n dX9_workLine_41 rfl 2 rfl ?_
      refine E_getF fl_X9_29 dX9_workLine_42 z32 ?_
      refine E_iconst (v := 0) dX9_workLine_45 rfl ?_
      refine E_iald (n := 340) rfl dX9_workLine_46 z38 (fun _ => ?_)
      refine E_if_ne (t := 54) dX9_workLine_47 rfl ?_ ?_
      · refine E_aload_n dX9_workLine_54 rfl 2 rfl ?_
        refine E_getF fl_X9_29 dX9_workLine_55 z32 ?_
        refine E_iload_n dX9_workLine_58 rfl 1 rfl ?_
        refine E_bipush (v := 26) dX9_workLine_59 rfl ?_
        refine E_isub dX9_workLine_61 ?_
        refine E_iconst (v := 1) dX9_workLine_62 rfl ?_
        refine E_iadd dX9_workLine_63 ?_
        refine E_iald (n := 340) rfl dX9_workLine_64 z38 (fun _ => ?_)
        exact E_sub [2, 1, 0] rfl (sM_workLine_65 G y1 q2.1 (gI h3 38 0 ((y1 - 26) + 1).toNatClampNeg) h3)
      · refine E_iconst (v := 0) dX9_workLine_50 rfl ?_
        refine E_goto (t := 65) dX9_workLine_51 rfl ?_
        exact E_sub [2, 1, 0] rfl (sM_workLine_65 G y1 q2.1 0 h3)
    · exact E_vret rfl rfl dX9_workLine_33
  · exact E_vret rfl rfl dX9_workLine_7
def iM_contractLine : MI := (yX9_contractLine, cX9_contractLine, 4, none, { frames := 7, cells := 0, slots := 0, locals := 152 }, 1)
theorem ck_X9_contractLine : CK iM_contractLine 0 := ⟨⟨wd_113, wd_1515, by decide +kernel⟩, ⟨wd_1514, wd_65⟩⟩
def jM_contractLine (h : AH)  : Option (AH) :=
  if (gI h 32 0 13) = 0 then (if inb 6 161 = true then (
  jb ((22 + (6 * (gI h 36 0 (6 : Int32).toNatClampNeg))) : Int32) fun y1 =>
  (jM_cells h).bind fun h2 =>
  (jM_told h2 15 0 999).bind fun q3 =>
  (jM_told q3.2 16 q3.1 999).bind fun q4 =>
  if (gI q4.2 32 0 13) = 0 then (if inb y1 161 = true then (
  jb (uI q4.2 36 0 y1.toNatClampNeg (gI q4.2 32 0 24)) fun h5 =>
  if inb (y1 + 1) 161 = true then (
  jb (uI h5 36 0 (y1 + 1).toNatClampNeg (gI h5 32 0 25)) fun h6 =>
  if inb (y1 + 2) 161 = true then (
  jb (uI h6 36 0 (y1 + 2).toNatClampNeg (gI h6 32 0 26)) fun h7 =>
  if inb (y1 + 3) 161 = true then (
  jb (uI h7 36 0 (y1 + 3).toNatClampNeg (gI h7 32 0 27)) fun h8 =>
  if inb (y1 + 4) 161 = true then (
  jb (uI h8 36 0 (y1 + 4).toNatClampNeg q3.1) fun h9 =>
  if inb (y1 + 5) 161 = true then (
  jb (uI h9 36 0 (y1 + 5).toNatClampNeg q4.1) fun h10 =>
  if inb 6 161 = true then (
  if inb 6 161 = true then (
  jb (uI h10 36 0 (6 : Int32).toNatClampNeg ((gI h10 36 0 (6 : Int32).toNatClampNeg) + 1)) fun h11 =>
  some h11) else none) else none) else none) else none) else none) else none) else none) else none)
  else (some q4.2)) else none)
  else (some h)
set_option maxRecDepth 20000 in
set_option maxHeartbeats 2000000 in
theorem sM_contractLine (G : JG) (h : AH)  : Mt G iM_contractLine rvV [.ref (G.ad 32 0)] h (jM_contractLine h) := by
  refine Mt_of (by decide) (Nat.le_of_ble_eq_true rfl) ?_
  unfold jM_contractLine
  show Sim G iM_contractLine rvV 0 [(0, .ref (G.ad 32 0))] [] h _
  refine E_aload_n dX9_contractLine_0 rfl 0 rfl ?_
  refine E_getI fl_X9_93 dX9_contractLine_1 z32 ?_
  refine E_if_eq (t := 8) dX9_contractLine_4 rfl ?_ ?_
  · refine E_bipush (v := 22) dX9_contractLine_8 rfl ?_
    refine E_bipush (v := 6) dX9_contractLine_10 rfl ?_
    refine E_aload_n dX9_contractLine_12 rfl 0 rfl ?_
    refine E_getF fl_X9_23 dX9_contractLine_13 z32 ?_
    refine E_bipush (v := 6) dX9_contractLine_16 rfl ?_
    refine E_iald (n := 161) rfl dX9_contractLine_18 z36 (fun _ => ?_)
    refine E_imul dX9_contractLine_19 ?_
    refine E_iadd dX9_contractLine_20 ?_
    refine E_topi (fun y1 => ?_)
    refine E_istore_n (ls' := [(1, .int y1), (0, .ref (G.ad 32 0))]) dX9_contractLine_21 rfl (Nat.le_of_ble_eq_true rfl) rfl ?_
    refine E_aload_n dX9_contractLine_22 rfl 1 rfl ?_
    refine E_cVV (As := []) (rest := []) (sM_cells G h) ck_X9_cells lk_X9_245 rfl rfl kc_32 z32 rfl rfl rfl dX9_contractLine_23 (fun h2 _ => ?_)
    refine E_aload_n dX9_contractLine_26 rfl 1 rfl ?_
    refine E_ldcSw (i := 15) rfl rfl (by decide) rfl dX9_contractLine_27 ?_
    refine E_iconst (v := 0) dX9_contractLine_30 rfl ?_
    refine E_sipush (v := 999) dX9_contractLine_31 rfl ?_
    refine E_cVIM (As := [.ref (G.aK 15), .int 0, .int 999]) (rest := []) (sM_told G h2 15 (by decide) 0 999) ck_X9_told lk_X9_201 rfl rfl kc_32 z32 rfl rfl rfl dX9_contractLine_34 (fun q3 _ => ?_)
    refine E_istore_n (ls' := [(2, .int q3.1), (1, .int y1), (0, .ref (G.ad 32 0))]) dX9_contractLine_37 rfl (Nat.le_of_ble_eq_true rfl) rfl ?_
    refine E_aload_n dX9_contractLine_38 rfl 2 rfl ?_
    refine E_ldcSw (i := 16) rfl rfl (by decide) rfl dX9_contractLine_39 ?_
    refine E_iload_n dX9_contractLine_42 rfl 0 rfl ?_
    refine E_sipush (v := 999) dX9_contractLine_43 rfl ?_
    refine E_cVIM (As := [.ref (G.aK 16), .int q3.1, .int 999]) (rest := []) (sM_told G q3.2 16 (by decide) q3.1 999) ck_X9_told lk_X9_201 rfl rfl kc_32 z32 rfl rfl rfl dX9_contractLine_46 (fun q4 _ => ?_)
    refine E_istore_n (ls' := [(3, .int q4.1), (2, .int q3.1), (1, .int y1), (0, .ref (G.ad 32 0))]) dX9_contractLine_49 rfl (Nat.le_of_ble_eq_true rfl) rfl ?_
    refine E_aload_n dX9_contractLine_50 rfl 3 rfl ?_
    refine E_getI fl_X9_93 dX9_contractLine_51 z32 ?_
    refine E_if_eq (t := 58) dX9_contractLine_54 rfl ?_ ?_
    · refine E_aload_n dX9_contractLine_58 rfl 3 rfl ?_
      refine E_getF fl_X9_23 dX9_contractLine_59 z32 ?_
      refine E_iload_n dX9_contractLine_62 rfl 2 rfl ?_
      refine E_aload_n dX9_contractLine_63 rfl 3 rfl ?_
      refine E_getI fl_X9_224 dX9_contractLine_64 z32 ?_
      refine E_iast (n := 161) rfl dX9_contractLine_67 z36 (fun _ => ?_)
      refine E_hgen (fun h5 => ?_)
      refine E_aload_n dX9_contractLine_68 rfl 3 rfl ?_
      refine E_getF fl_X9_23 dX9_contractLine_69 z32 ?_
      refine E_iload_n dX9_contractLine_72 rfl 2 rfl ?_
      refine E_iconst (v := 1) dX9_contractLine_73 rfl ?_
      refine E_iadd dX9_contractLine_74 ?_
      refine E_aload_n dX9_contractLine_75 rfl 3 rfl ?_
      refine E_getI fl_X9_230 dX9_contractLine_76 z32 ?_
      refine E_iast (n := 161) rfl dX9_contractLine_79 z36 (fun _ => ?_)
      refine E_hgen (fun h6 => ?_)
      refine E_aload_n dX9_contractLine_80 rfl 3 rfl ?_
      refine E_getF fl_X9_23 dX9_contractLine_81 z32 ?_
      refine E_iload_n dX9_contractLine_84 rfl 2 rfl ?_
      refine E_iconst (v := 2) dX9_contractLine_85 rfl ?_
      refine E_iadd dX9_contractLine_86 ?_
      refine E_aload_n dX9_contractLine_87 rfl 3 rfl ?_
      refine E_getI fl_X9_235 dX9_contractLine_88 z32 ?_
      refine E_iast (n := 161) rfl dX9_contractLine_91 z36 (fun _ => ?_)
      refine E_hgen (fun h7 => ?_)
      refine E_aload_n dX9_contractLine_92 rfl 3 rfl ?_
      refine E_getF fl_X9_23 dX9_contractLine_93 z32 ?_
      refine E_iload_n dX9_contractLine_96 rfl 2 rfl ?_
      refine E_iconst (v := 3) dX9_contractLine_97 rfl ?_
      refine E_iadd dX9_contractLine_98 ?_
      refine E_aload_n dX9_contractLine_99 rfl 3 rfl ?_
      refine E_getI fl_X9_238 dX9_contractLine_100 z32 ?_
      refine E_iast (n := 161) rfl dX9_contractLine_103 z36 (fun _ => ?_)
      refine E_hgen (fun h8 => ?_)
      refine E_aload_n dX9_contractLine_104 rfl 3 rfl ?_
      refine E_getF fl_X9_23 dX9_contractLine_105 z32 ?_
      refine E_iload_n dX9_contractLine_108 rfl 2 rfl ?_
      refine E_iconst (v := 4) dX9_contractLine_109 rfl ?_
      refine E_iadd dX9_contractLine_110 ?_
      refine E_iload_n dX9_contractLine_111 rfl 1 rfl ?_
      refine E_iast (n := 161) rfl dX9_contractLine_112 z36 (fun _ => ?_)
      refine E_hgen (fun h9 => ?_)
      refine E_aload_n dX9_contractLine_113 rfl 3 rfl ?_
      refine E_getF fl_X9_23 dX9_contractLine_114 z32 ?_
      refine E_iload_n dX9_contractLine_117 rfl 2 rfl ?_
      refine E_iconst (v := 5) dX9_contractLine_118 rfl ?_
      refine E_iadd dX9_contractLine_119 ?_
      refine E_iload_n dX9_contractLine_120 rfl 0 rfl ?_
      refine E_iast (n := 161) rfl dX9_contractLine_121 z36 (fun _ => ?_)
      refine E_hgen (fun h10 => ?_)
      refine E_aload_n dX9_contractLine_122 rfl 3 rfl ?_
      refine E_getF fl_X9_23 dX9_contractLine_123 z32 ?_
      refine E_bipush (v := 6) dX9_contractLine_126 rfl ?_
      refine E_dup2 dX9_contractLine_128 rfl rfl ?_
      refine E_iald (n := 161) rfl dX9_contractLine_129 z36 (fun _ => ?_)
      refine E_iconst (v := 1) dX9_contractLine_130 rfl ?_
      refine E_iadd dX9_contractLine_131 ?_
      refine E_iast (n := 161) rfl dX9_contractLine_132 z36 (fun _ => ?_)
      refine E_hgen (fun h11 => ?_)
      exact E_vret rfl rfl dX9_contractLine_133
    · exact E_vret rfl rfl dX9_contractLine_57
  · exact E_vret rfl rfl dX9_contractLine_7
def iM_wantLine : MI := (yX9_wantLine, cX9_wantLine, 1, none, { frames := 8, cells := 0, slots := 0, locals := 176 }, 1)
theorem ck_X9_wantLine : CK iM_wantLine 0 := ⟨⟨wd_113, wd_1521, by decide +kernel⟩, ⟨wd_1520, wd_66⟩⟩
def jM_wantLine (h : AH)  : Option (AH) :=
  if (gI h 32 0 13) = 0 then (if inb 70 161 = true then (
  jb (uI h 36 0 (70 : Int32).toNatClampNeg 1) fun h1 =>
  (jM_patches h1 36 46).bind fun h2 =>
  some h2) else none)
  else (some h)
set_option maxRecDepth 20000 in
set_option maxHeartbeats 2000000 in
theorem sM_wantLine (G : JG) (h : AH)  : Mt G iM_wantLine rvV [.ref (G.ad 32 0)] h (jM_wantLine h) := by
  refine Mt_of (by decide) (Nat.le_of_ble_eq_true rfl) ?_
  unfold jM_wantLine
  show Sim G iM_wantLine rvV 0 [(0, .ref (G.ad 32 0))] [] h _
  refine E_aload_n dX9_wantLine_0 rfl 0 rfl ?_
  refine E_getI fl_X9_93 dX9_wantLine_1 z32 ?_
  refine E_if_eq (t := 8) dX9_wantLine_4 rfl ?_ ?_
  · refine E_aload_n dX9_wantLine_8 rfl 0 rfl ?_
    refine E_getF fl_X9_23 dX9_wantLine_9 z32 ?_
    refine E_bipush (v := 70) dX9_wantLine_12 rfl ?_
    refine E_iconst (v := 1) dX9_wantLine_14 rfl ?_
    refine E_iast (n := 161) rfl dX9_wantLine_15 z36 (fun _ => ?_)
    refine E_hgen (fun h1 => ?_)
    refine E_aload_n dX9_wantLine_16 rfl 0 rfl ?_
    refine E_aload_n dX9_wantLine_17 rfl 0 rfl ?_
    refine E_getF fl_X9_23 dX9_wantLine_18 z32 ?_
    refine E_bipush (v := 46) dX9_wantLine_21 rfl ?_
    refine E_cVV (As := [.ref (G.ad 36 0), .int 46]) (rest := []) (sM_patches G h1 36 rfl z36 46) ck_X9_patches lk_X9_254 rfl rfl kc_32 z32 rfl rfl rfl dX9_wantLine_23 (fun h2 _ => ?_)
    exact E_vret rfl rfl dX9_wantLine_26
  · exact E_vret rfl rfl dX9_wantLine_7
def iM_readLine : MI := (yX9_readLine, cX9_readLine, 1, none, { frames := 9, cells := 0, slots := 0, locals := 199 }, 1)
theorem ck_X9_readLine : CK iM_readLine 0 := ⟨⟨wd_113, wd_1368, by decide +kernel⟩, ⟨wd_1367, wd_44⟩⟩
def jM_readLine_170  (s0 : Int32) (h : AH) : Option (AH) :=
  (jM_begins h 5 s0 3 1).bind fun q1 =>
  if q1.1 = 0 then ((jM_wrong q1.2 1 (gI q1.2 32 0 4)).bind fun h2 =>
  some h2)
  else ((jM_wantLine q1.2).bind fun h3 =>
  some h3)
set_option maxRecDepth 20000 in
set_option maxHeartbeats 2000000 in
theorem sM_readLine_170 (G : JG)   (s0 : Int32) (h : AH) : Sim G iM_readLine rvV 170 [(0, .ref (G.ad 32 0))] [.int s0, .ref (G.aK 5), .ref (G.ad 32 0)] h (jM_readLine_170 s0 h) := by
  unfold jM_readLine_170
  refine E_iconst (v := 3) dX9_readLine_170 rfl ?_
  refine E_iconst (v := 1) dX9_readLine_171 rfl ?_
  refine E_cVIM (As := [.ref (G.aK 5), .int s0, .int 3, .int 1]) (rest := []) (sM_begins G h 5 (by decide) s0 3 1) ck_X9_begins lk_X9_177 rfl rfl kc_32 z32 rfl rfl rfl dX9_readLine_172 (fun q1 _ => ?_)
  refine E_if_eq (t := 185) dX9_readLine_175 rfl ?_ ?_
  · refine E_aload_n dX9_readLine_185 rfl 0 rfl ?_
    refine E_iconst (v := 1) dX9_readLine_186 rfl ?_
    refine E_aload_n dX9_readLine_187 rfl 0 rfl ?_
    refine E_getI fl_X9_74 dX9_readLine_188 z32 ?_
    refine E_cVV (As := [.int 1, .int (gI q1.2 32 0 4)]) (rest := []) (sM_wrong G q1.2 1 (gI q1.2 32 0 4)) ck_X9_wrong lk_X9_117 rfl rfl kc_32 z32 rfl rfl rfl dX9_readLine_191 (fun h2 _ => ?_)
    exact E_vret rfl rfl dX9_readLine_194
  · refine E_aload_n dX9_readLine_178 rfl 0 rfl ?_
    refine E_cVV (As := []) (rest := []) (sM_wantLine G q1.2) ck_X9_wantLine lk_X9_196 rfl rfl kc_32 z32 rfl rfl rfl dX9_readLine_179 (fun h3 _ => ?_)
    refine E_goto (t := 194) dX9_readLine_182 rfl ?_
    exact E_vret rfl rfl dX9_readLine_194
def jM_readLine_137  (s0 : Int32) (h : AH) : Option (AH) :=
  (jM_begins h 4 s0 5 1).bind fun q1 =>
  if q1.1 = 0 then (if inb 70 161 = true then (
  if (gI q1.2 36 0 (70 : Int32).toNatClampNeg) = 0 then ((jM_readLine_170 1 q1.2))
  else ((jM_readLine_170 0 q1.2))) else none)
  else ((jM_contractLine q1.2).bind fun h2 =>
  some h2)
set_option maxRecDepth 20000 in
set_option maxHeartbeats 2000000 in
theorem sM_readLine_137 (G : JG)   (s0 : Int32) (h : AH) : Sim G iM_readLine rvV 137 [(0, .ref (G.ad 32 0))] [.int s0, .ref (G.aK 4), .ref (G.ad 32 0)] h (jM_readLine_137 s0 h) := by
  unfold jM_readLine_137
  refine E_iconst (v := 5) dX9_readLine_137 rfl ?_
  refine E_iconst (v := 1) dX9_readLine_138 rfl ?_
  refine E_cVIM (As := [.ref (G.aK 4), .int s0, .int 5, .int 1]) (rest := []) (sM_begins G h 4 (by decide) s0 5 1) ck_X9_begins lk_X9_177 rfl rfl kc_32 z32 rfl rfl rfl dX9_readLine_139 (fun q1 _ => ?_)
  refine E_if_eq (t := 152) dX9_readLine_142 rfl ?_ ?_
  · refine E_aload_n dX9_readLine_152 rfl 0 rfl ?_
    refine E_ldcS (i := 5) rfl rfl (by decide) rfl dX9_readLine_153 ?_
    refine E_aload_n dX9_readLine_155 rfl 0 rfl ?_
    refine E_getF fl_X9_23 dX9_readLine_156 z32 ?_
    refine E_bipush (v := 70) dX9_readLine_159 rfl ?_
    refine E_iald (n := 161) rfl dX9_readLine_161 z36 (fun _ => ?_)
    refine E_if_ne (t := 169) dX9_readLine_162 rfl ?_ ?_
    · refine E_iconst (v := 0) dX9_readLine_169 rfl ?_
      exact E_sub [0] rfl (sM_readLine_170 G 0 q1.2)
    · refine E_iconst (v := 1) dX9_readLine_165 rfl ?_
      refine E_goto (t := 170) dX9_readLine_166 rfl ?_
      exact E_sub [0] rfl (sM_readLine_170 G 1 q1.2)
  · refine E_aload_n dX9_readLine_145 rfl 0 rfl ?_
    refine E_cVV (As := []) (rest := []) (sM_contractLine G q1.2) ck_X9_contractLine lk_X9_193 rfl rfl kc_32 z32 rfl rfl rfl dX9_readLine_146 (fun h2 _ => ?_)
    refine E_goto (t := 194) dX9_readLine_149 rfl ?_
    exact E_vret rfl rfl dX9_readLine_194
def jM_readLine_103  (s0 : Int32) (h : AH) : Option (AH) :=
  (jM_begins h 3 s0 5 1).bind fun q1 =>
  if q1.1 = 0 then (if inb 6 161 = true then (
  if (gI q1.2 36 0 (6 : Int32).toNatClampNeg) < 4 then ((jM_readLine_137 1 q1.2))
  else ((jM_readLine_137 0 q1.2))) else none)
  else ((jM_workLine q1.2).bind fun h2 =>
  some h2)
set_option maxRecDepth 20000 in
set_option maxHeartbeats 2000000 in
theorem sM_readLine_103 (G : JG)   (s0 : Int32) (h : AH) : Sim G iM_readLine rvV 103 [(0, .ref (G.ad 32 0))] [.int s0, .ref (G.aK 3), .ref (G.ad 32 0)] h (jM_readLine_103 s0 h) := by
  unfold jM_readLine_103
  refine E_iconst (v := 5) dX9_readLine_103 rfl ?_
  refine E_iconst (v := 1) dX9_readLine_104 rfl ?_
  refine E_cVIM (As := [.ref (G.aK 3), .int s0, .int 5, .int 1]) (rest := []) (sM_begins G h 3 (by decide) s0 5 1) ck_X9_begins lk_X9_177 rfl rfl kc_32 z32 rfl rfl rfl dX9_readLine_105 (fun q1 _ => ?_)
  refine E_if_eq (t := 118) dX9_readLine_108 rfl ?_ ?_
  · refine E_aload_n dX9_readLine_118 rfl 0 rfl ?_
    refine E_ldcS (i := 4) rfl rfl (by decide) rfl dX9_readLine_119 ?_
    refine E_aload_n dX9_readLine_121 rfl 0 rfl ?_
    refine E_getF fl_X9_23 dX9_readLine_122 z32 ?_
    refine E_bipush (v := 6) dX9_readLine_125 rfl ?_
    refine E_iald (n := 161) rfl dX9_readLine_127 z36 (fun _ => ?_)
    refine E_iconst (v := 4) dX9_readLine_128 rfl ?_
    refine E_icmp_ge (t := 136) dX9_readLine_129 rfl ?_ ?_
    · refine E_iconst (v := 0) dX9_readLine_136 rfl ?_
      exact E_sub [0] rfl (sM_readLine_137 G 0 q1.2)
    · refine E_iconst (v := 1) dX9_readLine_132 rfl ?_
      refine E_goto (t := 137) dX9_readLine_133 rfl ?_
      exact E_sub [0] rfl (sM_readLine_137 G 1 q1.2)
  · refine E_aload_n dX9_readLine_111 rfl 0 rfl ?_
    refine E_cVV (As := []) (rest := []) (sM_workLine G q1.2) ck_X9_workLine lk_X9_190 rfl rfl kc_32 z32 rfl rfl rfl dX9_readLine_112 (fun h2 _ => ?_)
    refine E_goto (t := 194) dX9_readLine_115 rfl ?_
    exact E_vret rfl rfl dX9_readLine_194
def jM_readLine_50  (s0 : Int32) (h : AH) : Option (AH) :=
  (jM_begins h 1 s0 5 0).bind fun q1 =>
  if q1.1 = 0 then ((jM_begins q1.2 2 1 1 0).bind fun q2 =>
  if q2.1 = 0 then (if inb 0 340 = true then (
  if (gI q2.2 38 0 (0 : Int32).toNatClampNeg) < 9 then ((jM_readLine_103 1 q2.2))
  else ((jM_readLine_103 0 q2.2))) else none)
  else ((jM_handLine q2.2).bind fun h3 =>
  some h3))
  else ((jM_colourLine q1.2).bind fun h4 =>
  some h4)
set_option maxRecDepth 20000 in
set_option maxHeartbeats 2000000 in
theorem sM_readLine_50 (G : JG)   (s0 : Int32) (h : AH) : Sim G iM_readLine rvV 50 [(0, .ref (G.ad 32 0))] [.int s0, .ref (G.aK 1), .ref (G.ad 32 0)] h (jM_readLine_50 s0 h) := by
  unfold jM_readLine_50
  refine E_iconst (v := 5) dX9_readLine_50 rfl ?_
  refine E_iconst (v := 0) dX9_readLine_51 rfl ?_
  refine E_cVIM (As := [.ref (G.aK 1), .int s0, .int 5, .int 0]) (rest := []) (sM_begins G h 1 (by decide) s0 5 0) ck_X9_begins lk_X9_177 rfl rfl kc_32 z32 rfl rfl rfl dX9_readLine_52 (fun q1 _ => ?_)
  refine E_if_eq (t := 65) dX9_readLine_55 rfl ?_ ?_
  · refine E_aload_n dX9_readLine_65 rfl 0 rfl ?_
    refine E_ldcS (i := 2) rfl rfl (by decide) rfl dX9_readLine_66 ?_
    refine E_iconst (v := 1) dX9_readLine_68 rfl ?_
    refine E_iconst (v := 1) dX9_readLine_69 rfl ?_
    refine E_iconst (v := 0) dX9_readLine_70 rfl ?_
    refine E_cVIM (As := [.ref (G.aK 2), .int 1, .int 1, .int 0]) (rest := []) (sM_begins G q1.2 2 (by decide) 1 1 0) ck_X9_begins lk_X9_177 rfl rfl kc_32 z32 rfl rfl rfl dX9_readLine_71 (fun q2 _ => ?_)
    refine E_if_eq (t := 84) dX9_readLine_74 rfl ?_ ?_
    · refine E_aload_n dX9_readLine_84 rfl 0 rfl ?_
      refine E_ldcS (i := 3) rfl rfl (by decide) rfl dX9_readLine_85 ?_
      refine E_aload_n dX9_readLine_87 rfl 0 rfl ?_
      refine E_getF fl_X9_29 dX9_readLine_88 z32 ?_
      refine E_iconst (v := 0) dX9_readLine_91 rfl ?_
      refine E_iald (n := 340) rfl dX9_readLine_92 z38 (fun _ => ?_)
      refine E_bipush (v := 9) dX9_readLine_93 rfl ?_
      refine E_icmp_ge (t := 102) dX9_readLine_95 rfl ?_ ?_
      · refine E_iconst (v := 0) dX9_readLine_102 rfl ?_
        exact E_sub [0] rfl (sM_readLine_103 G 0 q2.2)
      · refine E_iconst (v := 1) dX9_readLine_98 rfl ?_
        refine E_goto (t := 103) dX9_readLine_99 rfl ?_
        exact E_sub [0] rfl (sM_readLine_103 G 1 q2.2)
    · refine E_aload_n dX9_readLine_77 rfl 0 rfl ?_
      refine E_cVV (As := []) (rest := []) (sM_handLine G q2.2) ck_X9_handLine lk_X9_187 rfl rfl kc_32 z32 rfl rfl rfl dX9_readLine_78 (fun h3 _ => ?_)
      refine E_goto (t := 194) dX9_readLine_81 rfl ?_
      exact E_vret rfl rfl dX9_readLine_194
  · refine E_aload_n dX9_readLine_58 rfl 0 rfl ?_
    refine E_cVV (As := []) (rest := []) (sM_colourLine G q1.2) ck_X9_colourLine lk_X9_184 rfl rfl kc_32 z32 rfl rfl rfl dX9_readLine_59 (fun h4 _ => ?_)
    refine E_goto (t := 194) dX9_readLine_62 rfl ?_
    exact E_vret rfl rfl dX9_readLine_194
def jM_readLine_17  (s0 : Int32) (h : AH) : Option (AH) :=
  (jM_begins h 0 s0 3 0).bind fun q1 =>
  if q1.1 = 0 then (if inb 4 161 = true then (
  if (gI q1.2 36 0 (4 : Int32).toNatClampNeg) < 5 then ((jM_readLine_50 1 q1.2))
  else ((jM_readLine_50 0 q1.2))) else none)
  else ((jM_wallLine q1.2).bind fun h2 =>
  some h2)
set_option maxRecDepth 20000 in
set_option maxHeartbeats 2000000 in
theorem sM_readLine_17 (G : JG)   (s0 : Int32) (h : AH) : Sim G iM_readLine rvV 17 [(0, .ref (G.ad 32 0))] [.int s0, .ref (G.aK 0), .ref (G.ad 32 0)] h (jM_readLine_17 s0 h) := by
  unfold jM_readLine_17
  refine E_iconst (v := 3) dX9_readLine_17 rfl ?_
  refine E_iconst (v := 0) dX9_readLine_18 rfl ?_
  refine E_cVIM (As := [.ref (G.aK 0), .int s0, .int 3, .int 0]) (rest := []) (sM_begins G h 0 (by decide) s0 3 0) ck_X9_begins lk_X9_177 rfl rfl kc_32 z32 rfl rfl rfl dX9_readLine_19 (fun q1 _ => ?_)
  refine E_if_eq (t := 32) dX9_readLine_22 rfl ?_ ?_
  · refine E_aload_n dX9_readLine_32 rfl 0 rfl ?_
    refine E_ldcS (i := 1) rfl rfl (by decide) rfl dX9_readLine_33 ?_
    refine E_aload_n dX9_readLine_35 rfl 0 rfl ?_
    refine E_getF fl_X9_23 dX9_readLine_36 z32 ?_
    refine E_iconst (v := 4) dX9_readLine_39 rfl ?_
    refine E_iald (n := 161) rfl dX9_readLine_40 z36 (fun _ => ?_)
    refine E_iconst (v := 5) dX9_readLine_41 rfl ?_
    refine E_icmp_ge (t := 49) dX9_readLine_42 rfl ?_ ?_
    · refine E_iconst (v := 0) dX9_readLine_49 rfl ?_
      exact E_sub [0] rfl (sM_readLine_50 G 0 q1.2)
    · refine E_iconst (v := 1) dX9_readLine_45 rfl ?_
      refine E_goto (t := 50) dX9_readLine_46 rfl ?_
      exact E_sub [0] rfl (sM_readLine_50 G 1 q1.2)
  · refine E_aload_n dX9_readLine_25 rfl 0 rfl ?_
    refine E_cVV (As := []) (rest := []) (sM_wallLine G q1.2) ck_X9_wallLine lk_X9_181 rfl rfl kc_32 z32 rfl rfl rfl dX9_readLine_26 (fun h2 _ => ?_)
    refine E_goto (t := 194) dX9_readLine_29 rfl ?_
    exact E_vret rfl rfl dX9_readLine_194
def jM_readLine (h : AH)  : Option (AH) :=
  if inb 0 161 = true then (
  if (gI h 36 0 (0 : Int32).toNatClampNeg) = 0 then ((jM_readLine_17 1 h))
  else ((jM_readLine_17 0 h))) else none
set_option maxRecDepth 20000 in
set_option maxHeartbeats 2000000 in
theorem sM_readLine (G : JG) (h : AH)  : Mt G iM_readLine rvV [.ref (G.ad 32 0)] h (jM_readLine h) := by
  refine Mt_of (by decide) (Nat.le_of_ble_eq_true rfl) ?_
  unfold jM_readLine
  show Sim G iM_readLine rvV 0 [(0, .ref (G.ad 32 0))] [] h _
  refine E_aload_n dX9_readLine_0 rfl 0 rfl ?_
  refine E_ldcS (i := 0) rfl rfl (by decide) rfl dX9_readLine_1 ?_
  refine E_aload_n dX9_readLine_3 rfl 0 rfl ?_
  refine E_getF fl_X9_23 dX9_readLine_4 z32 ?_
  refine E_iconst (v := 0) dX9_readLine_7 rfl ?_
  refine E_iald (n := 161) rfl dX9_readLine_8 z36 (fun _ => ?_)
  refine E_if_ne (t := 16) dX9_readLine_9 rfl ?_ ?_
  · refine E_iconst (v := 0) dX9_readLine_16 rfl ?_
    exact E_sub [0] rfl (sM_readLine_17 G 0 h)
  · refine E_iconst (v := 1) dX9_readLine_12 rfl ?_
    refine E_goto (t := 17) dX9_readLine_13 rfl ?_
    exact E_sub [0] rfl (sM_readLine_17 G 1 h)
def iM_book : MI := (yX9_book, cX9_book, 3, (some .int), { frames := 10, cells := 0, slots := 0, locals := 219 }, 1)
theorem ck_X9_book : CK iM_book 1 := ⟨⟨wd_113, wd_1339, by decide +kernel⟩, ⟨wd_1337, wd_1338⟩⟩
def jM_book_175  (h : AH) : Option (Int32 × AH) :=
  if (gI h 32 0 13) = 0 then ((jM_copy h 36 0 35 0 161).bind fun h1 =>
  (jM_copy h1 38 0 37 0 340).bind fun h2 =>
  jb (uI h2 32 0 14 1) fun h3 =>
  jb (uI h3 32 0 22 0) fun h4 =>
  jb (uI h4 32 0 23 0) fun h5 =>
  if inb 0 340 = true then (
  some ((gI h5 37 0 (0 : Int32).toNatClampNeg), h5)) else none)
  else ((jM_no h 4).bind fun q6 =>
  some (q6.1, q6.2))
set_option maxRecDepth 20000 in
set_option maxHeartbeats 2000000 in
theorem sM_book_175 (G : JG)   (h : AH) : Sim G iM_book rvIM 175 [(0, .ref (G.ad 32 0))] [] h (jM_book_175 h) := by
  unfold jM_book_175
  refine E_aload_n dX9_book_175 rfl 0 rfl ?_
  refine E_getI fl_X9_93 dX9_book_176 z32 ?_
  refine E_if_eq (t := 188) dX9_book_179 rfl ?_ ?_
  · refine E_aload_n dX9_book_188 rfl 0 rfl ?_
    refine E_getF fl_X9_23 dX9_book_189 z32 ?_
    refine E_iconst (v := 0) dX9_book_192 rfl ?_
    refine E_aload_n dX9_book_193 rfl 0 rfl ?_
    refine E_getF fl_X9_20 dX9_book_194 z32 ?_
    refine E_iconst (v := 0) dX9_book_197 rfl ?_
    refine E_sipush (v := 161) dX9_book_198 rfl ?_
    refine E_cSV (As := [.ref (G.ad 36 0), .int 0, .ref (G.ad 35 0), .int 0, .int 161]) (rest := []) (sM_copy G h 36 rfl z36 0 35 rfl z35 0 161) ck_X9_copy lk_X9_164 rfl rfl rfl rfl rfl dX9_book_201 (fun h1 _ => ?_)
    refine E_aload_n dX9_book_204 rfl 0 rfl ?_
    refine E_getF fl_X9_29 dX9_book_205 z32 ?_
    refine E_iconst (v := 0) dX9_book_208 rfl ?_
    refine E_aload_n dX9_book_209 rfl 0 rfl ?_
    refine E_getF fl_X9_26 dX9_book_210 z32 ?_
    refine E_iconst (v := 0) dX9_book_213 rfl ?_
    refine E_sipush (v := 340) dX9_book_214 rfl ?_
    refine E_cSV (As := [.ref (G.ad 38 0), .int 0, .ref (G.ad 37 0), .int 0, .int 340]) (rest := []) (sM_copy G h1 38 rfl z38 0 37 rfl z37 0 340) ck_X9_copy lk_X9_164 rfl rfl rfl rfl rfl dX9_book_217 (fun h2 _ => ?_)
    refine E_aload_n dX9_book_220 rfl 0 rfl ?_
    refine E_iconst (v := 1) dX9_book_221 rfl ?_
    refine E_putZ fs_X9_168 (Or.inr rfl) dX9_book_222 z32 ?_
    refine E_hgen (fun h3 => ?_)
    refine E_aload_n dX9_book_225 rfl 0 rfl ?_
    refine E_iconst (v := 0) dX9_book_226 rfl ?_
    refine E_putI fs_X9_171 dX9_book_227 z32 ?_
    refine E_hgen (fun h4 => ?_)
    refine E_aload_n dX9_book_230 rfl 0 rfl ?_
    refine E_iconst (v := 0) dX9_book_231 rfl ?_
    refine E_putI fs_X9_174 dX9_book_232 z32 ?_
    refine E_hgen (fun h5 => ?_)
    refine E_aload_n dX9_book_235 rfl 0 rfl ?_
    refine E_getF fl_X9_26 dX9_book_236 z32 ?_
    refine E_iconst (v := 0) dX9_book_239 rfl ?_
    refine E_iald (n := 340) rfl dX9_book_240 z37 (fun _ => ?_)
    exact E_iret rfl rfl dX9_book_241
  · refine E_aload_n dX9_book_182 rfl 0 rfl ?_
    refine E_iconst (v := 4) dX9_book_183 rfl ?_
    refine E_cVIM (As := [.int 4]) (rest := []) (sM_no G h 4) ck_X9_no lk_X9_158 rfl rfl kc_32 z32 rfl rfl rfl dX9_book_184 (fun q6 _ => ?_)
    exact E_iret rfl rfl dX9_book_187
def jM_book_149  (h : AH) : Option (Int32 × AH) :=
  if (gI h 32 0 13) = 0 then (if inb 0 161 = true then (
  if (gI h 36 0 (0 : Int32).toNatClampNeg) = 0 then ((jM_wrong h 6 (gI h 32 0 4)).bind fun h1 =>
  (jM_book_175 h1))
  else ((jM_book_175 h))) else none)
  else ((jM_book_175 h))
set_option maxRecDepth 20000 in
set_option maxHeartbeats 2000000 in
theorem sM_book_149 (G : JG)   (h : AH) : Sim G iM_book rvIM 149 [(0, .ref (G.ad 32 0))] [] h (jM_book_149 h) := by
  unfold jM_book_149
  refine E_aload_n dX9_book_149 rfl 0 rfl ?_
  refine E_getI fl_X9_93 dX9_book_150 z32 ?_
  refine E_if_ne (t := 175) dX9_book_153 rfl ?_ ?_
  · exact E_sub [0] rfl (sM_book_175 G h)
  · refine E_aload_n dX9_book_156 rfl 0 rfl ?_
    refine E_getF fl_X9_23 dX9_book_157 z32 ?_
    refine E_iconst (v := 0) dX9_book_160 rfl ?_
    refine E_iald (n := 161) rfl dX9_book_161 z36 (fun _ => ?_)
    refine E_if_ne (t := 175) dX9_book_162 rfl ?_ ?_
    · exact E_sub [0] rfl (sM_book_175 G h)
    · refine E_aload_n dX9_book_165 rfl 0 rfl ?_
      refine E_bipush (v := 6) dX9_book_166 rfl ?_
      refine E_aload_n dX9_book_168 rfl 0 rfl ?_
      refine E_getI fl_X9_74 dX9_book_169 z32 ?_
      refine E_cVV (As := [.int 6, .int (gI h 32 0 4)]) (rest := []) (sM_wrong G h 6 (gI h 32 0 4)) ck_X9_wrong lk_X9_117 rfl rfl kc_32 z32 rfl rfl rfl dX9_book_172 (fun h1 _ => ?_)
      exact E_sub [0] rfl (sM_book_175 G h1)
def jM_book_126  (h : AH) : Option (Int32 × AH) :=
  if (gI h 32 0 13) = 0 then (if (gI h 32 0 6) = 0 then ((jM_book_149 h))
  else ((jM_wrong h 1 (gI h 32 0 4)).bind fun h1 =>
  (jM_book_149 h1)))
  else ((jM_book_149 h))
set_option maxRecDepth 20000 in
set_option maxHeartbeats 2000000 in
theorem sM_book_126 (G : JG)   (h : AH) : Sim G iM_book rvIM 126 [(0, .ref (G.ad 32 0))] [] h (jM_book_126 h) := by
  unfold jM_book_126
  refine E_aload_n dX9_book_126 rfl 0 rfl ?_
  refine E_getI fl_X9_93 dX9_book_127 z32 ?_
  refine E_if_ne (t := 149) dX9_book_130 rfl ?_ ?_
  · exact E_sub [0] rfl (sM_book_149 G h)
  · refine E_aload_n dX9_book_133 rfl 0 rfl ?_
    refine E_getI fl_X9_83 dX9_book_134 z32 ?_
    refine E_if_eq (t := 149) dX9_book_137 rfl ?_ ?_
    · exact E_sub [0] rfl (sM_book_149 G h)
    · refine E_aload_n dX9_book_140 rfl 0 rfl ?_
      refine E_iconst (v := 1) dX9_book_141 rfl ?_
      refine E_aload_n dX9_book_142 rfl 0 rfl ?_
      refine E_getI fl_X9_74 dX9_book_143 z32 ?_
      refine E_cVV (As := [.int 1, .int (gI h 32 0 4)]) (rest := []) (sM_wrong G h 1 (gI h 32 0 4)) ck_X9_wrong lk_X9_117 rfl rfl kc_32 z32 rfl rfl rfl dX9_book_146 (fun h1 _ => ?_)
      exact E_sub [0] rfl (sM_book_149 G h1)
def jM_book_99  : Nat → AH → Option (Int32 × AH)
  | 0, _ => none
  | n + 1, h =>
    if (gI h 32 0 13) = 0 then (if (gI h 32 0 6) = 59 then ((jM_next h).bind fun h1 =>
    (jM_readLine h1).bind fun h2 =>
    (jM_book_99 n h2))
    else ((jM_book_126 h)))
    else ((jM_book_126 h))
set_option maxRecDepth 20000 in
set_option maxHeartbeats 2000000 in
theorem sM_book_99 (G : JG)   : ∀ (n : Nat) (h : AH), Sim G iM_book rvIM 99 [(0, .ref (G.ad 32 0))] [] h (jM_book_99 n h) := by
  intro n
  induction n with
  | zero => intro h; exact E_none
  | succ n ih =>
    intro h
    rw [jM_book_99]
    refine E_aload_n dX9_book_99 rfl 0 rfl ?_
    refine E_getI fl_X9_93 dX9_book_100 z32 ?_
    refine E_if_ne (t := 126) dX9_book_103 rfl ?_ ?_
    · exact E_sub [0] rfl (sM_book_126 G h)
    · refine E_aload_n dX9_book_106 rfl 0 rfl ?_
      refine E_getI fl_X9_83 dX9_book_107 z32 ?_
      refine E_bipush (v := 59) dX9_book_110 rfl ?_
      refine E_icmp_ne (t := 126) dX9_book_112 rfl ?_ ?_
      · exact E_sub [0] rfl (sM_book_126 G h)
      · refine E_aload_n dX9_book_115 rfl 0 rfl ?_
        refine E_cVV (As := []) (rest := []) (sM_next G h) ck_X9_next lk_X9_114 rfl rfl kc_32 z32 rfl rfl rfl dX9_book_116 (fun h1 _ => ?_)
        refine E_aload_n dX9_book_119 rfl 0 rfl ?_
        refine E_cVV (As := []) (rest := []) (sM_readLine G h1) ck_X9_readLine lk_X9_161 rfl rfl kc_32 z32 rfl rfl rfl dX9_book_120 (fun h2 _ => ?_)
        refine E_goto (t := 99) dX9_book_123 rfl ?_
        exact E_sub [0] rfl (ih h2)
def jM_book_81 (v1 : Int32) (h : AH) : Option (Int32 × AH) :=
  jb (uI h 32 0 3 v1) fun h1 =>
  jb (uI h1 32 0 5 0) fun h2 =>
  (jM_next h2).bind fun h3 =>
  (jM_readLine h3).bind fun h4 =>
  (jM_book_99 FU h4)
set_option maxRecDepth 20000 in
set_option maxHeartbeats 2000000 in
theorem sM_book_81 (G : JG) (v1 : Int32)  (h : AH) : Sim G iM_book rvIM 81 [(0, .ref (G.ad 32 0)), (1, .int v1)] [] h (jM_book_81 v1 h) := by
  unfold jM_book_81
  refine E_aload_n dX9_book_81 rfl 0 rfl ?_
  refine E_iload_n dX9_book_82 rfl 1 rfl ?_
  refine E_putI fs_X9_64 dX9_book_83 z32 ?_
  refine E_hgen (fun h1 => ?_)
  refine E_aload_n dX9_book_86 rfl 0 rfl ?_
  refine E_iconst (v := 0) dX9_book_87 rfl ?_
  refine E_putI fs_X9_67 dX9_book_88 z32 ?_
  refine E_hgen (fun h2 => ?_)
  refine E_aload_n dX9_book_91 rfl 0 rfl ?_
  refine E_cVV (As := []) (rest := []) (sM_next G h2) ck_X9_next lk_X9_114 rfl rfl kc_32 z32 rfl rfl rfl dX9_book_92 (fun h3 _ => ?_)
  refine E_aload_n dX9_book_95 rfl 0 rfl ?_
  refine E_cVV (As := []) (rest := []) (sM_readLine G h3) ck_X9_readLine lk_X9_161 rfl rfl kc_32 z32 rfl rfl rfl dX9_book_96 (fun h4 _ => ?_)
  exact E_sub [0] rfl (sM_book_99 G FU h4)
def jM_book_61 (v1 : Int32) : Nat → Int32 → AH → Option (Int32 × AH)
  | 0, _, _ => none
  | n + 1, v2, h =>
    if v2 < 340 then (if inb v2 340 = true then (
    jb (uI h 38 0 v2.toNatClampNeg 0) fun h1 =>
    (jM_book_61 v1 n (v2 + 1) h1)) else none)
    else ((jM_book_81 v1 h))
set_option maxRecDepth 20000 in
set_option maxHeartbeats 2000000 in
theorem sM_book_61 (G : JG) (v1 : Int32)  : ∀ (n : Nat) (v2 : Int32) (h : AH), Sim G iM_book rvIM 61 [(0, .ref (G.ad 32 0)), (1, .int v1), (2, .int v2)] [] h (jM_book_61 v1 n v2 h) := by
  intro n
  induction n with
  | zero => intro v2 h; exact E_none
  | succ n ih =>
    intro v2 h
    rw [jM_book_61]
    refine E_iload_n dX9_book_61 rfl 2 rfl ?_
    refine E_sipush (v := 340) dX9_book_62 rfl ?_
    refine E_icmp_ge (t := 81) dX9_book_65 rfl ?_ ?_
    · exact E_sub [0, 1] rfl (sM_book_81 G v1 h)
    · refine E_aload_n dX9_book_68 rfl 0 rfl ?_
      refine E_getF fl_X9_29 dX9_book_69 z32 ?_
      refine E_iload_n dX9_book_72 rfl 2 rfl ?_
      refine E_iconst (v := 0) dX9_book_73 rfl ?_
      refine E_iast (n := 340) rfl dX9_book_74 z38 (fun _ => ?_)
      refine E_hgen (fun h1 => ?_)
      refine E_iinc (q := 2) (v := (v2 + 1)) (ls' := [(2, .int (v2 + 1)), (0, .ref (G.ad 32 0)), (1, .int v1)]) dX9_book_75 rfl rfl (Nat.le_of_ble_eq_true rfl) rfl ?_
      refine E_goto (t := 61) dX9_book_78 rfl ?_
      exact E_sub [1, 2, 0] rfl (ih (v2 + 1) h1)
def jM_book_39 (v1 : Int32) : Nat → Int32 → AH → Option (Int32 × AH)
  | 0, _, _ => none
  | n + 1, v2, h =>
    if v2 < 161 then (if inb v2 161 = true then (
    jb (uI h 36 0 v2.toNatClampNeg 0) fun h1 =>
    (jM_book_39 v1 n (v2 + 1) h1)) else none)
    else ((jM_book_61 v1 FU 0 h))
set_option maxRecDepth 20000 in
set_option maxHeartbeats 2000000 in
theorem sM_book_39 (G : JG) (v1 : Int32)  : ∀ (n : Nat) (v2 : Int32) (h : AH), Sim G iM_book rvIM 39 [(0, .ref (G.ad 32 0)), (1, .int v1), (2, .int v2)] [] h (jM_book_39 v1 n v2 h) := by
  intro n
  induction n with
  | zero => intro v2 h; exact E_none
  | succ n ih =>
    intro v2 h
    rw [jM_book_39]
    refine E_iload_n dX9_book_39 rfl 2 rfl ?_
    refine E_sipush (v := 161) dX9_book_40 rfl ?_
    refine E_icmp_ge (t := 59) dX9_book_43 rfl ?_ ?_
    · refine E_iconst (v := 0) dX9_book_59 rfl ?_
      refine E_istore_n (ls' := [(2, .int 0), (0, .ref (G.ad 32 0)), (1, .int v1)]) dX9_book_60 rfl (Nat.le_of_ble_eq_true rfl) rfl ?_
      exact E_sub [1, 2, 0] rfl (sM_book_61 G v1 FU 0 h)
    · refine E_aload_n dX9_book_46 rfl 0 rfl ?_
      refine E_getF fl_X9_23 dX9_book_47 z32 ?_
      refine E_iload_n dX9_book_50 rfl 2 rfl ?_
      refine E_iconst (v := 0) dX9_book_51 rfl ?_
      refine E_iast (n := 161) rfl dX9_book_52 z36 (fun _ => ?_)
      refine E_hgen (fun h1 => ?_)
      refine E_iinc (q := 2) (v := (v2 + 1)) (ls' := [(2, .int (v2 + 1)), (0, .ref (G.ad 32 0)), (1, .int v1)]) dX9_book_53 rfl rfl (Nat.le_of_ble_eq_true rfl) rfl ?_
      refine E_goto (t := 39) dX9_book_56 rfl ?_
      exact E_sub [1, 2, 0] rfl (ih (v2 + 1) h1)
def jM_book (h : AH) (v1 : Int32) : Option (Int32 × AH) :=
  (jM_good h).bind fun h1 =>
  (jM_within v1 0 (gI h1 32 0 2)).bind fun r2 =>
  if r2 = 0 then ((jM_no h1 2).bind fun q6 =>
  some (q6.1, q6.2))
  else (jb (uI h1 32 0 2 0) fun h3 =>
  jb (uI h3 32 0 9 0) fun h4 =>
  jb (uI h4 32 0 13 0) fun h5 =>
  (jM_book_39 v1 FU 0 h5))
set_option maxRecDepth 20000 in
set_option maxHeartbeats 2000000 in
theorem sM_book (G : JG) (h : AH) (v1 : Int32) : Mt G iM_book rvIM [.ref (G.ad 32 0), .int v1] h (jM_book h v1) := by
  refine Mt_of (by decide) (Nat.le_of_ble_eq_true rfl) ?_
  unfold jM_book
  show Sim G iM_book rvIM 0 [(0, .ref (G.ad 32 0)), (1, .int v1)] [] h _
  refine E_aload_n dX9_book_0 rfl 0 rfl ?_
  refine E_cVV (As := []) (rest := []) (sM_good G h) ck_X9_good lk_X9_155 rfl rfl kc_32 z32 rfl rfl rfl dX9_book_1 (fun h1 _ => ?_)
  refine E_iload_n dX9_book_4 rfl 1 rfl ?_
  refine E_iconst (v := 0) dX9_book_5 rfl ?_
  refine E_aload_n dX9_book_6 rfl 0 rfl ?_
  refine E_getI fl_X9_61 dX9_book_7 z32 ?_
  refine E_cSI (As := [.int v1, .int 0, .int (gI h1 32 0 2)]) (rest := []) (sM_within G h1 v1 0 (gI h1 32 0 2)) ck_X9_within lk_X9_139 rfl rfl rfl rfl rfl dX9_book_10 (fun r2 _ => ?_)
  refine E_if_ne (t := 22) dX9_book_13 rfl ?_ ?_
  · refine E_aload_n dX9_book_22 rfl 0 rfl ?_
    refine E_iconst (v := 0) dX9_book_23 rfl ?_
    refine E_putI fs_X9_61 dX9_book_24 z32 ?_
    refine E_hgen (fun h3 => ?_)
    refine E_aload_n dX9_book_27 rfl 0 rfl ?_
    refine E_iconst (v := 0) dX9_book_28 rfl ?_
    refine E_putI fs_X9_97 dX9_book_29 z32 ?_
    refine E_hgen (fun h4 => ?_)
    refine E_aload_n dX9_book_32 rfl 0 rfl ?_
    refine E_iconst (v := 0) dX9_book_33 rfl ?_
    refine E_putZ fs_X9_93 (Or.inl rfl) dX9_book_34 z32 ?_
    refine E_hgen (fun h5 => ?_)
    refine E_iconst (v := 0) dX9_book_37 rfl ?_
    refine E_istore_n (ls' := [(2, .int 0), (0, .ref (G.ad 32 0)), (1, .int v1)]) dX9_book_38 rfl (Nat.le_of_ble_eq_true rfl) rfl ?_
    exact E_sub [1, 2, 0] rfl (sM_book_39 G v1 FU 0 h5)
  · refine E_aload_n dX9_book_16 rfl 0 rfl ?_
    refine E_iconst (v := 2) dX9_book_17 rfl ?_
    refine E_cVIM (As := [.int 2]) (rest := []) (sM_no G h1 2) ck_X9_no lk_X9_158 rfl rfl kc_32 z32 rfl rfl rfl dX9_book_18 (fun q6 _ => ?_)
    exact E_iret rfl rfl dX9_book_21
def iM_tooNew : MI := (yX9_tooNew, cX9_tooNew, 3, (some .int), { frames := 1, cells := 0, slots := 0, locals := 23 }, 1)
theorem ck_X9_tooNew : CK iM_tooNew 1 := ⟨⟨wd_113, wd_1670, by decide +kernel⟩, ⟨wd_1669, wd_85⟩⟩
def jM_tooNew_2 (h : AH) (v1 : Int32) : Nat → Int32 → Option (Int32)
  | 0, _ => none
  | n + 1, v2 =>
    (jM_cellMany h).bind fun r1 =>
    if v2 < r1 then ((jM_paintOf h v1 v2).bind fun r2 =>
    if r2 = (-2) then ((jM_tooNew_2 h v1 n (v2 + 1)))
    else ((jM_paintOf h v1 v2).bind fun r3 =>
    if inb (17 + r3) 161 = true then (
    (jM_yearOf h v1).bind fun r4 =>
    if (gI h 35 0 (17 + r3).toNatClampNeg) ≤ r4 then ((jM_tooNew_2 h v1 n (v2 + 1)))
    else (some v2)) else none))
    else (some (-2))
set_option maxRecDepth 20000 in
set_option maxHeartbeats 2000000 in
theorem sM_tooNew_2 (G : JG) (h : AH) (v1 : Int32)  : ∀ (n : Nat) (v2 : Int32), Sim G iM_tooNew (rvI h) 2 [(0, .ref (G.ad 32 0)), (1, .int v1), (2, .int v2)] [] h (jM_tooNew_2 h v1 n v2) := by
  intro n
  induction n with
  | zero => intro v2; exact E_none
  | succ n ih =>
    intro v2
    rw [jM_tooNew_2]
    refine E_iload_n dX9_tooNew_2 rfl 2 rfl ?_
    refine E_aload_n dX9_tooNew_3 rfl 0 rfl ?_
    refine E_cVI (As := []) (rest := [.int v2]) (sM_cellMany G h) ck_X9_cellMany lk_X9_287 rfl rfl kc_32 z32 rfl rfl rfl dX9_tooNew_4 (fun r1 _ => ?_)
    refine E_icmp_ge (t := 51) dX9_tooNew_7 rfl ?_ ?_
    · refine E_bipush (v := (-2)) dX9_tooNew_51 rfl ?_
      exact E_iret rfl rfl dX9_tooNew_53
    · refine E_aload_n dX9_tooNew_10 rfl 0 rfl ?_
      refine E_iload_n dX9_tooNew_11 rfl 1 rfl ?_
      refine E_iload_n dX9_tooNew_12 rfl 2 rfl ?_
      refine E_cVI (As := [.int v1, .int v2]) (rest := []) (sM_paintOf G h v1 v2) ck_X9_paintOf lk_X9_262 rfl rfl kc_32 z32 rfl rfl rfl dX9_tooNew_13 (fun r2 _ => ?_)
      refine E_bipush (v := (-2)) dX9_tooNew_16 rfl ?_
      refine E_icmp_eq (t := 45) dX9_tooNew_18 rfl ?_ ?_
      · refine E_iinc (q := 2) (v := (v2 + 1)) (ls' := [(2, .int (v2 + 1)), (0, .ref (G.ad 32 0)), (1, .int v1)]) dX9_tooNew_45 rfl rfl (Nat.le_of_ble_eq_true rfl) rfl ?_
        refine E_goto (t := 2) dX9_tooNew_48 rfl ?_
        exact E_sub [1, 2, 0] rfl (ih (v2 + 1))
      · refine E_aload_n dX9_tooNew_21 rfl 0 rfl ?_
        refine E_getF fl_X9_20 dX9_tooNew_22 z32 ?_
        refine E_bipush (v := 17) dX9_tooNew_25 rfl ?_
        refine E_aload_n dX9_tooNew_27 rfl 0 rfl ?_
        refine E_iload_n dX9_tooNew_28 rfl 1 rfl ?_
        refine E_iload_n dX9_tooNew_29 rfl 2 rfl ?_
        refine E_cVI (As := [.int v1, .int v2]) (rest := [.int 17, .ref (G.ad 35 0)]) (sM_paintOf G h v1 v2) ck_X9_paintOf lk_X9_262 rfl rfl kc_32 z32 rfl rfl rfl dX9_tooNew_30 (fun r3 _ => ?_)
        refine E_iadd dX9_tooNew_33 ?_
        refine E_iald (n := 161) rfl dX9_tooNew_34 z35 (fun _ => ?_)
        refine E_aload_n dX9_tooNew_35 rfl 0 rfl ?_
        refine E_iload_n dX9_tooNew_36 rfl 1 rfl ?_
        refine E_cVI (As := [.int v1]) (rest := [.int (gI h 35 0 (17 + r3).toNatClampNeg)]) (sM_yearOf G h v1) ck_X9_yearOf lk_X9_278 rfl rfl kc_32 z32 rfl rfl rfl dX9_tooNew_37 (fun r4 _ => ?_)
        refine E_icmp_le (t := 45) dX9_tooNew_40 rfl ?_ ?_
        · refine E_iinc (q := 2) (v := (v2 + 1)) (ls' := [(2, .int (v2 + 1)), (0, .ref (G.ad 32 0)), (1, .int v1)]) dX9_tooNew_45 rfl rfl (Nat.le_of_ble_eq_true rfl) rfl ?_
          refine E_goto (t := 2) dX9_tooNew_48 rfl ?_
          exact E_sub [1, 2, 0] rfl (ih (v2 + 1))
        · refine E_iload_n dX9_tooNew_43 rfl 2 rfl ?_
          exact E_iret rfl rfl dX9_tooNew_44
def jM_tooNew (h : AH) (v1 : Int32) : Option (Int32) :=
  (jM_tooNew_2 h v1 FU 0)
set_option maxRecDepth 20000 in
set_option maxHeartbeats 2000000 in
theorem sM_tooNew (G : JG) (h : AH) (v1 : Int32) : Mt G iM_tooNew (rvI h) [.ref (G.ad 32 0), .int v1] h (jM_tooNew h v1) := by
  refine Mt_of (by decide) (Nat.le_of_ble_eq_true rfl) ?_
  unfold jM_tooNew
  show Sim G iM_tooNew (rvI h) 0 [(0, .ref (G.ad 32 0)), (1, .int v1)] [] h _
  refine E_iconst (v := 0) dX9_tooNew_0 rfl ?_
  refine E_istore_n (ls' := [(2, .int 0), (0, .ref (G.ad 32 0)), (1, .int v1)]) dX9_tooNew_1 rfl (Nat.le_of_ble_eq_true rfl) rfl ?_
  exact E_sub [1, 2, 0] rfl (sM_tooNew_2 G h v1 FU 0)
def iM_judgedOf : MI := (yX9_judgedOf, cX9_judgedOf, 3, (some .int), { frames := 5, cells := 0, slots := 0, locals := 117 }, 1)
theorem ck_X9_judgedOf : CK iM_judgedOf 1 := ⟨⟨wd_113, wd_1658, by decide +kernel⟩, ⟨wd_1657, wd_82⟩⟩
def jM_judgedOf (h : AH) (v1 : Int32) : Option (Int32) :=
  (jM_painted h v1).bind fun r1 =>
  (jM_yearOf h v1).bind fun r2 =>
  (jM_judgedCells h r1 r2).bind fun r3 =>
  if r3 = 0 then ((jM_tooNew h v1).bind fun r4 =>
  if r4 = (-2) then (some 0)
  else (some 4))
  else (some r3)
set_option maxRecDepth 20000 in
set_option maxHeartbeats 2000000 in
theorem sM_judgedOf (G : JG) (h : AH) (v1 : Int32) : Mt G iM_judgedOf (rvI h) [.ref (G.ad 32 0), .int v1] h (jM_judgedOf h v1) := by
  refine Mt_of (by decide) (Nat.le_of_ble_eq_true rfl) ?_
  unfold jM_judgedOf
  show Sim G iM_judgedOf (rvI h) 0 [(0, .ref (G.ad 32 0)), (1, .int v1)] [] h _
  refine E_aload_n dX9_judgedOf_0 rfl 0 rfl ?_
  refine E_aload_n dX9_judgedOf_1 rfl 0 rfl ?_
  refine E_iload_n dX9_judgedOf_2 rfl 1 rfl ?_
  refine E_cVI (As := [.int v1]) (rest := [.ref (G.ad 32 0)]) (sM_painted G h v1) ck_X9_painted lk_X9_311 rfl rfl kc_32 z32 rfl rfl rfl dX9_judgedOf_3 (fun r1 _ => ?_)
  refine E_aload_n dX9_judgedOf_6 rfl 0 rfl ?_
  refine E_iload_n dX9_judgedOf_7 rfl 1 rfl ?_
  refine E_cVI (As := [.int v1]) (rest := [.int r1, .ref (G.ad 32 0)]) (sM_yearOf G h v1) ck_X9_yearOf lk_X9_278 rfl rfl kc_32 z32 rfl rfl rfl dX9_judgedOf_8 (fun r2 _ => ?_)
  refine E_cVI (As := [.int r1, .int r2]) (rest := []) (sM_judgedCells G h r1 r2) ck_X9_judgedCells lk_X9_314 rfl rfl kc_32 z32 rfl rfl rfl dX9_judgedOf_11 (fun r3 _ => ?_)
  refine E_istore_n (ls' := [(2, .int r3), (0, .ref (G.ad 32 0)), (1, .int v1)]) dX9_judgedOf_14 rfl (Nat.le_of_ble_eq_true rfl) rfl ?_
  refine E_iload_n dX9_judgedOf_15 rfl 0 rfl ?_
  refine E_if_eq (t := 23) dX9_judgedOf_16 rfl ?_ ?_
  · refine E_aload_n dX9_judgedOf_23 rfl 1 rfl ?_
    refine E_iload_n dX9_judgedOf_24 rfl 2 rfl ?_
    refine E_cVI (As := [.int v1]) (rest := []) (sM_tooNew G h v1) ck_X9_tooNew lk_X9_317 rfl rfl kc_32 z32 rfl rfl rfl dX9_judgedOf_25 (fun r4 _ => ?_)
    refine E_bipush (v := (-2)) dX9_judgedOf_28 rfl ?_
    refine E_icmp_ne (t := 37) dX9_judgedOf_30 rfl ?_ ?_
    · refine E_iconst (v := 4) dX9_judgedOf_37 rfl ?_
      exact E_iret rfl rfl dX9_judgedOf_38
    · refine E_iconst (v := 0) dX9_judgedOf_33 rfl ?_
      refine E_goto (t := 38) dX9_judgedOf_34 rfl ?_
      exact E_iret rfl rfl dX9_judgedOf_38
  · refine E_iload_n dX9_judgedOf_19 rfl 0 rfl ?_
    refine E_goto (t := 38) dX9_judgedOf_20 rfl ?_
    exact E_iret rfl rfl dX9_judgedOf_38
def iM_lowest : MI := (yX9_lowest, cX9_lowest, 2, (some .int), { frames := 1, cells := 0, slots := 0, locals := 21 }, 1)
theorem ck_X9_lowest : CS iM_lowest 1 := ⟨⟨wd_113, wd_1681, by decide +kernel⟩, wd_1680⟩
def jM_lowest_2 (v0 : Int32) : Nat → Int32 → Option (Int32)
  | 0, _ => none
  | n + 1, v1 =>
    if v1 < 24 then ((jM_has v0 v1).bind fun r1 =>
    if r1 = 0 then ((jM_lowest_2 v0 n (v1 + 1)))
    else (some v1))
    else (some (-2))
set_option maxRecDepth 20000 in
set_option maxHeartbeats 2000000 in
theorem sM_lowest_2 (G : JG) (h : AH) (v0 : Int32)  : ∀ (n : Nat) (v1 : Int32), Sim G iM_lowest (rvI h) 2 [(0, .int v0), (1, .int v1)] [] h (jM_lowest_2 v0 n v1) := by
  intro n
  induction n with
  | zero => intro v1; exact E_none
  | succ n ih =>
    intro v1
    rw [jM_lowest_2]
    refine E_iload_n dX9_lowest_2 rfl 1 rfl ?_
    refine E_bipush (v := 24) dX9_lowest_3 rfl ?_
    refine E_icmp_ge (t := 24) dX9_lowest_5 rfl ?_ ?_
    · refine E_bipush (v := (-2)) dX9_lowest_24 rfl ?_
      exact E_iret rfl rfl dX9_lowest_26
    · refine E_iload_n dX9_lowest_8 rfl 0 rfl ?_
      refine E_iload_n dX9_lowest_9 rfl 1 rfl ?_
      refine E_cSI (As := [.int v0, .int v1]) (rest := []) (sM_has G h v0 v1) ck_X9_has lk_X9_290 rfl rfl rfl rfl rfl dX9_lowest_10 (fun r1 _ => ?_)
      refine E_if_eq (t := 18) dX9_lowest_13 rfl ?_ ?_
      · refine E_iinc (q := 1) (v := (v1 + 1)) (ls' := [(1, .int (v1 + 1)), (0, .int v0)]) dX9_lowest_18 rfl rfl (Nat.le_of_ble_eq_true rfl) rfl ?_
        refine E_goto (t := 2) dX9_lowest_21 rfl ?_
        exact E_sub [1, 0] rfl (ih (v1 + 1))
      · refine E_iload_n dX9_lowest_16 rfl 1 rfl ?_
        exact E_iret rfl rfl dX9_lowest_17
def jM_lowest (v0 : Int32) : Option (Int32) :=
  (jM_lowest_2 v0 FU 0)
set_option maxRecDepth 20000 in
set_option maxHeartbeats 2000000 in
theorem sM_lowest (G : JG) (h : AH) (v0 : Int32) : Mt G iM_lowest (rvI h) [.int v0] h (jM_lowest v0) := by
  refine Mt_of (by decide) (Nat.le_of_ble_eq_true rfl) ?_
  unfold jM_lowest
  show Sim G iM_lowest (rvI h) 0 [(0, .int v0)] [] h _
  refine E_iconst (v := 0) dX9_lowest_0 rfl ?_
  refine E_istore_n (ls' := [(1, .int 0), (0, .int v0)]) dX9_lowest_1 rfl (Nat.le_of_ble_eq_true rfl) rfl ?_
  exact E_sub [1, 0] rfl (sM_lowest_2 G h v0 FU 0)
def iM_breaksAt : MI := (yX9_breaksAt, cX9_breaksAt, 5, (some .int), { frames := 6, cells := 0, slots := 0, locals := 139 }, 1)
theorem ck_X9_breaksAt : CK iM_breaksAt 1 := ⟨⟨wd_113, wd_1678, by decide +kernel⟩, ⟨wd_1677, wd_86⟩⟩
def jM_breaksAt_72 (h : AH)  (k_48 : Int32 → Int32 → Int32 → Option Int32) (v2 : Int32) (v4 : Int32) (s0 : Int32) (s1 : Int32) : Option (Int32) :=
  if inb 2 161 = true then (
  if (s1 - s0) < (gI h 35 0 (2 : Int32).toNatClampNeg) then (some v4)
  else ((k_48 v2 (s1 - s0) (v4 + 1)))) else none
set_option maxRecDepth 20000 in
set_option maxHeartbeats 2000000 in
theorem sM_breaksAt_72 (G : JG) (h : AH)  (k_48 : Int32 → Int32 → Int32 → Option Int32) (hk_48 : ∀ (v2 : Int32) (v3 : Int32) (v4 : Int32), Sim G iM_breaksAt (rvI h) 48 [(0, .ref (G.ad 32 0)), (2, .int v2), (3, .int v3), (4, .int v4)] [] h (k_48 v2 v3 v4)) (v2 : Int32) (v4 : Int32) (s0 : Int32) (s1 : Int32) : Sim G iM_breaksAt (rvI h) 72 [(0, .ref (G.ad 32 0)), (2, .int v2), (4, .int v4)] [.int s0, .int s1] h (jM_breaksAt_72 h k_48 v2 v4 s0 s1) := by
  unfold jM_breaksAt_72
  refine E_isub dX9_breaksAt_72 ?_
  refine E_istore_n (ls' := [(3, .int (s1 - s0)), (0, .ref (G.ad 32 0)), (2, .int v2), (4, .int v4)]) dX9_breaksAt_73 rfl (Nat.le_of_ble_eq_true rfl) rfl ?_
  refine E_iload_n dX9_breaksAt_74 rfl 0 rfl ?_
  refine E_aload_n dX9_breaksAt_75 rfl 1 rfl ?_
  refine E_getF fl_X9_20 dX9_breaksAt_76 z32 ?_
  refine E_iconst (v := 2) dX9_breaksAt_79 rfl ?_
  refine E_iald (n := 161) rfl dX9_breaksAt_80 z35 (fun _ => ?_)
  refine E_icmp_ge (t := 87) dX9_breaksAt_81 rfl ?_ ?_
  · refine E_iinc (q := 3) (v := (v4 + 1)) (ls' := [(4, .int (v4 + 1)), (3, .int (s1 - s0)), (0, .ref (G.ad 32 0)), (2, .int v2)]) dX9_breaksAt_87 rfl rfl (Nat.le_of_ble_eq_true rfl) rfl ?_
    refine E_goto (t := 48) dX9_breaksAt_90 rfl ?_
    exact E_sub [2, 3, 1, 0] rfl (hk_48 v2 (s1 - s0) (v4 + 1))
  · refine E_iload dX9_breaksAt_84 3 rfl ?_
    exact E_iret rfl rfl dX9_breaksAt_86
def jM_breaksAt_48 (h : AH) : Nat → Int32 → Int32 → Int32 → Option (Int32)
  | 0, _, _, _ => none
  | n + 1, v2, v3, v4 =>
    (jM_cellMany h).bind fun r1 =>
    if v4 < r1 then ((jM_has v2 v4).bind fun r2 =>
    if r2 = 0 then ((jM_breaksAt_72 h (jM_breaksAt_48 h n) v2 v4 0 v3))
    else ((jM_breaksAt_72 h (jM_breaksAt_48 h n) v2 v4 1 v3)))
    else (some (-2))
set_option maxRecDepth 20000 in
set_option maxHeartbeats 2000000 in
theorem sM_breaksAt_48 (G : JG) (h : AH)   : ∀ (n : Nat) (v2 : Int32) (v3 : Int32) (v4 : Int32), Sim G iM_breaksAt (rvI h) 48 [(0, .ref (G.ad 32 0)), (2, .int v2), (3, .int v3), (4, .int v4)] [] h (jM_breaksAt_48 h n v2 v3 v4) := by
  intro n
  induction n with
  | zero => intro v2 v3 v4; exact E_none
  | succ n ih =>
    intro v2 v3 v4
    rw [jM_breaksAt_48]
    refine E_iload dX9_breaksAt_48 3 rfl ?_
    refine E_aload_n dX9_breaksAt_50 rfl 0 rfl ?_
    refine E_cVI (As := []) (rest := [.int v4]) (sM_cellMany G h) ck_X9_cellMany lk_X9_287 rfl rfl kc_32 z32 rfl rfl rfl dX9_breaksAt_51 (fun r1 _ => ?_)
    refine E_icmp_ge (t := 93) dX9_breaksAt_54 rfl ?_ ?_
    · refine E_bipush (v := (-2)) dX9_breaksAt_93 rfl ?_
      exact E_iret rfl rfl dX9_breaksAt_95
    · refine E_iload_n dX9_breaksAt_57 rfl 2 rfl ?_
      refine E_iload_n dX9_breaksAt_58 rfl 1 rfl ?_
      refine E_iload dX9_breaksAt_59 3 rfl ?_
      refine E_cSI (As := [.int v2, .int v4]) (rest := [.int v3]) (sM_has G h v2 v4) ck_X9_has lk_X9_290 rfl rfl rfl rfl rfl dX9_breaksAt_61 (fun r2 _ => ?_)
      refine E_if_eq (t := 71) dX9_breaksAt_64 rfl ?_ ?_
      · refine E_iconst (v := 0) dX9_breaksAt_71 rfl ?_
        exact E_sub [0, 1, 3] rfl (sM_breaksAt_72 G h (jM_breaksAt_48 h n) ih v2 v4 0 v3)
      · refine E_iconst (v := 1) dX9_breaksAt_67 rfl ?_
        refine E_goto (t := 72) dX9_breaksAt_68 rfl ?_
        exact E_sub [0, 1, 3] rfl (sM_breaksAt_72 G h (jM_breaksAt_48 h n) ih v2 v4 1 v3)
def jM_breaksAt (h : AH) (v1 : Int32) : Option (Int32) :=
  (jM_painted h v1).bind fun r1 =>
  (jM_judgedOf h v1).bind fun r2 =>
  if r2 = 1 then ((jM_cellMany h).bind fun r3 =>
  (jM_breaksAt_48 h FU r1 r3 0))
  else if r2 = 2 then ((jM_allCells h).bind fun r4 =>
  if inb 3 161 = true then (
  (jM_partAt h (r4 &&& (r1 ^^^ (-1))) (gI h 35 0 (3 : Int32).toNatClampNeg)).bind fun r5 =>
  some r5) else none)
  else if r2 = 3 then ((jM_yearOf h v1).bind fun r6 =>
  (jM_barred h r6).bind fun r7 =>
  (jM_lowest (r1 &&& r7)).bind fun r8 =>
  some r8)
  else if r2 = 4 then ((jM_tooNew h v1).bind fun r9 =>
  some r9)
  else (some (-2))
set_option maxRecDepth 20000 in
set_option maxHeartbeats 2000000 in
theorem sM_breaksAt (G : JG) (h : AH) (v1 : Int32) : Mt G iM_breaksAt (rvI h) [.ref (G.ad 32 0), .int v1] h (jM_breaksAt h v1) := by
  refine Mt_of (by decide) (Nat.le_of_ble_eq_true rfl) ?_
  unfold jM_breaksAt
  show Sim G iM_breaksAt (rvI h) 0 [(0, .ref (G.ad 32 0)), (1, .int v1)] [] h _
  refine E_aload_n dX9_breaksAt_0 rfl 0 rfl ?_
  refine E_iload_n dX9_breaksAt_1 rfl 1 rfl ?_
  refine E_cVI (As := [.int v1]) (rest := []) (sM_painted G h v1) ck_X9_painted lk_X9_311 rfl rfl kc_32 z32 rfl rfl rfl dX9_breaksAt_2 (fun r1 _ => ?_)
  refine E_istore_n (ls' := [(2, .int r1), (0, .ref (G.ad 32 0)), (1, .int v1)]) dX9_breaksAt_5 rfl (Nat.le_of_ble_eq_true rfl) rfl ?_
  refine E_aload_n dX9_breaksAt_6 rfl 1 rfl ?_
  refine E_iload_n dX9_breaksAt_7 rfl 2 rfl ?_
  refine E_cVI (As := [.int v1]) (rest := []) (sM_judgedOf G h v1) ck_X9_judgedOf lk_X9_320 rfl rfl kc_32 z32 rfl rfl rfl dX9_breaksAt_8 (fun r2 _ => ?_)
  refine E_tsw (t := 136) [40, 96, 115, 130] dX9_breaksAt_11 rfl rfl (by decide) (fun hx10 => ?_) (fun j hj hx10 => ?_)
  · rw [if_neg (show ¬ r2 = 1 from fun z => by rw [z] at hx10; revert hx10; decide)]
    rw [if_neg (show ¬ r2 = 2 from fun z => by rw [z] at hx10; revert hx10; decide)]
    rw [if_neg (show ¬ r2 = 3 from fun z => by rw [z] at hx10; revert hx10; decide)]
    rw [if_neg (show ¬ r2 = 4 from fun z => by rw [z] at hx10; revert hx10; decide)]
    refine E_bipush (v := (-2)) dX9_breaksAt_136 rfl ?_
    exact E_iret rfl rfl dX9_breaksAt_138
  · rcases j with _ | _ | _ | _ | j
    · have ex : r2 = 1 := Int32.toInt_inj.mp (hx10.trans rfl)
      rw [if_pos ex]
      show Sim G iM_breaksAt (rvI h) 40 [(2, .int r1), (0, .ref (G.ad 32 0)), (1, .int v1)] [] h _
      refine E_aload_n dX9_breaksAt_40 rfl 1 rfl ?_
      refine E_cVI (As := []) (rest := []) (sM_cellMany G h) ck_X9_cellMany lk_X9_287 rfl rfl kc_32 z32 rfl rfl rfl dX9_breaksAt_41 (fun r3 _ => ?_)
      refine E_istore_n (ls' := [(3, .int r3), (2, .int r1), (0, .ref (G.ad 32 0)), (1, .int v1)]) dX9_breaksAt_44 rfl (Nat.le_of_ble_eq_true rfl) rfl ?_
      refine E_iconst (v := 0) dX9_breaksAt_45 rfl ?_
      refine E_istore (ls' := [(4, .int 0), (3, .int r3), (2, .int r1), (0, .ref (G.ad 32 0)), (1, .int v1)]) dX9_breaksAt_46 (Nat.le_of_ble_eq_true rfl) rfl ?_
      exact E_sub [3, 2, 1, 0] rfl (sM_breaksAt_48 G h FU r1 r3 0)
    · have ex : r2 = 2 := Int32.toInt_inj.mp (hx10.trans rfl)
      rw [if_neg (show ¬ r2 = 1 from fun z => absurd (ex.symm.trans z) (by decide))]
      rw [if_pos ex]
      show Sim G iM_breaksAt (rvI h) 96 [(2, .int r1), (0, .ref (G.ad 32 0)), (1, .int v1)] [] h _
      refine E_aload_n dX9_breaksAt_96 rfl 1 rfl ?_
      refine E_aload_n dX9_breaksAt_97 rfl 1 rfl ?_
      refine E_cVI (As := []) (rest := [.ref (G.ad 32 0)]) (sM_allCells G h) ck_X9_allCells lk_X9_299 rfl rfl kc_32 z32 rfl rfl rfl dX9_breaksAt_98 (fun r4 _ => ?_)
      refine E_iload_n dX9_breaksAt_101 rfl 0 rfl ?_
      refine E_iconst (v := (-1)) dX9_breaksAt_102 rfl ?_
      refine E_ixor dX9_breaksAt_103 ?_
      refine E_iand dX9_breaksAt_104 ?_
      refine E_aload_n dX9_breaksAt_105 rfl 1 rfl ?_
      refine E_getF fl_X9_20 dX9_breaksAt_106 z32 ?_
      refine E_iconst (v := 3) dX9_breaksAt_109 rfl ?_
      refine E_iald (n := 161) rfl dX9_breaksAt_110 z35 (fun _ => ?_)
      refine E_cVI (As := [.int (r4 &&& (r1 ^^^ (-1))), .int (gI h 35 0 (3 : Int32).toNatClampNeg)]) (rest := []) (sM_partAt G h (r4 &&& (r1 ^^^ (-1))) (gI h 35 0 (3 : Int32).toNatClampNeg)) ck_X9_partAt lk_X9_296 rfl rfl kc_32 z32 rfl rfl rfl dX9_breaksAt_111 (fun r5 _ => ?_)
      exact E_iret rfl rfl dX9_breaksAt_114
    · have ex : r2 = 3 := Int32.toInt_inj.mp (hx10.trans rfl)
      rw [if_neg (show ¬ r2 = 1 from fun z => absurd (ex.symm.trans z) (by decide))]
      rw [if_neg (show ¬ r2 = 2 from fun z => absurd (ex.symm.trans z) (by decide))]
      rw [if_pos ex]
      show Sim G iM_breaksAt (rvI h) 115 [(2, .int r1), (0, .ref (G.ad 32 0)), (1, .int v1)] [] h _
      refine E_iload_n dX9_breaksAt_115 rfl 0 rfl ?_
      refine E_aload_n dX9_breaksAt_116 rfl 1 rfl ?_
      refine E_aload_n dX9_breaksAt_117 rfl 1 rfl ?_
      refine E_iload_n dX9_breaksAt_118 rfl 2 rfl ?_
      refine E_cVI (As := [.int v1]) (rest := [.ref (G.ad 32 0), .int r1]) (sM_yearOf G h v1) ck_X9_yearOf lk_X9_278 rfl rfl kc_32 z32 rfl rfl rfl dX9_breaksAt_119 (fun r6 _ => ?_)
      refine E_cVI (As := [.int r6]) (rest := [.int r1]) (sM_barred G h r6) ck_X9_barred lk_X9_308 rfl rfl kc_32 z32 rfl rfl rfl dX9_breaksAt_122 (fun r7 _ => ?_)
      refine E_iand dX9_breaksAt_125 ?_
      refine E_cSI (As := [.int (r1 &&& r7)]) (rest := []) (sM_lowest G h (r1 &&& r7)) ck_X9_lowest lk_X9_323 rfl rfl rfl rfl rfl dX9_breaksAt_126 (fun r8 _ => ?_)
      exact E_iret rfl rfl dX9_breaksAt_129
    · have ex : r2 = 4 := Int32.toInt_inj.mp (hx10.trans rfl)
      rw [if_neg (show ¬ r2 = 1 from fun z => absurd (ex.symm.trans z) (by decide))]
      rw [if_neg (show ¬ r2 = 2 from fun z => absurd (ex.symm.trans z) (by decide))]
      rw [if_neg (show ¬ r2 = 3 from fun z => absurd (ex.symm.trans z) (by decide))]
      rw [if_pos ex]
      show Sim G iM_breaksAt (rvI h) 130 [(2, .int r1), (0, .ref (G.ad 32 0)), (1, .int v1)] [] h _
      refine E_aload_n dX9_breaksAt_130 rfl 1 rfl ?_
      refine E_iload_n dX9_breaksAt_131 rfl 2 rfl ?_
      refine E_cVI (As := [.int v1]) (rest := []) (sM_tooNew G h v1) ck_X9_tooNew lk_X9_317 rfl rfl kc_32 z32 rfl rfl rfl dX9_breaksAt_132 (fun r9 _ => ?_)
      exact E_iret rfl rfl dX9_breaksAt_135
    · exact absurd hj (by show ¬ (j + 4 < 4); omega)
