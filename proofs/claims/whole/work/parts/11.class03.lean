/-! ===== the class, 3 ===== -/
def iQ_look : MI := (yX4_look, cX4_look, 6, none, { frames := 4, cells := 0, slots := 0, locals := 96 }, 0)
theorem ck_X4_look : CK iQ_look 4 := ⟨⟨wd_112, wd_960, by decide +kernel⟩, ⟨wd_958, wd_959⟩⟩
def jQ_look_80 (b : Nat) (v3 : Int32) (v4 : Int32) (h : AH) : Option (AH) :=
  (jB_wantedCells h b).bind fun r1 =>
  jb (uI h 28 0 9 (r1 &&& ((gI h 28 0 8) ^^^ (-1)))) fun h2 =>
  (jB_hadAnyComeUp h2 b v3).bind fun r3 =>
  if r3 = 0 then ((jB_allCells h2 b).bind fun r4 =>
  jb (uI h2 28 0 10 r4) fun h5 =>
  some h5)
  else ((jB_guardedIn h2 b v3 v4).bind fun r6 =>
  jb (uI h2 28 0 10 r6) fun h7 =>
  some h7)
set_option maxRecDepth 20000 in
set_option maxHeartbeats 2000000 in
theorem sQ_look_80 (G : JG) (b : Nat) (hb : b < nIn 0 3) (v3 : Int32) (v4 : Int32)  (h : AH) : Sim G iQ_look rvV 80 [(0, .ref (G.ad 28 0)), (1, .ref (G.ad 3 b)), (3, .int v3), (4, .int v4)] [] h (jQ_look_80 b v3 v4 h) := by
  unfold jQ_look_80
  refine E_aload_n dX4_look_80 rfl 0 rfl ?_
  refine E_aload_n dX4_look_81 rfl 1 rfl ?_
  refine E_cVI (As := []) (rest := [.ref (G.ad 28 0)]) (sB_wantedCells G h b hb) ck_X0_wantedCells lk_X4_73 rfl rfl kc_3 hb rfl rfl rfl dX4_look_82 (fun r1 _ => ?_)
  refine E_aload_n dX4_look_85 rfl 0 rfl ?_
  refine E_getI fl_X4_59 dX4_look_86 z28 ?_
  refine E_iconst (v := (-1)) dX4_look_89 rfl ?_
  refine E_ixor dX4_look_90 ?_
  refine E_iand dX4_look_91 ?_
  refine E_putI fs_X4_76 dX4_look_92 z28 ?_
  refine E_hgen (fun h2 => ?_)
  refine E_aload_n dX4_look_95 rfl 0 rfl ?_
  refine E_aload_n dX4_look_96 rfl 1 rfl ?_
  refine E_iload_n dX4_look_97 rfl 2 rfl ?_
  refine E_cVI (As := [.int v3]) (rest := [.ref (G.ad 28 0)]) (sB_hadAnyComeUp G h2 b hb v3) ck_X0_hadAnyComeUp lk_X4_79 rfl rfl kc_3 hb rfl rfl rfl dX4_look_98 (fun r3 _ => ?_)
  refine E_if_eq (t := 114) dX4_look_101 rfl ?_ ?_
  · refine E_aload_n dX4_look_114 rfl 1 rfl ?_
    refine E_cVI (As := []) (rest := [.ref (G.ad 28 0)]) (sB_allCells G h2 b hb) ck_X0_allCells lk_X4_33 rfl rfl kc_3 hb rfl rfl rfl dX4_look_115 (fun r4 _ => ?_)
    refine E_putI fs_X4_86 dX4_look_118 z28 ?_
    refine E_hgen (fun h5 => ?_)
    exact E_vret rfl rfl dX4_look_121
  · refine E_aload_n dX4_look_104 rfl 1 rfl ?_
    refine E_iload_n dX4_look_105 rfl 2 rfl ?_
    refine E_iload dX4_look_106 3 rfl ?_
    refine E_cVI (As := [.int v3, .int v4]) (rest := [.ref (G.ad 28 0)]) (sB_guardedIn G h2 b hb v3 v4) ck_X0_guardedIn lk_X4_83 rfl rfl kc_3 hb rfl rfl rfl dX4_look_108 (fun r6 _ => ?_)
    refine E_goto (t := 118) dX4_look_111 rfl ?_
    refine E_putI fs_X4_86 dX4_look_118 z28 ?_
    refine E_hgen (fun h7 => ?_)
    exact E_vret rfl rfl dX4_look_121
def jQ_look_38 (b : Nat) (v3 : Int32) (v4 : Int32) : Nat → Int32 → AH → Option (AH)
  | 0, _, _ => none
  | n + 1, v5, h =>
    (jB_cells h b).bind fun r1 =>
    if v5 < r1 then ((jB_wantedAt h b v5).bind fun r2 =>
    (jB_hadComeUp h b r2 v3).bind fun r3 =>
    if r3 = 0 then ((jQ_look_38 b v3 v4 n (v5 + 1) h))
    else (jb (uI h 28 0 8 ((gI h 28 0 8) ||| ((1 : Int32) <<< (v5 &&& 31)))) fun h4 =>
    (jQ_look_38 b v3 v4 n (v5 + 1) h4)))
    else ((jQ_look_80 b v3 v4 h))
set_option maxRecDepth 20000 in
set_option maxHeartbeats 2000000 in
theorem sQ_look_38 (G : JG) (b : Nat) (hb : b < nIn 0 3) (v3 : Int32) (v4 : Int32)  : ∀ (n : Nat) (v5 : Int32) (h : AH), Sim G iQ_look rvV 38 [(0, .ref (G.ad 28 0)), (1, .ref (G.ad 3 b)), (3, .int v3), (4, .int v4), (5, .int v5)] [] h (jQ_look_38 b v3 v4 n v5 h) := by
  intro n
  induction n with
  | zero => intro v5 h; exact E_none
  | succ n ih =>
    intro v5 h
    rw [jQ_look_38]
    refine E_iload dX4_look_38 4 rfl ?_
    refine E_aload_n dX4_look_40 rfl 1 rfl ?_
    refine E_cVI (As := []) (rest := [.int v5]) (sB_cells G h b hb) ck_X0_cells lk_X4_62 rfl rfl kc_3 hb rfl rfl rfl dX4_look_41 (fun r1 _ => ?_)
    refine E_icmp_ge (t := 80) dX4_look_44 rfl ?_ ?_
    · exact E_sub [0, 1, 2, 3] rfl (sQ_look_80 G b hb v3 v4 h)
    · refine E_aload_n dX4_look_47 rfl 1 rfl ?_
      refine E_aload_n dX4_look_48 rfl 1 rfl ?_
      refine E_iload dX4_look_49 4 rfl ?_
      refine E_cVI (As := [.int v5]) (rest := [.ref (G.ad 3 b)]) (sB_wantedAt G h b hb v5) ck_X0_wantedAt lk_X4_65 rfl rfl kc_3 hb rfl rfl rfl dX4_look_51 (fun r2 _ => ?_)
      refine E_iload_n dX4_look_54 rfl 2 rfl ?_
      refine E_cVI (As := [.int r2, .int v3]) (rest := []) (sB_hadComeUp G h b hb r2 v3) ck_X0_hadComeUp lk_X4_69 rfl rfl kc_3 hb rfl rfl rfl dX4_look_55 (fun r3 _ => ?_)
      refine E_if_eq (t := 74) dX4_look_58 rfl ?_ ?_
      · refine E_iinc (q := 4) (v := (v5 + 1)) (ls' := [(5, .int (v5 + 1)), (0, .ref (G.ad 28 0)), (1, .ref (G.ad 3 b)), (3, .int v3), (4, .int v4)]) dX4_look_74 rfl rfl (Nat.le_of_ble_eq_true rfl) rfl ?_
        refine E_goto (t := 38) dX4_look_77 rfl ?_
        exact E_sub [1, 2, 3, 4, 0] rfl (ih (v5 + 1) h)
      · refine E_aload_n dX4_look_61 rfl 0 rfl ?_
        refine E_dup dX4_look_62 rfl ?_
        refine E_getI fl_X4_59 dX4_look_63 z28 ?_
        refine E_iconst (v := 1) dX4_look_66 rfl ?_
        refine E_iload dX4_look_67 4 rfl ?_
        refine E_ishl dX4_look_69 ?_
        refine E_ior dX4_look_70 ?_
        refine E_putI fs_X4_59 dX4_look_71 z28 ?_
        refine E_hgen (fun h4 => ?_)
        refine E_iinc (q := 4) (v := (v5 + 1)) (ls' := [(5, .int (v5 + 1)), (0, .ref (G.ad 28 0)), (1, .ref (G.ad 3 b)), (3, .int v3), (4, .int v4)]) dX4_look_74 rfl rfl (Nat.le_of_ble_eq_true rfl) rfl ?_
        refine E_goto (t := 38) dX4_look_77 rfl ?_
        exact E_sub [1, 2, 3, 4, 0] rfl (ih (v5 + 1) h4)
def jQ_look (h : AH) (b : Nat) (w : Nat) (v3 : Int32) (v4 : Int32) : Option (AH) :=
  (jB_allCells h b).bind fun r1 =>
  jb (uI h 28 0 6 (mmin (r1 + 1) 4096)) fun h2 =>
  (jQ_learnLaw h2 b).bind fun h3 =>
  (jQ_alikeCells h3 b w).bind fun r4 =>
  jb (uI h3 28 0 7 r4) fun h5 =>
  jb (uI h5 28 0 8 0) fun h6 =>
  (jQ_look_38 b v3 v4 FU 0 h6)
set_option maxRecDepth 20000 in
set_option maxHeartbeats 2000000 in
theorem sQ_look (G : JG) (h : AH) (b : Nat) (hb : b < nIn 0 3) (w : Nat) (hw : w < nIn 0 13) (v3 : Int32) (v4 : Int32) : Mt G iQ_look rvV [.ref (G.ad 28 0), .ref (G.ad 3 b), .ref (G.ad 13 w), .int v3, .int v4] h (jQ_look h b w v3 v4) := by
  refine Mt_of (by decide) (Nat.le_of_ble_eq_true rfl) ?_
  unfold jQ_look
  show Sim G iQ_look rvV 0 [(0, .ref (G.ad 28 0)), (1, .ref (G.ad 3 b)), (2, .ref (G.ad 13 w)), (3, .int v3), (4, .int v4)] [] h _
  refine E_aload_n dX4_look_0 rfl 0 rfl ?_
  refine E_aload_n dX4_look_1 rfl 1 rfl ?_
  refine E_cVI (As := []) (rest := [.ref (G.ad 28 0)]) (sB_allCells G h b hb) ck_X0_allCells lk_X4_33 rfl rfl kc_3 hb rfl rfl rfl dX4_look_2 (fun r1 _ => ?_)
  refine E_iconst (v := 1) dX4_look_5 rfl ?_
  refine E_iadd dX4_look_6 ?_
  refine E_sipush (v := 4096) dX4_look_7 rfl ?_
  refine E_mmin lk_X4_39 wx_min1 wx_ma wx_min2 (by decide) (Nat.le_of_ble_eq_true rfl) dX4_look_10 ?_
  refine E_putI fs_X4_45 dX4_look_13 z28 ?_
  refine E_hgen (fun h2 => ?_)
  refine E_aload_n dX4_look_16 rfl 0 rfl ?_
  refine E_aload_n dX4_look_17 rfl 1 rfl ?_
  refine E_cVV (As := [.ref (G.ad 3 b)]) (rest := []) (sQ_learnLaw G h2 b hb) ck_X4_learnLaw lk_X4_48 rfl rfl kc_28 z28 rfl rfl rfl dX4_look_18 (fun h3 _ => ?_)
  refine E_aload_n dX4_look_21 rfl 0 rfl ?_
  refine E_aload_n dX4_look_22 rfl 1 rfl ?_
  refine E_aload_n dX4_look_23 rfl 2 rfl ?_
  refine E_cSI (As := [.ref (G.ad 3 b), .ref (G.ad 13 w)]) (rest := [.ref (G.ad 28 0)]) (sQ_alikeCells G h3 b hb w hw) ck_X4_alikeCells lk_X4_52 rfl rfl rfl rfl rfl dX4_look_24 (fun r4 _ => ?_)
  refine E_putI fs_X4_56 dX4_look_27 z28 ?_
  refine E_hgen (fun h5 => ?_)
  refine E_aload_n dX4_look_30 rfl 0 rfl ?_
  refine E_iconst (v := 0) dX4_look_31 rfl ?_
  refine E_putI fs_X4_59 dX4_look_32 z28 ?_
  refine E_hgen (fun h6 => ?_)
  refine E_iconst (v := 0) dX4_look_35 rfl ?_
  refine E_istore (ls' := [(5, .int 0), (0, .ref (G.ad 28 0)), (1, .ref (G.ad 3 b)), (2, .ref (G.ad 13 w)), (3, .int v3), (4, .int v4)]) dX4_look_36 (Nat.le_of_ble_eq_true rfl) rfl ?_
  exact E_sub [1, 2, 4, 5, 0] rfl (sQ_look_38 G b hb v3 v4 FU 0 h6)
def iQ_paintedWithin : MI := (yX4_paintedWithin, cX4_paintedWithin, 5, (some .int), { frames := 0, cells := 0, slots := 0, locals := 0 }, 0)
theorem ck_X4_paintedWithin : CK iQ_paintedWithin 1 := ⟨⟨wd_112, wd_1042, by decide +kernel⟩, ⟨wd_1041, wd_37⟩⟩
def jQ_paintedWithin_7 (h : AH) (v1 : Int32) : Nat → Int32 → Int32 → Int32 → Option (Int32)
  | 0, _, _, _ => none
  | n + 1, v2, v3, v4 =>
    if v4 < 12 then (if v3 = 0 then (some v2)
    else (if inb (v1 &&& ((v3 &&& (-v3)) ^^^ (-1))) 4096 = true then (
    jb ((v2 ||| (gI h 31 0 (v1 &&& ((v3 &&& (-v3)) ^^^ (-1))).toNatClampNeg)) : Int32) fun y1 =>
    (jQ_paintedWithin_7 h v1 n y1 (v3 &&& (v3 - 1)) (v4 + 1))) else none))
    else (some v2)
set_option maxRecDepth 20000 in
set_option maxHeartbeats 2000000 in
theorem sQ_paintedWithin_7 (G : JG) (h : AH) (v1 : Int32)  : ∀ (n : Nat) (v2 : Int32) (v3 : Int32) (v4 : Int32), Sim G iQ_paintedWithin (rvI h) 7 [(0, .ref (G.ad 28 0)), (1, .int v1), (2, .int v2), (3, .int v3), (4, .int v4)] [] h (jQ_paintedWithin_7 h v1 n v2 v3 v4) := by
  intro n
  induction n with
  | zero => intro v2 v3 v4; exact E_none
  | succ n ih =>
    intro v2 v3 v4
    rw [jQ_paintedWithin_7]
    refine E_iload dX4_paintedWithin_7 4 rfl ?_
    refine E_bipush (v := 12) dX4_paintedWithin_9 rfl ?_
    refine E_icmp_ge (t := 46) dX4_paintedWithin_11 rfl ?_ ?_
    · refine E_iload_n dX4_paintedWithin_46 rfl 2 rfl ?_
      exact E_iret rfl rfl dX4_paintedWithin_47
    · refine E_iload_n dX4_paintedWithin_14 rfl 3 rfl ?_
      refine E_if_eq (t := 46) dX4_paintedWithin_15 rfl ?_ ?_
      · refine E_iload_n dX4_paintedWithin_46 rfl 2 rfl ?_
        exact E_iret rfl rfl dX4_paintedWithin_47
      · refine E_iload_n dX4_paintedWithin_18 rfl 2 rfl ?_
        refine E_aload_n dX4_paintedWithin_19 rfl 0 rfl ?_
        refine E_getF fl_X4_26 dX4_paintedWithin_20 z28 ?_
        refine E_iload_n dX4_paintedWithin_23 rfl 1 rfl ?_
        refine E_iload_n dX4_paintedWithin_24 rfl 3 rfl ?_
        refine E_iload_n dX4_paintedWithin_25 rfl 3 rfl ?_
        refine E_ineg dX4_paintedWithin_26 ?_
        refine E_iand dX4_paintedWithin_27 ?_
        refine E_iconst (v := (-1)) dX4_paintedWithin_28 rfl ?_
        refine E_ixor dX4_paintedWithin_29 ?_
        refine E_iand dX4_paintedWithin_30 ?_
        refine E_iald (n := 4096) rfl dX4_paintedWithin_31 z31 (fun _ => ?_)
        refine E_ior dX4_paintedWithin_32 ?_
        refine E_topi (fun y1 => ?_)
        refine E_istore_n (ls' := [(2, .int y1), (0, .ref (G.ad 28 0)), (1, .int v1), (3, .int v3), (4, .int v4)]) dX4_paintedWithin_33 rfl (Nat.le_of_ble_eq_true rfl) rfl ?_
        refine E_iload_n dX4_paintedWithin_34 rfl 3 rfl ?_
        refine E_iload_n dX4_paintedWithin_35 rfl 3 rfl ?_
        refine E_iconst (v := 1) dX4_paintedWithin_36 rfl ?_
        refine E_isub dX4_paintedWithin_37 ?_
        refine E_iand dX4_paintedWithin_38 ?_
        refine E_istore_n (ls' := [(3, .int (v3 &&& (v3 - 1))), (2, .int y1), (0, .ref (G.ad 28 0)), (1, .int v1), (4, .int v4)]) dX4_paintedWithin_39 rfl (Nat.le_of_ble_eq_true rfl) rfl ?_
        refine E_iinc (q := 4) (v := (v4 + 1)) (ls' := [(4, .int (v4 + 1)), (3, .int (v3 &&& (v3 - 1))), (2, .int y1), (0, .ref (G.ad 28 0)), (1, .int v1)]) dX4_paintedWithin_40 rfl rfl (Nat.le_of_ble_eq_true rfl) rfl ?_
        refine E_goto (t := 7) dX4_paintedWithin_43 rfl ?_
        exact E_sub [3, 4, 2, 1, 0] rfl (ih y1 (v3 &&& (v3 - 1)) (v4 + 1))
def jQ_paintedWithin (h : AH) (v1 : Int32) : Option (Int32) :=
  (jQ_paintedWithin_7 h v1 FU 0 v1 0)
set_option maxRecDepth 20000 in
set_option maxHeartbeats 2000000 in
theorem sQ_paintedWithin (G : JG) (h : AH) (v1 : Int32) : Mt G iQ_paintedWithin (rvI h) [.ref (G.ad 28 0), .int v1] h (jQ_paintedWithin h v1) := by
  refine Mt_of (by decide) (Nat.le_of_ble_eq_true rfl) ?_
  unfold jQ_paintedWithin
  show Sim G iQ_paintedWithin (rvI h) 0 [(0, .ref (G.ad 28 0)), (1, .int v1)] [] h _
  refine E_iconst (v := 0) dX4_paintedWithin_0 rfl ?_
  refine E_istore_n (ls' := [(2, .int 0), (0, .ref (G.ad 28 0)), (1, .int v1)]) dX4_paintedWithin_1 rfl (Nat.le_of_ble_eq_true rfl) rfl ?_
  refine E_iload_n dX4_paintedWithin_2 rfl 2 rfl ?_
  refine E_istore_n (ls' := [(3, .int v1), (2, .int 0), (0, .ref (G.ad 28 0)), (1, .int v1)]) dX4_paintedWithin_3 rfl (Nat.le_of_ble_eq_true rfl) rfl ?_
  refine E_iconst (v := 0) dX4_paintedWithin_4 rfl ?_
  refine E_istore (ls' := [(4, .int 0), (3, .int v1), (2, .int 0), (0, .ref (G.ad 28 0)), (1, .int v1)]) dX4_paintedWithin_5 (Nat.le_of_ble_eq_true rfl) rfl ?_
  exact E_sub [3, 4, 2, 1, 0] rfl (sQ_paintedWithin_7 G h v1 FU 0 v1 0)
def iQ_mostAlike : MI := (yX4_mostAlike, cX4_mostAlike, 3, (some .int), { frames := 2, cells := 0, slots := 0, locals := 41 }, 0)
theorem ck_X4_mostAlike : CK iQ_mostAlike 0 := ⟨⟨wd_112, wd_1038, by decide +kernel⟩, ⟨wd_1036, wd_1037⟩⟩
def jQ_mostAlike_38 (k_4 : Int32 → Int32 → AH → Option (Int32 × AH)) (v1 : Int32) (v2 : Int32) (s0 : Int32) (s1 : Int32) (h : AH) : Option (Int32 × AH) :=
  if inb s1 4096 = true then (
  jb (uI h 31 0 s1.toNatClampNeg s0) fun h1 =>
  if inb v2 4096 = true then (
  if (gI h1 31 0 v2.toNatClampNeg) = v2 then ((jQ_alikeBehind h1 v2).bind fun r2 =>
  (k_4 (mmax v1 r2) (v2 + 1) h1))
  else ((k_4 v1 (v2 + 1) h1))) else none) else none
set_option maxRecDepth 20000 in
set_option maxHeartbeats 2000000 in
theorem sQ_mostAlike_38 (G : JG)  (k_4 : Int32 → Int32 → AH → Option (Int32 × AH)) (hk_4 : ∀ (v1 : Int32) (v2 : Int32) (h : AH), Sim G iQ_mostAlike rvIM 4 [(0, .ref (G.ad 28 0)), (1, .int v1), (2, .int v2)] [] h (k_4 v1 v2 h)) (v1 : Int32) (v2 : Int32) (s0 : Int32) (s1 : Int32) (h : AH) : Sim G iQ_mostAlike rvIM 38 [(0, .ref (G.ad 28 0)), (1, .int v1), (2, .int v2)] [.int s0, .int s1, .ref (G.ad 31 0)] h (jQ_mostAlike_38 k_4 v1 v2 s0 s1 h) := by
  unfold jQ_mostAlike_38
  refine E_iast (n := 4096) rfl dX4_mostAlike_38 z31 (fun _ => ?_)
  refine E_hgen (fun h1 => ?_)
  refine E_aload_n dX4_mostAlike_39 rfl 0 rfl ?_
  refine E_getF fl_X4_26 dX4_mostAlike_40 z28 ?_
  refine E_iload_n dX4_mostAlike_43 rfl 2 rfl ?_
  refine E_iald (n := 4096) rfl dX4_mostAlike_44 z31 (fun _ => ?_)
  refine E_iload_n dX4_mostAlike_45 rfl 2 rfl ?_
  refine E_icmp_ne (t := 59) dX4_mostAlike_46 rfl ?_ ?_
  · refine E_iinc (q := 2) (v := (v2 + 1)) (ls' := [(2, .int (v2 + 1)), (0, .ref (G.ad 28 0)), (1, .int v1)]) dX4_mostAlike_59 rfl rfl (Nat.le_of_ble_eq_true rfl) rfl ?_
    refine E_goto (t := 4) dX4_mostAlike_62 rfl ?_
    exact E_sub [1, 2, 0] rfl (hk_4 v1 (v2 + 1) h1)
  · refine E_iload_n dX4_mostAlike_49 rfl 1 rfl ?_
    refine E_aload_n dX4_mostAlike_50 rfl 0 rfl ?_
    refine E_iload_n dX4_mostAlike_51 rfl 2 rfl ?_
    refine E_cVI (As := [.int v2]) (rest := [.int v1]) (sQ_alikeBehind G h1 v2) ck_X4_alikeBehind lk_X4_108 rfl rfl kc_28 z28 rfl rfl rfl dX4_mostAlike_52 (fun r2 _ => ?_)
    refine E_mmax lk_X4_131 wx_max1 wx_ma wx_max2 (by decide) (Nat.le_of_ble_eq_true rfl) dX4_mostAlike_55 ?_
    refine E_istore_n (ls' := [(1, .int (mmax v1 r2)), (0, .ref (G.ad 28 0)), (2, .int v2)]) dX4_mostAlike_58 rfl (Nat.le_of_ble_eq_true rfl) rfl ?_
    refine E_iinc (q := 2) (v := (v2 + 1)) (ls' := [(2, .int (v2 + 1)), (1, .int (mmax v1 r2)), (0, .ref (G.ad 28 0))]) dX4_mostAlike_59 rfl rfl (Nat.le_of_ble_eq_true rfl) rfl ?_
    refine E_goto (t := 4) dX4_mostAlike_62 rfl ?_
    exact E_sub [2, 1, 0] rfl (hk_4 (mmax v1 r2) (v2 + 1) h1)
def jQ_mostAlike_4  : Nat → Int32 → Int32 → AH → Option (Int32 × AH)
  | 0, _, _, _ => none
  | n + 1, v1, v2, h =>
    if v2 < (gI h 28 0 6) then ((jQ_mayPaint h v2 (gI h 28 0 10)).bind fun r1 =>
    if r1 = 0 then ((jQ_paintedWithin h v2).bind fun r2 =>
    (jQ_mostAlike_38 (jQ_mostAlike_4 n) v1 v2 r2 v2 h))
    else ((jQ_mostAlike_38 (jQ_mostAlike_4 n) v1 v2 v2 v2 h)))
    else (some (v1, h))
set_option maxRecDepth 20000 in
set_option maxHeartbeats 2000000 in
theorem sQ_mostAlike_4 (G : JG)   : ∀ (n : Nat) (v1 : Int32) (v2 : Int32) (h : AH), Sim G iQ_mostAlike rvIM 4 [(0, .ref (G.ad 28 0)), (1, .int v1), (2, .int v2)] [] h (jQ_mostAlike_4 n v1 v2 h) := by
  intro n
  induction n with
  | zero => intro v1 v2 h; exact E_none
  | succ n ih =>
    intro v1 v2 h
    rw [jQ_mostAlike_4]
    refine E_iload_n dX4_mostAlike_4 rfl 2 rfl ?_
    refine E_aload_n dX4_mostAlike_5 rfl 0 rfl ?_
    refine E_getI fl_X4_45 dX4_mostAlike_6 z28 ?_
    refine E_icmp_ge (t := 65) dX4_mostAlike_9 rfl ?_ ?_
    · refine E_iload_n dX4_mostAlike_65 rfl 1 rfl ?_
      exact E_iret rfl rfl dX4_mostAlike_66
    · refine E_aload_n dX4_mostAlike_12 rfl 0 rfl ?_
      refine E_getF fl_X4_26 dX4_mostAlike_13 z28 ?_
      refine E_iload_n dX4_mostAlike_16 rfl 2 rfl ?_
      refine E_aload_n dX4_mostAlike_17 rfl 0 rfl ?_
      refine E_iload_n dX4_mostAlike_18 rfl 2 rfl ?_
      refine E_aload_n dX4_mostAlike_19 rfl 0 rfl ?_
      refine E_getI fl_X4_86 dX4_mostAlike_20 z28 ?_
      refine E_cVI (As := [.int v2, .int (gI h 28 0 10)]) (rest := [.int v2, .ref (G.ad 31 0)]) (sQ_mayPaint G h v2 (gI h 28 0 10)) ck_X4_mayPaint lk_X4_111 rfl rfl kc_28 z28 rfl rfl rfl dX4_mostAlike_23 (fun r1 _ => ?_)
      refine E_if_eq (t := 33) dX4_mostAlike_26 rfl ?_ ?_
      · refine E_aload_n dX4_mostAlike_33 rfl 0 rfl ?_
        refine E_iload_n dX4_mostAlike_34 rfl 2 rfl ?_
        refine E_cVI (As := [.int v2]) (rest := [.int v2, .ref (G.ad 31 0)]) (sQ_paintedWithin G h v2) ck_X4_paintedWithin lk_X4_128 rfl rfl kc_28 z28 rfl rfl rfl dX4_mostAlike_35 (fun r2 _ => ?_)
        exact E_sub [0, 1, 2] rfl (sQ_mostAlike_38 G (jQ_mostAlike_4 n) ih v1 v2 r2 v2 h)
      · refine E_iload_n dX4_mostAlike_29 rfl 2 rfl ?_
        refine E_goto (t := 38) dX4_mostAlike_30 rfl ?_
        exact E_sub [0, 1, 2] rfl (sQ_mostAlike_38 G (jQ_mostAlike_4 n) ih v1 v2 v2 v2 h)
def jQ_mostAlike (h : AH)  : Option (Int32 × AH) :=
  (jQ_mostAlike_4 FU 0 0 h)
set_option maxRecDepth 20000 in
set_option maxHeartbeats 2000000 in
theorem sQ_mostAlike (G : JG) (h : AH)  : Mt G iQ_mostAlike rvIM [.ref (G.ad 28 0)] h (jQ_mostAlike h) := by
  refine Mt_of (by decide) (Nat.le_of_ble_eq_true rfl) ?_
  unfold jQ_mostAlike
  show Sim G iQ_mostAlike rvIM 0 [(0, .ref (G.ad 28 0))] [] h _
  refine E_iconst (v := 0) dX4_mostAlike_0 rfl ?_
  refine E_istore_n (ls' := [(1, .int 0), (0, .ref (G.ad 28 0))]) dX4_mostAlike_1 rfl (Nat.le_of_ble_eq_true rfl) rfl ?_
  refine E_iconst (v := 0) dX4_mostAlike_2 rfl ?_
  refine E_istore_n (ls' := [(2, .int 0), (1, .int 0), (0, .ref (G.ad 28 0))]) dX4_mostAlike_3 rfl (Nat.le_of_ble_eq_true rfl) rfl ?_
  exact E_sub [2, 1, 0] rfl (sQ_mostAlike_4 G FU 0 0 h)
def iQ_stepCells : MI := (yX4_stepCells, cX4_stepCells, 5, (some .int), { frames := 2, cells := 0, slots := 0, locals := 44 }, 0)
theorem ck_X4_stepCells : CK iQ_stepCells 1 := ⟨⟨wd_112, wd_1026, by decide +kernel⟩, ⟨wd_1024, wd_1025⟩⟩
def jQ_stepCells_17 (h : AH) (v1 : Int32) : Nat → Int32 → Int32 → Int32 → Option (Int32)
  | 0, _, _, _ => none
  | n + 1, v2, v3, v4 =>
    if v4 ≤ v1 then (if v4 < 12 then ((jQ_leastNext h v2).bind fun r1 =>
    (jQ_stepCells_17 h v1 n (v2 &&& (r1 ^^^ (-1))) r1 (v4 + 1)))
    else (some v3))
    else (some v3)
set_option maxRecDepth 20000 in
set_option maxHeartbeats 2000000 in
theorem sQ_stepCells_17 (G : JG) (h : AH) (v1 : Int32)  : ∀ (n : Nat) (v2 : Int32) (v3 : Int32) (v4 : Int32), Sim G iQ_stepCells (rvI h) 17 [(0, .ref (G.ad 28 0)), (1, .int v1), (2, .int v2), (3, .int v3), (4, .int v4)] [] h (jQ_stepCells_17 h v1 n v2 v3 v4) := by
  intro n
  induction n with
  | zero => intro v2 v3 v4; exact E_none
  | succ n ih =>
    intro v2 v3 v4
    rw [jQ_stepCells_17]
    refine E_iload dX4_stepCells_17 4 rfl ?_
    refine E_iload_n dX4_stepCells_19 rfl 1 rfl ?_
    refine E_icmp_gt (t := 48) dX4_stepCells_20 rfl ?_ ?_
    · refine E_iload_n dX4_stepCells_48 rfl 3 rfl ?_
      exact E_iret rfl rfl dX4_stepCells_49
    · refine E_iload dX4_stepCells_23 4 rfl ?_
      refine E_bipush (v := 12) dX4_stepCells_25 rfl ?_
      refine E_icmp_ge (t := 48) dX4_stepCells_27 rfl ?_ ?_
      · refine E_iload_n dX4_stepCells_48 rfl 3 rfl ?_
        exact E_iret rfl rfl dX4_stepCells_49
      · refine E_aload_n dX4_stepCells_30 rfl 0 rfl ?_
        refine E_iload_n dX4_stepCells_31 rfl 2 rfl ?_
        refine E_cVI (As := [.int v2]) (rest := []) (sQ_leastNext G h v2) ck_X4_leastNext lk_X4_125 rfl rfl kc_28 z28 rfl rfl rfl dX4_stepCells_32 (fun r1 _ => ?_)
        refine E_istore_n (ls' := [(3, .int r1), (0, .ref (G.ad 28 0)), (1, .int v1), (2, .int v2), (4, .int v4)]) dX4_stepCells_35 rfl (Nat.le_of_ble_eq_true rfl) rfl ?_
        refine E_iload_n dX4_stepCells_36 rfl 3 rfl ?_
        refine E_iload_n dX4_stepCells_37 rfl 0 rfl ?_
        refine E_iconst (v := (-1)) dX4_stepCells_38 rfl ?_
        refine E_ixor dX4_stepCells_39 ?_
        refine E_iand dX4_stepCells_40 ?_
        refine E_istore_n (ls' := [(2, .int (v2 &&& (r1 ^^^ (-1)))), (3, .int r1), (0, .ref (G.ad 28 0)), (1, .int v1), (4, .int v4)]) dX4_stepCells_41 rfl (Nat.le_of_ble_eq_true rfl) rfl ?_
        refine E_iinc (q := 4) (v := (v4 + 1)) (ls' := [(4, .int (v4 + 1)), (2, .int (v2 &&& (r1 ^^^ (-1)))), (3, .int r1), (0, .ref (G.ad 28 0)), (1, .int v1)]) dX4_stepCells_42 rfl rfl (Nat.le_of_ble_eq_true rfl) rfl ?_
        refine E_goto (t := 17) dX4_stepCells_45 rfl ?_
        exact E_sub [3, 4, 1, 2, 0] rfl (ih (v2 &&& (r1 ^^^ (-1))) r1 (v4 + 1))
def jQ_stepCells (h : AH) (v1 : Int32) : Option (Int32) :=
  (jQ_stepCells_17 h v1 FU ((gI h 28 0 8) &&& ((gI h 28 0 7) ^^^ (-1))) 0 0)
set_option maxRecDepth 20000 in
set_option maxHeartbeats 2000000 in
theorem sQ_stepCells (G : JG) (h : AH) (v1 : Int32) : Mt G iQ_stepCells (rvI h) [.ref (G.ad 28 0), .int v1] h (jQ_stepCells h v1) := by
  refine Mt_of (by decide) (Nat.le_of_ble_eq_true rfl) ?_
  unfold jQ_stepCells
  show Sim G iQ_stepCells (rvI h) 0 [(0, .ref (G.ad 28 0)), (1, .int v1)] [] h _
  refine E_aload_n dX4_stepCells_0 rfl 0 rfl ?_
  refine E_getI fl_X4_59 dX4_stepCells_1 z28 ?_
  refine E_aload_n dX4_stepCells_4 rfl 0 rfl ?_
  refine E_getI fl_X4_56 dX4_stepCells_5 z28 ?_
  refine E_iconst (v := (-1)) dX4_stepCells_8 rfl ?_
  refine E_ixor dX4_stepCells_9 ?_
  refine E_iand dX4_stepCells_10 ?_
  refine E_istore_n (ls' := [(2, .int ((gI h 28 0 8) &&& ((gI h 28 0 7) ^^^ (-1)))), (0, .ref (G.ad 28 0)), (1, .int v1)]) dX4_stepCells_11 rfl (Nat.le_of_ble_eq_true rfl) rfl ?_
  refine E_iconst (v := 0) dX4_stepCells_12 rfl ?_
  refine E_istore_n (ls' := [(3, .int 0), (2, .int ((gI h 28 0 8) &&& ((gI h 28 0 7) ^^^ (-1)))), (0, .ref (G.ad 28 0)), (1, .int v1)]) dX4_stepCells_13 rfl (Nat.le_of_ble_eq_true rfl) rfl ?_
  refine E_iconst (v := 0) dX4_stepCells_14 rfl ?_
  refine E_istore (ls' := [(4, .int 0), (3, .int 0), (2, .int ((gI h 28 0 8) &&& ((gI h 28 0 7) ^^^ (-1)))), (0, .ref (G.ad 28 0)), (1, .int v1)]) dX4_stepCells_15 (Nat.le_of_ble_eq_true rfl) rfl ?_
  exact E_sub [3, 4, 2, 1, 0] rfl (sQ_stepCells_17 G h v1 FU ((gI h 28 0 8) &&& ((gI h 28 0 7) ^^^ (-1))) 0 0)
def iR_fail : MI := (yX5_fail, cX5_fail, 2, none, { frames := 0, cells := 0, slots := 0, locals := 0 }, 0)
theorem ck_X5_fail : CK iR_fail 1 := ⟨⟨wd_106, wd_486, by decide +kernel⟩, ⟨wd_485, wd_4⟩⟩
def jR_fail (h : AH) (v1 : Int32) : Option (AH) :=
  if (gI h 2 0 0) = 0 then (jb (uI h 2 0 0 v1) fun h1 =>
  jb (uI h1 2 0 6 (gI h1 2 0 5)) fun h2 =>
  some h2)
  else (some h)
set_option maxRecDepth 20000 in
set_option maxHeartbeats 2000000 in
theorem sR_fail (G : JG) (h : AH) (v1 : Int32) : Mt G iR_fail rvV [.ref (G.ad 2 0), .int v1] h (jR_fail h v1) := by
  refine Mt_of (by decide) (Nat.le_of_ble_eq_true rfl) ?_
  unfold jR_fail
  show Sim G iR_fail rvV 0 [(0, .ref (G.ad 2 0)), (1, .int v1)] [] h _
  refine E_aload_n dX5_fail_0 rfl 0 rfl ?_
  refine E_getI fl_X5_50 dX5_fail_1 z2 ?_
  refine E_if_ne (t := 20) dX5_fail_4 rfl ?_ ?_
  · exact E_vret rfl rfl dX5_fail_20
  · refine E_aload_n dX5_fail_7 rfl 0 rfl ?_
    refine E_iload_n dX5_fail_8 rfl 1 rfl ?_
    refine E_putI fs_X5_50 dX5_fail_9 z2 ?_
    refine E_hgen (fun h1 => ?_)
    refine E_aload_n dX5_fail_12 rfl 0 rfl ?_
    refine E_aload_n dX5_fail_13 rfl 0 rfl ?_
    refine E_getI fl_X5_53 dX5_fail_14 z2 ?_
    refine E_putI fs_X5_98 dX5_fail_17 z2 ?_
    refine E_hgen (fun h2 => ?_)
    exact E_vret rfl rfl dX5_fail_20
def iT_valueOf : MI := (yX6_valueOf, cX6_valueOf, 2, (some .long), { frames := 0, cells := 0, slots := 0, locals := 0 }, 0)
theorem ck_X6_valueOf : CK iT_valueOf 1 := ⟨⟨wd_109, wd_499, by decide +kernel⟩, ⟨wd_497, wd_498⟩⟩
def jT_valueOf (h : AH) (v1 : Int32) : Option (Int64) :=
  if v1 < 0 then (some 0)
  else (if v1 < (gI h 17 0 0) then (if inb v1 901 = true then (
  some (gL h 20 0 v1.toNatClampNeg)) else none)
  else (some 0))
set_option maxRecDepth 20000 in
set_option maxHeartbeats 2000000 in
theorem sT_valueOf (G : JG) (h : AH) (v1 : Int32) : Mt G iT_valueOf (rvL h) [.ref (G.ad 17 0), .int v1] h (jT_valueOf h v1) := by
  refine Mt_of (by decide) (Nat.le_of_ble_eq_true rfl) ?_
  unfold jT_valueOf
  show Sim G iT_valueOf (rvL h) 0 [(0, .ref (G.ad 17 0)), (1, .int v1)] [] h _
  refine E_iload_n dX6_valueOf_0 rfl 1 rfl ?_
  refine E_if_lt (t := 21) dX6_valueOf_1 rfl ?_ ?_
  · refine E_lconst (v := 0) dX6_valueOf_21 rfl ?_
    exact E_lret rfl rfl dX6_valueOf_22
  · refine E_iload_n dX6_valueOf_4 rfl 1 rfl ?_
    refine E_aload_n dX6_valueOf_5 rfl 0 rfl ?_
    refine E_getI fl_X6_22 dX6_valueOf_6 z17 ?_
    refine E_icmp_ge (t := 21) dX6_valueOf_9 rfl ?_ ?_
    · refine E_lconst (v := 0) dX6_valueOf_21 rfl ?_
      exact E_lret rfl rfl dX6_valueOf_22
    · refine E_aload_n dX6_valueOf_12 rfl 0 rfl ?_
      refine E_getF fl_X6_18 dX6_valueOf_13 z17 ?_
      refine E_iload_n dX6_valueOf_16 rfl 1 rfl ?_
      refine E_lald (n := 901) rfl dX6_valueOf_17 z20 (fun _ => ?_)
      refine E_goto (t := 22) dX6_valueOf_18 rfl ?_
      exact E_lret rfl rfl dX6_valueOf_22
def iT_isWord : MI := (yX6_isWord, cX6_isWord, 4, (some .boolean), { frames := 0, cells := 0, slots := 0, locals := 0 }, 0)
theorem ck_X6_isWord : CK iT_isWord 2 := ⟨⟨wd_109, wd_474, by decide +kernel⟩, ⟨wd_472, wd_473⟩⟩
def jT_isWord (h : AH) (v1 : Int32) (v2 : Int64) : Option (Int32) :=
  if v1 < 0 then (some 0)
  else (if v1 < (gI h 17 0 0) then (if inb v1 901 = true then (
  if (gI h 18 0 v1.toNatClampNeg) = 2 then (if inb v1 901 = true then (
  if (lg_cmp (gL h 20 0 v1.toNatClampNeg) v2) = 0 then (some 1)
  else (some 0)) else none)
  else (some 0)) else none)
  else (some 0))
set_option maxRecDepth 20000 in
set_option maxHeartbeats 2000000 in
theorem sT_isWord (G : JG) (h : AH) (v1 : Int32) (v2 : Int64) : Mt G iT_isWord (rvI h) [.ref (G.ad 17 0), .int v1, .long v2] h (jT_isWord h v1 v2) := by
  refine Mt_of (by decide) (Nat.le_of_ble_eq_true rfl) ?_
  unfold jT_isWord
  show Sim G iT_isWord (rvI h) 0 [(0, .ref (G.ad 17 0)), (1, .int v1), (2, .long v2)] [] h _
  refine E_iload_n dX6_isWord_0 rfl 1 rfl ?_
  refine E_if_lt (t := 37) dX6_isWord_1 rfl ?_ ?_
  · refine E_iconst (v := 0) dX6_isWord_37 rfl ?_
    exact E_zret rfl rfl rfl dX6_isWord_38
  · refine E_iload_n dX6_isWord_4 rfl 1 rfl ?_
    refine E_aload_n dX6_isWord_5 rfl 0 rfl ?_
    refine E_getI fl_X6_22 dX6_isWord_6 z17 ?_
    refine E_icmp_ge (t := 37) dX6_isWord_9 rfl ?_ ?_
    · refine E_iconst (v := 0) dX6_isWord_37 rfl ?_
      exact E_zret rfl rfl rfl dX6_isWord_38
    · refine E_aload_n dX6_isWord_12 rfl 0 rfl ?_
      refine E_getF fl_X6_9 dX6_isWord_13 z17 ?_
      refine E_iload_n dX6_isWord_16 rfl 1 rfl ?_
      refine E_iald (n := 901) rfl dX6_isWord_17 z18 (fun _ => ?_)
      refine E_iconst (v := 2) dX6_isWord_18 rfl ?_
      refine E_icmp_ne (t := 37) dX6_isWord_19 rfl ?_ ?_
      · refine E_iconst (v := 0) dX6_isWord_37 rfl ?_
        exact E_zret rfl rfl rfl dX6_isWord_38
      · refine E_aload_n dX6_isWord_22 rfl 0 rfl ?_
        refine E_getF fl_X6_18 dX6_isWord_23 z17 ?_
        refine E_iload_n dX6_isWord_26 rfl 1 rfl ?_
        refine E_lald (n := 901) rfl dX6_isWord_27 z20 (fun _ => ?_)
        refine E_lload_n dX6_isWord_28 rfl 2 rfl ?_
        refine E_lcmp dX6_isWord_29 ?_
        refine E_if_ne (t := 37) dX6_isWord_30 rfl ?_ ?_
        · refine E_iconst (v := 0) dX6_isWord_37 rfl ?_
          exact E_zret rfl rfl rfl dX6_isWord_38
        · refine E_iconst (v := 1) dX6_isWord_33 rfl ?_
          refine E_goto (t := 38) dX6_isWord_34 rfl ?_
          exact E_zret rfl rfl rfl dX6_isWord_38
def iT_isKind : MI := (yX6_isKind, cX6_isKind, 3, (some .boolean), { frames := 0, cells := 0, slots := 0, locals := 0 }, 0)
theorem ck_X6_isKind : CK iT_isKind 2 := ⟨⟨wd_109, wd_503, by decide +kernel⟩, ⟨wd_501, wd_502⟩⟩
def jT_isKind (h : AH) (v1 : Int32) (v2 : Int32) : Option (Int32) :=
  if v1 < 0 then (some 0)
  else (if v1 < (gI h 17 0 0) then (if inb v1 901 = true then (
  if (gI h 18 0 v1.toNatClampNeg) = v2 then (some 1)
  else (some 0)) else none)
  else (some 0))
set_option maxRecDepth 20000 in
set_option maxHeartbeats 2000000 in
theorem sT_isKind (G : JG) (h : AH) (v1 : Int32) (v2 : Int32) : Mt G iT_isKind (rvI h) [.ref (G.ad 17 0), .int v1, .int v2] h (jT_isKind h v1 v2) := by
  refine Mt_of (by decide) (Nat.le_of_ble_eq_true rfl) ?_
  unfold jT_isKind
  show Sim G iT_isKind (rvI h) 0 [(0, .ref (G.ad 17 0)), (1, .int v1), (2, .int v2)] [] h _
  refine E_iload_n dX6_isKind_0 rfl 1 rfl ?_
  refine E_if_lt (t := 26) dX6_isKind_1 rfl ?_ ?_
  · refine E_iconst (v := 0) dX6_isKind_26 rfl ?_
    exact E_zret rfl rfl rfl dX6_isKind_27
  · refine E_iload_n dX6_isKind_4 rfl 1 rfl ?_
    refine E_aload_n dX6_isKind_5 rfl 0 rfl ?_
    refine E_getI fl_X6_22 dX6_isKind_6 z17 ?_
    refine E_icmp_ge (t := 26) dX6_isKind_9 rfl ?_ ?_
    · refine E_iconst (v := 0) dX6_isKind_26 rfl ?_
      exact E_zret rfl rfl rfl dX6_isKind_27
    · refine E_aload_n dX6_isKind_12 rfl 0 rfl ?_
      refine E_getF fl_X6_9 dX6_isKind_13 z17 ?_
      refine E_iload_n dX6_isKind_16 rfl 1 rfl ?_
      refine E_iald (n := 901) rfl dX6_isKind_17 z18 (fun _ => ?_)
      refine E_iload_n dX6_isKind_18 rfl 2 rfl ?_
      refine E_icmp_ne (t := 26) dX6_isKind_19 rfl ?_ ?_
      · refine E_iconst (v := 0) dX6_isKind_26 rfl ?_
        exact E_zret rfl rfl rfl dX6_isKind_27
      · refine E_iconst (v := 1) dX6_isKind_22 rfl ?_
        refine E_goto (t := 27) dX6_isKind_23 rfl ?_
        exact E_zret rfl rfl rfl dX6_isKind_27
def iT_isName : MI := (yX6_isName, cX6_isName, 3, (some .boolean), { frames := 1, cells := 0, slots := 0, locals := 23 }, 0)
theorem ck_X6_isName : CK iT_isName 1 := ⟨⟨wd_109, wd_523, by decide +kernel⟩, ⟨wd_521, wd_522⟩⟩
def jT_isName_71 (h : AH) (v1 : Int32) (s0 : Int32) : Option (Int32) :=
  (jT_isKind h v1 2).bind fun r1 =>
  if r1 = 0 then (some 0)
  else (if s0 = 0 then (some 1)
  else (some 0))
set_option maxRecDepth 20000 in
set_option maxHeartbeats 2000000 in
theorem sT_isName_71 (G : JG) (h : AH) (v1 : Int32)  (s0 : Int32) : Sim G iT_isName (rvI h) 71 [(0, .ref (G.ad 17 0)), (1, .int v1)] [.int s0] h (jT_isName_71 h v1 s0) := by
  unfold jT_isName_71
  refine E_istore_n (ls' := [(2, .int s0), (0, .ref (G.ad 17 0)), (1, .int v1)]) dX6_isName_71 rfl (Nat.le_of_ble_eq_true rfl) rfl ?_
  refine E_aload_n dX6_isName_72 rfl 1 rfl ?_
  refine E_iload_n dX6_isName_73 rfl 2 rfl ?_
  refine E_iconst (v := 2) dX6_isName_74 rfl ?_
  refine E_cVI (As := [.int v1, .int 2]) (rest := []) (sT_isKind G h v1 2) ck_X6_isKind lk_X6_70 rfl rfl kc_17 z17 rfl rfl rfl dX6_isName_75 (fun r1 _ => ?_)
  refine E_if_eq (t := 89) dX6_isName_78 rfl ?_ ?_
  · refine E_iconst (v := 0) dX6_isName_89 rfl ?_
    exact E_zret rfl rfl rfl dX6_isName_90
  · refine E_iload_n dX6_isName_81 rfl 0 rfl ?_
    refine E_if_ne (t := 89) dX6_isName_82 rfl ?_ ?_
    · refine E_iconst (v := 0) dX6_isName_89 rfl ?_
      exact E_zret rfl rfl rfl dX6_isName_90
    · refine E_iconst (v := 1) dX6_isName_85 rfl ?_
      refine E_goto (t := 90) dX6_isName_86 rfl ?_
      exact E_zret rfl rfl rfl dX6_isName_90
def jT_isName_66 (h : AH) (v1 : Int32)  : Option (Int32) :=
  (jT_isName_71 h v1 1)
set_option maxRecDepth 20000 in
set_option maxHeartbeats 2000000 in
theorem sT_isName_66 (G : JG) (h : AH) (v1 : Int32)   : Sim G iT_isName (rvI h) 66 [(0, .ref (G.ad 17 0)), (1, .int v1)] [] h (jT_isName_66 h v1) := by
  unfold jT_isName_66
  refine E_iconst (v := 1) dX6_isName_66 rfl ?_
  refine E_goto (t := 71) dX6_isName_67 rfl ?_
  exact E_sub [0, 1] rfl (sT_isName_71 G h v1 1)
def jT_isName (h : AH) (v1 : Int32) : Option (Int32) :=
  (jT_isWord h v1 2002873452).bind fun r1 =>
  if r1 = 0 then ((jT_isWord h v1 109330211763570).bind fun r2 =>
  if r2 = 0 then ((jT_isWord h v1 1751215716).bind fun r3 =>
  if r3 = 0 then ((jT_isWord h v1 2003792491).bind fun r4 =>
  if r4 = 0 then ((jT_isWord h v1 7165066978583995252).bind fun r5 =>
  if r5 = 0 then ((jT_isWord h v1 2002873972).bind fun r6 =>
  if r6 = 0 then ((jT_isName_71 h v1 0))
  else ((jT_isName_66 h v1)))
  else ((jT_isName_66 h v1)))
  else ((jT_isName_66 h v1)))
  else ((jT_isName_66 h v1)))
  else ((jT_isName_66 h v1)))
  else ((jT_isName_66 h v1))
set_option maxRecDepth 20000 in
set_option maxHeartbeats 2000000 in
theorem sT_isName (G : JG) (h : AH) (v1 : Int32) : Mt G iT_isName (rvI h) [.ref (G.ad 17 0), .int v1] h (jT_isName h v1) := by
  refine Mt_of (by decide) (Nat.le_of_ble_eq_true rfl) ?_
  unfold jT_isName
  show Sim G iT_isName (rvI h) 0 [(0, .ref (G.ad 17 0)), (1, .int v1)] [] h _
  refine E_aload_n dX6_isName_0 rfl 0 rfl ?_
  refine E_iload_n dX6_isName_1 rfl 1 rfl ?_
  refine E_ldc2 dX6_isName_2 cn_X6_54 ?_
  refine E_cVI (As := [.int v1, .long 2002873452]) (rest := []) (sT_isWord G h v1 2002873452) ck_X6_isWord lk_X6_56 rfl rfl kc_17 z17 rfl rfl rfl dX6_isName_5 (fun r1 _ => ?_)
  refine E_if_ne (t := 66) dX6_isName_8 rfl ?_ ?_
  · exact E_sub [0, 1] rfl (sT_isName_66 G h v1)
  · refine E_aload_n dX6_isName_11 rfl 0 rfl ?_
    refine E_iload_n dX6_isName_12 rfl 1 rfl ?_
    refine E_ldc2 dX6_isName_13 cn_X6_60 ?_
    refine E_cVI (As := [.int v1, .long 109330211763570]) (rest := []) (sT_isWord G h v1 109330211763570) ck_X6_isWord lk_X6_56 rfl rfl kc_17 z17 rfl rfl rfl dX6_isName_16 (fun r2 _ => ?_)
    refine E_if_ne (t := 66) dX6_isName_19 rfl ?_ ?_
    · exact E_sub [0, 1] rfl (sT_isName_66 G h v1)
    · refine E_aload_n dX6_isName_22 rfl 0 rfl ?_
      refine E_iload_n dX6_isName_23 rfl 1 rfl ?_
      refine E_ldc2 dX6_isName_24 cn_X6_62 ?_
      refine E_cVI (As := [.int v1, .long 1751215716]) (rest := []) (sT_isWord G h v1 1751215716) ck_X6_isWord lk_X6_56 rfl rfl kc_17 z17 rfl rfl rfl dX6_isName_27 (fun r3 _ => ?_)
      refine E_if_ne (t := 66) dX6_isName_30 rfl ?_ ?_
      · exact E_sub [0, 1] rfl (sT_isName_66 G h v1)
      · refine E_aload_n dX6_isName_33 rfl 0 rfl ?_
        refine E_iload_n dX6_isName_34 rfl 1 rfl ?_
        refine E_ldc2 dX6_isName_35 cn_X6_64 ?_
        refine E_cVI (As := [.int v1, .long 2003792491]) (rest := []) (sT_isWord G h v1 2003792491) ck_X6_isWord lk_X6_56 rfl rfl kc_17 z17 rfl rfl rfl dX6_isName_38 (fun r4 _ => ?_)
        refine E_if_ne (t := 66) dX6_isName_41 rfl ?_ ?_
        · exact E_sub [0, 1] rfl (sT_isName_66 G h v1)
        · refine E_aload_n dX6_isName_44 rfl 0 rfl ?_
          refine E_iload_n dX6_isName_45 rfl 1 rfl ?_
          refine E_ldc2 dX6_isName_46 cn_X6_66 ?_
          refine E_cVI (As := [.int v1, .long 7165066978583995252]) (rest := []) (sT_isWord G h v1 7165066978583995252) ck_X6_isWord lk_X6_56 rfl rfl kc_17 z17 rfl rfl rfl dX6_isName_49 (fun r5 _ => ?_)
          refine E_if_ne (t := 66) dX6_isName_52 rfl ?_ ?_
          · exact E_sub [0, 1] rfl (sT_isName_66 G h v1)
          · refine E_aload_n dX6_isName_55 rfl 0 rfl ?_
            refine E_iload_n dX6_isName_56 rfl 1 rfl ?_
            refine E_ldc2 dX6_isName_57 cn_X6_68 ?_
            refine E_cVI (As := [.int v1, .long 2002873972]) (rest := []) (sT_isWord G h v1 2002873972) ck_X6_isWord lk_X6_56 rfl rfl kc_17 z17 rfl rfl rfl dX6_isName_60 (fun r6 _ => ?_)
            refine E_if_eq (t := 70) dX6_isName_63 rfl ?_ ?_
            · refine E_iconst (v := 0) dX6_isName_70 rfl ?_
              exact E_sub [0, 1] rfl (sT_isName_71 G h v1 0)
            · exact E_sub [0, 1] rfl (sT_isName_66 G h v1)
def iR_readNewName : MI := (yX5_readNewName, cX5_readNewName, 4, (some .long), { frames := 2, cells := 0, slots := 0, locals := 45 }, 0)
theorem ck_X5_readNewName : CK iR_readNewName 1 := ⟨⟨wd_106, wd_519, by decide +kernel⟩, ⟨wd_518, wd_8⟩⟩
def jR_readNewName_60 (v1 : Int32) (v2 : Int64) (h : AH) : Option (Int64 × AH) :=
  if v1 = 0 then (jb (uI h 2 0 5 ((gI h 2 0 5) + 1)) fun h1 =>
  some (v2, h1))
  else ((jR_fail h 5).bind fun h2 =>
  jb (uI h2 2 0 5 ((gI h2 2 0 5) + 1)) fun h3 =>
  some (v2, h3))
set_option maxRecDepth 20000 in
set_option maxHeartbeats 2000000 in
theorem sR_readNewName_60 (G : JG) (v1 : Int32)  (v2 : Int64) (h : AH) : Sim G iR_readNewName rvLM 60 [(0, .ref (G.ad 2 0)), (1, .int v1), (2, .long v2)] [] h (jR_readNewName_60 v1 v2 h) := by
  unfold jR_readNewName_60
  refine E_iload_n dX5_readNewName_60 rfl 1 rfl ?_
  refine E_if_eq (t := 69) dX5_readNewName_61 rfl ?_ ?_
  · refine E_aload_n dX5_readNewName_69 rfl 0 rfl ?_
    refine E_dup dX5_readNewName_70 rfl ?_
    refine E_getI fl_X5_53 dX5_readNewName_71 z2 ?_
    refine E_iconst (v := 1) dX5_readNewName_74 rfl ?_
    refine E_iadd dX5_readNewName_75 ?_
    refine E_putI fs_X5_53 dX5_readNewName_76 z2 ?_
    refine E_hgen (fun h1 => ?_)
    refine E_lload_n dX5_readNewName_79 rfl 2 rfl ?_
    exact E_lret rfl rfl dX5_readNewName_80
  · refine E_aload_n dX5_readNewName_64 rfl 0 rfl ?_
    refine E_iconst (v := 5) dX5_readNewName_65 rfl ?_
    refine E_cVV (As := [.int 5]) (rest := []) (sR_fail G h 5) ck_X5_fail lk_X5_90 rfl rfl kc_2 z2 rfl rfl rfl dX5_readNewName_66 (fun h2 _ => ?_)
    refine E_aload_n dX5_readNewName_69 rfl 0 rfl ?_
    refine E_dup dX5_readNewName_70 rfl ?_
    refine E_getI fl_X5_53 dX5_readNewName_71 z2 ?_
    refine E_iconst (v := 1) dX5_readNewName_74 rfl ?_
    refine E_iadd dX5_readNewName_75 ?_
    refine E_putI fs_X5_53 dX5_readNewName_76 z2 ?_
    refine E_hgen (fun h3 => ?_)
    refine E_lload_n dX5_readNewName_79 rfl 2 rfl ?_
    exact E_lret rfl rfl dX5_readNewName_80
def jR_readNewName_55 (v1 : Int32) (v2 : Int64) (h : AH) : Option (Int64 × AH) :=
  (jR_fail h 3).bind fun h1 =>
  (jR_readNewName_60 v1 v2 h1)
set_option maxRecDepth 20000 in
set_option maxHeartbeats 2000000 in
theorem sR_readNewName_55 (G : JG) (v1 : Int32)  (v2 : Int64) (h : AH) : Sim G iR_readNewName rvLM 55 [(0, .ref (G.ad 2 0)), (1, .int v1), (2, .long v2)] [] h (jR_readNewName_55 v1 v2 h) := by
  unfold jR_readNewName_55
  refine E_aload_n dX5_readNewName_55 rfl 0 rfl ?_
  refine E_iconst (v := 3) dX5_readNewName_56 rfl ?_
  refine E_cVV (As := [.int 3]) (rest := []) (sR_fail G h 3) ck_X5_fail lk_X5_90 rfl rfl kc_2 z2 rfl rfl rfl dX5_readNewName_57 (fun h1 _ => ?_)
  exact E_sub [0, 1, 2] rfl (sR_readNewName_60 G v1 v2 h1)
def jR_readNewName_31 (v1 : Int32) (v2 : Int64) (h : AH) : Option (Int64 × AH) :=
  (jB_colourNamed h ((gB h 2).toNat) v2).bind fun r1 =>
  if r1 = (-1) then ((jB_handNamed h ((gB h 2).toNat) v2).bind fun r2 =>
  if r2 = (-1) then ((jR_readNewName_60 v1 v2 h))
  else ((jR_readNewName_55 v1 v2 h)))
  else ((jR_readNewName_55 v1 v2 h))
set_option maxRecDepth 20000 in
set_option maxHeartbeats 2000000 in
theorem sR_readNewName_31 (G : JG) (v1 : Int32)  (v2 : Int64) (h : AH) : Sim G iR_readNewName rvLM 31 [(0, .ref (G.ad 2 0)), (1, .int v1), (2, .long v2)] [] h (jR_readNewName_31 v1 v2 h) := by
  unfold jR_readNewName_31
  refine E_aload_n dX5_readNewName_31 rfl 0 rfl ?_
  refine E_getD fl_X5_18 dX5_readNewName_32 z2 ?_
  refine E_lload_n dX5_readNewName_35 rfl 2 rfl ?_
  refine E_cVI (As := [.long v2]) (rest := []) (sB_colourNamed G h ((gB h 2).toNat) (tB3 _) v2) ck_X0_colourNamed lk_X5_229 rfl rfl kc_3 (tB3 _) rfl rfl rfl dX5_readNewName_36 (fun r1 _ => ?_)
  refine E_iconst (v := (-1)) dX5_readNewName_39 rfl ?_
  refine E_icmp_ne (t := 55) dX5_readNewName_40 rfl ?_ ?_
  · exact E_sub [0, 1, 2] rfl (sR_readNewName_55 G v1 v2 h)
  · refine E_aload_n dX5_readNewName_43 rfl 0 rfl ?_
    refine E_getD fl_X5_18 dX5_readNewName_44 z2 ?_
    refine E_lload_n dX5_readNewName_47 rfl 2 rfl ?_
    refine E_cVI (As := [.long v2]) (rest := []) (sB_handNamed G h ((gB h 2).toNat) (tB3 _) v2) ck_X0_handNamed lk_X5_233 rfl rfl kc_3 (tB3 _) rfl rfl rfl dX5_readNewName_48 (fun r2 _ => ?_)
    refine E_iconst (v := (-1)) dX5_readNewName_51 rfl ?_
    refine E_icmp_eq (t := 60) dX5_readNewName_52 rfl ?_ ?_
    · exact E_sub [0, 1, 2] rfl (sR_readNewName_60 G v1 v2 h)
    · exact E_sub [0, 1, 2] rfl (sR_readNewName_55 G v1 v2 h)
def jR_readNewName (h : AH) (v1 : Int32) : Option (Int64 × AH) :=
  (jT_valueOf h (gI h 2 0 5)).bind fun r1 =>
  (jT_isName h (gI h 2 0 5)).bind fun r2 =>
  if r2 = 0 then ((jR_fail h 1).bind fun h3 =>
  (jR_readNewName_31 v1 r1 h3))
  else ((jR_readNewName_31 v1 r1 h))
set_option maxRecDepth 20000 in
set_option maxHeartbeats 2000000 in
theorem sR_readNewName (G : JG) (h : AH) (v1 : Int32) : Mt G iR_readNewName rvLM [.ref (G.ad 2 0), .int v1] h (jR_readNewName h v1) := by
  refine Mt_of (by decide) (Nat.le_of_ble_eq_true rfl) ?_
  unfold jR_readNewName
  show Sim G iR_readNewName rvLM 0 [(0, .ref (G.ad 2 0)), (1, .int v1)] [] h _
  refine E_aload_n dX5_readNewName_0 rfl 0 rfl ?_
  refine E_getF fl_X5_32 dX5_readNewName_1 z2 ?_
  refine E_aload_n dX5_readNewName_4 rfl 0 rfl ?_
  refine E_getI fl_X5_53 dX5_readNewName_5 z2 ?_
  refine E_cVL (As := [.int (gI h 2 0 5)]) (rest := []) (sT_valueOf G h (gI h 2 0 5)) ck_X6_valueOf lk_X5_221 rfl rfl kc_17 z17 rfl rfl rfl dX5_readNewName_8 (fun r1 _ => ?_)
  refine E_lstore_n (ls' := [(2, .long r1), (0, .ref (G.ad 2 0)), (1, .int v1)]) dX5_readNewName_11 rfl (Nat.le_of_ble_eq_true rfl) rfl ?_
  refine E_aload_n dX5_readNewName_12 rfl 1 rfl ?_
  refine E_getF fl_X5_32 dX5_readNewName_13 z2 ?_
  refine E_aload_n dX5_readNewName_16 rfl 1 rfl ?_
  refine E_getI fl_X5_53 dX5_readNewName_17 z2 ?_
  refine E_cVI (As := [.int (gI h 2 0 5)]) (rest := []) (sT_isName G h (gI h 2 0 5)) ck_X6_isName lk_X5_225 rfl rfl kc_17 z17 rfl rfl rfl dX5_readNewName_20 (fun r2 _ => ?_)
  refine E_if_ne (t := 31) dX5_readNewName_23 rfl ?_ ?_
  · exact E_sub [1, 2, 0] rfl (sR_readNewName_31 G v1 r1 h)
  · refine E_aload_n dX5_readNewName_26 rfl 1 rfl ?_
    refine E_iconst (v := 1) dX5_readNewName_27 rfl ?_
    refine E_cVV (As := [.int 1]) (rest := []) (sR_fail G h 1) ck_X5_fail lk_X5_90 rfl rfl kc_2 z2 rfl rfl rfl dX5_readNewName_28 (fun h3 _ => ?_)
    exact E_sub [1, 2, 0] rfl (sR_readNewName_31 G v1 r1 h3)
def iR_readWord : MI := (yX5_readWord, cX5_readWord, 3, none, { frames := 1, cells := 0, slots := 0, locals := 23 }, 0)
theorem ck_X5_readWord : CK iR_readWord 1 := ⟨⟨wd_106, wd_491, by decide +kernel⟩, ⟨wd_490, wd_5⟩⟩
def jR_readWord (h : AH) (v1 : Int64) : Option (AH) :=
  (jT_isWord h (gI h 2 0 5) v1).bind fun r1 =>
  if r1 = 0 then ((jR_fail h 1).bind fun h3 =>
  jb (uI h3 2 0 5 ((gI h3 2 0 5) + 1)) fun h4 =>
  some h4)
  else (jb (uI h 2 0 5 ((gI h 2 0 5) + 1)) fun h2 =>
  some h2)
set_option maxRecDepth 20000 in
set_option maxHeartbeats 2000000 in
theorem sR_readWord (G : JG) (h : AH) (v1 : Int64) : Mt G iR_readWord rvV [.ref (G.ad 2 0), .long v1] h (jR_readWord h v1) := by
  refine Mt_of (by decide) (Nat.le_of_ble_eq_true rfl) ?_
  unfold jR_readWord
  show Sim G iR_readWord rvV 0 [(0, .ref (G.ad 2 0)), (1, .long v1)] [] h _
  refine E_aload_n dX5_readWord_0 rfl 0 rfl ?_
  refine E_getF fl_X5_32 dX5_readWord_1 z2 ?_
  refine E_aload_n dX5_readWord_4 rfl 0 rfl ?_
  refine E_getI fl_X5_53 dX5_readWord_5 z2 ?_
  refine E_lload_n dX5_readWord_8 rfl 1 rfl ?_
  refine E_cVI (As := [.int (gI h 2 0 5), .long v1]) (rest := []) (sT_isWord G h (gI h 2 0 5) v1) ck_X6_isWord lk_X5_58 rfl rfl kc_17 z17 rfl rfl rfl dX5_readWord_9 (fun r1 _ => ?_)
  refine E_if_ne (t := 20) dX5_readWord_12 rfl ?_ ?_
  · refine E_aload_n dX5_readWord_20 rfl 0 rfl ?_
    refine E_dup dX5_readWord_21 rfl ?_
    refine E_getI fl_X5_53 dX5_readWord_22 z2 ?_
    refine E_iconst (v := 1) dX5_readWord_25 rfl ?_
    refine E_iadd dX5_readWord_26 ?_
    refine E_putI fs_X5_53 dX5_readWord_27 z2 ?_
    refine E_hgen (fun h2 => ?_)
    exact E_vret rfl rfl dX5_readWord_30
  · refine E_aload_n dX5_readWord_15 rfl 0 rfl ?_
    refine E_iconst (v := 1) dX5_readWord_16 rfl ?_
    refine E_cVV (As := [.int 1]) (rest := []) (sR_fail G h 1) ck_X5_fail lk_X5_90 rfl rfl kc_2 z2 rfl rfl rfl dX5_readWord_17 (fun h3 _ => ?_)
    refine E_aload_n dX5_readWord_20 rfl 0 rfl ?_
    refine E_dup dX5_readWord_21 rfl ?_
    refine E_getI fl_X5_53 dX5_readWord_22 z2 ?_
    refine E_iconst (v := 1) dX5_readWord_25 rfl ?_
    refine E_iadd dX5_readWord_26 ?_
    refine E_putI fs_X5_53 dX5_readWord_27 z2 ?_
    refine E_hgen (fun h4 => ?_)
    exact E_vret rfl rfl dX5_readWord_30
def iR_readWhole : MI := (yX5_readWhole, cX5_readWhole, 5, (some .int), { frames := 1, cells := 0, slots := 0, locals := 22 }, 0)
theorem ck_X5_readWhole : CK iR_readWhole 2 := ⟨⟨wd_106, wd_495, by decide +kernel⟩, ⟨wd_494, wd_6⟩⟩
def jR_readWhole_51  (v3 : Int64) (h : AH) : Option (Int32 × AH) :=
  jb (uI h 2 0 5 ((gI h 2 0 5) + 1)) fun h1 =>
  if (gI h1 2 0 0) = 0 then (some (v3.toInt32, h1))
  else (some (0, h1))
set_option maxRecDepth 20000 in
set_option maxHeartbeats 2000000 in
theorem sR_readWhole_51 (G : JG)   (v3 : Int64) (h : AH) : Sim G iR_readWhole rvIM 51 [(0, .ref (G.ad 2 0)), (3, .long v3)] [] h (jR_readWhole_51 v3 h) := by
  unfold jR_readWhole_51
  refine E_aload_n dX5_readWhole_51 rfl 0 rfl ?_
  refine E_dup dX5_readWhole_52 rfl ?_
  refine E_getI fl_X5_53 dX5_readWhole_53 z2 ?_
  refine E_iconst (v := 1) dX5_readWhole_56 rfl ?_
  refine E_iadd dX5_readWhole_57 ?_
  refine E_putI fs_X5_53 dX5_readWhole_58 z2 ?_
  refine E_hgen (fun h1 => ?_)
  refine E_aload_n dX5_readWhole_61 rfl 0 rfl ?_
  refine E_getI fl_X5_50 dX5_readWhole_62 z2 ?_
  refine E_if_ne (t := 73) dX5_readWhole_65 rfl ?_ ?_
  · refine E_iconst (v := 0) dX5_readWhole_73 rfl ?_
    exact E_iret rfl rfl dX5_readWhole_74
  · refine E_lload_n dX5_readWhole_68 rfl 1 rfl ?_
    refine E_l2i dX5_readWhole_69 ?_
    refine E_goto (t := 74) dX5_readWhole_70 rfl ?_
    exact E_iret rfl rfl dX5_readWhole_74
def jR_readWhole_46  (v3 : Int64) (h : AH) : Option (Int32 × AH) :=
  (jR_fail h 4).bind fun h1 =>
  (jR_readWhole_51 v3 h1)
set_option maxRecDepth 20000 in
set_option maxHeartbeats 2000000 in
theorem sR_readWhole_46 (G : JG)   (v3 : Int64) (h : AH) : Sim G iR_readWhole rvIM 46 [(0, .ref (G.ad 2 0)), (3, .long v3)] [] h (jR_readWhole_46 v3 h) := by
  unfold jR_readWhole_46
  refine E_aload_n dX5_readWhole_46 rfl 0 rfl ?_
  refine E_iconst (v := 4) dX5_readWhole_47 rfl ?_
  refine E_cVV (As := [.int 4]) (rest := []) (sR_fail G h 4) ck_X5_fail lk_X5_90 rfl rfl kc_2 z2 rfl rfl rfl dX5_readWhole_48 (fun h1 _ => ?_)
  exact E_sub [0, 1] rfl (sR_readWhole_51 G v3 h1)
def jR_readWhole_32 (v1 : Int32) (v2 : Int32) (v3 : Int64) (h : AH) : Option (Int32 × AH) :=
  if (lg_cmp v3 v1.toInt64) < 0 then ((jR_readWhole_46 v3 h))
  else (if (lg_cmp v3 v2.toInt64) ≤ 0 then ((jR_readWhole_51 v3 h))
  else ((jR_readWhole_46 v3 h)))
set_option maxRecDepth 20000 in
set_option maxHeartbeats 2000000 in
theorem sR_readWhole_32 (G : JG) (v1 : Int32) (v2 : Int32)  (v3 : Int64) (h : AH) : Sim G iR_readWhole rvIM 32 [(0, .ref (G.ad 2 0)), (1, .int v1), (2, .int v2), (3, .long v3)] [] h (jR_readWhole_32 v1 v2 v3 h) := by
  unfold jR_readWhole_32
  refine E_lload_n dX5_readWhole_32 rfl 3 rfl ?_
  refine E_iload_n dX5_readWhole_33 rfl 1 rfl ?_
  refine E_i2l dX5_readWhole_34 ?_
  refine E_lcmp dX5_readWhole_35 ?_
  refine E_if_lt (t := 46) dX5_readWhole_36 rfl ?_ ?_
  · exact E_sub [0, 3] rfl (sR_readWhole_46 G v3 h)
  · refine E_lload_n dX5_readWhole_39 rfl 3 rfl ?_
    refine E_iload_n dX5_readWhole_40 rfl 2 rfl ?_
    refine E_i2l dX5_readWhole_41 ?_
    refine E_lcmp dX5_readWhole_42 ?_
    refine E_if_le (t := 51) dX5_readWhole_43 rfl ?_ ?_
    · exact E_sub [0, 3] rfl (sR_readWhole_51 G v3 h)
    · exact E_sub [0, 3] rfl (sR_readWhole_46 G v3 h)
def jR_readWhole (h : AH) (v1 : Int32) (v2 : Int32) : Option (Int32 × AH) :=
  (jT_valueOf h (gI h 2 0 5)).bind fun r1 =>
  (jT_isKind h (gI h 2 0 5) 3).bind fun r2 =>
  if r2 = 0 then ((jR_fail h 1).bind fun h3 =>
  (jR_readWhole_32 v1 v2 r1 h3))
  else ((jR_readWhole_32 v1 v2 r1 h))
set_option maxRecDepth 20000 in
set_option maxHeartbeats 2000000 in
theorem sR_readWhole (G : JG) (h : AH) (v1 : Int32) (v2 : Int32) : Mt G iR_readWhole rvIM [.ref (G.ad 2 0), .int v1, .int v2] h (jR_readWhole h v1 v2) := by
  refine Mt_of (by decide) (Nat.le_of_ble_eq_true rfl) ?_
  unfold jR_readWhole
  show Sim G iR_readWhole rvIM 0 [(0, .ref (G.ad 2 0)), (1, .int v1), (2, .int v2)] [] h _
  refine E_aload_n dX5_readWhole_0 rfl 0 rfl ?_
  refine E_getF fl_X5_32 dX5_readWhole_1 z2 ?_
  refine E_aload_n dX5_readWhole_4 rfl 0 rfl ?_
  refine E_getI fl_X5_53 dX5_readWhole_5 z2 ?_
  refine E_cVL (As := [.int (gI h 2 0 5)]) (rest := []) (sT_valueOf G h (gI h 2 0 5)) ck_X6_valueOf lk_X5_221 rfl rfl kc_17 z17 rfl rfl rfl dX5_readWhole_8 (fun r1 _ => ?_)
  refine E_lstore_n (ls' := [(3, .long r1), (0, .ref (G.ad 2 0)), (1, .int v1), (2, .int v2)]) dX5_readWhole_11 rfl (Nat.le_of_ble_eq_true rfl) rfl ?_
  refine E_aload_n dX5_readWhole_12 rfl 1 rfl ?_
  refine E_getF fl_X5_32 dX5_readWhole_13 z2 ?_
  refine E_aload_n dX5_readWhole_16 rfl 1 rfl ?_
  refine E_getI fl_X5_53 dX5_readWhole_17 z2 ?_
  refine E_iconst (v := 3) dX5_readWhole_20 rfl ?_
  refine E_cVI (As := [.int (gI h 2 0 5), .int 3]) (rest := []) (sT_isKind G h (gI h 2 0 5) 3) ck_X6_isKind lk_X5_105 rfl rfl kc_17 z17 rfl rfl rfl dX5_readWhole_21 (fun r2 _ => ?_)
  refine E_if_ne (t := 32) dX5_readWhole_24 rfl ?_ ?_
  · exact E_sub [1, 2, 3, 0] rfl (sR_readWhole_32 G v1 v2 r1 h)
  · refine E_aload_n dX5_readWhole_27 rfl 1 rfl ?_
    refine E_iconst (v := 1) dX5_readWhole_28 rfl ?_
    refine E_cVV (As := [.int 1]) (rest := []) (sR_fail G h 1) ck_X5_fail lk_X5_90 rfl rfl kc_2 z2 rfl rfl rfl dX5_readWhole_29 (fun h3 _ => ?_)
    exact E_sub [1, 2, 3, 0] rfl (sR_readWhole_32 G v1 v2 r1 h3)
def iR_colourLine : MI := (yX5_colourLine, cX5_colourLine, 6, none, { frames := 3, cells := 0, slots := 0, locals := 68 }, 0)
theorem ck_X5_colourLine : CK iR_colourLine 0 := ⟨⟨wd_106, wd_515, by decide +kernel⟩, ⟨wd_514, wd_7⟩⟩
def jR_colourLine_16  (h : AH) : Option (AH) :=
  jb (uI h 2 0 5 ((gI h 2 0 5) + 1)) fun h1 =>
  (jR_readNewName h1 0).bind fun q2 =>
  (jR_readWord q2.2 499967943531).bind fun h3 =>
  (jR_readWhole h3 0 9).bind fun q4 =>
  (jR_readWord q4.2 439720633715).bind fun h5 =>
  (jR_readWhole h5 0 999).bind fun q6 =>
  (jR_readWord q6.2 495690081125).bind fun h7 =>
  (jR_readWhole h7 0 999).bind fun q8 =>
  if (gI q8.2 2 0 0) = 0 then ((jB_addColour q8.2 ((gB q8.2 2).toNat) q2.1 q4.1 q6.1 q8.1).bind fun h9 =>
  some h9)
  else (some q8.2)
set_option maxRecDepth 20000 in
set_option maxHeartbeats 2000000 in
theorem sR_colourLine_16 (G : JG)   (h : AH) : Sim G iR_colourLine rvV 16 [(0, .ref (G.ad 2 0))] [] h (jR_colourLine_16 h) := by
  unfold jR_colourLine_16
  refine E_aload_n dX5_colourLine_16 rfl 0 rfl ?_
  refine E_dup dX5_colourLine_17 rfl ?_
  refine E_getI fl_X5_53 dX5_colourLine_18 z2 ?_
  refine E_iconst (v := 1) dX5_colourLine_21 rfl ?_
  refine E_iadd dX5_colourLine_22 ?_
  refine E_putI fs_X5_53 dX5_colourLine_23 z2 ?_
  refine E_hgen (fun h1 => ?_)
  refine E_aload_n dX5_colourLine_26 rfl 0 rfl ?_
  refine E_iconst (v := 0) dX5_colourLine_27 rfl ?_
  refine E_cVLM (As := [.int 0]) (rest := []) (sR_readNewName G h1 0) ck_X5_readNewName lk_X5_146 rfl rfl kc_2 z2 rfl rfl rfl dX5_colourLine_28 (fun q2 _ => ?_)
  refine E_lstore_n (ls' := [(1, .long q2.1), (0, .ref (G.ad 2 0))]) dX5_colourLine_31 rfl (Nat.le_of_ble_eq_true rfl) rfl ?_
  refine E_aload_n dX5_colourLine_32 rfl 1 rfl ?_
  refine E_ldc2 dX5_colourLine_33 cn_X5_150 ?_
  refine E_cVV (As := [.long 499967943531]) (rest := []) (sR_readWord G q2.2 499967943531) ck_X5_readWord lk_X5_114 rfl rfl kc_2 z2 rfl rfl rfl dX5_colourLine_36 (fun h3 _ => ?_)
  refine E_aload_n dX5_colourLine_39 rfl 1 rfl ?_
  refine E_iconst (v := 0) dX5_colourLine_40 rfl ?_
  refine E_bipush (v := 9) dX5_colourLine_41 rfl ?_
  refine E_cVIM (As := [.int 0, .int 9]) (rest := []) (sR_readWhole G h3 0 9) ck_X5_readWhole lk_X5_118 rfl rfl kc_2 z2 rfl rfl rfl dX5_colourLine_43 (fun q4 _ => ?_)
  refine E_istore_n (ls' := [(3, .int q4.1), (1, .long q2.1), (0, .ref (G.ad 2 0))]) dX5_colourLine_46 rfl (Nat.le_of_ble_eq_true rfl) rfl ?_
  refine E_aload_n dX5_colourLine_47 rfl 2 rfl ?_
  refine E_ldc2 dX5_colourLine_48 cn_X5_152 ?_
  refine E_cVV (As := [.long 439720633715]) (rest := []) (sR_readWord G q4.2 439720633715) ck_X5_readWord lk_X5_114 rfl rfl kc_2 z2 rfl rfl rfl dX5_colourLine_51 (fun h5 _ => ?_)
  refine E_aload_n dX5_colourLine_54 rfl 2 rfl ?_
  refine E_iconst (v := 0) dX5_colourLine_55 rfl ?_
  refine E_sipush (v := 999) dX5_colourLine_56 rfl ?_
  refine E_cVIM (As := [.int 0, .int 999]) (rest := []) (sR_readWhole G h5 0 999) ck_X5_readWhole lk_X5_118 rfl rfl kc_2 z2 rfl rfl rfl dX5_colourLine_59 (fun q6 _ => ?_)
  refine E_istore (ls' := [(4, .int q6.1), (3, .int q4.1), (1, .long q2.1), (0, .ref (G.ad 2 0))]) dX5_colourLine_62 (Nat.le_of_ble_eq_true rfl) rfl ?_
  refine E_aload_n dX5_colourLine_64 rfl 3 rfl ?_
  refine E_ldc2 dX5_colourLine_65 cn_X5_154 ?_
  refine E_cVV (As := [.long 495690081125]) (rest := []) (sR_readWord G q6.2 495690081125) ck_X5_readWord lk_X5_114 rfl rfl kc_2 z2 rfl rfl rfl dX5_colourLine_68 (fun h7 _ => ?_)
  refine E_aload_n dX5_colourLine_71 rfl 3 rfl ?_
  refine E_iconst (v := 0) dX5_colourLine_72 rfl ?_
  refine E_sipush (v := 999) dX5_colourLine_73 rfl ?_
  refine E_cVIM (As := [.int 0, .int 999]) (rest := []) (sR_readWhole G h7 0 999) ck_X5_readWhole lk_X5_118 rfl rfl kc_2 z2 rfl rfl rfl dX5_colourLine_76 (fun q8 _ => ?_)
  refine E_istore (ls' := [(5, .int q8.1), (4, .int q6.1), (3, .int q4.1), (1, .long q2.1), (0, .ref (G.ad 2 0))]) dX5_colourLine_79 (Nat.le_of_ble_eq_true rfl) rfl ?_
  refine E_aload_n dX5_colourLine_81 rfl 4 rfl ?_
  refine E_getI fl_X5_50 dX5_colourLine_82 z2 ?_
  refine E_if_ne (t := 101) dX5_colourLine_85 rfl ?_ ?_
  · exact E_vret rfl rfl dX5_colourLine_101
  · refine E_aload_n dX5_colourLine_88 rfl 4 rfl ?_
    refine E_getD fl_X5_18 dX5_colourLine_89 z2 ?_
    refine E_lload_n dX5_colourLine_92 rfl 3 rfl ?_
    refine E_iload_n dX5_colourLine_93 rfl 2 rfl ?_
    refine E_iload dX5_colourLine_94 1 rfl ?_
    refine E_iload dX5_colourLine_96 0 rfl ?_
    refine E_cVV (As := [.long q2.1, .int q4.1, .int q6.1, .int q8.1]) (rest := []) (sB_addColour G q8.2 ((gB q8.2 2).toNat) (tB3 _) q2.1 q4.1 q6.1 q8.1) ck_X0_addColour lk_X5_156 rfl rfl kc_3 (tB3 _) rfl rfl rfl dX5_colourLine_98 (fun h9 _ => ?_)
    exact E_vret rfl rfl dX5_colourLine_101
def jR_colourLine (h : AH)  : Option (AH) :=
  if (gI h 3 ((gB h 2).toNat) 4) < 5 then ((jR_colourLine_16 h))
  else ((jR_fail h 5).bind fun h1 =>
  (jR_colourLine_16 h1))
set_option maxRecDepth 20000 in
set_option maxHeartbeats 2000000 in
theorem sR_colourLine (G : JG) (h : AH)  : Mt G iR_colourLine rvV [.ref (G.ad 2 0)] h (jR_colourLine h) := by
  refine Mt_of (by decide) (Nat.le_of_ble_eq_true rfl) ?_
  unfold jR_colourLine
  show Sim G iR_colourLine rvV 0 [(0, .ref (G.ad 2 0))] [] h _
  refine E_aload_n dX5_colourLine_0 rfl 0 rfl ?_
  refine E_getD fl_X5_18 dX5_colourLine_1 z2 ?_
  refine E_getI fl_X5_143 dX5_colourLine_4 (tB3 _) ?_
  refine E_iconst (v := 5) dX5_colourLine_7 rfl ?_
  refine E_icmp_lt (t := 16) dX5_colourLine_8 rfl ?_ ?_
  · exact E_sub [0] rfl (sR_colourLine_16 G h)
  · refine E_aload_n dX5_colourLine_11 rfl 0 rfl ?_
    refine E_iconst (v := 5) dX5_colourLine_12 rfl ?_
    refine E_cVV (As := [.int 5]) (rest := []) (sR_fail G h 5) ck_X5_fail lk_X5_90 rfl rfl kc_2 z2 rfl rfl rfl dX5_colourLine_13 (fun h1 _ => ?_)
    exact E_sub [0] rfl (sR_colourLine_16 G h1)
def iR_readComma : MI := (yX5_readComma, cX5_readComma, 1, none, { frames := 1, cells := 0, slots := 0, locals := 22 }, 0)
theorem ck_X5_readComma : CK iR_readComma 0 := ⟨⟨wd_106, wd_596, by decide +kernel⟩, ⟨wd_595, wd_15⟩⟩
def jR_readComma (h : AH)  : Option (AH) :=
  (jT_isKind h (gI h 2 0 5) 5).bind fun r1 =>
  if r1 = 0 then ((jR_fail h 1).bind fun h3 =>
  jb (uI h3 2 0 5 ((gI h3 2 0 5) + 1)) fun h4 =>
  some h4)
  else (jb (uI h 2 0 5 ((gI h 2 0 5) + 1)) fun h2 =>
  some h2)
set_option maxRecDepth 20000 in
set_option maxHeartbeats 2000000 in
theorem sR_readComma (G : JG) (h : AH)  : Mt G iR_readComma rvV [.ref (G.ad 2 0)] h (jR_readComma h) := by
  refine Mt_of (by decide) (Nat.le_of_ble_eq_true rfl) ?_
  unfold jR_readComma
  show Sim G iR_readComma rvV 0 [(0, .ref (G.ad 2 0))] [] h _
  refine E_aload_n dX5_readComma_0 rfl 0 rfl ?_
  refine E_getF fl_X5_32 dX5_readComma_1 z2 ?_
  refine E_aload_n dX5_readComma_4 rfl 0 rfl ?_
  refine E_getI fl_X5_53 dX5_readComma_5 z2 ?_
  refine E_iconst (v := 5) dX5_readComma_8 rfl ?_
  refine E_cVI (As := [.int (gI h 2 0 5), .int 5]) (rest := []) (sT_isKind G h (gI h 2 0 5) 5) ck_X6_isKind lk_X5_105 rfl rfl kc_17 z17 rfl rfl rfl dX5_readComma_9 (fun r1 _ => ?_)
  refine E_if_ne (t := 20) dX5_readComma_12 rfl ?_ ?_
  · refine E_aload_n dX5_readComma_20 rfl 0 rfl ?_
    refine E_dup dX5_readComma_21 rfl ?_
    refine E_getI fl_X5_53 dX5_readComma_22 z2 ?_
    refine E_iconst (v := 1) dX5_readComma_25 rfl ?_
    refine E_iadd dX5_readComma_26 ?_
    refine E_putI fs_X5_53 dX5_readComma_27 z2 ?_
    refine E_hgen (fun h2 => ?_)
    exact E_vret rfl rfl dX5_readComma_30
  · refine E_aload_n dX5_readComma_15 rfl 0 rfl ?_
    refine E_iconst (v := 1) dX5_readComma_16 rfl ?_
    refine E_cVV (As := [.int 1]) (rest := []) (sR_fail G h 1) ck_X5_fail lk_X5_90 rfl rfl kc_2 z2 rfl rfl rfl dX5_readComma_17 (fun h3 _ => ?_)
    refine E_aload_n dX5_readComma_20 rfl 0 rfl ?_
    refine E_dup dX5_readComma_21 rfl ?_
    refine E_getI fl_X5_53 dX5_readComma_22 z2 ?_
    refine E_iconst (v := 1) dX5_readComma_25 rfl ?_
    refine E_iadd dX5_readComma_26 ?_
    refine E_putI fs_X5_53 dX5_readComma_27 z2 ?_
    refine E_hgen (fun h4 => ?_)
    exact E_vret rfl rfl dX5_readComma_30
def iR_readCorners : MI := (yX5_readCorners, cX5_readCorners, 5, (some .int), { frames := 2, cells := 0, slots := 0, locals := 49 }, 0)
theorem ck_X5_readCorners : CK iR_readCorners 0 := ⟨⟨wd_106, wd_592, by decide +kernel⟩, ⟨wd_591, wd_14⟩⟩
def jR_readCorners (h : AH)  : Option (Int32 × AH) :=
  (jR_readWhole h 0 ((gI h 3 ((gB h 2).toNat) 0) - 1)).bind fun q1 =>
  (jR_readComma q1.2).bind fun h2 =>
  (jR_readWhole h2 0 ((gI h2 3 ((gB h2 2).toNat) 1) - 1)).bind fun q3 =>
  (jR_readWord q3.2 29807).bind fun h4 =>
  (jR_readWhole h4 q1.1 ((gI h4 3 ((gB h4 2).toNat) 0) - 1)).bind fun q5 =>
  (jR_readComma q5.2).bind fun h6 =>
  (jR_readWhole h6 q3.1 ((gI h6 3 ((gB h6 2).toNat) 1) - 1)).bind fun q7 =>
  (jB_patchCells q7.2 ((gB q7.2 2).toNat) q1.1 q3.1 q5.1 q7.1).bind fun r8 =>
  some (r8, q7.2)
set_option maxRecDepth 20000 in
set_option maxHeartbeats 2000000 in
theorem sR_readCorners (G : JG) (h : AH)  : Mt G iR_readCorners rvIM [.ref (G.ad 2 0)] h (jR_readCorners h) := by
  refine Mt_of (by decide) (Nat.le_of_ble_eq_true rfl) ?_
  unfold jR_readCorners
  show Sim G iR_readCorners rvIM 0 [(0, .ref (G.ad 2 0))] [] h _
  refine E_aload_n dX5_readCorners_0 rfl 0 rfl ?_
  refine E_iconst (v := 0) dX5_readCorners_1 rfl ?_
  refine E_aload_n dX5_readCorners_2 rfl 0 rfl ?_
  refine E_getD fl_X5_18 dX5_readCorners_3 z2 ?_
  refine E_getI fl_X5_121 dX5_readCorners_6 (tB3 _) ?_
  refine E_iconst (v := 1) dX5_readCorners_9 rfl ?_
  refine E_isub dX5_readCorners_10 ?_
  refine E_cVIM (As := [.int 0, .int ((gI h 3 ((gB h 2).toNat) 0) - 1)]) (rest := []) (sR_readWhole G h 0 ((gI h 3 ((gB h 2).toNat) 0) - 1)) ck_X5_readWhole lk_X5_118 rfl rfl kc_2 z2 rfl rfl rfl dX5_readCorners_11 (fun q1 _ => ?_)
  refine E_istore_n (ls' := [(1, .int q1.1), (0, .ref (G.ad 2 0))]) dX5_readCorners_14 rfl (Nat.le_of_ble_eq_true rfl) rfl ?_
  refine E_aload_n dX5_readCorners_15 rfl 1 rfl ?_
  refine E_cVV (As := []) (rest := []) (sR_readComma G q1.2) ck_X5_readComma lk_X5_212 rfl rfl kc_2 z2 rfl rfl rfl dX5_readCorners_16 (fun h2 _ => ?_)
  refine E_aload_n dX5_readCorners_19 rfl 1 rfl ?_
  refine E_iconst (v := 0) dX5_readCorners_20 rfl ?_
  refine E_aload_n dX5_readCorners_21 rfl 1 rfl ?_
  refine E_getD fl_X5_18 dX5_readCorners_22 z2 ?_
  refine E_getI fl_X5_126 dX5_readCorners_25 (tB3 _) ?_
  refine E_iconst (v := 1) dX5_readCorners_28 rfl ?_
  refine E_isub dX5_readCorners_29 ?_
  refine E_cVIM (As := [.int 0, .int ((gI h2 3 ((gB h2 2).toNat) 1) - 1)]) (rest := []) (sR_readWhole G h2 0 ((gI h2 3 ((gB h2 2).toNat) 1) - 1)) ck_X5_readWhole lk_X5_118 rfl rfl kc_2 z2 rfl rfl rfl dX5_readCorners_30 (fun q3 _ => ?_)
  refine E_istore_n (ls' := [(2, .int q3.1), (1, .int q1.1), (0, .ref (G.ad 2 0))]) dX5_readCorners_33 rfl (Nat.le_of_ble_eq_true rfl) rfl ?_
  refine E_aload_n dX5_readCorners_34 rfl 2 rfl ?_
  refine E_ldc2 dX5_readCorners_35 cn_X5_215 ?_
  refine E_cVV (As := [.long 29807]) (rest := []) (sR_readWord G q3.2 29807) ck_X5_readWord lk_X5_114 rfl rfl kc_2 z2 rfl rfl rfl dX5_readCorners_38 (fun h4 _ => ?_)
  refine E_aload_n dX5_readCorners_41 rfl 2 rfl ?_
  refine E_iload_n dX5_readCorners_42 rfl 1 rfl ?_
  refine E_aload_n dX5_readCorners_43 rfl 2 rfl ?_
  refine E_getD fl_X5_18 dX5_readCorners_44 z2 ?_
  refine E_getI fl_X5_121 dX5_readCorners_47 (tB3 _) ?_
  refine E_iconst (v := 1) dX5_readCorners_50 rfl ?_
  refine E_isub dX5_readCorners_51 ?_
  refine E_cVIM (As := [.int q1.1, .int ((gI h4 3 ((gB h4 2).toNat) 0) - 1)]) (rest := []) (sR_readWhole G h4 q1.1 ((gI h4 3 ((gB h4 2).toNat) 0) - 1)) ck_X5_readWhole lk_X5_118 rfl rfl kc_2 z2 rfl rfl rfl dX5_readCorners_52 (fun q5 _ => ?_)
  refine E_istore_n (ls' := [(3, .int q5.1), (2, .int q3.1), (1, .int q1.1), (0, .ref (G.ad 2 0))]) dX5_readCorners_55 rfl (Nat.le_of_ble_eq_true rfl) rfl ?_
  refine E_aload_n dX5_readCorners_56 rfl 3 rfl ?_
  refine E_cVV (As := []) (rest := []) (sR_readComma G q5.2) ck_X5_readComma lk_X5_212 rfl rfl kc_2 z2 rfl rfl rfl dX5_readCorners_57 (fun h6 _ => ?_)
  refine E_aload_n dX5_readCorners_60 rfl 3 rfl ?_
  refine E_iload_n dX5_readCorners_61 rfl 1 rfl ?_
  refine E_aload_n dX5_readCorners_62 rfl 3 rfl ?_
  refine E_getD fl_X5_18 dX5_readCorners_63 z2 ?_
  refine E_getI fl_X5_126 dX5_readCorners_66 (tB3 _) ?_
  refine E_iconst (v := 1) dX5_readCorners_69 rfl ?_
  refine E_isub dX5_readCorners_70 ?_
  refine E_cVIM (As := [.int q3.1, .int ((gI h6 3 ((gB h6 2).toNat) 1) - 1)]) (rest := []) (sR_readWhole G h6 q3.1 ((gI h6 3 ((gB h6 2).toNat) 1) - 1)) ck_X5_readWhole lk_X5_118 rfl rfl kc_2 z2 rfl rfl rfl dX5_readCorners_71 (fun q7 _ => ?_)
  refine E_istore (ls' := [(4, .int q7.1), (3, .int q5.1), (2, .int q3.1), (1, .int q1.1), (0, .ref (G.ad 2 0))]) dX5_readCorners_74 (Nat.le_of_ble_eq_true rfl) rfl ?_
  refine E_aload_n dX5_readCorners_76 rfl 4 rfl ?_
  refine E_getD fl_X5_18 dX5_readCorners_77 z2 ?_
  refine E_iload_n dX5_readCorners_80 rfl 3 rfl ?_
  refine E_iload_n dX5_readCorners_81 rfl 2 rfl ?_
  refine E_iload_n dX5_readCorners_82 rfl 1 rfl ?_
  refine E_iload dX5_readCorners_83 0 rfl ?_
  refine E_cVI (As := [.int q1.1, .int q3.1, .int q5.1, .int q7.1]) (rest := []) (sB_patchCells G q7.2 ((gB q7.2 2).toNat) (tB3 _) q1.1 q3.1 q5.1 q7.1) ck_X0_patchCells lk_X5_217 rfl rfl kc_3 (tB3 _) rfl rfl rfl dX5_readCorners_85 (fun r8 _ => ?_)
  exact E_iret rfl rfl dX5_readCorners_88
def iR_contractLine : MI := (yX5_contractLine, cX5_contractLine, 4, none, { frames := 3, cells := 0, slots := 0, locals := 73 }, 0)
theorem ck_X5_contractLine : CK iR_contractLine 0 := ⟨⟨wd_106, wd_618, by decide +kernel⟩, ⟨wd_617, wd_16⟩⟩
def jR_contractLine_32  (h : AH) : Option (AH) :=
  jb (uI h 2 0 5 ((gI h 2 0 5) + 1)) fun h1 =>
  (jR_readCorners h1).bind fun q2 =>
  (jR_readWord q2.2 1718775661).bind fun h3 =>
  (jR_readWhole h3 0 999).bind fun q4 =>
  (jR_readWord q4.2 504364296556).bind fun h5 =>
  (jR_readWhole h5 q4.1 999).bind fun q6 =>
  if (gI q6.2 2 0 0) = 0 then ((jB_addContract q6.2 ((gB q6.2 2).toNat) q2.1 q4.1 q6.1).bind fun h7 =>
  some h7)
  else (some q6.2)
set_option maxRecDepth 20000 in
set_option maxHeartbeats 2000000 in
theorem sR_contractLine_32 (G : JG)   (h : AH) : Sim G iR_contractLine rvV 32 [(0, .ref (G.ad 2 0))] [] h (jR_contractLine_32 h) := by
  unfold jR_contractLine_32
  refine E_aload_n dX5_contractLine_32 rfl 0 rfl ?_
  refine E_dup dX5_contractLine_33 rfl ?_
  refine E_getI fl_X5_53 dX5_contractLine_34 z2 ?_
  refine E_iconst (v := 1) dX5_contractLine_37 rfl ?_
  refine E_iadd dX5_contractLine_38 ?_
  refine E_putI fs_X5_53 dX5_contractLine_39 z2 ?_
  refine E_hgen (fun h1 => ?_)
  refine E_aload_n dX5_contractLine_42 rfl 0 rfl ?_
  refine E_cVIM (As := []) (rest := []) (sR_readCorners G h1) ck_X5_readCorners lk_X5_187 rfl rfl kc_2 z2 rfl rfl rfl dX5_contractLine_43 (fun q2 _ => ?_)
  refine E_istore_n (ls' := [(1, .int q2.1), (0, .ref (G.ad 2 0))]) dX5_contractLine_46 rfl (Nat.le_of_ble_eq_true rfl) rfl ?_
  refine E_aload_n dX5_contractLine_47 rfl 1 rfl ?_
  refine E_ldc2 dX5_contractLine_48 cn_X5_190 ?_
  refine E_cVV (As := [.long 1718775661]) (rest := []) (sR_readWord G q2.2 1718775661) ck_X5_readWord lk_X5_114 rfl rfl kc_2 z2 rfl rfl rfl dX5_contractLine_51 (fun h3 _ => ?_)
  refine E_aload_n dX5_contractLine_54 rfl 1 rfl ?_
  refine E_iconst (v := 0) dX5_contractLine_55 rfl ?_
  refine E_sipush (v := 999) dX5_contractLine_56 rfl ?_
  refine E_cVIM (As := [.int 0, .int 999]) (rest := []) (sR_readWhole G h3 0 999) ck_X5_readWhole lk_X5_118 rfl rfl kc_2 z2 rfl rfl rfl dX5_contractLine_59 (fun q4 _ => ?_)
  refine E_istore_n (ls' := [(2, .int q4.1), (1, .int q2.1), (0, .ref (G.ad 2 0))]) dX5_contractLine_62 rfl (Nat.le_of_ble_eq_true rfl) rfl ?_
  refine E_aload_n dX5_contractLine_63 rfl 2 rfl ?_
  refine E_ldc2 dX5_contractLine_64 cn_X5_192 ?_
  refine E_cVV (As := [.long 504364296556]) (rest := []) (sR_readWord G q4.2 504364296556) ck_X5_readWord lk_X5_114 rfl rfl kc_2 z2 rfl rfl rfl dX5_contractLine_67 (fun h5 _ => ?_)
  refine E_aload_n dX5_contractLine_70 rfl 2 rfl ?_
  refine E_iload_n dX5_contractLine_71 rfl 0 rfl ?_
  refine E_sipush (v := 999) dX5_contractLine_72 rfl ?_
  refine E_cVIM (As := [.int q4.1, .int 999]) (rest := []) (sR_readWhole G h5 q4.1 999) ck_X5_readWhole lk_X5_118 rfl rfl kc_2 z2 rfl rfl rfl dX5_contractLine_75 (fun q6 _ => ?_)
  refine E_istore_n (ls' := [(3, .int q6.1), (2, .int q4.1), (1, .int q2.1), (0, .ref (G.ad 2 0))]) dX5_contractLine_78 rfl (Nat.le_of_ble_eq_true rfl) rfl ?_
  refine E_aload_n dX5_contractLine_79 rfl 3 rfl ?_
  refine E_getI fl_X5_50 dX5_contractLine_80 z2 ?_
  refine E_if_ne (t := 96) dX5_contractLine_83 rfl ?_ ?_
  · exact E_vret rfl rfl dX5_contractLine_96
  · refine E_aload_n dX5_contractLine_86 rfl 3 rfl ?_
    refine E_getD fl_X5_18 dX5_contractLine_87 z2 ?_
    refine E_iload_n dX5_contractLine_90 rfl 2 rfl ?_
    refine E_iload_n dX5_contractLine_91 rfl 1 rfl ?_
    refine E_iload_n dX5_contractLine_92 rfl 0 rfl ?_
    refine E_cVV (As := [.int q2.1, .int q4.1, .int q6.1]) (rest := []) (sB_addContract G q6.2 ((gB q6.2 2).toNat) (tB3 _) q2.1 q4.1 q6.1) ck_X0_addContract lk_X5_194 rfl rfl kc_3 (tB3 _) rfl rfl rfl dX5_contractLine_93 (fun h7 _ => ?_)
    exact E_vret rfl rfl dX5_contractLine_96
def jR_contractLine_16  (h : AH) : Option (AH) :=
  (jB_isTold h ((gB h 2).toNat)).bind fun r1 =>
  if r1 = 0 then ((jR_fail h 6).bind fun h2 =>
  (jR_contractLine_32 h2))
  else ((jR_contractLine_32 h))
set_option maxRecDepth 20000 in
set_option maxHeartbeats 2000000 in
theorem sR_contractLine_16 (G : JG)   (h : AH) : Sim G iR_contractLine rvV 16 [(0, .ref (G.ad 2 0))] [] h (jR_contractLine_16 h) := by
  unfold jR_contractLine_16
  refine E_aload_n dX5_contractLine_16 rfl 0 rfl ?_
  refine E_getD fl_X5_18 dX5_contractLine_17 z2 ?_
  refine E_cVI (As := []) (rest := []) (sB_isTold G h ((gB h 2).toNat) (tB3 _)) ck_X0_isTold lk_X5_109 rfl rfl kc_3 (tB3 _) rfl rfl rfl dX5_contractLine_20 (fun r1 _ => ?_)
  refine E_if_ne (t := 32) dX5_contractLine_23 rfl ?_ ?_
  · exact E_sub [0] rfl (sR_contractLine_32 G h)
  · refine E_aload_n dX5_contractLine_26 rfl 0 rfl ?_
    refine E_bipush (v := 6) dX5_contractLine_27 rfl ?_
    refine E_cVV (As := [.int 6]) (rest := []) (sR_fail G h 6) ck_X5_fail lk_X5_90 rfl rfl kc_2 z2 rfl rfl rfl dX5_contractLine_29 (fun h2 _ => ?_)
    exact E_sub [0] rfl (sR_contractLine_32 G h2)
def jR_contractLine (h : AH)  : Option (AH) :=
  if (gI h 3 ((gB h 2).toNat) 6) < 4 then ((jR_contractLine_16 h))
  else ((jR_fail h 5).bind fun h1 =>
  (jR_contractLine_16 h1))
set_option maxRecDepth 20000 in
set_option maxHeartbeats 2000000 in
theorem sR_contractLine (G : JG) (h : AH)  : Mt G iR_contractLine rvV [.ref (G.ad 2 0)] h (jR_contractLine h) := by
  refine Mt_of (by decide) (Nat.le_of_ble_eq_true rfl) ?_
  unfold jR_contractLine
  show Sim G iR_contractLine rvV 0 [(0, .ref (G.ad 2 0))] [] h _
  refine E_aload_n dX5_contractLine_0 rfl 0 rfl ?_
  refine E_getD fl_X5_18 dX5_contractLine_1 z2 ?_
  refine E_getI fl_X5_184 dX5_contractLine_4 (tB3 _) ?_
  refine E_iconst (v := 4) dX5_contractLine_7 rfl ?_
  refine E_icmp_lt (t := 16) dX5_contractLine_8 rfl ?_ ?_
  · exact E_sub [0] rfl (sR_contractLine_16 G h)
  · refine E_aload_n dX5_contractLine_11 rfl 0 rfl ?_
    refine E_iconst (v := 5) dX5_contractLine_12 rfl ?_
    refine E_cVV (As := [.int 5]) (rest := []) (sR_fail G h 5) ck_X5_fail lk_X5_90 rfl rfl kc_2 z2 rfl rfl rfl dX5_contractLine_13 (fun h1 _ => ?_)
    exact E_sub [0] rfl (sR_contractLine_16 G h1)
def iR_handLine : MI := (yX5_handLine, cX5_handLine, 5, none, { frames := 3, cells := 0, slots := 0, locals := 68 }, 0)
theorem ck_X5_handLine : CK iR_handLine 0 := ⟨⟨wd_106, wd_551, by decide +kernel⟩, ⟨wd_550, wd_9⟩⟩
def jR_handLine_59 (k_4 : Int32 → Int32 → AH → Option AH) (v2 : Int32) (h : AH) : Option (AH) :=
  if (gI h 2 0 0) = 0 then ((jT_isKind h (gI h 2 0 5) 5).bind fun r1 =>
  if r1 = 0 then ((k_4 0 (v2 + 1) h))
  else ((k_4 1 (v2 + 1) h)))
  else ((k_4 0 (v2 + 1) h))
set_option maxRecDepth 20000 in
set_option maxHeartbeats 2000000 in
theorem sR_handLine_59 (G : JG)  (k_4 : Int32 → Int32 → AH → Option AH) (hk_4 : ∀ (v1 : Int32) (v2 : Int32) (h : AH), Sim G iR_handLine rvV 4 [(0, .ref (G.ad 2 0)), (1, .int v1), (2, .int v2)] [] h (k_4 v1 v2 h)) (v2 : Int32) (h : AH) : Sim G iR_handLine rvV 59 [(0, .ref (G.ad 2 0)), (2, .int v2)] [] h (jR_handLine_59 k_4 v2 h) := by
  unfold jR_handLine_59
  refine E_aload_n dX5_handLine_59 rfl 0 rfl ?_
  refine E_getI fl_X5_50 dX5_handLine_60 z2 ?_
  refine E_if_ne (t := 85) dX5_handLine_63 rfl ?_ ?_
  · refine E_iconst (v := 0) dX5_handLine_85 rfl ?_
    refine E_istore_n (ls' := [(1, .int 0), (0, .ref (G.ad 2 0)), (2, .int v2)]) dX5_handLine_86 rfl (Nat.le_of_ble_eq_true rfl) rfl ?_
    refine E_iinc (q := 2) (v := (v2 + 1)) (ls' := [(2, .int (v2 + 1)), (1, .int 0), (0, .ref (G.ad 2 0))]) dX5_handLine_87 rfl rfl (Nat.le_of_ble_eq_true rfl) rfl ?_
    refine E_goto (t := 4) dX5_handLine_90 rfl ?_
    exact E_sub [2, 1, 0] rfl (hk_4 0 (v2 + 1) h)
  · refine E_aload_n dX5_handLine_66 rfl 0 rfl ?_
    refine E_getF fl_X5_32 dX5_handLine_67 z2 ?_
    refine E_aload_n dX5_handLine_70 rfl 0 rfl ?_
    refine E_getI fl_X5_53 dX5_handLine_71 z2 ?_
    refine E_iconst (v := 5) dX5_handLine_74 rfl ?_
    refine E_cVI (As := [.int (gI h 2 0 5), .int 5]) (rest := []) (sT_isKind G h (gI h 2 0 5) 5) ck_X6_isKind lk_X5_105 rfl rfl kc_17 z17 rfl rfl rfl dX5_handLine_75 (fun r1 _ => ?_)
    refine E_if_eq (t := 85) dX5_handLine_78 rfl ?_ ?_
    · refine E_iconst (v := 0) dX5_handLine_85 rfl ?_
      refine E_istore_n (ls' := [(1, .int 0), (0, .ref (G.ad 2 0)), (2, .int v2)]) dX5_handLine_86 rfl (Nat.le_of_ble_eq_true rfl) rfl ?_
      refine E_iinc (q := 2) (v := (v2 + 1)) (ls' := [(2, .int (v2 + 1)), (1, .int 0), (0, .ref (G.ad 2 0))]) dX5_handLine_87 rfl rfl (Nat.le_of_ble_eq_true rfl) rfl ?_
      refine E_goto (t := 4) dX5_handLine_90 rfl ?_
      exact E_sub [2, 1, 0] rfl (hk_4 0 (v2 + 1) h)
    · refine E_iconst (v := 1) dX5_handLine_81 rfl ?_
      refine E_goto (t := 86) dX5_handLine_82 rfl ?_
      refine E_istore_n (ls' := [(1, .int 1), (0, .ref (G.ad 2 0)), (2, .int v2)]) dX5_handLine_86 rfl (Nat.le_of_ble_eq_true rfl) rfl ?_
      refine E_iinc (q := 2) (v := (v2 + 1)) (ls' := [(2, .int (v2 + 1)), (1, .int 1), (0, .ref (G.ad 2 0))]) dX5_handLine_87 rfl rfl (Nat.le_of_ble_eq_true rfl) rfl ?_
      refine E_goto (t := 4) dX5_handLine_90 rfl ?_
      exact E_sub [2, 1, 0] rfl (hk_4 1 (v2 + 1) h)
def jR_handLine_40 (k_4 : Int32 → Int32 → AH → Option AH) (v2 : Int32) (s0 : Int32) (h : AH) : Option (AH) :=
  (jR_readNewName h s0).bind fun q1 =>
  if (gI q1.2 2 0 0) = 0 then ((jB_addHand q1.2 ((gB q1.2 2).toNat) q1.1).bind fun h2 =>
  (jR_handLine_59 k_4 v2 h2))
  else ((jR_handLine_59 k_4 v2 q1.2))
set_option maxRecDepth 20000 in
set_option maxHeartbeats 2000000 in
theorem sR_handLine_40 (G : JG)  (k_4 : Int32 → Int32 → AH → Option AH) (hk_4 : ∀ (v1 : Int32) (v2 : Int32) (h : AH), Sim G iR_handLine rvV 4 [(0, .ref (G.ad 2 0)), (1, .int v1), (2, .int v2)] [] h (k_4 v1 v2 h)) (v2 : Int32) (s0 : Int32) (h : AH) : Sim G iR_handLine rvV 40 [(0, .ref (G.ad 2 0)), (2, .int v2)] [.int s0, .ref (G.ad 2 0)] h (jR_handLine_40 k_4 v2 s0 h) := by
  unfold jR_handLine_40
  refine E_cVLM (As := [.int s0]) (rest := []) (sR_readNewName G h s0) ck_X5_readNewName lk_X5_146 rfl rfl kc_2 z2 rfl rfl rfl dX5_handLine_40 (fun q1 _ => ?_)
  refine E_lstore_n (ls' := [(3, .long q1.1), (0, .ref (G.ad 2 0)), (2, .int v2)]) dX5_handLine_43 rfl (Nat.le_of_ble_eq_true rfl) rfl ?_
  refine E_aload_n dX5_handLine_44 rfl 1 rfl ?_
  refine E_getI fl_X5_50 dX5_handLine_45 z2 ?_
  refine E_if_ne (t := 59) dX5_handLine_48 rfl ?_ ?_
  · exact E_sub [1, 2] rfl (sR_handLine_59 G k_4 hk_4 v2 q1.2)
  · refine E_aload_n dX5_handLine_51 rfl 1 rfl ?_
    refine E_getD fl_X5_18 dX5_handLine_52 z2 ?_
    refine E_lload_n dX5_handLine_55 rfl 0 rfl ?_
    refine E_cVV (As := [.long q1.1]) (rest := []) (sB_addHand G q1.2 ((gB q1.2 2).toNat) (tB3 _) q1.1) ck_X0_addHand lk_X5_163 rfl rfl kc_3 (tB3 _) rfl rfl rfl dX5_handLine_56 (fun h2 _ => ?_)
    exact E_sub [1, 2] rfl (sR_handLine_59 G k_4 hk_4 v2 h2)
def jR_handLine_4  : Nat → Int32 → Int32 → AH → Option (AH)
  | 0, _, _, _ => none
  | n + 1, v1, v2, h =>
    if v2 ≤ 5 then (if v1 = 0 then (some h)
    else (jb (uI h 2 0 5 ((gI h 2 0 5) + 1)) fun h1 =>
    if (gI h1 3 ((gB h1 2).toNat) 5) < 5 then ((jR_handLine_40 (jR_handLine_4 n) v2 0 h1))
    else ((jR_handLine_40 (jR_handLine_4 n) v2 1 h1))))
    else (some h)
set_option maxRecDepth 20000 in
set_option maxHeartbeats 2000000 in
theorem sR_handLine_4 (G : JG)   : ∀ (n : Nat) (v1 : Int32) (v2 : Int32) (h : AH), Sim G iR_handLine rvV 4 [(0, .ref (G.ad 2 0)), (1, .int v1), (2, .int v2)] [] h (jR_handLine_4 n v1 v2 h) := by
  intro n
  induction n with
  | zero => intro v1 v2 h; exact E_none
  | succ n ih =>
    intro v1 v2 h
    rw [jR_handLine_4]
    refine E_iload_n dX5_handLine_4 rfl 2 rfl ?_
    refine E_iconst (v := 5) dX5_handLine_5 rfl ?_
    refine E_icmp_gt (t := 93) dX5_handLine_6 rfl ?_ ?_
    · exact E_vret rfl rfl dX5_handLine_93
    · refine E_iload_n dX5_handLine_9 rfl 1 rfl ?_
      refine E_if_eq (t := 93) dX5_handLine_10 rfl ?_ ?_
      · exact E_vret rfl rfl dX5_handLine_93
      · refine E_aload_n dX5_handLine_13 rfl 0 rfl ?_
        refine E_dup dX5_handLine_14 rfl ?_
        refine E_getI fl_X5_53 dX5_handLine_15 z2 ?_
        refine E_iconst (v := 1) dX5_handLine_18 rfl ?_
        refine E_iadd dX5_handLine_19 ?_
        refine E_putI fs_X5_53 dX5_handLine_20 z2 ?_
        refine E_hgen (fun h1 => ?_)
        refine E_aload_n dX5_handLine_23 rfl 0 rfl ?_
        refine E_aload_n dX5_handLine_24 rfl 0 rfl ?_
        refine E_getD fl_X5_18 dX5_handLine_25 z2 ?_
        refine E_getI fl_X5_160 dX5_handLine_28 (tB3 _) ?_
        refine E_iconst (v := 5) dX5_handLine_31 rfl ?_
        refine E_icmp_lt (t := 39) dX5_handLine_32 rfl ?_ ?_
        · refine E_iconst (v := 0) dX5_handLine_39 rfl ?_
          exact E_sub [0, 2] rfl (sR_handLine_40 G (jR_handLine_4 n) ih v2 0 h1)
        · refine E_iconst (v := 1) dX5_handLine_35 rfl ?_
          refine E_goto (t := 40) dX5_handLine_36 rfl ?_
          exact E_sub [0, 2] rfl (sR_handLine_40 G (jR_handLine_4 n) ih v2 1 h1)
def jR_handLine (h : AH)  : Option (AH) :=
  (jR_handLine_4 FU 1 0 h)
set_option maxRecDepth 20000 in
set_option maxHeartbeats 2000000 in
theorem sR_handLine (G : JG) (h : AH)  : Mt G iR_handLine rvV [.ref (G.ad 2 0)] h (jR_handLine h) := by
  refine Mt_of (by decide) (Nat.le_of_ble_eq_true rfl) ?_
  unfold jR_handLine
  show Sim G iR_handLine rvV 0 [(0, .ref (G.ad 2 0))] [] h _
  refine E_iconst (v := 1) dX5_handLine_0 rfl ?_
  refine E_istore_n (ls' := [(1, .int 1), (0, .ref (G.ad 2 0))]) dX5_handLine_1 rfl (Nat.le_of_ble_eq_true rfl) rfl ?_
  refine E_iconst (v := 0) dX5_handLine_2 rfl ?_
  refine E_istore_n (ls' := [(2, .int 0), (1, .int 1), (0, .ref (G.ad 2 0))]) dX5_handLine_3 rfl (Nat.le_of_ble_eq_true rfl) rfl ?_
  exact E_sub [2, 1, 0] rfl (sR_handLine_4 G FU 1 0 h)
