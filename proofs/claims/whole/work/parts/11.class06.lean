/-! ===== the class, 6 ===== -/
def iX_takeBook : MI := (yX8_takeBook, cX8_takeBook, 3, none, { frames := 1, cells := 0, slots := 0, locals := 20 }, 0)
theorem ck_X8_takeBook : CK iX_takeBook 0 := ⟨⟨wd_105, wd_641, by decide +kernel⟩, ⟨wd_640, wd_19⟩⟩
def jX_takeBook (h : AH)  : Option (AH) :=
  jb (uB h 0 (gB h 2)) fun h1 =>
  jb (uB h1 1 (gB h1 3)) fun h2 =>
  jb (uB h2 2 (gB h 0)) fun h3 =>
  jb (uB h3 3 (gB h 1)) fun h4 =>
  (jP_forget h4).bind fun h5 =>
  jb (uI h5 0 0 7 0) fun h6 =>
  (jQ_forget h6).bind fun h7 =>
  some h7
set_option maxRecDepth 20000 in
set_option maxHeartbeats 2000000 in
theorem sX_takeBook (G : JG) (h : AH)  : Mt G iX_takeBook rvV [.ref (G.ad 0 0)] h (jX_takeBook h) := by
  refine Mt_of (by decide) (Nat.le_of_ble_eq_true rfl) ?_
  unfold jX_takeBook
  show Sim G iX_takeBook rvV 0 [(0, .ref (G.ad 0 0))] [] h _
  refine E_aload_n dX8_takeBook_0 rfl 0 rfl ?_
  refine E_getD fl_X8_23 dX8_takeBook_1 z0 ?_
  refine E_astore_n (ls' := [(1, .ref (G.ad 3 ((gB h 0).toNat))), (0, .ref (G.ad 0 0))]) dX8_takeBook_4 rfl (Nat.le_of_ble_eq_true rfl) rfl ?_
  refine E_aload_n dX8_takeBook_5 rfl 1 rfl ?_
  refine E_getD fl_X8_30 dX8_takeBook_6 z0 ?_
  refine E_astore_n (ls' := [(2, .ref (G.ad 13 ((gB h 1).toNat))), (1, .ref (G.ad 3 ((gB h 0).toNat))), (0, .ref (G.ad 0 0))]) dX8_takeBook_9 rfl (Nat.le_of_ble_eq_true rfl) rfl ?_
  refine E_aload_n dX8_takeBook_10 rfl 2 rfl ?_
  refine E_aload_n dX8_takeBook_11 rfl 2 rfl ?_
  refine E_getF fl_X8_16 dX8_takeBook_12 z0 ?_
  refine E_getD fl_X8_311 dX8_takeBook_15 z2 ?_
  refine E_putD (v := gB h 2) fs_X8_23 bk_0_3 rfl dX8_takeBook_18 z0 ?_
  refine E_hgen (fun h1 => ?_)
  refine E_aload_n dX8_takeBook_21 rfl 2 rfl ?_
  refine E_aload_n dX8_takeBook_22 rfl 2 rfl ?_
  refine E_getF fl_X8_16 dX8_takeBook_23 z0 ?_
  refine E_getD fl_X8_312 dX8_takeBook_26 z2 ?_
  refine E_putD (v := gB h1 3) fs_X8_30 bk_0_4 rfl dX8_takeBook_29 z0 ?_
  refine E_hgen (fun h2 => ?_)
  refine E_aload_n dX8_takeBook_32 rfl 2 rfl ?_
  refine E_getF fl_X8_16 dX8_takeBook_33 z0 ?_
  refine E_aload_n dX8_takeBook_36 rfl 1 rfl ?_
  refine E_putD (v := gB h 0) fs_X8_311 bk_2_2 rfl dX8_takeBook_37 z2 ?_
  refine E_hgen (fun h3 => ?_)
  refine E_aload_n dX8_takeBook_40 rfl 2 rfl ?_
  refine E_getF fl_X8_16 dX8_takeBook_41 z0 ?_
  refine E_aload_n dX8_takeBook_44 rfl 0 rfl ?_
  refine E_putD (v := gB h 1) fs_X8_312 bk_2_3 rfl dX8_takeBook_45 z2 ?_
  refine E_hgen (fun h4 => ?_)
  refine E_aload_n dX8_takeBook_48 rfl 2 rfl ?_
  refine E_getF fl_X8_37 dX8_takeBook_49 z0 ?_
  refine E_cVV (As := []) (rest := []) (sP_forget G h4) ck_X3_forget lk_X8_278 rfl rfl kc_21 z21 rfl rfl rfl dX8_takeBook_52 (fun h5 _ => ?_)
  refine E_aload_n dX8_takeBook_55 rfl 2 rfl ?_
  refine E_iconst (v := 0) dX8_takeBook_56 rfl ?_
  refine E_putI fs_X8_272 dX8_takeBook_57 z0 ?_
  refine E_hgen (fun h6 => ?_)
  refine E_aload_n dX8_takeBook_60 rfl 2 rfl ?_
  refine E_getF fl_X8_55 dX8_takeBook_61 z0 ?_
  refine E_cVV (As := []) (rest := []) (sQ_forget G h6) ck_X4_forget lk_X8_313 rfl rfl kc_28 z28 rfl rfl rfl dX8_takeBook_64 (fun h7 _ => ?_)
  exact E_vret rfl rfl dX8_takeBook_67
def iX_book : MI := (yX8_book, cX8_book, 2, (some .int), { frames := 6, cells := 0, slots := 0, locals := 144 }, 0)
theorem ck_X8_book : CK iX_book 1 := ⟨⟨wd_105, wd_420, by decide +kernel⟩, ⟨wd_418, wd_419⟩⟩
def jX_book (h : AH) (v1 : Int32) : Option (Int32 × AH) :=
  if v1 < 0 then ((jX_refuse h 2).bind fun q1 =>
  some (q1.1, q1.2))
  else (if v1 ≤ (gI h 0 0 1) then (jb (uI h 0 0 1 0) fun h2 =>
  (jR_readBook h2 v1).bind fun h3 =>
  if (gI h3 2 0 0) = 0 then ((jX_takeBook h3).bind fun h4 =>
  (jX_accept h4 (gI h4 13 ((gB h4 1).toNat) 0)).bind fun q5 =>
  some (q5.1, q5.2))
  else ((jX_refuse h3 4).bind fun q6 =>
  some (q6.1, q6.2)))
  else ((jX_refuse h 2).bind fun q7 =>
  some (q7.1, q7.2)))
set_option maxRecDepth 20000 in
set_option maxHeartbeats 2000000 in
theorem sX_book (G : JG) (h : AH) (v1 : Int32) : Mt G iX_book rvIM [.ref (G.ad 0 0), .int v1] h (jX_book h v1) := by
  refine Mt_of (by decide) (Nat.le_of_ble_eq_true rfl) ?_
  unfold jX_book
  show Sim G iX_book rvIM 0 [(0, .ref (G.ad 0 0)), (1, .int v1)] [] h _
  refine E_iload_n dX8_book_0 rfl 1 rfl ?_
  refine E_if_lt (t := 12) dX8_book_1 rfl ?_ ?_
  · refine E_aload_n dX8_book_12 rfl 0 rfl ?_
    refine E_iconst (v := 2) dX8_book_13 rfl ?_
    refine E_cVIM (As := [.int 2]) (rest := []) (sX_refuse G h 2) ck_X8_refuse lk_X8_67 rfl rfl kc_0 z0 rfl rfl rfl dX8_book_14 (fun q1 _ => ?_)
    exact E_iret rfl rfl dX8_book_17
  · refine E_iload_n dX8_book_4 rfl 1 rfl ?_
    refine E_aload_n dX8_book_5 rfl 0 rfl ?_
    refine E_getI fl_X8_59 dX8_book_6 z0 ?_
    refine E_icmp_le (t := 18) dX8_book_9 rfl ?_ ?_
    · refine E_aload_n dX8_book_18 rfl 0 rfl ?_
      refine E_iconst (v := 0) dX8_book_19 rfl ?_
      refine E_putI fs_X8_59 dX8_book_20 z0 ?_
      refine E_hgen (fun h2 => ?_)
      refine E_aload_n dX8_book_23 rfl 0 rfl ?_
      refine E_getF fl_X8_16 dX8_book_24 z0 ?_
      refine E_aload_n dX8_book_27 rfl 0 rfl ?_
      refine E_getF fl_X8_9 dX8_book_28 z0 ?_
      refine E_iload_n dX8_book_31 rfl 1 rfl ?_
      refine E_cVV (As := [.ref (G.ad 1 0), .int v1]) (rest := []) (sR_readBook G h2 v1) ck_X5_readBook lk_X8_71 rfl rfl kc_2 z2 rfl rfl rfl dX8_book_32 (fun h3 _ => ?_)
      refine E_aload_n dX8_book_35 rfl 0 rfl ?_
      refine E_getF fl_X8_16 dX8_book_36 z0 ?_
      refine E_getI fl_X8_75 dX8_book_39 z2 ?_
      refine E_if_eq (t := 51) dX8_book_42 rfl ?_ ?_
      · refine E_aload_n dX8_book_51 rfl 0 rfl ?_
        refine E_cVV (As := []) (rest := []) (sX_takeBook G h3) ck_X8_takeBook lk_X8_78 rfl rfl kc_0 z0 rfl rfl rfl dX8_book_52 (fun h4 _ => ?_)
        refine E_aload_n dX8_book_55 rfl 0 rfl ?_
        refine E_aload_n dX8_book_56 rfl 0 rfl ?_
        refine E_getD fl_X8_30 dX8_book_57 z0 ?_
        refine E_getI fl_X8_81 dX8_book_60 (tB13 _) ?_
        refine E_cVIM (As := [.int (gI h4 13 ((gB h4 1).toNat) 0)]) (rest := []) (sX_accept G h4 (gI h4 13 ((gB h4 1).toNat) 0)) ck_X8_accept lk_X8_84 rfl rfl kc_0 z0 rfl rfl rfl dX8_book_63 (fun q5 _ => ?_)
        exact E_iret rfl rfl dX8_book_66
      · refine E_aload_n dX8_book_45 rfl 0 rfl ?_
        refine E_iconst (v := 4) dX8_book_46 rfl ?_
        refine E_cVIM (As := [.int 4]) (rest := []) (sX_refuse G h3 4) ck_X8_refuse lk_X8_67 rfl rfl kc_0 z0 rfl rfl rfl dX8_book_47 (fun q6 _ => ?_)
        exact E_iret rfl rfl dX8_book_50
    · refine E_aload_n dX8_book_12 rfl 0 rfl ?_
      refine E_iconst (v := 2) dX8_book_13 rfl ?_
      refine E_cVIM (As := [.int 2]) (rest := []) (sX_refuse G h 2) ck_X8_refuse lk_X8_67 rfl rfl kc_0 z0 rfl rfl rfl dX8_book_14 (fun q7 _ => ?_)
      exact E_iret rfl rfl dX8_book_17
def iX_breaks : MI := (yX8_breaks, cX8_breaks, 2, (some .int), { frames := 5, cells := 0, slots := 0, locals := 118 }, 0)
theorem ck_X8_breaks : CK iX_breaks 1 := ⟨⟨wd_105, wd_845, by decide +kernel⟩, ⟨wd_843, wd_844⟩⟩
def jX_breaks (h : AH) (v1 : Int32) : Option (Int32 × AH) :=
  (jW_has h ((gB h 1).toNat) v1).bind fun r1 =>
  if r1 = 0 then ((jX_refuse h 1).bind fun q4 =>
  some (q4.1, q4.2))
  else ((jL_breach h ((gB h 0).toNat) ((gB h 1).toNat) v1).bind fun r2 =>
  (jX_accept h r2).bind fun q3 =>
  some (q3.1, q3.2))
set_option maxRecDepth 20000 in
set_option maxHeartbeats 2000000 in
theorem sX_breaks (G : JG) (h : AH) (v1 : Int32) : Mt G iX_breaks rvIM [.ref (G.ad 0 0), .int v1] h (jX_breaks h v1) := by
  refine Mt_of (by decide) (Nat.le_of_ble_eq_true rfl) ?_
  unfold jX_breaks
  show Sim G iX_breaks rvIM 0 [(0, .ref (G.ad 0 0)), (1, .int v1)] [] h _
  refine E_aload_n dX8_breaks_0 rfl 0 rfl ?_
  refine E_getD fl_X8_30 dX8_breaks_1 z0 ?_
  refine E_iload_n dX8_breaks_4 rfl 1 rfl ?_
  refine E_cVI (As := [.int v1]) (rest := []) (sW_has G h ((gB h 1).toNat) (tB13 _) v1) ck_X7_has lk_X8_143 rfl rfl kc_13 (tB13 _) rfl rfl rfl dX8_breaks_5 (fun r1 _ => ?_)
  refine E_if_ne (t := 17) dX8_breaks_8 rfl ?_ ?_
  · refine E_aload_n dX8_breaks_17 rfl 0 rfl ?_
    refine E_aload_n dX8_breaks_18 rfl 0 rfl ?_
    refine E_getD fl_X8_23 dX8_breaks_19 z0 ?_
    refine E_aload_n dX8_breaks_22 rfl 0 rfl ?_
    refine E_getD fl_X8_30 dX8_breaks_23 z0 ?_
    refine E_iload_n dX8_breaks_26 rfl 1 rfl ?_
    refine E_cSI (As := [.ref (G.ad 3 ((gB h 0).toNat)), .ref (G.ad 13 ((gB h 1).toNat)), .int v1]) (rest := [.ref (G.ad 0 0)]) (sL_breach G h ((gB h 0).toNat) (tB3 _) ((gB h 1).toNat) (tB13 _) v1) ck_X1_breach lk_X8_158 rfl rfl rfl rfl rfl dX8_breaks_27 (fun r2 _ => ?_)
    refine E_cVIM (As := [.int r2]) (rest := []) (sX_accept G h r2) ck_X8_accept lk_X8_84 rfl rfl kc_0 z0 rfl rfl rfl dX8_breaks_30 (fun q3 _ => ?_)
    exact E_iret rfl rfl dX8_breaks_33
  · refine E_aload_n dX8_breaks_11 rfl 0 rfl ?_
    refine E_iconst (v := 1) dX8_breaks_12 rfl ?_
    refine E_cVIM (As := [.int 1]) (rest := []) (sX_refuse G h 1) ck_X8_refuse lk_X8_67 rfl rfl kc_0 z0 rfl rfl rfl dX8_breaks_13 (fun q4 _ => ?_)
    exact E_iret rfl rfl dX8_breaks_16
def iX_colourIn : MI := (yX8_colourIn, cX8_colourIn, 6, (some .int), { frames := 2, cells := 0, slots := 0, locals := 43 }, 0)
theorem ck_X8_colourIn : CK iX_colourIn 2 := ⟨⟨wd_105, wd_705, by decide +kernel⟩, ⟨wd_704, wd_21⟩⟩
def jX_colourIn_10 (h : AH) (v1 : Int32) (v2 : Int32) : Nat → Int32 → Option (Int32)
  | 0, _ => none
  | n + 1, v3 =>
    if v3 < 0 then (some (-2))
    else ((jW_colourAt h ((gB h 1).toNat) v3 v1).bind fun r1 =>
    (jW_yearOf h ((gB h 1).toNat) v3).bind fun r2 =>
    if r1 = (-2) then ((jX_colourIn_10 h v1 v2 n (v3 + (-1))))
    else (if (v2 - r2) < 0 then ((jX_colourIn_10 h v1 v2 n (v3 + (-1))))
    else ((jB_isFaded h ((gB h 0).toNat) r1 (v2 - r2)).bind fun r3 =>
    if r3 = 0 then (some r1)
    else ((jX_colourIn_10 h v1 v2 n (v3 + (-1)))))))
set_option maxRecDepth 20000 in
set_option maxHeartbeats 2000000 in
theorem sX_colourIn_10 (G : JG) (h : AH) (v1 : Int32) (v2 : Int32)  : ∀ (n : Nat) (v3 : Int32), Sim G iX_colourIn (rvI h) 10 [(0, .ref (G.ad 0 0)), (1, .int v1), (2, .int v2), (3, .int v3)] [] h (jX_colourIn_10 h v1 v2 n v3) := by
  intro n
  induction n with
  | zero => intro v3; exact E_none
  | succ n ih =>
    intro v3
    rw [jX_colourIn_10]
    refine E_iload_n dX8_colourIn_10 rfl 3 rfl ?_
    refine E_if_lt (t := 72) dX8_colourIn_11 rfl ?_ ?_
    · refine E_bipush (v := (-2)) dX8_colourIn_72 rfl ?_
      exact E_iret rfl rfl dX8_colourIn_74
    · refine E_aload_n dX8_colourIn_14 rfl 0 rfl ?_
      refine E_getD fl_X8_30 dX8_colourIn_15 z0 ?_
      refine E_iload_n dX8_colourIn_18 rfl 3 rfl ?_
      refine E_iload_n dX8_colourIn_19 rfl 1 rfl ?_
      refine E_cVI (As := [.int v3, .int v1]) (rest := []) (sW_colourAt G h ((gB h 1).toNat) (tB13 _) v3 v1) ck_X7_colourAt lk_X8_149 rfl rfl kc_13 (tB13 _) rfl rfl rfl dX8_colourIn_20 (fun r1 _ => ?_)
      refine E_istore (ls' := [(4, .int r1), (0, .ref (G.ad 0 0)), (1, .int v1), (2, .int v2), (3, .int v3)]) dX8_colourIn_23 (Nat.le_of_ble_eq_true rfl) rfl ?_
      refine E_iload_n dX8_colourIn_25 rfl 3 rfl ?_
      refine E_aload_n dX8_colourIn_26 rfl 1 rfl ?_
      refine E_getD fl_X8_30 dX8_colourIn_27 z0 ?_
      refine E_iload_n dX8_colourIn_30 rfl 4 rfl ?_
      refine E_cVI (As := [.int v3]) (rest := [.int v2]) (sW_yearOf G h ((gB h 1).toNat) (tB13 _) v3) ck_X7_yearOf lk_X8_137 rfl rfl kc_13 (tB13 _) rfl rfl rfl dX8_colourIn_31 (fun r2 _ => ?_)
      refine E_isub dX8_colourIn_34 ?_
      refine E_istore (ls' := [(5, .int (v2 - r2)), (4, .int r1), (0, .ref (G.ad 0 0)), (1, .int v1), (2, .int v2), (3, .int v3)]) dX8_colourIn_35 (Nat.le_of_ble_eq_true rfl) rfl ?_
      refine E_iload dX8_colourIn_37 1 rfl ?_
      refine E_bipush (v := (-2)) dX8_colourIn_39 rfl ?_
      refine E_icmp_eq (t := 66) dX8_colourIn_41 rfl ?_ ?_
      · refine E_iinc (q := 5) (v := (v3 + (-1))) (ls' := [(3, .int (v3 + (-1))), (5, .int (v2 - r2)), (4, .int r1), (0, .ref (G.ad 0 0)), (1, .int v1), (2, .int v2)]) dX8_colourIn_66 rfl rfl (Nat.le_of_ble_eq_true rfl) rfl ?_
        refine E_goto (t := 10) dX8_colourIn_69 rfl ?_
        exact E_sub [3, 4, 5, 0] rfl (ih (v3 + (-1)))
      · refine E_iload dX8_colourIn_44 0 rfl ?_
        refine E_if_lt (t := 66) dX8_colourIn_46 rfl ?_ ?_
        · refine E_iinc (q := 5) (v := (v3 + (-1))) (ls' := [(3, .int (v3 + (-1))), (5, .int (v2 - r2)), (4, .int r1), (0, .ref (G.ad 0 0)), (1, .int v1), (2, .int v2)]) dX8_colourIn_66 rfl rfl (Nat.le_of_ble_eq_true rfl) rfl ?_
          refine E_goto (t := 10) dX8_colourIn_69 rfl ?_
          exact E_sub [3, 4, 5, 0] rfl (ih (v3 + (-1)))
        · refine E_aload_n dX8_colourIn_49 rfl 2 rfl ?_
          refine E_getD fl_X8_23 dX8_colourIn_50 z0 ?_
          refine E_iload dX8_colourIn_53 1 rfl ?_
          refine E_iload dX8_colourIn_55 0 rfl ?_
          refine E_cVI (As := [.int r1, .int (v2 - r2)]) (rest := []) (sB_isFaded G h ((gB h 0).toNat) (tB3 _) r1 (v2 - r2)) ck_X0_isFaded lk_X8_314 rfl rfl kc_3 (tB3 _) rfl rfl rfl dX8_colourIn_57 (fun r3 _ => ?_)
          refine E_if_ne (t := 66) dX8_colourIn_60 rfl ?_ ?_
          · refine E_iinc (q := 5) (v := (v3 + (-1))) (ls' := [(3, .int (v3 + (-1))), (5, .int (v2 - r2)), (4, .int r1), (0, .ref (G.ad 0 0)), (1, .int v1), (2, .int v2)]) dX8_colourIn_66 rfl rfl (Nat.le_of_ble_eq_true rfl) rfl ?_
            refine E_goto (t := 10) dX8_colourIn_69 rfl ?_
            exact E_sub [3, 4, 5, 0] rfl (ih (v3 + (-1)))
          · refine E_iload dX8_colourIn_63 1 rfl ?_
            exact E_iret rfl rfl dX8_colourIn_65
def jX_colourIn (h : AH) (v1 : Int32) (v2 : Int32) : Option (Int32) :=
  (jX_colourIn_10 h v1 v2 FU ((gI h 13 ((gB h 1).toNat) 0) - 1))
set_option maxRecDepth 20000 in
set_option maxHeartbeats 2000000 in
theorem sX_colourIn (G : JG) (h : AH) (v1 : Int32) (v2 : Int32) : Mt G iX_colourIn (rvI h) [.ref (G.ad 0 0), .int v1, .int v2] h (jX_colourIn h v1 v2) := by
  refine Mt_of (by decide) (Nat.le_of_ble_eq_true rfl) ?_
  unfold jX_colourIn
  show Sim G iX_colourIn (rvI h) 0 [(0, .ref (G.ad 0 0)), (1, .int v1), (2, .int v2)] [] h _
  refine E_aload_n dX8_colourIn_0 rfl 0 rfl ?_
  refine E_getD fl_X8_30 dX8_colourIn_1 z0 ?_
  refine E_getI fl_X8_81 dX8_colourIn_4 (tB13 _) ?_
  refine E_iconst (v := 1) dX8_colourIn_7 rfl ?_
  refine E_isub dX8_colourIn_8 ?_
  refine E_istore_n (ls' := [(3, .int ((gI h 13 ((gB h 1).toNat) 0) - 1)), (0, .ref (G.ad 0 0)), (1, .int v1), (2, .int v2)]) dX8_colourIn_9 rfl (Nat.le_of_ble_eq_true rfl) rfl ?_
  exact E_sub [1, 2, 3, 0] rfl (sX_colourIn_10 G h v1 v2 FU ((gI h 13 ((gB h 1).toNat) 0) - 1))
def iX_firstChange : MI := (yX8_firstChange, cX8_firstChange, 5, (some .int), { frames := 3, cells := 0, slots := 0, locals := 68 }, 0)
theorem ck_X8_firstChange : CK iX_firstChange 1 := ⟨⟨wd_105, wd_771, by decide +kernel⟩, ⟨wd_770, wd_23⟩⟩
def jX_firstChange_33 (h : AH) (v1 : Int32) : Nat → Int32 → Int32 → Option (Int32)
  | 0, _, _ => none
  | n + 1, v3, v4 =>
    if v4 ≤ 999 then ((jX_colourIn h v1 v4).bind fun r1 =>
    if r1 = v3 then ((jX_firstChange_33 h v1 n v3 (v4 + 1)))
    else (some v4))
    else (some (-2))
set_option maxRecDepth 20000 in
set_option maxHeartbeats 2000000 in
theorem sX_firstChange_33 (G : JG) (h : AH) (v1 : Int32)  : ∀ (n : Nat) (v3 : Int32) (v4 : Int32), Sim G iX_firstChange (rvI h) 33 [(0, .ref (G.ad 0 0)), (1, .int v1), (3, .int v3), (4, .int v4)] [] h (jX_firstChange_33 h v1 n v3 v4) := by
  intro n
  induction n with
  | zero => intro v3 v4; exact E_none
  | succ n ih =>
    intro v3 v4
    rw [jX_firstChange_33]
    refine E_iload dX8_firstChange_33 3 rfl ?_
    refine E_sipush (v := 999) dX8_firstChange_35 rfl ?_
    refine E_icmp_gt (t := 61) dX8_firstChange_38 rfl ?_ ?_
    · refine E_bipush (v := (-2)) dX8_firstChange_61 rfl ?_
      exact E_iret rfl rfl dX8_firstChange_63
    · refine E_aload_n dX8_firstChange_41 rfl 0 rfl ?_
      refine E_iload_n dX8_firstChange_42 rfl 1 rfl ?_
      refine E_iload dX8_firstChange_43 3 rfl ?_
      refine E_cVI (As := [.int v1, .int v4]) (rest := []) (sX_colourIn G h v1 v4) ck_X8_colourIn lk_X8_111 rfl rfl kc_0 z0 rfl rfl rfl dX8_firstChange_45 (fun r1 _ => ?_)
      refine E_iload_n dX8_firstChange_48 rfl 2 rfl ?_
      refine E_icmp_eq (t := 55) dX8_firstChange_49 rfl ?_ ?_
      · refine E_iinc (q := 3) (v := (v4 + 1)) (ls' := [(4, .int (v4 + 1)), (0, .ref (G.ad 0 0)), (1, .int v1), (3, .int v3)]) dX8_firstChange_55 rfl rfl (Nat.le_of_ble_eq_true rfl) rfl ?_
        refine E_goto (t := 33) dX8_firstChange_58 rfl ?_
        exact E_sub [1, 2, 3, 0] rfl (ih v3 (v4 + 1))
      · refine E_iload dX8_firstChange_52 3 rfl ?_
        exact E_iret rfl rfl dX8_firstChange_54
def jX_firstChange (h : AH) (v1 : Int32) : Option (Int32) :=
  if (gI h 13 ((gB h 1).toNat) 0) = 0 then (some (-2))
  else ((jW_latestYear h ((gB h 1).toNat)).bind fun r1 =>
  (jX_colourIn h v1 r1).bind fun r2 =>
  (jX_firstChange_33 h v1 FU r2 (r1 + 1)))
set_option maxRecDepth 20000 in
set_option maxHeartbeats 2000000 in
theorem sX_firstChange (G : JG) (h : AH) (v1 : Int32) : Mt G iX_firstChange (rvI h) [.ref (G.ad 0 0), .int v1] h (jX_firstChange h v1) := by
  refine Mt_of (by decide) (Nat.le_of_ble_eq_true rfl) ?_
  unfold jX_firstChange
  show Sim G iX_firstChange (rvI h) 0 [(0, .ref (G.ad 0 0)), (1, .int v1)] [] h _
  refine E_aload_n dX8_firstChange_0 rfl 0 rfl ?_
  refine E_getD fl_X8_30 dX8_firstChange_1 z0 ?_
  refine E_getI fl_X8_81 dX8_firstChange_4 (tB13 _) ?_
  refine E_if_ne (t := 13) dX8_firstChange_7 rfl ?_ ?_
  · refine E_aload_n dX8_firstChange_13 rfl 0 rfl ?_
    refine E_getD fl_X8_30 dX8_firstChange_14 z0 ?_
    refine E_cVI (As := []) (rest := []) (sW_latestYear G h ((gB h 1).toNat) (tB13 _)) ck_X7_latestYear lk_X8_233 rfl rfl kc_13 (tB13 _) rfl rfl rfl dX8_firstChange_17 (fun r1 _ => ?_)
    refine E_istore_n (ls' := [(2, .int r1), (0, .ref (G.ad 0 0)), (1, .int v1)]) dX8_firstChange_20 rfl (Nat.le_of_ble_eq_true rfl) rfl ?_
    refine E_aload_n dX8_firstChange_21 rfl 1 rfl ?_
    refine E_iload_n dX8_firstChange_22 rfl 2 rfl ?_
    refine E_iload_n dX8_firstChange_23 rfl 0 rfl ?_
    refine E_cVI (As := [.int v1, .int r1]) (rest := []) (sX_colourIn G h v1 r1) ck_X8_colourIn lk_X8_111 rfl rfl kc_0 z0 rfl rfl rfl dX8_firstChange_24 (fun r2 _ => ?_)
    refine E_istore_n (ls' := [(3, .int r2), (2, .int r1), (0, .ref (G.ad 0 0)), (1, .int v1)]) dX8_firstChange_27 rfl (Nat.le_of_ble_eq_true rfl) rfl ?_
    refine E_iload_n dX8_firstChange_28 rfl 1 rfl ?_
    refine E_iconst (v := 1) dX8_firstChange_29 rfl ?_
    refine E_iadd dX8_firstChange_30 ?_
    refine E_istore (ls' := [(4, .int (r1 + 1)), (3, .int r2), (2, .int r1), (0, .ref (G.ad 0 0)), (1, .int v1)]) dX8_firstChange_31 (Nat.le_of_ble_eq_true rfl) rfl ?_
    exact E_sub [3, 4, 1, 0] rfl (sX_firstChange_33 G h v1 FU r2 (r1 + 1))
  · refine E_bipush (v := (-2)) dX8_firstChange_10 rfl ?_
    exact E_iret rfl rfl dX8_firstChange_12
def iX_changes : MI := (yX8_changes, cX8_changes, 3, (some .int), { frames := 4, cells := 0, slots := 0, locals := 92 }, 0)
theorem ck_X8_changes : CK iX_changes 2 := ⟨⟨wd_105, wd_767, by decide +kernel⟩, ⟨wd_765, wd_766⟩⟩
def jX_changes (h : AH) (v1 : Int32) (v2 : Int32) : Option (Int32 × AH) :=
  (jB_hasCell h ((gB h 0).toNat) v1 v2).bind fun r1 =>
  if r1 = 0 then ((jX_refuse h 1).bind fun q5 =>
  some (q5.1, q5.2))
  else ((jB_cellAt h ((gB h 0).toNat) v1 v2).bind fun r2 =>
  (jX_firstChange h r2).bind fun r3 =>
  (jX_accept h r3).bind fun q4 =>
  some (q4.1, q4.2))
set_option maxRecDepth 20000 in
set_option maxHeartbeats 2000000 in
theorem sX_changes (G : JG) (h : AH) (v1 : Int32) (v2 : Int32) : Mt G iX_changes rvIM [.ref (G.ad 0 0), .int v1, .int v2] h (jX_changes h v1 v2) := by
  refine Mt_of (by decide) (Nat.le_of_ble_eq_true rfl) ?_
  unfold jX_changes
  show Sim G iX_changes rvIM 0 [(0, .ref (G.ad 0 0)), (1, .int v1), (2, .int v2)] [] h _
  refine E_aload_n dX8_changes_0 rfl 0 rfl ?_
  refine E_getD fl_X8_23 dX8_changes_1 z0 ?_
  refine E_iload_n dX8_changes_4 rfl 1 rfl ?_
  refine E_iload_n dX8_changes_5 rfl 2 rfl ?_
  refine E_cVI (As := [.int v1, .int v2]) (rest := []) (sB_hasCell G h ((gB h 0).toNat) (tB3 _) v1 v2) ck_X0_hasCell lk_X8_93 rfl rfl kc_3 (tB3 _) rfl rfl rfl dX8_changes_6 (fun r1 _ => ?_)
  refine E_if_ne (t := 18) dX8_changes_9 rfl ?_ ?_
  · refine E_aload_n dX8_changes_18 rfl 0 rfl ?_
    refine E_aload_n dX8_changes_19 rfl 0 rfl ?_
    refine E_aload_n dX8_changes_20 rfl 0 rfl ?_
    refine E_getD fl_X8_23 dX8_changes_21 z0 ?_
    refine E_iload_n dX8_changes_24 rfl 1 rfl ?_
    refine E_iload_n dX8_changes_25 rfl 2 rfl ?_
    refine E_cVI (As := [.int v1, .int v2]) (rest := [.ref (G.ad 0 0), .ref (G.ad 0 0)]) (sB_cellAt G h ((gB h 0).toNat) (tB3 _) v1 v2) ck_X0_cellAt lk_X8_97 rfl rfl kc_3 (tB3 _) rfl rfl rfl dX8_changes_26 (fun r2 _ => ?_)
    refine E_cVI (As := [.int r2]) (rest := [.ref (G.ad 0 0)]) (sX_firstChange G h r2) ck_X8_firstChange lk_X8_140 rfl rfl kc_0 z0 rfl rfl rfl dX8_changes_29 (fun r3 _ => ?_)
    refine E_cVIM (As := [.int r3]) (rest := []) (sX_accept G h r3) ck_X8_accept lk_X8_84 rfl rfl kc_0 z0 rfl rfl rfl dX8_changes_32 (fun q4 _ => ?_)
    exact E_iret rfl rfl dX8_changes_35
  · refine E_aload_n dX8_changes_12 rfl 0 rfl ?_
    refine E_iconst (v := 1) dX8_changes_13 rfl ?_
    refine E_cVIM (As := [.int 1]) (rest := []) (sX_refuse G h 1) ck_X8_refuse lk_X8_67 rfl rfl kc_0 z0 rfl rfl rfl dX8_changes_14 (fun q5 _ => ?_)
    exact E_iret rfl rfl dX8_changes_17
def iX_deep : MI := (yX8_deep, cX8_deep, 3, (some .int), { frames := 2, cells := 0, slots := 0, locals := 46 }, 0)
theorem ck_X8_deep : CK iX_deep 2 := ⟨⟨wd_105, wd_724, by decide +kernel⟩, ⟨wd_722, wd_723⟩⟩
def jX_deep (h : AH) (v1 : Int32) (v2 : Int32) : Option (Int32 × AH) :=
  (jB_hasCell h ((gB h 0).toNat) v1 v2).bind fun r1 =>
  if r1 = 0 then ((jX_refuse h 1).bind fun q5 =>
  some (q5.1, q5.2))
  else ((jB_cellAt h ((gB h 0).toNat) v1 v2).bind fun r2 =>
  (jW_layersAt h ((gB h 1).toNat) r2).bind fun r3 =>
  (jX_accept h r3).bind fun q4 =>
  some (q4.1, q4.2))
set_option maxRecDepth 20000 in
set_option maxHeartbeats 2000000 in
theorem sX_deep (G : JG) (h : AH) (v1 : Int32) (v2 : Int32) : Mt G iX_deep rvIM [.ref (G.ad 0 0), .int v1, .int v2] h (jX_deep h v1 v2) := by
  refine Mt_of (by decide) (Nat.le_of_ble_eq_true rfl) ?_
  unfold jX_deep
  show Sim G iX_deep rvIM 0 [(0, .ref (G.ad 0 0)), (1, .int v1), (2, .int v2)] [] h _
  refine E_aload_n dX8_deep_0 rfl 0 rfl ?_
  refine E_getD fl_X8_23 dX8_deep_1 z0 ?_
  refine E_iload_n dX8_deep_4 rfl 1 rfl ?_
  refine E_iload_n dX8_deep_5 rfl 2 rfl ?_
  refine E_cVI (As := [.int v1, .int v2]) (rest := []) (sB_hasCell G h ((gB h 0).toNat) (tB3 _) v1 v2) ck_X0_hasCell lk_X8_93 rfl rfl kc_3 (tB3 _) rfl rfl rfl dX8_deep_6 (fun r1 _ => ?_)
  refine E_if_ne (t := 18) dX8_deep_9 rfl ?_ ?_
  · refine E_aload_n dX8_deep_18 rfl 0 rfl ?_
    refine E_aload_n dX8_deep_19 rfl 0 rfl ?_
    refine E_getD fl_X8_30 dX8_deep_20 z0 ?_
    refine E_aload_n dX8_deep_23 rfl 0 rfl ?_
    refine E_getD fl_X8_23 dX8_deep_24 z0 ?_
    refine E_iload_n dX8_deep_27 rfl 1 rfl ?_
    refine E_iload_n dX8_deep_28 rfl 2 rfl ?_
    refine E_cVI (As := [.int v1, .int v2]) (rest := [.ref (G.ad 13 ((gB h 1).toNat)), .ref (G.ad 0 0)]) (sB_cellAt G h ((gB h 0).toNat) (tB3 _) v1 v2) ck_X0_cellAt lk_X8_97 rfl rfl kc_3 (tB3 _) rfl rfl rfl dX8_deep_29 (fun r2 _ => ?_)
    refine E_cVI (As := [.int r2]) (rest := [.ref (G.ad 0 0)]) (sW_layersAt G h ((gB h 1).toNat) (tB13 _) r2) ck_X7_layersAt lk_X8_117 rfl rfl kc_13 (tB13 _) rfl rfl rfl dX8_deep_32 (fun r3 _ => ?_)
    refine E_cVIM (As := [.int r3]) (rest := []) (sX_accept G h r3) ck_X8_accept lk_X8_84 rfl rfl kc_0 z0 rfl rfl rfl dX8_deep_35 (fun q4 _ => ?_)
    exact E_iret rfl rfl dX8_deep_38
  · refine E_aload_n dX8_deep_12 rfl 0 rfl ?_
    refine E_iconst (v := 1) dX8_deep_13 rfl ?_
    refine E_cVIM (As := [.int 1]) (rest := []) (sX_refuse G h 1) ck_X8_refuse lk_X8_67 rfl rfl kc_0 z0 rfl rfl rfl dX8_deep_14 (fun q5 _ => ?_)
    exact E_iret rfl rfl dX8_deep_17
def iX_dry : MI := (yX8_dry, cX8_dry, 1, (some .int), { frames := 4, cells := 0, slots := 0, locals := 95 }, 0)
theorem ck_X8_dry : CK iX_dry 0 := ⟨⟨wd_105, wd_1089, by decide +kernel⟩, ⟨wd_1087, wd_1088⟩⟩
def jX_dry (h : AH)  : Option (Int32 × AH) :=
  if (gI h 13 ((gB h 1).toNat) 1) = 0 then ((jX_refuse h 6).bind fun q7 =>
  some (q7.1, q7.2))
  else ((jL_verdict h ((gB h 0).toNat) ((gB h 1).toNat) (gI h 13 ((gB h 1).toNat) 0)).bind fun r1 =>
  if r1 = 0 then ((jP_keep h ((gB h 1).toNat)).bind fun h2 =>
  jb (uI h2 13 ((gB h2 1).toNat) 1 0) fun h3 =>
  jb (uI h3 13 ((gB h3 1).toNat) 0 ((gI h3 13 ((gB h3 1).toNat) 0) + 1)) fun h4 =>
  (jX_accept h4 ((gI h4 13 ((gB h4 1).toNat) 0) - 1)).bind fun q5 =>
  some (q5.1, q5.2))
  else ((jX_refuse h 5).bind fun q6 =>
  some (q6.1, q6.2)))
set_option maxRecDepth 20000 in
set_option maxHeartbeats 2000000 in
theorem sX_dry (G : JG) (h : AH)  : Mt G iX_dry rvIM [.ref (G.ad 0 0)] h (jX_dry h) := by
  refine Mt_of (by decide) (Nat.le_of_ble_eq_true rfl) ?_
  unfold jX_dry
  show Sim G iX_dry rvIM 0 [(0, .ref (G.ad 0 0))] [] h _
  refine E_aload_n dX8_dry_0 rfl 0 rfl ?_
  refine E_getD fl_X8_30 dX8_dry_1 z0 ?_
  refine E_getI fl_X8_236 dX8_dry_4 (tB13 _) ?_
  refine E_if_ne (t := 17) dX8_dry_7 rfl ?_ ?_
  · refine E_aload_n dX8_dry_17 rfl 0 rfl ?_
    refine E_getD fl_X8_23 dX8_dry_18 z0 ?_
    refine E_aload_n dX8_dry_21 rfl 0 rfl ?_
    refine E_getD fl_X8_30 dX8_dry_22 z0 ?_
    refine E_aload_n dX8_dry_25 rfl 0 rfl ?_
    refine E_getD fl_X8_30 dX8_dry_26 z0 ?_
    refine E_getI fl_X8_81 dX8_dry_29 (tB13 _) ?_
    refine E_cSI (As := [.ref (G.ad 3 ((gB h 0).toNat)), .ref (G.ad 13 ((gB h 1).toNat)), .int (gI h 13 ((gB h 1).toNat) 0)]) (rest := []) (sL_verdict G h ((gB h 0).toNat) (tB3 _) ((gB h 1).toNat) (tB13 _) (gI h 13 ((gB h 1).toNat) 0)) ck_X1_verdict lk_X8_152 rfl rfl rfl rfl rfl dX8_dry_32 (fun r1 _ => ?_)
    refine E_if_eq (t := 44) dX8_dry_35 rfl ?_ ?_
    · refine E_aload_n dX8_dry_44 rfl 0 rfl ?_
      refine E_getF fl_X8_37 dX8_dry_45 z0 ?_
      refine E_aload_n dX8_dry_48 rfl 0 rfl ?_
      refine E_getD fl_X8_30 dX8_dry_49 z0 ?_
      refine E_cVV (As := [.ref (G.ad 13 ((gB h 1).toNat))]) (rest := []) (sP_keep G h ((gB h 1).toNat) (tB13 _)) ck_X3_keep lk_X8_240 rfl rfl kc_21 z21 rfl rfl rfl dX8_dry_52 (fun h2 _ => ?_)
      refine E_aload_n dX8_dry_55 rfl 0 rfl ?_
      refine E_getD fl_X8_30 dX8_dry_56 z0 ?_
      refine E_iconst (v := 0) dX8_dry_59 rfl ?_
      refine E_putZ fs_X8_236 (Or.inl rfl) dX8_dry_60 (tB13 _) ?_
      refine E_hgen (fun h3 => ?_)
      refine E_aload_n dX8_dry_63 rfl 0 rfl ?_
      refine E_getD fl_X8_30 dX8_dry_64 z0 ?_
      refine E_dup dX8_dry_67 rfl ?_
      refine E_getI fl_X8_81 dX8_dry_68 (tB13 _) ?_
      refine E_iconst (v := 1) dX8_dry_71 rfl ?_
      refine E_iadd dX8_dry_72 ?_
      refine E_putI fs_X8_81 dX8_dry_73 (tB13 _) ?_
      refine E_hgen (fun h4 => ?_)
      refine E_aload_n dX8_dry_76 rfl 0 rfl ?_
      refine E_aload_n dX8_dry_77 rfl 0 rfl ?_
      refine E_getD fl_X8_30 dX8_dry_78 z0 ?_
      refine E_getI fl_X8_81 dX8_dry_81 (tB13 _) ?_
      refine E_iconst (v := 1) dX8_dry_84 rfl ?_
      refine E_isub dX8_dry_85 ?_
      refine E_cVIM (As := [.int ((gI h4 13 ((gB h4 1).toNat) 0) - 1)]) (rest := []) (sX_accept G h4 ((gI h4 13 ((gB h4 1).toNat) 0) - 1)) ck_X8_accept lk_X8_84 rfl rfl kc_0 z0 rfl rfl rfl dX8_dry_86 (fun q5 _ => ?_)
      exact E_iret rfl rfl dX8_dry_89
    · refine E_aload_n dX8_dry_38 rfl 0 rfl ?_
      refine E_iconst (v := 5) dX8_dry_39 rfl ?_
      refine E_cVIM (As := [.int 5]) (rest := []) (sX_refuse G h 5) ck_X8_refuse lk_X8_67 rfl rfl kc_0 z0 rfl rfl rfl dX8_dry_40 (fun q6 _ => ?_)
      exact E_iret rfl rfl dX8_dry_43
  · refine E_aload_n dX8_dry_10 rfl 0 rfl ?_
    refine E_bipush (v := 6) dX8_dry_11 rfl ?_
    refine E_cVIM (As := [.int 6]) (rest := []) (sX_refuse G h 6) ck_X8_refuse lk_X8_67 rfl rfl kc_0 z0 rfl rfl rfl dX8_dry_13 (fun q7 _ => ?_)
    exact E_iret rfl rfl dX8_dry_16
def iX_fault : MI := (yX8_fault, cX8_fault, 1, (some .int), { frames := 0, cells := 0, slots := 0, locals := 0 }, 0)
theorem ck_X8_fault : CK iX_fault 0 := ⟨⟨wd_105, wd_657, by decide +kernel⟩, ⟨wd_655, wd_656⟩⟩
def jX_fault (h : AH)  : Option (Int32) :=
  some (gI h 2 0 0)
set_option maxRecDepth 20000 in
set_option maxHeartbeats 2000000 in
theorem sX_fault (G : JG) (h : AH)  : Mt G iX_fault (rvI h) [.ref (G.ad 0 0)] h (jX_fault h) := by
  refine Mt_of (by decide) (Nat.le_of_ble_eq_true rfl) ?_
  unfold jX_fault
  show Sim G iX_fault (rvI h) 0 [(0, .ref (G.ad 0 0))] [] h _
  refine E_aload_n dX8_fault_0 rfl 0 rfl ?_
  refine E_getF fl_X8_16 dX8_fault_1 z0 ?_
  refine E_getI fl_X8_75 dX8_fault_4 z2 ?_
  exact E_iret rfl rfl dX8_fault_7
def iX_tapeNumber : MI := (yX8_tapeNumber, cX8_tapeNumber, 3, none, { frames := 0, cells := 0, slots := 0, locals := 0 }, 0)
theorem ck_X8_tapeNumber : CK iX_tapeNumber 1 := ⟨⟨wd_105, wd_416, by decide +kernel⟩, ⟨wd_415, wd_0⟩⟩
def jX_tapeNumber_3 (v1 : Int32) : Nat → Int32 → AH → Option (AH)
  | 0, _, _ => none
  | n + 1, v2, h =>
    if v2 < 0 then (some h)
    else (if (gI h 0 0 1) < 900 then (if inb (gI h 0 0 1) 900 = true then (
    jb (uI h 1 0 (gI h 0 0 1).toNatClampNeg (vp_nar .byte ((v1 >>> (v2 &&& 31)).toInt8.toInt32))) fun h1 =>
    jb (uI h1 0 0 1 ((gI h1 0 0 1) + 1)) fun h2 =>
    (jX_tapeNumber_3 v1 n (v2 + (-8)) h2)) else none)
    else (some h))
set_option maxRecDepth 20000 in
set_option maxHeartbeats 2000000 in
theorem sX_tapeNumber_3 (G : JG) (v1 : Int32)  : ∀ (n : Nat) (v2 : Int32) (h : AH), Sim G iX_tapeNumber rvV 3 [(0, .ref (G.ad 0 0)), (1, .int v1), (2, .int v2)] [] h (jX_tapeNumber_3 v1 n v2 h) := by
  intro n
  induction n with
  | zero => intro v2 h; exact E_none
  | succ n ih =>
    intro v2 h
    rw [jX_tapeNumber_3]
    refine E_iload_n dX8_tapeNumber_3 rfl 2 rfl ?_
    refine E_if_lt (t := 46) dX8_tapeNumber_4 rfl ?_ ?_
    · exact E_vret rfl rfl dX8_tapeNumber_46
    · refine E_aload_n dX8_tapeNumber_7 rfl 0 rfl ?_
      refine E_getI fl_X8_59 dX8_tapeNumber_8 z0 ?_
      refine E_sipush (v := 900) dX8_tapeNumber_11 rfl ?_
      refine E_icmp_ge (t := 46) dX8_tapeNumber_14 rfl ?_ ?_
      · exact E_vret rfl rfl dX8_tapeNumber_46
      · refine E_aload_n dX8_tapeNumber_17 rfl 0 rfl ?_
        refine E_getF fl_X8_9 dX8_tapeNumber_18 z0 ?_
        refine E_aload_n dX8_tapeNumber_21 rfl 0 rfl ?_
        refine E_getI fl_X8_59 dX8_tapeNumber_22 z0 ?_
        refine E_iload_n dX8_tapeNumber_25 rfl 1 rfl ?_
        refine E_iload_n dX8_tapeNumber_26 rfl 2 rfl ?_
        refine E_ishr dX8_tapeNumber_27 ?_
        refine E_i2b dX8_tapeNumber_28 ?_
        refine E_bast (n := 900) rfl dX8_tapeNumber_29 z1 (fun _ => ?_)
        refine E_hgen (fun h1 => ?_)
        refine E_aload_n dX8_tapeNumber_30 rfl 0 rfl ?_
        refine E_dup dX8_tapeNumber_31 rfl ?_
        refine E_getI fl_X8_59 dX8_tapeNumber_32 z0 ?_
        refine E_iconst (v := 1) dX8_tapeNumber_35 rfl ?_
        refine E_iadd dX8_tapeNumber_36 ?_
        refine E_putI fs_X8_59 dX8_tapeNumber_37 z0 ?_
        refine E_hgen (fun h2 => ?_)
        refine E_iinc (q := 2) (v := (v2 + (-8))) (ls' := [(2, .int (v2 + (-8))), (0, .ref (G.ad 0 0)), (1, .int v1)]) dX8_tapeNumber_40 rfl rfl (Nat.le_of_ble_eq_true rfl) rfl ?_
        refine E_goto (t := 3) dX8_tapeNumber_43 rfl ?_
        exact E_sub [1, 2, 0] rfl (ih (v2 + (-8)) h2)
def jX_tapeNumber (h : AH) (v1 : Int32) : Option (AH) :=
  (jX_tapeNumber_3 v1 FU 24 h)
set_option maxRecDepth 20000 in
set_option maxHeartbeats 2000000 in
theorem sX_tapeNumber (G : JG) (h : AH) (v1 : Int32) : Mt G iX_tapeNumber rvV [.ref (G.ad 0 0), .int v1] h (jX_tapeNumber h v1) := by
  refine Mt_of (by decide) (Nat.le_of_ble_eq_true rfl) ?_
  unfold jX_tapeNumber
  show Sim G iX_tapeNumber rvV 0 [(0, .ref (G.ad 0 0)), (1, .int v1)] [] h _
  refine E_bipush (v := 24) dX8_tapeNumber_0 rfl ?_
  refine E_istore_n (ls' := [(2, .int 24), (0, .ref (G.ad 0 0)), (1, .int v1)]) dX8_tapeNumber_2 rfl (Nat.le_of_ble_eq_true rfl) rfl ?_
  exact E_sub [1, 2, 0] rfl (sX_tapeNumber_3 G v1 FU 24 h)
def iX_feed : MI := (yX8_feed, cX8_feed, 6, (some .int), { frames := 1, cells := 0, slots := 0, locals := 22 }, 0)
theorem ck_X8_feed : CK iX_feed 5 := ⟨⟨wd_105, wd_412, by decide +kernel⟩, ⟨wd_410, wd_411⟩⟩
def jX_feed (h : AH) (v1 : Int32) (v2 : Int32) (v3 : Int32) (v4 : Int32) (v5 : Int32) : Option (Int32 × AH) :=
  if (gI h 0 0 1) ≤ 880 then ((jX_tapeNumber h v1).bind fun h1 =>
  (jX_tapeNumber h1 v2).bind fun h2 =>
  (jX_tapeNumber h2 v3).bind fun h3 =>
  (jX_tapeNumber h3 v4).bind fun h4 =>
  (jX_tapeNumber h4 v5).bind fun h5 =>
  some ((gI h5 0 0 1), h5))
  else (some ((-1), h))
set_option maxRecDepth 20000 in
set_option maxHeartbeats 2000000 in
theorem sX_feed (G : JG) (h : AH) (v1 : Int32) (v2 : Int32) (v3 : Int32) (v4 : Int32) (v5 : Int32) : Mt G iX_feed rvIM [.ref (G.ad 0 0), .int v1, .int v2, .int v3, .int v4, .int v5] h (jX_feed h v1 v2 v3 v4 v5) := by
  refine Mt_of (by decide) (Nat.le_of_ble_eq_true rfl) ?_
  unfold jX_feed
  show Sim G iX_feed rvIM 0 [(0, .ref (G.ad 0 0)), (1, .int v1), (2, .int v2), (3, .int v3), (4, .int v4), (5, .int v5)] [] h _
  refine E_aload_n dX8_feed_0 rfl 0 rfl ?_
  refine E_getI fl_X8_59 dX8_feed_1 z0 ?_
  refine E_sipush (v := 880) dX8_feed_4 rfl ?_
  refine E_icmp_le (t := 12) dX8_feed_7 rfl ?_ ?_
  · refine E_aload_n dX8_feed_12 rfl 0 rfl ?_
    refine E_iload_n dX8_feed_13 rfl 1 rfl ?_
    refine E_cVV (As := [.int v1]) (rest := []) (sX_tapeNumber G h v1) ck_X8_tapeNumber lk_X8_63 rfl rfl kc_0 z0 rfl rfl rfl dX8_feed_14 (fun h1 _ => ?_)
    refine E_aload_n dX8_feed_17 rfl 0 rfl ?_
    refine E_iload_n dX8_feed_18 rfl 2 rfl ?_
    refine E_cVV (As := [.int v2]) (rest := []) (sX_tapeNumber G h1 v2) ck_X8_tapeNumber lk_X8_63 rfl rfl kc_0 z0 rfl rfl rfl dX8_feed_19 (fun h2 _ => ?_)
    refine E_aload_n dX8_feed_22 rfl 0 rfl ?_
    refine E_iload_n dX8_feed_23 rfl 3 rfl ?_
    refine E_cVV (As := [.int v3]) (rest := []) (sX_tapeNumber G h2 v3) ck_X8_tapeNumber lk_X8_63 rfl rfl kc_0 z0 rfl rfl rfl dX8_feed_24 (fun h3 _ => ?_)
    refine E_aload_n dX8_feed_27 rfl 0 rfl ?_
    refine E_iload dX8_feed_28 4 rfl ?_
    refine E_cVV (As := [.int v4]) (rest := []) (sX_tapeNumber G h3 v4) ck_X8_tapeNumber lk_X8_63 rfl rfl kc_0 z0 rfl rfl rfl dX8_feed_30 (fun h4 _ => ?_)
    refine E_aload_n dX8_feed_33 rfl 0 rfl ?_
    refine E_iload dX8_feed_34 5 rfl ?_
    refine E_cVV (As := [.int v5]) (rest := []) (sX_tapeNumber G h4 v5) ck_X8_tapeNumber lk_X8_63 rfl rfl kc_0 z0 rfl rfl rfl dX8_feed_36 (fun h5 _ => ?_)
    refine E_aload_n dX8_feed_39 rfl 0 rfl ?_
    refine E_getI fl_X8_59 dX8_feed_40 z0 ?_
    exact E_iret rfl rfl dX8_feed_43
  · refine E_iconst (v := (-1)) dX8_feed_10 rfl ?_
    exact E_iret rfl rfl dX8_feed_11
def iX_forged : MI := (yX8_forged, cX8_forged, 2, (some .int), { frames := 3, cells := 0, slots := 0, locals := 68 }, 0)
theorem ck_X8_forged : CK iX_forged 0 := ⟨⟨wd_105, wd_864, by decide +kernel⟩, ⟨wd_862, wd_863⟩⟩
def jX_forged_18  : Nat → Int32 → AH → Option (Int32 × AH)
  | 0, _, _ => none
  | n + 1, v1, h =>
    if v1 < (gI h 13 ((gB h 1).toNat) 0) then ((jL_untimelyCells h ((gB h 0).toNat) ((gB h 1).toNat) v1).bind fun r2 =>
    if r2 = 0 then ((jX_forged_18 n (v1 + 1) h))
    else ((jX_accept h v1).bind fun q3 =>
    some (q3.1, q3.2)))
    else ((jX_accept h (-2)).bind fun q1 =>
    some (q1.1, q1.2))
set_option maxRecDepth 20000 in
set_option maxHeartbeats 2000000 in
theorem sX_forged_18 (G : JG)   : ∀ (n : Nat) (v1 : Int32) (h : AH), Sim G iX_forged rvIM 18 [(0, .ref (G.ad 0 0)), (1, .int v1)] [] h (jX_forged_18 n v1 h) := by
  intro n
  induction n with
  | zero => intro v1 h; exact E_none
  | succ n ih =>
    intro v1 h
    rw [jX_forged_18]
    refine E_iload_n dX8_forged_18 rfl 1 rfl ?_
    refine E_aload_n dX8_forged_19 rfl 0 rfl ?_
    refine E_getD fl_X8_30 dX8_forged_20 z0 ?_
    refine E_getI fl_X8_81 dX8_forged_23 (tB13 _) ?_
    refine E_icmp_ge (t := 56) dX8_forged_26 rfl ?_ ?_
    · refine E_aload_n dX8_forged_56 rfl 0 rfl ?_
      refine E_bipush (v := (-2)) dX8_forged_57 rfl ?_
      refine E_cVIM (As := [.int (-2)]) (rest := []) (sX_accept G h (-2)) ck_X8_accept lk_X8_84 rfl rfl kc_0 z0 rfl rfl rfl dX8_forged_59 (fun q1 _ => ?_)
      exact E_iret rfl rfl dX8_forged_62
    · refine E_aload_n dX8_forged_29 rfl 0 rfl ?_
      refine E_getD fl_X8_23 dX8_forged_30 z0 ?_
      refine E_aload_n dX8_forged_33 rfl 0 rfl ?_
      refine E_getD fl_X8_30 dX8_forged_34 z0 ?_
      refine E_iload_n dX8_forged_37 rfl 1 rfl ?_
      refine E_cSI (As := [.ref (G.ad 3 ((gB h 0).toNat)), .ref (G.ad 13 ((gB h 1).toNat)), .int v1]) (rest := []) (sL_untimelyCells G h ((gB h 0).toNat) (tB3 _) ((gB h 1).toNat) (tB13 _) v1) ck_X1_untimelyCells lk_X8_161 rfl rfl rfl rfl rfl dX8_forged_38 (fun r2 _ => ?_)
      refine E_if_eq (t := 50) dX8_forged_41 rfl ?_ ?_
      · refine E_iinc (q := 1) (v := (v1 + 1)) (ls' := [(1, .int (v1 + 1)), (0, .ref (G.ad 0 0))]) dX8_forged_50 rfl rfl (Nat.le_of_ble_eq_true rfl) rfl ?_
        refine E_goto (t := 18) dX8_forged_53 rfl ?_
        exact E_sub [1, 0] rfl (ih (v1 + 1) h)
      · refine E_aload_n dX8_forged_44 rfl 0 rfl ?_
        refine E_iload_n dX8_forged_45 rfl 1 rfl ?_
        refine E_cVIM (As := [.int v1]) (rest := []) (sX_accept G h v1) ck_X8_accept lk_X8_84 rfl rfl kc_0 z0 rfl rfl rfl dX8_forged_46 (fun q3 _ => ?_)
        exact E_iret rfl rfl dX8_forged_49
def jX_forged (h : AH)  : Option (Int32 × AH) :=
  (jB_isTold h ((gB h 0).toNat)).bind fun r1 =>
  if r1 = 0 then ((jX_refuse h 1).bind fun q2 =>
  some (q2.1, q2.2))
  else ((jX_forged_18 FU 0 h))
set_option maxRecDepth 20000 in
set_option maxHeartbeats 2000000 in
theorem sX_forged (G : JG) (h : AH)  : Mt G iX_forged rvIM [.ref (G.ad 0 0)] h (jX_forged h) := by
  refine Mt_of (by decide) (Nat.le_of_ble_eq_true rfl) ?_
  unfold jX_forged
  show Sim G iX_forged rvIM 0 [(0, .ref (G.ad 0 0))] [] h _
  refine E_aload_n dX8_forged_0 rfl 0 rfl ?_
  refine E_getD fl_X8_23 dX8_forged_1 z0 ?_
  refine E_cVI (As := []) (rest := []) (sB_isTold G h ((gB h 0).toNat) (tB3 _)) ck_X0_isTold lk_X8_133 rfl rfl kc_3 (tB3 _) rfl rfl rfl dX8_forged_4 (fun r1 _ => ?_)
  refine E_if_ne (t := 16) dX8_forged_7 rfl ?_ ?_
  · refine E_iconst (v := 0) dX8_forged_16 rfl ?_
    refine E_istore_n (ls' := [(1, .int 0), (0, .ref (G.ad 0 0))]) dX8_forged_17 rfl (Nat.le_of_ble_eq_true rfl) rfl ?_
    exact E_sub [1, 0] rfl (sX_forged_18 G FU 0 h)
  · refine E_aload_n dX8_forged_10 rfl 0 rfl ?_
    refine E_iconst (v := 1) dX8_forged_11 rfl ?_
    refine E_cVIM (As := [.int 1]) (rest := []) (sX_refuse G h 1) ck_X8_refuse lk_X8_67 rfl rfl kc_0 z0 rfl rfl rfl dX8_forged_12 (fun q2 _ => ?_)
    exact E_iret rfl rfl dX8_forged_15
def iX_freed : MI := (yX8_freed, cX8_freed, 4, (some .int), { frames := 6, cells := 0, slots := 0, locals := 142 }, 0)
theorem ck_X8_freed : CK iX_freed 2 := ⟨⟨wd_105, wd_1057, by decide +kernel⟩, ⟨wd_1055, wd_1056⟩⟩
def jX_freed (h : AH) (v1 : Int32) (v2 : Int32) : Option (Int32 × AH) :=
  if v1 < 0 then ((jX_refuse h 1).bind fun q1 =>
  some (q1.1, q1.2))
  else (if v1 < (gI h 3 ((gB h 0).toNat) 6) then ((jX_looksAhead h v2).bind fun q2 =>
  if q2.1 = 0 then (some ((-1), q2.2))
  else ((jQ_bestCells q2.2).bind fun r3 =>
  (jQ_alikeBehind q2.2 r3).bind fun r4 =>
  (jQ_look q2.2 ((gB q2.2 0).toNat) ((gB q2.2 1).toNat) v2 v1).bind fun h5 =>
  (jQ_bestCells h5).bind fun r6 =>
  (jQ_alikeBehind h5 r6).bind fun r7 =>
  (jX_accept h5 (r7 - r4)).bind fun q8 =>
  some (q8.1, q8.2)))
  else ((jX_refuse h 1).bind fun q9 =>
  some (q9.1, q9.2)))
set_option maxRecDepth 20000 in
set_option maxHeartbeats 2000000 in
theorem sX_freed (G : JG) (h : AH) (v1 : Int32) (v2 : Int32) : Mt G iX_freed rvIM [.ref (G.ad 0 0), .int v1, .int v2] h (jX_freed h v1 v2) := by
  refine Mt_of (by decide) (Nat.le_of_ble_eq_true rfl) ?_
  unfold jX_freed
  show Sim G iX_freed rvIM 0 [(0, .ref (G.ad 0 0)), (1, .int v1), (2, .int v2)] [] h _
  refine E_iload_n dX8_freed_0 rfl 1 rfl ?_
  refine E_if_lt (t := 15) dX8_freed_1 rfl ?_ ?_
  · refine E_aload_n dX8_freed_15 rfl 0 rfl ?_
    refine E_iconst (v := 1) dX8_freed_16 rfl ?_
    refine E_cVIM (As := [.int 1]) (rest := []) (sX_refuse G h 1) ck_X8_refuse lk_X8_67 rfl rfl kc_0 z0 rfl rfl rfl dX8_freed_17 (fun q1 _ => ?_)
    exact E_iret rfl rfl dX8_freed_20
  · refine E_iload_n dX8_freed_4 rfl 1 rfl ?_
    refine E_aload_n dX8_freed_5 rfl 0 rfl ?_
    refine E_getD fl_X8_23 dX8_freed_6 z0 ?_
    refine E_getI fl_X8_223 dX8_freed_9 (tB3 _) ?_
    refine E_icmp_lt (t := 21) dX8_freed_12 rfl ?_ ?_
    · refine E_aload_n dX8_freed_21 rfl 0 rfl ?_
      refine E_iload_n dX8_freed_22 rfl 2 rfl ?_
      refine E_cVIM (As := [.int v2]) (rest := []) (sX_looksAhead G h v2) ck_X8_looksAhead lk_X8_202 rfl rfl kc_0 z0 rfl rfl rfl dX8_freed_23 (fun q2 _ => ?_)
      refine E_if_ne (t := 31) dX8_freed_26 rfl ?_ ?_
      · refine E_aload_n dX8_freed_31 rfl 0 rfl ?_
        refine E_getF fl_X8_55 dX8_freed_32 z0 ?_
        refine E_aload_n dX8_freed_35 rfl 0 rfl ?_
        refine E_getF fl_X8_55 dX8_freed_36 z0 ?_
        refine E_cVI (As := []) (rest := [.ref (G.ad 28 0)]) (sQ_bestCells G q2.2) ck_X4_bestCells lk_X8_205 rfl rfl kc_28 z28 rfl rfl rfl dX8_freed_39 (fun r3 _ => ?_)
        refine E_cVI (As := [.int r3]) (rest := []) (sQ_alikeBehind G q2.2 r3) ck_X4_alikeBehind lk_X8_208 rfl rfl kc_28 z28 rfl rfl rfl dX8_freed_42 (fun r4 _ => ?_)
        refine E_istore_n (ls' := [(3, .int r4), (0, .ref (G.ad 0 0)), (1, .int v1), (2, .int v2)]) dX8_freed_45 rfl (Nat.le_of_ble_eq_true rfl) rfl ?_
        refine E_aload_n dX8_freed_46 rfl 1 rfl ?_
        refine E_getF fl_X8_55 dX8_freed_47 z0 ?_
        refine E_aload_n dX8_freed_50 rfl 1 rfl ?_
        refine E_getD fl_X8_23 dX8_freed_51 z0 ?_
        refine E_aload_n dX8_freed_54 rfl 1 rfl ?_
        refine E_getD fl_X8_30 dX8_freed_55 z0 ?_
        refine E_iload_n dX8_freed_58 rfl 3 rfl ?_
        refine E_iload_n dX8_freed_59 rfl 2 rfl ?_
        refine E_cVV (As := [.ref (G.ad 3 ((gB q2.2 0).toNat)), .ref (G.ad 13 ((gB q2.2 1).toNat)), .int v2, .int v1]) (rest := []) (sQ_look G q2.2 ((gB q2.2 0).toNat) (tB3 _) ((gB q2.2 1).toNat) (tB13 _) v2 v1) ck_X4_look lk_X8_226 rfl rfl kc_28 z28 rfl rfl rfl dX8_freed_60 (fun h5 _ => ?_)
        refine E_aload_n dX8_freed_63 rfl 1 rfl ?_
        refine E_aload_n dX8_freed_64 rfl 1 rfl ?_
        refine E_getF fl_X8_55 dX8_freed_65 z0 ?_
        refine E_aload_n dX8_freed_68 rfl 1 rfl ?_
        refine E_getF fl_X8_55 dX8_freed_69 z0 ?_
        refine E_cVI (As := []) (rest := [.ref (G.ad 28 0), .ref (G.ad 0 0)]) (sQ_bestCells G h5) ck_X4_bestCells lk_X8_205 rfl rfl kc_28 z28 rfl rfl rfl dX8_freed_72 (fun r6 _ => ?_)
        refine E_cVI (As := [.int r6]) (rest := [.ref (G.ad 0 0)]) (sQ_alikeBehind G h5 r6) ck_X4_alikeBehind lk_X8_208 rfl rfl kc_28 z28 rfl rfl rfl dX8_freed_75 (fun r7 _ => ?_)
        refine E_iload_n dX8_freed_78 rfl 0 rfl ?_
        refine E_isub dX8_freed_79 ?_
        refine E_cVIM (As := [.int (r7 - r4)]) (rest := []) (sX_accept G h5 (r7 - r4)) ck_X8_accept lk_X8_84 rfl rfl kc_0 z0 rfl rfl rfl dX8_freed_80 (fun q8 _ => ?_)
        exact E_iret rfl rfl dX8_freed_83
      · refine E_iconst (v := (-1)) dX8_freed_29 rfl ?_
        exact E_iret rfl rfl dX8_freed_30
    · refine E_aload_n dX8_freed_15 rfl 0 rfl ?_
      refine E_iconst (v := 1) dX8_freed_16 rfl ?_
      refine E_cVIM (As := [.int 1]) (rest := []) (sX_refuse G h 1) ck_X8_refuse lk_X8_67 rfl rfl kc_0 z0 rfl rfl rfl dX8_freed_17 (fun q9 _ => ?_)
      exact E_iret rfl rfl dX8_freed_20
def iX_image : MI := (yX8_image, cX8_image, 1, (some .int), { frames := 2, cells := 0, slots := 0, locals := 61 }, 0)
theorem ck_X8_image : CK iX_image 0 := ⟨⟨wd_105, wd_1130, by decide +kernel⟩, ⟨wd_1128, wd_1129⟩⟩
def jX_image (h : AH)  : Option (Int32 × AH) :=
  (jB_isTold h ((gB h 0).toNat)).bind fun r1 =>
  if r1 = 0 then ((jX_refuse h 1).bind fun q7 =>
  some (q7.1, q7.2))
  else (if (gI h 0 0 7) < 3 then (if inb (gI h 0 0 7) 3 = true then (
  (jW_become h (10 + (gI h 0 0 7).toNatClampNeg) ((gB h 1).toNat)).bind fun h3 =>
  jb (uI h3 0 0 7 ((gI h3 0 0 7) + 1)) fun h4 =>
  (jX_accept h4 ((gI h4 0 0 7) - 1)).bind fun q5 =>
  some (q5.1, q5.2)) else none)
  else ((jX_refuse h 3).bind fun q6 =>
  some (q6.1, q6.2)))
set_option maxRecDepth 20000 in
set_option maxHeartbeats 2000000 in
theorem sX_image (G : JG) (h : AH)  : Mt G iX_image rvIM [.ref (G.ad 0 0)] h (jX_image h) := by
  refine Mt_of (by decide) (Nat.le_of_ble_eq_true rfl) ?_
  unfold jX_image
  show Sim G iX_image rvIM 0 [(0, .ref (G.ad 0 0))] [] h _
  refine E_aload_n dX8_image_0 rfl 0 rfl ?_
  refine E_getD fl_X8_23 dX8_image_1 z0 ?_
  refine E_cVI (As := []) (rest := []) (sB_isTold G h ((gB h 0).toNat) (tB3 _)) ck_X0_isTold lk_X8_133 rfl rfl kc_3 (tB3 _) rfl rfl rfl dX8_image_4 (fun r1 _ => ?_)
  refine E_if_ne (t := 16) dX8_image_7 rfl ?_ ?_
  · refine E_aload_n dX8_image_16 rfl 0 rfl ?_
    refine E_getI fl_X8_272 dX8_image_17 z0 ?_
    refine E_iconst (v := 3) dX8_image_20 rfl ?_
    refine E_icmp_lt (t := 30) dX8_image_21 rfl ?_ ?_
    · refine E_aload_n dX8_image_30 rfl 0 rfl ?_
      refine E_getF fl_X8_41 dX8_image_31 z0 ?_
      refine E_aload_n dX8_image_34 rfl 0 rfl ?_
      refine E_getI fl_X8_272 dX8_image_35 z0 ?_
      refine E_aald (n := 3) (b := 10) rfl dX8_image_38 z23 (fun hz2 => ?_)
      refine E_aload_n dX8_image_39 rfl 0 rfl ?_
      refine E_getD fl_X8_30 dX8_image_40 z0 ?_
      refine E_cVV (As := [.ref (G.ad 13 ((gB h 1).toNat))]) (rest := []) (sW_become G h (10 + (gI h 0 0 7).toNatClampNeg) (inb_lt hz2 (by decide)) ((gB h 1).toNat) (tB13 _)) ck_X7_become lk_X8_275 rfl rfl kc_13 (inb_lt hz2 (by decide)) rfl rfl rfl dX8_image_43 (fun h3 _ => ?_)
      refine E_aload_n dX8_image_46 rfl 0 rfl ?_
      refine E_dup dX8_image_47 rfl ?_
      refine E_getI fl_X8_272 dX8_image_48 z0 ?_
      refine E_iconst (v := 1) dX8_image_51 rfl ?_
      refine E_iadd dX8_image_52 ?_
      refine E_putI fs_X8_272 dX8_image_53 z0 ?_
      refine E_hgen (fun h4 => ?_)
      refine E_aload_n dX8_image_56 rfl 0 rfl ?_
      refine E_aload_n dX8_image_57 rfl 0 rfl ?_
      refine E_getI fl_X8_272 dX8_image_58 z0 ?_
      refine E_iconst (v := 1) dX8_image_61 rfl ?_
      refine E_isub dX8_image_62 ?_
      refine E_cVIM (As := [.int ((gI h4 0 0 7) - 1)]) (rest := []) (sX_accept G h4 ((gI h4 0 0 7) - 1)) ck_X8_accept lk_X8_84 rfl rfl kc_0 z0 rfl rfl rfl dX8_image_63 (fun q5 _ => ?_)
      exact E_iret rfl rfl dX8_image_66
    · refine E_aload_n dX8_image_24 rfl 0 rfl ?_
      refine E_iconst (v := 3) dX8_image_25 rfl ?_
      refine E_cVIM (As := [.int 3]) (rest := []) (sX_refuse G h 3) ck_X8_refuse lk_X8_67 rfl rfl kc_0 z0 rfl rfl rfl dX8_image_26 (fun q6 _ => ?_)
      exact E_iret rfl rfl dX8_image_29
  · refine E_aload_n dX8_image_10 rfl 0 rfl ?_
    refine E_iconst (v := 1) dX8_image_11 rfl ?_
    refine E_cVIM (As := [.int 1]) (rest := []) (sX_refuse G h 1) ck_X8_refuse lk_X8_67 rfl rfl kc_0 z0 rfl rfl rfl dX8_image_12 (fun q7 _ => ?_)
    exact E_iret rfl rfl dX8_image_15
def iX_judged : MI := (yX8_judged, cX8_judged, 2, (some .int), { frames := 4, cells := 0, slots := 0, locals := 95 }, 0)
theorem ck_X8_judged : CK iX_judged 1 := ⟨⟨wd_105, wd_820, by decide +kernel⟩, ⟨wd_818, wd_819⟩⟩
def jX_judged (h : AH) (v1 : Int32) : Option (Int32 × AH) :=
  (jW_has h ((gB h 1).toNat) v1).bind fun r1 =>
  if r1 = 0 then ((jX_refuse h 1).bind fun q4 =>
  some (q4.1, q4.2))
  else ((jL_verdict h ((gB h 0).toNat) ((gB h 1).toNat) v1).bind fun r2 =>
  (jX_accept h r2).bind fun q3 =>
  some (q3.1, q3.2))
set_option maxRecDepth 20000 in
set_option maxHeartbeats 2000000 in
theorem sX_judged (G : JG) (h : AH) (v1 : Int32) : Mt G iX_judged rvIM [.ref (G.ad 0 0), .int v1] h (jX_judged h v1) := by
  refine Mt_of (by decide) (Nat.le_of_ble_eq_true rfl) ?_
  unfold jX_judged
  show Sim G iX_judged rvIM 0 [(0, .ref (G.ad 0 0)), (1, .int v1)] [] h _
  refine E_aload_n dX8_judged_0 rfl 0 rfl ?_
  refine E_getD fl_X8_30 dX8_judged_1 z0 ?_
  refine E_iload_n dX8_judged_4 rfl 1 rfl ?_
  refine E_cVI (As := [.int v1]) (rest := []) (sW_has G h ((gB h 1).toNat) (tB13 _) v1) ck_X7_has lk_X8_143 rfl rfl kc_13 (tB13 _) rfl rfl rfl dX8_judged_5 (fun r1 _ => ?_)
  refine E_if_ne (t := 17) dX8_judged_8 rfl ?_ ?_
  · refine E_aload_n dX8_judged_17 rfl 0 rfl ?_
    refine E_aload_n dX8_judged_18 rfl 0 rfl ?_
    refine E_getD fl_X8_23 dX8_judged_19 z0 ?_
    refine E_aload_n dX8_judged_22 rfl 0 rfl ?_
    refine E_getD fl_X8_30 dX8_judged_23 z0 ?_
    refine E_iload_n dX8_judged_26 rfl 1 rfl ?_
    refine E_cSI (As := [.ref (G.ad 3 ((gB h 0).toNat)), .ref (G.ad 13 ((gB h 1).toNat)), .int v1]) (rest := [.ref (G.ad 0 0)]) (sL_verdict G h ((gB h 0).toNat) (tB3 _) ((gB h 1).toNat) (tB13 _) v1) ck_X1_verdict lk_X8_152 rfl rfl rfl rfl rfl dX8_judged_27 (fun r2 _ => ?_)
    refine E_cVIM (As := [.int r2]) (rest := []) (sX_accept G h r2) ck_X8_accept lk_X8_84 rfl rfl kc_0 z0 rfl rfl rfl dX8_judged_30 (fun q3 _ => ?_)
    exact E_iret rfl rfl dX8_judged_33
  · refine E_aload_n dX8_judged_11 rfl 0 rfl ?_
    refine E_iconst (v := 1) dX8_judged_12 rfl ?_
    refine E_cVIM (As := [.int 1]) (rest := []) (sX_refuse G h 1) ck_X8_refuse lk_X8_67 rfl rfl kc_0 z0 rfl rfl rfl dX8_judged_13 (fun q4 _ => ?_)
    exact E_iret rfl rfl dX8_judged_16
def iX_least : MI := (yX8_least, cX8_least, 3, (some .int), { frames := 6, cells := 0, slots := 0, locals := 142 }, 0)
theorem ck_X8_least : CK iX_least 2 := ⟨⟨wd_105, wd_1049, by decide +kernel⟩, ⟨wd_1047, wd_1048⟩⟩
def jX_least (h : AH) (v1 : Int32) (v2 : Int32) : Option (Int32 × AH) :=
  (jW_has h ((gB h 1).toNat) v1).bind fun r1 =>
  if r1 = 0 then ((jX_refuse h 1).bind fun q6 =>
  some (q6.1, q6.2))
  else ((jX_looksAhead h v2).bind fun q2 =>
  if q2.1 = 0 then (some ((-1), q2.2))
  else ((jW_shownCells q2.2 ((gB q2.2 1).toNat) v1).bind fun r3 =>
  (jQ_fewestLeft q2.2 r3).bind fun r4 =>
  (jX_accept q2.2 r4).bind fun q5 =>
  some (q5.1, q5.2)))
set_option maxRecDepth 20000 in
set_option maxHeartbeats 2000000 in
theorem sX_least (G : JG) (h : AH) (v1 : Int32) (v2 : Int32) : Mt G iX_least rvIM [.ref (G.ad 0 0), .int v1, .int v2] h (jX_least h v1 v2) := by
  refine Mt_of (by decide) (Nat.le_of_ble_eq_true rfl) ?_
  unfold jX_least
  show Sim G iX_least rvIM 0 [(0, .ref (G.ad 0 0)), (1, .int v1), (2, .int v2)] [] h _
  refine E_aload_n dX8_least_0 rfl 0 rfl ?_
  refine E_getD fl_X8_30 dX8_least_1 z0 ?_
  refine E_iload_n dX8_least_4 rfl 1 rfl ?_
  refine E_cVI (As := [.int v1]) (rest := []) (sW_has G h ((gB h 1).toNat) (tB13 _) v1) ck_X7_has lk_X8_143 rfl rfl kc_13 (tB13 _) rfl rfl rfl dX8_least_5 (fun r1 _ => ?_)
  refine E_if_ne (t := 17) dX8_least_8 rfl ?_ ?_
  · refine E_aload_n dX8_least_17 rfl 0 rfl ?_
    refine E_iload_n dX8_least_18 rfl 2 rfl ?_
    refine E_cVIM (As := [.int v2]) (rest := []) (sX_looksAhead G h v2) ck_X8_looksAhead lk_X8_202 rfl rfl kc_0 z0 rfl rfl rfl dX8_least_19 (fun q2 _ => ?_)
    refine E_if_ne (t := 27) dX8_least_22 rfl ?_ ?_
    · refine E_aload_n dX8_least_27 rfl 0 rfl ?_
      refine E_aload_n dX8_least_28 rfl 0 rfl ?_
      refine E_getF fl_X8_55 dX8_least_29 z0 ?_
      refine E_aload_n dX8_least_32 rfl 0 rfl ?_
      refine E_getD fl_X8_30 dX8_least_33 z0 ?_
      refine E_iload_n dX8_least_36 rfl 1 rfl ?_
      refine E_cVI (As := [.int v1]) (rest := [.ref (G.ad 28 0), .ref (G.ad 0 0)]) (sW_shownCells G q2.2 ((gB q2.2 1).toNat) (tB13 _) v1) ck_X7_shownCells lk_X8_164 rfl rfl kc_13 (tB13 _) rfl rfl rfl dX8_least_37 (fun r3 _ => ?_)
      refine E_cVI (As := [.int r3]) (rest := [.ref (G.ad 0 0)]) (sQ_fewestLeft G q2.2 r3) ck_X4_fewestLeft lk_X8_220 rfl rfl kc_28 z28 rfl rfl rfl dX8_least_40 (fun r4 _ => ?_)
      refine E_cVIM (As := [.int r4]) (rest := []) (sX_accept G q2.2 r4) ck_X8_accept lk_X8_84 rfl rfl kc_0 z0 rfl rfl rfl dX8_least_43 (fun q5 _ => ?_)
      exact E_iret rfl rfl dX8_least_46
    · refine E_iconst (v := (-1)) dX8_least_25 rfl ?_
      exact E_iret rfl rfl dX8_least_26
  · refine E_aload_n dX8_least_11 rfl 0 rfl ?_
    refine E_iconst (v := 1) dX8_least_12 rfl ?_
    refine E_cVIM (As := [.int 1]) (rest := []) (sX_refuse G h 1) ck_X8_refuse lk_X8_67 rfl rfl kc_0 z0 rfl rfl rfl dX8_least_13 (fun q6 _ => ?_)
    exact E_iret rfl rfl dX8_least_16
def iX_left : MI := (yX8_left, cX8_left, 2, (some .int), { frames := 3, cells := 0, slots := 0, locals := 69 }, 0)
theorem ck_X8_left : CK iX_left 1 := ⟨⟨wd_105, wd_869, by decide +kernel⟩, ⟨wd_867, wd_868⟩⟩
def jX_left (h : AH) (v1 : Int32) : Option (Int32 × AH) :=
  (jW_has h ((gB h 1).toNat) v1).bind fun r1 =>
  if r1 = 0 then ((jX_refuse h 1).bind fun q5 =>
  some (q5.1, q5.2))
  else ((jW_shownCells h ((gB h 1).toNat) v1).bind fun r2 =>
  (jJ_bitCount r2).bind fun r3 =>
  (jX_accept h r3).bind fun q4 =>
  some (q4.1, q4.2))
set_option maxRecDepth 20000 in
set_option maxHeartbeats 2000000 in
theorem sX_left (G : JG) (h : AH) (v1 : Int32) : Mt G iX_left rvIM [.ref (G.ad 0 0), .int v1] h (jX_left h v1) := by
  refine Mt_of (by decide) (Nat.le_of_ble_eq_true rfl) ?_
  unfold jX_left
  show Sim G iX_left rvIM 0 [(0, .ref (G.ad 0 0)), (1, .int v1)] [] h _
  refine E_aload_n dX8_left_0 rfl 0 rfl ?_
  refine E_getD fl_X8_30 dX8_left_1 z0 ?_
  refine E_iload_n dX8_left_4 rfl 1 rfl ?_
  refine E_cVI (As := [.int v1]) (rest := []) (sW_has G h ((gB h 1).toNat) (tB13 _) v1) ck_X7_has lk_X8_143 rfl rfl kc_13 (tB13 _) rfl rfl rfl dX8_left_5 (fun r1 _ => ?_)
  refine E_if_ne (t := 17) dX8_left_8 rfl ?_ ?_
  · refine E_aload_n dX8_left_17 rfl 0 rfl ?_
    refine E_aload_n dX8_left_18 rfl 0 rfl ?_
    refine E_getD fl_X8_30 dX8_left_19 z0 ?_
    refine E_iload_n dX8_left_22 rfl 1 rfl ?_
    refine E_cVI (As := [.int v1]) (rest := [.ref (G.ad 0 0)]) (sW_shownCells G h ((gB h 1).toNat) (tB13 _) v1) ck_X7_shownCells lk_X8_164 rfl rfl kc_13 (tB13 _) rfl rfl rfl dX8_left_23 (fun r2 _ => ?_)
    refine E_cSI (As := [.int r2]) (rest := [.ref (G.ad 0 0)]) (sJ_bitCount G h r2) ck_J6_bitCount_0f7a4 lk_X8_167 rfl rfl rfl rfl rfl dX8_left_26 (fun r3 _ => ?_)
    refine E_cVIM (As := [.int r3]) (rest := []) (sX_accept G h r3) ck_X8_accept lk_X8_84 rfl rfl kc_0 z0 rfl rfl rfl dX8_left_29 (fun q4 _ => ?_)
    exact E_iret rfl rfl dX8_left_32
  · refine E_aload_n dX8_left_11 rfl 0 rfl ?_
    refine E_iconst (v := 1) dX8_left_12 rfl ?_
    refine E_cVIM (As := [.int 1]) (rest := []) (sX_refuse G h 1) ck_X8_refuse lk_X8_67 rfl rfl kc_0 z0 rfl rfl rfl dX8_left_13 (fun q5 _ => ?_)
    exact E_iret rfl rfl dX8_left_16
def iX_thickAt : MI := (yX8_thickAt, cX8_thickAt, 6, (some .int), { frames := 2, cells := 0, slots := 0, locals := 42 }, 0)
theorem ck_X8_thickAt : CK iX_thickAt 2 := ⟨⟨wd_105, wd_736, by decide +kernel⟩, ⟨wd_735, wd_22⟩⟩
def jX_thickAt_30 (h : AH) : Nat → Int32 → Int32 → Int32 → Option (Int32)
  | 0, _, _, _ => none
  | n + 1, v3, v4, v5 =>
    if v5 < (gI h 13 ((gB h 1).toNat) 0) then ((jW_colourAt h ((gB h 1).toNat) v5 v3).bind fun r1 =>
    (jB_thickOf h ((gB h 0).toNat) r1).bind fun r2 =>
    (jX_thickAt_30 h n v3 (v4 + r2) (v5 + 1)))
    else (some v4)
set_option maxRecDepth 20000 in
set_option maxHeartbeats 2000000 in
theorem sX_thickAt_30 (G : JG) (h : AH)   : ∀ (n : Nat) (v3 : Int32) (v4 : Int32) (v5 : Int32), Sim G iX_thickAt (rvI h) 30 [(0, .ref (G.ad 0 0)), (3, .int v3), (4, .int v4), (5, .int v5)] [] h (jX_thickAt_30 h n v3 v4 v5) := by
  intro n
  induction n with
  | zero => intro v3 v4 v5; exact E_none
  | succ n ih =>
    intro v3 v4 v5
    rw [jX_thickAt_30]
    refine E_iload dX8_thickAt_30 3 rfl ?_
    refine E_aload_n dX8_thickAt_32 rfl 0 rfl ?_
    refine E_getD fl_X8_30 dX8_thickAt_33 z0 ?_
    refine E_getI fl_X8_81 dX8_thickAt_36 (tB13 _) ?_
    refine E_icmp_ge (t := 70) dX8_thickAt_39 rfl ?_ ?_
    · refine E_iload dX8_thickAt_70 2 rfl ?_
      exact E_iret rfl rfl dX8_thickAt_72
    · refine E_iload dX8_thickAt_42 2 rfl ?_
      refine E_aload_n dX8_thickAt_44 rfl 0 rfl ?_
      refine E_getD fl_X8_23 dX8_thickAt_45 z0 ?_
      refine E_aload_n dX8_thickAt_48 rfl 0 rfl ?_
      refine E_getD fl_X8_30 dX8_thickAt_49 z0 ?_
      refine E_iload dX8_thickAt_52 3 rfl ?_
      refine E_iload_n dX8_thickAt_54 rfl 1 rfl ?_
      refine E_cVI (As := [.int v5, .int v3]) (rest := [.ref (G.ad 3 ((gB h 0).toNat)), .int v4]) (sW_colourAt G h ((gB h 1).toNat) (tB13 _) v5 v3) ck_X7_colourAt lk_X8_149 rfl rfl kc_13 (tB13 _) rfl rfl rfl dX8_thickAt_55 (fun r1 _ => ?_)
      refine E_cVI (As := [.int r1]) (rest := [.int v4]) (sB_thickOf G h ((gB h 0).toNat) (tB3 _) r1) ck_X0_thickOf lk_X8_317 rfl rfl kc_3 (tB3 _) rfl rfl rfl dX8_thickAt_58 (fun r2 _ => ?_)
      refine E_iadd dX8_thickAt_61 ?_
      refine E_istore (ls' := [(4, .int (v4 + r2)), (0, .ref (G.ad 0 0)), (3, .int v3), (5, .int v5)]) dX8_thickAt_62 (Nat.le_of_ble_eq_true rfl) rfl ?_
      refine E_iinc (q := 3) (v := (v5 + 1)) (ls' := [(5, .int (v5 + 1)), (4, .int (v4 + r2)), (0, .ref (G.ad 0 0)), (3, .int v3)]) dX8_thickAt_64 rfl rfl (Nat.le_of_ble_eq_true rfl) rfl ?_
      refine E_goto (t := 30) dX8_thickAt_67 rfl ?_
      exact E_sub [2, 3, 1, 0] rfl (ih v3 (v4 + r2) (v5 + 1))
def jX_thickAt (h : AH) (v1 : Int32) (v2 : Int32) : Option (Int32) :=
  (jB_hasCell h ((gB h 0).toNat) v1 v2).bind fun r1 =>
  if r1 = 0 then (some 0)
  else ((jB_cellAt h ((gB h 0).toNat) v1 v2).bind fun r2 =>
  (jX_thickAt_30 h FU r2 0 0))
set_option maxRecDepth 20000 in
set_option maxHeartbeats 2000000 in
theorem sX_thickAt (G : JG) (h : AH) (v1 : Int32) (v2 : Int32) : Mt G iX_thickAt (rvI h) [.ref (G.ad 0 0), .int v1, .int v2] h (jX_thickAt h v1 v2) := by
  refine Mt_of (by decide) (Nat.le_of_ble_eq_true rfl) ?_
  unfold jX_thickAt
  show Sim G iX_thickAt (rvI h) 0 [(0, .ref (G.ad 0 0)), (1, .int v1), (2, .int v2)] [] h _
  refine E_aload_n dX8_thickAt_0 rfl 0 rfl ?_
  refine E_getD fl_X8_23 dX8_thickAt_1 z0 ?_
  refine E_iload_n dX8_thickAt_4 rfl 1 rfl ?_
  refine E_iload_n dX8_thickAt_5 rfl 2 rfl ?_
  refine E_cVI (As := [.int v1, .int v2]) (rest := []) (sB_hasCell G h ((gB h 0).toNat) (tB3 _) v1 v2) ck_X0_hasCell lk_X8_93 rfl rfl kc_3 (tB3 _) rfl rfl rfl dX8_thickAt_6 (fun r1 _ => ?_)
  refine E_if_ne (t := 14) dX8_thickAt_9 rfl ?_ ?_
  · refine E_aload_n dX8_thickAt_14 rfl 0 rfl ?_
    refine E_getD fl_X8_23 dX8_thickAt_15 z0 ?_
    refine E_iload_n dX8_thickAt_18 rfl 1 rfl ?_
    refine E_iload_n dX8_thickAt_19 rfl 2 rfl ?_
    refine E_cVI (As := [.int v1, .int v2]) (rest := []) (sB_cellAt G h ((gB h 0).toNat) (tB3 _) v1 v2) ck_X0_cellAt lk_X8_97 rfl rfl kc_3 (tB3 _) rfl rfl rfl dX8_thickAt_20 (fun r2 _ => ?_)
    refine E_istore_n (ls' := [(3, .int r2), (0, .ref (G.ad 0 0)), (1, .int v1), (2, .int v2)]) dX8_thickAt_23 rfl (Nat.le_of_ble_eq_true rfl) rfl ?_
    refine E_iconst (v := 0) dX8_thickAt_24 rfl ?_
    refine E_istore (ls' := [(4, .int 0), (3, .int r2), (0, .ref (G.ad 0 0)), (1, .int v1), (2, .int v2)]) dX8_thickAt_25 (Nat.le_of_ble_eq_true rfl) rfl ?_
    refine E_iconst (v := 0) dX8_thickAt_27 rfl ?_
    refine E_istore (ls' := [(5, .int 0), (4, .int 0), (3, .int r2), (0, .ref (G.ad 0 0)), (1, .int v1), (2, .int v2)]) dX8_thickAt_28 (Nat.le_of_ble_eq_true rfl) rfl ?_
    exact E_sub [3, 2, 1, 0] rfl (sX_thickAt_30 G h FU r2 0 0)
  · refine E_iconst (v := 0) dX8_thickAt_12 rfl ?_
    exact E_iret rfl rfl dX8_thickAt_13
def iX_light : MI := (yX8_light, cX8_light, 3, (some .int), { frames := 3, cells := 0, slots := 0, locals := 67 }, 0)
theorem ck_X8_light : CK iX_light 2 := ⟨⟨wd_105, wd_744, by decide +kernel⟩, ⟨wd_742, wd_743⟩⟩
def jX_light (h : AH) (v1 : Int32) (v2 : Int32) : Option (Int32 × AH) :=
  (jB_hasCell h ((gB h 0).toNat) v1 v2).bind fun r1 =>
  if r1 = 0 then ((jX_refuse h 1).bind fun q6 =>
  some (q6.1, q6.2))
  else ((jX_thickAt h v1 v2).bind fun r2 =>
  (jX_thickAt h (v1 - 1) v2).bind fun r3 =>
  if r2 ≤ r3 then ((jX_accept h 0).bind fun q4 =>
  some (q4.1, q4.2))
  else ((jX_accept h 1).bind fun q5 =>
  some (q5.1, q5.2)))
set_option maxRecDepth 20000 in
set_option maxHeartbeats 2000000 in
theorem sX_light (G : JG) (h : AH) (v1 : Int32) (v2 : Int32) : Mt G iX_light rvIM [.ref (G.ad 0 0), .int v1, .int v2] h (jX_light h v1 v2) := by
  refine Mt_of (by decide) (Nat.le_of_ble_eq_true rfl) ?_
  unfold jX_light
  show Sim G iX_light rvIM 0 [(0, .ref (G.ad 0 0)), (1, .int v1), (2, .int v2)] [] h _
  refine E_aload_n dX8_light_0 rfl 0 rfl ?_
  refine E_getD fl_X8_23 dX8_light_1 z0 ?_
  refine E_iload_n dX8_light_4 rfl 1 rfl ?_
  refine E_iload_n dX8_light_5 rfl 2 rfl ?_
  refine E_cVI (As := [.int v1, .int v2]) (rest := []) (sB_hasCell G h ((gB h 0).toNat) (tB3 _) v1 v2) ck_X0_hasCell lk_X8_93 rfl rfl kc_3 (tB3 _) rfl rfl rfl dX8_light_6 (fun r1 _ => ?_)
  refine E_if_ne (t := 18) dX8_light_9 rfl ?_ ?_
  · refine E_aload_n dX8_light_18 rfl 0 rfl ?_
    refine E_aload_n dX8_light_19 rfl 0 rfl ?_
    refine E_iload_n dX8_light_20 rfl 1 rfl ?_
    refine E_iload_n dX8_light_21 rfl 2 rfl ?_
    refine E_cVI (As := [.int v1, .int v2]) (rest := [.ref (G.ad 0 0)]) (sX_thickAt G h v1 v2) ck_X8_thickAt lk_X8_120 rfl rfl kc_0 z0 rfl rfl rfl dX8_light_22 (fun r2 _ => ?_)
    refine E_aload_n dX8_light_25 rfl 0 rfl ?_
    refine E_iload_n dX8_light_26 rfl 1 rfl ?_
    refine E_iconst (v := 1) dX8_light_27 rfl ?_
    refine E_isub dX8_light_28 ?_
    refine E_iload_n dX8_light_29 rfl 2 rfl ?_
    refine E_cVI (As := [.int (v1 - 1), .int v2]) (rest := [.int r2, .ref (G.ad 0 0)]) (sX_thickAt G h (v1 - 1) v2) ck_X8_thickAt lk_X8_120 rfl rfl kc_0 z0 rfl rfl rfl dX8_light_30 (fun r3 _ => ?_)
    refine E_icmp_le (t := 40) dX8_light_33 rfl ?_ ?_
    · refine E_iconst (v := 0) dX8_light_40 rfl ?_
      refine E_cVIM (As := [.int 0]) (rest := []) (sX_accept G h 0) ck_X8_accept lk_X8_84 rfl rfl kc_0 z0 rfl rfl rfl dX8_light_41 (fun q4 _ => ?_)
      exact E_iret rfl rfl dX8_light_44
    · refine E_iconst (v := 1) dX8_light_36 rfl ?_
      refine E_goto (t := 41) dX8_light_37 rfl ?_
      refine E_cVIM (As := [.int 1]) (rest := []) (sX_accept G h 1) ck_X8_accept lk_X8_84 rfl rfl kc_0 z0 rfl rfl rfl dX8_light_41 (fun q5 _ => ?_)
      exact E_iret rfl rfl dX8_light_44
  · refine E_aload_n dX8_light_12 rfl 0 rfl ?_
    refine E_iconst (v := 1) dX8_light_13 rfl ?_
    refine E_cVIM (As := [.int 1]) (rest := []) (sX_refuse G h 1) ck_X8_refuse lk_X8_67 rfl rfl kc_0 z0 rfl rfl rfl dX8_light_14 (fun q6 _ => ?_)
    exact E_iret rfl rfl dX8_light_17
def iX_need : MI := (yX8_need, cX8_need, 2, (some .int), { frames := 6, cells := 0, slots := 0, locals := 142 }, 0)
theorem ck_X8_need : CK iX_need 1 := ⟨⟨wd_105, wd_1002, by decide +kernel⟩, ⟨wd_1000, wd_1001⟩⟩
def jX_need (h : AH) (v1 : Int32) : Option (Int32 × AH) :=
  (jB_isTold h ((gB h 0).toNat)).bind fun r1 =>
  if r1 = 0 then ((jX_refuse h 1).bind fun q5 =>
  some (q5.1, q5.2))
  else ((jX_looksAhead h v1).bind fun q2 =>
  if q2.1 = 0 then (some ((-1), q2.2))
  else ((jQ_fewestWorks q2.2).bind fun q3 =>
  (jX_accept q3.2 q3.1).bind fun q4 =>
  some (q4.1, q4.2)))
set_option maxRecDepth 20000 in
set_option maxHeartbeats 2000000 in
theorem sX_need (G : JG) (h : AH) (v1 : Int32) : Mt G iX_need rvIM [.ref (G.ad 0 0), .int v1] h (jX_need h v1) := by
  refine Mt_of (by decide) (Nat.le_of_ble_eq_true rfl) ?_
  unfold jX_need
  show Sim G iX_need rvIM 0 [(0, .ref (G.ad 0 0)), (1, .int v1)] [] h _
  refine E_aload_n dX8_need_0 rfl 0 rfl ?_
  refine E_getD fl_X8_23 dX8_need_1 z0 ?_
  refine E_cVI (As := []) (rest := []) (sB_isTold G h ((gB h 0).toNat) (tB3 _)) ck_X0_isTold lk_X8_133 rfl rfl kc_3 (tB3 _) rfl rfl rfl dX8_need_4 (fun r1 _ => ?_)
  refine E_if_ne (t := 16) dX8_need_7 rfl ?_ ?_
  · refine E_aload_n dX8_need_16 rfl 0 rfl ?_
    refine E_iload_n dX8_need_17 rfl 1 rfl ?_
    refine E_cVIM (As := [.int v1]) (rest := []) (sX_looksAhead G h v1) ck_X8_looksAhead lk_X8_202 rfl rfl kc_0 z0 rfl rfl rfl dX8_need_18 (fun q2 _ => ?_)
    refine E_if_ne (t := 26) dX8_need_21 rfl ?_ ?_
    · refine E_aload_n dX8_need_26 rfl 0 rfl ?_
      refine E_aload_n dX8_need_27 rfl 0 rfl ?_
      refine E_getF fl_X8_55 dX8_need_28 z0 ?_
      refine E_cVIM (As := []) (rest := [.ref (G.ad 0 0)]) (sQ_fewestWorks G q2.2) ck_X4_fewestWorks lk_X8_211 rfl rfl kc_28 z28 rfl rfl rfl dX8_need_31 (fun q3 _ => ?_)
      refine E_cVIM (As := [.int q3.1]) (rest := []) (sX_accept G q3.2 q3.1) ck_X8_accept lk_X8_84 rfl rfl kc_0 z0 rfl rfl rfl dX8_need_34 (fun q4 _ => ?_)
      exact E_iret rfl rfl dX8_need_37
    · refine E_iconst (v := (-1)) dX8_need_24 rfl ?_
      exact E_iret rfl rfl dX8_need_25
  · refine E_aload_n dX8_need_10 rfl 0 rfl ?_
    refine E_iconst (v := 1) dX8_need_11 rfl ?_
    refine E_cVIM (As := [.int 1]) (rest := []) (sX_refuse G h 1) ck_X8_refuse lk_X8_67 rfl rfl kc_0 z0 rfl rfl rfl dX8_need_12 (fun q5 _ => ?_)
    exact E_iret rfl rfl dX8_need_15
def iX_old : MI := (yX8_old, cX8_old, 5, (some .int), { frames := 2, cells := 0, slots := 0, locals := 47 }, 0)
theorem ck_X8_old : CK iX_old 1 := ⟨⟨wd_105, wd_762, by decide +kernel⟩, ⟨wd_760, wd_761⟩⟩
def jX_old_33 (v1 : Int32) : Nat → Int32 → Int32 → AH → Option (Int32 × AH)
  | 0, _, _, _ => none
  | n + 1, v2, v3, h =>
    (jB_cells h ((gB h 0).toNat)).bind fun r1 =>
    if v3 < r1 then ((jW_below h ((gB h 1).toNat) v3 0).bind fun r3 =>
    if r3 = (-2) then ((jX_old_33 v1 n v2 (v3 + 1) h))
    else ((jW_yearOf h ((gB h 1).toNat) r3).bind fun r4 =>
    if r4 ≤ v1 then ((jX_old_33 v1 n (v2 + 1) (v3 + 1) h))
    else ((jX_old_33 v1 n v2 (v3 + 1) h))))
    else ((jX_accept h v2).bind fun q2 =>
    some (q2.1, q2.2))
set_option maxRecDepth 20000 in
set_option maxHeartbeats 2000000 in
theorem sX_old_33 (G : JG) (v1 : Int32)  : ∀ (n : Nat) (v2 : Int32) (v3 : Int32) (h : AH), Sim G iX_old rvIM 33 [(0, .ref (G.ad 0 0)), (1, .int v1), (2, .int v2), (3, .int v3)] [] h (jX_old_33 v1 n v2 v3 h) := by
  intro n
  induction n with
  | zero => intro v2 v3 h; exact E_none
  | succ n ih =>
    intro v2 v3 h
    rw [jX_old_33]
    refine E_iload_n dX8_old_33 rfl 3 rfl ?_
    refine E_aload_n dX8_old_34 rfl 0 rfl ?_
    refine E_getD fl_X8_23 dX8_old_35 z0 ?_
    refine E_cVI (As := []) (rest := [.int v3]) (sB_cells G h ((gB h 0).toNat) (tB3 _)) ck_X0_cells lk_X8_126 rfl rfl kc_3 (tB3 _) rfl rfl rfl dX8_old_38 (fun r1 _ => ?_)
    refine E_icmp_ge (t := 84) dX8_old_41 rfl ?_ ?_
    · refine E_aload_n dX8_old_84 rfl 0 rfl ?_
      refine E_iload_n dX8_old_85 rfl 2 rfl ?_
      refine E_cVIM (As := [.int v2]) (rest := []) (sX_accept G h v2) ck_X8_accept lk_X8_84 rfl rfl kc_0 z0 rfl rfl rfl dX8_old_86 (fun q2 _ => ?_)
      exact E_iret rfl rfl dX8_old_89
    · refine E_aload_n dX8_old_44 rfl 0 rfl ?_
      refine E_getD fl_X8_30 dX8_old_45 z0 ?_
      refine E_iload_n dX8_old_48 rfl 3 rfl ?_
      refine E_iconst (v := 0) dX8_old_49 rfl ?_
      refine E_cVI (As := [.int v3, .int 0]) (rest := []) (sW_below G h ((gB h 1).toNat) (tB13 _) v3 0) ck_X7_below lk_X8_114 rfl rfl kc_13 (tB13 _) rfl rfl rfl dX8_old_50 (fun r3 _ => ?_)
      refine E_istore (ls' := [(4, .int r3), (0, .ref (G.ad 0 0)), (1, .int v1), (2, .int v2), (3, .int v3)]) dX8_old_53 (Nat.le_of_ble_eq_true rfl) rfl ?_
      refine E_iload dX8_old_55 0 rfl ?_
      refine E_bipush (v := (-2)) dX8_old_57 rfl ?_
      refine E_icmp_eq (t := 78) dX8_old_59 rfl ?_ ?_
      · refine E_iinc (q := 4) (v := (v3 + 1)) (ls' := [(3, .int (v3 + 1)), (4, .int r3), (0, .ref (G.ad 0 0)), (1, .int v1), (2, .int v2)]) dX8_old_78 rfl rfl (Nat.le_of_ble_eq_true rfl) rfl ?_
        refine E_goto (t := 33) dX8_old_81 rfl ?_
        exact E_sub [2, 3, 4, 0] rfl (ih v2 (v3 + 1) h)
      · refine E_aload_n dX8_old_62 rfl 1 rfl ?_
        refine E_getD fl_X8_30 dX8_old_63 z0 ?_
        refine E_iload dX8_old_66 0 rfl ?_
        refine E_cVI (As := [.int r3]) (rest := []) (sW_yearOf G h ((gB h 1).toNat) (tB13 _) r3) ck_X7_yearOf lk_X8_137 rfl rfl kc_13 (tB13 _) rfl rfl rfl dX8_old_68 (fun r4 _ => ?_)
        refine E_iload_n dX8_old_71 rfl 2 rfl ?_
        refine E_icmp_gt (t := 78) dX8_old_72 rfl ?_ ?_
        · refine E_iinc (q := 4) (v := (v3 + 1)) (ls' := [(3, .int (v3 + 1)), (4, .int r3), (0, .ref (G.ad 0 0)), (1, .int v1), (2, .int v2)]) dX8_old_78 rfl rfl (Nat.le_of_ble_eq_true rfl) rfl ?_
          refine E_goto (t := 33) dX8_old_81 rfl ?_
          exact E_sub [2, 3, 4, 0] rfl (ih v2 (v3 + 1) h)
        · refine E_iinc (q := 3) (v := (v2 + 1)) (ls' := [(2, .int (v2 + 1)), (4, .int r3), (0, .ref (G.ad 0 0)), (1, .int v1), (3, .int v3)]) dX8_old_75 rfl rfl (Nat.le_of_ble_eq_true rfl) rfl ?_
          refine E_iinc (q := 4) (v := (v3 + 1)) (ls' := [(3, .int (v3 + 1)), (2, .int (v2 + 1)), (4, .int r3), (0, .ref (G.ad 0 0)), (1, .int v1)]) dX8_old_78 rfl rfl (Nat.le_of_ble_eq_true rfl) rfl ?_
          refine E_goto (t := 33) dX8_old_81 rfl ?_
          exact E_sub [3, 4, 1, 0] rfl (ih (v2 + 1) (v3 + 1) h)
def jX_old (h : AH) (v1 : Int32) : Option (Int32 × AH) :=
  (jB_isTold h ((gB h 0).toNat)).bind fun r1 =>
  if r1 = 0 then ((jX_refuse h 1).bind fun q4 =>
  some (q4.1, q4.2))
  else ((jX_isYear v1).bind fun r2 =>
  if r2 = 0 then ((jX_refuse h 2).bind fun q3 =>
  some (q3.1, q3.2))
  else ((jX_old_33 v1 FU 0 0 h)))
set_option maxRecDepth 20000 in
set_option maxHeartbeats 2000000 in
theorem sX_old (G : JG) (h : AH) (v1 : Int32) : Mt G iX_old rvIM [.ref (G.ad 0 0), .int v1] h (jX_old h v1) := by
  refine Mt_of (by decide) (Nat.le_of_ble_eq_true rfl) ?_
  unfold jX_old
  show Sim G iX_old rvIM 0 [(0, .ref (G.ad 0 0)), (1, .int v1)] [] h _
  refine E_aload_n dX8_old_0 rfl 0 rfl ?_
  refine E_getD fl_X8_23 dX8_old_1 z0 ?_
  refine E_cVI (As := []) (rest := []) (sB_isTold G h ((gB h 0).toNat) (tB3 _)) ck_X0_isTold lk_X8_133 rfl rfl kc_3 (tB3 _) rfl rfl rfl dX8_old_4 (fun r1 _ => ?_)
  refine E_if_ne (t := 16) dX8_old_7 rfl ?_ ?_
  · refine E_iload_n dX8_old_16 rfl 1 rfl ?_
    refine E_cSI (As := [.int v1]) (rest := []) (sX_isYear G h v1) ck_X8_isYear lk_X8_107 rfl rfl rfl rfl rfl dX8_old_17 (fun r2 _ => ?_)
    refine E_if_ne (t := 29) dX8_old_20 rfl ?_ ?_
    · refine E_iconst (v := 0) dX8_old_29 rfl ?_
      refine E_istore_n (ls' := [(2, .int 0), (0, .ref (G.ad 0 0)), (1, .int v1)]) dX8_old_30 rfl (Nat.le_of_ble_eq_true rfl) rfl ?_
      refine E_iconst (v := 0) dX8_old_31 rfl ?_
      refine E_istore_n (ls' := [(3, .int 0), (2, .int 0), (0, .ref (G.ad 0 0)), (1, .int v1)]) dX8_old_32 rfl (Nat.le_of_ble_eq_true rfl) rfl ?_
      exact E_sub [2, 3, 1, 0] rfl (sX_old_33 G v1 FU 0 0 h)
    · refine E_aload_n dX8_old_23 rfl 0 rfl ?_
      refine E_iconst (v := 2) dX8_old_24 rfl ?_
      refine E_cVIM (As := [.int 2]) (rest := []) (sX_refuse G h 2) ck_X8_refuse lk_X8_67 rfl rfl kc_0 z0 rfl rfl rfl dX8_old_25 (fun q3 _ => ?_)
      exact E_iret rfl rfl dX8_old_28
  · refine E_aload_n dX8_old_10 rfl 0 rfl ?_
    refine E_iconst (v := 1) dX8_old_11 rfl ?_
    refine E_cVIM (As := [.int 1]) (rest := []) (sX_refuse G h 1) ck_X8_refuse lk_X8_67 rfl rfl kc_0 z0 rfl rfl rfl dX8_old_12 (fun q4 _ => ?_)
    exact E_iret rfl rfl dX8_old_15
def iX_orders : MI := (yX8_orders, cX8_orders, 1, (some .long), { frames := 3, cells := 0, slots := 0, locals := 69 }, 0)
theorem ck_X8_orders : CK iX_orders 0 := ⟨⟨wd_105, wd_905, by decide +kernel⟩, ⟨wd_903, wd_904⟩⟩
def jX_orders (h : AH)  : Option (Int64 × AH) :=
  (jB_isTold h ((gB h 0).toNat)).bind fun r1 =>
  if r1 = 0 then ((jX_refuse h 1).bind fun q5 =>
  some (q5.1.toInt64, q5.2))
  else ((jO_learn h ((gB h 1).toNat)).bind fun h2 =>
  jb (uI h2 0 0 10 0) fun h3 =>
  (jO_countAll h3 (-1) (-1)).bind fun q4 =>
  some (q4.1, q4.2))
set_option maxRecDepth 20000 in
set_option maxHeartbeats 2000000 in
theorem sX_orders (G : JG) (h : AH)  : Mt G iX_orders rvLM [.ref (G.ad 0 0)] h (jX_orders h) := by
  refine Mt_of (by decide) (Nat.le_of_ble_eq_true rfl) ?_
  unfold jX_orders
  show Sim G iX_orders rvLM 0 [(0, .ref (G.ad 0 0))] [] h _
  refine E_aload_n dX8_orders_0 rfl 0 rfl ?_
  refine E_getD fl_X8_23 dX8_orders_1 z0 ?_
  refine E_cVI (As := []) (rest := []) (sB_isTold G h ((gB h 0).toNat) (tB3 _)) ck_X0_isTold lk_X8_133 rfl rfl kc_3 (tB3 _) rfl rfl rfl dX8_orders_4 (fun r1 _ => ?_)
  refine E_if_ne (t := 17) dX8_orders_7 rfl ?_ ?_
  · refine E_aload_n dX8_orders_17 rfl 0 rfl ?_
    refine E_getF fl_X8_48 dX8_orders_18 z0 ?_
    refine E_aload_n dX8_orders_21 rfl 0 rfl ?_
    refine E_getD fl_X8_30 dX8_orders_22 z0 ?_
    refine E_cVV (As := [.ref (G.ad 13 ((gB h 1).toNat))]) (rest := []) (sO_learn G h ((gB h 1).toNat) (tB13 _)) ck_X2_learn lk_X8_175 rfl rfl kc_24 z24 rfl rfl rfl dX8_orders_25 (fun h2 _ => ?_)
    refine E_aload_n dX8_orders_28 rfl 0 rfl ?_
    refine E_iconst (v := 0) dX8_orders_29 rfl ?_
    refine E_putI fs_X8_87 dX8_orders_30 z0 ?_
    refine E_hgen (fun h3 => ?_)
    refine E_aload_n dX8_orders_33 rfl 0 rfl ?_
    refine E_getF fl_X8_48 dX8_orders_34 z0 ?_
    refine E_iconst (v := (-1)) dX8_orders_37 rfl ?_
    refine E_iconst (v := (-1)) dX8_orders_38 rfl ?_
    refine E_cVLM (As := [.int (-1), .int (-1)]) (rest := []) (sO_countAll G h3 (-1) (-1)) ck_X2_countAll lk_X8_185 rfl rfl kc_24 z24 rfl rfl rfl dX8_orders_39 (fun q4 _ => ?_)
    exact E_lret rfl rfl dX8_orders_42
  · refine E_aload_n dX8_orders_10 rfl 0 rfl ?_
    refine E_iconst (v := 1) dX8_orders_11 rfl ?_
    refine E_cVIM (As := [.int 1]) (rest := []) (sX_refuse G h 1) ck_X8_refuse lk_X8_67 rfl rfl kc_0 z0 rfl rfl rfl dX8_orders_12 (fun q5 _ => ?_)
    refine E_i2l dX8_orders_15 ?_
    exact E_lret rfl rfl dX8_orders_16
def iX_paint : MI := (yX8_paint, cX8_paint, 4, (some .int), { frames := 1, cells := 0, slots := 0, locals := 23 }, 0)
theorem ck_X8_paint : CK iX_paint 3 := ⟨⟨wd_105, wd_816, by decide +kernel⟩, ⟨wd_814, wd_815⟩⟩
def jX_paint (h : AH) (v1 : Int32) (v2 : Int32) (v3 : Int32) : Option (Int32 × AH) :=
  (jW_has h ((gB h 1).toNat) v1).bind fun r1 =>
  if r1 = 0 then ((jX_refuse h 1).bind fun q2 =>
  some (q2.1, q2.2))
  else ((jB_hasCell h ((gB h 0).toNat) v2 v3).bind fun r3 =>
  if r3 = 0 then ((jX_refuse h 1).bind fun q7 =>
  some (q7.1, q7.2))
  else ((jB_cellAt h ((gB h 0).toNat) v2 v3).bind fun r4 =>
  (jW_colourAt h ((gB h 1).toNat) v1 r4).bind fun r5 =>
  (jX_accept h r5).bind fun q6 =>
  some (q6.1, q6.2)))
set_option maxRecDepth 20000 in
set_option maxHeartbeats 2000000 in
theorem sX_paint (G : JG) (h : AH) (v1 : Int32) (v2 : Int32) (v3 : Int32) : Mt G iX_paint rvIM [.ref (G.ad 0 0), .int v1, .int v2, .int v3] h (jX_paint h v1 v2 v3) := by
  refine Mt_of (by decide) (Nat.le_of_ble_eq_true rfl) ?_
  unfold jX_paint
  show Sim G iX_paint rvIM 0 [(0, .ref (G.ad 0 0)), (1, .int v1), (2, .int v2), (3, .int v3)] [] h _
  refine E_aload_n dX8_paint_0 rfl 0 rfl ?_
  refine E_getD fl_X8_30 dX8_paint_1 z0 ?_
  refine E_iload_n dX8_paint_4 rfl 1 rfl ?_
  refine E_cVI (As := [.int v1]) (rest := []) (sW_has G h ((gB h 1).toNat) (tB13 _) v1) ck_X7_has lk_X8_143 rfl rfl kc_13 (tB13 _) rfl rfl rfl dX8_paint_5 (fun r1 _ => ?_)
  refine E_if_eq (t := 23) dX8_paint_8 rfl ?_ ?_
  · refine E_aload_n dX8_paint_23 rfl 0 rfl ?_
    refine E_iconst (v := 1) dX8_paint_24 rfl ?_
    refine E_cVIM (As := [.int 1]) (rest := []) (sX_refuse G h 1) ck_X8_refuse lk_X8_67 rfl rfl kc_0 z0 rfl rfl rfl dX8_paint_25 (fun q2 _ => ?_)
    exact E_iret rfl rfl dX8_paint_28
  · refine E_aload_n dX8_paint_11 rfl 0 rfl ?_
    refine E_getD fl_X8_23 dX8_paint_12 z0 ?_
    refine E_iload_n dX8_paint_15 rfl 2 rfl ?_
    refine E_iload_n dX8_paint_16 rfl 3 rfl ?_
    refine E_cVI (As := [.int v2, .int v3]) (rest := []) (sB_hasCell G h ((gB h 0).toNat) (tB3 _) v2 v3) ck_X0_hasCell lk_X8_93 rfl rfl kc_3 (tB3 _) rfl rfl rfl dX8_paint_17 (fun r3 _ => ?_)
    refine E_if_ne (t := 29) dX8_paint_20 rfl ?_ ?_
    · refine E_aload_n dX8_paint_29 rfl 0 rfl ?_
      refine E_aload_n dX8_paint_30 rfl 0 rfl ?_
      refine E_getD fl_X8_30 dX8_paint_31 z0 ?_
      refine E_iload_n dX8_paint_34 rfl 1 rfl ?_
      refine E_aload_n dX8_paint_35 rfl 0 rfl ?_
      refine E_getD fl_X8_23 dX8_paint_36 z0 ?_
      refine E_iload_n dX8_paint_39 rfl 2 rfl ?_
      refine E_iload_n dX8_paint_40 rfl 3 rfl ?_
      refine E_cVI (As := [.int v2, .int v3]) (rest := [.int v1, .ref (G.ad 13 ((gB h 1).toNat)), .ref (G.ad 0 0)]) (sB_cellAt G h ((gB h 0).toNat) (tB3 _) v2 v3) ck_X0_cellAt lk_X8_97 rfl rfl kc_3 (tB3 _) rfl rfl rfl dX8_paint_41 (fun r4 _ => ?_)
      refine E_cVI (As := [.int v1, .int r4]) (rest := [.ref (G.ad 0 0)]) (sW_colourAt G h ((gB h 1).toNat) (tB13 _) v1 r4) ck_X7_colourAt lk_X8_149 rfl rfl kc_13 (tB13 _) rfl rfl rfl dX8_paint_44 (fun r5 _ => ?_)
      refine E_cVIM (As := [.int r5]) (rest := []) (sX_accept G h r5) ck_X8_accept lk_X8_84 rfl rfl kc_0 z0 rfl rfl rfl dX8_paint_47 (fun q6 _ => ?_)
      exact E_iret rfl rfl dX8_paint_50
    · refine E_aload_n dX8_paint_23 rfl 0 rfl ?_
      refine E_iconst (v := 1) dX8_paint_24 rfl ?_
      refine E_cVIM (As := [.int 1]) (rest := []) (sX_refuse G h 1) ck_X8_refuse lk_X8_67 rfl rfl kc_0 z0 rfl rfl rfl dX8_paint_25 (fun q7 _ => ?_)
      exact E_iret rfl rfl dX8_paint_28
