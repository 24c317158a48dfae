/-! ===== the class, 8 ===== -/
def iX_whose : MI := (yX8_whose, cX8_whose, 3, (some .int), { frames := 3, cells := 0, slots := 0, locals := 68 }, 0)
theorem ck_X8_whose : CK iX_whose 2 := ⟨⟨wd_105, wd_686, by decide +kernel⟩, ⟨wd_684, wd_685⟩⟩
def jX_whose (h : AH) (v1 : Int32) (v2 : Int32) : Option (Int32 × AH) :=
  (jB_hasCell h ((gB h 0).toNat) v1 v2).bind fun r1 =>
  if r1 = 0 then ((jX_refuse h 1).bind fun q5 =>
  some (q5.1, q5.2))
  else ((jB_cellAt h ((gB h 0).toNat) v1 v2).bind fun r2 =>
  (jW_shownHandAt h ((gB h 1).toNat) r2).bind fun r3 =>
  (jX_accept h r3).bind fun q4 =>
  some (q4.1, q4.2))
set_option maxRecDepth 20000 in
set_option maxHeartbeats 2000000 in
theorem sX_whose (G : JG) (h : AH) (v1 : Int32) (v2 : Int32) : Mt G iX_whose rvIM [.ref (G.ad 0 0), .int v1, .int v2] h (jX_whose h v1 v2) := by
  refine Mt_of (by decide) (Nat.le_of_ble_eq_true rfl) ?_
  unfold jX_whose
  show Sim G iX_whose rvIM 0 [(0, .ref (G.ad 0 0)), (1, .int v1), (2, .int v2)] [] h _
  refine E_aload_n dX8_whose_0 rfl 0 rfl ?_
  refine E_getD fl_X8_23 dX8_whose_1 z0 ?_
  refine E_iload_n dX8_whose_4 rfl 1 rfl ?_
  refine E_iload_n dX8_whose_5 rfl 2 rfl ?_
  refine E_cVI (As := [.int v1, .int v2]) (rest := []) (sB_hasCell G h ((gB h 0).toNat) (tB3 _) v1 v2) ck_X0_hasCell lk_X8_93 rfl rfl kc_3 (tB3 _) rfl rfl rfl dX8_whose_6 (fun r1 _ => ?_)
  refine E_if_ne (t := 18) dX8_whose_9 rfl ?_ ?_
  · refine E_aload_n dX8_whose_18 rfl 0 rfl ?_
    refine E_aload_n dX8_whose_19 rfl 0 rfl ?_
    refine E_getD fl_X8_30 dX8_whose_20 z0 ?_
    refine E_aload_n dX8_whose_23 rfl 0 rfl ?_
    refine E_getD fl_X8_23 dX8_whose_24 z0 ?_
    refine E_iload_n dX8_whose_27 rfl 1 rfl ?_
    refine E_iload_n dX8_whose_28 rfl 2 rfl ?_
    refine E_cVI (As := [.int v1, .int v2]) (rest := [.ref (G.ad 13 ((gB h 1).toNat)), .ref (G.ad 0 0)]) (sB_cellAt G h ((gB h 0).toNat) (tB3 _) v1 v2) ck_X0_cellAt lk_X8_97 rfl rfl kc_3 (tB3 _) rfl rfl rfl dX8_whose_29 (fun r2 _ => ?_)
    refine E_cVI (As := [.int r2]) (rest := [.ref (G.ad 0 0)]) (sW_shownHandAt G h ((gB h 1).toNat) (tB13 _) r2) ck_X7_shownHandAt lk_X8_104 rfl rfl kc_13 (tB13 _) rfl rfl rfl dX8_whose_32 (fun r3 _ => ?_)
    refine E_cVIM (As := [.int r3]) (rest := []) (sX_accept G h r3) ck_X8_accept lk_X8_84 rfl rfl kc_0 z0 rfl rfl rfl dX8_whose_35 (fun q4 _ => ?_)
    exact E_iret rfl rfl dX8_whose_38
  · refine E_aload_n dX8_whose_12 rfl 0 rfl ?_
    refine E_iconst (v := 1) dX8_whose_13 rfl ?_
    refine E_cVIM (As := [.int 1]) (rest := []) (sX_refuse G h 1) ck_X8_refuse lk_X8_67 rfl rfl kc_0 z0 rfl rfl rfl dX8_whose_14 (fun q5 _ => ?_)
    exact E_iret rfl rfl dX8_whose_17
def iX_wipe : MI := (yX8_wipe, cX8_wipe, 1, (some .boolean), { frames := 3, cells := 0, slots := 0, locals := 82 }, 0)
theorem ck_X8_wipe : CK iX_wipe 0 := ⟨⟨wd_105, wd_1093, by decide +kernel⟩, ⟨wd_1091, wd_1092⟩⟩
def jX_wipe (h : AH)  : Option (Int32 × AH) :=
  if (gI h 13 ((gB h 1).toNat) 1) = 0 then ((jX_deny h 6).bind fun q4 =>
  if isZ q4.1 = true then some (q4.1, q4.2) else none)
  else ((jP_keep h ((gB h 1).toNat)).bind fun h1 =>
  jb (uI h1 13 ((gB h1 1).toNat) 1 0) fun h2 =>
  (jX_grant h2).bind fun q3 =>
  if isZ q3.1 = true then some (q3.1, q3.2) else none)
set_option maxRecDepth 20000 in
set_option maxHeartbeats 2000000 in
theorem sX_wipe (G : JG) (h : AH)  : Mt G iX_wipe rvIM [.ref (G.ad 0 0)] h (jX_wipe h) := by
  refine Mt_of (by decide) (Nat.le_of_ble_eq_true rfl) ?_
  unfold jX_wipe
  show Sim G iX_wipe rvIM 0 [(0, .ref (G.ad 0 0))] [] h _
  refine E_aload_n dX8_wipe_0 rfl 0 rfl ?_
  refine E_getD fl_X8_30 dX8_wipe_1 z0 ?_
  refine E_getI fl_X8_236 dX8_wipe_4 (tB13 _) ?_
  refine E_if_ne (t := 17) dX8_wipe_7 rfl ?_ ?_
  · refine E_aload_n dX8_wipe_17 rfl 0 rfl ?_
    refine E_getF fl_X8_37 dX8_wipe_18 z0 ?_
    refine E_aload_n dX8_wipe_21 rfl 0 rfl ?_
    refine E_getD fl_X8_30 dX8_wipe_22 z0 ?_
    refine E_cVV (As := [.ref (G.ad 13 ((gB h 1).toNat))]) (rest := []) (sP_keep G h ((gB h 1).toNat) (tB13 _)) ck_X3_keep lk_X8_240 rfl rfl kc_21 z21 rfl rfl rfl dX8_wipe_25 (fun h1 _ => ?_)
    refine E_aload_n dX8_wipe_28 rfl 0 rfl ?_
    refine E_getD fl_X8_30 dX8_wipe_29 z0 ?_
    refine E_iconst (v := 0) dX8_wipe_32 rfl ?_
    refine E_putZ fs_X8_236 (Or.inl rfl) dX8_wipe_33 (tB13 _) ?_
    refine E_hgen (fun h2 => ?_)
    refine E_aload_n dX8_wipe_36 rfl 0 rfl ?_
    refine E_cVIM (As := []) (rest := []) (sX_grant G h2) ck_X8_grant lk_X8_247 rfl rfl kc_0 z0 rfl rfl rfl dX8_wipe_37 (fun q3 _ => ?_)
    exact E_zretg rfl rfl dX8_wipe_40
  · refine E_aload_n dX8_wipe_10 rfl 0 rfl ?_
    refine E_bipush (v := 6) dX8_wipe_11 rfl ?_
    refine E_cVIM (As := [.int 6]) (rest := []) (sX_deny G h 6) ck_X8_deny lk_X8_230 rfl rfl kc_0 z0 rfl rfl rfl dX8_wipe_13 (fun q4 _ => ?_)
    exact E_zretg rfl rfl dX8_wipe_16
def iX_work : MI := (yX8_work, cX8_work, 3, (some .int), { frames := 4, cells := 0, slots := 0, locals := 94 }, 0)
theorem ck_X8_work : CK iX_work 2 := ⟨⟨wd_105, wd_776, by decide +kernel⟩, ⟨wd_774, wd_775⟩⟩
def jX_work (h : AH) (v1 : Int32) (v2 : Int32) : Option (Int32 × AH) :=
  (jW_has h ((gB h 1).toNat) v1).bind fun r1 =>
  if r1 = 0 then ((jX_refuse h 1).bind fun q2 =>
  some (q2.1, q2.2))
  else (if v2 < 0 then ((jX_refuse h 1).bind fun q3 =>
  some (q3.1, q3.2))
  else (if v2 ≤ 4 then ((jX_told h v1 v2).bind fun r4 =>
  (jX_accept h r4).bind fun q5 =>
  some (q5.1, q5.2))
  else ((jX_refuse h 1).bind fun q6 =>
  some (q6.1, q6.2))))
set_option maxRecDepth 20000 in
set_option maxHeartbeats 2000000 in
theorem sX_work (G : JG) (h : AH) (v1 : Int32) (v2 : Int32) : Mt G iX_work rvIM [.ref (G.ad 0 0), .int v1, .int v2] h (jX_work h v1 v2) := by
  refine Mt_of (by decide) (Nat.le_of_ble_eq_true rfl) ?_
  unfold jX_work
  show Sim G iX_work rvIM 0 [(0, .ref (G.ad 0 0)), (1, .int v1), (2, .int v2)] [] h _
  refine E_aload_n dX8_work_0 rfl 0 rfl ?_
  refine E_getD fl_X8_30 dX8_work_1 z0 ?_
  refine E_iload_n dX8_work_4 rfl 1 rfl ?_
  refine E_cVI (As := [.int v1]) (rest := []) (sW_has G h ((gB h 1).toNat) (tB13 _) v1) ck_X7_has lk_X8_143 rfl rfl kc_13 (tB13 _) rfl rfl rfl dX8_work_5 (fun r1 _ => ?_)
  refine E_if_eq (t := 20) dX8_work_8 rfl ?_ ?_
  · refine E_aload_n dX8_work_20 rfl 0 rfl ?_
    refine E_iconst (v := 1) dX8_work_21 rfl ?_
    refine E_cVIM (As := [.int 1]) (rest := []) (sX_refuse G h 1) ck_X8_refuse lk_X8_67 rfl rfl kc_0 z0 rfl rfl rfl dX8_work_22 (fun q2 _ => ?_)
    exact E_iret rfl rfl dX8_work_25
  · refine E_iload_n dX8_work_11 rfl 2 rfl ?_
    refine E_if_lt (t := 20) dX8_work_12 rfl ?_ ?_
    · refine E_aload_n dX8_work_20 rfl 0 rfl ?_
      refine E_iconst (v := 1) dX8_work_21 rfl ?_
      refine E_cVIM (As := [.int 1]) (rest := []) (sX_refuse G h 1) ck_X8_refuse lk_X8_67 rfl rfl kc_0 z0 rfl rfl rfl dX8_work_22 (fun q3 _ => ?_)
      exact E_iret rfl rfl dX8_work_25
    · refine E_iload_n dX8_work_15 rfl 2 rfl ?_
      refine E_iconst (v := 4) dX8_work_16 rfl ?_
      refine E_icmp_le (t := 26) dX8_work_17 rfl ?_ ?_
      · refine E_aload_n dX8_work_26 rfl 0 rfl ?_
        refine E_aload_n dX8_work_27 rfl 0 rfl ?_
        refine E_iload_n dX8_work_28 rfl 1 rfl ?_
        refine E_iload_n dX8_work_29 rfl 2 rfl ?_
        refine E_cVI (As := [.int v1, .int v2]) (rest := [.ref (G.ad 0 0)]) (sX_told G h v1 v2) ck_X8_told lk_X8_146 rfl rfl kc_0 z0 rfl rfl rfl dX8_work_30 (fun r4 _ => ?_)
        refine E_cVIM (As := [.int r4]) (rest := []) (sX_accept G h r4) ck_X8_accept lk_X8_84 rfl rfl kc_0 z0 rfl rfl rfl dX8_work_33 (fun q5 _ => ?_)
        exact E_iret rfl rfl dX8_work_36
      · refine E_aload_n dX8_work_20 rfl 0 rfl ?_
        refine E_iconst (v := 1) dX8_work_21 rfl ?_
        refine E_cVIM (As := [.int 1]) (rest := []) (sX_refuse G h 1) ck_X8_refuse lk_X8_67 rfl rfl kc_0 z0 rfl rfl rfl dX8_work_22 (fun q6 _ => ?_)
        exact E_iret rfl rfl dX8_work_25
