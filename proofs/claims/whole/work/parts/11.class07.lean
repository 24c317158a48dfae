/-! ===== the class, 7 ===== -/
def iX_patch : MI := (yX8_patch, cX8_patch, 6, (some .boolean), { frames := 3, cells := 0, slots := 0, locals := 82 }, 0)
theorem ck_X8_patch : CK iX_patch 5 := ⟨⟨wd_105, wd_1078, by decide +kernel⟩, ⟨wd_1076, wd_1077⟩⟩
def jX_patch (h : AH) (v1 : Int32) (v2 : Int32) (v3 : Int32) (v4 : Int32) (v5 : Int32) : Option (Int32 × AH) :=
  (jB_hasColour h ((gB h 0).toNat) v1).bind fun r1 =>
  if r1 = 0 then ((jX_deny h 1).bind fun q9 =>
  if isZ q9.1 = true then some (q9.1, q9.2) else none)
  else ((jB_hasPatch h ((gB h 0).toNat) v2 v3 v4 v5).bind fun r2 =>
  if r2 = 0 then ((jX_deny h 2).bind fun q8 =>
  if isZ q8.1 = true then some (q8.1, q8.2) else none)
  else (if (gI h 13 ((gB h 1).toNat) 1) = 0 then ((jX_deny h 6).bind fun q7 =>
  if isZ q7.1 = true then some (q7.1, q7.2) else none)
  else ((jP_keep h ((gB h 1).toNat)).bind fun h3 =>
  (jB_patchCells h3 ((gB h3 0).toNat) v2 v3 v4 v5).bind fun r4 =>
  (jW_lay h3 ((gB h3 1).toNat) (gI h3 13 ((gB h3 1).toNat) 0) v1 r4).bind fun h5 =>
  (jX_grant h5).bind fun q6 =>
  if isZ q6.1 = true then some (q6.1, q6.2) else none)))
set_option maxRecDepth 20000 in
set_option maxHeartbeats 2000000 in
theorem sX_patch (G : JG) (h : AH) (v1 : Int32) (v2 : Int32) (v3 : Int32) (v4 : Int32) (v5 : Int32) : Mt G iX_patch rvIM [.ref (G.ad 0 0), .int v1, .int v2, .int v3, .int v4, .int v5] h (jX_patch h v1 v2 v3 v4 v5) := by
  refine Mt_of (by decide) (Nat.le_of_ble_eq_true rfl) ?_
  unfold jX_patch
  show Sim G iX_patch rvIM 0 [(0, .ref (G.ad 0 0)), (1, .int v1), (2, .int v2), (3, .int v3), (4, .int v4), (5, .int v5)] [] h _
  refine E_aload_n dX8_patch_0 rfl 0 rfl ?_
  refine E_getD fl_X8_23 dX8_patch_1 z0 ?_
  refine E_iload_n dX8_patch_4 rfl 1 rfl ?_
  refine E_cVI (As := [.int v1]) (rest := []) (sB_hasColour G h ((gB h 0).toNat) (tB3 _) v1) ck_X0_hasColour lk_X8_123 rfl rfl kc_3 (tB3 _) rfl rfl rfl dX8_patch_5 (fun r1 _ => ?_)
  refine E_if_ne (t := 17) dX8_patch_8 rfl ?_ ?_
  · refine E_aload_n dX8_patch_17 rfl 0 rfl ?_
    refine E_getD fl_X8_23 dX8_patch_18 z0 ?_
    refine E_iload_n dX8_patch_21 rfl 2 rfl ?_
    refine E_iload_n dX8_patch_22 rfl 3 rfl ?_
    refine E_iload dX8_patch_23 4 rfl ?_
    refine E_iload dX8_patch_25 5 rfl ?_
    refine E_cVI (As := [.int v2, .int v3, .int v4, .int v5]) (rest := []) (sB_hasPatch G h ((gB h 0).toNat) (tB3 _) v2 v3 v4 v5) ck_X0_hasPatch lk_X8_250 rfl rfl kc_3 (tB3 _) rfl rfl rfl dX8_patch_27 (fun r2 _ => ?_)
    refine E_if_ne (t := 39) dX8_patch_30 rfl ?_ ?_
    · refine E_aload_n dX8_patch_39 rfl 0 rfl ?_
      refine E_getD fl_X8_30 dX8_patch_40 z0 ?_
      refine E_getI fl_X8_236 dX8_patch_43 (tB13 _) ?_
      refine E_if_ne (t := 56) dX8_patch_46 rfl ?_ ?_
      · refine E_aload_n dX8_patch_56 rfl 0 rfl ?_
        refine E_getF fl_X8_37 dX8_patch_57 z0 ?_
        refine E_aload_n dX8_patch_60 rfl 0 rfl ?_
        refine E_getD fl_X8_30 dX8_patch_61 z0 ?_
        refine E_cVV (As := [.ref (G.ad 13 ((gB h 1).toNat))]) (rest := []) (sP_keep G h ((gB h 1).toNat) (tB13 _)) ck_X3_keep lk_X8_240 rfl rfl kc_21 z21 rfl rfl rfl dX8_patch_64 (fun h3 _ => ?_)
        refine E_aload_n dX8_patch_67 rfl 0 rfl ?_
        refine E_getD fl_X8_30 dX8_patch_68 z0 ?_
        refine E_aload_n dX8_patch_71 rfl 0 rfl ?_
        refine E_getD fl_X8_30 dX8_patch_72 z0 ?_
        refine E_getI fl_X8_81 dX8_patch_75 (tB13 _) ?_
        refine E_iload_n dX8_patch_78 rfl 1 rfl ?_
        refine E_aload_n dX8_patch_79 rfl 0 rfl ?_
        refine E_getD fl_X8_23 dX8_patch_80 z0 ?_
        refine E_iload_n dX8_patch_83 rfl 2 rfl ?_
        refine E_iload_n dX8_patch_84 rfl 3 rfl ?_
        refine E_iload dX8_patch_85 4 rfl ?_
        refine E_iload dX8_patch_87 5 rfl ?_
        refine E_cVI (As := [.int v2, .int v3, .int v4, .int v5]) (rest := [.int v1, .int (gI h3 13 ((gB h3 1).toNat) 0), .ref (G.ad 13 ((gB h3 1).toNat))]) (sB_patchCells G h3 ((gB h3 0).toNat) (tB3 _) v2 v3 v4 v5) ck_X0_patchCells lk_X8_254 rfl rfl kc_3 (tB3 _) rfl rfl rfl dX8_patch_89 (fun r4 _ => ?_)
        refine E_cVV (As := [.int (gI h3 13 ((gB h3 1).toNat) 0), .int v1, .int r4]) (rest := []) (sW_lay G h3 ((gB h3 1).toNat) (tB13 _) (gI h3 13 ((gB h3 1).toNat) 0) v1 r4) ck_X7_lay lk_X8_258 rfl rfl kc_13 (tB13 _) rfl rfl rfl dX8_patch_92 (fun h5 _ => ?_)
        refine E_aload_n dX8_patch_95 rfl 0 rfl ?_
        refine E_cVIM (As := []) (rest := []) (sX_grant G h5) ck_X8_grant lk_X8_247 rfl rfl kc_0 z0 rfl rfl rfl dX8_patch_96 (fun q6 _ => ?_)
        exact E_zretg rfl rfl dX8_patch_99
      · refine E_aload_n dX8_patch_49 rfl 0 rfl ?_
        refine E_bipush (v := 6) dX8_patch_50 rfl ?_
        refine E_cVIM (As := [.int 6]) (rest := []) (sX_deny G h 6) ck_X8_deny lk_X8_230 rfl rfl kc_0 z0 rfl rfl rfl dX8_patch_52 (fun q7 _ => ?_)
        exact E_zretg rfl rfl dX8_patch_55
    · refine E_aload_n dX8_patch_33 rfl 0 rfl ?_
      refine E_iconst (v := 2) dX8_patch_34 rfl ?_
      refine E_cVIM (As := [.int 2]) (rest := []) (sX_deny G h 2) ck_X8_deny lk_X8_230 rfl rfl kc_0 z0 rfl rfl rfl dX8_patch_35 (fun q8 _ => ?_)
      exact E_zretg rfl rfl dX8_patch_38
  · refine E_aload_n dX8_patch_11 rfl 0 rfl ?_
    refine E_iconst (v := 1) dX8_patch_12 rfl ?_
    refine E_cVIM (As := [.int 1]) (rest := []) (sX_deny G h 1) ck_X8_deny lk_X8_230 rfl rfl kc_0 z0 rfl rfl rfl dX8_patch_13 (fun q9 _ => ?_)
    exact E_zretg rfl rfl dX8_patch_16
def iX_placed : MI := (yX8_placed, cX8_placed, 3, (some .int), { frames := 3, cells := 0, slots := 0, locals := 69 }, 0)
theorem ck_X8_placed : CK iX_placed 2 := ⟨⟨wd_105, wd_913, by decide +kernel⟩, ⟨wd_911, wd_912⟩⟩
def jX_placed (h : AH) (v1 : Int32) (v2 : Int32) : Option (Int32 × AH) :=
  (jW_has h ((gB h 1).toNat) v1).bind fun r1 =>
  if r1 = 0 then ((jX_refuse h 1).bind fun q7 =>
  some (q7.1, q7.2))
  else ((jO_learn h ((gB h 1).toNat)).bind fun h2 =>
  if v2 = 0 then ((jO_earliestPlace h2 v1).bind fun r3 =>
  (jX_accept h2 r3).bind fun q4 =>
  some (q4.1, q4.2))
  else ((jO_latestPlace h2 v1).bind fun r5 =>
  (jX_accept h2 r5).bind fun q6 =>
  some (q6.1, q6.2)))
set_option maxRecDepth 20000 in
set_option maxHeartbeats 2000000 in
theorem sX_placed (G : JG) (h : AH) (v1 : Int32) (v2 : Int32) : Mt G iX_placed rvIM [.ref (G.ad 0 0), .int v1, .int v2] h (jX_placed h v1 v2) := by
  refine Mt_of (by decide) (Nat.le_of_ble_eq_true rfl) ?_
  unfold jX_placed
  show Sim G iX_placed rvIM 0 [(0, .ref (G.ad 0 0)), (1, .int v1), (2, .int v2)] [] h _
  refine E_aload_n dX8_placed_0 rfl 0 rfl ?_
  refine E_getD fl_X8_30 dX8_placed_1 z0 ?_
  refine E_iload_n dX8_placed_4 rfl 1 rfl ?_
  refine E_cVI (As := [.int v1]) (rest := []) (sW_has G h ((gB h 1).toNat) (tB13 _) v1) ck_X7_has lk_X8_143 rfl rfl kc_13 (tB13 _) rfl rfl rfl dX8_placed_5 (fun r1 _ => ?_)
  refine E_if_ne (t := 17) dX8_placed_8 rfl ?_ ?_
  · refine E_aload_n dX8_placed_17 rfl 0 rfl ?_
    refine E_getF fl_X8_48 dX8_placed_18 z0 ?_
    refine E_aload_n dX8_placed_21 rfl 0 rfl ?_
    refine E_getD fl_X8_30 dX8_placed_22 z0 ?_
    refine E_cVV (As := [.ref (G.ad 13 ((gB h 1).toNat))]) (rest := []) (sO_learn G h ((gB h 1).toNat) (tB13 _)) ck_X2_learn lk_X8_175 rfl rfl kc_24 z24 rfl rfl rfl dX8_placed_25 (fun h2 _ => ?_)
    refine E_aload_n dX8_placed_28 rfl 0 rfl ?_
    refine E_iload_n dX8_placed_29 rfl 2 rfl ?_
    refine E_if_eq (t := 44) dX8_placed_30 rfl ?_ ?_
    · refine E_aload_n dX8_placed_44 rfl 0 rfl ?_
      refine E_getF fl_X8_48 dX8_placed_45 z0 ?_
      refine E_iload_n dX8_placed_48 rfl 1 rfl ?_
      refine E_cVI (As := [.int v1]) (rest := [.ref (G.ad 0 0)]) (sO_earliestPlace G h2 v1) ck_X2_earliestPlace lk_X8_192 rfl rfl kc_24 z24 rfl rfl rfl dX8_placed_49 (fun r3 _ => ?_)
      refine E_cVIM (As := [.int r3]) (rest := []) (sX_accept G h2 r3) ck_X8_accept lk_X8_84 rfl rfl kc_0 z0 rfl rfl rfl dX8_placed_52 (fun q4 _ => ?_)
      exact E_iret rfl rfl dX8_placed_55
    · refine E_aload_n dX8_placed_33 rfl 0 rfl ?_
      refine E_getF fl_X8_48 dX8_placed_34 z0 ?_
      refine E_iload_n dX8_placed_37 rfl 1 rfl ?_
      refine E_cVI (As := [.int v1]) (rest := [.ref (G.ad 0 0)]) (sO_latestPlace G h2 v1) ck_X2_latestPlace lk_X8_189 rfl rfl kc_24 z24 rfl rfl rfl dX8_placed_38 (fun r5 _ => ?_)
      refine E_goto (t := 52) dX8_placed_41 rfl ?_
      refine E_cVIM (As := [.int r5]) (rest := []) (sX_accept G h2 r5) ck_X8_accept lk_X8_84 rfl rfl kc_0 z0 rfl rfl rfl dX8_placed_52 (fun q6 _ => ?_)
      exact E_iret rfl rfl dX8_placed_55
  · refine E_aload_n dX8_placed_11 rfl 0 rfl ?_
    refine E_iconst (v := 1) dX8_placed_12 rfl ?_
    refine E_cVIM (As := [.int 1]) (rest := []) (sX_refuse G h 1) ck_X8_refuse lk_X8_67 rfl rfl kc_0 z0 rfl rfl rfl dX8_placed_13 (fun q7 _ => ?_)
    exact E_iret rfl rfl dX8_placed_16
def iX_reach : MI := (yX8_reach, cX8_reach, 2, (some .int), { frames := 6, cells := 0, slots := 0, locals := 142 }, 0)
theorem ck_X8_reach : CK iX_reach 1 := ⟨⟨wd_105, wd_1034, by decide +kernel⟩, ⟨wd_1032, wd_1033⟩⟩
def jX_reach (h : AH) (v1 : Int32) : Option (Int32 × AH) :=
  (jB_isTold h ((gB h 0).toNat)).bind fun r1 =>
  if r1 = 0 then ((jX_refuse h 1).bind fun q5 =>
  some (q5.1, q5.2))
  else ((jX_looksAhead h v1).bind fun q2 =>
  if q2.1 = 0 then (some ((-1), q2.2))
  else ((jQ_mostAlike q2.2).bind fun q3 =>
  (jX_accept q3.2 q3.1).bind fun q4 =>
  some (q4.1, q4.2)))
set_option maxRecDepth 20000 in
set_option maxHeartbeats 2000000 in
theorem sX_reach (G : JG) (h : AH) (v1 : Int32) : Mt G iX_reach rvIM [.ref (G.ad 0 0), .int v1] h (jX_reach h v1) := by
  refine Mt_of (by decide) (Nat.le_of_ble_eq_true rfl) ?_
  unfold jX_reach
  show Sim G iX_reach rvIM 0 [(0, .ref (G.ad 0 0)), (1, .int v1)] [] h _
  refine E_aload_n dX8_reach_0 rfl 0 rfl ?_
  refine E_getD fl_X8_23 dX8_reach_1 z0 ?_
  refine E_cVI (As := []) (rest := []) (sB_isTold G h ((gB h 0).toNat) (tB3 _)) ck_X0_isTold lk_X8_133 rfl rfl kc_3 (tB3 _) rfl rfl rfl dX8_reach_4 (fun r1 _ => ?_)
  refine E_if_ne (t := 16) dX8_reach_7 rfl ?_ ?_
  · refine E_aload_n dX8_reach_16 rfl 0 rfl ?_
    refine E_iload_n dX8_reach_17 rfl 1 rfl ?_
    refine E_cVIM (As := [.int v1]) (rest := []) (sX_looksAhead G h v1) ck_X8_looksAhead lk_X8_202 rfl rfl kc_0 z0 rfl rfl rfl dX8_reach_18 (fun q2 _ => ?_)
    refine E_if_ne (t := 26) dX8_reach_21 rfl ?_ ?_
    · refine E_aload_n dX8_reach_26 rfl 0 rfl ?_
      refine E_aload_n dX8_reach_27 rfl 0 rfl ?_
      refine E_getF fl_X8_55 dX8_reach_28 z0 ?_
      refine E_cVIM (As := []) (rest := [.ref (G.ad 0 0)]) (sQ_mostAlike G q2.2) ck_X4_mostAlike lk_X8_217 rfl rfl kc_28 z28 rfl rfl rfl dX8_reach_31 (fun q3 _ => ?_)
      refine E_cVIM (As := [.int q3.1]) (rest := []) (sX_accept G q3.2 q3.1) ck_X8_accept lk_X8_84 rfl rfl kc_0 z0 rfl rfl rfl dX8_reach_34 (fun q4 _ => ?_)
      exact E_iret rfl rfl dX8_reach_37
    · refine E_iconst (v := (-1)) dX8_reach_24 rfl ?_
      exact E_iret rfl rfl dX8_reach_25
  · refine E_aload_n dX8_reach_10 rfl 0 rfl ?_
    refine E_iconst (v := 1) dX8_reach_11 rfl ?_
    refine E_cVIM (As := [.int 1]) (rest := []) (sX_refuse G h 1) ck_X8_refuse lk_X8_67 rfl rfl kc_0 z0 rfl rfl rfl dX8_reach_12 (fun q5 _ => ?_)
    exact E_iret rfl rfl dX8_reach_15
def iX_relief : MI := (yX8_relief, cX8_relief, 3, (some .int), { frames := 3, cells := 0, slots := 0, locals := 67 }, 0)
theorem ck_X8_relief : CK iX_relief 2 := ⟨⟨wd_105, wd_732, by decide +kernel⟩, ⟨wd_730, wd_731⟩⟩
def jX_relief (h : AH) (v1 : Int32) (v2 : Int32) : Option (Int32 × AH) :=
  (jB_hasCell h ((gB h 0).toNat) v1 v2).bind fun r1 =>
  if r1 = 0 then ((jX_refuse h 1).bind fun q4 =>
  some (q4.1, q4.2))
  else ((jX_thickAt h v1 v2).bind fun r2 =>
  (jX_accept h r2).bind fun q3 =>
  some (q3.1, q3.2))
set_option maxRecDepth 20000 in
set_option maxHeartbeats 2000000 in
theorem sX_relief (G : JG) (h : AH) (v1 : Int32) (v2 : Int32) : Mt G iX_relief rvIM [.ref (G.ad 0 0), .int v1, .int v2] h (jX_relief h v1 v2) := by
  refine Mt_of (by decide) (Nat.le_of_ble_eq_true rfl) ?_
  unfold jX_relief
  show Sim G iX_relief rvIM 0 [(0, .ref (G.ad 0 0)), (1, .int v1), (2, .int v2)] [] h _
  refine E_aload_n dX8_relief_0 rfl 0 rfl ?_
  refine E_getD fl_X8_23 dX8_relief_1 z0 ?_
  refine E_iload_n dX8_relief_4 rfl 1 rfl ?_
  refine E_iload_n dX8_relief_5 rfl 2 rfl ?_
  refine E_cVI (As := [.int v1, .int v2]) (rest := []) (sB_hasCell G h ((gB h 0).toNat) (tB3 _) v1 v2) ck_X0_hasCell lk_X8_93 rfl rfl kc_3 (tB3 _) rfl rfl rfl dX8_relief_6 (fun r1 _ => ?_)
  refine E_if_ne (t := 18) dX8_relief_9 rfl ?_ ?_
  · refine E_aload_n dX8_relief_18 rfl 0 rfl ?_
    refine E_aload_n dX8_relief_19 rfl 0 rfl ?_
    refine E_iload_n dX8_relief_20 rfl 1 rfl ?_
    refine E_iload_n dX8_relief_21 rfl 2 rfl ?_
    refine E_cVI (As := [.int v1, .int v2]) (rest := [.ref (G.ad 0 0)]) (sX_thickAt G h v1 v2) ck_X8_thickAt lk_X8_120 rfl rfl kc_0 z0 rfl rfl rfl dX8_relief_22 (fun r2 _ => ?_)
    refine E_cVIM (As := [.int r2]) (rest := []) (sX_accept G h r2) ck_X8_accept lk_X8_84 rfl rfl kc_0 z0 rfl rfl rfl dX8_relief_25 (fun q3 _ => ?_)
    exact E_iret rfl rfl dX8_relief_28
  · refine E_aload_n dX8_relief_12 rfl 0 rfl ?_
    refine E_iconst (v := 1) dX8_relief_13 rfl ?_
    refine E_cVIM (As := [.int 1]) (rest := []) (sX_refuse G h 1) ck_X8_refuse lk_X8_67 rfl rfl kc_0 z0 rfl rfl rfl dX8_relief_14 (fun q4 _ => ?_)
    exact E_iret rfl rfl dX8_relief_17
def iX_scrape : MI := (yX8_scrape, cX8_scrape, 5, (some .boolean), { frames := 3, cells := 0, slots := 0, locals := 82 }, 0)
theorem ck_X8_scrape : CK iX_scrape 2 := ⟨⟨wd_105, wd_1105, by decide +kernel⟩, ⟨wd_1103, wd_1104⟩⟩
def jX_scrape (h : AH) (v1 : Int32) (v2 : Int32) : Option (Int32 × AH) :=
  (jB_hasCell h ((gB h 0).toNat) v1 v2).bind fun r1 =>
  if r1 = 0 then ((jX_deny h 1).bind fun q8 =>
  if isZ q8.1 = true then some (q8.1, q8.2) else none)
  else ((jB_cellAt h ((gB h 0).toNat) v1 v2).bind fun r2 =>
  (jW_below h ((gB h 1).toNat) r2 0).bind fun r3 =>
  if r3 = (-2) then ((jX_deny h 6).bind fun q7 =>
  if isZ q7.1 = true then some (q7.1, q7.2) else none)
  else ((jP_keep h ((gB h 1).toNat)).bind fun h4 =>
  (jW_lay h4 ((gB h4 1).toNat) r3 (-2) ((1 : Int32) <<< (r2 &&& 31))).bind fun h5 =>
  (jX_grant h5).bind fun q6 =>
  if isZ q6.1 = true then some (q6.1, q6.2) else none))
set_option maxRecDepth 20000 in
set_option maxHeartbeats 2000000 in
theorem sX_scrape (G : JG) (h : AH) (v1 : Int32) (v2 : Int32) : Mt G iX_scrape rvIM [.ref (G.ad 0 0), .int v1, .int v2] h (jX_scrape h v1 v2) := by
  refine Mt_of (by decide) (Nat.le_of_ble_eq_true rfl) ?_
  unfold jX_scrape
  show Sim G iX_scrape rvIM 0 [(0, .ref (G.ad 0 0)), (1, .int v1), (2, .int v2)] [] h _
  refine E_aload_n dX8_scrape_0 rfl 0 rfl ?_
  refine E_getD fl_X8_23 dX8_scrape_1 z0 ?_
  refine E_iload_n dX8_scrape_4 rfl 1 rfl ?_
  refine E_iload_n dX8_scrape_5 rfl 2 rfl ?_
  refine E_cVI (As := [.int v1, .int v2]) (rest := []) (sB_hasCell G h ((gB h 0).toNat) (tB3 _) v1 v2) ck_X0_hasCell lk_X8_93 rfl rfl kc_3 (tB3 _) rfl rfl rfl dX8_scrape_6 (fun r1 _ => ?_)
  refine E_if_ne (t := 18) dX8_scrape_9 rfl ?_ ?_
  · refine E_aload_n dX8_scrape_18 rfl 0 rfl ?_
    refine E_getD fl_X8_23 dX8_scrape_19 z0 ?_
    refine E_iload_n dX8_scrape_22 rfl 1 rfl ?_
    refine E_iload_n dX8_scrape_23 rfl 2 rfl ?_
    refine E_cVI (As := [.int v1, .int v2]) (rest := []) (sB_cellAt G h ((gB h 0).toNat) (tB3 _) v1 v2) ck_X0_cellAt lk_X8_97 rfl rfl kc_3 (tB3 _) rfl rfl rfl dX8_scrape_24 (fun r2 _ => ?_)
    refine E_istore_n (ls' := [(3, .int r2), (0, .ref (G.ad 0 0)), (1, .int v1), (2, .int v2)]) dX8_scrape_27 rfl (Nat.le_of_ble_eq_true rfl) rfl ?_
    refine E_aload_n dX8_scrape_28 rfl 1 rfl ?_
    refine E_getD fl_X8_30 dX8_scrape_29 z0 ?_
    refine E_iload_n dX8_scrape_32 rfl 0 rfl ?_
    refine E_iconst (v := 0) dX8_scrape_33 rfl ?_
    refine E_cVI (As := [.int r2, .int 0]) (rest := []) (sW_below G h ((gB h 1).toNat) (tB13 _) r2 0) ck_X7_below lk_X8_114 rfl rfl kc_13 (tB13 _) rfl rfl rfl dX8_scrape_34 (fun r3 _ => ?_)
    refine E_istore (ls' := [(4, .int r3), (3, .int r2), (0, .ref (G.ad 0 0)), (1, .int v1), (2, .int v2)]) dX8_scrape_37 (Nat.le_of_ble_eq_true rfl) rfl ?_
    refine E_iload dX8_scrape_39 0 rfl ?_
    refine E_bipush (v := (-2)) dX8_scrape_41 rfl ?_
    refine E_icmp_ne (t := 53) dX8_scrape_43 rfl ?_ ?_
    · refine E_aload_n dX8_scrape_53 rfl 2 rfl ?_
      refine E_getF fl_X8_37 dX8_scrape_54 z0 ?_
      refine E_aload_n dX8_scrape_57 rfl 2 rfl ?_
      refine E_getD fl_X8_30 dX8_scrape_58 z0 ?_
      refine E_cVV (As := [.ref (G.ad 13 ((gB h 1).toNat))]) (rest := []) (sP_keep G h ((gB h 1).toNat) (tB13 _)) ck_X3_keep lk_X8_240 rfl rfl kc_21 z21 rfl rfl rfl dX8_scrape_61 (fun h4 _ => ?_)
      refine E_aload_n dX8_scrape_64 rfl 2 rfl ?_
      refine E_getD fl_X8_30 dX8_scrape_65 z0 ?_
      refine E_iload dX8_scrape_68 0 rfl ?_
      refine E_bipush (v := (-2)) dX8_scrape_70 rfl ?_
      refine E_iconst (v := 1) dX8_scrape_72 rfl ?_
      refine E_iload_n dX8_scrape_73 rfl 1 rfl ?_
      refine E_ishl dX8_scrape_74 ?_
      refine E_cVV (As := [.int r3, .int (-2), .int ((1 : Int32) <<< (r2 &&& 31))]) (rest := []) (sW_lay G h4 ((gB h4 1).toNat) (tB13 _) r3 (-2) ((1 : Int32) <<< (r2 &&& 31))) ck_X7_lay lk_X8_258 rfl rfl kc_13 (tB13 _) rfl rfl rfl dX8_scrape_75 (fun h5 _ => ?_)
      refine E_aload_n dX8_scrape_78 rfl 2 rfl ?_
      refine E_cVIM (As := []) (rest := []) (sX_grant G h5) ck_X8_grant lk_X8_247 rfl rfl kc_0 z0 rfl rfl rfl dX8_scrape_79 (fun q6 _ => ?_)
      exact E_zretg rfl rfl dX8_scrape_82
    · refine E_aload_n dX8_scrape_46 rfl 2 rfl ?_
      refine E_bipush (v := 6) dX8_scrape_47 rfl ?_
      refine E_cVIM (As := [.int 6]) (rest := []) (sX_deny G h 6) ck_X8_deny lk_X8_230 rfl rfl kc_0 z0 rfl rfl rfl dX8_scrape_49 (fun q7 _ => ?_)
      exact E_zretg rfl rfl dX8_scrape_52
  · refine E_aload_n dX8_scrape_12 rfl 0 rfl ?_
    refine E_iconst (v := 1) dX8_scrape_13 rfl ?_
    refine E_cVIM (As := [.int 1]) (rest := []) (sX_deny G h 1) ck_X8_deny lk_X8_230 rfl rfl kc_0 z0 rfl rfl rfl dX8_scrape_14 (fun q8 _ => ?_)
    exact E_zretg rfl rfl dX8_scrape_17
def iX_scraped : MI := (yX8_scraped, cX8_scraped, 4, (some .int), { frames := 2, cells := 0, slots := 0, locals := 47 }, 0)
theorem ck_X8_scraped : CK iX_scraped 3 := ⟨⟨wd_105, wd_719, by decide +kernel⟩, ⟨wd_717, wd_718⟩⟩
def jX_scraped (h : AH) (v1 : Int32) (v2 : Int32) (v3 : Int32) : Option (Int32 × AH) :=
  (jB_hasCell h ((gB h 0).toNat) v1 v2).bind fun r1 =>
  if r1 = 0 then ((jX_refuse h 1).bind fun q6 =>
  some (q6.1, q6.2))
  else (if 0 ≤ v3 then ((jB_cellAt h ((gB h 0).toNat) v1 v2).bind fun r2 =>
  (jW_below h ((gB h 1).toNat) r2 v3).bind fun r3 =>
  (jX_accept h r3).bind fun q4 =>
  some (q4.1, q4.2))
  else ((jX_refuse h 2).bind fun q5 =>
  some (q5.1, q5.2)))
set_option maxRecDepth 20000 in
set_option maxHeartbeats 2000000 in
theorem sX_scraped (G : JG) (h : AH) (v1 : Int32) (v2 : Int32) (v3 : Int32) : Mt G iX_scraped rvIM [.ref (G.ad 0 0), .int v1, .int v2, .int v3] h (jX_scraped h v1 v2 v3) := by
  refine Mt_of (by decide) (Nat.le_of_ble_eq_true rfl) ?_
  unfold jX_scraped
  show Sim G iX_scraped rvIM 0 [(0, .ref (G.ad 0 0)), (1, .int v1), (2, .int v2), (3, .int v3)] [] h _
  refine E_aload_n dX8_scraped_0 rfl 0 rfl ?_
  refine E_getD fl_X8_23 dX8_scraped_1 z0 ?_
  refine E_iload_n dX8_scraped_4 rfl 1 rfl ?_
  refine E_iload_n dX8_scraped_5 rfl 2 rfl ?_
  refine E_cVI (As := [.int v1, .int v2]) (rest := []) (sB_hasCell G h ((gB h 0).toNat) (tB3 _) v1 v2) ck_X0_hasCell lk_X8_93 rfl rfl kc_3 (tB3 _) rfl rfl rfl dX8_scraped_6 (fun r1 _ => ?_)
  refine E_if_ne (t := 18) dX8_scraped_9 rfl ?_ ?_
  · refine E_iload_n dX8_scraped_18 rfl 3 rfl ?_
    refine E_if_ge (t := 28) dX8_scraped_19 rfl ?_ ?_
    · refine E_aload_n dX8_scraped_28 rfl 0 rfl ?_
      refine E_aload_n dX8_scraped_29 rfl 0 rfl ?_
      refine E_getD fl_X8_30 dX8_scraped_30 z0 ?_
      refine E_aload_n dX8_scraped_33 rfl 0 rfl ?_
      refine E_getD fl_X8_23 dX8_scraped_34 z0 ?_
      refine E_iload_n dX8_scraped_37 rfl 1 rfl ?_
      refine E_iload_n dX8_scraped_38 rfl 2 rfl ?_
      refine E_cVI (As := [.int v1, .int v2]) (rest := [.ref (G.ad 13 ((gB h 1).toNat)), .ref (G.ad 0 0)]) (sB_cellAt G h ((gB h 0).toNat) (tB3 _) v1 v2) ck_X0_cellAt lk_X8_97 rfl rfl kc_3 (tB3 _) rfl rfl rfl dX8_scraped_39 (fun r2 _ => ?_)
      refine E_iload_n dX8_scraped_42 rfl 3 rfl ?_
      refine E_cVI (As := [.int r2, .int v3]) (rest := [.ref (G.ad 0 0)]) (sW_below G h ((gB h 1).toNat) (tB13 _) r2 v3) ck_X7_below lk_X8_114 rfl rfl kc_13 (tB13 _) rfl rfl rfl dX8_scraped_43 (fun r3 _ => ?_)
      refine E_cVIM (As := [.int r3]) (rest := []) (sX_accept G h r3) ck_X8_accept lk_X8_84 rfl rfl kc_0 z0 rfl rfl rfl dX8_scraped_46 (fun q4 _ => ?_)
      exact E_iret rfl rfl dX8_scraped_49
    · refine E_aload_n dX8_scraped_22 rfl 0 rfl ?_
      refine E_iconst (v := 2) dX8_scraped_23 rfl ?_
      refine E_cVIM (As := [.int 2]) (rest := []) (sX_refuse G h 2) ck_X8_refuse lk_X8_67 rfl rfl kc_0 z0 rfl rfl rfl dX8_scraped_24 (fun q5 _ => ?_)
      exact E_iret rfl rfl dX8_scraped_27
  · refine E_aload_n dX8_scraped_12 rfl 0 rfl ?_
    refine E_iconst (v := 1) dX8_scraped_13 rfl ?_
    refine E_cVIM (As := [.int 1]) (rest := []) (sX_refuse G h 1) ck_X8_refuse lk_X8_67 rfl rfl kc_0 z0 rfl rfl rfl dX8_scraped_14 (fun q6 _ => ?_)
    exact E_iret rfl rfl dX8_scraped_17
def iX_share : MI := (yX8_share, cX8_share, 4, (some .int), { frames := 3, cells := 0, slots := 0, locals := 68 }, 0)
theorem ck_X8_share : CK iX_share 1 := ⟨⟨wd_105, wd_754, by decide +kernel⟩, ⟨wd_752, wd_753⟩⟩
def jX_share_21 (v1 : Int32) : Nat → Int32 → Int32 → AH → Option (Int32 × AH)
  | 0, _, _, _ => none
  | n + 1, v2, v3, h =>
    (jB_cells h ((gB h 0).toNat)).bind fun r1 =>
    if v3 < r1 then ((jW_shownHandAt h ((gB h 1).toNat) v3).bind fun r3 =>
    if r3 = v1 then ((jX_share_21 v1 n (v2 + 1) (v3 + 1) h))
    else ((jX_share_21 v1 n v2 (v3 + 1) h)))
    else ((jX_accept h v2).bind fun q2 =>
    some (q2.1, q2.2))
set_option maxRecDepth 20000 in
set_option maxHeartbeats 2000000 in
theorem sX_share_21 (G : JG) (v1 : Int32)  : ∀ (n : Nat) (v2 : Int32) (v3 : Int32) (h : AH), Sim G iX_share rvIM 21 [(0, .ref (G.ad 0 0)), (1, .int v1), (2, .int v2), (3, .int v3)] [] h (jX_share_21 v1 n v2 v3 h) := by
  intro n
  induction n with
  | zero => intro v2 v3 h; exact E_none
  | succ n ih =>
    intro v2 v3 h
    rw [jX_share_21]
    refine E_iload_n dX8_share_21 rfl 3 rfl ?_
    refine E_aload_n dX8_share_22 rfl 0 rfl ?_
    refine E_getD fl_X8_23 dX8_share_23 z0 ?_
    refine E_cVI (As := []) (rest := [.int v3]) (sB_cells G h ((gB h 0).toNat) (tB3 _)) ck_X0_cells lk_X8_126 rfl rfl kc_3 (tB3 _) rfl rfl rfl dX8_share_26 (fun r1 _ => ?_)
    refine E_icmp_ge (t := 53) dX8_share_29 rfl ?_ ?_
    · refine E_aload_n dX8_share_53 rfl 0 rfl ?_
      refine E_iload_n dX8_share_54 rfl 2 rfl ?_
      refine E_cVIM (As := [.int v2]) (rest := []) (sX_accept G h v2) ck_X8_accept lk_X8_84 rfl rfl kc_0 z0 rfl rfl rfl dX8_share_55 (fun q2 _ => ?_)
      exact E_iret rfl rfl dX8_share_58
    · refine E_aload_n dX8_share_32 rfl 0 rfl ?_
      refine E_getD fl_X8_30 dX8_share_33 z0 ?_
      refine E_iload_n dX8_share_36 rfl 3 rfl ?_
      refine E_cVI (As := [.int v3]) (rest := []) (sW_shownHandAt G h ((gB h 1).toNat) (tB13 _) v3) ck_X7_shownHandAt lk_X8_104 rfl rfl kc_13 (tB13 _) rfl rfl rfl dX8_share_37 (fun r3 _ => ?_)
      refine E_iload_n dX8_share_40 rfl 1 rfl ?_
      refine E_icmp_ne (t := 47) dX8_share_41 rfl ?_ ?_
      · refine E_iinc (q := 3) (v := (v3 + 1)) (ls' := [(3, .int (v3 + 1)), (0, .ref (G.ad 0 0)), (1, .int v1), (2, .int v2)]) dX8_share_47 rfl rfl (Nat.le_of_ble_eq_true rfl) rfl ?_
        refine E_goto (t := 21) dX8_share_50 rfl ?_
        exact E_sub [1, 2, 3, 0] rfl (ih v2 (v3 + 1) h)
      · refine E_iinc (q := 2) (v := (v2 + 1)) (ls' := [(2, .int (v2 + 1)), (0, .ref (G.ad 0 0)), (1, .int v1), (3, .int v3)]) dX8_share_44 rfl rfl (Nat.le_of_ble_eq_true rfl) rfl ?_
        refine E_iinc (q := 3) (v := (v3 + 1)) (ls' := [(3, .int (v3 + 1)), (2, .int (v2 + 1)), (0, .ref (G.ad 0 0)), (1, .int v1)]) dX8_share_47 rfl rfl (Nat.le_of_ble_eq_true rfl) rfl ?_
        refine E_goto (t := 21) dX8_share_50 rfl ?_
        exact E_sub [2, 3, 1, 0] rfl (ih (v2 + 1) (v3 + 1) h)
def jX_share (h : AH) (v1 : Int32) : Option (Int32 × AH) :=
  (jB_hasHand h ((gB h 0).toNat) v1).bind fun r1 =>
  if r1 = 0 then ((jX_refuse h 1).bind fun q2 =>
  some (q2.1, q2.2))
  else ((jX_share_21 v1 FU 0 0 h))
set_option maxRecDepth 20000 in
set_option maxHeartbeats 2000000 in
theorem sX_share (G : JG) (h : AH) (v1 : Int32) : Mt G iX_share rvIM [.ref (G.ad 0 0), .int v1] h (jX_share h v1) := by
  refine Mt_of (by decide) (Nat.le_of_ble_eq_true rfl) ?_
  unfold jX_share
  show Sim G iX_share rvIM 0 [(0, .ref (G.ad 0 0)), (1, .int v1)] [] h _
  refine E_aload_n dX8_share_0 rfl 0 rfl ?_
  refine E_getD fl_X8_23 dX8_share_1 z0 ?_
  refine E_iload_n dX8_share_4 rfl 1 rfl ?_
  refine E_cVI (As := [.int v1]) (rest := []) (sB_hasHand G h ((gB h 0).toNat) (tB3 _) v1) ck_X0_hasHand lk_X8_130 rfl rfl kc_3 (tB3 _) rfl rfl rfl dX8_share_5 (fun r1 _ => ?_)
  refine E_if_ne (t := 17) dX8_share_8 rfl ?_ ?_
  · refine E_iconst (v := 0) dX8_share_17 rfl ?_
    refine E_istore_n (ls' := [(2, .int 0), (0, .ref (G.ad 0 0)), (1, .int v1)]) dX8_share_18 rfl (Nat.le_of_ble_eq_true rfl) rfl ?_
    refine E_iconst (v := 0) dX8_share_19 rfl ?_
    refine E_istore_n (ls' := [(3, .int 0), (2, .int 0), (0, .ref (G.ad 0 0)), (1, .int v1)]) dX8_share_20 rfl (Nat.le_of_ble_eq_true rfl) rfl ?_
    exact E_sub [2, 3, 1, 0] rfl (sX_share_21 G v1 FU 0 0 h)
  · refine E_aload_n dX8_share_11 rfl 0 rfl ?_
    refine E_iconst (v := 1) dX8_share_12 rfl ?_
    refine E_cVIM (As := [.int 1]) (rest := []) (sX_refuse G h 1) ck_X8_refuse lk_X8_67 rfl rfl kc_0 z0 rfl rfl rfl dX8_share_13 (fun q2 _ => ?_)
    exact E_iret rfl rfl dX8_share_16
def iX_shows : MI := (yX8_shows, cX8_shows, 3, (some .int), { frames := 3, cells := 0, slots := 0, locals := 68 }, 0)
theorem ck_X8_shows : CK iX_shows 2 := ⟨⟨wd_105, wd_665, by decide +kernel⟩, ⟨wd_663, wd_664⟩⟩
def jX_shows (h : AH) (v1 : Int32) (v2 : Int32) : Option (Int32 × AH) :=
  (jB_hasCell h ((gB h 0).toNat) v1 v2).bind fun r1 =>
  if r1 = 0 then ((jX_refuse h 1).bind fun q5 =>
  some (q5.1, q5.2))
  else ((jB_cellAt h ((gB h 0).toNat) v1 v2).bind fun r2 =>
  (jW_shownAt h ((gB h 1).toNat) r2).bind fun r3 =>
  (jX_accept h r3).bind fun q4 =>
  some (q4.1, q4.2))
set_option maxRecDepth 20000 in
set_option maxHeartbeats 2000000 in
theorem sX_shows (G : JG) (h : AH) (v1 : Int32) (v2 : Int32) : Mt G iX_shows rvIM [.ref (G.ad 0 0), .int v1, .int v2] h (jX_shows h v1 v2) := by
  refine Mt_of (by decide) (Nat.le_of_ble_eq_true rfl) ?_
  unfold jX_shows
  show Sim G iX_shows rvIM 0 [(0, .ref (G.ad 0 0)), (1, .int v1), (2, .int v2)] [] h _
  refine E_aload_n dX8_shows_0 rfl 0 rfl ?_
  refine E_getD fl_X8_23 dX8_shows_1 z0 ?_
  refine E_iload_n dX8_shows_4 rfl 1 rfl ?_
  refine E_iload_n dX8_shows_5 rfl 2 rfl ?_
  refine E_cVI (As := [.int v1, .int v2]) (rest := []) (sB_hasCell G h ((gB h 0).toNat) (tB3 _) v1 v2) ck_X0_hasCell lk_X8_93 rfl rfl kc_3 (tB3 _) rfl rfl rfl dX8_shows_6 (fun r1 _ => ?_)
  refine E_if_ne (t := 18) dX8_shows_9 rfl ?_ ?_
  · refine E_aload_n dX8_shows_18 rfl 0 rfl ?_
    refine E_aload_n dX8_shows_19 rfl 0 rfl ?_
    refine E_getD fl_X8_30 dX8_shows_20 z0 ?_
    refine E_aload_n dX8_shows_23 rfl 0 rfl ?_
    refine E_getD fl_X8_23 dX8_shows_24 z0 ?_
    refine E_iload_n dX8_shows_27 rfl 1 rfl ?_
    refine E_iload_n dX8_shows_28 rfl 2 rfl ?_
    refine E_cVI (As := [.int v1, .int v2]) (rest := [.ref (G.ad 13 ((gB h 1).toNat)), .ref (G.ad 0 0)]) (sB_cellAt G h ((gB h 0).toNat) (tB3 _) v1 v2) ck_X0_cellAt lk_X8_97 rfl rfl kc_3 (tB3 _) rfl rfl rfl dX8_shows_29 (fun r2 _ => ?_)
    refine E_cVI (As := [.int r2]) (rest := [.ref (G.ad 0 0)]) (sW_shownAt G h ((gB h 1).toNat) (tB13 _) r2) ck_X7_shownAt lk_X8_101 rfl rfl kc_13 (tB13 _) rfl rfl rfl dX8_shows_32 (fun r3 _ => ?_)
    refine E_cVIM (As := [.int r3]) (rest := []) (sX_accept G h r3) ck_X8_accept lk_X8_84 rfl rfl kc_0 z0 rfl rfl rfl dX8_shows_35 (fun q4 _ => ?_)
    exact E_iret rfl rfl dX8_shows_38
  · refine E_aload_n dX8_shows_12 rfl 0 rfl ?_
    refine E_iconst (v := 1) dX8_shows_13 rfl ?_
    refine E_cVIM (As := [.int 1]) (rest := []) (sX_refuse G h 1) ck_X8_refuse lk_X8_67 rfl rfl kc_0 z0 rfl rfl rfl dX8_shows_14 (fun q5 _ => ?_)
    exact E_iret rfl rfl dX8_shows_17
def iX_size : MI := (yX8_size, cX8_size, 2, (some .int), { frames := 3, cells := 0, slots := 0, locals := 63 }, 0)
theorem ck_X8_size : CK iX_size 1 := ⟨⟨wd_105, wd_1139, by decide +kernel⟩, ⟨wd_1137, wd_1138⟩⟩
def jX_size (h : AH) (v1 : Int32) : Option (Int32) :=
  if v1 = 0 then (some (gI h 3 ((gB h 0).toNat) 0))
  else if v1 = 1 then (some (gI h 3 ((gB h 0).toNat) 1))
  else if v1 = 2 then (some (gI h 3 ((gB h 0).toNat) 2))
  else if v1 = 3 then (some (gI h 3 ((gB h 0).toNat) 3))
  else if v1 = 4 then (some (gI h 3 ((gB h 0).toNat) 4))
  else if v1 = 5 then (some (gI h 3 ((gB h 0).toNat) 5))
  else if v1 = 6 then (some (gI h 13 ((gB h 1).toNat) 0))
  else if v1 = 7 then (some (gI h 3 ((gB h 0).toNat) 6))
  else if v1 = 8 then ((jB_wantedCells h ((gB h 0).toNat)).bind fun r1 =>
  (jJ_bitCount r1).bind fun r2 =>
  some r2)
  else if v1 = 9 then (if (gI h 13 ((gB h 1).toNat) 1) = 0 then (some 0)
  else (some 1))
  else if v1 = 10 then (some (gI h 21 0 0))
  else if v1 = 11 then (some (gI h 0 0 7))
  else if v1 = 12 then (some (gI h 0 0 1))
  else (some (-1))
set_option maxRecDepth 20000 in
set_option maxHeartbeats 2000000 in
theorem sX_size (G : JG) (h : AH) (v1 : Int32) : Mt G iX_size (rvI h) [.ref (G.ad 0 0), .int v1] h (jX_size h v1) := by
  refine Mt_of (by decide) (Nat.le_of_ble_eq_true rfl) ?_
  unfold jX_size
  show Sim G iX_size (rvI h) 0 [(0, .ref (G.ad 0 0)), (1, .int v1)] [] h _
  refine E_iload_n dX8_size_0 rfl 1 rfl ?_
  refine E_tsw (t := 177) [68, 76, 84, 92, 100, 108, 116, 124, 132, 143, 159, 167, 172] dX8_size_1 rfl rfl (by decide) (fun hx3 => ?_) (fun j hj hx3 => ?_)
  · rw [if_neg (show ¬ v1 = 0 from fun z => by rw [z] at hx3; revert hx3; decide)]
    rw [if_neg (show ¬ v1 = 1 from fun z => by rw [z] at hx3; revert hx3; decide)]
    rw [if_neg (show ¬ v1 = 2 from fun z => by rw [z] at hx3; revert hx3; decide)]
    rw [if_neg (show ¬ v1 = 3 from fun z => by rw [z] at hx3; revert hx3; decide)]
    rw [if_neg (show ¬ v1 = 4 from fun z => by rw [z] at hx3; revert hx3; decide)]
    rw [if_neg (show ¬ v1 = 5 from fun z => by rw [z] at hx3; revert hx3; decide)]
    rw [if_neg (show ¬ v1 = 6 from fun z => by rw [z] at hx3; revert hx3; decide)]
    rw [if_neg (show ¬ v1 = 7 from fun z => by rw [z] at hx3; revert hx3; decide)]
    rw [if_neg (show ¬ v1 = 8 from fun z => by rw [z] at hx3; revert hx3; decide)]
    rw [if_neg (show ¬ v1 = 9 from fun z => by rw [z] at hx3; revert hx3; decide)]
    rw [if_neg (show ¬ v1 = 10 from fun z => by rw [z] at hx3; revert hx3; decide)]
    rw [if_neg (show ¬ v1 = 11 from fun z => by rw [z] at hx3; revert hx3; decide)]
    rw [if_neg (show ¬ v1 = 12 from fun z => by rw [z] at hx3; revert hx3; decide)]
    refine E_iconst (v := (-1)) dX8_size_177 rfl ?_
    exact E_iret rfl rfl dX8_size_178
  · rcases j with _ | _ | _ | _ | _ | _ | _ | _ | _ | _ | _ | _ | _ | j
    · have ex : v1 = 0 := Int32.toInt_inj.mp (hx3.trans rfl)
      rw [if_pos ex]
      show Sim G iX_size (rvI h) 68 [(0, .ref (G.ad 0 0)), (1, .int v1)] [] h _
      refine E_aload_n dX8_size_68 rfl 0 rfl ?_
      refine E_getD fl_X8_23 dX8_size_69 z0 ?_
      refine E_getI fl_X8_287 dX8_size_72 (tB3 _) ?_
      exact E_iret rfl rfl dX8_size_75
    · have ex : v1 = 1 := Int32.toInt_inj.mp (hx3.trans rfl)
      rw [if_neg (show ¬ v1 = 0 from fun z => absurd (ex.symm.trans z) (by decide))]
      rw [if_pos ex]
      show Sim G iX_size (rvI h) 76 [(0, .ref (G.ad 0 0)), (1, .int v1)] [] h _
      refine E_aload_n dX8_size_76 rfl 0 rfl ?_
      refine E_getD fl_X8_23 dX8_size_77 z0 ?_
      refine E_getI fl_X8_290 dX8_size_80 (tB3 _) ?_
      exact E_iret rfl rfl dX8_size_83
    · have ex : v1 = 2 := Int32.toInt_inj.mp (hx3.trans rfl)
      rw [if_neg (show ¬ v1 = 0 from fun z => absurd (ex.symm.trans z) (by decide))]
      rw [if_neg (show ¬ v1 = 1 from fun z => absurd (ex.symm.trans z) (by decide))]
      rw [if_pos ex]
      show Sim G iX_size (rvI h) 84 [(0, .ref (G.ad 0 0)), (1, .int v1)] [] h _
      refine E_aload_n dX8_size_84 rfl 0 rfl ?_
      refine E_getD fl_X8_23 dX8_size_85 z0 ?_
      refine E_getI fl_X8_293 dX8_size_88 (tB3 _) ?_
      exact E_iret rfl rfl dX8_size_91
    · have ex : v1 = 3 := Int32.toInt_inj.mp (hx3.trans rfl)
      rw [if_neg (show ¬ v1 = 0 from fun z => absurd (ex.symm.trans z) (by decide))]
      rw [if_neg (show ¬ v1 = 1 from fun z => absurd (ex.symm.trans z) (by decide))]
      rw [if_neg (show ¬ v1 = 2 from fun z => absurd (ex.symm.trans z) (by decide))]
      rw [if_pos ex]
      show Sim G iX_size (rvI h) 92 [(0, .ref (G.ad 0 0)), (1, .int v1)] [] h _
      refine E_aload_n dX8_size_92 rfl 0 rfl ?_
      refine E_getD fl_X8_23 dX8_size_93 z0 ?_
      refine E_getI fl_X8_296 dX8_size_96 (tB3 _) ?_
      exact E_iret rfl rfl dX8_size_99
    · have ex : v1 = 4 := Int32.toInt_inj.mp (hx3.trans rfl)
      rw [if_neg (show ¬ v1 = 0 from fun z => absurd (ex.symm.trans z) (by decide))]
      rw [if_neg (show ¬ v1 = 1 from fun z => absurd (ex.symm.trans z) (by decide))]
      rw [if_neg (show ¬ v1 = 2 from fun z => absurd (ex.symm.trans z) (by decide))]
      rw [if_neg (show ¬ v1 = 3 from fun z => absurd (ex.symm.trans z) (by decide))]
      rw [if_pos ex]
      show Sim G iX_size (rvI h) 100 [(0, .ref (G.ad 0 0)), (1, .int v1)] [] h _
      refine E_aload_n dX8_size_100 rfl 0 rfl ?_
      refine E_getD fl_X8_23 dX8_size_101 z0 ?_
      refine E_getI fl_X8_299 dX8_size_104 (tB3 _) ?_
      exact E_iret rfl rfl dX8_size_107
    · have ex : v1 = 5 := Int32.toInt_inj.mp (hx3.trans rfl)
      rw [if_neg (show ¬ v1 = 0 from fun z => absurd (ex.symm.trans z) (by decide))]
      rw [if_neg (show ¬ v1 = 1 from fun z => absurd (ex.symm.trans z) (by decide))]
      rw [if_neg (show ¬ v1 = 2 from fun z => absurd (ex.symm.trans z) (by decide))]
      rw [if_neg (show ¬ v1 = 3 from fun z => absurd (ex.symm.trans z) (by decide))]
      rw [if_neg (show ¬ v1 = 4 from fun z => absurd (ex.symm.trans z) (by decide))]
      rw [if_pos ex]
      show Sim G iX_size (rvI h) 108 [(0, .ref (G.ad 0 0)), (1, .int v1)] [] h _
      refine E_aload_n dX8_size_108 rfl 0 rfl ?_
      refine E_getD fl_X8_23 dX8_size_109 z0 ?_
      refine E_getI fl_X8_302 dX8_size_112 (tB3 _) ?_
      exact E_iret rfl rfl dX8_size_115
    · have ex : v1 = 6 := Int32.toInt_inj.mp (hx3.trans rfl)
      rw [if_neg (show ¬ v1 = 0 from fun z => absurd (ex.symm.trans z) (by decide))]
      rw [if_neg (show ¬ v1 = 1 from fun z => absurd (ex.symm.trans z) (by decide))]
      rw [if_neg (show ¬ v1 = 2 from fun z => absurd (ex.symm.trans z) (by decide))]
      rw [if_neg (show ¬ v1 = 3 from fun z => absurd (ex.symm.trans z) (by decide))]
      rw [if_neg (show ¬ v1 = 4 from fun z => absurd (ex.symm.trans z) (by decide))]
      rw [if_neg (show ¬ v1 = 5 from fun z => absurd (ex.symm.trans z) (by decide))]
      rw [if_pos ex]
      show Sim G iX_size (rvI h) 116 [(0, .ref (G.ad 0 0)), (1, .int v1)] [] h _
      refine E_aload_n dX8_size_116 rfl 0 rfl ?_
      refine E_getD fl_X8_30 dX8_size_117 z0 ?_
      refine E_getI fl_X8_81 dX8_size_120 (tB13 _) ?_
      exact E_iret rfl rfl dX8_size_123
    · have ex : v1 = 7 := Int32.toInt_inj.mp (hx3.trans rfl)
      rw [if_neg (show ¬ v1 = 0 from fun z => absurd (ex.symm.trans z) (by decide))]
      rw [if_neg (show ¬ v1 = 1 from fun z => absurd (ex.symm.trans z) (by decide))]
      rw [if_neg (show ¬ v1 = 2 from fun z => absurd (ex.symm.trans z) (by decide))]
      rw [if_neg (show ¬ v1 = 3 from fun z => absurd (ex.symm.trans z) (by decide))]
      rw [if_neg (show ¬ v1 = 4 from fun z => absurd (ex.symm.trans z) (by decide))]
      rw [if_neg (show ¬ v1 = 5 from fun z => absurd (ex.symm.trans z) (by decide))]
      rw [if_neg (show ¬ v1 = 6 from fun z => absurd (ex.symm.trans z) (by decide))]
      rw [if_pos ex]
      show Sim G iX_size (rvI h) 124 [(0, .ref (G.ad 0 0)), (1, .int v1)] [] h _
      refine E_aload_n dX8_size_124 rfl 0 rfl ?_
      refine E_getD fl_X8_23 dX8_size_125 z0 ?_
      refine E_getI fl_X8_223 dX8_size_128 (tB3 _) ?_
      exact E_iret rfl rfl dX8_size_131
    · have ex : v1 = 8 := Int32.toInt_inj.mp (hx3.trans rfl)
      rw [if_neg (show ¬ v1 = 0 from fun z => absurd (ex.symm.trans z) (by decide))]
      rw [if_neg (show ¬ v1 = 1 from fun z => absurd (ex.symm.trans z) (by decide))]
      rw [if_neg (show ¬ v1 = 2 from fun z => absurd (ex.symm.trans z) (by decide))]
      rw [if_neg (show ¬ v1 = 3 from fun z => absurd (ex.symm.trans z) (by decide))]
      rw [if_neg (show ¬ v1 = 4 from fun z => absurd (ex.symm.trans z) (by decide))]
      rw [if_neg (show ¬ v1 = 5 from fun z => absurd (ex.symm.trans z) (by decide))]
      rw [if_neg (show ¬ v1 = 6 from fun z => absurd (ex.symm.trans z) (by decide))]
      rw [if_neg (show ¬ v1 = 7 from fun z => absurd (ex.symm.trans z) (by decide))]
      rw [if_pos ex]
      show Sim G iX_size (rvI h) 132 [(0, .ref (G.ad 0 0)), (1, .int v1)] [] h _
      refine E_aload_n dX8_size_132 rfl 0 rfl ?_
      refine E_getD fl_X8_23 dX8_size_133 z0 ?_
      refine E_cVI (As := []) (rest := []) (sB_wantedCells G h ((gB h 0).toNat) (tB3 _)) ck_X0_wantedCells lk_X8_305 rfl rfl kc_3 (tB3 _) rfl rfl rfl dX8_size_136 (fun r1 _ => ?_)
      refine E_cSI (As := [.int r1]) (rest := []) (sJ_bitCount G h r1) ck_J6_bitCount_0f7a4 lk_X8_167 rfl rfl rfl rfl rfl dX8_size_139 (fun r2 _ => ?_)
      exact E_iret rfl rfl dX8_size_142
    · have ex : v1 = 9 := Int32.toInt_inj.mp (hx3.trans rfl)
      rw [if_neg (show ¬ v1 = 0 from fun z => absurd (ex.symm.trans z) (by decide))]
      rw [if_neg (show ¬ v1 = 1 from fun z => absurd (ex.symm.trans z) (by decide))]
      rw [if_neg (show ¬ v1 = 2 from fun z => absurd (ex.symm.trans z) (by decide))]
      rw [if_neg (show ¬ v1 = 3 from fun z => absurd (ex.symm.trans z) (by decide))]
      rw [if_neg (show ¬ v1 = 4 from fun z => absurd (ex.symm.trans z) (by decide))]
      rw [if_neg (show ¬ v1 = 5 from fun z => absurd (ex.symm.trans z) (by decide))]
      rw [if_neg (show ¬ v1 = 6 from fun z => absurd (ex.symm.trans z) (by decide))]
      rw [if_neg (show ¬ v1 = 7 from fun z => absurd (ex.symm.trans z) (by decide))]
      rw [if_neg (show ¬ v1 = 8 from fun z => absurd (ex.symm.trans z) (by decide))]
      rw [if_pos ex]
      show Sim G iX_size (rvI h) 143 [(0, .ref (G.ad 0 0)), (1, .int v1)] [] h _
      refine E_aload_n dX8_size_143 rfl 0 rfl ?_
      refine E_getD fl_X8_30 dX8_size_144 z0 ?_
      refine E_getI fl_X8_236 dX8_size_147 (tB13 _) ?_
      refine E_if_eq (t := 157) dX8_size_150 rfl ?_ ?_
      · refine E_iconst (v := 0) dX8_size_157 rfl ?_
        exact E_iret rfl rfl dX8_size_158
      · refine E_iconst (v := 1) dX8_size_153 rfl ?_
        refine E_goto (t := 158) dX8_size_154 rfl ?_
        exact E_iret rfl rfl dX8_size_158
    · have ex : v1 = 10 := Int32.toInt_inj.mp (hx3.trans rfl)
      rw [if_neg (show ¬ v1 = 0 from fun z => absurd (ex.symm.trans z) (by decide))]
      rw [if_neg (show ¬ v1 = 1 from fun z => absurd (ex.symm.trans z) (by decide))]
      rw [if_neg (show ¬ v1 = 2 from fun z => absurd (ex.symm.trans z) (by decide))]
      rw [if_neg (show ¬ v1 = 3 from fun z => absurd (ex.symm.trans z) (by decide))]
      rw [if_neg (show ¬ v1 = 4 from fun z => absurd (ex.symm.trans z) (by decide))]
      rw [if_neg (show ¬ v1 = 5 from fun z => absurd (ex.symm.trans z) (by decide))]
      rw [if_neg (show ¬ v1 = 6 from fun z => absurd (ex.symm.trans z) (by decide))]
      rw [if_neg (show ¬ v1 = 7 from fun z => absurd (ex.symm.trans z) (by decide))]
      rw [if_neg (show ¬ v1 = 8 from fun z => absurd (ex.symm.trans z) (by decide))]
      rw [if_neg (show ¬ v1 = 9 from fun z => absurd (ex.symm.trans z) (by decide))]
      rw [if_pos ex]
      show Sim G iX_size (rvI h) 159 [(0, .ref (G.ad 0 0)), (1, .int v1)] [] h _
      refine E_aload_n dX8_size_159 rfl 0 rfl ?_
      refine E_getF fl_X8_37 dX8_size_160 z0 ?_
      refine E_getI fl_X8_308 dX8_size_163 z21 ?_
      exact E_iret rfl rfl dX8_size_166
    · have ex : v1 = 11 := Int32.toInt_inj.mp (hx3.trans rfl)
      rw [if_neg (show ¬ v1 = 0 from fun z => absurd (ex.symm.trans z) (by decide))]
      rw [if_neg (show ¬ v1 = 1 from fun z => absurd (ex.symm.trans z) (by decide))]
      rw [if_neg (show ¬ v1 = 2 from fun z => absurd (ex.symm.trans z) (by decide))]
      rw [if_neg (show ¬ v1 = 3 from fun z => absurd (ex.symm.trans z) (by decide))]
      rw [if_neg (show ¬ v1 = 4 from fun z => absurd (ex.symm.trans z) (by decide))]
      rw [if_neg (show ¬ v1 = 5 from fun z => absurd (ex.symm.trans z) (by decide))]
      rw [if_neg (show ¬ v1 = 6 from fun z => absurd (ex.symm.trans z) (by decide))]
      rw [if_neg (show ¬ v1 = 7 from fun z => absurd (ex.symm.trans z) (by decide))]
      rw [if_neg (show ¬ v1 = 8 from fun z => absurd (ex.symm.trans z) (by decide))]
      rw [if_neg (show ¬ v1 = 9 from fun z => absurd (ex.symm.trans z) (by decide))]
      rw [if_neg (show ¬ v1 = 10 from fun z => absurd (ex.symm.trans z) (by decide))]
      rw [if_pos ex]
      show Sim G iX_size (rvI h) 167 [(0, .ref (G.ad 0 0)), (1, .int v1)] [] h _
      refine E_aload_n dX8_size_167 rfl 0 rfl ?_
      refine E_getI fl_X8_272 dX8_size_168 z0 ?_
      exact E_iret rfl rfl dX8_size_171
    · have ex : v1 = 12 := Int32.toInt_inj.mp (hx3.trans rfl)
      rw [if_neg (show ¬ v1 = 0 from fun z => absurd (ex.symm.trans z) (by decide))]
      rw [if_neg (show ¬ v1 = 1 from fun z => absurd (ex.symm.trans z) (by decide))]
      rw [if_neg (show ¬ v1 = 2 from fun z => absurd (ex.symm.trans z) (by decide))]
      rw [if_neg (show ¬ v1 = 3 from fun z => absurd (ex.symm.trans z) (by decide))]
      rw [if_neg (show ¬ v1 = 4 from fun z => absurd (ex.symm.trans z) (by decide))]
      rw [if_neg (show ¬ v1 = 5 from fun z => absurd (ex.symm.trans z) (by decide))]
      rw [if_neg (show ¬ v1 = 6 from fun z => absurd (ex.symm.trans z) (by decide))]
      rw [if_neg (show ¬ v1 = 7 from fun z => absurd (ex.symm.trans z) (by decide))]
      rw [if_neg (show ¬ v1 = 8 from fun z => absurd (ex.symm.trans z) (by decide))]
      rw [if_neg (show ¬ v1 = 9 from fun z => absurd (ex.symm.trans z) (by decide))]
      rw [if_neg (show ¬ v1 = 10 from fun z => absurd (ex.symm.trans z) (by decide))]
      rw [if_neg (show ¬ v1 = 11 from fun z => absurd (ex.symm.trans z) (by decide))]
      rw [if_pos ex]
      show Sim G iX_size (rvI h) 172 [(0, .ref (G.ad 0 0)), (1, .int v1)] [] h _
      refine E_aload_n dX8_size_172 rfl 0 rfl ?_
      refine E_getI fl_X8_59 dX8_size_173 z0 ?_
      exact E_iret rfl rfl dX8_size_176
    · exact absurd hj (by show ¬ (j + 13 < 13); omega)
def iX_step : MI := (yX8_step, cX8_step, 4, (some .int), { frames := 6, cells := 0, slots := 0, locals := 142 }, 0)
theorem ck_X8_step : CK iX_step 2 := ⟨⟨wd_105, wd_1022, by decide +kernel⟩, ⟨wd_1020, wd_1021⟩⟩
def jX_step (h : AH) (v1 : Int32) (v2 : Int32) : Option (Int32 × AH) :=
  (jB_isTold h ((gB h 0).toNat)).bind fun r1 =>
  if r1 = 0 then ((jX_refuse h 1).bind fun q2 =>
  some (q2.1, q2.2))
  else (if 0 ≤ v2 then ((jX_looksAhead h v1).bind fun q3 =>
  if q3.1 = 0 then (some ((-1), q3.2))
  else ((jQ_fewestWorks q3.2).bind fun q4 =>
  if 0 ≤ q4.1 then (if v2 < q4.1 then ((jQ_stepCells q4.2 v2).bind fun r5 =>
  (jX_accept q4.2 r5).bind fun q6 =>
  some (q6.1, q6.2))
  else ((jX_refuse q4.2 1).bind fun q7 =>
  some (q7.1, q7.2)))
  else ((jX_refuse q4.2 6).bind fun q8 =>
  some (q8.1, q8.2))))
  else ((jX_refuse h 1).bind fun q9 =>
  some (q9.1, q9.2)))
set_option maxRecDepth 20000 in
set_option maxHeartbeats 2000000 in
theorem sX_step (G : JG) (h : AH) (v1 : Int32) (v2 : Int32) : Mt G iX_step rvIM [.ref (G.ad 0 0), .int v1, .int v2] h (jX_step h v1 v2) := by
  refine Mt_of (by decide) (Nat.le_of_ble_eq_true rfl) ?_
  unfold jX_step
  show Sim G iX_step rvIM 0 [(0, .ref (G.ad 0 0)), (1, .int v1), (2, .int v2)] [] h _
  refine E_aload_n dX8_step_0 rfl 0 rfl ?_
  refine E_getD fl_X8_23 dX8_step_1 z0 ?_
  refine E_cVI (As := []) (rest := []) (sB_isTold G h ((gB h 0).toNat) (tB3 _)) ck_X0_isTold lk_X8_133 rfl rfl kc_3 (tB3 _) rfl rfl rfl dX8_step_4 (fun r1 _ => ?_)
  refine E_if_eq (t := 14) dX8_step_7 rfl ?_ ?_
  · refine E_aload_n dX8_step_14 rfl 0 rfl ?_
    refine E_iconst (v := 1) dX8_step_15 rfl ?_
    refine E_cVIM (As := [.int 1]) (rest := []) (sX_refuse G h 1) ck_X8_refuse lk_X8_67 rfl rfl kc_0 z0 rfl rfl rfl dX8_step_16 (fun q2 _ => ?_)
    exact E_iret rfl rfl dX8_step_19
  · refine E_iload_n dX8_step_10 rfl 2 rfl ?_
    refine E_if_ge (t := 20) dX8_step_11 rfl ?_ ?_
    · refine E_aload_n dX8_step_20 rfl 0 rfl ?_
      refine E_iload_n dX8_step_21 rfl 1 rfl ?_
      refine E_cVIM (As := [.int v1]) (rest := []) (sX_looksAhead G h v1) ck_X8_looksAhead lk_X8_202 rfl rfl kc_0 z0 rfl rfl rfl dX8_step_22 (fun q3 _ => ?_)
      refine E_if_ne (t := 30) dX8_step_25 rfl ?_ ?_
      · refine E_aload_n dX8_step_30 rfl 0 rfl ?_
        refine E_getF fl_X8_55 dX8_step_31 z0 ?_
        refine E_cVIM (As := []) (rest := []) (sQ_fewestWorks G q3.2) ck_X4_fewestWorks lk_X8_211 rfl rfl kc_28 z28 rfl rfl rfl dX8_step_34 (fun q4 _ => ?_)
        refine E_istore_n (ls' := [(3, .int q4.1), (0, .ref (G.ad 0 0)), (1, .int v1), (2, .int v2)]) dX8_step_37 rfl (Nat.le_of_ble_eq_true rfl) rfl ?_
        refine E_iload_n dX8_step_38 rfl 0 rfl ?_
        refine E_if_ge (t := 49) dX8_step_39 rfl ?_ ?_
        · refine E_iload_n dX8_step_49 rfl 3 rfl ?_
          refine E_iload_n dX8_step_50 rfl 0 rfl ?_
          refine E_icmp_lt (t := 60) dX8_step_51 rfl ?_ ?_
          · refine E_aload_n dX8_step_60 rfl 1 rfl ?_
            refine E_aload_n dX8_step_61 rfl 1 rfl ?_
            refine E_getF fl_X8_55 dX8_step_62 z0 ?_
            refine E_iload_n dX8_step_65 rfl 3 rfl ?_
            refine E_cVI (As := [.int v2]) (rest := [.ref (G.ad 0 0)]) (sQ_stepCells G q4.2 v2) ck_X4_stepCells lk_X8_214 rfl rfl kc_28 z28 rfl rfl rfl dX8_step_66 (fun r5 _ => ?_)
            refine E_cVIM (As := [.int r5]) (rest := []) (sX_accept G q4.2 r5) ck_X8_accept lk_X8_84 rfl rfl kc_0 z0 rfl rfl rfl dX8_step_69 (fun q6 _ => ?_)
            exact E_iret rfl rfl dX8_step_72
          · refine E_aload_n dX8_step_54 rfl 1 rfl ?_
            refine E_iconst (v := 1) dX8_step_55 rfl ?_
            refine E_cVIM (As := [.int 1]) (rest := []) (sX_refuse G q4.2 1) ck_X8_refuse lk_X8_67 rfl rfl kc_0 z0 rfl rfl rfl dX8_step_56 (fun q7 _ => ?_)
            exact E_iret rfl rfl dX8_step_59
        · refine E_aload_n dX8_step_42 rfl 1 rfl ?_
          refine E_bipush (v := 6) dX8_step_43 rfl ?_
          refine E_cVIM (As := [.int 6]) (rest := []) (sX_refuse G q4.2 6) ck_X8_refuse lk_X8_67 rfl rfl kc_0 z0 rfl rfl rfl dX8_step_45 (fun q8 _ => ?_)
          exact E_iret rfl rfl dX8_step_48
      · refine E_iconst (v := (-1)) dX8_step_28 rfl ?_
        exact E_iret rfl rfl dX8_step_29
    · refine E_aload_n dX8_step_14 rfl 0 rfl ?_
      refine E_iconst (v := 1) dX8_step_15 rfl ?_
      refine E_cVIM (As := [.int 1]) (rest := []) (sX_refuse G h 1) ck_X8_refuse lk_X8_67 rfl rfl kc_0 z0 rfl rfl rfl dX8_step_16 (fun q9 _ => ?_)
      exact E_iret rfl rfl dX8_step_19
def iX_thief : MI := (yX8_thief, cX8_thief, 3, (some .int), { frames := 3, cells := 0, slots := 0, locals := 82 }, 0)
theorem ck_X8_thief : CK iX_thief 1 := ⟨⟨wd_105, wd_1109, by decide +kernel⟩, ⟨wd_1107, wd_1108⟩⟩
def jX_thief (h : AH) (v1 : Int32) : Option (Int32 × AH) :=
  (jB_isTold h ((gB h 0).toNat)).bind fun r1 =>
  if r1 = 0 then ((jX_refuse h 1).bind fun q10 =>
  some (q10.1, q10.2))
  else ((jX_isYear v1).bind fun r2 =>
  if r2 = 0 then ((jX_refuse h 2).bind fun q9 =>
  some (q9.1, q9.2))
  else ((jW_cellsLaterThan h ((gB h 1).toNat) v1).bind fun r3 =>
  if r3 = 0 then ((jX_refuse h 6).bind fun q8 =>
  some (q8.1, q8.2))
  else ((jP_keep h ((gB h 1).toNat)).bind fun h4 =>
  (jW_stripLaterThan h4 ((gB h4 1).toNat) v1).bind fun h5 =>
  (jJ_bitCount r3).bind fun r6 =>
  (jX_accept h5 r6).bind fun q7 =>
  some (q7.1, q7.2))))
set_option maxRecDepth 20000 in
set_option maxHeartbeats 2000000 in
theorem sX_thief (G : JG) (h : AH) (v1 : Int32) : Mt G iX_thief rvIM [.ref (G.ad 0 0), .int v1] h (jX_thief h v1) := by
  refine Mt_of (by decide) (Nat.le_of_ble_eq_true rfl) ?_
  unfold jX_thief
  show Sim G iX_thief rvIM 0 [(0, .ref (G.ad 0 0)), (1, .int v1)] [] h _
  refine E_aload_n dX8_thief_0 rfl 0 rfl ?_
  refine E_getD fl_X8_23 dX8_thief_1 z0 ?_
  refine E_cVI (As := []) (rest := []) (sB_isTold G h ((gB h 0).toNat) (tB3 _)) ck_X0_isTold lk_X8_133 rfl rfl kc_3 (tB3 _) rfl rfl rfl dX8_thief_4 (fun r1 _ => ?_)
  refine E_if_ne (t := 16) dX8_thief_7 rfl ?_ ?_
  · refine E_iload_n dX8_thief_16 rfl 1 rfl ?_
    refine E_cSI (As := [.int v1]) (rest := []) (sX_isYear G h v1) ck_X8_isYear lk_X8_107 rfl rfl rfl rfl rfl dX8_thief_17 (fun r2 _ => ?_)
    refine E_if_ne (t := 29) dX8_thief_20 rfl ?_ ?_
    · refine E_aload_n dX8_thief_29 rfl 0 rfl ?_
      refine E_getD fl_X8_30 dX8_thief_30 z0 ?_
      refine E_iload_n dX8_thief_33 rfl 1 rfl ?_
      refine E_cVI (As := [.int v1]) (rest := []) (sW_cellsLaterThan G h ((gB h 1).toNat) (tB13 _) v1) ck_X7_cellsLaterThan lk_X8_262 rfl rfl kc_13 (tB13 _) rfl rfl rfl dX8_thief_34 (fun r3 _ => ?_)
      refine E_istore_n (ls' := [(2, .int r3), (0, .ref (G.ad 0 0)), (1, .int v1)]) dX8_thief_37 rfl (Nat.le_of_ble_eq_true rfl) rfl ?_
      refine E_iload_n dX8_thief_38 rfl 0 rfl ?_
      refine E_if_ne (t := 49) dX8_thief_39 rfl ?_ ?_
      · refine E_aload_n dX8_thief_49 rfl 1 rfl ?_
        refine E_getF fl_X8_37 dX8_thief_50 z0 ?_
        refine E_aload_n dX8_thief_53 rfl 1 rfl ?_
        refine E_getD fl_X8_30 dX8_thief_54 z0 ?_
        refine E_cVV (As := [.ref (G.ad 13 ((gB h 1).toNat))]) (rest := []) (sP_keep G h ((gB h 1).toNat) (tB13 _)) ck_X3_keep lk_X8_240 rfl rfl kc_21 z21 rfl rfl rfl dX8_thief_57 (fun h4 _ => ?_)
        refine E_aload_n dX8_thief_60 rfl 1 rfl ?_
        refine E_getD fl_X8_30 dX8_thief_61 z0 ?_
        refine E_iload_n dX8_thief_64 rfl 2 rfl ?_
        refine E_cVV (As := [.int v1]) (rest := []) (sW_stripLaterThan G h4 ((gB h4 1).toNat) (tB13 _) v1) ck_X7_stripLaterThan lk_X8_265 rfl rfl kc_13 (tB13 _) rfl rfl rfl dX8_thief_65 (fun h5 _ => ?_)
        refine E_aload_n dX8_thief_68 rfl 1 rfl ?_
        refine E_iload_n dX8_thief_69 rfl 0 rfl ?_
        refine E_cSI (As := [.int r3]) (rest := [.ref (G.ad 0 0)]) (sJ_bitCount G h5 r3) ck_J6_bitCount_0f7a4 lk_X8_167 rfl rfl rfl rfl rfl dX8_thief_70 (fun r6 _ => ?_)
        refine E_cVIM (As := [.int r6]) (rest := []) (sX_accept G h5 r6) ck_X8_accept lk_X8_84 rfl rfl kc_0 z0 rfl rfl rfl dX8_thief_73 (fun q7 _ => ?_)
        exact E_iret rfl rfl dX8_thief_76
      · refine E_aload_n dX8_thief_42 rfl 1 rfl ?_
        refine E_bipush (v := 6) dX8_thief_43 rfl ?_
        refine E_cVIM (As := [.int 6]) (rest := []) (sX_refuse G h 6) ck_X8_refuse lk_X8_67 rfl rfl kc_0 z0 rfl rfl rfl dX8_thief_45 (fun q8 _ => ?_)
        exact E_iret rfl rfl dX8_thief_48
    · refine E_aload_n dX8_thief_23 rfl 0 rfl ?_
      refine E_iconst (v := 2) dX8_thief_24 rfl ?_
      refine E_cVIM (As := [.int 2]) (rest := []) (sX_refuse G h 2) ck_X8_refuse lk_X8_67 rfl rfl kc_0 z0 rfl rfl rfl dX8_thief_25 (fun q9 _ => ?_)
      exact E_iret rfl rfl dX8_thief_28
  · refine E_aload_n dX8_thief_10 rfl 0 rfl ?_
    refine E_iconst (v := 1) dX8_thief_11 rfl ?_
    refine E_cVIM (As := [.int 1]) (rest := []) (sX_refuse G h 1) ck_X8_refuse lk_X8_67 rfl rfl kc_0 z0 rfl rfl rfl dX8_thief_12 (fun q10 _ => ?_)
    exact E_iret rfl rfl dX8_thief_15
def iX_told : MI := (yX8_told, cX8_told, 4, (some .int), { frames := 3, cells := 0, slots := 0, locals := 71 }, 0)
theorem ck_X8_told : CK iX_told 2 := ⟨⟨wd_105, wd_784, by decide +kernel⟩, ⟨wd_783, wd_24⟩⟩
def jX_told (h : AH) (v1 : Int32) (v2 : Int32) : Option (Int32) :=
  (jW_cellsOf h ((gB h 1).toNat) v1).bind fun r1 =>
  if v2 = 0 then ((jW_handOf h ((gB h 1).toNat) v1).bind fun r2 =>
  some r2)
  else if v2 = 1 then ((jW_yearOf h ((gB h 1).toNat) v1).bind fun r3 =>
  some r3)
  else if v2 = 2 then ((jJ_bitCount r1).bind fun r4 =>
  some r4)
  else if v2 = 3 then ((jB_allCells h ((gB h 0).toNat)).bind fun r5 =>
  (jJ_bitCount (r5 &&& (r1 ^^^ (-1)))).bind fun r6 =>
  some r6)
  else ((jB_allCells h ((gB h 0).toNat)).bind fun r7 =>
  (jB_partsOf h ((gB h 0).toNat) (r7 &&& (r1 ^^^ (-1)))).bind fun r8 =>
  some r8)
set_option maxRecDepth 20000 in
set_option maxHeartbeats 2000000 in
theorem sX_told (G : JG) (h : AH) (v1 : Int32) (v2 : Int32) : Mt G iX_told (rvI h) [.ref (G.ad 0 0), .int v1, .int v2] h (jX_told h v1 v2) := by
  refine Mt_of (by decide) (Nat.le_of_ble_eq_true rfl) ?_
  unfold jX_told
  show Sim G iX_told (rvI h) 0 [(0, .ref (G.ad 0 0)), (1, .int v1), (2, .int v2)] [] h _
  refine E_aload_n dX8_told_0 rfl 0 rfl ?_
  refine E_getD fl_X8_30 dX8_told_1 z0 ?_
  refine E_iload_n dX8_told_4 rfl 1 rfl ?_
  refine E_cVI (As := [.int v1]) (rest := []) (sW_cellsOf G h ((gB h 1).toNat) (tB13 _) v1) ck_X7_cellsOf lk_X8_320 rfl rfl kc_13 (tB13 _) rfl rfl rfl dX8_told_5 (fun r1 _ => ?_)
  refine E_istore_n (ls' := [(3, .int r1), (0, .ref (G.ad 0 0)), (1, .int v1), (2, .int v2)]) dX8_told_8 rfl (Nat.le_of_ble_eq_true rfl) rfl ?_
  refine E_iload_n dX8_told_9 rfl 3 rfl ?_
  refine E_tsw (t := 78) [40, 49, 58, 63] dX8_told_10 rfl rfl (by decide) (fun hx9 => ?_) (fun j hj hx9 => ?_)
  · rw [if_neg (show ¬ v2 = 0 from fun z => by rw [z] at hx9; revert hx9; decide)]
    rw [if_neg (show ¬ v2 = 1 from fun z => by rw [z] at hx9; revert hx9; decide)]
    rw [if_neg (show ¬ v2 = 2 from fun z => by rw [z] at hx9; revert hx9; decide)]
    rw [if_neg (show ¬ v2 = 3 from fun z => by rw [z] at hx9; revert hx9; decide)]
    refine E_aload_n dX8_told_78 rfl 1 rfl ?_
    refine E_getD fl_X8_23 dX8_told_79 z0 ?_
    refine E_aload_n dX8_told_82 rfl 1 rfl ?_
    refine E_getD fl_X8_23 dX8_told_83 z0 ?_
    refine E_cVI (As := []) (rest := [.ref (G.ad 3 ((gB h 0).toNat))]) (sB_allCells G h ((gB h 0).toNat) (tB3 _)) ck_X0_allCells lk_X8_326 rfl rfl kc_3 (tB3 _) rfl rfl rfl dX8_told_86 (fun r7 _ => ?_)
    refine E_iload_n dX8_told_89 rfl 0 rfl ?_
    refine E_iconst (v := (-1)) dX8_told_90 rfl ?_
    refine E_ixor dX8_told_91 ?_
    refine E_iand dX8_told_92 ?_
    refine E_cVI (As := [.int (r7 &&& (r1 ^^^ (-1)))]) (rest := []) (sB_partsOf G h ((gB h 0).toNat) (tB3 _) (r7 &&& (r1 ^^^ (-1)))) ck_X0_partsOf lk_X8_329 rfl rfl kc_3 (tB3 _) rfl rfl rfl dX8_told_93 (fun r8 _ => ?_)
    exact E_iret rfl rfl dX8_told_96
  · rcases j with _ | _ | _ | _ | j
    · have ex : v2 = 0 := Int32.toInt_inj.mp (hx9.trans rfl)
      rw [if_pos ex]
      show Sim G iX_told (rvI h) 40 [(3, .int r1), (0, .ref (G.ad 0 0)), (1, .int v1), (2, .int v2)] [] h _
      refine E_aload_n dX8_told_40 rfl 1 rfl ?_
      refine E_getD fl_X8_30 dX8_told_41 z0 ?_
      refine E_iload_n dX8_told_44 rfl 2 rfl ?_
      refine E_cVI (As := [.int v1]) (rest := []) (sW_handOf G h ((gB h 1).toNat) (tB13 _) v1) ck_X7_handOf lk_X8_323 rfl rfl kc_13 (tB13 _) rfl rfl rfl dX8_told_45 (fun r2 _ => ?_)
      exact E_iret rfl rfl dX8_told_48
    · have ex : v2 = 1 := Int32.toInt_inj.mp (hx9.trans rfl)
      rw [if_neg (show ¬ v2 = 0 from fun z => absurd (ex.symm.trans z) (by decide))]
      rw [if_pos ex]
      show Sim G iX_told (rvI h) 49 [(3, .int r1), (0, .ref (G.ad 0 0)), (1, .int v1), (2, .int v2)] [] h _
      refine E_aload_n dX8_told_49 rfl 1 rfl ?_
      refine E_getD fl_X8_30 dX8_told_50 z0 ?_
      refine E_iload_n dX8_told_53 rfl 2 rfl ?_
      refine E_cVI (As := [.int v1]) (rest := []) (sW_yearOf G h ((gB h 1).toNat) (tB13 _) v1) ck_X7_yearOf lk_X8_137 rfl rfl kc_13 (tB13 _) rfl rfl rfl dX8_told_54 (fun r3 _ => ?_)
      exact E_iret rfl rfl dX8_told_57
    · have ex : v2 = 2 := Int32.toInt_inj.mp (hx9.trans rfl)
      rw [if_neg (show ¬ v2 = 0 from fun z => absurd (ex.symm.trans z) (by decide))]
      rw [if_neg (show ¬ v2 = 1 from fun z => absurd (ex.symm.trans z) (by decide))]
      rw [if_pos ex]
      show Sim G iX_told (rvI h) 58 [(3, .int r1), (0, .ref (G.ad 0 0)), (1, .int v1), (2, .int v2)] [] h _
      refine E_iload_n dX8_told_58 rfl 0 rfl ?_
      refine E_cSI (As := [.int r1]) (rest := []) (sJ_bitCount G h r1) ck_J6_bitCount_0f7a4 lk_X8_167 rfl rfl rfl rfl rfl dX8_told_59 (fun r4 _ => ?_)
      exact E_iret rfl rfl dX8_told_62
    · have ex : v2 = 3 := Int32.toInt_inj.mp (hx9.trans rfl)
      rw [if_neg (show ¬ v2 = 0 from fun z => absurd (ex.symm.trans z) (by decide))]
      rw [if_neg (show ¬ v2 = 1 from fun z => absurd (ex.symm.trans z) (by decide))]
      rw [if_neg (show ¬ v2 = 2 from fun z => absurd (ex.symm.trans z) (by decide))]
      rw [if_pos ex]
      show Sim G iX_told (rvI h) 63 [(3, .int r1), (0, .ref (G.ad 0 0)), (1, .int v1), (2, .int v2)] [] h _
      refine E_aload_n dX8_told_63 rfl 1 rfl ?_
      refine E_getD fl_X8_23 dX8_told_64 z0 ?_
      refine E_cVI (As := []) (rest := []) (sB_allCells G h ((gB h 0).toNat) (tB3 _)) ck_X0_allCells lk_X8_326 rfl rfl kc_3 (tB3 _) rfl rfl rfl dX8_told_67 (fun r5 _ => ?_)
      refine E_iload_n dX8_told_70 rfl 0 rfl ?_
      refine E_iconst (v := (-1)) dX8_told_71 rfl ?_
      refine E_ixor dX8_told_72 ?_
      refine E_iand dX8_told_73 ?_
      refine E_cSI (As := [.int (r5 &&& (r1 ^^^ (-1)))]) (rest := []) (sJ_bitCount G h (r5 &&& (r1 ^^^ (-1)))) ck_J6_bitCount_0f7a4 lk_X8_167 rfl rfl rfl rfl rfl dX8_told_74 (fun r6 _ => ?_)
      exact E_iret rfl rfl dX8_told_77
    · exact absurd hj (by show ¬ (j + 4 < 4); omega)
def iX_trouble : MI := (yX8_trouble, cX8_trouble, 1, (some .int), { frames := 0, cells := 0, slots := 0, locals := 0 }, 0)
theorem ck_X8_trouble : CK iX_trouble 0 := ⟨⟨wd_105, wd_1144, by decide +kernel⟩, ⟨wd_1142, wd_1143⟩⟩
def jX_trouble (h : AH)  : Option (Int32) :=
  some (gI h 0 0 10)
set_option maxRecDepth 20000 in
set_option maxHeartbeats 2000000 in
theorem sX_trouble (G : JG) (h : AH)  : Mt G iX_trouble (rvI h) [.ref (G.ad 0 0)] h (jX_trouble h) := by
  refine Mt_of (by decide) (Nat.le_of_ble_eq_true rfl) ?_
  unfold jX_trouble
  show Sim G iX_trouble (rvI h) 0 [(0, .ref (G.ad 0 0))] [] h _
  refine E_aload_n dX8_trouble_0 rfl 0 rfl ?_
  refine E_getI fl_X8_87 dX8_trouble_1 z0 ?_
  exact E_iret rfl rfl dX8_trouble_4
def iX_undo : MI := (yX8_undo, cX8_undo, 1, (some .boolean), { frames := 3, cells := 0, slots := 0, locals := 82 }, 0)
theorem ck_X8_undo : CK iX_undo 0 := ⟨⟨wd_105, wd_1122, by decide +kernel⟩, ⟨wd_1120, wd_1121⟩⟩
def jX_undo (h : AH)  : Option (Int32 × AH) :=
  (jP_giveBack h ((gB h 1).toNat)).bind fun q1 =>
  if q1.1 = 0 then ((jX_deny q1.2 6).bind fun q3 =>
  if isZ q3.1 = true then some (q3.1, q3.2) else none)
  else ((jX_grant q1.2).bind fun q2 =>
  if isZ q2.1 = true then some (q2.1, q2.2) else none)
set_option maxRecDepth 20000 in
set_option maxHeartbeats 2000000 in
theorem sX_undo (G : JG) (h : AH)  : Mt G iX_undo rvIM [.ref (G.ad 0 0)] h (jX_undo h) := by
  refine Mt_of (by decide) (Nat.le_of_ble_eq_true rfl) ?_
  unfold jX_undo
  show Sim G iX_undo rvIM 0 [(0, .ref (G.ad 0 0))] [] h _
  refine E_aload_n dX8_undo_0 rfl 0 rfl ?_
  refine E_getF fl_X8_37 dX8_undo_1 z0 ?_
  refine E_aload_n dX8_undo_4 rfl 0 rfl ?_
  refine E_getD fl_X8_30 dX8_undo_5 z0 ?_
  refine E_cVIM (As := [.ref (G.ad 13 ((gB h 1).toNat))]) (rest := []) (sP_giveBack G h ((gB h 1).toNat) (tB13 _)) ck_X3_giveBack lk_X8_268 rfl rfl kc_21 z21 rfl rfl rfl dX8_undo_8 (fun q1 _ => ?_)
  refine E_if_ne (t := 21) dX8_undo_11 rfl ?_ ?_
  · refine E_aload_n dX8_undo_21 rfl 0 rfl ?_
    refine E_cVIM (As := []) (rest := []) (sX_grant G q1.2) ck_X8_grant lk_X8_247 rfl rfl kc_0 z0 rfl rfl rfl dX8_undo_22 (fun q2 _ => ?_)
    exact E_zretg rfl rfl dX8_undo_25
  · refine E_aload_n dX8_undo_14 rfl 0 rfl ?_
    refine E_bipush (v := 6) dX8_undo_15 rfl ?_
    refine E_cVIM (As := [.int 6]) (rest := []) (sX_deny G q1.2 6) ck_X8_deny lk_X8_230 rfl rfl kc_0 z0 rfl rfl rfl dX8_undo_17 (fun q3 _ => ?_)
    exact E_zretg rfl rfl dX8_undo_20
def iX_untold : MI := (yX8_untold, cX8_untold, 1, (some .int), { frames := 3, cells := 0, slots := 0, locals := 69 }, 0)
theorem ck_X8_untold : CK iX_untold 0 := ⟨⟨wd_105, wd_896, by decide +kernel⟩, ⟨wd_894, wd_895⟩⟩
def jX_untold (h : AH)  : Option (Int32 × AH) :=
  (jB_isTold h ((gB h 0).toNat)).bind fun r1 =>
  if r1 = 0 then ((jX_refuse h 1).bind fun q5 =>
  some (q5.1, q5.2))
  else ((jO_learn h ((gB h 1).toNat)).bind fun h2 =>
  (jO_openPairs h2).bind fun r3 =>
  (jX_accept h2 r3).bind fun q4 =>
  some (q4.1, q4.2))
set_option maxRecDepth 20000 in
set_option maxHeartbeats 2000000 in
theorem sX_untold (G : JG) (h : AH)  : Mt G iX_untold rvIM [.ref (G.ad 0 0)] h (jX_untold h) := by
  refine Mt_of (by decide) (Nat.le_of_ble_eq_true rfl) ?_
  unfold jX_untold
  show Sim G iX_untold rvIM 0 [(0, .ref (G.ad 0 0))] [] h _
  refine E_aload_n dX8_untold_0 rfl 0 rfl ?_
  refine E_getD fl_X8_23 dX8_untold_1 z0 ?_
  refine E_cVI (As := []) (rest := []) (sB_isTold G h ((gB h 0).toNat) (tB3 _)) ck_X0_isTold lk_X8_133 rfl rfl kc_3 (tB3 _) rfl rfl rfl dX8_untold_4 (fun r1 _ => ?_)
  refine E_if_ne (t := 16) dX8_untold_7 rfl ?_ ?_
  · refine E_aload_n dX8_untold_16 rfl 0 rfl ?_
    refine E_getF fl_X8_48 dX8_untold_17 z0 ?_
    refine E_aload_n dX8_untold_20 rfl 0 rfl ?_
    refine E_getD fl_X8_30 dX8_untold_21 z0 ?_
    refine E_cVV (As := [.ref (G.ad 13 ((gB h 1).toNat))]) (rest := []) (sO_learn G h ((gB h 1).toNat) (tB13 _)) ck_X2_learn lk_X8_175 rfl rfl kc_24 z24 rfl rfl rfl dX8_untold_24 (fun h2 _ => ?_)
    refine E_aload_n dX8_untold_27 rfl 0 rfl ?_
    refine E_aload_n dX8_untold_28 rfl 0 rfl ?_
    refine E_getF fl_X8_48 dX8_untold_29 z0 ?_
    refine E_cVI (As := []) (rest := [.ref (G.ad 0 0)]) (sO_openPairs G h2) ck_X2_openPairs lk_X8_182 rfl rfl kc_24 z24 rfl rfl rfl dX8_untold_32 (fun r3 _ => ?_)
    refine E_cVIM (As := [.int r3]) (rest := []) (sX_accept G h2 r3) ck_X8_accept lk_X8_84 rfl rfl kc_0 z0 rfl rfl rfl dX8_untold_35 (fun q4 _ => ?_)
    exact E_iret rfl rfl dX8_untold_38
  · refine E_aload_n dX8_untold_10 rfl 0 rfl ?_
    refine E_iconst (v := 1) dX8_untold_11 rfl ?_
    refine E_cVIM (As := [.int 1]) (rest := []) (sX_refuse G h 1) ck_X8_refuse lk_X8_67 rfl rfl kc_0 z0 rfl rfl rfl dX8_untold_12 (fun q5 _ => ?_)
    exact E_iret rfl rfl dX8_untold_15
def iX_wanted : MI := (yX8_wanted, cX8_wanted, 3, (some .int), { frames := 2, cells := 0, slots := 0, locals := 41 }, 0)
theorem ck_X8_wanted : CK iX_wanted 2 := ⟨⟨wd_105, wd_930, by decide +kernel⟩, ⟨wd_928, wd_929⟩⟩
def jX_wanted (h : AH) (v1 : Int32) (v2 : Int32) : Option (Int32 × AH) :=
  (jB_hasCell h ((gB h 0).toNat) v1 v2).bind fun r1 =>
  if r1 = 0 then ((jX_refuse h 1).bind fun q5 =>
  some (q5.1, q5.2))
  else ((jB_cellAt h ((gB h 0).toNat) v1 v2).bind fun r2 =>
  (jB_wantedAt h ((gB h 0).toNat) r2).bind fun r3 =>
  (jX_accept h r3).bind fun q4 =>
  some (q4.1, q4.2))
set_option maxRecDepth 20000 in
set_option maxHeartbeats 2000000 in
theorem sX_wanted (G : JG) (h : AH) (v1 : Int32) (v2 : Int32) : Mt G iX_wanted rvIM [.ref (G.ad 0 0), .int v1, .int v2] h (jX_wanted h v1 v2) := by
  refine Mt_of (by decide) (Nat.le_of_ble_eq_true rfl) ?_
  unfold jX_wanted
  show Sim G iX_wanted rvIM 0 [(0, .ref (G.ad 0 0)), (1, .int v1), (2, .int v2)] [] h _
  refine E_aload_n dX8_wanted_0 rfl 0 rfl ?_
  refine E_getD fl_X8_23 dX8_wanted_1 z0 ?_
  refine E_iload_n dX8_wanted_4 rfl 1 rfl ?_
  refine E_iload_n dX8_wanted_5 rfl 2 rfl ?_
  refine E_cVI (As := [.int v1, .int v2]) (rest := []) (sB_hasCell G h ((gB h 0).toNat) (tB3 _) v1 v2) ck_X0_hasCell lk_X8_93 rfl rfl kc_3 (tB3 _) rfl rfl rfl dX8_wanted_6 (fun r1 _ => ?_)
  refine E_if_ne (t := 18) dX8_wanted_9 rfl ?_ ?_
  · refine E_aload_n dX8_wanted_18 rfl 0 rfl ?_
    refine E_aload_n dX8_wanted_19 rfl 0 rfl ?_
    refine E_getD fl_X8_23 dX8_wanted_20 z0 ?_
    refine E_aload_n dX8_wanted_23 rfl 0 rfl ?_
    refine E_getD fl_X8_23 dX8_wanted_24 z0 ?_
    refine E_iload_n dX8_wanted_27 rfl 1 rfl ?_
    refine E_iload_n dX8_wanted_28 rfl 2 rfl ?_
    refine E_cVI (As := [.int v1, .int v2]) (rest := [.ref (G.ad 3 ((gB h 0).toNat)), .ref (G.ad 0 0)]) (sB_cellAt G h ((gB h 0).toNat) (tB3 _) v1 v2) ck_X0_cellAt lk_X8_97 rfl rfl kc_3 (tB3 _) rfl rfl rfl dX8_wanted_29 (fun r2 _ => ?_)
    refine E_cVI (As := [.int r2]) (rest := [.ref (G.ad 0 0)]) (sB_wantedAt G h ((gB h 0).toNat) (tB3 _) r2) ck_X0_wantedAt lk_X8_195 rfl rfl kc_3 (tB3 _) rfl rfl rfl dX8_wanted_32 (fun r3 _ => ?_)
    refine E_cVIM (As := [.int r3]) (rest := []) (sX_accept G h r3) ck_X8_accept lk_X8_84 rfl rfl kc_0 z0 rfl rfl rfl dX8_wanted_35 (fun q4 _ => ?_)
    exact E_iret rfl rfl dX8_wanted_38
  · refine E_aload_n dX8_wanted_12 rfl 0 rfl ?_
    refine E_iconst (v := 1) dX8_wanted_13 rfl ?_
    refine E_cVIM (As := [.int 1]) (rest := []) (sX_refuse G h 1) ck_X8_refuse lk_X8_67 rfl rfl kc_0 z0 rfl rfl rfl dX8_wanted_14 (fun q5 _ => ?_)
    exact E_iret rfl rfl dX8_wanted_17
def iX_was : MI := (yX8_was, cX8_was, 4, (some .int), { frames := 3, cells := 0, slots := 0, locals := 68 }, 0)
theorem ck_X8_was : CK iX_was 3 := ⟨⟨wd_105, wd_698, by decide +kernel⟩, ⟨wd_696, wd_697⟩⟩
def jX_was (h : AH) (v1 : Int32) (v2 : Int32) (v3 : Int32) : Option (Int32 × AH) :=
  (jB_hasCell h ((gB h 0).toNat) v1 v2).bind fun r1 =>
  if r1 = 0 then ((jX_refuse h 1).bind fun q7 =>
  some (q7.1, q7.2))
  else ((jX_isYear v3).bind fun r2 =>
  if r2 = 0 then ((jX_refuse h 2).bind fun q6 =>
  some (q6.1, q6.2))
  else ((jB_cellAt h ((gB h 0).toNat) v1 v2).bind fun r3 =>
  (jX_colourIn h r3 v3).bind fun r4 =>
  (jX_accept h r4).bind fun q5 =>
  some (q5.1, q5.2)))
set_option maxRecDepth 20000 in
set_option maxHeartbeats 2000000 in
theorem sX_was (G : JG) (h : AH) (v1 : Int32) (v2 : Int32) (v3 : Int32) : Mt G iX_was rvIM [.ref (G.ad 0 0), .int v1, .int v2, .int v3] h (jX_was h v1 v2 v3) := by
  refine Mt_of (by decide) (Nat.le_of_ble_eq_true rfl) ?_
  unfold jX_was
  show Sim G iX_was rvIM 0 [(0, .ref (G.ad 0 0)), (1, .int v1), (2, .int v2), (3, .int v3)] [] h _
  refine E_aload_n dX8_was_0 rfl 0 rfl ?_
  refine E_getD fl_X8_23 dX8_was_1 z0 ?_
  refine E_iload_n dX8_was_4 rfl 1 rfl ?_
  refine E_iload_n dX8_was_5 rfl 2 rfl ?_
  refine E_cVI (As := [.int v1, .int v2]) (rest := []) (sB_hasCell G h ((gB h 0).toNat) (tB3 _) v1 v2) ck_X0_hasCell lk_X8_93 rfl rfl kc_3 (tB3 _) rfl rfl rfl dX8_was_6 (fun r1 _ => ?_)
  refine E_if_ne (t := 18) dX8_was_9 rfl ?_ ?_
  · refine E_iload_n dX8_was_18 rfl 3 rfl ?_
    refine E_cSI (As := [.int v3]) (rest := []) (sX_isYear G h v3) ck_X8_isYear lk_X8_107 rfl rfl rfl rfl rfl dX8_was_19 (fun r2 _ => ?_)
    refine E_if_ne (t := 31) dX8_was_22 rfl ?_ ?_
    · refine E_aload_n dX8_was_31 rfl 0 rfl ?_
      refine E_aload_n dX8_was_32 rfl 0 rfl ?_
      refine E_aload_n dX8_was_33 rfl 0 rfl ?_
      refine E_getD fl_X8_23 dX8_was_34 z0 ?_
      refine E_iload_n dX8_was_37 rfl 1 rfl ?_
      refine E_iload_n dX8_was_38 rfl 2 rfl ?_
      refine E_cVI (As := [.int v1, .int v2]) (rest := [.ref (G.ad 0 0), .ref (G.ad 0 0)]) (sB_cellAt G h ((gB h 0).toNat) (tB3 _) v1 v2) ck_X0_cellAt lk_X8_97 rfl rfl kc_3 (tB3 _) rfl rfl rfl dX8_was_39 (fun r3 _ => ?_)
      refine E_iload_n dX8_was_42 rfl 3 rfl ?_
      refine E_cVI (As := [.int r3, .int v3]) (rest := [.ref (G.ad 0 0)]) (sX_colourIn G h r3 v3) ck_X8_colourIn lk_X8_111 rfl rfl kc_0 z0 rfl rfl rfl dX8_was_43 (fun r4 _ => ?_)
      refine E_cVIM (As := [.int r4]) (rest := []) (sX_accept G h r4) ck_X8_accept lk_X8_84 rfl rfl kc_0 z0 rfl rfl rfl dX8_was_46 (fun q5 _ => ?_)
      exact E_iret rfl rfl dX8_was_49
    · refine E_aload_n dX8_was_25 rfl 0 rfl ?_
      refine E_iconst (v := 2) dX8_was_26 rfl ?_
      refine E_cVIM (As := [.int 2]) (rest := []) (sX_refuse G h 2) ck_X8_refuse lk_X8_67 rfl rfl kc_0 z0 rfl rfl rfl dX8_was_27 (fun q6 _ => ?_)
      exact E_iret rfl rfl dX8_was_30
  · refine E_aload_n dX8_was_12 rfl 0 rfl ?_
    refine E_iconst (v := 1) dX8_was_13 rfl ?_
    refine E_cVIM (As := [.int 1]) (rest := []) (sX_refuse G h 1) ck_X8_refuse lk_X8_67 rfl rfl kc_0 z0 rfl rfl rfl dX8_was_14 (fun q7 _ => ?_)
    exact E_iret rfl rfl dX8_was_17
def iX_wet : MI := (yX8_wet, cX8_wet, 3, (some .int), { frames := 1, cells := 0, slots := 0, locals := 23 }, 0)
theorem ck_X8_wet : CK iX_wet 2 := ⟨⟨wd_105, wd_1097, by decide +kernel⟩, ⟨wd_1095, wd_1096⟩⟩
def jX_wet (h : AH) (v1 : Int32) (v2 : Int32) : Option (Int32 × AH) :=
  (jB_hasCell h ((gB h 0).toNat) v1 v2).bind fun r1 =>
  if r1 = 0 then ((jX_refuse h 1).bind fun q6 =>
  some (q6.1, q6.2))
  else (if (gI h 13 ((gB h 1).toNat) 1) = 0 then ((jX_refuse h 6).bind fun q5 =>
  some (q5.1, q5.2))
  else ((jB_cellAt h ((gB h 0).toNat) v1 v2).bind fun r2 =>
  (jW_colourAt h ((gB h 1).toNat) (gI h 13 ((gB h 1).toNat) 0) r2).bind fun r3 =>
  (jX_accept h r3).bind fun q4 =>
  some (q4.1, q4.2)))
set_option maxRecDepth 20000 in
set_option maxHeartbeats 2000000 in
theorem sX_wet (G : JG) (h : AH) (v1 : Int32) (v2 : Int32) : Mt G iX_wet rvIM [.ref (G.ad 0 0), .int v1, .int v2] h (jX_wet h v1 v2) := by
  refine Mt_of (by decide) (Nat.le_of_ble_eq_true rfl) ?_
  unfold jX_wet
  show Sim G iX_wet rvIM 0 [(0, .ref (G.ad 0 0)), (1, .int v1), (2, .int v2)] [] h _
  refine E_aload_n dX8_wet_0 rfl 0 rfl ?_
  refine E_getD fl_X8_23 dX8_wet_1 z0 ?_
  refine E_iload_n dX8_wet_4 rfl 1 rfl ?_
  refine E_iload_n dX8_wet_5 rfl 2 rfl ?_
  refine E_cVI (As := [.int v1, .int v2]) (rest := []) (sB_hasCell G h ((gB h 0).toNat) (tB3 _) v1 v2) ck_X0_hasCell lk_X8_93 rfl rfl kc_3 (tB3 _) rfl rfl rfl dX8_wet_6 (fun r1 _ => ?_)
  refine E_if_ne (t := 18) dX8_wet_9 rfl ?_ ?_
  · refine E_aload_n dX8_wet_18 rfl 0 rfl ?_
    refine E_getD fl_X8_30 dX8_wet_19 z0 ?_
    refine E_getI fl_X8_236 dX8_wet_22 (tB13 _) ?_
    refine E_if_ne (t := 35) dX8_wet_25 rfl ?_ ?_
    · refine E_aload_n dX8_wet_35 rfl 0 rfl ?_
      refine E_aload_n dX8_wet_36 rfl 0 rfl ?_
      refine E_getD fl_X8_30 dX8_wet_37 z0 ?_
      refine E_aload_n dX8_wet_40 rfl 0 rfl ?_
      refine E_getD fl_X8_30 dX8_wet_41 z0 ?_
      refine E_getI fl_X8_81 dX8_wet_44 (tB13 _) ?_
      refine E_aload_n dX8_wet_47 rfl 0 rfl ?_
      refine E_getD fl_X8_23 dX8_wet_48 z0 ?_
      refine E_iload_n dX8_wet_51 rfl 1 rfl ?_
      refine E_iload_n dX8_wet_52 rfl 2 rfl ?_
      refine E_cVI (As := [.int v1, .int v2]) (rest := [.int (gI h 13 ((gB h 1).toNat) 0), .ref (G.ad 13 ((gB h 1).toNat)), .ref (G.ad 0 0)]) (sB_cellAt G h ((gB h 0).toNat) (tB3 _) v1 v2) ck_X0_cellAt lk_X8_97 rfl rfl kc_3 (tB3 _) rfl rfl rfl dX8_wet_53 (fun r2 _ => ?_)
      refine E_cVI (As := [.int (gI h 13 ((gB h 1).toNat) 0), .int r2]) (rest := [.ref (G.ad 0 0)]) (sW_colourAt G h ((gB h 1).toNat) (tB13 _) (gI h 13 ((gB h 1).toNat) 0) r2) ck_X7_colourAt lk_X8_149 rfl rfl kc_13 (tB13 _) rfl rfl rfl dX8_wet_56 (fun r3 _ => ?_)
      refine E_cVIM (As := [.int r3]) (rest := []) (sX_accept G h r3) ck_X8_accept lk_X8_84 rfl rfl kc_0 z0 rfl rfl rfl dX8_wet_59 (fun q4 _ => ?_)
      exact E_iret rfl rfl dX8_wet_62
    · refine E_aload_n dX8_wet_28 rfl 0 rfl ?_
      refine E_bipush (v := 6) dX8_wet_29 rfl ?_
      refine E_cVIM (As := [.int 6]) (rest := []) (sX_refuse G h 6) ck_X8_refuse lk_X8_67 rfl rfl kc_0 z0 rfl rfl rfl dX8_wet_31 (fun q5 _ => ?_)
      exact E_iret rfl rfl dX8_wet_34
  · refine E_aload_n dX8_wet_12 rfl 0 rfl ?_
    refine E_iconst (v := 1) dX8_wet_13 rfl ?_
    refine E_cVIM (As := [.int 1]) (rest := []) (sX_refuse G h 1) ck_X8_refuse lk_X8_67 rfl rfl kc_0 z0 rfl rfl rfl dX8_wet_14 (fun q6 _ => ?_)
    exact E_iret rfl rfl dX8_wet_17
def iX_wetJudged : MI := (yX8_wetJudged, cX8_wetJudged, 1, (some .int), { frames := 4, cells := 0, slots := 0, locals := 95 }, 0)
theorem ck_X8_wetJudged : CK iX_wetJudged 0 := ⟨⟨wd_105, wd_1101, by decide +kernel⟩, ⟨wd_1099, wd_1100⟩⟩
def jX_wetJudged (h : AH)  : Option (Int32 × AH) :=
  if (gI h 13 ((gB h 1).toNat) 1) = 0 then ((jX_refuse h 6).bind fun q3 =>
  some (q3.1, q3.2))
  else ((jL_verdict h ((gB h 0).toNat) ((gB h 1).toNat) (gI h 13 ((gB h 1).toNat) 0)).bind fun r1 =>
  (jX_accept h r1).bind fun q2 =>
  some (q2.1, q2.2))
set_option maxRecDepth 20000 in
set_option maxHeartbeats 2000000 in
theorem sX_wetJudged (G : JG) (h : AH)  : Mt G iX_wetJudged rvIM [.ref (G.ad 0 0)] h (jX_wetJudged h) := by
  refine Mt_of (by decide) (Nat.le_of_ble_eq_true rfl) ?_
  unfold jX_wetJudged
  show Sim G iX_wetJudged rvIM 0 [(0, .ref (G.ad 0 0))] [] h _
  refine E_aload_n dX8_wetJudged_0 rfl 0 rfl ?_
  refine E_getD fl_X8_30 dX8_wetJudged_1 z0 ?_
  refine E_getI fl_X8_236 dX8_wetJudged_4 (tB13 _) ?_
  refine E_if_ne (t := 17) dX8_wetJudged_7 rfl ?_ ?_
  · refine E_aload_n dX8_wetJudged_17 rfl 0 rfl ?_
    refine E_aload_n dX8_wetJudged_18 rfl 0 rfl ?_
    refine E_getD fl_X8_23 dX8_wetJudged_19 z0 ?_
    refine E_aload_n dX8_wetJudged_22 rfl 0 rfl ?_
    refine E_getD fl_X8_30 dX8_wetJudged_23 z0 ?_
    refine E_aload_n dX8_wetJudged_26 rfl 0 rfl ?_
    refine E_getD fl_X8_30 dX8_wetJudged_27 z0 ?_
    refine E_getI fl_X8_81 dX8_wetJudged_30 (tB13 _) ?_
    refine E_cSI (As := [.ref (G.ad 3 ((gB h 0).toNat)), .ref (G.ad 13 ((gB h 1).toNat)), .int (gI h 13 ((gB h 1).toNat) 0)]) (rest := [.ref (G.ad 0 0)]) (sL_verdict G h ((gB h 0).toNat) (tB3 _) ((gB h 1).toNat) (tB13 _) (gI h 13 ((gB h 1).toNat) 0)) ck_X1_verdict lk_X8_152 rfl rfl rfl rfl rfl dX8_wetJudged_33 (fun r1 _ => ?_)
    refine E_cVIM (As := [.int r1]) (rest := []) (sX_accept G h r1) ck_X8_accept lk_X8_84 rfl rfl kc_0 z0 rfl rfl rfl dX8_wetJudged_36 (fun q2 _ => ?_)
    exact E_iret rfl rfl dX8_wetJudged_39
  · refine E_aload_n dX8_wetJudged_10 rfl 0 rfl ?_
    refine E_bipush (v := 6) dX8_wetJudged_11 rfl ?_
    refine E_cVIM (As := [.int 6]) (rest := []) (sX_refuse G h 6) ck_X8_refuse lk_X8_67 rfl rfl kc_0 z0 rfl rfl rfl dX8_wetJudged_13 (fun q3 _ => ?_)
    exact E_iret rfl rfl dX8_wetJudged_16
def iX_where : MI := (yX8_where, cX8_where, 1, (some .int), { frames := 0, cells := 0, slots := 0, locals := 0 }, 0)
theorem ck_X8_where : CK iX_where 0 := ⟨⟨wd_105, wd_661, by decide +kernel⟩, ⟨wd_659, wd_660⟩⟩
def jX_where (h : AH)  : Option (Int32) :=
  if (gI h 0 0 10) = 4 then (some (gI h 2 0 1))
  else (some (-1))
set_option maxRecDepth 20000 in
set_option maxHeartbeats 2000000 in
theorem sX_where (G : JG) (h : AH)  : Mt G iX_where (rvI h) [.ref (G.ad 0 0)] h (jX_where h) := by
  refine Mt_of (by decide) (Nat.le_of_ble_eq_true rfl) ?_
  unfold jX_where
  show Sim G iX_where (rvI h) 0 [(0, .ref (G.ad 0 0))] [] h _
  refine E_aload_n dX8_where_0 rfl 0 rfl ?_
  refine E_getI fl_X8_87 dX8_where_1 z0 ?_
  refine E_iconst (v := 4) dX8_where_4 rfl ?_
  refine E_icmp_ne (t := 18) dX8_where_5 rfl ?_ ?_
  · refine E_iconst (v := (-1)) dX8_where_18 rfl ?_
    exact E_iret rfl rfl dX8_where_19
  · refine E_aload_n dX8_where_8 rfl 0 rfl ?_
    refine E_getF fl_X8_16 dX8_where_9 z0 ?_
    refine E_getI fl_X8_90 dX8_where_12 z2 ?_
    refine E_goto (t := 19) dX8_where_15 rfl ?_
    exact E_iret rfl rfl dX8_where_19
