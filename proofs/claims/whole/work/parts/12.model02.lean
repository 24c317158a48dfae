/-! ===== the model, 2 ===== -/
def iM_partAt : MI := (yX9_partAt, cX9_partAt, 6, (some .int), { frames := 2, cells := 0, slots := 0, locals := 47 }, 1)
theorem ck_X9_partAt : CK iM_partAt 2 := ⟨⟨wd_113, wd_1639, by decide +kernel⟩, ⟨wd_1638, wd_80⟩⟩
def jM_partAt_8 (h : AH) (v1 : Int32) (v2 : Int32) : Nat → Int32 → Int32 → Int32 → Option (Int32)
  | 0, _, _, _ => none
  | n + 1, v3, v4, v5 =>
    (jM_cellMany h).bind fun r1 =>
    if v5 < r1 then ((jM_has v3 v5).bind fun r2 =>
    if r2 = 0 then ((jM_partAt_8 h v1 v2 n v3 v4 (v5 + 1)))
    else (if v4 = v2 then (some v5)
    else ((jM_partOf h v1 v5).bind fun r3 =>
    (jM_partAt_8 h v1 v2 n (v3 &&& (r3 ^^^ (-1))) (v4 + 1) (v5 + 1)))))
    else (some (-2))
set_option maxRecDepth 20000 in
set_option maxHeartbeats 2000000 in
theorem sM_partAt_8 (G : JG) (h : AH) (v1 : Int32) (v2 : Int32)  : ∀ (n : Nat) (v3 : Int32) (v4 : Int32) (v5 : Int32), Sim G iM_partAt (rvI h) 8 [(0, .ref (G.ad 32 0)), (1, .int v1), (2, .int v2), (3, .int v3), (4, .int v4), (5, .int v5)] [] h (jM_partAt_8 h v1 v2 n v3 v4 v5) := by
  intro n
  induction n with
  | zero => intro v3 v4 v5; exact E_none
  | succ n ih =>
    intro v3 v4 v5
    rw [jM_partAt_8]
    refine E_iload dX9_partAt_8 5 rfl ?_
    refine E_aload_n dX9_partAt_10 rfl 0 rfl ?_
    refine E_cVI (As := []) (rest := [.int v5]) (sM_cellMany G h) ck_X9_cellMany lk_X9_287 rfl rfl kc_32 z32 rfl rfl rfl dX9_partAt_11 (fun r1 _ => ?_)
    refine E_icmp_ge (t := 59) dX9_partAt_14 rfl ?_ ?_
    · refine E_bipush (v := (-2)) dX9_partAt_59 rfl ?_
      exact E_iret rfl rfl dX9_partAt_61
    · refine E_iload_n dX9_partAt_17 rfl 3 rfl ?_
      refine E_iload dX9_partAt_18 5 rfl ?_
      refine E_cSI (As := [.int v3, .int v5]) (rest := []) (sM_has G h v3 v5) ck_X9_has lk_X9_290 rfl rfl rfl rfl rfl dX9_partAt_20 (fun r2 _ => ?_)
      refine E_if_ne (t := 29) dX9_partAt_23 rfl ?_ ?_
      · refine E_iload dX9_partAt_29 4 rfl ?_
        refine E_iload_n dX9_partAt_31 rfl 2 rfl ?_
        refine E_icmp_ne (t := 38) dX9_partAt_32 rfl ?_ ?_
        · refine E_iload_n dX9_partAt_38 rfl 3 rfl ?_
          refine E_aload_n dX9_partAt_39 rfl 0 rfl ?_
          refine E_iload_n dX9_partAt_40 rfl 1 rfl ?_
          refine E_iload dX9_partAt_41 5 rfl ?_
          refine E_cVI (As := [.int v1, .int v5]) (rest := [.int v3]) (sM_partOf G h v1 v5) ck_X9_partOf lk_X9_293 rfl rfl kc_32 z32 rfl rfl rfl dX9_partAt_43 (fun r3 _ => ?_)
          refine E_iconst (v := (-1)) dX9_partAt_46 rfl ?_
          refine E_ixor dX9_partAt_47 ?_
          refine E_iand dX9_partAt_48 ?_
          refine E_istore_n (ls' := [(3, .int (v3 &&& (r3 ^^^ (-1)))), (0, .ref (G.ad 32 0)), (1, .int v1), (2, .int v2), (4, .int v4), (5, .int v5)]) dX9_partAt_49 rfl (Nat.le_of_ble_eq_true rfl) rfl ?_
          refine E_iinc (q := 4) (v := (v4 + 1)) (ls' := [(4, .int (v4 + 1)), (3, .int (v3 &&& (r3 ^^^ (-1)))), (0, .ref (G.ad 32 0)), (1, .int v1), (2, .int v2), (5, .int v5)]) dX9_partAt_50 rfl rfl (Nat.le_of_ble_eq_true rfl) rfl ?_
          refine E_iinc (q := 5) (v := (v5 + 1)) (ls' := [(5, .int (v5 + 1)), (4, .int (v4 + 1)), (3, .int (v3 &&& (r3 ^^^ (-1)))), (0, .ref (G.ad 32 0)), (1, .int v1), (2, .int v2)]) dX9_partAt_53 rfl rfl (Nat.le_of_ble_eq_true rfl) rfl ?_
          refine E_goto (t := 8) dX9_partAt_56 rfl ?_
          exact E_sub [3, 4, 5, 2, 1, 0] rfl (ih (v3 &&& (r3 ^^^ (-1))) (v4 + 1) (v5 + 1))
        · refine E_iload dX9_partAt_35 5 rfl ?_
          exact E_iret rfl rfl dX9_partAt_37
      · refine E_goto (t := 53) dX9_partAt_26 rfl ?_
        refine E_iinc (q := 5) (v := (v5 + 1)) (ls' := [(5, .int (v5 + 1)), (0, .ref (G.ad 32 0)), (1, .int v1), (2, .int v2), (3, .int v3), (4, .int v4)]) dX9_partAt_53 rfl rfl (Nat.le_of_ble_eq_true rfl) rfl ?_
        refine E_goto (t := 8) dX9_partAt_56 rfl ?_
        exact E_sub [1, 2, 3, 4, 5, 0] rfl (ih v3 v4 (v5 + 1))
def jM_partAt (h : AH) (v1 : Int32) (v2 : Int32) : Option (Int32) :=
  (jM_partAt_8 h v1 v2 FU v1 0 0)
set_option maxRecDepth 20000 in
set_option maxHeartbeats 2000000 in
theorem sM_partAt (G : JG) (h : AH) (v1 : Int32) (v2 : Int32) : Mt G iM_partAt (rvI h) [.ref (G.ad 32 0), .int v1, .int v2] h (jM_partAt h v1 v2) := by
  refine Mt_of (by decide) (Nat.le_of_ble_eq_true rfl) ?_
  unfold jM_partAt
  show Sim G iM_partAt (rvI h) 0 [(0, .ref (G.ad 32 0)), (1, .int v1), (2, .int v2)] [] h _
  refine E_iload_n dX9_partAt_0 rfl 1 rfl ?_
  refine E_istore_n (ls' := [(3, .int v1), (0, .ref (G.ad 32 0)), (1, .int v1), (2, .int v2)]) dX9_partAt_1 rfl (Nat.le_of_ble_eq_true rfl) rfl ?_
  refine E_iconst (v := 0) dX9_partAt_2 rfl ?_
  refine E_istore (ls' := [(4, .int 0), (3, .int v1), (0, .ref (G.ad 32 0)), (1, .int v1), (2, .int v2)]) dX9_partAt_3 (Nat.le_of_ble_eq_true rfl) rfl ?_
  refine E_iconst (v := 0) dX9_partAt_5 rfl ?_
  refine E_istore (ls' := [(5, .int 0), (4, .int 0), (3, .int v1), (0, .ref (G.ad 32 0)), (1, .int v1), (2, .int v2)]) dX9_partAt_6 (Nat.le_of_ble_eq_true rfl) rfl ?_
  exact E_sub [3, 4, 5, 2, 1, 0] rfl (sM_partAt_8 G h v1 v2 FU v1 0 0)
def iM_partsOf : MI := (yX9_partsOf, cX9_partsOf, 3, (some .int), { frames := 3, cells := 0, slots := 0, locals := 72 }, 1)
theorem ck_X9_partsOf : CK iM_partsOf 1 := ⟨⟨wd_113, wd_1635, by decide +kernel⟩, ⟨wd_1634, wd_79⟩⟩
def jM_partsOf_2 (h : AH) (v1 : Int32) : Nat → Int32 → Option (Int32)
  | 0, _ => none
  | n + 1, v2 =>
    (jM_partAt h v1 v2).bind fun r1 =>
    if r1 = (-2) then (some v2)
    else ((jM_partsOf_2 h v1 n (v2 + 1)))
set_option maxRecDepth 20000 in
set_option maxHeartbeats 2000000 in
theorem sM_partsOf_2 (G : JG) (h : AH) (v1 : Int32)  : ∀ (n : Nat) (v2 : Int32), Sim G iM_partsOf (rvI h) 2 [(0, .ref (G.ad 32 0)), (1, .int v1), (2, .int v2)] [] h (jM_partsOf_2 h v1 n v2) := by
  intro n
  induction n with
  | zero => intro v2; exact E_none
  | succ n ih =>
    intro v2
    rw [jM_partsOf_2]
    refine E_aload_n dX9_partsOf_2 rfl 0 rfl ?_
    refine E_iload_n dX9_partsOf_3 rfl 1 rfl ?_
    refine E_iload_n dX9_partsOf_4 rfl 2 rfl ?_
    refine E_cVI (As := [.int v1, .int v2]) (rest := []) (sM_partAt G h v1 v2) ck_X9_partAt lk_X9_296 rfl rfl kc_32 z32 rfl rfl rfl dX9_partsOf_5 (fun r1 _ => ?_)
    refine E_bipush (v := (-2)) dX9_partsOf_8 rfl ?_
    refine E_icmp_eq (t := 19) dX9_partsOf_10 rfl ?_ ?_
    · refine E_iload_n dX9_partsOf_19 rfl 2 rfl ?_
      exact E_iret rfl rfl dX9_partsOf_20
    · refine E_iinc (q := 2) (v := (v2 + 1)) (ls' := [(2, .int (v2 + 1)), (0, .ref (G.ad 32 0)), (1, .int v1)]) dX9_partsOf_13 rfl rfl (Nat.le_of_ble_eq_true rfl) rfl ?_
      refine E_goto (t := 2) dX9_partsOf_16 rfl ?_
      exact E_sub [1, 2, 0] rfl (ih (v2 + 1))
def jM_partsOf (h : AH) (v1 : Int32) : Option (Int32) :=
  (jM_partsOf_2 h v1 FU 0)
set_option maxRecDepth 20000 in
set_option maxHeartbeats 2000000 in
theorem sM_partsOf (G : JG) (h : AH) (v1 : Int32) : Mt G iM_partsOf (rvI h) [.ref (G.ad 32 0), .int v1] h (jM_partsOf h v1) := by
  refine Mt_of (by decide) (Nat.le_of_ble_eq_true rfl) ?_
  unfold jM_partsOf
  show Sim G iM_partsOf (rvI h) 0 [(0, .ref (G.ad 32 0)), (1, .int v1)] [] h _
  refine E_iconst (v := 0) dX9_partsOf_0 rfl ?_
  refine E_istore_n (ls' := [(2, .int 0), (0, .ref (G.ad 32 0)), (1, .int v1)]) dX9_partsOf_1 rfl (Nat.le_of_ble_eq_true rfl) rfl ?_
  exact E_sub [1, 2, 0] rfl (sM_partsOf_2 G h v1 FU 0)
def iM_judgedCells : MI := (yX9_judgedCells, cX9_judgedCells, 4, (some .int), { frames := 4, cells := 0, slots := 0, locals := 94 }, 1)
theorem ck_X9_judgedCells : CK iM_judgedCells 2 := ⟨⟨wd_113, wd_1662, by decide +kernel⟩, ⟨wd_1661, wd_83⟩⟩
def jM_judgedCells_49 (h : AH) (v1 : Int32) (v2 : Int32)  : Option (Int32) :=
  (jM_barred h v2).bind fun r1 =>
  if (v1 &&& r1) = 0 then (some 0)
  else (some 3)
set_option maxRecDepth 20000 in
set_option maxHeartbeats 2000000 in
theorem sM_judgedCells_49 (G : JG) (h : AH) (v1 : Int32) (v2 : Int32)   : Sim G iM_judgedCells (rvI h) 49 [(0, .ref (G.ad 32 0)), (1, .int v1), (2, .int v2)] [] h (jM_judgedCells_49 h v1 v2) := by
  unfold jM_judgedCells_49
  refine E_iload_n dX9_judgedCells_49 rfl 1 rfl ?_
  refine E_aload_n dX9_judgedCells_50 rfl 0 rfl ?_
  refine E_iload_n dX9_judgedCells_51 rfl 2 rfl ?_
  refine E_cVI (As := [.int v2]) (rest := [.int v1]) (sM_barred G h v2) ck_X9_barred lk_X9_308 rfl rfl kc_32 z32 rfl rfl rfl dX9_judgedCells_52 (fun r1 _ => ?_)
  refine E_iand dX9_judgedCells_55 ?_
  refine E_if_eq (t := 63) dX9_judgedCells_56 rfl ?_ ?_
  · refine E_iconst (v := 0) dX9_judgedCells_63 rfl ?_
    exact E_iret rfl rfl dX9_judgedCells_64
  · refine E_iconst (v := 3) dX9_judgedCells_59 rfl ?_
    refine E_goto (t := 64) dX9_judgedCells_60 rfl ?_
    exact E_iret rfl rfl dX9_judgedCells_64
def jM_judgedCells (h : AH) (v1 : Int32) (v2 : Int32) : Option (Int32) :=
  (jM_allCells h).bind fun r1 =>
  (jM_bits (r1 &&& (v1 ^^^ (-1)))).bind fun r2 =>
  if inb 2 161 = true then (
  if r2 < (gI h 35 0 (2 : Int32).toNatClampNeg) then (some 1)
  else (if inb 3 161 = true then (
  if (gI h 35 0 (3 : Int32).toNatClampNeg) ≤ 0 then ((jM_judgedCells_49 h v1 v2))
  else ((jM_partsOf h (r1 &&& (v1 ^^^ (-1)))).bind fun r3 =>
  if inb 3 161 = true then (
  if r3 ≤ (gI h 35 0 (3 : Int32).toNatClampNeg) then ((jM_judgedCells_49 h v1 v2))
  else (some 2)) else none)) else none)) else none
set_option maxRecDepth 20000 in
set_option maxHeartbeats 2000000 in
theorem sM_judgedCells (G : JG) (h : AH) (v1 : Int32) (v2 : Int32) : Mt G iM_judgedCells (rvI h) [.ref (G.ad 32 0), .int v1, .int v2] h (jM_judgedCells h v1 v2) := by
  refine Mt_of (by decide) (Nat.le_of_ble_eq_true rfl) ?_
  unfold jM_judgedCells
  show Sim G iM_judgedCells (rvI h) 0 [(0, .ref (G.ad 32 0)), (1, .int v1), (2, .int v2)] [] h _
  refine E_aload_n dX9_judgedCells_0 rfl 0 rfl ?_
  refine E_cVI (As := []) (rest := []) (sM_allCells G h) ck_X9_allCells lk_X9_299 rfl rfl kc_32 z32 rfl rfl rfl dX9_judgedCells_1 (fun r1 _ => ?_)
  refine E_iload_n dX9_judgedCells_4 rfl 1 rfl ?_
  refine E_iconst (v := (-1)) dX9_judgedCells_5 rfl ?_
  refine E_ixor dX9_judgedCells_6 ?_
  refine E_iand dX9_judgedCells_7 ?_
  refine E_istore_n (ls' := [(3, .int (r1 &&& (v1 ^^^ (-1)))), (0, .ref (G.ad 32 0)), (1, .int v1), (2, .int v2)]) dX9_judgedCells_8 rfl (Nat.le_of_ble_eq_true rfl) rfl ?_
  refine E_iload_n dX9_judgedCells_9 rfl 0 rfl ?_
  refine E_cSI (As := [.int (r1 &&& (v1 ^^^ (-1)))]) (rest := []) (sM_bits G h (r1 &&& (v1 ^^^ (-1)))) ck_X9_bits lk_X9_302 rfl rfl rfl rfl rfl dX9_judgedCells_10 (fun r2 _ => ?_)
  refine E_aload_n dX9_judgedCells_13 rfl 1 rfl ?_
  refine E_getF fl_X9_20 dX9_judgedCells_14 z32 ?_
  refine E_iconst (v := 2) dX9_judgedCells_17 rfl ?_
  refine E_iald (n := 161) rfl dX9_judgedCells_18 z35 (fun _ => ?_)
  refine E_icmp_ge (t := 24) dX9_judgedCells_19 rfl ?_ ?_
  · refine E_aload_n dX9_judgedCells_24 rfl 1 rfl ?_
    refine E_getF fl_X9_20 dX9_judgedCells_25 z32 ?_
    refine E_iconst (v := 3) dX9_judgedCells_28 rfl ?_
    refine E_iald (n := 161) rfl dX9_judgedCells_29 z35 (fun _ => ?_)
    refine E_if_le (t := 49) dX9_judgedCells_30 rfl ?_ ?_
    · exact E_sub [1, 2, 3] rfl (sM_judgedCells_49 G h v1 v2)
    · refine E_aload_n dX9_judgedCells_33 rfl 1 rfl ?_
      refine E_iload_n dX9_judgedCells_34 rfl 0 rfl ?_
      refine E_cVI (As := [.int (r1 &&& (v1 ^^^ (-1)))]) (rest := []) (sM_partsOf G h (r1 &&& (v1 ^^^ (-1)))) ck_X9_partsOf lk_X9_305 rfl rfl kc_32 z32 rfl rfl rfl dX9_judgedCells_35 (fun r3 _ => ?_)
      refine E_aload_n dX9_judgedCells_38 rfl 1 rfl ?_
      refine E_getF fl_X9_20 dX9_judgedCells_39 z32 ?_
      refine E_iconst (v := 3) dX9_judgedCells_42 rfl ?_
      refine E_iald (n := 161) rfl dX9_judgedCells_43 z35 (fun _ => ?_)
      refine E_icmp_le (t := 49) dX9_judgedCells_44 rfl ?_ ?_
      · exact E_sub [1, 2, 3] rfl (sM_judgedCells_49 G h v1 v2)
      · refine E_iconst (v := 2) dX9_judgedCells_47 rfl ?_
        exact E_iret rfl rfl dX9_judgedCells_48
  · refine E_iconst (v := 1) dX9_judgedCells_22 rfl ?_
    exact E_iret rfl rfl dX9_judgedCells_23
def iM_layBest : MI := (yX9_layBest, cX9_layBest, 7, none, { frames := 5, cells := 0, slots := 0, locals := 117 }, 1)
theorem ck_X9_layBest : CK iM_layBest 1 := ⟨⟨wd_113, wd_1745, by decide +kernel⟩, ⟨wd_1744, wd_92⟩⟩
def jM_layBest_108 (v1 : Int32) (k_42 : Int32 → Int32 → Int32 → Int32 → AH → Option AH) (v2 : Int32) (v3 : Int32) (v4 : Int32) (v5 : Int32) (v6 : Int32) (h : AH) : Option (AH) :=
  (jM_judgedCells h v5 v1).bind fun r1 =>
  if r1 = 0 then (jb (uI h 32 0 30 v5) fun h2 =>
  jb (uI h2 32 0 31 v6) fun h3 =>
  (k_42 v2 v3 v4 (v5 + 1) h3))
  else ((k_42 v2 v3 v4 (v5 + 1) h))
set_option maxRecDepth 20000 in
set_option maxHeartbeats 2000000 in
theorem sM_layBest_108 (G : JG) (v1 : Int32) (k_42 : Int32 → Int32 → Int32 → Int32 → AH → Option AH) (hk_42 : ∀ (v2 : Int32) (v3 : Int32) (v4 : Int32) (v5 : Int32) (h : AH), Sim G iM_layBest rvV 42 [(0, .ref (G.ad 32 0)), (1, .int v1), (2, .int v2), (3, .int v3), (4, .int v4), (5, .int v5)] [] h (k_42 v2 v3 v4 v5 h)) (v2 : Int32) (v3 : Int32) (v4 : Int32) (v5 : Int32) (v6 : Int32) (h : AH) : Sim G iM_layBest rvV 108 [(0, .ref (G.ad 32 0)), (1, .int v1), (2, .int v2), (3, .int v3), (4, .int v4), (5, .int v5), (6, .int v6)] [] h (jM_layBest_108 v1 k_42 v2 v3 v4 v5 v6 h) := by
  unfold jM_layBest_108
  refine E_aload_n dX9_layBest_108 rfl 0 rfl ?_
  refine E_iload dX9_layBest_109 5 rfl ?_
  refine E_iload_n dX9_layBest_111 rfl 1 rfl ?_
  refine E_cVI (As := [.int v5, .int v1]) (rest := []) (sM_judgedCells G h v5 v1) ck_X9_judgedCells lk_X9_314 rfl rfl kc_32 z32 rfl rfl rfl dX9_layBest_112 (fun r1 _ => ?_)
  refine E_if_eq (t := 121) dX9_layBest_115 rfl ?_ ?_
  · refine E_aload_n dX9_layBest_121 rfl 0 rfl ?_
    refine E_iload dX9_layBest_122 5 rfl ?_
    refine E_putI fs_X9_350 dX9_layBest_124 z32 ?_
    refine E_hgen (fun h2 => ?_)
    refine E_aload_n dX9_layBest_127 rfl 0 rfl ?_
    refine E_iload dX9_layBest_128 6 rfl ?_
    refine E_putI fs_X9_353 dX9_layBest_130 z32 ?_
    refine E_hgen (fun h3 => ?_)
    refine E_iinc (q := 5) (v := (v5 + 1)) (ls' := [(5, .int (v5 + 1)), (0, .ref (G.ad 32 0)), (1, .int v1), (2, .int v2), (3, .int v3), (4, .int v4), (6, .int v6)]) dX9_layBest_133 rfl rfl (Nat.le_of_ble_eq_true rfl) rfl ?_
    refine E_goto (t := 42) dX9_layBest_136 rfl ?_
    exact E_sub [1, 2, 3, 4, 5, 0] rfl (hk_42 v2 v3 v4 (v5 + 1) h3)
  · refine E_goto (t := 133) dX9_layBest_118 rfl ?_
    refine E_iinc (q := 5) (v := (v5 + 1)) (ls' := [(5, .int (v5 + 1)), (0, .ref (G.ad 32 0)), (1, .int v1), (2, .int v2), (3, .int v3), (4, .int v4), (6, .int v6)]) dX9_layBest_133 rfl rfl (Nat.le_of_ble_eq_true rfl) rfl ?_
    refine E_goto (t := 42) dX9_layBest_136 rfl ?_
    exact E_sub [1, 2, 3, 4, 5, 0] rfl (hk_42 v2 v3 v4 (v5 + 1) h)
def jM_layBest_42 (v1 : Int32) : Nat → Int32 → Int32 → Int32 → Int32 → AH → Option (AH)
  | 0, _, _, _, _, _ => none
  | n + 1, v2, v3, v4, v5, h =>
    if v5 ≤ v4 then ((jM_bits ((v2 &&& (v5 ^^^ (-1))) ||| (v5 &&& v3))).bind fun r1 =>
    if (gI h 32 0 30) < 0 then ((jM_layBest_108 v1 (jM_layBest_42 v1 n) v2 v3 v4 v5 r1 h))
    else (if r1 < (gI h 32 0 31) then ((jM_layBest_42 v1 n v2 v3 v4 (v5 + 1) h))
    else (if r1 = (gI h 32 0 31) then ((jM_bits v5).bind fun r2 =>
    (jM_bits (gI h 32 0 30)).bind fun r3 =>
    if r2 < r3 then ((jM_layBest_108 v1 (jM_layBest_42 v1 n) v2 v3 v4 v5 r1 h))
    else ((jM_layBest_42 v1 n v2 v3 v4 (v5 + 1) h)))
    else ((jM_layBest_108 v1 (jM_layBest_42 v1 n) v2 v3 v4 v5 r1 h)))))
    else (some h)
set_option maxRecDepth 20000 in
set_option maxHeartbeats 2000000 in
theorem sM_layBest_42 (G : JG) (v1 : Int32)  : ∀ (n : Nat) (v2 : Int32) (v3 : Int32) (v4 : Int32) (v5 : Int32) (h : AH), Sim G iM_layBest rvV 42 [(0, .ref (G.ad 32 0)), (1, .int v1), (2, .int v2), (3, .int v3), (4, .int v4), (5, .int v5)] [] h (jM_layBest_42 v1 n v2 v3 v4 v5 h) := by
  intro n
  induction n with
  | zero => intro v2 v3 v4 v5 h; exact E_none
  | succ n ih =>
    intro v2 v3 v4 v5 h
    rw [jM_layBest_42]
    refine E_iload dX9_layBest_42 5 rfl ?_
    refine E_iload dX9_layBest_44 4 rfl ?_
    refine E_icmp_gt (t := 139) dX9_layBest_46 rfl ?_ ?_
    · exact E_vret rfl rfl dX9_layBest_139
    · refine E_iload_n dX9_layBest_49 rfl 2 rfl ?_
      refine E_iload dX9_layBest_50 5 rfl ?_
      refine E_iconst (v := (-1)) dX9_layBest_52 rfl ?_
      refine E_ixor dX9_layBest_53 ?_
      refine E_iand dX9_layBest_54 ?_
      refine E_iload dX9_layBest_55 5 rfl ?_
      refine E_iload_n dX9_layBest_57 rfl 3 rfl ?_
      refine E_iand dX9_layBest_58 ?_
      refine E_ior dX9_layBest_59 ?_
      refine E_cSI (As := [.int ((v2 &&& (v5 ^^^ (-1))) ||| (v5 &&& v3))]) (rest := []) (sM_bits G h ((v2 &&& (v5 ^^^ (-1))) ||| (v5 &&& v3))) ck_X9_bits lk_X9_302 rfl rfl rfl rfl rfl dX9_layBest_60 (fun r1 _ => ?_)
      refine E_istore (ls' := [(6, .int r1), (0, .ref (G.ad 32 0)), (1, .int v1), (2, .int v2), (3, .int v3), (4, .int v4), (5, .int v5)]) dX9_layBest_63 (Nat.le_of_ble_eq_true rfl) rfl ?_
      refine E_aload_n dX9_layBest_65 rfl 1 rfl ?_
      refine E_getI fl_X9_350 dX9_layBest_66 z32 ?_
      refine E_if_lt (t := 108) dX9_layBest_69 rfl ?_ ?_
      · exact E_sub [1, 2, 3, 4, 5, 6, 0] rfl (sM_layBest_108 G v1 (jM_layBest_42 v1 n) ih v2 v3 v4 v5 r1 h)
      · refine E_iload dX9_layBest_72 0 rfl ?_
        refine E_aload_n dX9_layBest_74 rfl 1 rfl ?_
        refine E_getI fl_X9_353 dX9_layBest_75 z32 ?_
        refine E_icmp_lt (t := 133) dX9_layBest_78 rfl ?_ ?_
        · refine E_iinc (q := 6) (v := (v5 + 1)) (ls' := [(5, .int (v5 + 1)), (6, .int r1), (0, .ref (G.ad 32 0)), (1, .int v1), (2, .int v2), (3, .int v3), (4, .int v4)]) dX9_layBest_133 rfl rfl (Nat.le_of_ble_eq_true rfl) rfl ?_
          refine E_goto (t := 42) dX9_layBest_136 rfl ?_
          exact E_sub [2, 3, 4, 5, 6, 0] rfl (ih v2 v3 v4 (v5 + 1) h)
        · refine E_iload dX9_layBest_81 0 rfl ?_
          refine E_aload_n dX9_layBest_83 rfl 1 rfl ?_
          refine E_getI fl_X9_353 dX9_layBest_84 z32 ?_
          refine E_icmp_ne (t := 108) dX9_layBest_87 rfl ?_ ?_
          · exact E_sub [1, 2, 3, 4, 5, 6, 0] rfl (sM_layBest_108 G v1 (jM_layBest_42 v1 n) ih v2 v3 v4 v5 r1 h)
          · refine E_iload dX9_layBest_90 6 rfl ?_
            refine E_cSI (As := [.int v5]) (rest := []) (sM_bits G h v5) ck_X9_bits lk_X9_302 rfl rfl rfl rfl rfl dX9_layBest_92 (fun r2 _ => ?_)
            refine E_aload_n dX9_layBest_95 rfl 1 rfl ?_
            refine E_getI fl_X9_350 dX9_layBest_96 z32 ?_
            refine E_cSI (As := [.int (gI h 32 0 30)]) (rest := [.int r2]) (sM_bits G h (gI h 32 0 30)) ck_X9_bits lk_X9_302 rfl rfl rfl rfl rfl dX9_layBest_99 (fun r3 _ => ?_)
            refine E_icmp_lt (t := 108) dX9_layBest_102 rfl ?_ ?_
            · exact E_sub [1, 2, 3, 4, 5, 6, 0] rfl (sM_layBest_108 G v1 (jM_layBest_42 v1 n) ih v2 v3 v4 v5 r1 h)
            · refine E_goto (t := 133) dX9_layBest_105 rfl ?_
              refine E_iinc (q := 6) (v := (v5 + 1)) (ls' := [(5, .int (v5 + 1)), (6, .int r1), (0, .ref (G.ad 32 0)), (1, .int v1), (2, .int v2), (3, .int v3), (4, .int v4)]) dX9_layBest_133 rfl rfl (Nat.le_of_ble_eq_true rfl) rfl ?_
              refine E_goto (t := 42) dX9_layBest_136 rfl ?_
              exact E_sub [2, 3, 4, 5, 6, 0] rfl (ih v2 v3 v4 (v5 + 1) h)
def jM_layBest_27 (v1 : Int32) (v2 : Int32) (v3 : Int32) (s0 : Int32) (h : AH) : Option (AH) :=
  jb (uI h 32 0 30 (-1)) fun h1 =>
  jb (uI h1 32 0 31 0) fun h2 =>
  (jM_layBest_42 v1 FU v2 v3 s0 0 h2)
set_option maxRecDepth 20000 in
set_option maxHeartbeats 2000000 in
theorem sM_layBest_27 (G : JG) (v1 : Int32)  (v2 : Int32) (v3 : Int32) (s0 : Int32) (h : AH) : Sim G iM_layBest rvV 27 [(0, .ref (G.ad 32 0)), (1, .int v1), (2, .int v2), (3, .int v3)] [.int s0] h (jM_layBest_27 v1 v2 v3 s0 h) := by
  unfold jM_layBest_27
  refine E_istore (ls' := [(4, .int s0), (0, .ref (G.ad 32 0)), (1, .int v1), (2, .int v2), (3, .int v3)]) dX9_layBest_27 (Nat.le_of_ble_eq_true rfl) rfl ?_
  refine E_aload_n dX9_layBest_29 rfl 1 rfl ?_
  refine E_iconst (v := (-1)) dX9_layBest_30 rfl ?_
  refine E_putI fs_X9_350 dX9_layBest_31 z32 ?_
  refine E_hgen (fun h1 => ?_)
  refine E_aload_n dX9_layBest_34 rfl 1 rfl ?_
  refine E_iconst (v := 0) dX9_layBest_35 rfl ?_
  refine E_putI fs_X9_353 dX9_layBest_36 z32 ?_
  refine E_hgen (fun h2 => ?_)
  refine E_iconst (v := 0) dX9_layBest_39 rfl ?_
  refine E_istore (ls' := [(5, .int 0), (4, .int s0), (0, .ref (G.ad 32 0)), (1, .int v1), (2, .int v2), (3, .int v3)]) dX9_layBest_40 (Nat.le_of_ble_eq_true rfl) rfl ?_
  exact E_sub [2, 3, 4, 5, 1, 0] rfl (sM_layBest_42 G v1 FU v2 v3 s0 0 h2)
def jM_layBest (h : AH) (v1 : Int32) : Option (AH) :=
  (jM_alikeCells h).bind fun r1 =>
  (jM_payable h v1).bind fun r2 =>
  (jM_hasColours h v1).bind fun r3 =>
  if r3 = 0 then ((jM_layBest_27 v1 r1 r2 0 h))
  else ((jM_allCells h).bind fun r4 =>
  (jM_layBest_27 v1 r1 r2 r4 h))
set_option maxRecDepth 20000 in
set_option maxHeartbeats 2000000 in
theorem sM_layBest (G : JG) (h : AH) (v1 : Int32) : Mt G iM_layBest rvV [.ref (G.ad 32 0), .int v1] h (jM_layBest h v1) := by
  refine Mt_of (by decide) (Nat.le_of_ble_eq_true rfl) ?_
  unfold jM_layBest
  show Sim G iM_layBest rvV 0 [(0, .ref (G.ad 32 0)), (1, .int v1)] [] h _
  refine E_aload_n dX9_layBest_0 rfl 0 rfl ?_
  refine E_cVI (As := []) (rest := []) (sM_alikeCells G h) ck_X9_alikeCells lk_X9_341 rfl rfl kc_32 z32 rfl rfl rfl dX9_layBest_1 (fun r1 _ => ?_)
  refine E_istore_n (ls' := [(2, .int r1), (0, .ref (G.ad 32 0)), (1, .int v1)]) dX9_layBest_4 rfl (Nat.le_of_ble_eq_true rfl) rfl ?_
  refine E_aload_n dX9_layBest_5 rfl 1 rfl ?_
  refine E_iload_n dX9_layBest_6 rfl 2 rfl ?_
  refine E_cVI (As := [.int v1]) (rest := []) (sM_payable G h v1) ck_X9_payable lk_X9_344 rfl rfl kc_32 z32 rfl rfl rfl dX9_layBest_7 (fun r2 _ => ?_)
  refine E_istore_n (ls' := [(3, .int r2), (2, .int r1), (0, .ref (G.ad 32 0)), (1, .int v1)]) dX9_layBest_10 rfl (Nat.le_of_ble_eq_true rfl) rfl ?_
  refine E_aload_n dX9_layBest_11 rfl 2 rfl ?_
  refine E_iload_n dX9_layBest_12 rfl 3 rfl ?_
  refine E_cVI (As := [.int v1]) (rest := []) (sM_hasColours G h v1) ck_X9_hasColours lk_X9_347 rfl rfl kc_32 z32 rfl rfl rfl dX9_layBest_13 (fun r3 _ => ?_)
  refine E_if_eq (t := 26) dX9_layBest_16 rfl ?_ ?_
  · refine E_iconst (v := 0) dX9_layBest_26 rfl ?_
    exact E_sub [2, 3, 1, 0] rfl (sM_layBest_27 G v1 r1 r2 0 h)
  · refine E_aload_n dX9_layBest_19 rfl 2 rfl ?_
    refine E_cVI (As := []) (rest := []) (sM_allCells G h) ck_X9_allCells lk_X9_299 rfl rfl kc_32 z32 rfl rfl rfl dX9_layBest_20 (fun r4 _ => ?_)
    refine E_goto (t := 27) dX9_layBest_23 rfl ?_
    exact E_sub [2, 3, 1, 0] rfl (sM_layBest_27 G v1 r1 r2 r4 h)
def iM_best : MI := (yX9_best, cX9_best, 4, (some .int), { frames := 6, cells := 0, slots := 0, locals := 143 }, 1)
theorem ck_X9_best : CK iM_best 2 := ⟨⟨wd_113, wd_1737, by decide +kernel⟩, ⟨wd_1735, wd_1736⟩⟩
def jM_best (h : AH) (v1 : Int32) (v2 : Int32) : Option (Int32 × AH) :=
  (jM_good h).bind fun h1 =>
  if (gI h1 32 0 14) = 0 then ((jM_no h1 1).bind fun q2 =>
  some (q2.1, q2.2))
  else ((jM_within v2 0 2).bind fun r3 =>
  if r3 = 0 then ((jM_no h1 1).bind fun q8 =>
  some (q8.1, q8.2))
  else ((jM_yearWhy h1 v1).bind fun r4 =>
  if r4 = 0 then ((jM_layBest h1 v1).bind fun h5 =>
  if v2 = 0 then (some ((gI h5 32 0 31), h5))
  else (if v2 = 1 then ((jM_bits (gI h5 32 0 30)).bind fun r6 =>
  some (r6, h5))
  else (some ((gI h5 32 0 30), h5))))
  else ((jM_no h1 r4).bind fun q7 =>
  some (q7.1, q7.2))))
set_option maxRecDepth 20000 in
set_option maxHeartbeats 2000000 in
theorem sM_best (G : JG) (h : AH) (v1 : Int32) (v2 : Int32) : Mt G iM_best rvIM [.ref (G.ad 32 0), .int v1, .int v2] h (jM_best h v1 v2) := by
  refine Mt_of (by decide) (Nat.le_of_ble_eq_true rfl) ?_
  unfold jM_best
  show Sim G iM_best rvIM 0 [(0, .ref (G.ad 32 0)), (1, .int v1), (2, .int v2)] [] h _
  refine E_aload_n dX9_best_0 rfl 0 rfl ?_
  refine E_cVV (As := []) (rest := []) (sM_good G h) ck_X9_good lk_X9_155 rfl rfl kc_32 z32 rfl rfl rfl dX9_best_1 (fun h1 _ => ?_)
  refine E_aload_n dX9_best_4 rfl 0 rfl ?_
  refine E_getI fl_X9_168 dX9_best_5 z32 ?_
  refine E_if_eq (t := 20) dX9_best_8 rfl ?_ ?_
  · refine E_aload_n dX9_best_20 rfl 0 rfl ?_
    refine E_iconst (v := 1) dX9_best_21 rfl ?_
    refine E_cVIM (As := [.int 1]) (rest := []) (sM_no G h1 1) ck_X9_no lk_X9_158 rfl rfl kc_32 z32 rfl rfl rfl dX9_best_22 (fun q2 _ => ?_)
    exact E_iret rfl rfl dX9_best_25
  · refine E_iload_n dX9_best_11 rfl 2 rfl ?_
    refine E_iconst (v := 0) dX9_best_12 rfl ?_
    refine E_iconst (v := 2) dX9_best_13 rfl ?_
    refine E_cSI (As := [.int v2, .int 0, .int 2]) (rest := []) (sM_within G h1 v2 0 2) ck_X9_within lk_X9_139 rfl rfl rfl rfl rfl dX9_best_14 (fun r3 _ => ?_)
    refine E_if_ne (t := 26) dX9_best_17 rfl ?_ ?_
    · refine E_aload_n dX9_best_26 rfl 0 rfl ?_
      refine E_iload_n dX9_best_27 rfl 1 rfl ?_
      refine E_cVI (As := [.int v1]) (rest := []) (sM_yearWhy G h1 v1) ck_X9_yearWhy lk_X9_356 rfl rfl kc_32 z32 rfl rfl rfl dX9_best_28 (fun r4 _ => ?_)
      refine E_istore_n (ls' := [(3, .int r4), (0, .ref (G.ad 32 0)), (1, .int v1), (2, .int v2)]) dX9_best_31 rfl (Nat.le_of_ble_eq_true rfl) rfl ?_
      refine E_iload_n dX9_best_32 rfl 0 rfl ?_
      refine E_if_eq (t := 42) dX9_best_33 rfl ?_ ?_
      · refine E_aload_n dX9_best_42 rfl 1 rfl ?_
        refine E_iload_n dX9_best_43 rfl 2 rfl ?_
        refine E_cVV (As := [.int v1]) (rest := []) (sM_layBest G h1 v1) ck_X9_layBest lk_X9_359 rfl rfl kc_32 z32 rfl rfl rfl dX9_best_44 (fun h5 _ => ?_)
        refine E_iload_n dX9_best_47 rfl 3 rfl ?_
        refine E_if_ne (t := 58) dX9_best_48 rfl ?_ ?_
        · refine E_iload_n dX9_best_58 rfl 3 rfl ?_
          refine E_iconst (v := 1) dX9_best_59 rfl ?_
          refine E_icmp_ne (t := 73) dX9_best_60 rfl ?_ ?_
          · refine E_aload_n dX9_best_73 rfl 1 rfl ?_
            refine E_getI fl_X9_350 dX9_best_74 z32 ?_
            exact E_iret rfl rfl dX9_best_77
          · refine E_aload_n dX9_best_63 rfl 1 rfl ?_
            refine E_getI fl_X9_350 dX9_best_64 z32 ?_
            refine E_cSI (As := [.int (gI h5 32 0 30)]) (rest := []) (sM_bits G h5 (gI h5 32 0 30)) ck_X9_bits lk_X9_302 rfl rfl rfl rfl rfl dX9_best_67 (fun r6 _ => ?_)
            refine E_goto (t := 77) dX9_best_70 rfl ?_
            exact E_iret rfl rfl dX9_best_77
        · refine E_aload_n dX9_best_51 rfl 1 rfl ?_
          refine E_getI fl_X9_353 dX9_best_52 z32 ?_
          refine E_goto (t := 77) dX9_best_55 rfl ?_
          exact E_iret rfl rfl dX9_best_77
      · refine E_aload_n dX9_best_36 rfl 1 rfl ?_
        refine E_iload_n dX9_best_37 rfl 0 rfl ?_
        refine E_cVIM (As := [.int r4]) (rest := []) (sM_no G h1 r4) ck_X9_no lk_X9_158 rfl rfl kc_32 z32 rfl rfl rfl dX9_best_38 (fun q7 _ => ?_)
        exact E_iret rfl rfl dX9_best_41
    · refine E_aload_n dX9_best_20 rfl 0 rfl ?_
      refine E_iconst (v := 1) dX9_best_21 rfl ?_
      refine E_cVIM (As := [.int 1]) (rest := []) (sM_no G h1 1) ck_X9_no lk_X9_158 rfl rfl kc_32 z32 rfl rfl rfl dX9_best_22 (fun q8 _ => ?_)
      exact E_iret rfl rfl dX9_best_25
def iM_must : MI := (yX9_must, cX9_must, 2, none, { frames := 5, cells := 0, slots := 0, locals := 108 }, 1)
theorem ck_X9_must : CK iM_must 1 := ⟨⟨wd_113, wd_1442, by decide +kernel⟩, ⟨wd_1441, wd_50⟩⟩
def jM_must (h : AH) (t1 : Nat) : Option (AH) :=
  if (gI h 32 0 13) = 0 then ((jM_isWord h t1).bind fun r1 =>
  if r1 = 0 then ((jM_wrong h 1 (gI h 32 0 4)).bind fun h2 =>
  some h2)
  else ((jM_next h).bind fun h3 =>
  some h3))
  else (some h)
set_option maxRecDepth 20000 in
set_option maxHeartbeats 2000000 in
theorem sM_must (G : JG) (h : AH) (t1 : Nat) (ht1 : t1 < 17) : Mt G iM_must rvV [.ref (G.ad 32 0), .ref (G.aK t1)] h (jM_must h t1) := by
  refine Mt_of (by decide) (Nat.le_of_ble_eq_true rfl) ?_
  unfold jM_must
  show Sim G iM_must rvV 0 [(0, .ref (G.ad 32 0)), (1, .ref (G.aK t1))] [] h _
  refine E_aload_n dX9_must_0 rfl 0 rfl ?_
  refine E_getI fl_X9_93 dX9_must_1 z32 ?_
  refine E_if_eq (t := 8) dX9_must_4 rfl ?_ ?_
  · refine E_aload_n dX9_must_8 rfl 0 rfl ?_
    refine E_aload_n dX9_must_9 rfl 1 rfl ?_
    refine E_cVI (As := [.ref (G.aK t1)]) (rest := []) (sM_isWord G h t1 ht1) ck_X9_isWord lk_X9_110 rfl rfl kc_32 z32 rfl rfl rfl dX9_must_10 (fun r1 _ => ?_)
    refine E_if_eq (t := 23) dX9_must_13 rfl ?_ ?_
    · refine E_aload_n dX9_must_23 rfl 0 rfl ?_
      refine E_iconst (v := 1) dX9_must_24 rfl ?_
      refine E_aload_n dX9_must_25 rfl 0 rfl ?_
      refine E_getI fl_X9_74 dX9_must_26 z32 ?_
      refine E_cVV (As := [.int 1, .int (gI h 32 0 4)]) (rest := []) (sM_wrong G h 1 (gI h 32 0 4)) ck_X9_wrong lk_X9_117 rfl rfl kc_32 z32 rfl rfl rfl dX9_must_29 (fun h2 _ => ?_)
      exact E_vret rfl rfl dX9_must_32
    · refine E_aload_n dX9_must_16 rfl 0 rfl ?_
      refine E_cVV (As := []) (rest := []) (sM_next G h) ck_X9_next lk_X9_114 rfl rfl kc_32 z32 rfl rfl rfl dX9_must_17 (fun h3 _ => ?_)
      refine E_goto (t := 32) dX9_must_20 rfl ?_
      exact E_vret rfl rfl dX9_must_32
  · exact E_vret rfl rfl dX9_must_7
def iM_number : MI := (yX9_number, cX9_number, 4, (some .int), { frames := 2, cells := 0, slots := 0, locals := 44 }, 1)
theorem ck_X9_number : CK iM_number 2 := ⟨⟨wd_113, wd_1446, by decide +kernel⟩, ⟨wd_1445, wd_51⟩⟩
def jM_number (h : AH) (v1 : Int32) (v2 : Int32) : Option (Int32 × AH) :=
  if (gI h 32 0 13) = 0 then (if (gI h 32 0 6) = 3 then ((jM_within (gI h 32 0 7) v1 v2).bind fun r1 =>
  if r1 = 0 then ((jM_wrong h 4 (gI h 32 0 4)).bind fun h3 =>
  some (v1, h3))
  else ((jM_next h).bind fun h2 =>
  some ((gI h 32 0 7), h2)))
  else ((jM_wrong h 1 (gI h 32 0 4)).bind fun h4 =>
  some (v1, h4)))
  else (some (v1, h))
set_option maxRecDepth 20000 in
set_option maxHeartbeats 2000000 in
theorem sM_number (G : JG) (h : AH) (v1 : Int32) (v2 : Int32) : Mt G iM_number rvIM [.ref (G.ad 32 0), .int v1, .int v2] h (jM_number h v1 v2) := by
  refine Mt_of (by decide) (Nat.le_of_ble_eq_true rfl) ?_
  unfold jM_number
  show Sim G iM_number rvIM 0 [(0, .ref (G.ad 32 0)), (1, .int v1), (2, .int v2)] [] h _
  refine E_aload_n dX9_number_0 rfl 0 rfl ?_
  refine E_getI fl_X9_93 dX9_number_1 z32 ?_
  refine E_if_eq (t := 9) dX9_number_4 rfl ?_ ?_
  · refine E_aload_n dX9_number_9 rfl 0 rfl ?_
    refine E_getI fl_X9_83 dX9_number_10 z32 ?_
    refine E_iconst (v := 3) dX9_number_13 rfl ?_
    refine E_icmp_eq (t := 28) dX9_number_14 rfl ?_ ?_
    · refine E_aload_n dX9_number_28 rfl 0 rfl ?_
      refine E_getI fl_X9_80 dX9_number_29 z32 ?_
      refine E_istore_n (ls' := [(3, .int (gI h 32 0 7)), (0, .ref (G.ad 32 0)), (1, .int v1), (2, .int v2)]) dX9_number_32 rfl (Nat.le_of_ble_eq_true rfl) rfl ?_
      refine E_iload_n dX9_number_33 rfl 0 rfl ?_
      refine E_iload_n dX9_number_34 rfl 2 rfl ?_
      refine E_iload_n dX9_number_35 rfl 3 rfl ?_
      refine E_cSI (As := [.int (gI h 32 0 7), .int v1, .int v2]) (rest := []) (sM_within G h (gI h 32 0 7) v1 v2) ck_X9_within lk_X9_139 rfl rfl rfl rfl rfl dX9_number_36 (fun r1 _ => ?_)
      refine E_if_ne (t := 53) dX9_number_39 rfl ?_ ?_
      · refine E_aload_n dX9_number_53 rfl 1 rfl ?_
        refine E_cVV (As := []) (rest := []) (sM_next G h) ck_X9_next lk_X9_114 rfl rfl kc_32 z32 rfl rfl rfl dX9_number_54 (fun h2 _ => ?_)
        refine E_iload_n dX9_number_57 rfl 0 rfl ?_
        exact E_iret rfl rfl dX9_number_58
      · refine E_aload_n dX9_number_42 rfl 1 rfl ?_
        refine E_iconst (v := 4) dX9_number_43 rfl ?_
        refine E_aload_n dX9_number_44 rfl 1 rfl ?_
        refine E_getI fl_X9_74 dX9_number_45 z32 ?_
        refine E_cVV (As := [.int 4, .int (gI h 32 0 4)]) (rest := []) (sM_wrong G h 4 (gI h 32 0 4)) ck_X9_wrong lk_X9_117 rfl rfl kc_32 z32 rfl rfl rfl dX9_number_48 (fun h3 _ => ?_)
        refine E_iload_n dX9_number_51 rfl 2 rfl ?_
        exact E_iret rfl rfl dX9_number_52
    · refine E_aload_n dX9_number_17 rfl 0 rfl ?_
      refine E_iconst (v := 1) dX9_number_18 rfl ?_
      refine E_aload_n dX9_number_19 rfl 0 rfl ?_
      refine E_getI fl_X9_74 dX9_number_20 z32 ?_
      refine E_cVV (As := [.int 1, .int (gI h 32 0 4)]) (rest := []) (sM_wrong G h 1 (gI h 32 0 4)) ck_X9_wrong lk_X9_117 rfl rfl kc_32 z32 rfl rfl rfl dX9_number_23 (fun h4 _ => ?_)
      refine E_iload_n dX9_number_26 rfl 1 rfl ?_
      exact E_iret rfl rfl dX9_number_27
  · refine E_iload_n dX9_number_7 rfl 1 rfl ?_
    exact E_iret rfl rfl dX9_number_8
def iM_told : MI := (yX9_told, cX9_told, 4, (some .int), { frames := 6, cells := 0, slots := 0, locals := 129 }, 1)
theorem ck_X9_told : CK iM_told 3 := ⟨⟨wd_113, wd_1438, by decide +kernel⟩, ⟨wd_1437, wd_49⟩⟩
def jM_told (h : AH) (t1 : Nat) (v2 : Int32) (v3 : Int32) : Option (Int32 × AH) :=
  (jM_must h t1).bind fun h1 =>
  (jM_number h1 v2 v3).bind fun q2 =>
  some (q2.1, q2.2)
set_option maxRecDepth 20000 in
set_option maxHeartbeats 2000000 in
theorem sM_told (G : JG) (h : AH) (t1 : Nat) (ht1 : t1 < 17) (v2 : Int32) (v3 : Int32) : Mt G iM_told rvIM [.ref (G.ad 32 0), .ref (G.aK t1), .int v2, .int v3] h (jM_told h t1 v2 v3) := by
  refine Mt_of (by decide) (Nat.le_of_ble_eq_true rfl) ?_
  unfold jM_told
  show Sim G iM_told rvIM 0 [(0, .ref (G.ad 32 0)), (1, .ref (G.aK t1)), (2, .int v2), (3, .int v3)] [] h _
  refine E_aload_n dX9_told_0 rfl 0 rfl ?_
  refine E_aload_n dX9_told_1 rfl 1 rfl ?_
  refine E_cVV (As := [.ref (G.aK t1)]) (rest := []) (sM_must G h t1 ht1) ck_X9_must lk_X9_143 rfl rfl kc_32 z32 rfl rfl rfl dX9_told_2 (fun h1 _ => ?_)
  refine E_aload_n dX9_told_5 rfl 0 rfl ?_
  refine E_iload_n dX9_told_6 rfl 2 rfl ?_
  refine E_iload_n dX9_told_7 rfl 3 rfl ?_
  refine E_cVIM (As := [.int v2, .int v3]) (rest := []) (sM_number G h1 v2 v3) ck_X9_number lk_X9_147 rfl rfl kc_32 z32 rfl rfl rfl dX9_told_8 (fun q2 _ => ?_)
  exact E_iret rfl rfl dX9_told_11
def iM_wallLine : MI := (yX9_wallLine, cX9_wallLine, 2, none, { frames := 7, cells := 0, slots := 0, locals := 152 }, 1)
theorem ck_X9_wallLine : CK iM_wallLine 0 := ⟨⟨wd_113, wd_1433, by decide +kernel⟩, ⟨wd_1432, wd_48⟩⟩
def jM_wallLine (h : AH)  : Option (AH) :=
  if (gI h 32 0 13) = 0 then ((jM_told h 6 1 6).bind fun q1 =>
  (jM_told q1.2 7 1 4).bind fun q2 =>
  if inb 1 161 = true then (
  jb (uI q2.2 36 0 (1 : Int32).toNatClampNeg q2.1) fun h3 =>
  if inb 1 161 = true then (
  (jM_told h3 8 0 (q1.1 * (gI h3 36 0 (1 : Int32).toNatClampNeg))).bind fun q4 =>
  if inb 2 161 = true then (
  jb (uI q4.2 36 0 (2 : Int32).toNatClampNeg q4.1) fun h5 =>
  (jM_told h5 9 0 9).bind fun q6 =>
  if inb 3 161 = true then (
  jb (uI q6.2 36 0 (3 : Int32).toNatClampNeg q6.1) fun h7 =>
  if (gI h7 32 0 13) = 0 then (if inb 0 161 = true then (
  jb (uI h7 36 0 (0 : Int32).toNatClampNeg q1.1) fun h8 =>
  some h8) else none)
  else (some h7)) else none) else none) else none) else none)
  else (some h)
set_option maxRecDepth 20000 in
set_option maxHeartbeats 2000000 in
theorem sM_wallLine (G : JG) (h : AH)  : Mt G iM_wallLine rvV [.ref (G.ad 32 0)] h (jM_wallLine h) := by
  refine Mt_of (by decide) (Nat.le_of_ble_eq_true rfl) ?_
  unfold jM_wallLine
  show Sim G iM_wallLine rvV 0 [(0, .ref (G.ad 32 0))] [] h _
  refine E_aload_n dX9_wallLine_0 rfl 0 rfl ?_
  refine E_getI fl_X9_93 dX9_wallLine_1 z32 ?_
  refine E_if_eq (t := 8) dX9_wallLine_4 rfl ?_ ?_
  · refine E_aload_n dX9_wallLine_8 rfl 0 rfl ?_
    refine E_ldcS (i := 6) rfl rfl (by decide) rfl dX9_wallLine_9 ?_
    refine E_iconst (v := 1) dX9_wallLine_11 rfl ?_
    refine E_bipush (v := 6) dX9_wallLine_12 rfl ?_
    refine E_cVIM (As := [.ref (G.aK 6), .int 1, .int 6]) (rest := []) (sM_told G h 6 (by decide) 1 6) ck_X9_told lk_X9_201 rfl rfl kc_32 z32 rfl rfl rfl dX9_wallLine_14 (fun q1 _ => ?_)
    refine E_istore_n (ls' := [(1, .int q1.1), (0, .ref (G.ad 32 0))]) dX9_wallLine_17 rfl (Nat.le_of_ble_eq_true rfl) rfl ?_
    refine E_aload_n dX9_wallLine_18 rfl 1 rfl ?_
    refine E_getF fl_X9_23 dX9_wallLine_19 z32 ?_
    refine E_iconst (v := 1) dX9_wallLine_22 rfl ?_
    refine E_aload_n dX9_wallLine_23 rfl 1 rfl ?_
    refine E_ldcS (i := 7) rfl rfl (by decide) rfl dX9_wallLine_24 ?_
    refine E_iconst (v := 1) dX9_wallLine_26 rfl ?_
    refine E_iconst (v := 4) dX9_wallLine_27 rfl ?_
    refine E_cVIM (As := [.ref (G.aK 7), .int 1, .int 4]) (rest := [.int 1, .ref (G.ad 36 0)]) (sM_told G q1.2 7 (by decide) 1 4) ck_X9_told lk_X9_201 rfl rfl kc_32 z32 rfl rfl rfl dX9_wallLine_28 (fun q2 _ => ?_)
    refine E_iast (n := 161) rfl dX9_wallLine_31 z36 (fun _ => ?_)
    refine E_hgen (fun h3 => ?_)
    refine E_aload_n dX9_wallLine_32 rfl 1 rfl ?_
    refine E_getF fl_X9_23 dX9_wallLine_33 z32 ?_
    refine E_iconst (v := 2) dX9_wallLine_36 rfl ?_
    refine E_aload_n dX9_wallLine_37 rfl 1 rfl ?_
    refine E_ldcS (i := 8) rfl rfl (by decide) rfl dX9_wallLine_38 ?_
    refine E_iconst (v := 0) dX9_wallLine_40 rfl ?_
    refine E_iload_n dX9_wallLine_41 rfl 0 rfl ?_
    refine E_aload_n dX9_wallLine_42 rfl 1 rfl ?_
    refine E_getF fl_X9_23 dX9_wallLine_43 z32 ?_
    refine E_iconst (v := 1) dX9_wallLine_46 rfl ?_
    refine E_iald (n := 161) rfl dX9_wallLine_47 z36 (fun _ => ?_)
    refine E_imul dX9_wallLine_48 ?_
    refine E_cVIM (As := [.ref (G.aK 8), .int 0, .int (q1.1 * (gI h3 36 0 (1 : Int32).toNatClampNeg))]) (rest := [.int 2, .ref (G.ad 36 0)]) (sM_told G h3 8 (by decide) 0 (q1.1 * (gI h3 36 0 (1 : Int32).toNatClampNeg))) ck_X9_told lk_X9_201 rfl rfl kc_32 z32 rfl rfl rfl dX9_wallLine_49 (fun q4 _ => ?_)
    refine E_iast (n := 161) rfl dX9_wallLine_52 z36 (fun _ => ?_)
    refine E_hgen (fun h5 => ?_)
    refine E_aload_n dX9_wallLine_53 rfl 1 rfl ?_
    refine E_getF fl_X9_23 dX9_wallLine_54 z32 ?_
    refine E_iconst (v := 3) dX9_wallLine_57 rfl ?_
    refine E_aload_n dX9_wallLine_58 rfl 1 rfl ?_
    refine E_ldcS (i := 9) rfl rfl (by decide) rfl dX9_wallLine_59 ?_
    refine E_iconst (v := 0) dX9_wallLine_61 rfl ?_
    refine E_bipush (v := 9) dX9_wallLine_62 rfl ?_
    refine E_cVIM (As := [.ref (G.aK 9), .int 0, .int 9]) (rest := [.int 3, .ref (G.ad 36 0)]) (sM_told G h5 9 (by decide) 0 9) ck_X9_told lk_X9_201 rfl rfl kc_32 z32 rfl rfl rfl dX9_wallLine_64 (fun q6 _ => ?_)
    refine E_iast (n := 161) rfl dX9_wallLine_67 z36 (fun _ => ?_)
    refine E_hgen (fun h7 => ?_)
    refine E_aload_n dX9_wallLine_68 rfl 1 rfl ?_
    refine E_getI fl_X9_93 dX9_wallLine_69 z32 ?_
    refine E_if_ne (t := 82) dX9_wallLine_72 rfl ?_ ?_
    · exact E_vret rfl rfl dX9_wallLine_82
    · refine E_aload_n dX9_wallLine_75 rfl 1 rfl ?_
      refine E_getF fl_X9_23 dX9_wallLine_76 z32 ?_
      refine E_iconst (v := 0) dX9_wallLine_79 rfl ?_
      refine E_iload_n dX9_wallLine_80 rfl 0 rfl ?_
      refine E_iast (n := 161) rfl dX9_wallLine_81 z36 (fun _ => ?_)
      refine E_hgen (fun h8 => ?_)
      exact E_vret rfl rfl dX9_wallLine_82
  · exact E_vret rfl rfl dX9_wallLine_7
def iM_mustName : MI := (yX9_mustName, cX9_mustName, 2, none, { frames := 5, cells := 0, slots := 0, locals := 108 }, 1)
theorem ck_X9_mustName : CK iM_mustName 0 := ⟨⟨wd_113, wd_1462, by decide +kernel⟩, ⟨wd_1461, wd_54⟩⟩
def jM_mustName_59  (s0 : Int32) (h : AH) : Option (AH) :=
  if (gI h 32 0 6) = 2 then (if s0 = 0 then (some h)
  else ((jM_wrong h 1 (gI h 32 0 4)).bind fun h2 =>
  some h2))
  else ((jM_wrong h 1 (gI h 32 0 4)).bind fun h1 =>
  some h1)
set_option maxRecDepth 20000 in
set_option maxHeartbeats 2000000 in
theorem sM_mustName_59 (G : JG)   (s0 : Int32) (h : AH) : Sim G iM_mustName rvV 59 [(0, .ref (G.ad 32 0))] [.int s0] h (jM_mustName_59 s0 h) := by
  unfold jM_mustName_59
  refine E_istore_n (ls' := [(1, .int s0), (0, .ref (G.ad 32 0))]) dX9_mustName_59 rfl (Nat.le_of_ble_eq_true rfl) rfl ?_
  refine E_aload_n dX9_mustName_60 rfl 1 rfl ?_
  refine E_getI fl_X9_83 dX9_mustName_61 z32 ?_
  refine E_iconst (v := 2) dX9_mustName_64 rfl ?_
  refine E_icmp_ne (t := 72) dX9_mustName_65 rfl ?_ ?_
  · refine E_aload_n dX9_mustName_72 rfl 1 rfl ?_
    refine E_iconst (v := 1) dX9_mustName_73 rfl ?_
    refine E_aload_n dX9_mustName_74 rfl 1 rfl ?_
    refine E_getI fl_X9_74 dX9_mustName_75 z32 ?_
    refine E_cVV (As := [.int 1, .int (gI h 32 0 4)]) (rest := []) (sM_wrong G h 1 (gI h 32 0 4)) ck_X9_wrong lk_X9_117 rfl rfl kc_32 z32 rfl rfl rfl dX9_mustName_78 (fun h1 _ => ?_)
    exact E_vret rfl rfl dX9_mustName_81
  · refine E_iload_n dX9_mustName_68 rfl 0 rfl ?_
    refine E_if_eq (t := 81) dX9_mustName_69 rfl ?_ ?_
    · exact E_vret rfl rfl dX9_mustName_81
    · refine E_aload_n dX9_mustName_72 rfl 1 rfl ?_
      refine E_iconst (v := 1) dX9_mustName_73 rfl ?_
      refine E_aload_n dX9_mustName_74 rfl 1 rfl ?_
      refine E_getI fl_X9_74 dX9_mustName_75 z32 ?_
      refine E_cVV (As := [.int 1, .int (gI h 32 0 4)]) (rest := []) (sM_wrong G h 1 (gI h 32 0 4)) ck_X9_wrong lk_X9_117 rfl rfl kc_32 z32 rfl rfl rfl dX9_mustName_78 (fun h2 _ => ?_)
      exact E_vret rfl rfl dX9_mustName_81
def jM_mustName_54  (h : AH) : Option (AH) :=
  (jM_mustName_59 1 h)
set_option maxRecDepth 20000 in
set_option maxHeartbeats 2000000 in
theorem sM_mustName_54 (G : JG)   (h : AH) : Sim G iM_mustName rvV 54 [(0, .ref (G.ad 32 0))] [] h (jM_mustName_54 h) := by
  unfold jM_mustName_54
  refine E_iconst (v := 1) dX9_mustName_54 rfl ?_
  refine E_goto (t := 59) dX9_mustName_55 rfl ?_
  exact E_sub [0] rfl (sM_mustName_59 G 1 h)
def jM_mustName (h : AH)  : Option (AH) :=
  (jM_isWord h 0).bind fun r1 =>
  if r1 = 0 then ((jM_isWord h 1).bind fun r2 =>
  if r2 = 0 then ((jM_isWord h 2).bind fun r3 =>
  if r3 = 0 then ((jM_isWord h 3).bind fun r4 =>
  if r4 = 0 then ((jM_isWord h 4).bind fun r5 =>
  if r5 = 0 then ((jM_isWord h 5).bind fun r6 =>
  if r6 = 0 then ((jM_mustName_59 0 h))
  else ((jM_mustName_54 h)))
  else ((jM_mustName_54 h)))
  else ((jM_mustName_54 h)))
  else ((jM_mustName_54 h)))
  else ((jM_mustName_54 h)))
  else ((jM_mustName_54 h))
set_option maxRecDepth 20000 in
set_option maxHeartbeats 2000000 in
theorem sM_mustName (G : JG) (h : AH)  : Mt G iM_mustName rvV [.ref (G.ad 32 0)] h (jM_mustName h) := by
  refine Mt_of (by decide) (Nat.le_of_ble_eq_true rfl) ?_
  unfold jM_mustName
  show Sim G iM_mustName rvV 0 [(0, .ref (G.ad 32 0))] [] h _
  refine E_aload_n dX9_mustName_0 rfl 0 rfl ?_
  refine E_ldcS (i := 0) rfl rfl (by decide) rfl dX9_mustName_1 ?_
  refine E_cVI (As := [.ref (G.aK 0)]) (rest := []) (sM_isWord G h 0 (by decide)) ck_X9_isWord lk_X9_110 rfl rfl kc_32 z32 rfl rfl rfl dX9_mustName_3 (fun r1 _ => ?_)
  refine E_if_ne (t := 54) dX9_mustName_6 rfl ?_ ?_
  · exact E_sub [0] rfl (sM_mustName_54 G h)
  · refine E_aload_n dX9_mustName_9 rfl 0 rfl ?_
    refine E_ldcS (i := 1) rfl rfl (by decide) rfl dX9_mustName_10 ?_
    refine E_cVI (As := [.ref (G.aK 1)]) (rest := []) (sM_isWord G h 1 (by decide)) ck_X9_isWord lk_X9_110 rfl rfl kc_32 z32 rfl rfl rfl dX9_mustName_12 (fun r2 _ => ?_)
    refine E_if_ne (t := 54) dX9_mustName_15 rfl ?_ ?_
    · exact E_sub [0] rfl (sM_mustName_54 G h)
    · refine E_aload_n dX9_mustName_18 rfl 0 rfl ?_
      refine E_ldcS (i := 2) rfl rfl (by decide) rfl dX9_mustName_19 ?_
      refine E_cVI (As := [.ref (G.aK 2)]) (rest := []) (sM_isWord G h 2 (by decide)) ck_X9_isWord lk_X9_110 rfl rfl kc_32 z32 rfl rfl rfl dX9_mustName_21 (fun r3 _ => ?_)
      refine E_if_ne (t := 54) dX9_mustName_24 rfl ?_ ?_
      · exact E_sub [0] rfl (sM_mustName_54 G h)
      · refine E_aload_n dX9_mustName_27 rfl 0 rfl ?_
        refine E_ldcS (i := 3) rfl rfl (by decide) rfl dX9_mustName_28 ?_
        refine E_cVI (As := [.ref (G.aK 3)]) (rest := []) (sM_isWord G h 3 (by decide)) ck_X9_isWord lk_X9_110 rfl rfl kc_32 z32 rfl rfl rfl dX9_mustName_30 (fun r4 _ => ?_)
        refine E_if_ne (t := 54) dX9_mustName_33 rfl ?_ ?_
        · exact E_sub [0] rfl (sM_mustName_54 G h)
        · refine E_aload_n dX9_mustName_36 rfl 0 rfl ?_
          refine E_ldcS (i := 4) rfl rfl (by decide) rfl dX9_mustName_37 ?_
          refine E_cVI (As := [.ref (G.aK 4)]) (rest := []) (sM_isWord G h 4 (by decide)) ck_X9_isWord lk_X9_110 rfl rfl kc_32 z32 rfl rfl rfl dX9_mustName_39 (fun r5 _ => ?_)
          refine E_if_ne (t := 54) dX9_mustName_42 rfl ?_ ?_
          · exact E_sub [0] rfl (sM_mustName_54 G h)
          · refine E_aload_n dX9_mustName_45 rfl 0 rfl ?_
            refine E_ldcS (i := 5) rfl rfl (by decide) rfl dX9_mustName_46 ?_
            refine E_cVI (As := [.ref (G.aK 5)]) (rest := []) (sM_isWord G h 5 (by decide)) ck_X9_isWord lk_X9_110 rfl rfl kc_32 z32 rfl rfl rfl dX9_mustName_48 (fun r6 _ => ?_)
            refine E_if_eq (t := 58) dX9_mustName_51 rfl ?_ ?_
            · refine E_iconst (v := 0) dX9_mustName_58 rfl ?_
              exact E_sub [0] rfl (sM_mustName_59 G 0 h)
            · exact E_sub [0] rfl (sM_mustName_54 G h)
def iM_find : MI := (yX9_find, cX9_find, 4, (some .int), { frames := 0, cells := 0, slots := 0, locals := 0 }, 1)
theorem ck_X9_find : CK iM_find 0 := ⟨⟨wd_113, wd_1470, by decide +kernel⟩, ⟨wd_1469, wd_55⟩⟩
def jM_find_91 (h : AH)  (k_2 : Int32 → Option Int32) (v1 : Int32) (v2 : Int32) : Option (Int32) :=
  if v2 = 0 then ((k_2 (v1 + 1)))
  else (some v1)
set_option maxRecDepth 20000 in
set_option maxHeartbeats 2000000 in
theorem sM_find_91 (G : JG) (h : AH)  (k_2 : Int32 → Option Int32) (hk_2 : ∀ (v1 : Int32), Sim G iM_find (rvI h) 2 [(0, .ref (G.ad 32 0)), (1, .int v1)] [] h (k_2 v1)) (v1 : Int32) (v2 : Int32) : Sim G iM_find (rvI h) 91 [(0, .ref (G.ad 32 0)), (1, .int v1), (2, .int v2)] [] h (jM_find_91 h k_2 v1 v2) := by
  unfold jM_find_91
  refine E_iload_n dX9_find_91 rfl 2 rfl ?_
  refine E_if_eq (t := 97) dX9_find_92 rfl ?_ ?_
  · refine E_iinc (q := 1) (v := (v1 + 1)) (ls' := [(1, .int (v1 + 1)), (0, .ref (G.ad 32 0)), (2, .int v2)]) dX9_find_97 rfl rfl (Nat.le_of_ble_eq_true rfl) rfl ?_
    refine E_goto (t := 2) dX9_find_100 rfl ?_
    exact E_sub [1, 0] rfl (hk_2 (v1 + 1))
  · refine E_iload_n dX9_find_95 rfl 1 rfl ?_
    exact E_iret rfl rfl dX9_find_96
def jM_find_44 (h : AH)  (k_2 : Int32 → Option Int32) : Nat → Int32 → Int32 → Int32 → Option (Int32)
  | 0, _, _, _ => none
  | n + 1, v1, v2, v3 =>
    if v3 < (gI h 32 0 8) then (if v2 = 0 then ((jM_find_91 h k_2 v1 v2))
    else (if inb ((81 + (8 * v1)) + v3) 161 = true then (
    if inb v3 8 = true then (
    if (gI h 36 0 ((81 + (8 * v1)) + v3).toNatClampNeg) = (gI h 34 0 v3.toNatClampNeg) then ((jM_find_44 h k_2 n v1 1 (v3 + 1)))
    else ((jM_find_44 h k_2 n v1 0 (v3 + 1)))) else none) else none))
    else ((jM_find_91 h k_2 v1 v2))
set_option maxRecDepth 20000 in
set_option maxHeartbeats 2000000 in
theorem sM_find_44 (G : JG) (h : AH)  (k_2 : Int32 → Option Int32) (hk_2 : ∀ (v1 : Int32), Sim G iM_find (rvI h) 2 [(0, .ref (G.ad 32 0)), (1, .int v1)] [] h (k_2 v1)) : ∀ (n : Nat) (v1 : Int32) (v2 : Int32) (v3 : Int32), Sim G iM_find (rvI h) 44 [(0, .ref (G.ad 32 0)), (1, .int v1), (2, .int v2), (3, .int v3)] [] h (jM_find_44 h k_2 n v1 v2 v3) := by
  intro n
  induction n with
  | zero => intro v1 v2 v3; exact E_none
  | succ n ih =>
    intro v1 v2 v3
    rw [jM_find_44]
    refine E_iload_n dX9_find_44 rfl 3 rfl ?_
    refine E_aload_n dX9_find_45 rfl 0 rfl ?_
    refine E_getI fl_X9_77 dX9_find_46 z32 ?_
    refine E_icmp_ge (t := 91) dX9_find_49 rfl ?_ ?_
    · exact E_sub [0, 1, 2] rfl (sM_find_91 G h k_2 hk_2 v1 v2)
    · refine E_iload_n dX9_find_52 rfl 2 rfl ?_
      refine E_if_eq (t := 91) dX9_find_53 rfl ?_ ?_
      · exact E_sub [0, 1, 2] rfl (sM_find_91 G h k_2 hk_2 v1 v2)
      · refine E_aload_n dX9_find_56 rfl 0 rfl ?_
        refine E_getF fl_X9_23 dX9_find_57 z32 ?_
        refine E_bipush (v := 81) dX9_find_60 rfl ?_
        refine E_bipush (v := 8) dX9_find_62 rfl ?_
        refine E_iload_n dX9_find_64 rfl 1 rfl ?_
        refine E_imul dX9_find_65 ?_
        refine E_iadd dX9_find_66 ?_
        refine E_iload_n dX9_find_67 rfl 3 rfl ?_
        refine E_iadd dX9_find_68 ?_
        refine E_iald (n := 161) rfl dX9_find_69 z36 (fun _ => ?_)
        refine E_aload_n dX9_find_70 rfl 0 rfl ?_
        refine E_getF fl_X9_17 dX9_find_71 z32 ?_
        refine E_iload_n dX9_find_74 rfl 3 rfl ?_
        refine E_iald (n := 8) rfl dX9_find_75 z34 (fun _ => ?_)
        refine E_icmp_ne (t := 83) dX9_find_76 rfl ?_ ?_
        · refine E_iconst (v := 0) dX9_find_83 rfl ?_
          refine E_istore_n (ls' := [(2, .int 0), (0, .ref (G.ad 32 0)), (1, .int v1), (3, .int v3)]) dX9_find_84 rfl (Nat.le_of_ble_eq_true rfl) rfl ?_
          refine E_iinc (q := 3) (v := (v3 + 1)) (ls' := [(3, .int (v3 + 1)), (2, .int 0), (0, .ref (G.ad 32 0)), (1, .int v1)]) dX9_find_85 rfl rfl (Nat.le_of_ble_eq_true rfl) rfl ?_
          refine E_goto (t := 44) dX9_find_88 rfl ?_
          exact E_sub [2, 3, 1, 0] rfl (ih v1 0 (v3 + 1))
        · refine E_iconst (v := 1) dX9_find_79 rfl ?_
          refine E_goto (t := 84) dX9_find_80 rfl ?_
          refine E_istore_n (ls' := [(2, .int 1), (0, .ref (G.ad 32 0)), (1, .int v1), (3, .int v3)]) dX9_find_84 rfl (Nat.le_of_ble_eq_true rfl) rfl ?_
          refine E_iinc (q := 3) (v := (v3 + 1)) (ls' := [(3, .int (v3 + 1)), (2, .int 1), (0, .ref (G.ad 32 0)), (1, .int v1)]) dX9_find_85 rfl rfl (Nat.le_of_ble_eq_true rfl) rfl ?_
          refine E_goto (t := 44) dX9_find_88 rfl ?_
          exact E_sub [2, 3, 1, 0] rfl (ih v1 1 (v3 + 1))
def jM_find_2 (h : AH) : Nat → Int32 → Option (Int32)
  | 0, _ => none
  | n + 1, v1 =>
    if v1 < 10 then (if inb (71 + v1) 161 = true then (
    if (gI h 36 0 (71 + v1).toNatClampNeg) ≤ 0 then ((jM_find_44 h (jM_find_2 h n) FU v1 0 0))
    else (if inb (71 + v1) 161 = true then (
    if (gI h 36 0 (71 + v1).toNatClampNeg) = (gI h 32 0 8) then ((jM_find_44 h (jM_find_2 h n) FU v1 1 0))
    else ((jM_find_44 h (jM_find_2 h n) FU v1 0 0))) else none)) else none)
    else (some (-1))
set_option maxRecDepth 20000 in
set_option maxHeartbeats 2000000 in
theorem sM_find_2 (G : JG) (h : AH)   : ∀ (n : Nat) (v1 : Int32), Sim G iM_find (rvI h) 2 [(0, .ref (G.ad 32 0)), (1, .int v1)] [] h (jM_find_2 h n v1) := by
  intro n
  induction n with
  | zero => intro v1; exact E_none
  | succ n ih =>
    intro v1
    rw [jM_find_2]
    refine E_iload_n dX9_find_2 rfl 1 rfl ?_
    refine E_bipush (v := 10) dX9_find_3 rfl ?_
    refine E_icmp_ge (t := 103) dX9_find_5 rfl ?_ ?_
    · refine E_iconst (v := (-1)) dX9_find_103 rfl ?_
      exact E_iret rfl rfl dX9_find_104
    · refine E_aload_n dX9_find_8 rfl 0 rfl ?_
      refine E_getF fl_X9_23 dX9_find_9 z32 ?_
      refine E_bipush (v := 71) dX9_find_12 rfl ?_
      refine E_iload_n dX9_find_14 rfl 1 rfl ?_
      refine E_iadd dX9_find_15 ?_
      refine E_iald (n := 161) rfl dX9_find_16 z36 (fun _ => ?_)
      refine E_if_le (t := 40) dX9_find_17 rfl ?_ ?_
      · refine E_iconst (v := 0) dX9_find_40 rfl ?_
        refine E_istore_n (ls' := [(2, .int 0), (0, .ref (G.ad 32 0)), (1, .int v1)]) dX9_find_41 rfl (Nat.le_of_ble_eq_true rfl) rfl ?_
        refine E_iconst (v := 0) dX9_find_42 rfl ?_
        refine E_istore_n (ls' := [(3, .int 0), (2, .int 0), (0, .ref (G.ad 32 0)), (1, .int v1)]) dX9_find_43 rfl (Nat.le_of_ble_eq_true rfl) rfl ?_
        exact E_sub [2, 3, 1, 0] rfl (sM_find_44 G h (jM_find_2 h n) ih FU v1 0 0)
      · refine E_aload_n dX9_find_20 rfl 0 rfl ?_
        refine E_getF fl_X9_23 dX9_find_21 z32 ?_
        refine E_bipush (v := 71) dX9_find_24 rfl ?_
        refine E_iload_n dX9_find_26 rfl 1 rfl ?_
        refine E_iadd dX9_find_27 ?_
        refine E_iald (n := 161) rfl dX9_find_28 z36 (fun _ => ?_)
        refine E_aload_n dX9_find_29 rfl 0 rfl ?_
        refine E_getI fl_X9_77 dX9_find_30 z32 ?_
        refine E_icmp_ne (t := 40) dX9_find_33 rfl ?_ ?_
        · refine E_iconst (v := 0) dX9_find_40 rfl ?_
          refine E_istore_n (ls' := [(2, .int 0), (0, .ref (G.ad 32 0)), (1, .int v1)]) dX9_find_41 rfl (Nat.le_of_ble_eq_true rfl) rfl ?_
          refine E_iconst (v := 0) dX9_find_42 rfl ?_
          refine E_istore_n (ls' := [(3, .int 0), (2, .int 0), (0, .ref (G.ad 32 0)), (1, .int v1)]) dX9_find_43 rfl (Nat.le_of_ble_eq_true rfl) rfl ?_
          exact E_sub [2, 3, 1, 0] rfl (sM_find_44 G h (jM_find_2 h n) ih FU v1 0 0)
        · refine E_iconst (v := 1) dX9_find_36 rfl ?_
          refine E_goto (t := 41) dX9_find_37 rfl ?_
          refine E_istore_n (ls' := [(2, .int 1), (0, .ref (G.ad 32 0)), (1, .int v1)]) dX9_find_41 rfl (Nat.le_of_ble_eq_true rfl) rfl ?_
          refine E_iconst (v := 0) dX9_find_42 rfl ?_
          refine E_istore_n (ls' := [(3, .int 0), (2, .int 1), (0, .ref (G.ad 32 0)), (1, .int v1)]) dX9_find_43 rfl (Nat.le_of_ble_eq_true rfl) rfl ?_
          exact E_sub [2, 3, 1, 0] rfl (sM_find_44 G h (jM_find_2 h n) ih FU v1 1 0)
def jM_find (h : AH)  : Option (Int32) :=
  (jM_find_2 h FU 0)
set_option maxRecDepth 20000 in
set_option maxHeartbeats 2000000 in
theorem sM_find (G : JG) (h : AH)  : Mt G iM_find (rvI h) [.ref (G.ad 32 0)] h (jM_find h) := by
  refine Mt_of (by decide) (Nat.le_of_ble_eq_true rfl) ?_
  unfold jM_find
  show Sim G iM_find (rvI h) 0 [(0, .ref (G.ad 32 0))] [] h _
  refine E_iconst (v := 0) dX9_find_0 rfl ?_
  refine E_istore_n (ls' := [(1, .int 0), (0, .ref (G.ad 32 0))]) dX9_find_1 rfl (Nat.le_of_ble_eq_true rfl) rfl ?_
  exact E_sub [1, 0] rfl (sM_find_2 G h FU 0)
def iM_mustBeNew : MI := (yX9_mustBeNew, cX9_mustBeNew, 1, none, { frames := 6, cells := 0, slots := 0, locals := 129 }, 1)
theorem ck_X9_mustBeNew : CK iM_mustBeNew 0 := ⟨⟨wd_113, wd_1458, by decide +kernel⟩, ⟨wd_1457, wd_53⟩⟩
def jM_mustBeNew (h : AH)  : Option (AH) :=
  (jM_mustName h).bind fun h1 =>
  if (gI h1 32 0 13) = 0 then ((jM_find h1).bind fun r2 =>
  if r2 < 0 then (some h1)
  else ((jM_wrong h1 3 (gI h1 32 0 4)).bind fun h3 =>
  some h3))
  else (some h1)
set_option maxRecDepth 20000 in
set_option maxHeartbeats 2000000 in
theorem sM_mustBeNew (G : JG) (h : AH)  : Mt G iM_mustBeNew rvV [.ref (G.ad 32 0)] h (jM_mustBeNew h) := by
  refine Mt_of (by decide) (Nat.le_of_ble_eq_true rfl) ?_
  unfold jM_mustBeNew
  show Sim G iM_mustBeNew rvV 0 [(0, .ref (G.ad 32 0))] [] h _
  refine E_aload_n dX9_mustBeNew_0 rfl 0 rfl ?_
  refine E_cVV (As := []) (rest := []) (sM_mustName G h) ck_X9_mustName lk_X9_133 rfl rfl kc_32 z32 rfl rfl rfl dX9_mustBeNew_1 (fun h1 _ => ?_)
  refine E_aload_n dX9_mustBeNew_4 rfl 0 rfl ?_
  refine E_getI fl_X9_93 dX9_mustBeNew_5 z32 ?_
  refine E_if_ne (t := 27) dX9_mustBeNew_8 rfl ?_ ?_
  · exact E_vret rfl rfl dX9_mustBeNew_27
  · refine E_aload_n dX9_mustBeNew_11 rfl 0 rfl ?_
    refine E_cVI (As := []) (rest := []) (sM_find G h1) ck_X9_find lk_X9_136 rfl rfl kc_32 z32 rfl rfl rfl dX9_mustBeNew_12 (fun r2 _ => ?_)
    refine E_if_lt (t := 27) dX9_mustBeNew_15 rfl ?_ ?_
    · exact E_vret rfl rfl dX9_mustBeNew_27
    · refine E_aload_n dX9_mustBeNew_18 rfl 0 rfl ?_
      refine E_iconst (v := 3) dX9_mustBeNew_19 rfl ?_
      refine E_aload_n dX9_mustBeNew_20 rfl 0 rfl ?_
      refine E_getI fl_X9_74 dX9_mustBeNew_21 z32 ?_
      refine E_cVV (As := [.int 3, .int (gI h1 32 0 4)]) (rest := []) (sM_wrong G h1 3 (gI h1 32 0 4)) ck_X9_wrong lk_X9_117 rfl rfl kc_32 z32 rfl rfl rfl dX9_mustBeNew_24 (fun h3 _ => ?_)
      exact E_vret rfl rfl dX9_mustBeNew_27
def iM_keepName : MI := (yX9_keepName, cX9_keepName, 3, none, { frames := 2, cells := 0, slots := 0, locals := 44 }, 1)
theorem ck_X9_keepName : CK iM_keepName 1 := ⟨⟨wd_113, wd_1474, by decide +kernel⟩, ⟨wd_1473, wd_56⟩⟩
def jM_keepName_36 (v1 : Int32) (h : AH) : Option (AH) :=
  if inb (71 + v1) 161 = true then (
  jb (uI h 36 0 (71 + v1).toNatClampNeg (gI h 32 0 8)) fun h1 =>
  (jM_next h1).bind fun h2 =>
  some h2) else none
set_option maxRecDepth 20000 in
set_option maxHeartbeats 2000000 in
theorem sM_keepName_36 (G : JG) (v1 : Int32)  (h : AH) : Sim G iM_keepName rvV 36 [(0, .ref (G.ad 32 0)), (1, .int v1)] [] h (jM_keepName_36 v1 h) := by
  unfold jM_keepName_36
  refine E_aload_n dX9_keepName_36 rfl 0 rfl ?_
  refine E_getF fl_X9_23 dX9_keepName_37 z32 ?_
  refine E_bipush (v := 71) dX9_keepName_40 rfl ?_
  refine E_iload_n dX9_keepName_42 rfl 1 rfl ?_
  refine E_iadd dX9_keepName_43 ?_
  refine E_aload_n dX9_keepName_44 rfl 0 rfl ?_
  refine E_getI fl_X9_77 dX9_keepName_45 z32 ?_
  refine E_iast (n := 161) rfl dX9_keepName_48 z36 (fun _ => ?_)
  refine E_hgen (fun h1 => ?_)
  refine E_aload_n dX9_keepName_49 rfl 0 rfl ?_
  refine E_cVV (As := []) (rest := []) (sM_next G h1) ck_X9_next lk_X9_114 rfl rfl kc_32 z32 rfl rfl rfl dX9_keepName_50 (fun h2 _ => ?_)
  exact E_vret rfl rfl dX9_keepName_53
def jM_keepName_2 (v1 : Int32) : Nat → Int32 → AH → Option (AH)
  | 0, _, _ => none
  | n + 1, v2, h =>
    if v2 < (gI h 32 0 8) then (if inb v2 8 = true then (
    if inb ((81 + (8 * v1)) + v2) 161 = true then (
    jb (uI h 36 0 ((81 + (8 * v1)) + v2).toNatClampNeg (gI h 34 0 v2.toNatClampNeg)) fun h1 =>
    (jM_keepName_2 v1 n (v2 + 1) h1)) else none) else none)
    else ((jM_keepName_36 v1 h))
set_option maxRecDepth 20000 in
set_option maxHeartbeats 2000000 in
theorem sM_keepName_2 (G : JG) (v1 : Int32)  : ∀ (n : Nat) (v2 : Int32) (h : AH), Sim G iM_keepName rvV 2 [(0, .ref (G.ad 32 0)), (1, .int v1), (2, .int v2)] [] h (jM_keepName_2 v1 n v2 h) := by
  intro n
  induction n with
  | zero => intro v2 h; exact E_none
  | succ n ih =>
    intro v2 h
    rw [jM_keepName_2]
    refine E_iload_n dX9_keepName_2 rfl 2 rfl ?_
    refine E_aload_n dX9_keepName_3 rfl 0 rfl ?_
    refine E_getI fl_X9_77 dX9_keepName_4 z32 ?_
    refine E_icmp_ge (t := 36) dX9_keepName_7 rfl ?_ ?_
    · exact E_sub [0, 1] rfl (sM_keepName_36 G v1 h)
    · refine E_aload_n dX9_keepName_10 rfl 0 rfl ?_
      refine E_getF fl_X9_23 dX9_keepName_11 z32 ?_
      refine E_bipush (v := 81) dX9_keepName_14 rfl ?_
      refine E_bipush (v := 8) dX9_keepName_16 rfl ?_
      refine E_iload_n dX9_keepName_18 rfl 1 rfl ?_
      refine E_imul dX9_keepName_19 ?_
      refine E_iadd dX9_keepName_20 ?_
      refine E_iload_n dX9_keepName_21 rfl 2 rfl ?_
      refine E_iadd dX9_keepName_22 ?_
      refine E_aload_n dX9_keepName_23 rfl 0 rfl ?_
      refine E_getF fl_X9_17 dX9_keepName_24 z32 ?_
      refine E_iload_n dX9_keepName_27 rfl 2 rfl ?_
      refine E_iald (n := 8) rfl dX9_keepName_28 z34 (fun _ => ?_)
      refine E_iast (n := 161) rfl dX9_keepName_29 z36 (fun _ => ?_)
      refine E_hgen (fun h1 => ?_)
      refine E_iinc (q := 2) (v := (v2 + 1)) (ls' := [(2, .int (v2 + 1)), (0, .ref (G.ad 32 0)), (1, .int v1)]) dX9_keepName_30 rfl rfl (Nat.le_of_ble_eq_true rfl) rfl ?_
      refine E_goto (t := 2) dX9_keepName_33 rfl ?_
      exact E_sub [1, 2, 0] rfl (ih (v2 + 1) h1)
def jM_keepName (h : AH) (v1 : Int32) : Option (AH) :=
  (jM_keepName_2 v1 FU 0 h)
set_option maxRecDepth 20000 in
set_option maxHeartbeats 2000000 in
theorem sM_keepName (G : JG) (h : AH) (v1 : Int32) : Mt G iM_keepName rvV [.ref (G.ad 32 0), .int v1] h (jM_keepName h v1) := by
  refine Mt_of (by decide) (Nat.le_of_ble_eq_true rfl) ?_
  unfold jM_keepName
  show Sim G iM_keepName rvV 0 [(0, .ref (G.ad 32 0)), (1, .int v1)] [] h _
  refine E_iconst (v := 0) dX9_keepName_0 rfl ?_
  refine E_istore_n (ls' := [(2, .int 0), (0, .ref (G.ad 32 0)), (1, .int v1)]) dX9_keepName_1 rfl (Nat.le_of_ble_eq_true rfl) rfl ?_
  exact E_sub [1, 2, 0] rfl (sM_keepName_2 G v1 FU 0 h)
def iM_colourLine : MI := (yX9_colourLine, cX9_colourLine, 2, none, { frames := 7, cells := 0, slots := 0, locals := 152 }, 1)
theorem ck_X9_colourLine : CK iM_colourLine 0 := ⟨⟨wd_113, wd_1454, by decide +kernel⟩, ⟨wd_1453, wd_52⟩⟩
def jM_colourLine (h : AH)  : Option (AH) :=
  if (gI h 32 0 13) = 0 then (if inb 4 161 = true then (
  (jM_mustBeNew h).bind fun h1 =>
  if (gI h1 32 0 13) = 0 then ((jM_keepName h1 (gI h 36 0 (4 : Int32).toNatClampNeg)).bind fun h2 =>
  (jM_told h2 10 0 9).bind fun q3 =>
  if inb (7 + (gI h 36 0 (4 : Int32).toNatClampNeg)) 161 = true then (
  jb (uI q3.2 36 0 (7 + (gI h 36 0 (4 : Int32).toNatClampNeg)).toNatClampNeg q3.1) fun h4 =>
  (jM_told h4 11 0 999).bind fun q5 =>
  if inb (12 + (gI h 36 0 (4 : Int32).toNatClampNeg)) 161 = true then (
  jb (uI q5.2 36 0 (12 + (gI h 36 0 (4 : Int32).toNatClampNeg)).toNatClampNeg q5.1) fun h6 =>
  (jM_told h6 12 0 999).bind fun q7 =>
  if inb (17 + (gI h 36 0 (4 : Int32).toNatClampNeg)) 161 = true then (
  jb (uI q7.2 36 0 (17 + (gI h 36 0 (4 : Int32).toNatClampNeg)).toNatClampNeg q7.1) fun h8 =>
  if (gI h8 32 0 13) = 0 then (if inb 4 161 = true then (
  if inb 4 161 = true then (
  jb (uI h8 36 0 (4 : Int32).toNatClampNeg ((gI h8 36 0 (4 : Int32).toNatClampNeg) + 1)) fun h9 =>
  some h9) else none) else none)
  else (some h8)) else none) else none) else none)
  else (some h1)) else none)
  else (some h)
set_option maxRecDepth 20000 in
set_option maxHeartbeats 2000000 in
theorem sM_colourLine (G : JG) (h : AH)  : Mt G iM_colourLine rvV [.ref (G.ad 32 0)] h (jM_colourLine h) := by
  refine Mt_of (by decide) (Nat.le_of_ble_eq_true rfl) ?_
  unfold jM_colourLine
  show Sim G iM_colourLine rvV 0 [(0, .ref (G.ad 32 0))] [] h _
  refine E_aload_n dX9_colourLine_0 rfl 0 rfl ?_
  refine E_getI fl_X9_93 dX9_colourLine_1 z32 ?_
  refine E_if_eq (t := 8) dX9_colourLine_4 rfl ?_ ?_
  · refine E_aload_n dX9_colourLine_8 rfl 0 rfl ?_
    refine E_getF fl_X9_23 dX9_colourLine_9 z32 ?_
    refine E_iconst (v := 4) dX9_colourLine_12 rfl ?_
    refine E_iald (n := 161) rfl dX9_colourLine_13 z36 (fun _ => ?_)
    refine E_istore_n (ls' := [(1, .int (gI h 36 0 (4 : Int32).toNatClampNeg)), (0, .ref (G.ad 32 0))]) dX9_colourLine_14 rfl (Nat.le_of_ble_eq_true rfl) rfl ?_
    refine E_aload_n dX9_colourLine_15 rfl 1 rfl ?_
    refine E_cVV (As := []) (rest := []) (sM_mustBeNew G h) ck_X9_mustBeNew lk_X9_211 rfl rfl kc_32 z32 rfl rfl rfl dX9_colourLine_16 (fun h1 _ => ?_)
    refine E_aload_n dX9_colourLine_19 rfl 1 rfl ?_
    refine E_getI fl_X9_93 dX9_colourLine_20 z32 ?_
    refine E_if_eq (t := 27) dX9_colourLine_23 rfl ?_ ?_
    · refine E_aload_n dX9_colourLine_27 rfl 1 rfl ?_
      refine E_iload_n dX9_colourLine_28 rfl 0 rfl ?_
      refine E_cVV (As := [.int (gI h 36 0 (4 : Int32).toNatClampNeg)]) (rest := []) (sM_keepName G h1 (gI h 36 0 (4 : Int32).toNatClampNeg)) ck_X9_keepName lk_X9_214 rfl rfl kc_32 z32 rfl rfl rfl dX9_colourLine_29 (fun h2 _ => ?_)
      refine E_aload_n dX9_colourLine_32 rfl 1 rfl ?_
      refine E_getF fl_X9_23 dX9_colourLine_33 z32 ?_
      refine E_bipush (v := 7) dX9_colourLine_36 rfl ?_
      refine E_iload_n dX9_colourLine_38 rfl 0 rfl ?_
      refine E_iadd dX9_colourLine_39 ?_
      refine E_aload_n dX9_colourLine_40 rfl 1 rfl ?_
      refine E_ldcS (i := 10) rfl rfl (by decide) rfl dX9_colourLine_41 ?_
      refine E_iconst (v := 0) dX9_colourLine_43 rfl ?_
      refine E_bipush (v := 9) dX9_colourLine_44 rfl ?_
      refine E_cVIM (As := [.ref (G.aK 10), .int 0, .int 9]) (rest := [.int (7 + (gI h 36 0 (4 : Int32).toNatClampNeg)), .ref (G.ad 36 0)]) (sM_told G h2 10 (by decide) 0 9) ck_X9_told lk_X9_201 rfl rfl kc_32 z32 rfl rfl rfl dX9_colourLine_46 (fun q3 _ => ?_)
      refine E_iast (n := 161) rfl dX9_colourLine_49 z36 (fun _ => ?_)
      refine E_hgen (fun h4 => ?_)
      refine E_aload_n dX9_colourLine_50 rfl 1 rfl ?_
      refine E_getF fl_X9_23 dX9_colourLine_51 z32 ?_
      refine E_bipush (v := 12) dX9_colourLine_54 rfl ?_
      refine E_iload_n dX9_colourLine_56 rfl 0 rfl ?_
      refine E_iadd dX9_colourLine_57 ?_
      refine E_aload_n dX9_colourLine_58 rfl 1 rfl ?_
      refine E_ldcS (i := 11) rfl rfl (by decide) rfl dX9_colourLine_59 ?_
      refine E_iconst (v := 0) dX9_colourLine_61 rfl ?_
      refine E_sipush (v := 999) dX9_colourLine_62 rfl ?_
      refine E_cVIM (As := [.ref (G.aK 11), .int 0, .int 999]) (rest := [.int (12 + (gI h 36 0 (4 : Int32).toNatClampNeg)), .ref (G.ad 36 0)]) (sM_told G h4 11 (by decide) 0 999) ck_X9_told lk_X9_201 rfl rfl kc_32 z32 rfl rfl rfl dX9_colourLine_65 (fun q5 _ => ?_)
      refine E_iast (n := 161) rfl dX9_colourLine_68 z36 (fun _ => ?_)
      refine E_hgen (fun h6 => ?_)
      refine E_aload_n dX9_colourLine_69 rfl 1 rfl ?_
      refine E_getF fl_X9_23 dX9_colourLine_70 z32 ?_
      refine E_bipush (v := 17) dX9_colourLine_73 rfl ?_
      refine E_iload_n dX9_colourLine_75 rfl 0 rfl ?_
      refine E_iadd dX9_colourLine_76 ?_
      refine E_aload_n dX9_colourLine_77 rfl 1 rfl ?_
      refine E_ldcS (i := 12) rfl rfl (by decide) rfl dX9_colourLine_78 ?_
      refine E_iconst (v := 0) dX9_colourLine_80 rfl ?_
      refine E_sipush (v := 999) dX9_colourLine_81 rfl ?_
      refine E_cVIM (As := [.ref (G.aK 12), .int 0, .int 999]) (rest := [.int (17 + (gI h 36 0 (4 : Int32).toNatClampNeg)), .ref (G.ad 36 0)]) (sM_told G h6 12 (by decide) 0 999) ck_X9_told lk_X9_201 rfl rfl kc_32 z32 rfl rfl rfl dX9_colourLine_84 (fun q7 _ => ?_)
      refine E_iast (n := 161) rfl dX9_colourLine_87 z36 (fun _ => ?_)
      refine E_hgen (fun h8 => ?_)
      refine E_aload_n dX9_colourLine_88 rfl 1 rfl ?_
      refine E_getI fl_X9_93 dX9_colourLine_89 z32 ?_
      refine E_if_ne (t := 105) dX9_colourLine_92 rfl ?_ ?_
      · exact E_vret rfl rfl dX9_colourLine_105
      · refine E_aload_n dX9_colourLine_95 rfl 1 rfl ?_
        refine E_getF fl_X9_23 dX9_colourLine_96 z32 ?_
        refine E_iconst (v := 4) dX9_colourLine_99 rfl ?_
        refine E_dup2 dX9_colourLine_100 rfl rfl ?_
        refine E_iald (n := 161) rfl dX9_colourLine_101 z36 (fun _ => ?_)
        refine E_iconst (v := 1) dX9_colourLine_102 rfl ?_
        refine E_iadd dX9_colourLine_103 ?_
        refine E_iast (n := 161) rfl dX9_colourLine_104 z36 (fun _ => ?_)
        refine E_hgen (fun h9 => ?_)
        exact E_vret rfl rfl dX9_colourLine_105
    · exact E_vret rfl rfl dX9_colourLine_26
  · exact E_vret rfl rfl dX9_colourLine_7
def iM_comma : MI := (yX9_comma, cX9_comma, 1, (some .boolean), { frames := 2, cells := 0, slots := 0, locals := 44 }, 1)
theorem ck_X9_comma : CK iM_comma 0 := ⟨⟨wd_113, wd_1485, by decide +kernel⟩, ⟨wd_1484, wd_58⟩⟩
def jM_comma (h : AH)  : Option (Int32 × AH) :=
  if (gI h 32 0 13) = 0 then (if (gI h 32 0 6) = 44 then ((jM_next h).bind fun h1 =>
  some (1, h1))
  else (some (0, h)))
  else (some (0, h))
set_option maxRecDepth 20000 in
set_option maxHeartbeats 2000000 in
theorem sM_comma (G : JG) (h : AH)  : Mt G iM_comma rvIM [.ref (G.ad 32 0)] h (jM_comma h) := by
  refine Mt_of (by decide) (Nat.le_of_ble_eq_true rfl) ?_
  unfold jM_comma
  show Sim G iM_comma rvIM 0 [(0, .ref (G.ad 32 0))] [] h _
  refine E_aload_n dX9_comma_0 rfl 0 rfl ?_
  refine E_getI fl_X9_93 dX9_comma_1 z32 ?_
  refine E_if_ne (t := 16) dX9_comma_4 rfl ?_ ?_
  · refine E_iconst (v := 0) dX9_comma_16 rfl ?_
    exact E_zret rfl rfl rfl dX9_comma_17
  · refine E_aload_n dX9_comma_7 rfl 0 rfl ?_
    refine E_getI fl_X9_83 dX9_comma_8 z32 ?_
    refine E_bipush (v := 44) dX9_comma_11 rfl ?_
    refine E_icmp_eq (t := 18) dX9_comma_13 rfl ?_ ?_
    · refine E_aload_n dX9_comma_18 rfl 0 rfl ?_
      refine E_cVV (As := []) (rest := []) (sM_next G h) ck_X9_next lk_X9_114 rfl rfl kc_32 z32 rfl rfl rfl dX9_comma_19 (fun h1 _ => ?_)
      refine E_iconst (v := 1) dX9_comma_22 rfl ?_
      exact E_zret rfl rfl rfl dX9_comma_23
    · refine E_iconst (v := 0) dX9_comma_16 rfl ?_
      exact E_zret rfl rfl rfl dX9_comma_17
def iM_handLine : MI := (yX9_handLine, cX9_handLine, 2, none, { frames := 7, cells := 0, slots := 0, locals := 149 }, 1)
theorem ck_X9_handLine : CK iM_handLine 0 := ⟨⟨wd_113, wd_1481, by decide +kernel⟩, ⟨wd_1480, wd_57⟩⟩
def jM_handLine_47 (k_13 : Int32 → AH → Option AH) (h : AH) : Option (AH) :=
  if (gI h 32 0 13) = 0 then (if inb 5 161 = true then (
  (jM_keepName h (5 + (gI h 36 0 (5 : Int32).toNatClampNeg))).bind fun h1 =>
  if inb 5 161 = true then (
  if inb 5 161 = true then (
  jb (uI h1 36 0 (5 : Int32).toNatClampNeg ((gI h1 36 0 (5 : Int32).toNatClampNeg) + 1)) fun h2 =>
  (jM_comma h2).bind fun q3 =>
  (k_13 q3.1 q3.2)) else none) else none) else none)
  else (some h)
set_option maxRecDepth 20000 in
set_option maxHeartbeats 2000000 in
theorem sM_handLine_47 (G : JG)  (k_13 : Int32 → AH → Option AH) (hk_13 : ∀ (v1 : Int32) (h : AH), Sim G iM_handLine rvV 13 [(0, .ref (G.ad 32 0)), (1, .int v1)] [] h (k_13 v1 h)) (h : AH) : Sim G iM_handLine rvV 47 [(0, .ref (G.ad 32 0))] [] h (jM_handLine_47 k_13 h) := by
  unfold jM_handLine_47
  refine E_aload_n dX9_handLine_47 rfl 0 rfl ?_
  refine E_getI fl_X9_93 dX9_handLine_48 z32 ?_
  refine E_if_eq (t := 55) dX9_handLine_51 rfl ?_ ?_
  · refine E_aload_n dX9_handLine_55 rfl 0 rfl ?_
    refine E_iconst (v := 5) dX9_handLine_56 rfl ?_
    refine E_aload_n dX9_handLine_57 rfl 0 rfl ?_
    refine E_getF fl_X9_23 dX9_handLine_58 z32 ?_
    refine E_iconst (v := 5) dX9_handLine_61 rfl ?_
    refine E_iald (n := 161) rfl dX9_handLine_62 z36 (fun _ => ?_)
    refine E_iadd dX9_handLine_63 ?_
    refine E_cVV (As := [.int (5 + (gI h 36 0 (5 : Int32).toNatClampNeg))]) (rest := []) (sM_keepName G h (5 + (gI h 36 0 (5 : Int32).toNatClampNeg))) ck_X9_keepName lk_X9_214 rfl rfl kc_32 z32 rfl rfl rfl dX9_handLine_64 (fun h1 _ => ?_)
    refine E_aload_n dX9_handLine_67 rfl 0 rfl ?_
    refine E_getF fl_X9_23 dX9_handLine_68 z32 ?_
    refine E_iconst (v := 5) dX9_handLine_71 rfl ?_
    refine E_dup2 dX9_handLine_72 rfl rfl ?_
    refine E_iald (n := 161) rfl dX9_handLine_73 z36 (fun _ => ?_)
    refine E_iconst (v := 1) dX9_handLine_74 rfl ?_
    refine E_iadd dX9_handLine_75 ?_
    refine E_iast (n := 161) rfl dX9_handLine_76 z36 (fun _ => ?_)
    refine E_hgen (fun h2 => ?_)
    refine E_aload_n dX9_handLine_77 rfl 0 rfl ?_
    refine E_cVIM (As := []) (rest := []) (sM_comma G h2) ck_X9_comma lk_X9_151 rfl rfl kc_32 z32 rfl rfl rfl dX9_handLine_78 (fun q3 _ => ?_)
    refine E_istore_n (ls' := [(1, .int q3.1), (0, .ref (G.ad 32 0))]) dX9_handLine_81 rfl (Nat.le_of_ble_eq_true rfl) rfl ?_
    refine E_goto (t := 13) dX9_handLine_82 rfl ?_
    exact E_sub [1, 0] rfl (hk_13 q3.1 q3.2)
  · exact E_vret rfl rfl dX9_handLine_54
def jM_handLine_13  : Nat → Int32 → AH → Option (AH)
  | 0, _, _ => none
  | n + 1, v1, h =>
    if v1 = 0 then (some h)
    else ((jM_mustBeNew h).bind fun h1 =>
    if (gI h1 32 0 13) = 0 then (if inb 5 161 = true then (
    if (gI h1 36 0 (5 : Int32).toNatClampNeg) = 5 then ((jM_wrong h1 5 (gI h1 32 0 4)).bind fun h2 =>
    (jM_handLine_47 (jM_handLine_13 n) h2))
    else ((jM_handLine_47 (jM_handLine_13 n) h1))) else none)
    else ((jM_handLine_47 (jM_handLine_13 n) h1)))
set_option maxRecDepth 20000 in
set_option maxHeartbeats 2000000 in
theorem sM_handLine_13 (G : JG)   : ∀ (n : Nat) (v1 : Int32) (h : AH), Sim G iM_handLine rvV 13 [(0, .ref (G.ad 32 0)), (1, .int v1)] [] h (jM_handLine_13 n v1 h) := by
  intro n
  induction n with
  | zero => intro v1 h; exact E_none
  | succ n ih =>
    intro v1 h
    rw [jM_handLine_13]
    refine E_iload_n dX9_handLine_13 rfl 1 rfl ?_
    refine E_if_eq (t := 85) dX9_handLine_14 rfl ?_ ?_
    · exact E_vret rfl rfl dX9_handLine_85
    · refine E_aload_n dX9_handLine_17 rfl 0 rfl ?_
      refine E_cVV (As := []) (rest := []) (sM_mustBeNew G h) ck_X9_mustBeNew lk_X9_211 rfl rfl kc_32 z32 rfl rfl rfl dX9_handLine_18 (fun h1 _ => ?_)
      refine E_aload_n dX9_handLine_21 rfl 0 rfl ?_
      refine E_getI fl_X9_93 dX9_handLine_22 z32 ?_
      refine E_if_ne (t := 47) dX9_handLine_25 rfl ?_ ?_
      · exact E_sub [0] rfl (sM_handLine_47 G (jM_handLine_13 n) ih h1)
      · refine E_aload_n dX9_handLine_28 rfl 0 rfl ?_
        refine E_getF fl_X9_23 dX9_handLine_29 z32 ?_
        refine E_iconst (v := 5) dX9_handLine_32 rfl ?_
        refine E_iald (n := 161) rfl dX9_handLine_33 z36 (fun _ => ?_)
        refine E_iconst (v := 5) dX9_handLine_34 rfl ?_
        refine E_icmp_ne (t := 47) dX9_handLine_35 rfl ?_ ?_
        · exact E_sub [0] rfl (sM_handLine_47 G (jM_handLine_13 n) ih h1)
        · refine E_aload_n dX9_handLine_38 rfl 0 rfl ?_
          refine E_iconst (v := 5) dX9_handLine_39 rfl ?_
          refine E_aload_n dX9_handLine_40 rfl 0 rfl ?_
          refine E_getI fl_X9_74 dX9_handLine_41 z32 ?_
          refine E_cVV (As := [.int 5, .int (gI h1 32 0 4)]) (rest := []) (sM_wrong G h1 5 (gI h1 32 0 4)) ck_X9_wrong lk_X9_117 rfl rfl kc_32 z32 rfl rfl rfl dX9_handLine_44 (fun h2 _ => ?_)
          exact E_sub [0] rfl (sM_handLine_47 G (jM_handLine_13 n) ih h2)
def jM_handLine (h : AH)  : Option (AH) :=
  if (gI h 32 0 13) = 0 then ((jM_handLine_13 FU 1 h))
  else ((jM_handLine_13 FU 0 h))
set_option maxRecDepth 20000 in
set_option maxHeartbeats 2000000 in
theorem sM_handLine (G : JG) (h : AH)  : Mt G iM_handLine rvV [.ref (G.ad 32 0)] h (jM_handLine h) := by
  refine Mt_of (by decide) (Nat.le_of_ble_eq_true rfl) ?_
  unfold jM_handLine
  show Sim G iM_handLine rvV 0 [(0, .ref (G.ad 32 0))] [] h _
  refine E_aload_n dX9_handLine_0 rfl 0 rfl ?_
  refine E_getI fl_X9_93 dX9_handLine_1 z32 ?_
  refine E_if_ne (t := 11) dX9_handLine_4 rfl ?_ ?_
  · refine E_iconst (v := 0) dX9_handLine_11 rfl ?_
    refine E_istore_n (ls' := [(1, .int 0), (0, .ref (G.ad 32 0))]) dX9_handLine_12 rfl (Nat.le_of_ble_eq_true rfl) rfl ?_
    exact E_sub [1, 0] rfl (sM_handLine_13 G FU 0 h)
  · refine E_iconst (v := 1) dX9_handLine_7 rfl ?_
    refine E_goto (t := 12) dX9_handLine_8 rfl ?_
    refine E_istore_n (ls' := [(1, .int 1), (0, .ref (G.ad 32 0))]) dX9_handLine_12 rfl (Nat.le_of_ble_eq_true rfl) rfl ?_
    exact E_sub [1, 0] rfl (sM_handLine_13 G FU 1 h)
def iM_named : MI := (yX9_named, cX9_named, 3, (some .int), { frames := 6, cells := 0, slots := 0, locals := 129 }, 1)
theorem ck_X9_named : CK iM_named 1 := ⟨⟨wd_113, wd_1493, by decide +kernel⟩, ⟨wd_1492, wd_60⟩⟩
def jM_named_54 (v1 : Int32) (v2 : Int32) (h : AH) : Option (Int32 × AH) :=
  if (gI h 32 0 13) = 0 then (if v1 = 0 then (some ((v2 - 5), h))
  else (some (v2, h)))
  else (some (0, h))
set_option maxRecDepth 20000 in
set_option maxHeartbeats 2000000 in
theorem sM_named_54 (G : JG) (v1 : Int32)  (v2 : Int32) (h : AH) : Sim G iM_named rvIM 54 [(0, .ref (G.ad 32 0)), (1, .int v1), (2, .int v2)] [] h (jM_named_54 v1 v2 h) := by
  unfold jM_named_54
  refine E_aload_n dX9_named_54 rfl 0 rfl ?_
  refine E_getI fl_X9_93 dX9_named_55 z32 ?_
  refine E_if_eq (t := 65) dX9_named_58 rfl ?_ ?_
  · refine E_iload_n dX9_named_65 rfl 1 rfl ?_
    refine E_if_eq (t := 73) dX9_named_66 rfl ?_ ?_
    · refine E_iload_n dX9_named_73 rfl 2 rfl ?_
      refine E_iconst (v := 5) dX9_named_74 rfl ?_
      refine E_isub dX9_named_75 ?_
      exact E_iret rfl rfl dX9_named_76
    · refine E_iload_n dX9_named_69 rfl 2 rfl ?_
      refine E_goto (t := 76) dX9_named_70 rfl ?_
      exact E_iret rfl rfl dX9_named_76
  · refine E_iconst (v := 0) dX9_named_61 rfl ?_
    refine E_goto (t := 76) dX9_named_62 rfl ?_
    exact E_iret rfl rfl dX9_named_76
def jM_named_45 (v1 : Int32) (v2 : Int32) (h : AH) : Option (Int32 × AH) :=
  (jM_wrong h 2 (gI h 32 0 4)).bind fun h1 =>
  (jM_named_54 v1 v2 h1)
set_option maxRecDepth 20000 in
set_option maxHeartbeats 2000000 in
theorem sM_named_45 (G : JG) (v1 : Int32)  (v2 : Int32) (h : AH) : Sim G iM_named rvIM 45 [(0, .ref (G.ad 32 0)), (1, .int v1), (2, .int v2)] [] h (jM_named_45 v1 v2 h) := by
  unfold jM_named_45
  refine E_aload_n dX9_named_45 rfl 0 rfl ?_
  refine E_iconst (v := 2) dX9_named_46 rfl ?_
  refine E_aload_n dX9_named_47 rfl 0 rfl ?_
  refine E_getI fl_X9_74 dX9_named_48 z32 ?_
  refine E_cVV (As := [.int 2, .int (gI h 32 0 4)]) (rest := []) (sM_wrong G h 2 (gI h 32 0 4)) ck_X9_wrong lk_X9_117 rfl rfl kc_32 z32 rfl rfl rfl dX9_named_51 (fun h1 _ => ?_)
  exact E_sub [0, 1, 2] rfl (sM_named_54 G v1 v2 h1)
def jM_named_42 (v1 : Int32) (v2 : Int32) (s0 : Int32) (s1 : Int32) (h : AH) : Option (Int32 × AH) :=
  if s1 = s0 then ((jM_named_54 v1 v2 h))
  else ((jM_named_45 v1 v2 h))
set_option maxRecDepth 20000 in
set_option maxHeartbeats 2000000 in
theorem sM_named_42 (G : JG) (v1 : Int32)  (v2 : Int32) (s0 : Int32) (s1 : Int32) (h : AH) : Sim G iM_named rvIM 42 [(0, .ref (G.ad 32 0)), (1, .int v1), (2, .int v2)] [.int s0, .int s1] h (jM_named_42 v1 v2 s0 s1 h) := by
  unfold jM_named_42
  refine E_icmp_eq (t := 54) dX9_named_42 rfl ?_ ?_
  · exact E_sub [0, 1, 2] rfl (sM_named_54 G v1 v2 h)
  · exact E_sub [0, 1, 2] rfl (sM_named_45 G v1 v2 h)
def jM_named (h : AH) (v1 : Int32) : Option (Int32 × AH) :=
  if (gI h 32 0 13) = 0 then ((jM_mustName h).bind fun h1 =>
  if (gI h1 32 0 13) = 0 then ((jM_find h1).bind fun r2 =>
  if r2 < 0 then ((jM_named_45 v1 r2 h1))
  else (if r2 < 5 then ((jM_named_42 v1 r2 1 v1 h1))
  else ((jM_named_42 v1 r2 0 v1 h1))))
  else (some (0, h1)))
  else (some (0, h))
set_option maxRecDepth 20000 in
set_option maxHeartbeats 2000000 in
theorem sM_named (G : JG) (h : AH) (v1 : Int32) : Mt G iM_named rvIM [.ref (G.ad 32 0), .int v1] h (jM_named h v1) := by
  refine Mt_of (by decide) (Nat.le_of_ble_eq_true rfl) ?_
  unfold jM_named
  show Sim G iM_named rvIM 0 [(0, .ref (G.ad 32 0)), (1, .int v1)] [] h _
  refine E_aload_n dX9_named_0 rfl 0 rfl ?_
  refine E_getI fl_X9_93 dX9_named_1 z32 ?_
  refine E_if_eq (t := 9) dX9_named_4 rfl ?_ ?_
  · refine E_aload_n dX9_named_9 rfl 0 rfl ?_
    refine E_cVV (As := []) (rest := []) (sM_mustName G h) ck_X9_mustName lk_X9_133 rfl rfl kc_32 z32 rfl rfl rfl dX9_named_10 (fun h1 _ => ?_)
    refine E_aload_n dX9_named_13 rfl 0 rfl ?_
    refine E_getI fl_X9_93 dX9_named_14 z32 ?_
    refine E_if_eq (t := 22) dX9_named_17 rfl ?_ ?_
    · refine E_aload_n dX9_named_22 rfl 0 rfl ?_
      refine E_cVI (As := []) (rest := []) (sM_find G h1) ck_X9_find lk_X9_136 rfl rfl kc_32 z32 rfl rfl rfl dX9_named_23 (fun r2 _ => ?_)
      refine E_istore_n (ls' := [(2, .int r2), (0, .ref (G.ad 32 0)), (1, .int v1)]) dX9_named_26 rfl (Nat.le_of_ble_eq_true rfl) rfl ?_
      refine E_iload_n dX9_named_27 rfl 0 rfl ?_
      refine E_if_lt (t := 45) dX9_named_28 rfl ?_ ?_
      · exact E_sub [1, 2, 0] rfl (sM_named_45 G v1 r2 h1)
      · refine E_iload_n dX9_named_31 rfl 2 rfl ?_
        refine E_iload_n dX9_named_32 rfl 0 rfl ?_
        refine E_iconst (v := 5) dX9_named_33 rfl ?_
        refine E_icmp_ge (t := 41) dX9_named_34 rfl ?_ ?_
        · refine E_iconst (v := 0) dX9_named_41 rfl ?_
          exact E_sub [1, 2, 0] rfl (sM_named_42 G v1 r2 0 v1 h1)
        · refine E_iconst (v := 1) dX9_named_37 rfl ?_
          refine E_goto (t := 42) dX9_named_38 rfl ?_
          exact E_sub [1, 2, 0] rfl (sM_named_42 G v1 r2 1 v1 h1)
    · refine E_iconst (v := 0) dX9_named_20 rfl ?_
      exact E_iret rfl rfl dX9_named_21
  · refine E_iconst (v := 0) dX9_named_7 rfl ?_
    exact E_iret rfl rfl dX9_named_8
