/-! ===== the model, 6 ===== -/
def iM_reach : MI := (yX9_reach, cX9_reach, 10, (some .int), { frames := 6, cells := 0, slots := 0, locals := 140 }, 1)
theorem ck_X9_reach : CK iM_reach 1 := ⟨⟨wd_113, wd_1785, by decide +kernel⟩, ⟨wd_1783, wd_1784⟩⟩
def jM_reach_98 (k_60 : Int32 → Int32 → Int32 → Int32 → Int32 → Int32 → Int32 → AH → Option (Int32 × AH)) (v3 : Int32) (v4 : Int32) (v5 : Int32) (v6 : Int32) (v7 : Int32) (v9 : Int32) (s0 : Int32) (h : AH) : Option (Int32 × AH) :=
  (k_60 v3 v4 v5 v6 v7 (s0 ||| 0) (v9 + 1) h)
set_option maxRecDepth 20000 in
set_option maxHeartbeats 2000000 in
theorem sM_reach_98 (G : JG)  (k_60 : Int32 → Int32 → Int32 → Int32 → Int32 → Int32 → Int32 → AH → Option (Int32 × AH)) (hk_60 : ∀ (v3 : Int32) (v4 : Int32) (v5 : Int32) (v6 : Int32) (v7 : Int32) (v8 : Int32) (v9 : Int32) (h : AH), Sim G iM_reach rvIM 60 [(0, .ref (G.ad 32 0)), (3, .int v3), (4, .int v4), (5, .int v5), (6, .int v6), (7, .int v7), (8, .int v8), (9, .int v9)] [] h (k_60 v3 v4 v5 v6 v7 v8 v9 h)) (v3 : Int32) (v4 : Int32) (v5 : Int32) (v6 : Int32) (v7 : Int32) (v9 : Int32) (s0 : Int32) (h : AH) : Sim G iM_reach rvIM 98 [(0, .ref (G.ad 32 0)), (3, .int v3), (4, .int v4), (5, .int v5), (6, .int v6), (7, .int v7), (9, .int v9)] [.int s0] h (jM_reach_98 k_60 v3 v4 v5 v6 v7 v9 s0 h) := by
  unfold jM_reach_98
  refine E_iconst (v := 0) dX9_reach_98 rfl ?_
  refine E_ior dX9_reach_99 ?_
  refine E_istore (ls' := [(8, .int (s0 ||| 0)), (0, .ref (G.ad 32 0)), (3, .int v3), (4, .int v4), (5, .int v5), (6, .int v6), (7, .int v7), (9, .int v9)]) dX9_reach_100 (Nat.le_of_ble_eq_true rfl) rfl ?_
  refine E_iinc (q := 7) (v := (v9 + 1)) (ls' := [(9, .int (v9 + 1)), (8, .int (s0 ||| 0)), (0, .ref (G.ad 32 0)), (3, .int v3), (4, .int v4), (5, .int v5), (6, .int v6), (7, .int v7)]) dX9_reach_102 rfl rfl (Nat.le_of_ble_eq_true rfl) rfl ?_
  refine E_goto (t := 60) dX9_reach_105 rfl ?_
  exact E_sub [2, 3, 4, 5, 6, 7, 1, 0] rfl (hk_60 v3 v4 v5 v6 v7 (s0 ||| 0) (v9 + 1) h)
def jM_reach_144 (k_54 : Int32 → Int32 → Int32 → Int32 → Int32 → AH → Option (Int32 × AH)) (v3 : Int32) (v4 : Int32) (v5 : Int32) (v7 : Int32) (s0 : Int32) (h : AH) : Option (Int32 × AH) :=
  if v7 = 0 then (some (s0, h))
  else ((k_54 v3 v4 v5 s0 ((v7 - 1) &&& v5) h))
set_option maxRecDepth 20000 in
set_option maxHeartbeats 2000000 in
theorem sM_reach_144 (G : JG)  (k_54 : Int32 → Int32 → Int32 → Int32 → Int32 → AH → Option (Int32 × AH)) (hk_54 : ∀ (v3 : Int32) (v4 : Int32) (v5 : Int32) (v6 : Int32) (v7 : Int32) (h : AH), Sim G iM_reach rvIM 54 [(0, .ref (G.ad 32 0)), (3, .int v3), (4, .int v4), (5, .int v5), (6, .int v6), (7, .int v7)] [] h (k_54 v3 v4 v5 v6 v7 h)) (v3 : Int32) (v4 : Int32) (v5 : Int32) (v7 : Int32) (s0 : Int32) (h : AH) : Sim G iM_reach rvIM 144 [(0, .ref (G.ad 32 0)), (3, .int v3), (4, .int v4), (5, .int v5), (7, .int v7)] [.int s0] h (jM_reach_144 k_54 v3 v4 v5 v7 s0 h) := by
  unfold jM_reach_144
  refine E_istore (ls' := [(6, .int s0), (0, .ref (G.ad 32 0)), (3, .int v3), (4, .int v4), (5, .int v5), (7, .int v7)]) dX9_reach_144 (Nat.le_of_ble_eq_true rfl) rfl ?_
  refine E_iload dX9_reach_146 5 rfl ?_
  refine E_if_ne (t := 154) dX9_reach_148 rfl ?_ ?_
  · refine E_iload dX9_reach_154 5 rfl ?_
    refine E_iconst (v := 1) dX9_reach_156 rfl ?_
    refine E_isub dX9_reach_157 ?_
    refine E_iload dX9_reach_158 4 rfl ?_
    refine E_iand dX9_reach_160 ?_
    refine E_istore (ls' := [(7, .int ((v7 - 1) &&& v5)), (6, .int s0), (0, .ref (G.ad 32 0)), (3, .int v3), (4, .int v4), (5, .int v5)]) dX9_reach_161 (Nat.le_of_ble_eq_true rfl) rfl ?_
    refine E_goto (t := 54) dX9_reach_163 rfl ?_
    exact E_sub [2, 3, 4, 5, 1, 0] rfl (hk_54 v3 v4 v5 s0 ((v7 - 1) &&& v5) h)
  · refine E_goto (t := 166) dX9_reach_151 rfl ?_
    refine E_iload dX9_reach_166 0 rfl ?_
    exact E_iret rfl rfl dX9_reach_168
def jM_reach_108 (k_54 : Int32 → Int32 → Int32 → Int32 → Int32 → AH → Option (Int32 × AH)) (v3 : Int32) (v4 : Int32) (v5 : Int32) (v6 : Int32) (v7 : Int32) (v8 : Int32) (h : AH) : Option (Int32 × AH) :=
  (jM_bits ((v3 &&& ((v8 &&& (v4 ^^^ (-1))) ^^^ (-1))) ||| (v8 &&& v4))).bind fun r1 =>
  if r1 ≤ v6 then ((jM_reach_144 k_54 v3 v4 v5 v7 v6 h))
  else ((jM_reach_144 k_54 v3 v4 v5 v7 r1 h))
set_option maxRecDepth 20000 in
set_option maxHeartbeats 2000000 in
theorem sM_reach_108 (G : JG)  (k_54 : Int32 → Int32 → Int32 → Int32 → Int32 → AH → Option (Int32 × AH)) (hk_54 : ∀ (v3 : Int32) (v4 : Int32) (v5 : Int32) (v6 : Int32) (v7 : Int32) (h : AH), Sim G iM_reach rvIM 54 [(0, .ref (G.ad 32 0)), (3, .int v3), (4, .int v4), (5, .int v5), (6, .int v6), (7, .int v7)] [] h (k_54 v3 v4 v5 v6 v7 h)) (v3 : Int32) (v4 : Int32) (v5 : Int32) (v6 : Int32) (v7 : Int32) (v8 : Int32) (h : AH) : Sim G iM_reach rvIM 108 [(0, .ref (G.ad 32 0)), (3, .int v3), (4, .int v4), (5, .int v5), (6, .int v6), (7, .int v7), (8, .int v8)] [] h (jM_reach_108 k_54 v3 v4 v5 v6 v7 v8 h) := by
  unfold jM_reach_108
  refine E_iload_n dX9_reach_108 rfl 1 rfl ?_
  refine E_iload dX9_reach_109 6 rfl ?_
  refine E_iload dX9_reach_111 2 rfl ?_
  refine E_iconst (v := (-1)) dX9_reach_113 rfl ?_
  refine E_ixor dX9_reach_114 ?_
  refine E_iand dX9_reach_115 ?_
  refine E_iconst (v := (-1)) dX9_reach_116 rfl ?_
  refine E_ixor dX9_reach_117 ?_
  refine E_iand dX9_reach_118 ?_
  refine E_iload dX9_reach_119 6 rfl ?_
  refine E_iload dX9_reach_121 2 rfl ?_
  refine E_iand dX9_reach_123 ?_
  refine E_ior dX9_reach_124 ?_
  refine E_cSI (As := [.int ((v3 &&& ((v8 &&& (v4 ^^^ (-1))) ^^^ (-1))) ||| (v8 &&& v4))]) (rest := []) (sM_bits G h ((v3 &&& ((v8 &&& (v4 ^^^ (-1))) ^^^ (-1))) ||| (v8 &&& v4))) ck_X9_bits lk_X9_302 rfl rfl rfl rfl rfl dX9_reach_125 (fun r1 _ => ?_)
  refine E_istore (ls' := [(9, .int r1), (0, .ref (G.ad 32 0)), (3, .int v3), (4, .int v4), (5, .int v5), (6, .int v6), (7, .int v7), (8, .int v8)]) dX9_reach_128 (Nat.le_of_ble_eq_true rfl) rfl ?_
  refine E_iload dX9_reach_130 0 rfl ?_
  refine E_iload dX9_reach_132 5 rfl ?_
  refine E_icmp_le (t := 142) dX9_reach_134 rfl ?_ ?_
  · refine E_iload dX9_reach_142 5 rfl ?_
    exact E_sub [1, 2, 3, 4, 6] rfl (sM_reach_144 G k_54 hk_54 v3 v4 v5 v7 v6 h)
  · refine E_iload dX9_reach_137 0 rfl ?_
    refine E_goto (t := 144) dX9_reach_139 rfl ?_
    exact E_sub [1, 2, 3, 4, 6] rfl (sM_reach_144 G k_54 hk_54 v3 v4 v5 v7 r1 h)
def jM_reach_60 (k_54 : Int32 → Int32 → Int32 → Int32 → Int32 → AH → Option (Int32 × AH)) : Nat → Int32 → Int32 → Int32 → Int32 → Int32 → Int32 → Int32 → AH → Option (Int32 × AH)
  | 0, _, _, _, _, _, _, _, _ => none
  | n + 1, v3, v4, v5, v6, v7, v8, v9, h =>
    if v9 < 4096 then (if inb v9 4096 = true then (
    if (gI h 45 0 v9.toNatClampNeg) = 0 then ((jM_reach_98 (jM_reach_60 k_54 n) v3 v4 v5 v6 v7 v9 v8 h))
    else (if ((v9 &&& v5) &&& (v7 ^^^ (-1))) = 0 then ((jM_reach_60 k_54 n v3 v4 v5 v6 v7 (v8 ||| v9) (v9 + 1) h))
    else ((jM_reach_98 (jM_reach_60 k_54 n) v3 v4 v5 v6 v7 v9 v8 h)))) else none)
    else ((jM_reach_108 k_54 v3 v4 v5 v6 v7 v8 h))
set_option maxRecDepth 20000 in
set_option maxHeartbeats 2000000 in
theorem sM_reach_60 (G : JG)  (k_54 : Int32 → Int32 → Int32 → Int32 → Int32 → AH → Option (Int32 × AH)) (hk_54 : ∀ (v3 : Int32) (v4 : Int32) (v5 : Int32) (v6 : Int32) (v7 : Int32) (h : AH), Sim G iM_reach rvIM 54 [(0, .ref (G.ad 32 0)), (3, .int v3), (4, .int v4), (5, .int v5), (6, .int v6), (7, .int v7)] [] h (k_54 v3 v4 v5 v6 v7 h)) : ∀ (n : Nat) (v3 : Int32) (v4 : Int32) (v5 : Int32) (v6 : Int32) (v7 : Int32) (v8 : Int32) (v9 : Int32) (h : AH), Sim G iM_reach rvIM 60 [(0, .ref (G.ad 32 0)), (3, .int v3), (4, .int v4), (5, .int v5), (6, .int v6), (7, .int v7), (8, .int v8), (9, .int v9)] [] h (jM_reach_60 k_54 n v3 v4 v5 v6 v7 v8 v9 h) := by
  intro n
  induction n with
  | zero => intro v3 v4 v5 v6 v7 v8 v9 h; exact E_none
  | succ n ih =>
    intro v3 v4 v5 v6 v7 v8 v9 h
    rw [jM_reach_60]
    refine E_iload dX9_reach_60 7 rfl ?_
    refine E_sipush (v := 4096) dX9_reach_62 rfl ?_
    refine E_icmp_ge (t := 108) dX9_reach_65 rfl ?_ ?_
    · exact E_sub [0, 1, 2, 3, 4, 5, 6] rfl (sM_reach_108 G k_54 hk_54 v3 v4 v5 v6 v7 v8 h)
    · refine E_iload dX9_reach_68 6 rfl ?_
      refine E_aload_n dX9_reach_70 rfl 0 rfl ?_
      refine E_getF fl_X9_51 dX9_reach_71 z32 ?_
      refine E_iload dX9_reach_74 7 rfl ?_
      refine E_zald (n := 4096) rfl dX9_reach_76 z45 (fun _ => ?_)
      refine E_if_eq (t := 98) dX9_reach_77 rfl ?_ ?_
      · exact E_sub [0, 1, 2, 3, 4, 5, 7] rfl (sM_reach_98 G (jM_reach_60 k_54 n) ih v3 v4 v5 v6 v7 v9 v8 h)
      · refine E_iload dX9_reach_80 7 rfl ?_
        refine E_iload dX9_reach_82 3 rfl ?_
        refine E_iand dX9_reach_84 ?_
        refine E_iload dX9_reach_85 5 rfl ?_
        refine E_iconst (v := (-1)) dX9_reach_87 rfl ?_
        refine E_ixor dX9_reach_88 ?_
        refine E_iand dX9_reach_89 ?_
        refine E_if_ne (t := 98) dX9_reach_90 rfl ?_ ?_
        · exact E_sub [0, 1, 2, 3, 4, 5, 7] rfl (sM_reach_98 G (jM_reach_60 k_54 n) ih v3 v4 v5 v6 v7 v9 v8 h)
        · refine E_iload dX9_reach_93 7 rfl ?_
          refine E_goto (t := 99) dX9_reach_95 rfl ?_
          refine E_ior dX9_reach_99 ?_
          refine E_istore (ls' := [(8, .int (v8 ||| v9)), (0, .ref (G.ad 32 0)), (3, .int v3), (4, .int v4), (5, .int v5), (6, .int v6), (7, .int v7), (9, .int v9)]) dX9_reach_100 (Nat.le_of_ble_eq_true rfl) rfl ?_
          refine E_iinc (q := 7) (v := (v9 + 1)) (ls' := [(9, .int (v9 + 1)), (8, .int (v8 ||| v9)), (0, .ref (G.ad 32 0)), (3, .int v3), (4, .int v4), (5, .int v5), (6, .int v6), (7, .int v7)]) dX9_reach_102 rfl rfl (Nat.le_of_ble_eq_true rfl) rfl ?_
          refine E_goto (t := 60) dX9_reach_105 rfl ?_
          exact E_sub [2, 3, 4, 5, 6, 7, 1, 0] rfl (ih v3 v4 v5 v6 v7 (v8 ||| v9) (v9 + 1) h)
def jM_reach_54  : Nat → Int32 → Int32 → Int32 → Int32 → Int32 → AH → Option (Int32 × AH)
  | 0, _, _, _, _, _, _ => none
  | n + 1, v3, v4, v5, v6, v7, h =>
    (jM_reach_60 (jM_reach_54 n) FU v3 v4 v5 v6 v7 0 0 h)
set_option maxRecDepth 20000 in
set_option maxHeartbeats 2000000 in
theorem sM_reach_54 (G : JG)   : ∀ (n : Nat) (v3 : Int32) (v4 : Int32) (v5 : Int32) (v6 : Int32) (v7 : Int32) (h : AH), Sim G iM_reach rvIM 54 [(0, .ref (G.ad 32 0)), (3, .int v3), (4, .int v4), (5, .int v5), (6, .int v6), (7, .int v7)] [] h (jM_reach_54 n v3 v4 v5 v6 v7 h) := by
  intro n
  induction n with
  | zero => intro v3 v4 v5 v6 v7 h; exact E_none
  | succ n ih =>
    intro v3 v4 v5 v6 v7 h
    rw [jM_reach_54]
    refine E_iconst (v := 0) dX9_reach_54 rfl ?_
    refine E_istore (ls' := [(8, .int 0), (0, .ref (G.ad 32 0)), (3, .int v3), (4, .int v4), (5, .int v5), (6, .int v6), (7, .int v7)]) dX9_reach_55 (Nat.le_of_ble_eq_true rfl) rfl ?_
    refine E_iconst (v := 0) dX9_reach_57 rfl ?_
    refine E_istore (ls' := [(9, .int 0), (8, .int 0), (0, .ref (G.ad 32 0)), (3, .int v3), (4, .int v4), (5, .int v5), (6, .int v6), (7, .int v7)]) dX9_reach_58 (Nat.le_of_ble_eq_true rfl) rfl ?_
    exact E_sub [2, 3, 4, 5, 6, 7, 1, 0] rfl (sM_reach_60 G (jM_reach_54 n) ih FU v3 v4 v5 v6 v7 0 0 h)
def jM_reach (h : AH) (v1 : Int32) : Option (Int32 × AH) :=
  (jM_good h).bind fun h1 =>
  (jM_yearWhy h1 v1).bind fun r2 =>
  if r2 = 0 then ((jM_layLawful h1 v1).bind fun h3 =>
  (jM_alikeCells h3).bind fun r4 =>
  (jM_payable h3 v1).bind fun r5 =>
  (jM_staying h3 v1).bind fun r6 =>
  (jM_bits r4).bind fun r7 =>
  (jM_reach_54 FU r4 r5 r6 r7 r6 h3))
  else ((jM_no h1 r2).bind fun q8 =>
  some (q8.1, q8.2))
set_option maxRecDepth 20000 in
set_option maxHeartbeats 2000000 in
theorem sM_reach (G : JG) (h : AH) (v1 : Int32) : Mt G iM_reach rvIM [.ref (G.ad 32 0), .int v1] h (jM_reach h v1) := by
  refine Mt_of (by decide) (Nat.le_of_ble_eq_true rfl) ?_
  unfold jM_reach
  show Sim G iM_reach rvIM 0 [(0, .ref (G.ad 32 0)), (1, .int v1)] [] h _
  refine E_aload_n dX9_reach_0 rfl 0 rfl ?_
  refine E_cVV (As := []) (rest := []) (sM_good G h) ck_X9_good lk_X9_155 rfl rfl kc_32 z32 rfl rfl rfl dX9_reach_1 (fun h1 _ => ?_)
  refine E_aload_n dX9_reach_4 rfl 0 rfl ?_
  refine E_iload_n dX9_reach_5 rfl 1 rfl ?_
  refine E_cVI (As := [.int v1]) (rest := []) (sM_yearWhy G h1 v1) ck_X9_yearWhy lk_X9_356 rfl rfl kc_32 z32 rfl rfl rfl dX9_reach_6 (fun r2 _ => ?_)
  refine E_istore_n (ls' := [(2, .int r2), (0, .ref (G.ad 32 0)), (1, .int v1)]) dX9_reach_9 rfl (Nat.le_of_ble_eq_true rfl) rfl ?_
  refine E_iload_n dX9_reach_10 rfl 0 rfl ?_
  refine E_if_eq (t := 20) dX9_reach_11 rfl ?_ ?_
  · refine E_aload_n dX9_reach_20 rfl 1 rfl ?_
    refine E_iload_n dX9_reach_21 rfl 2 rfl ?_
    refine E_cVV (As := [.int v1]) (rest := []) (sM_layLawful G h1 v1) ck_X9_layLawful lk_X9_365 rfl rfl kc_32 z32 rfl rfl rfl dX9_reach_22 (fun h3 _ => ?_)
    refine E_aload_n dX9_reach_25 rfl 1 rfl ?_
    refine E_cVI (As := []) (rest := []) (sM_alikeCells G h3) ck_X9_alikeCells lk_X9_341 rfl rfl kc_32 z32 rfl rfl rfl dX9_reach_26 (fun r4 _ => ?_)
    refine E_istore_n (ls' := [(3, .int r4), (2, .int r2), (0, .ref (G.ad 32 0)), (1, .int v1)]) dX9_reach_29 rfl (Nat.le_of_ble_eq_true rfl) rfl ?_
    refine E_aload_n dX9_reach_30 rfl 2 rfl ?_
    refine E_iload_n dX9_reach_31 rfl 3 rfl ?_
    refine E_cVI (As := [.int v1]) (rest := []) (sM_payable G h3 v1) ck_X9_payable lk_X9_344 rfl rfl kc_32 z32 rfl rfl rfl dX9_reach_32 (fun r5 _ => ?_)
    refine E_istore (ls' := [(4, .int r5), (3, .int r4), (2, .int r2), (0, .ref (G.ad 32 0)), (1, .int v1)]) dX9_reach_35 (Nat.le_of_ble_eq_true rfl) rfl ?_
    refine E_aload_n dX9_reach_37 rfl 3 rfl ?_
    refine E_iload_n dX9_reach_38 rfl 4 rfl ?_
    refine E_cVI (As := [.int v1]) (rest := []) (sM_staying G h3 v1) ck_X9_staying lk_X9_368 rfl rfl kc_32 z32 rfl rfl rfl dX9_reach_39 (fun r6 _ => ?_)
    refine E_istore (ls' := [(5, .int r6), (4, .int r5), (3, .int r4), (2, .int r2), (0, .ref (G.ad 32 0)), (1, .int v1)]) dX9_reach_42 (Nat.le_of_ble_eq_true rfl) rfl ?_
    refine E_iload_n dX9_reach_44 rfl 2 rfl ?_
    refine E_cSI (As := [.int r4]) (rest := []) (sM_bits G h3 r4) ck_X9_bits lk_X9_302 rfl rfl rfl rfl rfl dX9_reach_45 (fun r7 _ => ?_)
    refine E_istore (ls' := [(6, .int r7), (5, .int r6), (4, .int r5), (3, .int r4), (2, .int r2), (0, .ref (G.ad 32 0)), (1, .int v1)]) dX9_reach_48 (Nat.le_of_ble_eq_true rfl) rfl ?_
    refine E_iload dX9_reach_50 1 rfl ?_
    refine E_istore (ls' := [(7, .int r6), (6, .int r7), (5, .int r6), (4, .int r5), (3, .int r4), (2, .int r2), (0, .ref (G.ad 32 0)), (1, .int v1)]) dX9_reach_52 (Nat.le_of_ble_eq_true rfl) rfl ?_
    exact E_sub [6, 4, 3, 2, 1, 0] rfl (sM_reach_54 G FU r4 r5 r6 r7 r6 h3)
  · refine E_aload_n dX9_reach_14 rfl 1 rfl ?_
    refine E_iload_n dX9_reach_15 rfl 0 rfl ?_
    refine E_cVIM (As := [.int r2]) (rest := []) (sM_no G h1 r2) ck_X9_no lk_X9_158 rfl rfl kc_32 z32 rfl rfl rfl dX9_reach_16 (fun q8 _ => ?_)
    exact E_iret rfl rfl dX9_reach_19
def iM_relief : MI := (yX9_relief, cX9_relief, 3, (some .int), { frames := 2, cells := 0, slots := 0, locals := 46 }, 1)
theorem ck_X9_relief : CK iM_relief 2 := ⟨⟨wd_113, wd_1584, by decide +kernel⟩, ⟨wd_1582, wd_1583⟩⟩
def jM_relief (h : AH) (v1 : Int32) (v2 : Int32) : Option (Int32 × AH) :=
  (jM_good h).bind fun h1 =>
  (jM_isCell h1 v1 v2).bind fun r2 =>
  if r2 = 0 then ((jM_no h1 1).bind fun q3 =>
  some (q3.1, q3.2))
  else ((jM_cellOf h1 v1 v2).bind fun r4 =>
  (jM_reliefOf h1 r4).bind fun r5 =>
  some (r5, h1))
set_option maxRecDepth 20000 in
set_option maxHeartbeats 2000000 in
theorem sM_relief (G : JG) (h : AH) (v1 : Int32) (v2 : Int32) : Mt G iM_relief rvIM [.ref (G.ad 32 0), .int v1, .int v2] h (jM_relief h v1 v2) := by
  refine Mt_of (by decide) (Nat.le_of_ble_eq_true rfl) ?_
  unfold jM_relief
  show Sim G iM_relief rvIM 0 [(0, .ref (G.ad 32 0)), (1, .int v1), (2, .int v2)] [] h _
  refine E_aload_n dX9_relief_0 rfl 0 rfl ?_
  refine E_cVV (As := []) (rest := []) (sM_good G h) ck_X9_good lk_X9_155 rfl rfl kc_32 z32 rfl rfl rfl dX9_relief_1 (fun h1 _ => ?_)
  refine E_aload_n dX9_relief_4 rfl 0 rfl ?_
  refine E_iload_n dX9_relief_5 rfl 1 rfl ?_
  refine E_iload_n dX9_relief_6 rfl 2 rfl ?_
  refine E_cVI (As := [.int v1, .int v2]) (rest := []) (sM_isCell G h1 v1 v2) ck_X9_isCell lk_X9_268 rfl rfl kc_32 z32 rfl rfl rfl dX9_relief_7 (fun r2 _ => ?_)
  refine E_if_eq (t := 26) dX9_relief_10 rfl ?_ ?_
  · refine E_aload_n dX9_relief_26 rfl 0 rfl ?_
    refine E_iconst (v := 1) dX9_relief_27 rfl ?_
    refine E_cVIM (As := [.int 1]) (rest := []) (sM_no G h1 1) ck_X9_no lk_X9_158 rfl rfl kc_32 z32 rfl rfl rfl dX9_relief_28 (fun q3 _ => ?_)
    exact E_iret rfl rfl dX9_relief_31
  · refine E_aload_n dX9_relief_13 rfl 0 rfl ?_
    refine E_aload_n dX9_relief_14 rfl 0 rfl ?_
    refine E_iload_n dX9_relief_15 rfl 1 rfl ?_
    refine E_iload_n dX9_relief_16 rfl 2 rfl ?_
    refine E_cVI (As := [.int v1, .int v2]) (rest := [.ref (G.ad 32 0)]) (sM_cellOf G h1 v1 v2) ck_X9_cellOf lk_X9_272 rfl rfl kc_32 z32 rfl rfl rfl dX9_relief_17 (fun r4 _ => ?_)
    refine E_cVI (As := [.int r4]) (rest := []) (sM_reliefOf G h1 r4) ck_X9_reliefOf lk_X9_284 rfl rfl kc_32 z32 rfl rfl rfl dX9_relief_20 (fun r5 _ => ?_)
    refine E_goto (t := 31) dX9_relief_23 rfl ?_
    exact E_iret rfl rfl dX9_relief_31
def iM_scrape : MI := (yX9_scrape, cX9_scrape, 4, (some .boolean), { frames := 2, cells := 0, slots := 0, locals := 47 }, 1)
theorem ck_X9_scrape : CK iM_scrape 2 := ⟨⟨wd_113, wd_1837, by decide +kernel⟩, ⟨wd_1835, wd_1836⟩⟩
def jM_scrape (h : AH) (v1 : Int32) (v2 : Int32) : Option (Int32 × AH) :=
  (jM_good h).bind fun h1 =>
  (jM_isCell h1 v1 v2).bind fun r2 =>
  if r2 = 0 then ((jM_isNot h1 1).bind fun q10 =>
  if isZ q10.1 = true then some (q10.1, q10.2) else none)
  else ((jM_cellOf h1 v1 v2).bind fun r3 =>
  (jM_under h1 r3 0).bind fun r4 =>
  if r4 = (-2) then ((jM_isNot h1 6).bind fun q9 =>
  if isZ q9.1 = true then some (q9.1, q9.2) else none)
  else ((jM_note h1).bind fun h5 =>
  (jM_cellOf h5 v1 v2).bind fun r6 =>
  if inb (((2 + (26 * r4)) + 2) + r6) 340 = true then (
  jb (uI h5 37 0 (((2 + (26 * r4)) + 2) + r6).toNatClampNeg 0) fun h7 =>
  (jM_did h7).bind fun q8 =>
  if isZ q8.1 = true then some (q8.1, q8.2) else none) else none))
set_option maxRecDepth 20000 in
set_option maxHeartbeats 2000000 in
theorem sM_scrape (G : JG) (h : AH) (v1 : Int32) (v2 : Int32) : Mt G iM_scrape rvIM [.ref (G.ad 32 0), .int v1, .int v2] h (jM_scrape h v1 v2) := by
  refine Mt_of (by decide) (Nat.le_of_ble_eq_true rfl) ?_
  unfold jM_scrape
  show Sim G iM_scrape rvIM 0 [(0, .ref (G.ad 32 0)), (1, .int v1), (2, .int v2)] [] h _
  refine E_aload_n dX9_scrape_0 rfl 0 rfl ?_
  refine E_cVV (As := []) (rest := []) (sM_good G h) ck_X9_good lk_X9_155 rfl rfl kc_32 z32 rfl rfl rfl dX9_scrape_1 (fun h1 _ => ?_)
  refine E_aload_n dX9_scrape_4 rfl 0 rfl ?_
  refine E_iload_n dX9_scrape_5 rfl 1 rfl ?_
  refine E_iload_n dX9_scrape_6 rfl 2 rfl ?_
  refine E_cVI (As := [.int v1, .int v2]) (rest := []) (sM_isCell G h1 v1 v2) ck_X9_isCell lk_X9_268 rfl rfl kc_32 z32 rfl rfl rfl dX9_scrape_7 (fun r2 _ => ?_)
  refine E_if_ne (t := 19) dX9_scrape_10 rfl ?_ ?_
  · refine E_aload_n dX9_scrape_19 rfl 0 rfl ?_
    refine E_aload_n dX9_scrape_20 rfl 0 rfl ?_
    refine E_iload_n dX9_scrape_21 rfl 1 rfl ?_
    refine E_iload_n dX9_scrape_22 rfl 2 rfl ?_
    refine E_cVI (As := [.int v1, .int v2]) (rest := [.ref (G.ad 32 0)]) (sM_cellOf G h1 v1 v2) ck_X9_cellOf lk_X9_272 rfl rfl kc_32 z32 rfl rfl rfl dX9_scrape_23 (fun r3 _ => ?_)
    refine E_iconst (v := 0) dX9_scrape_26 rfl ?_
    refine E_cVI (As := [.int r3, .int 0]) (rest := []) (sM_under G h1 r3 0) ck_X9_under lk_X9_265 rfl rfl kc_32 z32 rfl rfl rfl dX9_scrape_27 (fun r4 _ => ?_)
    refine E_istore_n (ls' := [(3, .int r4), (0, .ref (G.ad 32 0)), (1, .int v1), (2, .int v2)]) dX9_scrape_30 rfl (Nat.le_of_ble_eq_true rfl) rfl ?_
    refine E_iload_n dX9_scrape_31 rfl 0 rfl ?_
    refine E_bipush (v := (-2)) dX9_scrape_32 rfl ?_
    refine E_icmp_ne (t := 44) dX9_scrape_34 rfl ?_ ?_
    · refine E_aload_n dX9_scrape_44 rfl 1 rfl ?_
      refine E_cVV (As := []) (rest := []) (sM_note G h1) ck_X9_note lk_X9_383 rfl rfl kc_32 z32 rfl rfl rfl dX9_scrape_45 (fun h5 _ => ?_)
      refine E_aload_n dX9_scrape_48 rfl 1 rfl ?_
      refine E_getF fl_X9_26 dX9_scrape_49 z32 ?_
      refine E_iconst (v := 2) dX9_scrape_52 rfl ?_
      refine E_bipush (v := 26) dX9_scrape_53 rfl ?_
      refine E_iload_n dX9_scrape_55 rfl 0 rfl ?_
      refine E_imul dX9_scrape_56 ?_
      refine E_iadd dX9_scrape_57 ?_
      refine E_iconst (v := 2) dX9_scrape_58 rfl ?_
      refine E_iadd dX9_scrape_59 ?_
      refine E_aload_n dX9_scrape_60 rfl 1 rfl ?_
      refine E_iload_n dX9_scrape_61 rfl 2 rfl ?_
      refine E_iload_n dX9_scrape_62 rfl 3 rfl ?_
      refine E_cVI (As := [.int v1, .int v2]) (rest := [.int ((2 + (26 * r4)) + 2), .ref (G.ad 37 0)]) (sM_cellOf G h5 v1 v2) ck_X9_cellOf lk_X9_272 rfl rfl kc_32 z32 rfl rfl rfl dX9_scrape_63 (fun r6 _ => ?_)
      refine E_iadd dX9_scrape_66 ?_
      refine E_iconst (v := 0) dX9_scrape_67 rfl ?_
      refine E_iast (n := 340) rfl dX9_scrape_68 z37 (fun _ => ?_)
      refine E_hgen (fun h7 => ?_)
      refine E_aload_n dX9_scrape_69 rfl 1 rfl ?_
      refine E_cVIM (As := []) (rest := []) (sM_did G h7) ck_X9_did lk_X9_386 rfl rfl kc_32 z32 rfl rfl rfl dX9_scrape_70 (fun q8 _ => ?_)
      exact E_zretg rfl rfl dX9_scrape_73
    · refine E_aload_n dX9_scrape_37 rfl 1 rfl ?_
      refine E_bipush (v := 6) dX9_scrape_38 rfl ?_
      refine E_cVIM (As := [.int 6]) (rest := []) (sM_isNot G h1 6) ck_X9_isNot lk_X9_380 rfl rfl kc_32 z32 rfl rfl rfl dX9_scrape_40 (fun q9 _ => ?_)
      exact E_zretg rfl rfl dX9_scrape_43
  · refine E_aload_n dX9_scrape_13 rfl 0 rfl ?_
    refine E_iconst (v := 1) dX9_scrape_14 rfl ?_
    refine E_cVIM (As := [.int 1]) (rest := []) (sM_isNot G h1 1) ck_X9_isNot lk_X9_380 rfl rfl kc_32 z32 rfl rfl rfl dX9_scrape_15 (fun q10 _ => ?_)
    exact E_zretg rfl rfl dX9_scrape_18
def iM_scraped : MI := (yX9_scraped, cX9_scraped, 4, (some .int), { frames := 2, cells := 0, slots := 0, locals := 47 }, 1)
theorem ck_X9_scraped : CK iM_scraped 3 := ⟨⟨wd_113, wd_1576, by decide +kernel⟩, ⟨wd_1574, wd_1575⟩⟩
def jM_scraped (h : AH) (v1 : Int32) (v2 : Int32) (v3 : Int32) : Option (Int32 × AH) :=
  (jM_good h).bind fun h1 =>
  (jM_isCell h1 v1 v2).bind fun r2 =>
  if r2 = 0 then ((jM_no h1 1).bind fun q6 =>
  some (q6.1, q6.2))
  else (if 0 ≤ v3 then ((jM_cellOf h1 v1 v2).bind fun r3 =>
  (jM_under h1 r3 v3).bind fun r4 =>
  some (r4, h1))
  else ((jM_no h1 2).bind fun q5 =>
  some (q5.1, q5.2)))
set_option maxRecDepth 20000 in
set_option maxHeartbeats 2000000 in
theorem sM_scraped (G : JG) (h : AH) (v1 : Int32) (v2 : Int32) (v3 : Int32) : Mt G iM_scraped rvIM [.ref (G.ad 32 0), .int v1, .int v2, .int v3] h (jM_scraped h v1 v2 v3) := by
  refine Mt_of (by decide) (Nat.le_of_ble_eq_true rfl) ?_
  unfold jM_scraped
  show Sim G iM_scraped rvIM 0 [(0, .ref (G.ad 32 0)), (1, .int v1), (2, .int v2), (3, .int v3)] [] h _
  refine E_aload_n dX9_scraped_0 rfl 0 rfl ?_
  refine E_cVV (As := []) (rest := []) (sM_good G h) ck_X9_good lk_X9_155 rfl rfl kc_32 z32 rfl rfl rfl dX9_scraped_1 (fun h1 _ => ?_)
  refine E_aload_n dX9_scraped_4 rfl 0 rfl ?_
  refine E_iload_n dX9_scraped_5 rfl 1 rfl ?_
  refine E_iload_n dX9_scraped_6 rfl 2 rfl ?_
  refine E_cVI (As := [.int v1, .int v2]) (rest := []) (sM_isCell G h1 v1 v2) ck_X9_isCell lk_X9_268 rfl rfl kc_32 z32 rfl rfl rfl dX9_scraped_7 (fun r2 _ => ?_)
  refine E_if_ne (t := 19) dX9_scraped_10 rfl ?_ ?_
  · refine E_iload_n dX9_scraped_19 rfl 3 rfl ?_
    refine E_if_ge (t := 31) dX9_scraped_20 rfl ?_ ?_
    · refine E_aload_n dX9_scraped_31 rfl 0 rfl ?_
      refine E_aload_n dX9_scraped_32 rfl 0 rfl ?_
      refine E_iload_n dX9_scraped_33 rfl 1 rfl ?_
      refine E_iload_n dX9_scraped_34 rfl 2 rfl ?_
      refine E_cVI (As := [.int v1, .int v2]) (rest := [.ref (G.ad 32 0)]) (sM_cellOf G h1 v1 v2) ck_X9_cellOf lk_X9_272 rfl rfl kc_32 z32 rfl rfl rfl dX9_scraped_35 (fun r3 _ => ?_)
      refine E_iload_n dX9_scraped_38 rfl 3 rfl ?_
      refine E_cVI (As := [.int r3, .int v3]) (rest := []) (sM_under G h1 r3 v3) ck_X9_under lk_X9_265 rfl rfl kc_32 z32 rfl rfl rfl dX9_scraped_39 (fun r4 _ => ?_)
      exact E_iret rfl rfl dX9_scraped_42
    · refine E_aload_n dX9_scraped_23 rfl 0 rfl ?_
      refine E_iconst (v := 2) dX9_scraped_24 rfl ?_
      refine E_cVIM (As := [.int 2]) (rest := []) (sM_no G h1 2) ck_X9_no lk_X9_158 rfl rfl kc_32 z32 rfl rfl rfl dX9_scraped_25 (fun q5 _ => ?_)
      refine E_goto (t := 42) dX9_scraped_28 rfl ?_
      exact E_iret rfl rfl dX9_scraped_42
  · refine E_aload_n dX9_scraped_13 rfl 0 rfl ?_
    refine E_iconst (v := 1) dX9_scraped_14 rfl ?_
    refine E_cVIM (As := [.int 1]) (rest := []) (sM_no G h1 1) ck_X9_no lk_X9_158 rfl rfl kc_32 z32 rfl rfl rfl dX9_scraped_15 (fun q6 _ => ?_)
    exact E_iret rfl rfl dX9_scraped_18
def iM_share : MI := (yX9_share, cX9_share, 4, (some .int), { frames := 2, cells := 0, slots := 0, locals := 47 }, 1)
theorem ck_X9_share : CK iM_share 1 := ⟨⟨wd_113, wd_1604, by decide +kernel⟩, ⟨wd_1602, wd_1603⟩⟩
def jM_share_83 (v1 : Int32) (k_37 : Int32 → Int32 → AH → Option (Int32 × AH)) (v3 : Int32) (s0 : Int32) (h : AH) : Option (Int32 × AH) :=
  (k_37 (s0 + 0) (v3 + 1) h)
set_option maxRecDepth 20000 in
set_option maxHeartbeats 2000000 in
theorem sM_share_83 (G : JG) (v1 : Int32) (k_37 : Int32 → Int32 → AH → Option (Int32 × AH)) (hk_37 : ∀ (v2 : Int32) (v3 : Int32) (h : AH), Sim G iM_share rvIM 37 [(0, .ref (G.ad 32 0)), (1, .int v1), (2, .int v2), (3, .int v3)] [] h (k_37 v2 v3 h)) (v3 : Int32) (s0 : Int32) (h : AH) : Sim G iM_share rvIM 83 [(0, .ref (G.ad 32 0)), (1, .int v1), (3, .int v3)] [.int s0] h (jM_share_83 v1 k_37 v3 s0 h) := by
  unfold jM_share_83
  refine E_iconst (v := 0) dX9_share_83 rfl ?_
  refine E_iadd dX9_share_84 ?_
  refine E_istore_n (ls' := [(2, .int (s0 + 0)), (0, .ref (G.ad 32 0)), (1, .int v1), (3, .int v3)]) dX9_share_85 rfl (Nat.le_of_ble_eq_true rfl) rfl ?_
  refine E_iinc (q := 3) (v := (v3 + 1)) (ls' := [(3, .int (v3 + 1)), (2, .int (s0 + 0)), (0, .ref (G.ad 32 0)), (1, .int v1)]) dX9_share_86 rfl rfl (Nat.le_of_ble_eq_true rfl) rfl ?_
  refine E_goto (t := 37) dX9_share_89 rfl ?_
  exact E_sub [2, 3, 1, 0] rfl (hk_37 (s0 + 0) (v3 + 1) h)
def jM_share_37 (v1 : Int32) : Nat → Int32 → Int32 → AH → Option (Int32 × AH)
  | 0, _, _, _ => none
  | n + 1, v2, v3, h =>
    (jM_cellMany h).bind fun r1 =>
    if v3 < r1 then ((jM_under h v3 0).bind fun r2 =>
    if r2 = (-2) then ((jM_share_83 v1 (jM_share_37 v1 n) v3 v2 h))
    else ((jM_under h v3 0).bind fun r3 =>
    if inb ((2 + (26 * r3)) + 0) 340 = true then (
    if (gI h 37 0 ((2 + (26 * r3)) + 0).toNatClampNeg) = v1 then ((jM_share_37 v1 n (v2 + 1) (v3 + 1) h))
    else ((jM_share_83 v1 (jM_share_37 v1 n) v3 v2 h))) else none))
    else (some (v2, h))
set_option maxRecDepth 20000 in
set_option maxHeartbeats 2000000 in
theorem sM_share_37 (G : JG) (v1 : Int32)  : ∀ (n : Nat) (v2 : Int32) (v3 : Int32) (h : AH), Sim G iM_share rvIM 37 [(0, .ref (G.ad 32 0)), (1, .int v1), (2, .int v2), (3, .int v3)] [] h (jM_share_37 v1 n v2 v3 h) := by
  intro n
  induction n with
  | zero => intro v2 v3 h; exact E_none
  | succ n ih =>
    intro v2 v3 h
    rw [jM_share_37]
    refine E_iload_n dX9_share_37 rfl 3 rfl ?_
    refine E_aload_n dX9_share_38 rfl 0 rfl ?_
    refine E_cVI (As := []) (rest := [.int v3]) (sM_cellMany G h) ck_X9_cellMany lk_X9_287 rfl rfl kc_32 z32 rfl rfl rfl dX9_share_39 (fun r1 _ => ?_)
    refine E_icmp_ge (t := 92) dX9_share_42 rfl ?_ ?_
    · refine E_iload_n dX9_share_92 rfl 2 rfl ?_
      exact E_iret rfl rfl dX9_share_93
    · refine E_iload_n dX9_share_45 rfl 2 rfl ?_
      refine E_aload_n dX9_share_46 rfl 0 rfl ?_
      refine E_iload_n dX9_share_47 rfl 3 rfl ?_
      refine E_iconst (v := 0) dX9_share_48 rfl ?_
      refine E_cVI (As := [.int v3, .int 0]) (rest := [.int v2]) (sM_under G h v3 0) ck_X9_under lk_X9_265 rfl rfl kc_32 z32 rfl rfl rfl dX9_share_49 (fun r2 _ => ?_)
      refine E_bipush (v := (-2)) dX9_share_52 rfl ?_
      refine E_icmp_eq (t := 83) dX9_share_54 rfl ?_ ?_
      · exact E_sub [0, 1, 3] rfl (sM_share_83 G v1 (jM_share_37 v1 n) ih v3 v2 h)
      · refine E_aload_n dX9_share_57 rfl 0 rfl ?_
        refine E_getF fl_X9_26 dX9_share_58 z32 ?_
        refine E_iconst (v := 2) dX9_share_61 rfl ?_
        refine E_bipush (v := 26) dX9_share_62 rfl ?_
        refine E_aload_n dX9_share_64 rfl 0 rfl ?_
        refine E_iload_n dX9_share_65 rfl 3 rfl ?_
        refine E_iconst (v := 0) dX9_share_66 rfl ?_
        refine E_cVI (As := [.int v3, .int 0]) (rest := [.int 26, .int 2, .ref (G.ad 37 0), .int v2]) (sM_under G h v3 0) ck_X9_under lk_X9_265 rfl rfl kc_32 z32 rfl rfl rfl dX9_share_67 (fun r3 _ => ?_)
        refine E_imul dX9_share_70 ?_
        refine E_iadd dX9_share_71 ?_
        refine E_iconst (v := 0) dX9_share_72 rfl ?_
        refine E_iadd dX9_share_73 ?_
        refine E_iald (n := 340) rfl dX9_share_74 z37 (fun _ => ?_)
        refine E_iload_n dX9_share_75 rfl 1 rfl ?_
        refine E_icmp_ne (t := 83) dX9_share_76 rfl ?_ ?_
        · exact E_sub [0, 1, 3] rfl (sM_share_83 G v1 (jM_share_37 v1 n) ih v3 v2 h)
        · refine E_iconst (v := 1) dX9_share_79 rfl ?_
          refine E_goto (t := 84) dX9_share_80 rfl ?_
          refine E_iadd dX9_share_84 ?_
          refine E_istore_n (ls' := [(2, .int (v2 + 1)), (0, .ref (G.ad 32 0)), (1, .int v1), (3, .int v3)]) dX9_share_85 rfl (Nat.le_of_ble_eq_true rfl) rfl ?_
          refine E_iinc (q := 3) (v := (v3 + 1)) (ls' := [(3, .int (v3 + 1)), (2, .int (v2 + 1)), (0, .ref (G.ad 32 0)), (1, .int v1)]) dX9_share_86 rfl rfl (Nat.le_of_ble_eq_true rfl) rfl ?_
          refine E_goto (t := 37) dX9_share_89 rfl ?_
          exact E_sub [2, 3, 1, 0] rfl (ih (v2 + 1) (v3 + 1) h)
def jM_share (h : AH) (v1 : Int32) : Option (Int32 × AH) :=
  (jM_good h).bind fun h1 =>
  if (gI h1 32 0 14) = 0 then ((jM_no h1 1).bind fun q2 =>
  some (q2.1, q2.2))
  else (if inb 5 161 = true then (
  (jM_within v1 0 ((gI h1 35 0 (5 : Int32).toNatClampNeg) - 1)).bind fun r3 =>
  if r3 = 0 then ((jM_no h1 1).bind fun q4 =>
  some (q4.1, q4.2))
  else ((jM_share_37 v1 FU 0 0 h1))) else none)
set_option maxRecDepth 20000 in
set_option maxHeartbeats 2000000 in
theorem sM_share (G : JG) (h : AH) (v1 : Int32) : Mt G iM_share rvIM [.ref (G.ad 32 0), .int v1] h (jM_share h v1) := by
  refine Mt_of (by decide) (Nat.le_of_ble_eq_true rfl) ?_
  unfold jM_share
  show Sim G iM_share rvIM 0 [(0, .ref (G.ad 32 0)), (1, .int v1)] [] h _
  refine E_aload_n dX9_share_0 rfl 0 rfl ?_
  refine E_cVV (As := []) (rest := []) (sM_good G h) ck_X9_good lk_X9_155 rfl rfl kc_32 z32 rfl rfl rfl dX9_share_1 (fun h1 _ => ?_)
  refine E_aload_n dX9_share_4 rfl 0 rfl ?_
  refine E_getI fl_X9_168 dX9_share_5 z32 ?_
  refine E_if_eq (t := 27) dX9_share_8 rfl ?_ ?_
  · refine E_aload_n dX9_share_27 rfl 0 rfl ?_
    refine E_iconst (v := 1) dX9_share_28 rfl ?_
    refine E_cVIM (As := [.int 1]) (rest := []) (sM_no G h1 1) ck_X9_no lk_X9_158 rfl rfl kc_32 z32 rfl rfl rfl dX9_share_29 (fun q2 _ => ?_)
    exact E_iret rfl rfl dX9_share_32
  · refine E_iload_n dX9_share_11 rfl 1 rfl ?_
    refine E_iconst (v := 0) dX9_share_12 rfl ?_
    refine E_aload_n dX9_share_13 rfl 0 rfl ?_
    refine E_getF fl_X9_20 dX9_share_14 z32 ?_
    refine E_iconst (v := 5) dX9_share_17 rfl ?_
    refine E_iald (n := 161) rfl dX9_share_18 z35 (fun _ => ?_)
    refine E_iconst (v := 1) dX9_share_19 rfl ?_
    refine E_isub dX9_share_20 ?_
    refine E_cSI (As := [.int v1, .int 0, .int ((gI h1 35 0 (5 : Int32).toNatClampNeg) - 1)]) (rest := []) (sM_within G h1 v1 0 ((gI h1 35 0 (5 : Int32).toNatClampNeg) - 1)) ck_X9_within lk_X9_139 rfl rfl rfl rfl rfl dX9_share_21 (fun r3 _ => ?_)
    refine E_if_ne (t := 33) dX9_share_24 rfl ?_ ?_
    · refine E_iconst (v := 0) dX9_share_33 rfl ?_
      refine E_istore_n (ls' := [(2, .int 0), (0, .ref (G.ad 32 0)), (1, .int v1)]) dX9_share_34 rfl (Nat.le_of_ble_eq_true rfl) rfl ?_
      refine E_iconst (v := 0) dX9_share_35 rfl ?_
      refine E_istore_n (ls' := [(3, .int 0), (2, .int 0), (0, .ref (G.ad 32 0)), (1, .int v1)]) dX9_share_36 rfl (Nat.le_of_ble_eq_true rfl) rfl ?_
      exact E_sub [2, 3, 1, 0] rfl (sM_share_37 G v1 FU 0 0 h1)
    · refine E_aload_n dX9_share_27 rfl 0 rfl ?_
      refine E_iconst (v := 1) dX9_share_28 rfl ?_
      refine E_cVIM (As := [.int 1]) (rest := []) (sM_no G h1 1) ck_X9_no lk_X9_158 rfl rfl kc_32 z32 rfl rfl rfl dX9_share_29 (fun q4 _ => ?_)
      exact E_iret rfl rfl dX9_share_32
def iM_shows : MI := (yX9_shows, cX9_shows, 3, (some .int), { frames := 3, cells := 0, slots := 0, locals := 69 }, 1)
theorem ck_X9_shows : CK iM_shows 2 := ⟨⟨wd_113, wd_1536, by decide +kernel⟩, ⟨wd_1534, wd_1535⟩⟩
def jM_shows (h : AH) (v1 : Int32) (v2 : Int32) : Option (Int32 × AH) :=
  (jM_good h).bind fun h1 =>
  (jM_isCell h1 v1 v2).bind fun r2 =>
  if r2 = 0 then ((jM_no h1 1).bind fun q3 =>
  some (q3.1, q3.2))
  else ((jM_cellOf h1 v1 v2).bind fun r4 =>
  (jM_shown h1 r4).bind fun r5 =>
  some (r5, h1))
set_option maxRecDepth 20000 in
set_option maxHeartbeats 2000000 in
theorem sM_shows (G : JG) (h : AH) (v1 : Int32) (v2 : Int32) : Mt G iM_shows rvIM [.ref (G.ad 32 0), .int v1, .int v2] h (jM_shows h v1 v2) := by
  refine Mt_of (by decide) (Nat.le_of_ble_eq_true rfl) ?_
  unfold jM_shows
  show Sim G iM_shows rvIM 0 [(0, .ref (G.ad 32 0)), (1, .int v1), (2, .int v2)] [] h _
  refine E_aload_n dX9_shows_0 rfl 0 rfl ?_
  refine E_cVV (As := []) (rest := []) (sM_good G h) ck_X9_good lk_X9_155 rfl rfl kc_32 z32 rfl rfl rfl dX9_shows_1 (fun h1 _ => ?_)
  refine E_aload_n dX9_shows_4 rfl 0 rfl ?_
  refine E_iload_n dX9_shows_5 rfl 1 rfl ?_
  refine E_iload_n dX9_shows_6 rfl 2 rfl ?_
  refine E_cVI (As := [.int v1, .int v2]) (rest := []) (sM_isCell G h1 v1 v2) ck_X9_isCell lk_X9_268 rfl rfl kc_32 z32 rfl rfl rfl dX9_shows_7 (fun r2 _ => ?_)
  refine E_if_eq (t := 26) dX9_shows_10 rfl ?_ ?_
  · refine E_aload_n dX9_shows_26 rfl 0 rfl ?_
    refine E_iconst (v := 1) dX9_shows_27 rfl ?_
    refine E_cVIM (As := [.int 1]) (rest := []) (sM_no G h1 1) ck_X9_no lk_X9_158 rfl rfl kc_32 z32 rfl rfl rfl dX9_shows_28 (fun q3 _ => ?_)
    exact E_iret rfl rfl dX9_shows_31
  · refine E_aload_n dX9_shows_13 rfl 0 rfl ?_
    refine E_aload_n dX9_shows_14 rfl 0 rfl ?_
    refine E_iload_n dX9_shows_15 rfl 1 rfl ?_
    refine E_iload_n dX9_shows_16 rfl 2 rfl ?_
    refine E_cVI (As := [.int v1, .int v2]) (rest := [.ref (G.ad 32 0)]) (sM_cellOf G h1 v1 v2) ck_X9_cellOf lk_X9_272 rfl rfl kc_32 z32 rfl rfl rfl dX9_shows_17 (fun r4 _ => ?_)
    refine E_cVI (As := [.int r4]) (rest := []) (sM_shown G h1 r4) ck_X9_shown lk_X9_275 rfl rfl kc_32 z32 rfl rfl rfl dX9_shows_20 (fun r5 _ => ?_)
    refine E_goto (t := 31) dX9_shows_23 rfl ?_
    exact E_iret rfl rfl dX9_shows_31
def iM_size : MI := (yX9_size, cX9_size, 2, (some .int), { frames := 2, cells := 0, slots := 0, locals := 43 }, 1)
theorem ck_X9_size : CK iM_size 1 := ⟨⟨wd_113, wd_1861, by decide +kernel⟩, ⟨wd_1859, wd_1860⟩⟩
def jM_size (h : AH) (v1 : Int32) : Option (Int32 × AH) :=
  jb (uI h 32 0 0 0) fun h1 =>
  if v1 = 12 then (some ((gI h1 32 0 2), h1))
  else (if (gI h1 32 0 14) = 0 then ((jM_within v1 0 11).bind fun r5 =>
  if r5 = 0 then (some ((-1), h1))
  else (some (0, h1)))
  else (if v1 = 0 then (if inb 0 161 = true then (
  some ((gI h1 35 0 (0 : Int32).toNatClampNeg), h1)) else none)
  else if v1 = 1 then (if inb 1 161 = true then (
  some ((gI h1 35 0 (1 : Int32).toNatClampNeg), h1)) else none)
  else if v1 = 2 then (if inb 2 161 = true then (
  some ((gI h1 35 0 (2 : Int32).toNatClampNeg), h1)) else none)
  else if v1 = 3 then (if inb 3 161 = true then (
  some ((gI h1 35 0 (3 : Int32).toNatClampNeg), h1)) else none)
  else if v1 = 4 then (if inb 4 161 = true then (
  some ((gI h1 35 0 (4 : Int32).toNatClampNeg), h1)) else none)
  else if v1 = 5 then (if inb 5 161 = true then (
  some ((gI h1 35 0 (5 : Int32).toNatClampNeg), h1)) else none)
  else if v1 = 6 then (if inb 0 340 = true then (
  some ((gI h1 37 0 (0 : Int32).toNatClampNeg), h1)) else none)
  else if v1 = 7 then (if inb 6 161 = true then (
  some ((gI h1 35 0 (6 : Int32).toNatClampNeg), h1)) else none)
  else if v1 = 8 then ((jM_wantedCells h1).bind fun r2 =>
  (jM_bits r2).bind fun r3 =>
  some (r3, h1))
  else if v1 = 9 then (if inb 1 340 = true then (
  some ((gI h1 37 0 (1 : Int32).toNatClampNeg), h1)) else none)
  else if v1 = 10 then (some ((gI h1 32 0 22), h1))
  else if v1 = 11 then (some ((gI h1 32 0 23), h1))
  else (some ((-1), h1))))
set_option maxRecDepth 20000 in
set_option maxHeartbeats 2000000 in
theorem sM_size (G : JG) (h : AH) (v1 : Int32) : Mt G iM_size rvIM [.ref (G.ad 32 0), .int v1] h (jM_size h v1) := by
  refine Mt_of (by decide) (Nat.le_of_ble_eq_true rfl) ?_
  unfold jM_size
  show Sim G iM_size rvIM 0 [(0, .ref (G.ad 32 0)), (1, .int v1)] [] h _
  refine E_aload_n dX9_size_0 rfl 0 rfl ?_
  refine E_iconst (v := 0) dX9_size_1 rfl ?_
  refine E_putI fs_X9_55 dX9_size_2 z32 ?_
  refine E_hgen (fun h1 => ?_)
  refine E_iload_n dX9_size_5 rfl 1 rfl ?_
  refine E_bipush (v := 12) dX9_size_6 rfl ?_
  refine E_icmp_ne (t := 16) dX9_size_8 rfl ?_ ?_
  · refine E_aload_n dX9_size_16 rfl 0 rfl ?_
    refine E_getI fl_X9_168 dX9_size_17 z32 ?_
    refine E_if_ne (t := 39) dX9_size_20 rfl ?_ ?_
    · refine E_iload_n dX9_size_39 rfl 1 rfl ?_
      refine E_tsw (t := 186) [104, 111, 118, 125, 132, 139, 146, 153, 161, 169, 176, 181] dX9_size_40 rfl rfl (by decide) (fun hx4 => ?_) (fun j hj hx4 => ?_)
      · rw [if_neg (show ¬ v1 = 0 from fun z => by rw [z] at hx4; revert hx4; decide)]
        rw [if_neg (show ¬ v1 = 1 from fun z => by rw [z] at hx4; revert hx4; decide)]
        rw [if_neg (show ¬ v1 = 2 from fun z => by rw [z] at hx4; revert hx4; decide)]
        rw [if_neg (show ¬ v1 = 3 from fun z => by rw [z] at hx4; revert hx4; decide)]
        rw [if_neg (show ¬ v1 = 4 from fun z => by rw [z] at hx4; revert hx4; decide)]
        rw [if_neg (show ¬ v1 = 5 from fun z => by rw [z] at hx4; revert hx4; decide)]
        rw [if_neg (show ¬ v1 = 6 from fun z => by rw [z] at hx4; revert hx4; decide)]
        rw [if_neg (show ¬ v1 = 7 from fun z => by rw [z] at hx4; revert hx4; decide)]
        rw [if_neg (show ¬ v1 = 8 from fun z => by rw [z] at hx4; revert hx4; decide)]
        rw [if_neg (show ¬ v1 = 9 from fun z => by rw [z] at hx4; revert hx4; decide)]
        rw [if_neg (show ¬ v1 = 10 from fun z => by rw [z] at hx4; revert hx4; decide)]
        rw [if_neg (show ¬ v1 = 11 from fun z => by rw [z] at hx4; revert hx4; decide)]
        refine E_iconst (v := (-1)) dX9_size_186 rfl ?_
        exact E_iret rfl rfl dX9_size_187
      · rcases j with _ | _ | _ | _ | _ | _ | _ | _ | _ | _ | _ | _ | j
        · have ex : v1 = 0 := Int32.toInt_inj.mp (hx4.trans rfl)
          rw [if_pos ex]
          show Sim G iM_size rvIM 104 [(0, .ref (G.ad 32 0)), (1, .int v1)] [] h1 _
          refine E_aload_n dX9_size_104 rfl 0 rfl ?_
          refine E_getF fl_X9_20 dX9_size_105 z32 ?_
          refine E_iconst (v := 0) dX9_size_108 rfl ?_
          refine E_iald (n := 161) rfl dX9_size_109 z35 (fun _ => ?_)
          exact E_iret rfl rfl dX9_size_110
        · have ex : v1 = 1 := Int32.toInt_inj.mp (hx4.trans rfl)
          rw [if_neg (show ¬ v1 = 0 from fun z => absurd (ex.symm.trans z) (by decide))]
          rw [if_pos ex]
          show Sim G iM_size rvIM 111 [(0, .ref (G.ad 32 0)), (1, .int v1)] [] h1 _
          refine E_aload_n dX9_size_111 rfl 0 rfl ?_
          refine E_getF fl_X9_20 dX9_size_112 z32 ?_
          refine E_iconst (v := 1) dX9_size_115 rfl ?_
          refine E_iald (n := 161) rfl dX9_size_116 z35 (fun _ => ?_)
          exact E_iret rfl rfl dX9_size_117
        · have ex : v1 = 2 := Int32.toInt_inj.mp (hx4.trans rfl)
          rw [if_neg (show ¬ v1 = 0 from fun z => absurd (ex.symm.trans z) (by decide))]
          rw [if_neg (show ¬ v1 = 1 from fun z => absurd (ex.symm.trans z) (by decide))]
          rw [if_pos ex]
          show Sim G iM_size rvIM 118 [(0, .ref (G.ad 32 0)), (1, .int v1)] [] h1 _
          refine E_aload_n dX9_size_118 rfl 0 rfl ?_
          refine E_getF fl_X9_20 dX9_size_119 z32 ?_
          refine E_iconst (v := 2) dX9_size_122 rfl ?_
          refine E_iald (n := 161) rfl dX9_size_123 z35 (fun _ => ?_)
          exact E_iret rfl rfl dX9_size_124
        · have ex : v1 = 3 := Int32.toInt_inj.mp (hx4.trans rfl)
          rw [if_neg (show ¬ v1 = 0 from fun z => absurd (ex.symm.trans z) (by decide))]
          rw [if_neg (show ¬ v1 = 1 from fun z => absurd (ex.symm.trans z) (by decide))]
          rw [if_neg (show ¬ v1 = 2 from fun z => absurd (ex.symm.trans z) (by decide))]
          rw [if_pos ex]
          show Sim G iM_size rvIM 125 [(0, .ref (G.ad 32 0)), (1, .int v1)] [] h1 _
          refine E_aload_n dX9_size_125 rfl 0 rfl ?_
          refine E_getF fl_X9_20 dX9_size_126 z32 ?_
          refine E_iconst (v := 3) dX9_size_129 rfl ?_
          refine E_iald (n := 161) rfl dX9_size_130 z35 (fun _ => ?_)
          exact E_iret rfl rfl dX9_size_131
        · have ex : v1 = 4 := Int32.toInt_inj.mp (hx4.trans rfl)
          rw [if_neg (show ¬ v1 = 0 from fun z => absurd (ex.symm.trans z) (by decide))]
          rw [if_neg (show ¬ v1 = 1 from fun z => absurd (ex.symm.trans z) (by decide))]
          rw [if_neg (show ¬ v1 = 2 from fun z => absurd (ex.symm.trans z) (by decide))]
          rw [if_neg (show ¬ v1 = 3 from fun z => absurd (ex.symm.trans z) (by decide))]
          rw [if_pos ex]
          show Sim G iM_size rvIM 132 [(0, .ref (G.ad 32 0)), (1, .int v1)] [] h1 _
          refine E_aload_n dX9_size_132 rfl 0 rfl ?_
          refine E_getF fl_X9_20 dX9_size_133 z32 ?_
          refine E_iconst (v := 4) dX9_size_136 rfl ?_
          refine E_iald (n := 161) rfl dX9_size_137 z35 (fun _ => ?_)
          exact E_iret rfl rfl dX9_size_138
        · have ex : v1 = 5 := Int32.toInt_inj.mp (hx4.trans rfl)
          rw [if_neg (show ¬ v1 = 0 from fun z => absurd (ex.symm.trans z) (by decide))]
          rw [if_neg (show ¬ v1 = 1 from fun z => absurd (ex.symm.trans z) (by decide))]
          rw [if_neg (show ¬ v1 = 2 from fun z => absurd (ex.symm.trans z) (by decide))]
          rw [if_neg (show ¬ v1 = 3 from fun z => absurd (ex.symm.trans z) (by decide))]
          rw [if_neg (show ¬ v1 = 4 from fun z => absurd (ex.symm.trans z) (by decide))]
          rw [if_pos ex]
          show Sim G iM_size rvIM 139 [(0, .ref (G.ad 32 0)), (1, .int v1)] [] h1 _
          refine E_aload_n dX9_size_139 rfl 0 rfl ?_
          refine E_getF fl_X9_20 dX9_size_140 z32 ?_
          refine E_iconst (v := 5) dX9_size_143 rfl ?_
          refine E_iald (n := 161) rfl dX9_size_144 z35 (fun _ => ?_)
          exact E_iret rfl rfl dX9_size_145
        · have ex : v1 = 6 := Int32.toInt_inj.mp (hx4.trans rfl)
          rw [if_neg (show ¬ v1 = 0 from fun z => absurd (ex.symm.trans z) (by decide))]
          rw [if_neg (show ¬ v1 = 1 from fun z => absurd (ex.symm.trans z) (by decide))]
          rw [if_neg (show ¬ v1 = 2 from fun z => absurd (ex.symm.trans z) (by decide))]
          rw [if_neg (show ¬ v1 = 3 from fun z => absurd (ex.symm.trans z) (by decide))]
          rw [if_neg (show ¬ v1 = 4 from fun z => absurd (ex.symm.trans z) (by decide))]
          rw [if_neg (show ¬ v1 = 5 from fun z => absurd (ex.symm.trans z) (by decide))]
          rw [if_pos ex]
          show Sim G iM_size rvIM 146 [(0, .ref (G.ad 32 0)), (1, .int v1)] [] h1 _
          refine E_aload_n dX9_size_146 rfl 0 rfl ?_
          refine E_getF fl_X9_26 dX9_size_147 z32 ?_
          refine E_iconst (v := 0) dX9_size_150 rfl ?_
          refine E_iald (n := 340) rfl dX9_size_151 z37 (fun _ => ?_)
          exact E_iret rfl rfl dX9_size_152
        · have ex : v1 = 7 := Int32.toInt_inj.mp (hx4.trans rfl)
          rw [if_neg (show ¬ v1 = 0 from fun z => absurd (ex.symm.trans z) (by decide))]
          rw [if_neg (show ¬ v1 = 1 from fun z => absurd (ex.symm.trans z) (by decide))]
          rw [if_neg (show ¬ v1 = 2 from fun z => absurd (ex.symm.trans z) (by decide))]
          rw [if_neg (show ¬ v1 = 3 from fun z => absurd (ex.symm.trans z) (by decide))]
          rw [if_neg (show ¬ v1 = 4 from fun z => absurd (ex.symm.trans z) (by decide))]
          rw [if_neg (show ¬ v1 = 5 from fun z => absurd (ex.symm.trans z) (by decide))]
          rw [if_neg (show ¬ v1 = 6 from fun z => absurd (ex.symm.trans z) (by decide))]
          rw [if_pos ex]
          show Sim G iM_size rvIM 153 [(0, .ref (G.ad 32 0)), (1, .int v1)] [] h1 _
          refine E_aload_n dX9_size_153 rfl 0 rfl ?_
          refine E_getF fl_X9_20 dX9_size_154 z32 ?_
          refine E_bipush (v := 6) dX9_size_157 rfl ?_
          refine E_iald (n := 161) rfl dX9_size_159 z35 (fun _ => ?_)
          exact E_iret rfl rfl dX9_size_160
        · have ex : v1 = 8 := Int32.toInt_inj.mp (hx4.trans rfl)
          rw [if_neg (show ¬ v1 = 0 from fun z => absurd (ex.symm.trans z) (by decide))]
          rw [if_neg (show ¬ v1 = 1 from fun z => absurd (ex.symm.trans z) (by decide))]
          rw [if_neg (show ¬ v1 = 2 from fun z => absurd (ex.symm.trans z) (by decide))]
          rw [if_neg (show ¬ v1 = 3 from fun z => absurd (ex.symm.trans z) (by decide))]
          rw [if_neg (show ¬ v1 = 4 from fun z => absurd (ex.symm.trans z) (by decide))]
          rw [if_neg (show ¬ v1 = 5 from fun z => absurd (ex.symm.trans z) (by decide))]
          rw [if_neg (show ¬ v1 = 6 from fun z => absurd (ex.symm.trans z) (by decide))]
          rw [if_neg (show ¬ v1 = 7 from fun z => absurd (ex.symm.trans z) (by decide))]
          rw [if_pos ex]
          show Sim G iM_size rvIM 161 [(0, .ref (G.ad 32 0)), (1, .int v1)] [] h1 _
          refine E_aload_n dX9_size_161 rfl 0 rfl ?_
          refine E_cVI (As := []) (rest := []) (sM_wantedCells G h1) ck_X9_wantedCells lk_X9_362 rfl rfl kc_32 z32 rfl rfl rfl dX9_size_162 (fun r2 _ => ?_)
          refine E_cSI (As := [.int r2]) (rest := []) (sM_bits G h1 r2) ck_X9_bits lk_X9_302 rfl rfl rfl rfl rfl dX9_size_165 (fun r3 _ => ?_)
          exact E_iret rfl rfl dX9_size_168
        · have ex : v1 = 9 := Int32.toInt_inj.mp (hx4.trans rfl)
          rw [if_neg (show ¬ v1 = 0 from fun z => absurd (ex.symm.trans z) (by decide))]
          rw [if_neg (show ¬ v1 = 1 from fun z => absurd (ex.symm.trans z) (by decide))]
          rw [if_neg (show ¬ v1 = 2 from fun z => absurd (ex.symm.trans z) (by decide))]
          rw [if_neg (show ¬ v1 = 3 from fun z => absurd (ex.symm.trans z) (by decide))]
          rw [if_neg (show ¬ v1 = 4 from fun z => absurd (ex.symm.trans z) (by decide))]
          rw [if_neg (show ¬ v1 = 5 from fun z => absurd (ex.symm.trans z) (by decide))]
          rw [if_neg (show ¬ v1 = 6 from fun z => absurd (ex.symm.trans z) (by decide))]
          rw [if_neg (show ¬ v1 = 7 from fun z => absurd (ex.symm.trans z) (by decide))]
          rw [if_neg (show ¬ v1 = 8 from fun z => absurd (ex.symm.trans z) (by decide))]
          rw [if_pos ex]
          show Sim G iM_size rvIM 169 [(0, .ref (G.ad 32 0)), (1, .int v1)] [] h1 _
          refine E_aload_n dX9_size_169 rfl 0 rfl ?_
          refine E_getF fl_X9_26 dX9_size_170 z32 ?_
          refine E_iconst (v := 1) dX9_size_173 rfl ?_
          refine E_iald (n := 340) rfl dX9_size_174 z37 (fun _ => ?_)
          exact E_iret rfl rfl dX9_size_175
        · have ex : v1 = 10 := Int32.toInt_inj.mp (hx4.trans rfl)
          rw [if_neg (show ¬ v1 = 0 from fun z => absurd (ex.symm.trans z) (by decide))]
          rw [if_neg (show ¬ v1 = 1 from fun z => absurd (ex.symm.trans z) (by decide))]
          rw [if_neg (show ¬ v1 = 2 from fun z => absurd (ex.symm.trans z) (by decide))]
          rw [if_neg (show ¬ v1 = 3 from fun z => absurd (ex.symm.trans z) (by decide))]
          rw [if_neg (show ¬ v1 = 4 from fun z => absurd (ex.symm.trans z) (by decide))]
          rw [if_neg (show ¬ v1 = 5 from fun z => absurd (ex.symm.trans z) (by decide))]
          rw [if_neg (show ¬ v1 = 6 from fun z => absurd (ex.symm.trans z) (by decide))]
          rw [if_neg (show ¬ v1 = 7 from fun z => absurd (ex.symm.trans z) (by decide))]
          rw [if_neg (show ¬ v1 = 8 from fun z => absurd (ex.symm.trans z) (by decide))]
          rw [if_neg (show ¬ v1 = 9 from fun z => absurd (ex.symm.trans z) (by decide))]
          rw [if_pos ex]
          show Sim G iM_size rvIM 176 [(0, .ref (G.ad 32 0)), (1, .int v1)] [] h1 _
          refine E_aload_n dX9_size_176 rfl 0 rfl ?_
          refine E_getI fl_X9_171 dX9_size_177 z32 ?_
          exact E_iret rfl rfl dX9_size_180
        · have ex : v1 = 11 := Int32.toInt_inj.mp (hx4.trans rfl)
          rw [if_neg (show ¬ v1 = 0 from fun z => absurd (ex.symm.trans z) (by decide))]
          rw [if_neg (show ¬ v1 = 1 from fun z => absurd (ex.symm.trans z) (by decide))]
          rw [if_neg (show ¬ v1 = 2 from fun z => absurd (ex.symm.trans z) (by decide))]
          rw [if_neg (show ¬ v1 = 3 from fun z => absurd (ex.symm.trans z) (by decide))]
          rw [if_neg (show ¬ v1 = 4 from fun z => absurd (ex.symm.trans z) (by decide))]
          rw [if_neg (show ¬ v1 = 5 from fun z => absurd (ex.symm.trans z) (by decide))]
          rw [if_neg (show ¬ v1 = 6 from fun z => absurd (ex.symm.trans z) (by decide))]
          rw [if_neg (show ¬ v1 = 7 from fun z => absurd (ex.symm.trans z) (by decide))]
          rw [if_neg (show ¬ v1 = 8 from fun z => absurd (ex.symm.trans z) (by decide))]
          rw [if_neg (show ¬ v1 = 9 from fun z => absurd (ex.symm.trans z) (by decide))]
          rw [if_neg (show ¬ v1 = 10 from fun z => absurd (ex.symm.trans z) (by decide))]
          rw [if_pos ex]
          show Sim G iM_size rvIM 181 [(0, .ref (G.ad 32 0)), (1, .int v1)] [] h1 _
          refine E_aload_n dX9_size_181 rfl 0 rfl ?_
          refine E_getI fl_X9_174 dX9_size_182 z32 ?_
          exact E_iret rfl rfl dX9_size_185
        · exact absurd hj (by show ¬ (j + 12 < 12); omega)
    · refine E_iload_n dX9_size_23 rfl 1 rfl ?_
      refine E_iconst (v := 0) dX9_size_24 rfl ?_
      refine E_bipush (v := 11) dX9_size_25 rfl ?_
      refine E_cSI (As := [.int v1, .int 0, .int 11]) (rest := []) (sM_within G h1 v1 0 11) ck_X9_within lk_X9_139 rfl rfl rfl rfl rfl dX9_size_27 (fun r5 _ => ?_)
      refine E_if_eq (t := 37) dX9_size_30 rfl ?_ ?_
      · refine E_iconst (v := (-1)) dX9_size_37 rfl ?_
        exact E_iret rfl rfl dX9_size_38
      · refine E_iconst (v := 0) dX9_size_33 rfl ?_
        refine E_goto (t := 38) dX9_size_34 rfl ?_
        exact E_iret rfl rfl dX9_size_38
  · refine E_aload_n dX9_size_11 rfl 0 rfl ?_
    refine E_getI fl_X9_61 dX9_size_12 z32 ?_
    exact E_iret rfl rfl dX9_size_15
def iM_step : MI := (yX9_step, cX9_step, 9, (some .int), { frames := 7, cells := 0, slots := 0, locals := 168 }, 1)
theorem ck_X9_step : CK iM_step 2 := ⟨⟨wd_113, wd_1777, by decide +kernel⟩, ⟨wd_1775, wd_1776⟩⟩
def jM_step_150 (v2 : Int32) (k_96 : Int32 → Int32 → Int32 → Int32 → Int32 → AH → Option (Int32 × AH)) (v4 : Int32) (v5 : Int32) (v6 : Int32) (v7 : Int32) (v8 : Int32) (h : AH) : Option (Int32 × AH) :=
  (k_96 v4 (v5 &&& (v7 ^^^ (-1))) v6 v7 (v8 + 1) h)
set_option maxRecDepth 20000 in
set_option maxHeartbeats 2000000 in
theorem sM_step_150 (G : JG) (v2 : Int32) (k_96 : Int32 → Int32 → Int32 → Int32 → Int32 → AH → Option (Int32 × AH)) (hk_96 : ∀ (v4 : Int32) (v5 : Int32) (v6 : Int32) (v7 : Int32) (v8 : Int32) (h : AH), Sim G iM_step rvIM 96 [(0, .ref (G.ad 32 0)), (2, .int v2), (4, .int v4), (5, .int v5), (6, .int v6), (7, .int v7), (8, .int v8)] [] h (k_96 v4 v5 v6 v7 v8 h)) (v4 : Int32) (v5 : Int32) (v6 : Int32) (v7 : Int32) (v8 : Int32) (h : AH) : Sim G iM_step rvIM 150 [(0, .ref (G.ad 32 0)), (2, .int v2), (4, .int v4), (5, .int v5), (6, .int v6), (7, .int v7), (8, .int v8)] [] h (jM_step_150 v2 k_96 v4 v5 v6 v7 v8 h) := by
  unfold jM_step_150
  refine E_iload dX9_step_150 3 rfl ?_
  refine E_iload dX9_step_152 5 rfl ?_
  refine E_iconst (v := (-1)) dX9_step_154 rfl ?_
  refine E_ixor dX9_step_155 ?_
  refine E_iand dX9_step_156 ?_
  refine E_istore (ls' := [(5, .int (v5 &&& (v7 ^^^ (-1)))), (0, .ref (G.ad 32 0)), (2, .int v2), (4, .int v4), (6, .int v6), (7, .int v7), (8, .int v8)]) dX9_step_157 (Nat.le_of_ble_eq_true rfl) rfl ?_
  refine E_iinc (q := 6) (v := (v8 + 1)) (ls' := [(8, .int (v8 + 1)), (5, .int (v5 &&& (v7 ^^^ (-1)))), (0, .ref (G.ad 32 0)), (2, .int v2), (4, .int v4), (6, .int v6), (7, .int v7)]) dX9_step_159 rfl rfl (Nat.le_of_ble_eq_true rfl) rfl ?_
  refine E_goto (t := 96) dX9_step_162 rfl ?_
  exact E_sub [2, 3, 4, 1, 5, 6, 0] rfl (hk_96 v4 (v5 &&& (v7 ^^^ (-1))) v6 v7 (v8 + 1) h)
def jM_step_105 (v2 : Int32) (k_96 : Int32 → Int32 → Int32 → Int32 → Int32 → AH → Option (Int32 × AH)) : Nat → Int32 → Int32 → Int32 → Int32 → Int32 → AH → Option (Int32 × AH)
  | 0, _, _, _, _, _, _ => none
  | n + 1, v4, v5, v6, v7, v8, h =>
    if inb v7 4096 = true then (
    if (gI h 45 0 v7.toNatClampNeg) = 0 then ((jM_step_105 v2 k_96 n v4 v5 v6 (v7 + 1) v8 h))
    else (if (v7 &&& v6) = 0 then ((jM_canBe h (v5 &&& (v7 ^^^ (-1))) ((v4 - v8) - 1)).bind fun r1 =>
    if r1 = 0 then ((jM_step_105 v2 k_96 n v4 v5 v6 (v7 + 1) v8 h))
    else ((jM_step_150 v2 k_96 v4 v5 v6 v7 v8 h)))
    else ((jM_step_105 v2 k_96 n v4 v5 v6 (v7 + 1) v8 h)))) else none
set_option maxRecDepth 20000 in
set_option maxHeartbeats 2000000 in
theorem sM_step_105 (G : JG) (v2 : Int32) (k_96 : Int32 → Int32 → Int32 → Int32 → Int32 → AH → Option (Int32 × AH)) (hk_96 : ∀ (v4 : Int32) (v5 : Int32) (v6 : Int32) (v7 : Int32) (v8 : Int32) (h : AH), Sim G iM_step rvIM 96 [(0, .ref (G.ad 32 0)), (2, .int v2), (4, .int v4), (5, .int v5), (6, .int v6), (7, .int v7), (8, .int v8)] [] h (k_96 v4 v5 v6 v7 v8 h)) : ∀ (n : Nat) (v4 : Int32) (v5 : Int32) (v6 : Int32) (v7 : Int32) (v8 : Int32) (h : AH), Sim G iM_step rvIM 105 [(0, .ref (G.ad 32 0)), (2, .int v2), (4, .int v4), (5, .int v5), (6, .int v6), (7, .int v7), (8, .int v8)] [] h (jM_step_105 v2 k_96 n v4 v5 v6 v7 v8 h) := by
  intro n
  induction n with
  | zero => intro v4 v5 v6 v7 v8 h; exact E_none
  | succ n ih =>
    intro v4 v5 v6 v7 v8 h
    rw [jM_step_105]
    refine E_aload_n dX9_step_105 rfl 0 rfl ?_
    refine E_getF fl_X9_51 dX9_step_106 z32 ?_
    refine E_iload dX9_step_109 5 rfl ?_
    refine E_zald (n := 4096) rfl dX9_step_111 z45 (fun _ => ?_)
    refine E_if_eq (t := 144) dX9_step_112 rfl ?_ ?_
    · refine E_iinc (q := 5) (v := (v7 + 1)) (ls' := [(7, .int (v7 + 1)), (0, .ref (G.ad 32 0)), (2, .int v2), (4, .int v4), (5, .int v5), (6, .int v6), (8, .int v8)]) dX9_step_144 rfl rfl (Nat.le_of_ble_eq_true rfl) rfl ?_
      refine E_goto (t := 105) dX9_step_147 rfl ?_
      exact E_sub [1, 2, 3, 4, 5, 0, 6] rfl (ih v4 v5 v6 (v7 + 1) v8 h)
    · refine E_iload dX9_step_115 5 rfl ?_
      refine E_iload dX9_step_117 4 rfl ?_
      refine E_iand dX9_step_119 ?_
      refine E_if_ne (t := 144) dX9_step_120 rfl ?_ ?_
      · refine E_iinc (q := 5) (v := (v7 + 1)) (ls' := [(7, .int (v7 + 1)), (0, .ref (G.ad 32 0)), (2, .int v2), (4, .int v4), (5, .int v5), (6, .int v6), (8, .int v8)]) dX9_step_144 rfl rfl (Nat.le_of_ble_eq_true rfl) rfl ?_
        refine E_goto (t := 105) dX9_step_147 rfl ?_
        exact E_sub [1, 2, 3, 4, 5, 0, 6] rfl (ih v4 v5 v6 (v7 + 1) v8 h)
      · refine E_aload_n dX9_step_123 rfl 0 rfl ?_
        refine E_iload dX9_step_124 3 rfl ?_
        refine E_iload dX9_step_126 5 rfl ?_
        refine E_iconst (v := (-1)) dX9_step_128 rfl ?_
        refine E_ixor dX9_step_129 ?_
        refine E_iand dX9_step_130 ?_
        refine E_iload dX9_step_131 2 rfl ?_
        refine E_iload dX9_step_133 6 rfl ?_
        refine E_isub dX9_step_135 ?_
        refine E_iconst (v := 1) dX9_step_136 rfl ?_
        refine E_isub dX9_step_137 ?_
        refine E_cVI (As := [.int (v5 &&& (v7 ^^^ (-1))), .int ((v4 - v8) - 1)]) (rest := []) (sM_canBe G h (v5 &&& (v7 ^^^ (-1))) ((v4 - v8) - 1)) ck_X9_canBe lk_X9_374 rfl rfl kc_32 z32 rfl rfl rfl dX9_step_138 (fun r1 _ => ?_)
        refine E_if_ne (t := 150) dX9_step_141 rfl ?_ ?_
        · exact E_sub [0, 1, 2, 3, 4, 5, 6] rfl (sM_step_150 G v2 k_96 hk_96 v4 v5 v6 v7 v8 h)
        · refine E_iinc (q := 5) (v := (v7 + 1)) (ls' := [(7, .int (v7 + 1)), (0, .ref (G.ad 32 0)), (2, .int v2), (4, .int v4), (5, .int v5), (6, .int v6), (8, .int v8)]) dX9_step_144 rfl rfl (Nat.le_of_ble_eq_true rfl) rfl ?_
          refine E_goto (t := 105) dX9_step_147 rfl ?_
          exact E_sub [1, 2, 3, 4, 5, 0, 6] rfl (ih v4 v5 v6 (v7 + 1) v8 h)
def jM_step_96 (v2 : Int32) : Nat → Int32 → Int32 → Int32 → Int32 → Int32 → AH → Option (Int32 × AH)
  | 0, _, _, _, _, _, _ => none
  | n + 1, v4, v5, v6, v7, v8, h =>
    if v8 ≤ v2 then ((jM_step_105 v2 (jM_step_96 v2 n) FU v4 v5 v6 0 v8 h))
    else (some (v7, h))
set_option maxRecDepth 20000 in
set_option maxHeartbeats 2000000 in
theorem sM_step_96 (G : JG) (v2 : Int32)  : ∀ (n : Nat) (v4 : Int32) (v5 : Int32) (v6 : Int32) (v7 : Int32) (v8 : Int32) (h : AH), Sim G iM_step rvIM 96 [(0, .ref (G.ad 32 0)), (2, .int v2), (4, .int v4), (5, .int v5), (6, .int v6), (7, .int v7), (8, .int v8)] [] h (jM_step_96 v2 n v4 v5 v6 v7 v8 h) := by
  intro n
  induction n with
  | zero => intro v4 v5 v6 v7 v8 h; exact E_none
  | succ n ih =>
    intro v4 v5 v6 v7 v8 h
    rw [jM_step_96]
    refine E_iload dX9_step_96 6 rfl ?_
    refine E_iload_n dX9_step_98 rfl 1 rfl ?_
    refine E_icmp_gt (t := 165) dX9_step_99 rfl ?_ ?_
    · refine E_iload dX9_step_165 5 rfl ?_
      exact E_iret rfl rfl dX9_step_167
    · refine E_iconst (v := 0) dX9_step_102 rfl ?_
      refine E_istore (ls' := [(7, .int 0), (0, .ref (G.ad 32 0)), (2, .int v2), (4, .int v4), (5, .int v5), (6, .int v6), (8, .int v8)]) dX9_step_103 (Nat.le_of_ble_eq_true rfl) rfl ?_
      exact E_sub [1, 2, 3, 4, 5, 0, 6] rfl (sM_step_105 G v2 (jM_step_96 v2 n) ih FU v4 v5 v6 0 v8 h)
def jM_step (h : AH) (v1 : Int32) (v2 : Int32) : Option (Int32 × AH) :=
  (jM_good h).bind fun h1 =>
  if (gI h1 32 0 14) = 0 then ((jM_no h1 1).bind fun q2 =>
  some (q2.1, q2.2))
  else (if 0 ≤ v2 then ((jM_yearWhy h1 v1).bind fun r3 =>
  if r3 = 0 then ((jM_needOf h1 v1).bind fun q4 =>
  if q4.1 = (-2) then ((jM_no q4.2 6).bind fun q9 =>
  some (q9.1, q9.2))
  else (if v2 < q4.1 then ((jM_wantedCells q4.2).bind fun r5 =>
  (jM_alikeCells q4.2).bind fun r6 =>
  (jM_staying q4.2 v1).bind fun r7 =>
  (jM_step_96 v2 FU q4.1 (r5 &&& (r6 ^^^ (-1))) r7 0 0 q4.2))
  else ((jM_no q4.2 1).bind fun q8 =>
  some (q8.1, q8.2))))
  else ((jM_no h1 r3).bind fun q10 =>
  some (q10.1, q10.2)))
  else ((jM_no h1 1).bind fun q11 =>
  some (q11.1, q11.2)))
set_option maxRecDepth 20000 in
set_option maxHeartbeats 2000000 in
theorem sM_step (G : JG) (h : AH) (v1 : Int32) (v2 : Int32) : Mt G iM_step rvIM [.ref (G.ad 32 0), .int v1, .int v2] h (jM_step h v1 v2) := by
  refine Mt_of (by decide) (Nat.le_of_ble_eq_true rfl) ?_
  unfold jM_step
  show Sim G iM_step rvIM 0 [(0, .ref (G.ad 32 0)), (1, .int v1), (2, .int v2)] [] h _
  refine E_aload_n dX9_step_0 rfl 0 rfl ?_
  refine E_cVV (As := []) (rest := []) (sM_good G h) ck_X9_good lk_X9_155 rfl rfl kc_32 z32 rfl rfl rfl dX9_step_1 (fun h1 _ => ?_)
  refine E_aload_n dX9_step_4 rfl 0 rfl ?_
  refine E_getI fl_X9_168 dX9_step_5 z32 ?_
  refine E_if_eq (t := 15) dX9_step_8 rfl ?_ ?_
  · refine E_aload_n dX9_step_15 rfl 0 rfl ?_
    refine E_iconst (v := 1) dX9_step_16 rfl ?_
    refine E_cVIM (As := [.int 1]) (rest := []) (sM_no G h1 1) ck_X9_no lk_X9_158 rfl rfl kc_32 z32 rfl rfl rfl dX9_step_17 (fun q2 _ => ?_)
    exact E_iret rfl rfl dX9_step_20
  · refine E_iload_n dX9_step_11 rfl 2 rfl ?_
    refine E_if_ge (t := 21) dX9_step_12 rfl ?_ ?_
    · refine E_aload_n dX9_step_21 rfl 0 rfl ?_
      refine E_iload_n dX9_step_22 rfl 1 rfl ?_
      refine E_cVI (As := [.int v1]) (rest := []) (sM_yearWhy G h1 v1) ck_X9_yearWhy lk_X9_356 rfl rfl kc_32 z32 rfl rfl rfl dX9_step_23 (fun r3 _ => ?_)
      refine E_istore_n (ls' := [(3, .int r3), (0, .ref (G.ad 32 0)), (1, .int v1), (2, .int v2)]) dX9_step_26 rfl (Nat.le_of_ble_eq_true rfl) rfl ?_
      refine E_iload_n dX9_step_27 rfl 0 rfl ?_
      refine E_if_eq (t := 37) dX9_step_28 rfl ?_ ?_
      · refine E_aload_n dX9_step_37 rfl 1 rfl ?_
        refine E_iload_n dX9_step_38 rfl 2 rfl ?_
        refine E_cVIM (As := [.int v1]) (rest := []) (sM_needOf G h1 v1) ck_X9_needOf lk_X9_371 rfl rfl kc_32 z32 rfl rfl rfl dX9_step_39 (fun q4 _ => ?_)
        refine E_istore (ls' := [(4, .int q4.1), (3, .int r3), (0, .ref (G.ad 32 0)), (1, .int v1), (2, .int v2)]) dX9_step_42 (Nat.le_of_ble_eq_true rfl) rfl ?_
        refine E_iload dX9_step_44 0 rfl ?_
        refine E_bipush (v := (-2)) dX9_step_46 rfl ?_
        refine E_icmp_ne (t := 58) dX9_step_48 rfl ?_ ?_
        · refine E_iload_n dX9_step_58 rfl 4 rfl ?_
          refine E_iload dX9_step_59 0 rfl ?_
          refine E_icmp_lt (t := 70) dX9_step_61 rfl ?_ ?_
          · refine E_aload_n dX9_step_70 rfl 2 rfl ?_
            refine E_cVI (As := []) (rest := []) (sM_wantedCells G q4.2) ck_X9_wantedCells lk_X9_362 rfl rfl kc_32 z32 rfl rfl rfl dX9_step_71 (fun r5 _ => ?_)
            refine E_aload_n dX9_step_74 rfl 2 rfl ?_
            refine E_cVI (As := []) (rest := [.int r5]) (sM_alikeCells G q4.2) ck_X9_alikeCells lk_X9_341 rfl rfl kc_32 z32 rfl rfl rfl dX9_step_75 (fun r6 _ => ?_)
            refine E_iconst (v := (-1)) dX9_step_78 rfl ?_
            refine E_ixor dX9_step_79 ?_
            refine E_iand dX9_step_80 ?_
            refine E_istore (ls' := [(5, .int (r5 &&& (r6 ^^^ (-1)))), (4, .int q4.1), (3, .int r3), (0, .ref (G.ad 32 0)), (1, .int v1), (2, .int v2)]) dX9_step_81 (Nat.le_of_ble_eq_true rfl) rfl ?_
            refine E_aload_n dX9_step_83 rfl 3 rfl ?_
            refine E_iload_n dX9_step_84 rfl 4 rfl ?_
            refine E_cVI (As := [.int v1]) (rest := []) (sM_staying G q4.2 v1) ck_X9_staying lk_X9_368 rfl rfl kc_32 z32 rfl rfl rfl dX9_step_85 (fun r7 _ => ?_)
            refine E_istore (ls' := [(6, .int r7), (5, .int (r5 &&& (r6 ^^^ (-1)))), (4, .int q4.1), (3, .int r3), (0, .ref (G.ad 32 0)), (1, .int v1), (2, .int v2)]) dX9_step_88 (Nat.le_of_ble_eq_true rfl) rfl ?_
            refine E_iconst (v := 0) dX9_step_90 rfl ?_
            refine E_istore (ls' := [(7, .int 0), (6, .int r7), (5, .int (r5 &&& (r6 ^^^ (-1)))), (4, .int q4.1), (3, .int r3), (0, .ref (G.ad 32 0)), (1, .int v1), (2, .int v2)]) dX9_step_91 (Nat.le_of_ble_eq_true rfl) rfl ?_
            refine E_iconst (v := 0) dX9_step_93 rfl ?_
            refine E_istore (ls' := [(8, .int 0), (7, .int 0), (6, .int r7), (5, .int (r5 &&& (r6 ^^^ (-1)))), (4, .int q4.1), (3, .int r3), (0, .ref (G.ad 32 0)), (1, .int v1), (2, .int v2)]) dX9_step_94 (Nat.le_of_ble_eq_true rfl) rfl ?_
            exact E_sub [6, 8, 4, 3, 2, 1, 0] rfl (sM_step_96 G v2 FU q4.1 (r5 &&& (r6 ^^^ (-1))) r7 0 0 q4.2)
          · refine E_aload_n dX9_step_64 rfl 2 rfl ?_
            refine E_iconst (v := 1) dX9_step_65 rfl ?_
            refine E_cVIM (As := [.int 1]) (rest := []) (sM_no G q4.2 1) ck_X9_no lk_X9_158 rfl rfl kc_32 z32 rfl rfl rfl dX9_step_66 (fun q8 _ => ?_)
            exact E_iret rfl rfl dX9_step_69
        · refine E_aload_n dX9_step_51 rfl 2 rfl ?_
          refine E_bipush (v := 6) dX9_step_52 rfl ?_
          refine E_cVIM (As := [.int 6]) (rest := []) (sM_no G q4.2 6) ck_X9_no lk_X9_158 rfl rfl kc_32 z32 rfl rfl rfl dX9_step_54 (fun q9 _ => ?_)
          exact E_iret rfl rfl dX9_step_57
      · refine E_aload_n dX9_step_31 rfl 1 rfl ?_
        refine E_iload_n dX9_step_32 rfl 0 rfl ?_
        refine E_cVIM (As := [.int r3]) (rest := []) (sM_no G h1 r3) ck_X9_no lk_X9_158 rfl rfl kc_32 z32 rfl rfl rfl dX9_step_33 (fun q10 _ => ?_)
        exact E_iret rfl rfl dX9_step_36
    · refine E_aload_n dX9_step_15 rfl 0 rfl ?_
      refine E_iconst (v := 1) dX9_step_16 rfl ?_
      refine E_cVIM (As := [.int 1]) (rest := []) (sM_no G h1 1) ck_X9_no lk_X9_158 rfl rfl kc_32 z32 rfl rfl rfl dX9_step_17 (fun q11 _ => ?_)
      exact E_iret rfl rfl dX9_step_20
def iM_thief : MI := (yX9_thief, cX9_thief, 5, (some .int), { frames := 2, cells := 0, slots := 0, locals := 46 }, 1)
theorem ck_X9_thief : CK iM_thief 1 := ⟨⟨wd_113, wd_1841, by decide +kernel⟩, ⟨wd_1839, wd_1840⟩⟩
def jM_thief_105 (v1 : Int32) (k_92 : Int32 → Int32 → AH → Option (Int32 × AH)) : Nat → Int32 → Int32 → Int32 → AH → Option (Int32 × AH)
  | 0, _, _, _, _ => none
  | n + 1, v2, v3, v4, h =>
    if v4 < 24 then ((jM_yearOf h v3).bind fun r1 =>
    if r1 ≤ v1 then ((k_92 v2 (v3 + 1) h))
    else (if inb (((2 + (26 * v3)) + 2) + v4) 340 = true then (
    jb (uI h 37 0 (((2 + (26 * v3)) + 2) + v4).toNatClampNeg 0) fun h2 =>
    (jM_thief_105 v1 k_92 n v2 v3 (v4 + 1) h2)) else none))
    else ((k_92 v2 (v3 + 1) h))
set_option maxRecDepth 20000 in
set_option maxHeartbeats 2000000 in
theorem sM_thief_105 (G : JG) (v1 : Int32) (k_92 : Int32 → Int32 → AH → Option (Int32 × AH)) (hk_92 : ∀ (v2 : Int32) (v3 : Int32) (h : AH), Sim G iM_thief rvIM 92 [(0, .ref (G.ad 32 0)), (1, .int v1), (2, .int v2), (3, .int v3)] [] h (k_92 v2 v3 h)) : ∀ (n : Nat) (v2 : Int32) (v3 : Int32) (v4 : Int32) (h : AH), Sim G iM_thief rvIM 105 [(0, .ref (G.ad 32 0)), (1, .int v1), (2, .int v2), (3, .int v3), (4, .int v4)] [] h (jM_thief_105 v1 k_92 n v2 v3 v4 h) := by
  intro n
  induction n with
  | zero => intro v2 v3 v4 h; exact E_none
  | succ n ih =>
    intro v2 v3 v4 h
    rw [jM_thief_105]
    refine E_iload dX9_thief_105 4 rfl ?_
    refine E_bipush (v := 24) dX9_thief_107 rfl ?_
    refine E_icmp_ge (t := 144) dX9_thief_109 rfl ?_ ?_
    · refine E_iinc (q := 3) (v := (v3 + 1)) (ls' := [(3, .int (v3 + 1)), (0, .ref (G.ad 32 0)), (1, .int v1), (2, .int v2), (4, .int v4)]) dX9_thief_144 rfl rfl (Nat.le_of_ble_eq_true rfl) rfl ?_
      refine E_goto (t := 92) dX9_thief_147 rfl ?_
      exact E_sub [1, 2, 3, 0] rfl (hk_92 v2 (v3 + 1) h)
    · refine E_aload_n dX9_thief_112 rfl 0 rfl ?_
      refine E_iload_n dX9_thief_113 rfl 3 rfl ?_
      refine E_cVI (As := [.int v3]) (rest := []) (sM_yearOf G h v3) ck_X9_yearOf lk_X9_278 rfl rfl kc_32 z32 rfl rfl rfl dX9_thief_114 (fun r1 _ => ?_)
      refine E_iload_n dX9_thief_117 rfl 1 rfl ?_
      refine E_icmp_le (t := 144) dX9_thief_118 rfl ?_ ?_
      · refine E_iinc (q := 3) (v := (v3 + 1)) (ls' := [(3, .int (v3 + 1)), (0, .ref (G.ad 32 0)), (1, .int v1), (2, .int v2), (4, .int v4)]) dX9_thief_144 rfl rfl (Nat.le_of_ble_eq_true rfl) rfl ?_
        refine E_goto (t := 92) dX9_thief_147 rfl ?_
        exact E_sub [1, 2, 3, 0] rfl (hk_92 v2 (v3 + 1) h)
      · refine E_aload_n dX9_thief_121 rfl 0 rfl ?_
        refine E_getF fl_X9_26 dX9_thief_122 z32 ?_
        refine E_iconst (v := 2) dX9_thief_125 rfl ?_
        refine E_bipush (v := 26) dX9_thief_126 rfl ?_
        refine E_iload_n dX9_thief_128 rfl 3 rfl ?_
        refine E_imul dX9_thief_129 ?_
        refine E_iadd dX9_thief_130 ?_
        refine E_iconst (v := 2) dX9_thief_131 rfl ?_
        refine E_iadd dX9_thief_132 ?_
        refine E_iload dX9_thief_133 4 rfl ?_
        refine E_iadd dX9_thief_135 ?_
        refine E_iconst (v := 0) dX9_thief_136 rfl ?_
        refine E_iast (n := 340) rfl dX9_thief_137 z37 (fun _ => ?_)
        refine E_hgen (fun h2 => ?_)
        refine E_iinc (q := 4) (v := (v4 + 1)) (ls' := [(4, .int (v4 + 1)), (0, .ref (G.ad 32 0)), (1, .int v1), (2, .int v2), (3, .int v3)]) dX9_thief_138 rfl rfl (Nat.le_of_ble_eq_true rfl) rfl ?_
        refine E_goto (t := 105) dX9_thief_141 rfl ?_
        exact E_sub [1, 2, 3, 4, 0] rfl (ih v2 v3 (v4 + 1) h2)
def jM_thief_92 (v1 : Int32) : Nat → Int32 → Int32 → AH → Option (Int32 × AH)
  | 0, _, _, _ => none
  | n + 1, v2, v3, h =>
    if inb 0 340 = true then (
    if v3 < (gI h 37 0 (0 : Int32).toNatClampNeg) then ((jM_thief_105 v1 (jM_thief_92 v1 n) FU v2 v3 0 h))
    else ((jM_did h).bind fun q1 =>
    (jM_bits v2).bind fun r2 =>
    some (r2, q1.2))) else none
set_option maxRecDepth 20000 in
set_option maxHeartbeats 2000000 in
theorem sM_thief_92 (G : JG) (v1 : Int32)  : ∀ (n : Nat) (v2 : Int32) (v3 : Int32) (h : AH), Sim G iM_thief rvIM 92 [(0, .ref (G.ad 32 0)), (1, .int v1), (2, .int v2), (3, .int v3)] [] h (jM_thief_92 v1 n v2 v3 h) := by
  intro n
  induction n with
  | zero => intro v2 v3 h; exact E_none
  | succ n ih =>
    intro v2 v3 h
    rw [jM_thief_92]
    refine E_iload_n dX9_thief_92 rfl 3 rfl ?_
    refine E_aload_n dX9_thief_93 rfl 0 rfl ?_
    refine E_getF fl_X9_26 dX9_thief_94 z32 ?_
    refine E_iconst (v := 0) dX9_thief_97 rfl ?_
    refine E_iald (n := 340) rfl dX9_thief_98 z37 (fun _ => ?_)
    refine E_icmp_ge (t := 150) dX9_thief_99 rfl ?_ ?_
    · refine E_aload_n dX9_thief_150 rfl 0 rfl ?_
      refine E_cVIM (As := []) (rest := []) (sM_did G h) ck_X9_did lk_X9_386 rfl rfl kc_32 z32 rfl rfl rfl dX9_thief_151 (fun q1 _ => ?_)
      refine E_pop dX9_thief_154 rfl ?_
      refine E_iload_n dX9_thief_155 rfl 2 rfl ?_
      refine E_cSI (As := [.int v2]) (rest := []) (sM_bits G q1.2 v2) ck_X9_bits lk_X9_302 rfl rfl rfl rfl rfl dX9_thief_156 (fun r2 _ => ?_)
      exact E_iret rfl rfl dX9_thief_159
    · refine E_iconst (v := 0) dX9_thief_102 rfl ?_
      refine E_istore (ls' := [(4, .int 0), (0, .ref (G.ad 32 0)), (1, .int v1), (2, .int v2), (3, .int v3)]) dX9_thief_103 (Nat.le_of_ble_eq_true rfl) rfl ?_
      exact E_sub [1, 2, 3, 4, 0] rfl (sM_thief_105 G v1 (jM_thief_92 v1 n) ih FU v2 v3 0 h)
def jM_thief_75 (v1 : Int32) (v2 : Int32) (h : AH) : Option (Int32 × AH) :=
  if v2 = 0 then ((jM_no h 6).bind fun q2 =>
  some (q2.1, q2.2))
  else ((jM_note h).bind fun h1 =>
  (jM_thief_92 v1 FU v2 0 h1))
set_option maxRecDepth 20000 in
set_option maxHeartbeats 2000000 in
theorem sM_thief_75 (G : JG) (v1 : Int32)  (v2 : Int32) (h : AH) : Sim G iM_thief rvIM 75 [(0, .ref (G.ad 32 0)), (1, .int v1), (2, .int v2)] [] h (jM_thief_75 v1 v2 h) := by
  unfold jM_thief_75
  refine E_iload_n dX9_thief_75 rfl 2 rfl ?_
  refine E_if_ne (t := 86) dX9_thief_76 rfl ?_ ?_
  · refine E_aload_n dX9_thief_86 rfl 0 rfl ?_
    refine E_cVV (As := []) (rest := []) (sM_note G h) ck_X9_note lk_X9_383 rfl rfl kc_32 z32 rfl rfl rfl dX9_thief_87 (fun h1 _ => ?_)
    refine E_iconst (v := 0) dX9_thief_90 rfl ?_
    refine E_istore_n (ls' := [(3, .int 0), (0, .ref (G.ad 32 0)), (1, .int v1), (2, .int v2)]) dX9_thief_91 rfl (Nat.le_of_ble_eq_true rfl) rfl ?_
    exact E_sub [1, 2, 3, 0] rfl (sM_thief_92 G v1 FU v2 0 h1)
  · refine E_aload_n dX9_thief_79 rfl 0 rfl ?_
    refine E_bipush (v := 6) dX9_thief_80 rfl ?_
    refine E_cVIM (As := [.int 6]) (rest := []) (sM_no G h 6) ck_X9_no lk_X9_158 rfl rfl kc_32 z32 rfl rfl rfl dX9_thief_82 (fun q2 _ => ?_)
    exact E_iret rfl rfl dX9_thief_85
def jM_thief_38 (v1 : Int32) : Nat → Int32 → Int32 → AH → Option (Int32 × AH)
  | 0, _, _, _ => none
  | n + 1, v2, v3, h =>
    if inb 0 340 = true then (
    if v3 < (gI h 37 0 (0 : Int32).toNatClampNeg) then ((jM_yearOf h v3).bind fun r1 =>
    if r1 ≤ v1 then ((jM_thief_38 v1 n (v2 ||| 0) (v3 + 1) h))
    else ((jM_painted h v3).bind fun r2 =>
    (jM_thief_38 v1 n (v2 ||| r2) (v3 + 1) h)))
    else ((jM_thief_75 v1 v2 h))) else none
set_option maxRecDepth 20000 in
set_option maxHeartbeats 2000000 in
theorem sM_thief_38 (G : JG) (v1 : Int32)  : ∀ (n : Nat) (v2 : Int32) (v3 : Int32) (h : AH), Sim G iM_thief rvIM 38 [(0, .ref (G.ad 32 0)), (1, .int v1), (2, .int v2), (3, .int v3)] [] h (jM_thief_38 v1 n v2 v3 h) := by
  intro n
  induction n with
  | zero => intro v2 v3 h; exact E_none
  | succ n ih =>
    intro v2 v3 h
    rw [jM_thief_38]
    refine E_iload_n dX9_thief_38 rfl 3 rfl ?_
    refine E_aload_n dX9_thief_39 rfl 0 rfl ?_
    refine E_getF fl_X9_26 dX9_thief_40 z32 ?_
    refine E_iconst (v := 0) dX9_thief_43 rfl ?_
    refine E_iald (n := 340) rfl dX9_thief_44 z37 (fun _ => ?_)
    refine E_icmp_ge (t := 75) dX9_thief_45 rfl ?_ ?_
    · exact E_sub [0, 1, 2] rfl (sM_thief_75 G v1 v2 h)
    · refine E_iload_n dX9_thief_48 rfl 2 rfl ?_
      refine E_aload_n dX9_thief_49 rfl 0 rfl ?_
      refine E_iload_n dX9_thief_50 rfl 3 rfl ?_
      refine E_cVI (As := [.int v3]) (rest := [.int v2]) (sM_yearOf G h v3) ck_X9_yearOf lk_X9_278 rfl rfl kc_32 z32 rfl rfl rfl dX9_thief_51 (fun r1 _ => ?_)
      refine E_iload_n dX9_thief_54 rfl 1 rfl ?_
      refine E_icmp_le (t := 66) dX9_thief_55 rfl ?_ ?_
      · refine E_iconst (v := 0) dX9_thief_66 rfl ?_
        refine E_ior dX9_thief_67 ?_
        refine E_istore_n (ls' := [(2, .int (v2 ||| 0)), (0, .ref (G.ad 32 0)), (1, .int v1), (3, .int v3)]) dX9_thief_68 rfl (Nat.le_of_ble_eq_true rfl) rfl ?_
        refine E_iinc (q := 3) (v := (v3 + 1)) (ls' := [(3, .int (v3 + 1)), (2, .int (v2 ||| 0)), (0, .ref (G.ad 32 0)), (1, .int v1)]) dX9_thief_69 rfl rfl (Nat.le_of_ble_eq_true rfl) rfl ?_
        refine E_goto (t := 38) dX9_thief_72 rfl ?_
        exact E_sub [2, 3, 1, 0] rfl (ih (v2 ||| 0) (v3 + 1) h)
      · refine E_aload_n dX9_thief_58 rfl 0 rfl ?_
        refine E_iload_n dX9_thief_59 rfl 3 rfl ?_
        refine E_cVI (As := [.int v3]) (rest := [.int v2]) (sM_painted G h v3) ck_X9_painted lk_X9_311 rfl rfl kc_32 z32 rfl rfl rfl dX9_thief_60 (fun r2 _ => ?_)
        refine E_goto (t := 67) dX9_thief_63 rfl ?_
        refine E_ior dX9_thief_67 ?_
        refine E_istore_n (ls' := [(2, .int (v2 ||| r2)), (0, .ref (G.ad 32 0)), (1, .int v1), (3, .int v3)]) dX9_thief_68 rfl (Nat.le_of_ble_eq_true rfl) rfl ?_
        refine E_iinc (q := 3) (v := (v3 + 1)) (ls' := [(3, .int (v3 + 1)), (2, .int (v2 ||| r2)), (0, .ref (G.ad 32 0)), (1, .int v1)]) dX9_thief_69 rfl rfl (Nat.le_of_ble_eq_true rfl) rfl ?_
        refine E_goto (t := 38) dX9_thief_72 rfl ?_
        exact E_sub [2, 3, 1, 0] rfl (ih (v2 ||| r2) (v3 + 1) h)
def jM_thief (h : AH) (v1 : Int32) : Option (Int32 × AH) :=
  (jM_good h).bind fun h1 =>
  if (gI h1 32 0 14) = 0 then ((jM_no h1 1).bind fun q4 =>
  some (q4.1, q4.2))
  else ((jM_within v1 0 999).bind fun r2 =>
  if r2 = 0 then ((jM_no h1 2).bind fun q3 =>
  some (q3.1, q3.2))
  else ((jM_thief_38 v1 FU 0 0 h1)))
set_option maxRecDepth 20000 in
set_option maxHeartbeats 2000000 in
theorem sM_thief (G : JG) (h : AH) (v1 : Int32) : Mt G iM_thief rvIM [.ref (G.ad 32 0), .int v1] h (jM_thief h v1) := by
  refine Mt_of (by decide) (Nat.le_of_ble_eq_true rfl) ?_
  unfold jM_thief
  show Sim G iM_thief rvIM 0 [(0, .ref (G.ad 32 0)), (1, .int v1)] [] h _
  refine E_aload_n dX9_thief_0 rfl 0 rfl ?_
  refine E_cVV (As := []) (rest := []) (sM_good G h) ck_X9_good lk_X9_155 rfl rfl kc_32 z32 rfl rfl rfl dX9_thief_1 (fun h1 _ => ?_)
  refine E_aload_n dX9_thief_4 rfl 0 rfl ?_
  refine E_getI fl_X9_168 dX9_thief_5 z32 ?_
  refine E_if_ne (t := 17) dX9_thief_8 rfl ?_ ?_
  · refine E_iload_n dX9_thief_17 rfl 1 rfl ?_
    refine E_iconst (v := 0) dX9_thief_18 rfl ?_
    refine E_sipush (v := 999) dX9_thief_19 rfl ?_
    refine E_cSI (As := [.int v1, .int 0, .int 999]) (rest := []) (sM_within G h1 v1 0 999) ck_X9_within lk_X9_139 rfl rfl rfl rfl rfl dX9_thief_22 (fun r2 _ => ?_)
    refine E_if_ne (t := 34) dX9_thief_25 rfl ?_ ?_
    · refine E_iconst (v := 0) dX9_thief_34 rfl ?_
      refine E_istore_n (ls' := [(2, .int 0), (0, .ref (G.ad 32 0)), (1, .int v1)]) dX9_thief_35 rfl (Nat.le_of_ble_eq_true rfl) rfl ?_
      refine E_iconst (v := 0) dX9_thief_36 rfl ?_
      refine E_istore_n (ls' := [(3, .int 0), (2, .int 0), (0, .ref (G.ad 32 0)), (1, .int v1)]) dX9_thief_37 rfl (Nat.le_of_ble_eq_true rfl) rfl ?_
      exact E_sub [2, 3, 1, 0] rfl (sM_thief_38 G v1 FU 0 0 h1)
    · refine E_aload_n dX9_thief_28 rfl 0 rfl ?_
      refine E_iconst (v := 2) dX9_thief_29 rfl ?_
      refine E_cVIM (As := [.int 2]) (rest := []) (sM_no G h1 2) ck_X9_no lk_X9_158 rfl rfl kc_32 z32 rfl rfl rfl dX9_thief_30 (fun q3 _ => ?_)
      exact E_iret rfl rfl dX9_thief_33
  · refine E_aload_n dX9_thief_11 rfl 0 rfl ?_
    refine E_iconst (v := 1) dX9_thief_12 rfl ?_
    refine E_cVIM (As := [.int 1]) (rest := []) (sM_no G h1 1) ck_X9_no lk_X9_158 rfl rfl kc_32 z32 rfl rfl rfl dX9_thief_13 (fun q4 _ => ?_)
    exact E_iret rfl rfl dX9_thief_16
