/-! ===== the class, 5 ===== -/
def iR_wantLine : MI := (yX5_wantLine, cX5_wantLine, 1, none, { frames := 4, cells := 0, slots := 0, locals := 98 }, 0)
theorem ck_X5_wantLine : CK iR_wantLine 0 := ⟨⟨wd_106, wd_629, by decide +kernel⟩, ⟨wd_628, wd_17⟩⟩
def jR_wantLine_31  (h : AH) : Option (AH) :=
  jb (uI h 3 ((gB h 2).toNat) 7 1) fun h1 =>
  jb (uI h1 2 0 5 ((gI h1 2 0 5) + 1)) fun h2 =>
  (jR_readPatches h2 (-1)).bind fun h3 =>
  some h3
set_option maxRecDepth 20000 in
set_option maxHeartbeats 2000000 in
theorem sR_wantLine_31 (G : JG)   (h : AH) : Sim G iR_wantLine rvV 31 [(0, .ref (G.ad 2 0))] [] h (jR_wantLine_31 h) := by
  unfold jR_wantLine_31
  refine E_aload_n dX5_wantLine_31 rfl 0 rfl ?_
  refine E_getD fl_X5_18 dX5_wantLine_32 z2 ?_
  refine E_iconst (v := 1) dX5_wantLine_35 rfl ?_
  refine E_putZ fs_X5_198 (Or.inr rfl) dX5_wantLine_36 (tB3 _) ?_
  refine E_hgen (fun h1 => ?_)
  refine E_aload_n dX5_wantLine_39 rfl 0 rfl ?_
  refine E_dup dX5_wantLine_40 rfl ?_
  refine E_getI fl_X5_53 dX5_wantLine_41 z2 ?_
  refine E_iconst (v := 1) dX5_wantLine_44 rfl ?_
  refine E_iadd dX5_wantLine_45 ?_
  refine E_putI fs_X5_53 dX5_wantLine_46 z2 ?_
  refine E_hgen (fun h2 => ?_)
  refine E_aload_n dX5_wantLine_49 rfl 0 rfl ?_
  refine E_iconst (v := (-1)) dX5_wantLine_50 rfl ?_
  refine E_cVV (As := [.int (-1)]) (rest := []) (sR_readPatches G h2 (-1)) ck_X5_readPatches lk_X5_181 rfl rfl kc_2 z2 rfl rfl rfl dX5_wantLine_51 (fun h3 _ => ?_)
  exact E_vret rfl rfl dX5_wantLine_54
def jR_wantLine_15  (h : AH) : Option (AH) :=
  (jB_isTold h ((gB h 2).toNat)).bind fun r1 =>
  if r1 = 0 then ((jR_fail h 6).bind fun h2 =>
  (jR_wantLine_31 h2))
  else ((jR_wantLine_31 h))
set_option maxRecDepth 20000 in
set_option maxHeartbeats 2000000 in
theorem sR_wantLine_15 (G : JG)   (h : AH) : Sim G iR_wantLine rvV 15 [(0, .ref (G.ad 2 0))] [] h (jR_wantLine_15 h) := by
  unfold jR_wantLine_15
  refine E_aload_n dX5_wantLine_15 rfl 0 rfl ?_
  refine E_getD fl_X5_18 dX5_wantLine_16 z2 ?_
  refine E_cVI (As := []) (rest := []) (sB_isTold G h ((gB h 2).toNat) (tB3 _)) ck_X0_isTold lk_X5_109 rfl rfl kc_3 (tB3 _) rfl rfl rfl dX5_wantLine_19 (fun r1 _ => ?_)
  refine E_if_ne (t := 31) dX5_wantLine_22 rfl ?_ ?_
  · exact E_sub [0] rfl (sR_wantLine_31 G h)
  · refine E_aload_n dX5_wantLine_25 rfl 0 rfl ?_
    refine E_bipush (v := 6) dX5_wantLine_26 rfl ?_
    refine E_cVV (As := [.int 6]) (rest := []) (sR_fail G h 6) ck_X5_fail lk_X5_90 rfl rfl kc_2 z2 rfl rfl rfl dX5_wantLine_28 (fun h2 _ => ?_)
    exact E_sub [0] rfl (sR_wantLine_31 G h2)
def jR_wantLine (h : AH)  : Option (AH) :=
  if (gI h 3 ((gB h 2).toNat) 7) = 0 then ((jR_wantLine_15 h))
  else ((jR_fail h 3).bind fun h1 =>
  (jR_wantLine_15 h1))
set_option maxRecDepth 20000 in
set_option maxHeartbeats 2000000 in
theorem sR_wantLine (G : JG) (h : AH)  : Mt G iR_wantLine rvV [.ref (G.ad 2 0)] h (jR_wantLine h) := by
  refine Mt_of (by decide) (Nat.le_of_ble_eq_true rfl) ?_
  unfold jR_wantLine
  show Sim G iR_wantLine rvV 0 [(0, .ref (G.ad 2 0))] [] h _
  refine E_aload_n dX5_wantLine_0 rfl 0 rfl ?_
  refine E_getD fl_X5_18 dX5_wantLine_1 z2 ?_
  refine E_getI fl_X5_198 dX5_wantLine_4 (tB3 _) ?_
  refine E_if_eq (t := 15) dX5_wantLine_7 rfl ?_ ?_
  · exact E_sub [0] rfl (sR_wantLine_15 G h)
  · refine E_aload_n dX5_wantLine_10 rfl 0 rfl ?_
    refine E_iconst (v := 3) dX5_wantLine_11 rfl ?_
    refine E_cVV (As := [.int 3]) (rest := []) (sR_fail G h 3) ck_X5_fail lk_X5_90 rfl rfl kc_2 z2 rfl rfl rfl dX5_wantLine_12 (fun h1 _ => ?_)
    exact E_sub [0] rfl (sR_wantLine_15 G h1)
def iT_startOf : MI := (yX6_startOf, cX6_startOf, 2, (some .int), { frames := 0, cells := 0, slots := 0, locals := 0 }, 0)
theorem ck_X6_startOf : CK iT_startOf 1 := ⟨⟨wd_109, wd_637, by decide +kernel⟩, ⟨wd_635, wd_636⟩⟩
def jT_startOf (h : AH) (v1 : Int32) : Option (Int32) :=
  if v1 < 0 then (some (-1))
  else (if v1 < (gI h 17 0 0) then (if inb v1 901 = true then (
  some (gI h 19 0 v1.toNatClampNeg)) else none)
  else (some (-1)))
set_option maxRecDepth 20000 in
set_option maxHeartbeats 2000000 in
theorem sT_startOf (G : JG) (h : AH) (v1 : Int32) : Mt G iT_startOf (rvI h) [.ref (G.ad 17 0), .int v1] h (jT_startOf h v1) := by
  refine Mt_of (by decide) (Nat.le_of_ble_eq_true rfl) ?_
  unfold jT_startOf
  show Sim G iT_startOf (rvI h) 0 [(0, .ref (G.ad 17 0)), (1, .int v1)] [] h _
  refine E_iload_n dX6_startOf_0 rfl 1 rfl ?_
  refine E_if_lt (t := 21) dX6_startOf_1 rfl ?_ ?_
  · refine E_iconst (v := (-1)) dX6_startOf_21 rfl ?_
    exact E_iret rfl rfl dX6_startOf_22
  · refine E_iload_n dX6_startOf_4 rfl 1 rfl ?_
    refine E_aload_n dX6_startOf_5 rfl 0 rfl ?_
    refine E_getI fl_X6_22 dX6_startOf_6 z17 ?_
    refine E_icmp_ge (t := 21) dX6_startOf_9 rfl ?_ ?_
    · refine E_iconst (v := (-1)) dX6_startOf_21 rfl ?_
      exact E_iret rfl rfl dX6_startOf_22
    · refine E_aload_n dX6_startOf_12 rfl 0 rfl ?_
      refine E_getF fl_X6_15 dX6_startOf_13 z17 ?_
      refine E_iload_n dX6_startOf_16 rfl 1 rfl ?_
      refine E_iald (n := 901) rfl dX6_startOf_17 z19 (fun _ => ?_)
      refine E_goto (t := 22) dX6_startOf_18 rfl ?_
      exact E_iret rfl rfl dX6_startOf_22
def iR_readBook : MI := (yX5_readBook, cX5_readBook, 6, none, { frames := 5, cells := 0, slots := 0, locals := 119 }, 0)
theorem ck_X5_readBook : CK iR_readBook 2 := ⟨⟨wd_106, wd_428, by decide +kernel⟩, ⟨wd_426, wd_427⟩⟩
def jR_readBook_206 (k_46 : Int32 → Int32 → Int32 → AH → Option AH) (v3 : Int32) (v5 : Int32) (h : AH) : Option (AH) :=
  (jR_isLineToCome h).bind fun q1 =>
  (k_46 v3 q1.1 (v5 + 1) q1.2)
set_option maxRecDepth 20000 in
set_option maxHeartbeats 2000000 in
theorem sR_readBook_206 (G : JG)  (k_46 : Int32 → Int32 → Int32 → AH → Option AH) (hk_46 : ∀ (v3 : Int32) (v4 : Int32) (v5 : Int32) (h : AH), Sim G iR_readBook rvV 46 [(0, .ref (G.ad 2 0)), (3, .int v3), (4, .int v4), (5, .int v5)] [] h (k_46 v3 v4 v5 h)) (v3 : Int32) (v5 : Int32) (h : AH) : Sim G iR_readBook rvV 206 [(0, .ref (G.ad 2 0)), (3, .int v3), (5, .int v5)] [] h (jR_readBook_206 k_46 v3 v5 h) := by
  unfold jR_readBook_206
  refine E_aload_n dX5_readBook_206 rfl 0 rfl ?_
  refine E_cVIM (As := []) (rest := []) (sR_isLineToCome G h) ck_X5_isLineToCome lk_X5_94 rfl rfl kc_2 z2 rfl rfl rfl dX5_readBook_207 (fun q1 _ => ?_)
  refine E_istore (ls' := [(4, .int q1.1), (0, .ref (G.ad 2 0)), (3, .int v3), (5, .int v5)]) dX5_readBook_210 (Nat.le_of_ble_eq_true rfl) rfl ?_
  refine E_iinc (q := 3) (v := (v5 + 1)) (ls' := [(5, .int (v5 + 1)), (4, .int q1.1), (0, .ref (G.ad 2 0)), (3, .int v3)]) dX5_readBook_212 rfl rfl (Nat.le_of_ble_eq_true rfl) rfl ?_
  refine E_goto (t := 46) dX5_readBook_215 rfl ?_
  exact E_sub [2, 3, 1, 0] rfl (hk_46 v3 q1.1 (v5 + 1) q1.2)
def jR_readBook_218  (h : AH) : Option (AH) :=
  if (gI h 2 0 0) = 0 then (jb (uI h 2 0 1 (-1)) fun h3 =>
  some h3)
  else ((jT_startOf h (gI h 2 0 6)).bind fun r1 =>
  jb (uI h 2 0 1 r1) fun h2 =>
  some h2)
set_option maxRecDepth 20000 in
set_option maxHeartbeats 2000000 in
theorem sR_readBook_218 (G : JG)   (h : AH) : Sim G iR_readBook rvV 218 [(0, .ref (G.ad 2 0))] [] h (jR_readBook_218 h) := by
  unfold jR_readBook_218
  refine E_aload_n dX5_readBook_218 rfl 0 rfl ?_
  refine E_aload_n dX5_readBook_219 rfl 0 rfl ?_
  refine E_getI fl_X5_50 dX5_readBook_220 z2 ?_
  refine E_if_ne (t := 230) dX5_readBook_223 rfl ?_ ?_
  · refine E_aload_n dX5_readBook_230 rfl 0 rfl ?_
    refine E_getF fl_X5_32 dX5_readBook_231 z2 ?_
    refine E_aload_n dX5_readBook_234 rfl 0 rfl ?_
    refine E_getI fl_X5_98 dX5_readBook_235 z2 ?_
    refine E_cVI (As := [.int (gI h 2 0 6)]) (rest := [.ref (G.ad 2 0)]) (sT_startOf G h (gI h 2 0 6)) ck_X6_startOf lk_X5_101 rfl rfl kc_17 z17 rfl rfl rfl dX5_readBook_238 (fun r1 _ => ?_)
    refine E_putI fs_X5_9 dX5_readBook_241 z2 ?_
    refine E_hgen (fun h2 => ?_)
    exact E_vret rfl rfl dX5_readBook_244
  · refine E_iconst (v := (-1)) dX5_readBook_226 rfl ?_
    refine E_goto (t := 241) dX5_readBook_227 rfl ?_
    refine E_putI fs_X5_9 dX5_readBook_241 z2 ?_
    refine E_hgen (fun h3 => ?_)
    exact E_vret rfl rfl dX5_readBook_244
def jR_readBook_46  : Nat → Int32 → Int32 → Int32 → AH → Option (AH)
  | 0, _, _, _, _ => none
  | n + 1, v3, v4, v5, h =>
    if v5 ≤ v3 then (if v4 = 0 then ((jR_readBook_218 h))
    else ((jT_isWord h (gI h 2 0 5) 2002873452).bind fun r1 =>
    if r1 = 0 then ((jT_isWord h (gI h 2 0 5) 109330211763570).bind fun r2 =>
    if r2 = 0 then ((jT_isWord h (gI h 2 0 5) 1751215716).bind fun r3 =>
    if r3 = 0 then ((jT_isWord h (gI h 2 0 5) 2003792491).bind fun r4 =>
    if r4 = 0 then ((jT_isWord h (gI h 2 0 5) 7165066978583995252).bind fun r5 =>
    if r5 = 0 then ((jT_isWord h (gI h 2 0 5) 2002873972).bind fun r6 =>
    if r6 = 0 then ((jR_fail h 1).bind fun h7 =>
    (jR_readBook_206 (jR_readBook_46 n) v3 v5 h7))
    else ((jR_wantLine h).bind fun h8 =>
    (jR_readBook_206 (jR_readBook_46 n) v3 v5 h8)))
    else ((jR_contractLine h).bind fun h9 =>
    (jR_readBook_206 (jR_readBook_46 n) v3 v5 h9)))
    else ((jR_workLine h).bind fun h10 =>
    (jR_readBook_206 (jR_readBook_46 n) v3 v5 h10)))
    else ((jR_handLine h).bind fun h11 =>
    (jR_readBook_206 (jR_readBook_46 n) v3 v5 h11)))
    else ((jR_colourLine h).bind fun h12 =>
    (jR_readBook_206 (jR_readBook_46 n) v3 v5 h12)))
    else ((jR_wallLine h).bind fun h13 =>
    (jR_readBook_206 (jR_readBook_46 n) v3 v5 h13))))
    else ((jR_readBook_218 h))
set_option maxRecDepth 20000 in
set_option maxHeartbeats 2000000 in
theorem sR_readBook_46 (G : JG)   : ∀ (n : Nat) (v3 : Int32) (v4 : Int32) (v5 : Int32) (h : AH), Sim G iR_readBook rvV 46 [(0, .ref (G.ad 2 0)), (3, .int v3), (4, .int v4), (5, .int v5)] [] h (jR_readBook_46 n v3 v4 v5 h) := by
  intro n
  induction n with
  | zero => intro v3 v4 v5 h; exact E_none
  | succ n ih =>
    intro v3 v4 v5 h
    rw [jR_readBook_46]
    refine E_iload dX5_readBook_46 3 rfl ?_
    refine E_iload_n dX5_readBook_48 rfl 1 rfl ?_
    refine E_icmp_gt (t := 218) dX5_readBook_49 rfl ?_ ?_
    · exact E_sub [0] rfl (sR_readBook_218 G h)
    · refine E_iload dX5_readBook_52 2 rfl ?_
      refine E_if_eq (t := 218) dX5_readBook_54 rfl ?_ ?_
      · exact E_sub [0] rfl (sR_readBook_218 G h)
      · refine E_aload_n dX5_readBook_57 rfl 0 rfl ?_
        refine E_getF fl_X5_32 dX5_readBook_58 z2 ?_
        refine E_aload_n dX5_readBook_61 rfl 0 rfl ?_
        refine E_getI fl_X5_53 dX5_readBook_62 z2 ?_
        refine E_ldc2 dX5_readBook_65 cn_X5_56 ?_
        refine E_cVI (As := [.int (gI h 2 0 5), .long 2002873452]) (rest := []) (sT_isWord G h (gI h 2 0 5) 2002873452) ck_X6_isWord lk_X5_58 rfl rfl kc_17 z17 rfl rfl rfl dX5_readBook_68 (fun r1 _ => ?_)
        refine E_if_eq (t := 81) dX5_readBook_71 rfl ?_ ?_
        · refine E_aload_n dX5_readBook_81 rfl 0 rfl ?_
          refine E_getF fl_X5_32 dX5_readBook_82 z2 ?_
          refine E_aload_n dX5_readBook_85 rfl 0 rfl ?_
          refine E_getI fl_X5_53 dX5_readBook_86 z2 ?_
          refine E_ldc2 dX5_readBook_89 cn_X5_65 ?_
          refine E_cVI (As := [.int (gI h 2 0 5), .long 109330211763570]) (rest := []) (sT_isWord G h (gI h 2 0 5) 109330211763570) ck_X6_isWord lk_X5_58 rfl rfl kc_17 z17 rfl rfl rfl dX5_readBook_92 (fun r2 _ => ?_)
          refine E_if_eq (t := 105) dX5_readBook_95 rfl ?_ ?_
          · refine E_aload_n dX5_readBook_105 rfl 0 rfl ?_
            refine E_getF fl_X5_32 dX5_readBook_106 z2 ?_
            refine E_aload_n dX5_readBook_109 rfl 0 rfl ?_
            refine E_getI fl_X5_53 dX5_readBook_110 z2 ?_
            refine E_ldc2 dX5_readBook_113 cn_X5_70 ?_
            refine E_cVI (As := [.int (gI h 2 0 5), .long 1751215716]) (rest := []) (sT_isWord G h (gI h 2 0 5) 1751215716) ck_X6_isWord lk_X5_58 rfl rfl kc_17 z17 rfl rfl rfl dX5_readBook_116 (fun r3 _ => ?_)
            refine E_if_eq (t := 129) dX5_readBook_119 rfl ?_ ?_
            · refine E_aload_n dX5_readBook_129 rfl 0 rfl ?_
              refine E_getF fl_X5_32 dX5_readBook_130 z2 ?_
              refine E_aload_n dX5_readBook_133 rfl 0 rfl ?_
              refine E_getI fl_X5_53 dX5_readBook_134 z2 ?_
              refine E_ldc2 dX5_readBook_137 cn_X5_75 ?_
              refine E_cVI (As := [.int (gI h 2 0 5), .long 2003792491]) (rest := []) (sT_isWord G h (gI h 2 0 5) 2003792491) ck_X6_isWord lk_X5_58 rfl rfl kc_17 z17 rfl rfl rfl dX5_readBook_140 (fun r4 _ => ?_)
              refine E_if_eq (t := 153) dX5_readBook_143 rfl ?_ ?_
              · refine E_aload_n dX5_readBook_153 rfl 0 rfl ?_
                refine E_getF fl_X5_32 dX5_readBook_154 z2 ?_
                refine E_aload_n dX5_readBook_157 rfl 0 rfl ?_
                refine E_getI fl_X5_53 dX5_readBook_158 z2 ?_
                refine E_ldc2 dX5_readBook_161 cn_X5_80 ?_
                refine E_cVI (As := [.int (gI h 2 0 5), .long 7165066978583995252]) (rest := []) (sT_isWord G h (gI h 2 0 5) 7165066978583995252) ck_X6_isWord lk_X5_58 rfl rfl kc_17 z17 rfl rfl rfl dX5_readBook_164 (fun r5 _ => ?_)
                refine E_if_eq (t := 177) dX5_readBook_167 rfl ?_ ?_
                · refine E_aload_n dX5_readBook_177 rfl 0 rfl ?_
                  refine E_getF fl_X5_32 dX5_readBook_178 z2 ?_
                  refine E_aload_n dX5_readBook_181 rfl 0 rfl ?_
                  refine E_getI fl_X5_53 dX5_readBook_182 z2 ?_
                  refine E_ldc2 dX5_readBook_185 cn_X5_85 ?_
                  refine E_cVI (As := [.int (gI h 2 0 5), .long 2002873972]) (rest := []) (sT_isWord G h (gI h 2 0 5) 2002873972) ck_X6_isWord lk_X5_58 rfl rfl kc_17 z17 rfl rfl rfl dX5_readBook_188 (fun r6 _ => ?_)
                  refine E_if_eq (t := 201) dX5_readBook_191 rfl ?_ ?_
                  · refine E_aload_n dX5_readBook_201 rfl 0 rfl ?_
                    refine E_iconst (v := 1) dX5_readBook_202 rfl ?_
                    refine E_cVV (As := [.int 1]) (rest := []) (sR_fail G h 1) ck_X5_fail lk_X5_90 rfl rfl kc_2 z2 rfl rfl rfl dX5_readBook_203 (fun h7 _ => ?_)
                    exact E_sub [0, 1, 3] rfl (sR_readBook_206 G (jR_readBook_46 n) ih v3 v5 h7)
                  · refine E_aload_n dX5_readBook_194 rfl 0 rfl ?_
                    refine E_cVV (As := []) (rest := []) (sR_wantLine G h) ck_X5_wantLine lk_X5_87 rfl rfl kc_2 z2 rfl rfl rfl dX5_readBook_195 (fun h8 _ => ?_)
                    refine E_goto (t := 206) dX5_readBook_198 rfl ?_
                    exact E_sub [0, 1, 3] rfl (sR_readBook_206 G (jR_readBook_46 n) ih v3 v5 h8)
                · refine E_aload_n dX5_readBook_170 rfl 0 rfl ?_
                  refine E_cVV (As := []) (rest := []) (sR_contractLine G h) ck_X5_contractLine lk_X5_82 rfl rfl kc_2 z2 rfl rfl rfl dX5_readBook_171 (fun h9 _ => ?_)
                  refine E_goto (t := 206) dX5_readBook_174 rfl ?_
                  exact E_sub [0, 1, 3] rfl (sR_readBook_206 G (jR_readBook_46 n) ih v3 v5 h9)
              · refine E_aload_n dX5_readBook_146 rfl 0 rfl ?_
                refine E_cVV (As := []) (rest := []) (sR_workLine G h) ck_X5_workLine lk_X5_77 rfl rfl kc_2 z2 rfl rfl rfl dX5_readBook_147 (fun h10 _ => ?_)
                refine E_goto (t := 206) dX5_readBook_150 rfl ?_
                exact E_sub [0, 1, 3] rfl (sR_readBook_206 G (jR_readBook_46 n) ih v3 v5 h10)
            · refine E_aload_n dX5_readBook_122 rfl 0 rfl ?_
              refine E_cVV (As := []) (rest := []) (sR_handLine G h) ck_X5_handLine lk_X5_72 rfl rfl kc_2 z2 rfl rfl rfl dX5_readBook_123 (fun h11 _ => ?_)
              refine E_goto (t := 206) dX5_readBook_126 rfl ?_
              exact E_sub [0, 1, 3] rfl (sR_readBook_206 G (jR_readBook_46 n) ih v3 v5 h11)
          · refine E_aload_n dX5_readBook_98 rfl 0 rfl ?_
            refine E_cVV (As := []) (rest := []) (sR_colourLine G h) ck_X5_colourLine lk_X5_67 rfl rfl kc_2 z2 rfl rfl rfl dX5_readBook_99 (fun h12 _ => ?_)
            refine E_goto (t := 206) dX5_readBook_102 rfl ?_
            exact E_sub [0, 1, 3] rfl (sR_readBook_206 G (jR_readBook_46 n) ih v3 v5 h12)
        · refine E_aload_n dX5_readBook_74 rfl 0 rfl ?_
          refine E_cVV (As := []) (rest := []) (sR_wallLine G h) ck_X5_wallLine lk_X5_62 rfl rfl kc_2 z2 rfl rfl rfl dX5_readBook_75 (fun h13 _ => ?_)
          refine E_goto (t := 206) dX5_readBook_78 rfl ?_
          exact E_sub [0, 1, 3] rfl (sR_readBook_206 G (jR_readBook_46 n) ih v3 v5 h13)
def jR_readBook (h : AH) (v2 : Int32) : Option (AH) :=
  (jT_cut h (mmin v2 900)).bind fun h1 =>
  (jB_clear h1 ((gB h1 2).toNat)).bind fun h2 =>
  (jW_clear h2 ((gB h2 3).toNat)).bind fun h3 =>
  jb (uI h3 2 0 0 0) fun h4 =>
  jb (uI h4 2 0 5 0) fun h5 =>
  (jR_readBook_46 FU (mmin v2 900) 1 0 h5)
set_option maxRecDepth 20000 in
set_option maxHeartbeats 2000000 in
theorem sR_readBook (G : JG) (h : AH) (v2 : Int32) : Mt G iR_readBook rvV [.ref (G.ad 2 0), .ref (G.ad 1 0), .int v2] h (jR_readBook h v2) := by
  refine Mt_of (by decide) (Nat.le_of_ble_eq_true rfl) ?_
  unfold jR_readBook
  show Sim G iR_readBook rvV 0 [(0, .ref (G.ad 2 0)), (1, .ref (G.ad 1 0)), (2, .int v2)] [] h _
  refine E_iload_n dX5_readBook_0 rfl 2 rfl ?_
  refine E_aload_n dX5_readBook_1 rfl 1 rfl ?_
  refine E_alen1 (n := 900) (v := 900) rfl rfl dX5_readBook_2 z1 ?_
  refine E_mmin lk_X5_36 wx_min1 wx_ma wx_min2 (by decide) (Nat.le_of_ble_eq_true rfl) dX5_readBook_3 ?_
  refine E_istore_n (ls' := [(3, .int (mmin v2 900)), (0, .ref (G.ad 2 0)), (1, .ref (G.ad 1 0)), (2, .int v2)]) dX5_readBook_6 rfl (Nat.le_of_ble_eq_true rfl) rfl ?_
  refine E_aload_n dX5_readBook_7 rfl 1 rfl ?_
  refine E_getF fl_X5_32 dX5_readBook_8 z2 ?_
  refine E_aload_n dX5_readBook_11 rfl 2 rfl ?_
  refine E_iload_n dX5_readBook_12 rfl 0 rfl ?_
  refine E_cVV (As := [.ref (G.ad 1 0), .int (mmin v2 900)]) (rest := []) (sT_cut G h (mmin v2 900)) ck_X6_cut lk_X5_42 rfl rfl kc_17 z17 rfl rfl rfl dX5_readBook_13 (fun h1 _ => ?_)
  refine E_aload_n dX5_readBook_16 rfl 1 rfl ?_
  refine E_getD fl_X5_18 dX5_readBook_17 z2 ?_
  refine E_cVV (As := []) (rest := []) (sB_clear G h1 ((gB h1 2).toNat) (tB3 _)) ck_X0_clear lk_X5_46 rfl rfl kc_3 (tB3 _) rfl rfl rfl dX5_readBook_20 (fun h2 _ => ?_)
  refine E_aload_n dX5_readBook_23 rfl 1 rfl ?_
  refine E_getD fl_X5_25 dX5_readBook_24 z2 ?_
  refine E_cVV (As := []) (rest := []) (sW_clear G h2 ((gB h2 3).toNat) (tB13 _)) ck_X7_clear lk_X5_49 rfl rfl kc_13 (tB13 _) rfl rfl rfl dX5_readBook_27 (fun h3 _ => ?_)
  refine E_aload_n dX5_readBook_30 rfl 1 rfl ?_
  refine E_iconst (v := 0) dX5_readBook_31 rfl ?_
  refine E_putI fs_X5_50 dX5_readBook_32 z2 ?_
  refine E_hgen (fun h4 => ?_)
  refine E_aload_n dX5_readBook_35 rfl 1 rfl ?_
  refine E_iconst (v := 0) dX5_readBook_36 rfl ?_
  refine E_putI fs_X5_53 dX5_readBook_37 z2 ?_
  refine E_hgen (fun h5 => ?_)
  refine E_iconst (v := 1) dX5_readBook_40 rfl ?_
  refine E_istore (ls' := [(4, .int 1), (3, .int (mmin v2 900)), (0, .ref (G.ad 2 0)), (1, .ref (G.ad 1 0)), (2, .int v2)]) dX5_readBook_41 (Nat.le_of_ble_eq_true rfl) rfl ?_
  refine E_iconst (v := 0) dX5_readBook_43 rfl ?_
  refine E_istore (ls' := [(5, .int 0), (4, .int 1), (3, .int (mmin v2 900)), (0, .ref (G.ad 2 0)), (1, .ref (G.ad 1 0)), (2, .int v2)]) dX5_readBook_44 (Nat.le_of_ble_eq_true rfl) rfl ?_
  exact E_sub [3, 2, 1, 0] rfl (sR_readBook_46 G FU (mmin v2 900) 1 0 h5)
def iW_cellsLaterThan : MI := (yX7_cellsLaterThan, cX7_cellsLaterThan, 4, (some .int), { frames := 2, cells := 0, slots := 0, locals := 46 }, 0)
theorem ck_X7_cellsLaterThan : CK iW_cellsLaterThan 1 := ⟨⟨wd_108, wd_1113, by decide +kernel⟩, ⟨wd_1111, wd_1112⟩⟩
def jW_cellsLaterThan_4 (h : AH) (w : Nat) (v1 : Int32) : Nat → Int32 → Int32 → Option (Int32)
  | 0, _, _ => none
  | n + 1, v2, v3 =>
    if v3 < (gI h 13 w 0) then ((jW_yearOf h w v3).bind fun r1 =>
    if r1 ≤ v1 then ((jW_cellsLaterThan_4 h w v1 n v2 (v3 + 1)))
    else ((jW_cellsOf h w v3).bind fun r2 =>
    (jW_cellsLaterThan_4 h w v1 n (v2 ||| r2) (v3 + 1))))
    else (some v2)
set_option maxRecDepth 20000 in
set_option maxHeartbeats 2000000 in
theorem sW_cellsLaterThan_4 (G : JG) (h : AH) (w : Nat) (hw : w < nIn 0 13) (v1 : Int32)  : ∀ (n : Nat) (v2 : Int32) (v3 : Int32), Sim G iW_cellsLaterThan (rvI h) 4 [(0, .ref (G.ad 13 w)), (1, .int v1), (2, .int v2), (3, .int v3)] [] h (jW_cellsLaterThan_4 h w v1 n v2 v3) := by
  intro n
  induction n with
  | zero => intro v2 v3; exact E_none
  | succ n ih =>
    intro v2 v3
    rw [jW_cellsLaterThan_4]
    refine E_iload_n dX7_cellsLaterThan_4 rfl 3 rfl ?_
    refine E_aload_n dX7_cellsLaterThan_5 rfl 0 rfl ?_
    refine E_getI fl_X7_21 dX7_cellsLaterThan_6 hw ?_
    refine E_icmp_ge (t := 35) dX7_cellsLaterThan_9 rfl ?_ ?_
    · refine E_iload_n dX7_cellsLaterThan_35 rfl 2 rfl ?_
      exact E_iret rfl rfl dX7_cellsLaterThan_36
    · refine E_aload_n dX7_cellsLaterThan_12 rfl 0 rfl ?_
      refine E_iload_n dX7_cellsLaterThan_13 rfl 3 rfl ?_
      refine E_cVI (As := [.int v3]) (rest := []) (sW_yearOf G h w hw v3) ck_X7_yearOf lk_X7_39 rfl rfl kc_13 hw rfl rfl rfl dX7_cellsLaterThan_14 (fun r1 _ => ?_)
      refine E_iload_n dX7_cellsLaterThan_17 rfl 1 rfl ?_
      refine E_icmp_le (t := 29) dX7_cellsLaterThan_18 rfl ?_ ?_
      · refine E_iinc (q := 3) (v := (v3 + 1)) (ls' := [(3, .int (v3 + 1)), (0, .ref (G.ad 13 w)), (1, .int v1), (2, .int v2)]) dX7_cellsLaterThan_29 rfl rfl (Nat.le_of_ble_eq_true rfl) rfl ?_
        refine E_goto (t := 4) dX7_cellsLaterThan_32 rfl ?_
        exact E_sub [1, 2, 3, 0] rfl (ih v2 (v3 + 1))
      · refine E_iload_n dX7_cellsLaterThan_21 rfl 2 rfl ?_
        refine E_aload_n dX7_cellsLaterThan_22 rfl 0 rfl ?_
        refine E_iload_n dX7_cellsLaterThan_23 rfl 3 rfl ?_
        refine E_cVI (As := [.int v3]) (rest := [.int v2]) (sW_cellsOf G h w hw v3) ck_X7_cellsOf lk_X7_53 rfl rfl kc_13 hw rfl rfl rfl dX7_cellsLaterThan_24 (fun r2 _ => ?_)
        refine E_ior dX7_cellsLaterThan_27 ?_
        refine E_istore_n (ls' := [(2, .int (v2 ||| r2)), (0, .ref (G.ad 13 w)), (1, .int v1), (3, .int v3)]) dX7_cellsLaterThan_28 rfl (Nat.le_of_ble_eq_true rfl) rfl ?_
        refine E_iinc (q := 3) (v := (v3 + 1)) (ls' := [(3, .int (v3 + 1)), (2, .int (v2 ||| r2)), (0, .ref (G.ad 13 w)), (1, .int v1)]) dX7_cellsLaterThan_29 rfl rfl (Nat.le_of_ble_eq_true rfl) rfl ?_
        refine E_goto (t := 4) dX7_cellsLaterThan_32 rfl ?_
        exact E_sub [2, 3, 1, 0] rfl (ih (v2 ||| r2) (v3 + 1))
def jW_cellsLaterThan (h : AH) (w : Nat) (v1 : Int32) : Option (Int32) :=
  (jW_cellsLaterThan_4 h w v1 FU 0 0)
set_option maxRecDepth 20000 in
set_option maxHeartbeats 2000000 in
theorem sW_cellsLaterThan (G : JG) (h : AH) (w : Nat) (hw : w < nIn 0 13) (v1 : Int32) : Mt G iW_cellsLaterThan (rvI h) [.ref (G.ad 13 w), .int v1] h (jW_cellsLaterThan h w v1) := by
  refine Mt_of (by decide) (Nat.le_of_ble_eq_true rfl) ?_
  unfold jW_cellsLaterThan
  show Sim G iW_cellsLaterThan (rvI h) 0 [(0, .ref (G.ad 13 w)), (1, .int v1)] [] h _
  refine E_iconst (v := 0) dX7_cellsLaterThan_0 rfl ?_
  refine E_istore_n (ls' := [(2, .int 0), (0, .ref (G.ad 13 w)), (1, .int v1)]) dX7_cellsLaterThan_1 rfl (Nat.le_of_ble_eq_true rfl) rfl ?_
  refine E_iconst (v := 0) dX7_cellsLaterThan_2 rfl ?_
  refine E_istore_n (ls' := [(3, .int 0), (2, .int 0), (0, .ref (G.ad 13 w)), (1, .int v1)]) dX7_cellsLaterThan_3 rfl (Nat.le_of_ble_eq_true rfl) rfl ?_
  exact E_sub [2, 3, 1, 0] rfl (sW_cellsLaterThan_4 G h w hw v1 FU 0 0)
def iW_handOf : MI := (yX7_handOf, cX7_handOf, 2, (some .int), { frames := 1, cells := 0, slots := 0, locals := 20 }, 0)
theorem ck_X7_handOf : CK iW_handOf 1 := ⟨⟨wd_108, wd_694, by decide +kernel⟩, ⟨wd_692, wd_693⟩⟩
def jW_handOf (h : AH) (w : Nat) (v1 : Int32) : Option (Int32) :=
  (jW_isRow v1).bind fun r1 =>
  if r1 = 0 then (some (-2))
  else (if inb v1 12 = true then (
  some (gI h 14 w v1.toNatClampNeg)) else none)
set_option maxRecDepth 20000 in
set_option maxHeartbeats 2000000 in
theorem sW_handOf (G : JG) (h : AH) (w : Nat) (hw : w < nIn 0 13) (v1 : Int32) : Mt G iW_handOf (rvI h) [.ref (G.ad 13 w), .int v1] h (jW_handOf h w v1) := by
  refine Mt_of (by decide) (Nat.le_of_ble_eq_true rfl) ?_
  unfold jW_handOf
  show Sim G iW_handOf (rvI h) 0 [(0, .ref (G.ad 13 w)), (1, .int v1)] [] h _
  refine E_iload_n dX7_handOf_0 rfl 1 rfl ?_
  refine E_cSI (As := [.int v1]) (rest := []) (sW_isRow G h v1) ck_X7_isRow lk_X7_35 rfl rfl rfl rfl rfl dX7_handOf_1 (fun r1 _ => ?_)
  refine E_if_eq (t := 16) dX7_handOf_4 rfl ?_ ?_
  · refine E_bipush (v := (-2)) dX7_handOf_16 rfl ?_
    exact E_iret rfl rfl dX7_handOf_18
  · refine E_aload_n dX7_handOf_7 rfl 0 rfl ?_
    refine E_getS fl_X7_9 dX7_handOf_8 hw ?_
    refine E_iload_n dX7_handOf_11 rfl 1 rfl ?_
    refine E_iald (n := 12) rfl dX7_handOf_12 hw (fun _ => ?_)
    refine E_goto (t := 18) dX7_handOf_13 rfl ?_
    exact E_iret rfl rfl dX7_handOf_18
def iW_has : MI := (yX7_has, cX7_has, 2, (some .boolean), { frames := 0, cells := 0, slots := 0, locals := 0 }, 0)
theorem ck_X7_has : CK iW_has 1 := ⟨⟨wd_108, wd_780, by decide +kernel⟩, ⟨wd_778, wd_779⟩⟩
def jW_has (h : AH) (w : Nat) (v1 : Int32) : Option (Int32) :=
  if v1 < 0 then (some 0)
  else (if v1 < (gI h 13 w 0) then (some 1)
  else (some 0))
set_option maxRecDepth 20000 in
set_option maxHeartbeats 2000000 in
theorem sW_has (G : JG) (h : AH) (w : Nat) (hw : w < nIn 0 13) (v1 : Int32) : Mt G iW_has (rvI h) [.ref (G.ad 13 w), .int v1] h (jW_has h w v1) := by
  refine Mt_of (by decide) (Nat.le_of_ble_eq_true rfl) ?_
  unfold jW_has
  show Sim G iW_has (rvI h) 0 [(0, .ref (G.ad 13 w)), (1, .int v1)] [] h _
  refine E_iload_n dX7_has_0 rfl 1 rfl ?_
  refine E_if_lt (t := 16) dX7_has_1 rfl ?_ ?_
  · refine E_iconst (v := 0) dX7_has_16 rfl ?_
    exact E_zret rfl rfl rfl dX7_has_17
  · refine E_iload_n dX7_has_4 rfl 1 rfl ?_
    refine E_aload_n dX7_has_5 rfl 0 rfl ?_
    refine E_getI fl_X7_21 dX7_has_6 hw ?_
    refine E_icmp_ge (t := 16) dX7_has_9 rfl ?_ ?_
    · refine E_iconst (v := 0) dX7_has_16 rfl ?_
      exact E_zret rfl rfl rfl dX7_has_17
    · refine E_iconst (v := 1) dX7_has_12 rfl ?_
      refine E_goto (t := 17) dX7_has_13 rfl ?_
      exact E_zret rfl rfl rfl dX7_has_17
def iW_layersAt : MI := (yX7_layersAt, cX7_layersAt, 4, (some .int), { frames := 1, cells := 0, slots := 0, locals := 23 }, 0)
theorem ck_X7_layersAt : CK iW_layersAt 1 := ⟨⟨wd_108, wd_728, by decide +kernel⟩, ⟨wd_726, wd_727⟩⟩
def jW_layersAt_4 (h : AH) (w : Nat) (v1 : Int32) : Nat → Int32 → Int32 → Option (Int32)
  | 0, _, _ => none
  | n + 1, v2, v3 =>
    if v3 < (gI h 13 w 0) then ((jW_colourAt h w v3 v1).bind fun r1 =>
    if r1 = (-2) then ((jW_layersAt_4 h w v1 n v2 (v3 + 1)))
    else ((jW_layersAt_4 h w v1 n (v2 + 1) (v3 + 1))))
    else (some v2)
set_option maxRecDepth 20000 in
set_option maxHeartbeats 2000000 in
theorem sW_layersAt_4 (G : JG) (h : AH) (w : Nat) (hw : w < nIn 0 13) (v1 : Int32)  : ∀ (n : Nat) (v2 : Int32) (v3 : Int32), Sim G iW_layersAt (rvI h) 4 [(0, .ref (G.ad 13 w)), (1, .int v1), (2, .int v2), (3, .int v3)] [] h (jW_layersAt_4 h w v1 n v2 v3) := by
  intro n
  induction n with
  | zero => intro v2 v3; exact E_none
  | succ n ih =>
    intro v2 v3
    rw [jW_layersAt_4]
    refine E_iload_n dX7_layersAt_4 rfl 3 rfl ?_
    refine E_aload_n dX7_layersAt_5 rfl 0 rfl ?_
    refine E_getI fl_X7_21 dX7_layersAt_6 hw ?_
    refine E_icmp_ge (t := 32) dX7_layersAt_9 rfl ?_ ?_
    · refine E_iload_n dX7_layersAt_32 rfl 2 rfl ?_
      exact E_iret rfl rfl dX7_layersAt_33
    · refine E_aload_n dX7_layersAt_12 rfl 0 rfl ?_
      refine E_iload_n dX7_layersAt_13 rfl 3 rfl ?_
      refine E_iload_n dX7_layersAt_14 rfl 1 rfl ?_
      refine E_cVI (As := [.int v3, .int v1]) (rest := []) (sW_colourAt G h w hw v3 v1) ck_X7_colourAt lk_X7_43 rfl rfl kc_13 hw rfl rfl rfl dX7_layersAt_15 (fun r1 _ => ?_)
      refine E_bipush (v := (-2)) dX7_layersAt_18 rfl ?_
      refine E_icmp_eq (t := 26) dX7_layersAt_20 rfl ?_ ?_
      · refine E_iinc (q := 3) (v := (v3 + 1)) (ls' := [(3, .int (v3 + 1)), (0, .ref (G.ad 13 w)), (1, .int v1), (2, .int v2)]) dX7_layersAt_26 rfl rfl (Nat.le_of_ble_eq_true rfl) rfl ?_
        refine E_goto (t := 4) dX7_layersAt_29 rfl ?_
        exact E_sub [1, 2, 3, 0] rfl (ih v2 (v3 + 1))
      · refine E_iinc (q := 2) (v := (v2 + 1)) (ls' := [(2, .int (v2 + 1)), (0, .ref (G.ad 13 w)), (1, .int v1), (3, .int v3)]) dX7_layersAt_23 rfl rfl (Nat.le_of_ble_eq_true rfl) rfl ?_
        refine E_iinc (q := 3) (v := (v3 + 1)) (ls' := [(3, .int (v3 + 1)), (2, .int (v2 + 1)), (0, .ref (G.ad 13 w)), (1, .int v1)]) dX7_layersAt_26 rfl rfl (Nat.le_of_ble_eq_true rfl) rfl ?_
        refine E_goto (t := 4) dX7_layersAt_29 rfl ?_
        exact E_sub [2, 3, 1, 0] rfl (ih (v2 + 1) (v3 + 1))
def jW_layersAt (h : AH) (w : Nat) (v1 : Int32) : Option (Int32) :=
  (jW_layersAt_4 h w v1 FU 0 0)
set_option maxRecDepth 20000 in
set_option maxHeartbeats 2000000 in
theorem sW_layersAt (G : JG) (h : AH) (w : Nat) (hw : w < nIn 0 13) (v1 : Int32) : Mt G iW_layersAt (rvI h) [.ref (G.ad 13 w), .int v1] h (jW_layersAt h w v1) := by
  refine Mt_of (by decide) (Nat.le_of_ble_eq_true rfl) ?_
  unfold jW_layersAt
  show Sim G iW_layersAt (rvI h) 0 [(0, .ref (G.ad 13 w)), (1, .int v1)] [] h _
  refine E_iconst (v := 0) dX7_layersAt_0 rfl ?_
  refine E_istore_n (ls' := [(2, .int 0), (0, .ref (G.ad 13 w)), (1, .int v1)]) dX7_layersAt_1 rfl (Nat.le_of_ble_eq_true rfl) rfl ?_
  refine E_iconst (v := 0) dX7_layersAt_2 rfl ?_
  refine E_istore_n (ls' := [(3, .int 0), (2, .int 0), (0, .ref (G.ad 13 w)), (1, .int v1)]) dX7_layersAt_3 rfl (Nat.le_of_ble_eq_true rfl) rfl ?_
  exact E_sub [2, 3, 1, 0] rfl (sW_layersAt_4 G h w hw v1 FU 0 0)
def iW_shownCells : MI := (yX7_shownCells, cX7_shownCells, 4, (some .int), { frames := 2, cells := 0, slots := 0, locals := 46 }, 0)
theorem ck_X7_shownCells : CK iW_shownCells 1 := ⟨⟨wd_108, wd_873, by decide +kernel⟩, ⟨wd_871, wd_872⟩⟩
def jW_shownCells_10 (h : AH) (w : Nat) : Nat → Int32 → Int32 → Option (Int32)
  | 0, _, _ => none
  | n + 1, v2, v3 =>
    if v3 < (gI h 13 w 0) then ((jW_cellsOf h w v3).bind fun r1 =>
    (jW_shownCells_10 h w n (v2 &&& (r1 ^^^ (-1))) (v3 + 1)))
    else (some v2)
set_option maxRecDepth 20000 in
set_option maxHeartbeats 2000000 in
theorem sW_shownCells_10 (G : JG) (h : AH) (w : Nat) (hw : w < nIn 0 13)  : ∀ (n : Nat) (v2 : Int32) (v3 : Int32), Sim G iW_shownCells (rvI h) 10 [(0, .ref (G.ad 13 w)), (2, .int v2), (3, .int v3)] [] h (jW_shownCells_10 h w n v2 v3) := by
  intro n
  induction n with
  | zero => intro v2 v3; exact E_none
  | succ n ih =>
    intro v2 v3
    rw [jW_shownCells_10]
    refine E_iload_n dX7_shownCells_10 rfl 2 rfl ?_
    refine E_aload_n dX7_shownCells_11 rfl 0 rfl ?_
    refine E_getI fl_X7_21 dX7_shownCells_12 hw ?_
    refine E_icmp_ge (t := 34) dX7_shownCells_15 rfl ?_ ?_
    · refine E_iload_n dX7_shownCells_34 rfl 1 rfl ?_
      exact E_iret rfl rfl dX7_shownCells_35
    · refine E_iload_n dX7_shownCells_18 rfl 1 rfl ?_
      refine E_aload_n dX7_shownCells_19 rfl 0 rfl ?_
      refine E_iload_n dX7_shownCells_20 rfl 2 rfl ?_
      refine E_cVI (As := [.int v3]) (rest := [.int v2]) (sW_cellsOf G h w hw v3) ck_X7_cellsOf lk_X7_53 rfl rfl kc_13 hw rfl rfl rfl dX7_shownCells_21 (fun r1 _ => ?_)
      refine E_iconst (v := (-1)) dX7_shownCells_24 rfl ?_
      refine E_ixor dX7_shownCells_25 ?_
      refine E_iand dX7_shownCells_26 ?_
      refine E_istore_n (ls' := [(2, .int (v2 &&& (r1 ^^^ (-1)))), (0, .ref (G.ad 13 w)), (3, .int v3)]) dX7_shownCells_27 rfl (Nat.le_of_ble_eq_true rfl) rfl ?_
      refine E_iinc (q := 2) (v := (v3 + 1)) (ls' := [(3, .int (v3 + 1)), (2, .int (v2 &&& (r1 ^^^ (-1)))), (0, .ref (G.ad 13 w))]) dX7_shownCells_28 rfl rfl (Nat.le_of_ble_eq_true rfl) rfl ?_
      refine E_goto (t := 10) dX7_shownCells_31 rfl ?_
      exact E_sub [2, 1, 0] rfl (ih (v2 &&& (r1 ^^^ (-1))) (v3 + 1))
def jW_shownCells (h : AH) (w : Nat) (v1 : Int32) : Option (Int32) :=
  (jW_cellsOf h w v1).bind fun r1 =>
  (jW_shownCells_10 h w FU r1 (v1 + 1))
set_option maxRecDepth 20000 in
set_option maxHeartbeats 2000000 in
theorem sW_shownCells (G : JG) (h : AH) (w : Nat) (hw : w < nIn 0 13) (v1 : Int32) : Mt G iW_shownCells (rvI h) [.ref (G.ad 13 w), .int v1] h (jW_shownCells h w v1) := by
  refine Mt_of (by decide) (Nat.le_of_ble_eq_true rfl) ?_
  unfold jW_shownCells
  show Sim G iW_shownCells (rvI h) 0 [(0, .ref (G.ad 13 w)), (1, .int v1)] [] h _
  refine E_aload_n dX7_shownCells_0 rfl 0 rfl ?_
  refine E_iload_n dX7_shownCells_1 rfl 1 rfl ?_
  refine E_cVI (As := [.int v1]) (rest := []) (sW_cellsOf G h w hw v1) ck_X7_cellsOf lk_X7_53 rfl rfl kc_13 hw rfl rfl rfl dX7_shownCells_2 (fun r1 _ => ?_)
  refine E_istore_n (ls' := [(2, .int r1), (0, .ref (G.ad 13 w)), (1, .int v1)]) dX7_shownCells_5 rfl (Nat.le_of_ble_eq_true rfl) rfl ?_
  refine E_iload_n dX7_shownCells_6 rfl 2 rfl ?_
  refine E_iconst (v := 1) dX7_shownCells_7 rfl ?_
  refine E_iadd dX7_shownCells_8 ?_
  refine E_istore_n (ls' := [(3, .int (v1 + 1)), (2, .int r1), (0, .ref (G.ad 13 w)), (1, .int v1)]) dX7_shownCells_9 rfl (Nat.le_of_ble_eq_true rfl) rfl ?_
  exact E_sub [2, 1, 0] rfl (sW_shownCells_10 G h w hw FU r1 (v1 + 1))
def iW_shownHandAt : MI := (yX7_shownHandAt, cX7_shownHandAt, 2, (some .int), { frames := 2, cells := 0, slots := 0, locals := 47 }, 0)
theorem ck_X7_shownHandAt : CK iW_shownHandAt 1 := ⟨⟨wd_108, wd_690, by decide +kernel⟩, ⟨wd_688, wd_689⟩⟩
def jW_shownHandAt (h : AH) (w : Nat) (v1 : Int32) : Option (Int32) :=
  (jW_below h w v1 0).bind fun r1 =>
  (jW_handOf h w r1).bind fun r2 =>
  some r2
set_option maxRecDepth 20000 in
set_option maxHeartbeats 2000000 in
theorem sW_shownHandAt (G : JG) (h : AH) (w : Nat) (hw : w < nIn 0 13) (v1 : Int32) : Mt G iW_shownHandAt (rvI h) [.ref (G.ad 13 w), .int v1] h (jW_shownHandAt h w v1) := by
  refine Mt_of (by decide) (Nat.le_of_ble_eq_true rfl) ?_
  unfold jW_shownHandAt
  show Sim G iW_shownHandAt (rvI h) 0 [(0, .ref (G.ad 13 w)), (1, .int v1)] [] h _
  refine E_aload_n dX7_shownHandAt_0 rfl 0 rfl ?_
  refine E_aload_n dX7_shownHandAt_1 rfl 0 rfl ?_
  refine E_iload_n dX7_shownHandAt_2 rfl 1 rfl ?_
  refine E_iconst (v := 0) dX7_shownHandAt_3 rfl ?_
  refine E_cVI (As := [.int v1, .int 0]) (rest := [.ref (G.ad 13 w)]) (sW_below G h w hw v1 0) ck_X7_below lk_X7_47 rfl rfl kc_13 hw rfl rfl rfl dX7_shownHandAt_4 (fun r1 _ => ?_)
  refine E_cVI (As := [.int r1]) (rest := []) (sW_handOf G h w hw r1) ck_X7_handOf lk_X7_50 rfl rfl kc_13 hw rfl rfl rfl dX7_shownHandAt_7 (fun r2 _ => ?_)
  exact E_iret rfl rfl dX7_shownHandAt_10
def iW_stripLaterThan : MI := (yX7_stripLaterThan, cX7_stripLaterThan, 3, none, { frames := 2, cells := 0, slots := 0, locals := 46 }, 0)
theorem ck_X7_stripLaterThan : CK iW_stripLaterThan 1 := ⟨⟨wd_108, wd_1117, by decide +kernel⟩, ⟨wd_1115, wd_1116⟩⟩
def jW_stripLaterThan_2 (w : Nat) (v1 : Int32) : Nat → Int32 → AH → Option (AH)
  | 0, _, _ => none
  | n + 1, v2, h =>
    if v2 < (gI h 13 w 0) then ((jW_yearOf h w v2).bind fun r1 =>
    if r1 ≤ v1 then ((jW_stripLaterThan_2 w v1 n (v2 + 1) h))
    else ((jW_cellsOf h w v2).bind fun r2 =>
    (jW_lay h w v2 (-2) r2).bind fun h3 =>
    (jW_stripLaterThan_2 w v1 n (v2 + 1) h3)))
    else (some h)
set_option maxRecDepth 20000 in
set_option maxHeartbeats 2000000 in
theorem sW_stripLaterThan_2 (G : JG) (w : Nat) (hw : w < nIn 0 13) (v1 : Int32)  : ∀ (n : Nat) (v2 : Int32) (h : AH), Sim G iW_stripLaterThan rvV 2 [(0, .ref (G.ad 13 w)), (1, .int v1), (2, .int v2)] [] h (jW_stripLaterThan_2 w v1 n v2 h) := by
  intro n
  induction n with
  | zero => intro v2 h; exact E_none
  | succ n ih =>
    intro v2 h
    rw [jW_stripLaterThan_2]
    refine E_iload_n dX7_stripLaterThan_2 rfl 2 rfl ?_
    refine E_aload_n dX7_stripLaterThan_3 rfl 0 rfl ?_
    refine E_getI fl_X7_21 dX7_stripLaterThan_4 hw ?_
    refine E_icmp_ge (t := 37) dX7_stripLaterThan_7 rfl ?_ ?_
    · exact E_vret rfl rfl dX7_stripLaterThan_37
    · refine E_aload_n dX7_stripLaterThan_10 rfl 0 rfl ?_
      refine E_iload_n dX7_stripLaterThan_11 rfl 2 rfl ?_
      refine E_cVI (As := [.int v2]) (rest := []) (sW_yearOf G h w hw v2) ck_X7_yearOf lk_X7_39 rfl rfl kc_13 hw rfl rfl rfl dX7_stripLaterThan_12 (fun r1 _ => ?_)
      refine E_iload_n dX7_stripLaterThan_15 rfl 1 rfl ?_
      refine E_icmp_le (t := 31) dX7_stripLaterThan_16 rfl ?_ ?_
      · refine E_iinc (q := 2) (v := (v2 + 1)) (ls' := [(2, .int (v2 + 1)), (0, .ref (G.ad 13 w)), (1, .int v1)]) dX7_stripLaterThan_31 rfl rfl (Nat.le_of_ble_eq_true rfl) rfl ?_
        refine E_goto (t := 2) dX7_stripLaterThan_34 rfl ?_
        exact E_sub [1, 2, 0] rfl (ih (v2 + 1) h)
      · refine E_aload_n dX7_stripLaterThan_19 rfl 0 rfl ?_
        refine E_iload_n dX7_stripLaterThan_20 rfl 2 rfl ?_
        refine E_bipush (v := (-2)) dX7_stripLaterThan_21 rfl ?_
        refine E_aload_n dX7_stripLaterThan_23 rfl 0 rfl ?_
        refine E_iload_n dX7_stripLaterThan_24 rfl 2 rfl ?_
        refine E_cVI (As := [.int v2]) (rest := [.int (-2), .int v2, .ref (G.ad 13 w)]) (sW_cellsOf G h w hw v2) ck_X7_cellsOf lk_X7_53 rfl rfl kc_13 hw rfl rfl rfl dX7_stripLaterThan_25 (fun r2 _ => ?_)
        refine E_cVV (As := [.int v2, .int (-2), .int r2]) (rest := []) (sW_lay G h w hw v2 (-2) r2) ck_X7_lay lk_X7_56 rfl rfl kc_13 hw rfl rfl rfl dX7_stripLaterThan_28 (fun h3 _ => ?_)
        refine E_iinc (q := 2) (v := (v2 + 1)) (ls' := [(2, .int (v2 + 1)), (0, .ref (G.ad 13 w)), (1, .int v1)]) dX7_stripLaterThan_31 rfl rfl (Nat.le_of_ble_eq_true rfl) rfl ?_
        refine E_goto (t := 2) dX7_stripLaterThan_34 rfl ?_
        exact E_sub [1, 2, 0] rfl (ih (v2 + 1) h3)
def jW_stripLaterThan (h : AH) (w : Nat) (v1 : Int32) : Option (AH) :=
  (jW_stripLaterThan_2 w v1 FU 0 h)
set_option maxRecDepth 20000 in
set_option maxHeartbeats 2000000 in
theorem sW_stripLaterThan (G : JG) (h : AH) (w : Nat) (hw : w < nIn 0 13) (v1 : Int32) : Mt G iW_stripLaterThan rvV [.ref (G.ad 13 w), .int v1] h (jW_stripLaterThan h w v1) := by
  refine Mt_of (by decide) (Nat.le_of_ble_eq_true rfl) ?_
  unfold jW_stripLaterThan
  show Sim G iW_stripLaterThan rvV 0 [(0, .ref (G.ad 13 w)), (1, .int v1)] [] h _
  refine E_iconst (v := 0) dX7_stripLaterThan_0 rfl ?_
  refine E_istore_n (ls' := [(2, .int 0), (0, .ref (G.ad 13 w)), (1, .int v1)]) dX7_stripLaterThan_1 rfl (Nat.le_of_ble_eq_true rfl) rfl ?_
  exact E_sub [1, 2, 0] rfl (sW_stripLaterThan_2 G w hw v1 FU 0 h)
def iX_accept : MI := (yX8_accept, cX8_accept, 2, (some .int), { frames := 0, cells := 0, slots := 0, locals := 0 }, 0)
theorem ck_X8_accept : CK iX_accept 1 := ⟨⟨wd_105, wd_653, by decide +kernel⟩, ⟨wd_652, wd_20⟩⟩
def jX_accept (h : AH) (v1 : Int32) : Option (Int32 × AH) :=
  jb (uI h 0 0 10 0) fun h1 =>
  some (v1, h1)
set_option maxRecDepth 20000 in
set_option maxHeartbeats 2000000 in
theorem sX_accept (G : JG) (h : AH) (v1 : Int32) : Mt G iX_accept rvIM [.ref (G.ad 0 0), .int v1] h (jX_accept h v1) := by
  refine Mt_of (by decide) (Nat.le_of_ble_eq_true rfl) ?_
  unfold jX_accept
  show Sim G iX_accept rvIM 0 [(0, .ref (G.ad 0 0)), (1, .int v1)] [] h _
  refine E_aload_n dX8_accept_0 rfl 0 rfl ?_
  refine E_iconst (v := 0) dX8_accept_1 rfl ?_
  refine E_putI fs_X8_87 dX8_accept_2 z0 ?_
  refine E_hgen (fun h1 => ?_)
  refine E_iload_n dX8_accept_5 rfl 1 rfl ?_
  exact E_iret rfl rfl dX8_accept_6
def iX_areUnlike : MI := (yX8_areUnlike, cX8_areUnlike, 3, (some .boolean), { frames := 1, cells := 0, slots := 0, locals := 21 }, 0)
theorem ck_X8_areUnlike : CK iX_areUnlike 2 := ⟨⟨wd_105, wd_882, by decide +kernel⟩, ⟨wd_881, wd_27⟩⟩
def jX_areUnlike (h : AH) (v1 : Int32) (v2 : Int32) : Option (Int32) :=
  (jW_has h ((gB h 1).toNat) v1).bind fun r1 =>
  if r1 = 0 then (some 0)
  else ((jW_has h ((gB h 1).toNat) v2).bind fun r2 =>
  if r2 = 0 then (some 0)
  else (if v1 = v2 then (some 0)
  else (some 1)))
set_option maxRecDepth 20000 in
set_option maxHeartbeats 2000000 in
theorem sX_areUnlike (G : JG) (h : AH) (v1 : Int32) (v2 : Int32) : Mt G iX_areUnlike (rvI h) [.ref (G.ad 0 0), .int v1, .int v2] h (jX_areUnlike h v1 v2) := by
  refine Mt_of (by decide) (Nat.le_of_ble_eq_true rfl) ?_
  unfold jX_areUnlike
  show Sim G iX_areUnlike (rvI h) 0 [(0, .ref (G.ad 0 0)), (1, .int v1), (2, .int v2)] [] h _
  refine E_aload_n dX8_areUnlike_0 rfl 0 rfl ?_
  refine E_getD fl_X8_30 dX8_areUnlike_1 z0 ?_
  refine E_iload_n dX8_areUnlike_4 rfl 1 rfl ?_
  refine E_cVI (As := [.int v1]) (rest := []) (sW_has G h ((gB h 1).toNat) (tB13 _) v1) ck_X7_has lk_X8_143 rfl rfl kc_13 (tB13 _) rfl rfl rfl dX8_areUnlike_5 (fun r1 _ => ?_)
  refine E_if_eq (t := 31) dX8_areUnlike_8 rfl ?_ ?_
  · refine E_iconst (v := 0) dX8_areUnlike_31 rfl ?_
    exact E_zret rfl rfl rfl dX8_areUnlike_32
  · refine E_aload_n dX8_areUnlike_11 rfl 0 rfl ?_
    refine E_getD fl_X8_30 dX8_areUnlike_12 z0 ?_
    refine E_iload_n dX8_areUnlike_15 rfl 2 rfl ?_
    refine E_cVI (As := [.int v2]) (rest := []) (sW_has G h ((gB h 1).toNat) (tB13 _) v2) ck_X7_has lk_X8_143 rfl rfl kc_13 (tB13 _) rfl rfl rfl dX8_areUnlike_16 (fun r2 _ => ?_)
    refine E_if_eq (t := 31) dX8_areUnlike_19 rfl ?_ ?_
    · refine E_iconst (v := 0) dX8_areUnlike_31 rfl ?_
      exact E_zret rfl rfl rfl dX8_areUnlike_32
    · refine E_iload_n dX8_areUnlike_22 rfl 1 rfl ?_
      refine E_iload_n dX8_areUnlike_23 rfl 2 rfl ?_
      refine E_icmp_eq (t := 31) dX8_areUnlike_24 rfl ?_ ?_
      · refine E_iconst (v := 0) dX8_areUnlike_31 rfl ?_
        exact E_zret rfl rfl rfl dX8_areUnlike_32
      · refine E_iconst (v := 1) dX8_areUnlike_27 rfl ?_
        refine E_goto (t := 32) dX8_areUnlike_28 rfl ?_
        exact E_zret rfl rfl rfl dX8_areUnlike_32
def iX_refuse : MI := (yX8_refuse, cX8_refuse, 2, (some .int), { frames := 0, cells := 0, slots := 0, locals := 0 }, 0)
theorem ck_X8_refuse : CK iX_refuse 1 := ⟨⟨wd_105, wd_424, by decide +kernel⟩, ⟨wd_423, wd_1⟩⟩
def jX_refuse (h : AH) (v1 : Int32) : Option (Int32 × AH) :=
  jb (uI h 0 0 10 v1) fun h1 =>
  some ((-1), h1)
set_option maxRecDepth 20000 in
set_option maxHeartbeats 2000000 in
theorem sX_refuse (G : JG) (h : AH) (v1 : Int32) : Mt G iX_refuse rvIM [.ref (G.ad 0 0), .int v1] h (jX_refuse h v1) := by
  refine Mt_of (by decide) (Nat.le_of_ble_eq_true rfl) ?_
  unfold jX_refuse
  show Sim G iX_refuse rvIM 0 [(0, .ref (G.ad 0 0)), (1, .int v1)] [] h _
  refine E_aload_n dX8_refuse_0 rfl 0 rfl ?_
  refine E_iload_n dX8_refuse_1 rfl 1 rfl ?_
  refine E_putI fs_X8_87 dX8_refuse_2 z0 ?_
  refine E_hgen (fun h1 => ?_)
  refine E_iconst (v := (-1)) dX8_refuse_5 rfl ?_
  exact E_iret rfl rfl dX8_refuse_6
def iX_ahead : MI := (yX8_ahead, cX8_ahead, 3, (some .long), { frames := 3, cells := 0, slots := 0, locals := 69 }, 0)
theorem ck_X8_ahead : CK iX_ahead 2 := ⟨⟨wd_105, wd_926, by decide +kernel⟩, ⟨wd_924, wd_925⟩⟩
def jX_ahead (h : AH) (v1 : Int32) (v2 : Int32) : Option (Int64 × AH) :=
  (jX_areUnlike h v1 v2).bind fun r1 =>
  if r1 = 0 then ((jX_refuse h 1).bind fun q5 =>
  some (q5.1.toInt64, q5.2))
  else ((jO_learn h ((gB h 1).toNat)).bind fun h2 =>
  jb (uI h2 0 0 10 0) fun h3 =>
  (jO_countAll h3 v1 v2).bind fun q4 =>
  some (q4.1, q4.2))
set_option maxRecDepth 20000 in
set_option maxHeartbeats 2000000 in
theorem sX_ahead (G : JG) (h : AH) (v1 : Int32) (v2 : Int32) : Mt G iX_ahead rvLM [.ref (G.ad 0 0), .int v1, .int v2] h (jX_ahead h v1 v2) := by
  refine Mt_of (by decide) (Nat.le_of_ble_eq_true rfl) ?_
  unfold jX_ahead
  show Sim G iX_ahead rvLM 0 [(0, .ref (G.ad 0 0)), (1, .int v1), (2, .int v2)] [] h _
  refine E_aload_n dX8_ahead_0 rfl 0 rfl ?_
  refine E_iload_n dX8_ahead_1 rfl 1 rfl ?_
  refine E_iload_n dX8_ahead_2 rfl 2 rfl ?_
  refine E_cVI (As := [.int v1, .int v2]) (rest := []) (sX_areUnlike G h v1 v2) ck_X8_areUnlike lk_X8_172 rfl rfl kc_0 z0 rfl rfl rfl dX8_ahead_3 (fun r1 _ => ?_)
  refine E_if_ne (t := 16) dX8_ahead_6 rfl ?_ ?_
  · refine E_aload_n dX8_ahead_16 rfl 0 rfl ?_
    refine E_getF fl_X8_48 dX8_ahead_17 z0 ?_
    refine E_aload_n dX8_ahead_20 rfl 0 rfl ?_
    refine E_getD fl_X8_30 dX8_ahead_21 z0 ?_
    refine E_cVV (As := [.ref (G.ad 13 ((gB h 1).toNat))]) (rest := []) (sO_learn G h ((gB h 1).toNat) (tB13 _)) ck_X2_learn lk_X8_175 rfl rfl kc_24 z24 rfl rfl rfl dX8_ahead_24 (fun h2 _ => ?_)
    refine E_aload_n dX8_ahead_27 rfl 0 rfl ?_
    refine E_iconst (v := 0) dX8_ahead_28 rfl ?_
    refine E_putI fs_X8_87 dX8_ahead_29 z0 ?_
    refine E_hgen (fun h3 => ?_)
    refine E_aload_n dX8_ahead_32 rfl 0 rfl ?_
    refine E_getF fl_X8_48 dX8_ahead_33 z0 ?_
    refine E_iload_n dX8_ahead_36 rfl 1 rfl ?_
    refine E_iload_n dX8_ahead_37 rfl 2 rfl ?_
    refine E_cVLM (As := [.int v1, .int v2]) (rest := []) (sO_countAll G h3 v1 v2) ck_X2_countAll lk_X8_185 rfl rfl kc_24 z24 rfl rfl rfl dX8_ahead_38 (fun q4 _ => ?_)
    exact E_lret rfl rfl dX8_ahead_41
  · refine E_aload_n dX8_ahead_9 rfl 0 rfl ?_
    refine E_iconst (v := 1) dX8_ahead_10 rfl ?_
    refine E_cVIM (As := [.int 1]) (rest := []) (sX_refuse G h 1) ck_X8_refuse lk_X8_67 rfl rfl kc_0 z0 rfl rfl rfl dX8_ahead_11 (fun q5 _ => ?_)
    refine E_i2l dX8_ahead_14 ?_
    exact E_lret rfl rfl dX8_ahead_15
def iX_alike : MI := (yX8_alike, cX8_alike, 1, (some .int), { frames := 4, cells := 0, slots := 0, locals := 92 }, 0)
theorem ck_X8_alike : CK iX_alike 0 := ⟨⟨wd_105, wd_938, by decide +kernel⟩, ⟨wd_936, wd_937⟩⟩
def jX_alike (h : AH)  : Option (Int32 × AH) :=
  (jB_isTold h ((gB h 0).toNat)).bind fun r1 =>
  if r1 = 0 then ((jX_refuse h 1).bind fun q5 =>
  some (q5.1, q5.2))
  else ((jQ_alikeCells h ((gB h 0).toNat) ((gB h 1).toNat)).bind fun r2 =>
  (jJ_bitCount r2).bind fun r3 =>
  (jX_accept h r3).bind fun q4 =>
  some (q4.1, q4.2))
set_option maxRecDepth 20000 in
set_option maxHeartbeats 2000000 in
theorem sX_alike (G : JG) (h : AH)  : Mt G iX_alike rvIM [.ref (G.ad 0 0)] h (jX_alike h) := by
  refine Mt_of (by decide) (Nat.le_of_ble_eq_true rfl) ?_
  unfold jX_alike
  show Sim G iX_alike rvIM 0 [(0, .ref (G.ad 0 0))] [] h _
  refine E_aload_n dX8_alike_0 rfl 0 rfl ?_
  refine E_getD fl_X8_23 dX8_alike_1 z0 ?_
  refine E_cVI (As := []) (rest := []) (sB_isTold G h ((gB h 0).toNat) (tB3 _)) ck_X0_isTold lk_X8_133 rfl rfl kc_3 (tB3 _) rfl rfl rfl dX8_alike_4 (fun r1 _ => ?_)
  refine E_if_ne (t := 16) dX8_alike_7 rfl ?_ ?_
  · refine E_aload_n dX8_alike_16 rfl 0 rfl ?_
    refine E_aload_n dX8_alike_17 rfl 0 rfl ?_
    refine E_getD fl_X8_23 dX8_alike_18 z0 ?_
    refine E_aload_n dX8_alike_21 rfl 0 rfl ?_
    refine E_getD fl_X8_30 dX8_alike_22 z0 ?_
    refine E_cSI (As := [.ref (G.ad 3 ((gB h 0).toNat)), .ref (G.ad 13 ((gB h 1).toNat))]) (rest := [.ref (G.ad 0 0)]) (sQ_alikeCells G h ((gB h 0).toNat) (tB3 _) ((gB h 1).toNat) (tB13 _)) ck_X4_alikeCells lk_X8_198 rfl rfl rfl rfl rfl dX8_alike_25 (fun r2 _ => ?_)
    refine E_cSI (As := [.int r2]) (rest := [.ref (G.ad 0 0)]) (sJ_bitCount G h r2) ck_J6_bitCount_0f7a4 lk_X8_167 rfl rfl rfl rfl rfl dX8_alike_28 (fun r3 _ => ?_)
    refine E_cVIM (As := [.int r3]) (rest := []) (sX_accept G h r3) ck_X8_accept lk_X8_84 rfl rfl kc_0 z0 rfl rfl rfl dX8_alike_31 (fun q4 _ => ?_)
    exact E_iret rfl rfl dX8_alike_34
  · refine E_aload_n dX8_alike_10 rfl 0 rfl ?_
    refine E_iconst (v := 1) dX8_alike_11 rfl ?_
    refine E_cVIM (As := [.int 1]) (rest := []) (sX_refuse G h 1) ck_X8_refuse lk_X8_67 rfl rfl kc_0 z0 rfl rfl rfl dX8_alike_12 (fun q5 _ => ?_)
    exact E_iret rfl rfl dX8_alike_15
def iX_area : MI := (yX8_area, cX8_area, 4, (some .int), { frames := 3, cells := 0, slots := 0, locals := 68 }, 0)
theorem ck_X8_area : CK iX_area 1 := ⟨⟨wd_105, wd_748, by decide +kernel⟩, ⟨wd_746, wd_747⟩⟩
def jX_area_21 (v1 : Int32) : Nat → Int32 → Int32 → AH → Option (Int32 × AH)
  | 0, _, _, _ => none
  | n + 1, v2, v3, h =>
    (jB_cells h ((gB h 0).toNat)).bind fun r1 =>
    if v3 < r1 then ((jW_shownAt h ((gB h 1).toNat) v3).bind fun r3 =>
    if r3 = v1 then ((jX_area_21 v1 n (v2 + 1) (v3 + 1) h))
    else ((jX_area_21 v1 n v2 (v3 + 1) h)))
    else ((jX_accept h v2).bind fun q2 =>
    some (q2.1, q2.2))
set_option maxRecDepth 20000 in
set_option maxHeartbeats 2000000 in
theorem sX_area_21 (G : JG) (v1 : Int32)  : ∀ (n : Nat) (v2 : Int32) (v3 : Int32) (h : AH), Sim G iX_area rvIM 21 [(0, .ref (G.ad 0 0)), (1, .int v1), (2, .int v2), (3, .int v3)] [] h (jX_area_21 v1 n v2 v3 h) := by
  intro n
  induction n with
  | zero => intro v2 v3 h; exact E_none
  | succ n ih =>
    intro v2 v3 h
    rw [jX_area_21]
    refine E_iload_n dX8_area_21 rfl 3 rfl ?_
    refine E_aload_n dX8_area_22 rfl 0 rfl ?_
    refine E_getD fl_X8_23 dX8_area_23 z0 ?_
    refine E_cVI (As := []) (rest := [.int v3]) (sB_cells G h ((gB h 0).toNat) (tB3 _)) ck_X0_cells lk_X8_126 rfl rfl kc_3 (tB3 _) rfl rfl rfl dX8_area_26 (fun r1 _ => ?_)
    refine E_icmp_ge (t := 53) dX8_area_29 rfl ?_ ?_
    · refine E_aload_n dX8_area_53 rfl 0 rfl ?_
      refine E_iload_n dX8_area_54 rfl 2 rfl ?_
      refine E_cVIM (As := [.int v2]) (rest := []) (sX_accept G h v2) ck_X8_accept lk_X8_84 rfl rfl kc_0 z0 rfl rfl rfl dX8_area_55 (fun q2 _ => ?_)
      exact E_iret rfl rfl dX8_area_58
    · refine E_aload_n dX8_area_32 rfl 0 rfl ?_
      refine E_getD fl_X8_30 dX8_area_33 z0 ?_
      refine E_iload_n dX8_area_36 rfl 3 rfl ?_
      refine E_cVI (As := [.int v3]) (rest := []) (sW_shownAt G h ((gB h 1).toNat) (tB13 _) v3) ck_X7_shownAt lk_X8_101 rfl rfl kc_13 (tB13 _) rfl rfl rfl dX8_area_37 (fun r3 _ => ?_)
      refine E_iload_n dX8_area_40 rfl 1 rfl ?_
      refine E_icmp_ne (t := 47) dX8_area_41 rfl ?_ ?_
      · refine E_iinc (q := 3) (v := (v3 + 1)) (ls' := [(3, .int (v3 + 1)), (0, .ref (G.ad 0 0)), (1, .int v1), (2, .int v2)]) dX8_area_47 rfl rfl (Nat.le_of_ble_eq_true rfl) rfl ?_
        refine E_goto (t := 21) dX8_area_50 rfl ?_
        exact E_sub [1, 2, 3, 0] rfl (ih v2 (v3 + 1) h)
      · refine E_iinc (q := 2) (v := (v2 + 1)) (ls' := [(2, .int (v2 + 1)), (0, .ref (G.ad 0 0)), (1, .int v1), (3, .int v3)]) dX8_area_44 rfl rfl (Nat.le_of_ble_eq_true rfl) rfl ?_
        refine E_iinc (q := 3) (v := (v3 + 1)) (ls' := [(3, .int (v3 + 1)), (2, .int (v2 + 1)), (0, .ref (G.ad 0 0)), (1, .int v1)]) dX8_area_47 rfl rfl (Nat.le_of_ble_eq_true rfl) rfl ?_
        refine E_goto (t := 21) dX8_area_50 rfl ?_
        exact E_sub [2, 3, 1, 0] rfl (ih (v2 + 1) (v3 + 1) h)
def jX_area (h : AH) (v1 : Int32) : Option (Int32 × AH) :=
  (jB_hasColour h ((gB h 0).toNat) v1).bind fun r1 =>
  if r1 = 0 then ((jX_refuse h 1).bind fun q2 =>
  some (q2.1, q2.2))
  else ((jX_area_21 v1 FU 0 0 h))
set_option maxRecDepth 20000 in
set_option maxHeartbeats 2000000 in
theorem sX_area (G : JG) (h : AH) (v1 : Int32) : Mt G iX_area rvIM [.ref (G.ad 0 0), .int v1] h (jX_area h v1) := by
  refine Mt_of (by decide) (Nat.le_of_ble_eq_true rfl) ?_
  unfold jX_area
  show Sim G iX_area rvIM 0 [(0, .ref (G.ad 0 0)), (1, .int v1)] [] h _
  refine E_aload_n dX8_area_0 rfl 0 rfl ?_
  refine E_getD fl_X8_23 dX8_area_1 z0 ?_
  refine E_iload_n dX8_area_4 rfl 1 rfl ?_
  refine E_cVI (As := [.int v1]) (rest := []) (sB_hasColour G h ((gB h 0).toNat) (tB3 _) v1) ck_X0_hasColour lk_X8_123 rfl rfl kc_3 (tB3 _) rfl rfl rfl dX8_area_5 (fun r1 _ => ?_)
  refine E_if_ne (t := 17) dX8_area_8 rfl ?_ ?_
  · refine E_iconst (v := 0) dX8_area_17 rfl ?_
    refine E_istore_n (ls' := [(2, .int 0), (0, .ref (G.ad 0 0)), (1, .int v1)]) dX8_area_18 rfl (Nat.le_of_ble_eq_true rfl) rfl ?_
    refine E_iconst (v := 0) dX8_area_19 rfl ?_
    refine E_istore_n (ls' := [(3, .int 0), (2, .int 0), (0, .ref (G.ad 0 0)), (1, .int v1)]) dX8_area_20 rfl (Nat.le_of_ble_eq_true rfl) rfl ?_
    exact E_sub [2, 3, 1, 0] rfl (sX_area_21 G v1 FU 0 0 h)
  · refine E_aload_n dX8_area_11 rfl 0 rfl ?_
    refine E_iconst (v := 1) dX8_area_12 rfl ?_
    refine E_cVIM (As := [.int 1]) (rest := []) (sX_refuse G h 1) ck_X8_refuse lk_X8_67 rfl rfl kc_0 z0 rfl rfl rfl dX8_area_13 (fun q2 _ => ?_)
    exact E_iret rfl rfl dX8_area_16
def iX_deny : MI := (yX8_deny, cX8_deny, 2, (some .boolean), { frames := 0, cells := 0, slots := 0, locals := 0 }, 0)
theorem ck_X8_deny : CK iX_deny 1 := ⟨⟨wd_105, wd_956, by decide +kernel⟩, ⟨wd_955, wd_29⟩⟩
def jX_deny (h : AH) (v1 : Int32) : Option (Int32 × AH) :=
  jb (uI h 0 0 10 v1) fun h1 =>
  some (0, h1)
set_option maxRecDepth 20000 in
set_option maxHeartbeats 2000000 in
theorem sX_deny (G : JG) (h : AH) (v1 : Int32) : Mt G iX_deny rvIM [.ref (G.ad 0 0), .int v1] h (jX_deny h v1) := by
  refine Mt_of (by decide) (Nat.le_of_ble_eq_true rfl) ?_
  unfold jX_deny
  show Sim G iX_deny rvIM 0 [(0, .ref (G.ad 0 0)), (1, .int v1)] [] h _
  refine E_aload_n dX8_deny_0 rfl 0 rfl ?_
  refine E_iload_n dX8_deny_1 rfl 1 rfl ?_
  refine E_putI fs_X8_87 dX8_deny_2 z0 ?_
  refine E_hgen (fun h1 => ?_)
  refine E_iconst (v := 0) dX8_deny_5 rfl ?_
  exact E_zret rfl rfl rfl dX8_deny_6
def iX_grant : MI := (yX8_grant, cX8_grant, 1, (some .boolean), { frames := 0, cells := 0, slots := 0, locals := 0 }, 0)
theorem ck_X8_grant : CK iX_grant 0 := ⟨⟨wd_105, wd_985, by decide +kernel⟩, ⟨wd_984, wd_31⟩⟩
def jX_grant (h : AH)  : Option (Int32 × AH) :=
  jb (uI h 0 0 10 0) fun h1 =>
  some (1, h1)
set_option maxRecDepth 20000 in
set_option maxHeartbeats 2000000 in
theorem sX_grant (G : JG) (h : AH)  : Mt G iX_grant rvIM [.ref (G.ad 0 0)] h (jX_grant h) := by
  refine Mt_of (by decide) (Nat.le_of_ble_eq_true rfl) ?_
  unfold jX_grant
  show Sim G iX_grant rvIM 0 [(0, .ref (G.ad 0 0))] [] h _
  refine E_aload_n dX8_grant_0 rfl 0 rfl ?_
  refine E_iconst (v := 0) dX8_grant_1 rfl ?_
  refine E_putI fs_X8_87 dX8_grant_2 z0 ?_
  refine E_hgen (fun h1 => ?_)
  refine E_iconst (v := 1) dX8_grant_5 rfl ?_
  exact E_zret rfl rfl rfl dX8_grant_6
def iX_back : MI := (yX8_back, cX8_back, 2, (some .boolean), { frames := 2, cells := 0, slots := 0, locals := 61 }, 0)
theorem ck_X8_back : CK iX_back 1 := ⟨⟨wd_105, wd_1135, by decide +kernel⟩, ⟨wd_1133, wd_1134⟩⟩
def jX_back (h : AH) (v1 : Int32) : Option (Int32 × AH) :=
  if v1 < 0 then ((jX_deny h 1).bind fun q1 =>
  if isZ q1.1 = true then some (q1.1, q1.2) else none)
  else (if v1 < (gI h 0 0 7) then (if inb v1 3 = true then (
  (jW_become h ((gB h 1).toNat) (10 + v1.toNatClampNeg)).bind fun h3 =>
  (jP_forget h3).bind fun h4 =>
  (jX_grant h4).bind fun q5 =>
  if isZ q5.1 = true then some (q5.1, q5.2) else none) else none)
  else ((jX_deny h 1).bind fun q6 =>
  if isZ q6.1 = true then some (q6.1, q6.2) else none))
set_option maxRecDepth 20000 in
set_option maxHeartbeats 2000000 in
theorem sX_back (G : JG) (h : AH) (v1 : Int32) : Mt G iX_back rvIM [.ref (G.ad 0 0), .int v1] h (jX_back h v1) := by
  refine Mt_of (by decide) (Nat.le_of_ble_eq_true rfl) ?_
  unfold jX_back
  show Sim G iX_back rvIM 0 [(0, .ref (G.ad 0 0)), (1, .int v1)] [] h _
  refine E_iload_n dX8_back_0 rfl 1 rfl ?_
  refine E_if_lt (t := 12) dX8_back_1 rfl ?_ ?_
  · refine E_aload_n dX8_back_12 rfl 0 rfl ?_
    refine E_iconst (v := 1) dX8_back_13 rfl ?_
    refine E_cVIM (As := [.int 1]) (rest := []) (sX_deny G h 1) ck_X8_deny lk_X8_230 rfl rfl kc_0 z0 rfl rfl rfl dX8_back_14 (fun q1 _ => ?_)
    exact E_zretg rfl rfl dX8_back_17
  · refine E_iload_n dX8_back_4 rfl 1 rfl ?_
    refine E_aload_n dX8_back_5 rfl 0 rfl ?_
    refine E_getI fl_X8_272 dX8_back_6 z0 ?_
    refine E_icmp_lt (t := 18) dX8_back_9 rfl ?_ ?_
    · refine E_aload_n dX8_back_18 rfl 0 rfl ?_
      refine E_getD fl_X8_30 dX8_back_19 z0 ?_
      refine E_aload_n dX8_back_22 rfl 0 rfl ?_
      refine E_getF fl_X8_41 dX8_back_23 z0 ?_
      refine E_iload_n dX8_back_26 rfl 1 rfl ?_
      refine E_aald (n := 3) (b := 10) rfl dX8_back_27 z23 (fun hz2 => ?_)
      refine E_cVV (As := [.ref (G.ad 13 (10 + v1.toNatClampNeg))]) (rest := []) (sW_become G h ((gB h 1).toNat) (tB13 _) (10 + v1.toNatClampNeg) (inb_lt hz2 (by decide))) ck_X7_become lk_X8_275 rfl rfl kc_13 (tB13 _) rfl rfl rfl dX8_back_28 (fun h3 _ => ?_)
      refine E_aload_n dX8_back_31 rfl 0 rfl ?_
      refine E_getF fl_X8_37 dX8_back_32 z0 ?_
      refine E_cVV (As := []) (rest := []) (sP_forget G h3) ck_X3_forget lk_X8_278 rfl rfl kc_21 z21 rfl rfl rfl dX8_back_35 (fun h4 _ => ?_)
      refine E_aload_n dX8_back_38 rfl 0 rfl ?_
      refine E_cVIM (As := []) (rest := []) (sX_grant G h4) ck_X8_grant lk_X8_247 rfl rfl kc_0 z0 rfl rfl rfl dX8_back_39 (fun q5 _ => ?_)
      exact E_zretg rfl rfl dX8_back_42
    · refine E_aload_n dX8_back_12 rfl 0 rfl ?_
      refine E_iconst (v := 1) dX8_back_13 rfl ?_
      refine E_cVIM (As := [.int 1]) (rest := []) (sX_deny G h 1) ck_X8_deny lk_X8_230 rfl rfl kc_0 z0 rfl rfl rfl dX8_back_14 (fun q6 _ => ?_)
      exact E_zretg rfl rfl dX8_back_17
def iX_bareCell : MI := (yX8_bareCell, cX8_bareCell, 4, (some .int), { frames := 2, cells := 0, slots := 0, locals := 47 }, 0)
theorem ck_X8_bareCell : CK iX_bareCell 1 := ⟨⟨wd_105, wd_1156, by decide +kernel⟩, ⟨wd_1155, wd_38⟩⟩
def jX_bareCell_4 (h : AH) (v1 : Int32) : Nat → Int32 → Int32 → Option (Int32)
  | 0, _, _ => none
  | n + 1, v2, v3 =>
    (jB_cells h ((gB h 0).toNat)).bind fun r1 =>
    if v3 < r1 then ((jW_below h ((gB h 1).toNat) v3 0).bind fun r2 =>
    if r2 = (-2) then (if v2 = v1 then (some v3)
    else ((jX_bareCell_4 h v1 n (v2 + 1) (v3 + 1))))
    else ((jX_bareCell_4 h v1 n v2 (v3 + 1))))
    else (some (-1))
set_option maxRecDepth 20000 in
set_option maxHeartbeats 2000000 in
theorem sX_bareCell_4 (G : JG) (h : AH) (v1 : Int32)  : ∀ (n : Nat) (v2 : Int32) (v3 : Int32), Sim G iX_bareCell (rvI h) 4 [(0, .ref (G.ad 0 0)), (1, .int v1), (2, .int v2), (3, .int v3)] [] h (jX_bareCell_4 h v1 n v2 v3) := by
  intro n
  induction n with
  | zero => intro v2 v3; exact E_none
  | succ n ih =>
    intro v2 v3
    rw [jX_bareCell_4]
    refine E_iload_n dX8_bareCell_4 rfl 3 rfl ?_
    refine E_aload_n dX8_bareCell_5 rfl 0 rfl ?_
    refine E_getD fl_X8_23 dX8_bareCell_6 z0 ?_
    refine E_cVI (As := []) (rest := [.int v3]) (sB_cells G h ((gB h 0).toNat) (tB3 _)) ck_X0_cells lk_X8_126 rfl rfl kc_3 (tB3 _) rfl rfl rfl dX8_bareCell_9 (fun r1 _ => ?_)
    refine E_icmp_ge (t := 45) dX8_bareCell_12 rfl ?_ ?_
    · refine E_iconst (v := (-1)) dX8_bareCell_45 rfl ?_
      exact E_iret rfl rfl dX8_bareCell_46
    · refine E_aload_n dX8_bareCell_15 rfl 0 rfl ?_
      refine E_getD fl_X8_30 dX8_bareCell_16 z0 ?_
      refine E_iload_n dX8_bareCell_19 rfl 3 rfl ?_
      refine E_iconst (v := 0) dX8_bareCell_20 rfl ?_
      refine E_cVI (As := [.int v3, .int 0]) (rest := []) (sW_below G h ((gB h 1).toNat) (tB13 _) v3 0) ck_X7_below lk_X8_114 rfl rfl kc_13 (tB13 _) rfl rfl rfl dX8_bareCell_21 (fun r2 _ => ?_)
      refine E_bipush (v := (-2)) dX8_bareCell_24 rfl ?_
      refine E_icmp_ne (t := 39) dX8_bareCell_26 rfl ?_ ?_
      · refine E_iinc (q := 3) (v := (v3 + 1)) (ls' := [(3, .int (v3 + 1)), (0, .ref (G.ad 0 0)), (1, .int v1), (2, .int v2)]) dX8_bareCell_39 rfl rfl (Nat.le_of_ble_eq_true rfl) rfl ?_
        refine E_goto (t := 4) dX8_bareCell_42 rfl ?_
        exact E_sub [1, 2, 3, 0] rfl (ih v2 (v3 + 1))
      · refine E_iload_n dX8_bareCell_29 rfl 2 rfl ?_
        refine E_iload_n dX8_bareCell_30 rfl 1 rfl ?_
        refine E_icmp_ne (t := 36) dX8_bareCell_31 rfl ?_ ?_
        · refine E_iinc (q := 2) (v := (v2 + 1)) (ls' := [(2, .int (v2 + 1)), (0, .ref (G.ad 0 0)), (1, .int v1), (3, .int v3)]) dX8_bareCell_36 rfl rfl (Nat.le_of_ble_eq_true rfl) rfl ?_
          refine E_iinc (q := 3) (v := (v3 + 1)) (ls' := [(3, .int (v3 + 1)), (2, .int (v2 + 1)), (0, .ref (G.ad 0 0)), (1, .int v1)]) dX8_bareCell_39 rfl rfl (Nat.le_of_ble_eq_true rfl) rfl ?_
          refine E_goto (t := 4) dX8_bareCell_42 rfl ?_
          exact E_sub [2, 3, 1, 0] rfl (ih (v2 + 1) (v3 + 1))
        · refine E_iload_n dX8_bareCell_34 rfl 3 rfl ?_
          exact E_iret rfl rfl dX8_bareCell_35
def jX_bareCell (h : AH) (v1 : Int32) : Option (Int32) :=
  (jX_bareCell_4 h v1 FU 0 0)
set_option maxRecDepth 20000 in
set_option maxHeartbeats 2000000 in
theorem sX_bareCell (G : JG) (h : AH) (v1 : Int32) : Mt G iX_bareCell (rvI h) [.ref (G.ad 0 0), .int v1] h (jX_bareCell h v1) := by
  refine Mt_of (by decide) (Nat.le_of_ble_eq_true rfl) ?_
  unfold jX_bareCell
  show Sim G iX_bareCell (rvI h) 0 [(0, .ref (G.ad 0 0)), (1, .int v1)] [] h _
  refine E_iconst (v := 0) dX8_bareCell_0 rfl ?_
  refine E_istore_n (ls' := [(2, .int 0), (0, .ref (G.ad 0 0)), (1, .int v1)]) dX8_bareCell_1 rfl (Nat.le_of_ble_eq_true rfl) rfl ?_
  refine E_iconst (v := 0) dX8_bareCell_2 rfl ?_
  refine E_istore_n (ls' := [(3, .int 0), (2, .int 0), (0, .ref (G.ad 0 0)), (1, .int v1)]) dX8_bareCell_3 rfl (Nat.le_of_ble_eq_true rfl) rfl ?_
  exact E_sub [2, 3, 1, 0] rfl (sX_bareCell_4 G h v1 FU 0 0)
def iX_before : MI := (yX8_before, cX8_before, 3, (some .int), { frames := 3, cells := 0, slots := 0, locals := 69 }, 0)
theorem ck_X8_before : CK iX_before 2 := ⟨⟨wd_105, wd_878, by decide +kernel⟩, ⟨wd_876, wd_877⟩⟩
def jX_before (h : AH) (v1 : Int32) (v2 : Int32) : Option (Int32 × AH) :=
  (jX_areUnlike h v1 v2).bind fun r1 =>
  if r1 = 0 then ((jX_refuse h 1).bind fun q6 =>
  some (q6.1, q6.2))
  else ((jO_learn h ((gB h 1).toNat)).bind fun h2 =>
  (jO_isSure h2 v1 v2).bind fun r3 =>
  if r3 = 0 then ((jX_accept h2 0).bind fun q4 =>
  some (q4.1, q4.2))
  else ((jX_accept h2 1).bind fun q5 =>
  some (q5.1, q5.2)))
set_option maxRecDepth 20000 in
set_option maxHeartbeats 2000000 in
theorem sX_before (G : JG) (h : AH) (v1 : Int32) (v2 : Int32) : Mt G iX_before rvIM [.ref (G.ad 0 0), .int v1, .int v2] h (jX_before h v1 v2) := by
  refine Mt_of (by decide) (Nat.le_of_ble_eq_true rfl) ?_
  unfold jX_before
  show Sim G iX_before rvIM 0 [(0, .ref (G.ad 0 0)), (1, .int v1), (2, .int v2)] [] h _
  refine E_aload_n dX8_before_0 rfl 0 rfl ?_
  refine E_iload_n dX8_before_1 rfl 1 rfl ?_
  refine E_iload_n dX8_before_2 rfl 2 rfl ?_
  refine E_cVI (As := [.int v1, .int v2]) (rest := []) (sX_areUnlike G h v1 v2) ck_X8_areUnlike lk_X8_172 rfl rfl kc_0 z0 rfl rfl rfl dX8_before_3 (fun r1 _ => ?_)
  refine E_if_ne (t := 15) dX8_before_6 rfl ?_ ?_
  · refine E_aload_n dX8_before_15 rfl 0 rfl ?_
    refine E_getF fl_X8_48 dX8_before_16 z0 ?_
    refine E_aload_n dX8_before_19 rfl 0 rfl ?_
    refine E_getD fl_X8_30 dX8_before_20 z0 ?_
    refine E_cVV (As := [.ref (G.ad 13 ((gB h 1).toNat))]) (rest := []) (sO_learn G h ((gB h 1).toNat) (tB13 _)) ck_X2_learn lk_X8_175 rfl rfl kc_24 z24 rfl rfl rfl dX8_before_23 (fun h2 _ => ?_)
    refine E_aload_n dX8_before_26 rfl 0 rfl ?_
    refine E_aload_n dX8_before_27 rfl 0 rfl ?_
    refine E_getF fl_X8_48 dX8_before_28 z0 ?_
    refine E_iload_n dX8_before_31 rfl 1 rfl ?_
    refine E_iload_n dX8_before_32 rfl 2 rfl ?_
    refine E_cVI (As := [.int v1, .int v2]) (rest := [.ref (G.ad 0 0)]) (sO_isSure G h2 v1 v2) ck_X2_isSure lk_X8_179 rfl rfl kc_24 z24 rfl rfl rfl dX8_before_33 (fun r3 _ => ?_)
    refine E_if_eq (t := 43) dX8_before_36 rfl ?_ ?_
    · refine E_iconst (v := 0) dX8_before_43 rfl ?_
      refine E_cVIM (As := [.int 0]) (rest := []) (sX_accept G h2 0) ck_X8_accept lk_X8_84 rfl rfl kc_0 z0 rfl rfl rfl dX8_before_44 (fun q4 _ => ?_)
      exact E_iret rfl rfl dX8_before_47
    · refine E_iconst (v := 1) dX8_before_39 rfl ?_
      refine E_goto (t := 44) dX8_before_40 rfl ?_
      refine E_cVIM (As := [.int 1]) (rest := []) (sX_accept G h2 1) ck_X8_accept lk_X8_84 rfl rfl kc_0 z0 rfl rfl rfl dX8_before_44 (fun q5 _ => ?_)
      exact E_iret rfl rfl dX8_before_47
  · refine E_aload_n dX8_before_9 rfl 0 rfl ?_
    refine E_iconst (v := 1) dX8_before_10 rfl ?_
    refine E_cVIM (As := [.int 1]) (rest := []) (sX_refuse G h 1) ck_X8_refuse lk_X8_67 rfl rfl kc_0 z0 rfl rfl rfl dX8_before_11 (fun q6 _ => ?_)
    exact E_iret rfl rfl dX8_before_14
def iX_isYear : MI := (yX8_isYear, cX8_isYear, 1, (some .boolean), { frames := 0, cells := 0, slots := 0, locals := 0 }, 0)
theorem ck_X8_isYear : CS iX_isYear 1 := ⟨⟨wd_105, wd_701, by decide +kernel⟩, wd_700⟩
def jX_isYear (v0 : Int32) : Option (Int32) :=
  if v0 < 0 then (some 0)
  else (if v0 ≤ 999 then (some 1)
  else (some 0))
set_option maxRecDepth 20000 in
set_option maxHeartbeats 2000000 in
theorem sX_isYear (G : JG) (h : AH) (v0 : Int32) : Mt G iX_isYear (rvI h) [.int v0] h (jX_isYear v0) := by
  refine Mt_of (by decide) (Nat.le_of_ble_eq_true rfl) ?_
  unfold jX_isYear
  show Sim G iX_isYear (rvI h) 0 [(0, .int v0)] [] h _
  refine E_iload_n dX8_isYear_0 rfl 0 rfl ?_
  refine E_if_lt (t := 15) dX8_isYear_1 rfl ?_ ?_
  · refine E_iconst (v := 0) dX8_isYear_15 rfl ?_
    exact E_zret rfl rfl rfl dX8_isYear_16
  · refine E_iload_n dX8_isYear_4 rfl 0 rfl ?_
    refine E_sipush (v := 999) dX8_isYear_5 rfl ?_
    refine E_icmp_gt (t := 15) dX8_isYear_8 rfl ?_ ?_
    · refine E_iconst (v := 0) dX8_isYear_15 rfl ?_
      exact E_zret rfl rfl rfl dX8_isYear_16
    · refine E_iconst (v := 1) dX8_isYear_11 rfl ?_
      refine E_goto (t := 16) dX8_isYear_12 rfl ?_
      exact E_zret rfl rfl rfl dX8_isYear_16
def iX_begin : MI := (yX8_begin, cX8_begin, 3, (some .boolean), { frames := 3, cells := 0, slots := 0, locals := 82 }, 0)
theorem ck_X8_begin : CK iX_begin 2 := ⟨⟨wd_105, wd_1061, by decide +kernel⟩, ⟨wd_1059, wd_1060⟩⟩
def jX_begin (h : AH) (v1 : Int32) (v2 : Int32) : Option (Int32 × AH) :=
  (jB_hasHand h ((gB h 0).toNat) v1).bind fun r1 =>
  if r1 = 0 then ((jX_deny h 1).bind fun q12 =>
  if isZ q12.1 = true then some (q12.1, q12.2) else none)
  else ((jX_isYear v2).bind fun r2 =>
  if r2 = 0 then ((jX_deny h 2).bind fun q3 =>
  if isZ q3.1 = true then some (q3.1, q3.2) else none)
  else ((jW_latestYear h ((gB h 1).toNat)).bind fun r4 =>
  if v2 < r4 then ((jX_deny h 2).bind fun q11 =>
  if isZ q11.1 = true then some (q11.1, q11.2) else none)
  else (if (gI h 13 ((gB h 1).toNat) 0) < 12 then (if (gI h 13 ((gB h 1).toNat) 1) = 0 then ((jP_keep h ((gB h 1).toNat)).bind fun h5 =>
  (jW_start h5 ((gB h5 1).toNat) v1 v2).bind fun h6 =>
  jb (uI h6 13 ((gB h6 1).toNat) 1 1) fun h7 =>
  (jX_grant h7).bind fun q8 =>
  if isZ q8.1 = true then some (q8.1, q8.2) else none)
  else ((jX_deny h 5).bind fun q9 =>
  if isZ q9.1 = true then some (q9.1, q9.2) else none))
  else ((jX_deny h 3).bind fun q10 =>
  if isZ q10.1 = true then some (q10.1, q10.2) else none))))
set_option maxRecDepth 20000 in
set_option maxHeartbeats 2000000 in
theorem sX_begin (G : JG) (h : AH) (v1 : Int32) (v2 : Int32) : Mt G iX_begin rvIM [.ref (G.ad 0 0), .int v1, .int v2] h (jX_begin h v1 v2) := by
  refine Mt_of (by decide) (Nat.le_of_ble_eq_true rfl) ?_
  unfold jX_begin
  show Sim G iX_begin rvIM 0 [(0, .ref (G.ad 0 0)), (1, .int v1), (2, .int v2)] [] h _
  refine E_aload_n dX8_begin_0 rfl 0 rfl ?_
  refine E_getD fl_X8_23 dX8_begin_1 z0 ?_
  refine E_iload_n dX8_begin_4 rfl 1 rfl ?_
  refine E_cVI (As := [.int v1]) (rest := []) (sB_hasHand G h ((gB h 0).toNat) (tB3 _) v1) ck_X0_hasHand lk_X8_130 rfl rfl kc_3 (tB3 _) rfl rfl rfl dX8_begin_5 (fun r1 _ => ?_)
  refine E_if_ne (t := 17) dX8_begin_8 rfl ?_ ?_
  · refine E_iload_n dX8_begin_17 rfl 2 rfl ?_
    refine E_cSI (As := [.int v2]) (rest := []) (sX_isYear G h v2) ck_X8_isYear lk_X8_107 rfl rfl rfl rfl rfl dX8_begin_18 (fun r2 _ => ?_)
    refine E_if_eq (t := 35) dX8_begin_21 rfl ?_ ?_
    · refine E_aload_n dX8_begin_35 rfl 0 rfl ?_
      refine E_iconst (v := 2) dX8_begin_36 rfl ?_
      refine E_cVIM (As := [.int 2]) (rest := []) (sX_deny G h 2) ck_X8_deny lk_X8_230 rfl rfl kc_0 z0 rfl rfl rfl dX8_begin_37 (fun q3 _ => ?_)
      exact E_zretg rfl rfl dX8_begin_40
    · refine E_iload_n dX8_begin_24 rfl 2 rfl ?_
      refine E_aload_n dX8_begin_25 rfl 0 rfl ?_
      refine E_getD fl_X8_30 dX8_begin_26 z0 ?_
      refine E_cVI (As := []) (rest := [.int v2]) (sW_latestYear G h ((gB h 1).toNat) (tB13 _)) ck_X7_latestYear lk_X8_233 rfl rfl kc_13 (tB13 _) rfl rfl rfl dX8_begin_29 (fun r4 _ => ?_)
      refine E_icmp_ge (t := 41) dX8_begin_32 rfl ?_ ?_
      · refine E_aload_n dX8_begin_41 rfl 0 rfl ?_
        refine E_getD fl_X8_30 dX8_begin_42 z0 ?_
        refine E_getI fl_X8_81 dX8_begin_45 (tB13 _) ?_
        refine E_bipush (v := 12) dX8_begin_48 rfl ?_
        refine E_icmp_lt (t := 59) dX8_begin_50 rfl ?_ ?_
        · refine E_aload_n dX8_begin_59 rfl 0 rfl ?_
          refine E_getD fl_X8_30 dX8_begin_60 z0 ?_
          refine E_getI fl_X8_236 dX8_begin_63 (tB13 _) ?_
          refine E_if_eq (t := 75) dX8_begin_66 rfl ?_ ?_
          · refine E_aload_n dX8_begin_75 rfl 0 rfl ?_
            refine E_getF fl_X8_37 dX8_begin_76 z0 ?_
            refine E_aload_n dX8_begin_79 rfl 0 rfl ?_
            refine E_getD fl_X8_30 dX8_begin_80 z0 ?_
            refine E_cVV (As := [.ref (G.ad 13 ((gB h 1).toNat))]) (rest := []) (sP_keep G h ((gB h 1).toNat) (tB13 _)) ck_X3_keep lk_X8_240 rfl rfl kc_21 z21 rfl rfl rfl dX8_begin_83 (fun h5 _ => ?_)
            refine E_aload_n dX8_begin_86 rfl 0 rfl ?_
            refine E_getD fl_X8_30 dX8_begin_87 z0 ?_
            refine E_iload_n dX8_begin_90 rfl 1 rfl ?_
            refine E_iload_n dX8_begin_91 rfl 2 rfl ?_
            refine E_cVV (As := [.int v1, .int v2]) (rest := []) (sW_start G h5 ((gB h5 1).toNat) (tB13 _) v1 v2) ck_X7_start lk_X8_243 rfl rfl kc_13 (tB13 _) rfl rfl rfl dX8_begin_92 (fun h6 _ => ?_)
            refine E_aload_n dX8_begin_95 rfl 0 rfl ?_
            refine E_getD fl_X8_30 dX8_begin_96 z0 ?_
            refine E_iconst (v := 1) dX8_begin_99 rfl ?_
            refine E_putZ fs_X8_236 (Or.inr rfl) dX8_begin_100 (tB13 _) ?_
            refine E_hgen (fun h7 => ?_)
            refine E_aload_n dX8_begin_103 rfl 0 rfl ?_
            refine E_cVIM (As := []) (rest := []) (sX_grant G h7) ck_X8_grant lk_X8_247 rfl rfl kc_0 z0 rfl rfl rfl dX8_begin_104 (fun q8 _ => ?_)
            exact E_zretg rfl rfl dX8_begin_107
          · refine E_aload_n dX8_begin_69 rfl 0 rfl ?_
            refine E_iconst (v := 5) dX8_begin_70 rfl ?_
            refine E_cVIM (As := [.int 5]) (rest := []) (sX_deny G h 5) ck_X8_deny lk_X8_230 rfl rfl kc_0 z0 rfl rfl rfl dX8_begin_71 (fun q9 _ => ?_)
            exact E_zretg rfl rfl dX8_begin_74
        · refine E_aload_n dX8_begin_53 rfl 0 rfl ?_
          refine E_iconst (v := 3) dX8_begin_54 rfl ?_
          refine E_cVIM (As := [.int 3]) (rest := []) (sX_deny G h 3) ck_X8_deny lk_X8_230 rfl rfl kc_0 z0 rfl rfl rfl dX8_begin_55 (fun q10 _ => ?_)
          exact E_zretg rfl rfl dX8_begin_58
      · refine E_aload_n dX8_begin_35 rfl 0 rfl ?_
        refine E_iconst (v := 2) dX8_begin_36 rfl ?_
        refine E_cVIM (As := [.int 2]) (rest := []) (sX_deny G h 2) ck_X8_deny lk_X8_230 rfl rfl kc_0 z0 rfl rfl rfl dX8_begin_37 (fun q11 _ => ?_)
        exact E_zretg rfl rfl dX8_begin_40
  · refine E_aload_n dX8_begin_11 rfl 0 rfl ?_
    refine E_iconst (v := 1) dX8_begin_12 rfl ?_
    refine E_cVIM (As := [.int 1]) (rest := []) (sX_deny G h 1) ck_X8_deny lk_X8_230 rfl rfl kc_0 z0 rfl rfl rfl dX8_begin_13 (fun q12 _ => ?_)
    exact E_zretg rfl rfl dX8_begin_16
def iX_looksAhead : MI := (yX8_looksAhead, cX8_looksAhead, 2, (some .boolean), { frames := 5, cells := 0, slots := 0, locals := 121 }, 0)
theorem ck_X8_looksAhead : CK iX_looksAhead 1 := ⟨⟨wd_105, wd_952, by decide +kernel⟩, ⟨wd_951, wd_28⟩⟩
def jX_looksAhead (h : AH) (v1 : Int32) : Option (Int32 × AH) :=
  (jX_isYear v1).bind fun r1 =>
  if r1 = 0 then ((jX_deny h 2).bind fun q6 =>
  if isZ q6.1 = true then some (q6.1, q6.2) else none)
  else ((jB_cells h ((gB h 0).toNat)).bind fun r2 =>
  if r2 ≤ 12 then ((jQ_look h ((gB h 0).toNat) ((gB h 1).toNat) v1 (-1)).bind fun h3 =>
  (jX_grant h3).bind fun q4 =>
  if isZ q4.1 = true then some (q4.1, q4.2) else none)
  else ((jX_deny h 3).bind fun q5 =>
  if isZ q5.1 = true then some (q5.1, q5.2) else none))
set_option maxRecDepth 20000 in
set_option maxHeartbeats 2000000 in
theorem sX_looksAhead (G : JG) (h : AH) (v1 : Int32) : Mt G iX_looksAhead rvIM [.ref (G.ad 0 0), .int v1] h (jX_looksAhead h v1) := by
  refine Mt_of (by decide) (Nat.le_of_ble_eq_true rfl) ?_
  unfold jX_looksAhead
  show Sim G iX_looksAhead rvIM 0 [(0, .ref (G.ad 0 0)), (1, .int v1)] [] h _
  refine E_iload_n dX8_looksAhead_0 rfl 1 rfl ?_
  refine E_cSI (As := [.int v1]) (rest := []) (sX_isYear G h v1) ck_X8_isYear lk_X8_107 rfl rfl rfl rfl rfl dX8_looksAhead_1 (fun r1 _ => ?_)
  refine E_if_ne (t := 13) dX8_looksAhead_4 rfl ?_ ?_
  · refine E_aload_n dX8_looksAhead_13 rfl 0 rfl ?_
    refine E_getD fl_X8_23 dX8_looksAhead_14 z0 ?_
    refine E_cVI (As := []) (rest := []) (sB_cells G h ((gB h 0).toNat) (tB3 _)) ck_X0_cells lk_X8_126 rfl rfl kc_3 (tB3 _) rfl rfl rfl dX8_looksAhead_17 (fun r2 _ => ?_)
    refine E_bipush (v := 12) dX8_looksAhead_20 rfl ?_
    refine E_icmp_le (t := 31) dX8_looksAhead_22 rfl ?_ ?_
    · refine E_aload_n dX8_looksAhead_31 rfl 0 rfl ?_
      refine E_getF fl_X8_55 dX8_looksAhead_32 z0 ?_
      refine E_aload_n dX8_looksAhead_35 rfl 0 rfl ?_
      refine E_getD fl_X8_23 dX8_looksAhead_36 z0 ?_
      refine E_aload_n dX8_looksAhead_39 rfl 0 rfl ?_
      refine E_getD fl_X8_30 dX8_looksAhead_40 z0 ?_
      refine E_iload_n dX8_looksAhead_43 rfl 1 rfl ?_
      refine E_iconst (v := (-1)) dX8_looksAhead_44 rfl ?_
      refine E_cVV (As := [.ref (G.ad 3 ((gB h 0).toNat)), .ref (G.ad 13 ((gB h 1).toNat)), .int v1, .int (-1)]) (rest := []) (sQ_look G h ((gB h 0).toNat) (tB3 _) ((gB h 1).toNat) (tB13 _) v1 (-1)) ck_X4_look lk_X8_226 rfl rfl kc_28 z28 rfl rfl rfl dX8_looksAhead_45 (fun h3 _ => ?_)
      refine E_aload_n dX8_looksAhead_48 rfl 0 rfl ?_
      refine E_cVIM (As := []) (rest := []) (sX_grant G h3) ck_X8_grant lk_X8_247 rfl rfl kc_0 z0 rfl rfl rfl dX8_looksAhead_49 (fun q4 _ => ?_)
      exact E_zretg rfl rfl dX8_looksAhead_52
    · refine E_aload_n dX8_looksAhead_25 rfl 0 rfl ?_
      refine E_iconst (v := 3) dX8_looksAhead_26 rfl ?_
      refine E_cVIM (As := [.int 3]) (rest := []) (sX_deny G h 3) ck_X8_deny lk_X8_230 rfl rfl kc_0 z0 rfl rfl rfl dX8_looksAhead_27 (fun q5 _ => ?_)
      exact E_zretg rfl rfl dX8_looksAhead_30
  · refine E_aload_n dX8_looksAhead_7 rfl 0 rfl ?_
    refine E_iconst (v := 2) dX8_looksAhead_8 rfl ?_
    refine E_cVIM (As := [.int 2]) (rest := []) (sX_deny G h 2) ck_X8_deny lk_X8_230 rfl rfl kc_0 z0 rfl rfl rfl dX8_looksAhead_9 (fun q6 _ => ?_)
    exact E_zretg rfl rfl dX8_looksAhead_12
def iX_best : MI := (yX8_best, cX8_best, 4, (some .int), { frames := 6, cells := 0, slots := 0, locals := 142 }, 0)
theorem ck_X8_best : CK iX_best 2 := ⟨⟨wd_105, wd_948, by decide +kernel⟩, ⟨wd_946, wd_947⟩⟩
def jX_best (h : AH) (v1 : Int32) (v2 : Int32) : Option (Int32 × AH) :=
  (jB_isTold h ((gB h 0).toNat)).bind fun r1 =>
  if r1 = 0 then ((jX_refuse h 1).bind fun q2 =>
  some (q2.1, q2.2))
  else (if v2 < 0 then ((jX_refuse h 1).bind fun q3 =>
  some (q3.1, q3.2))
  else (if v2 ≤ 2 then ((jX_looksAhead h v1).bind fun q4 =>
  if q4.1 = 0 then (some ((-1), q4.2))
  else ((jQ_bestCells q4.2).bind fun r5 =>
  if v2 = 0 then ((jQ_alikeBehind q4.2 r5).bind fun r9 =>
  (jX_accept q4.2 r9).bind fun q10 =>
  some (q10.1, q10.2))
  else (if v2 = 1 then ((jJ_bitCount r5).bind fun r7 =>
  (jX_accept q4.2 r7).bind fun q8 =>
  some (q8.1, q8.2))
  else ((jX_accept q4.2 r5).bind fun q6 =>
  some (q6.1, q6.2)))))
  else ((jX_refuse h 1).bind fun q11 =>
  some (q11.1, q11.2))))
set_option maxRecDepth 20000 in
set_option maxHeartbeats 2000000 in
theorem sX_best (G : JG) (h : AH) (v1 : Int32) (v2 : Int32) : Mt G iX_best rvIM [.ref (G.ad 0 0), .int v1, .int v2] h (jX_best h v1 v2) := by
  refine Mt_of (by decide) (Nat.le_of_ble_eq_true rfl) ?_
  unfold jX_best
  show Sim G iX_best rvIM 0 [(0, .ref (G.ad 0 0)), (1, .int v1), (2, .int v2)] [] h _
  refine E_aload_n dX8_best_0 rfl 0 rfl ?_
  refine E_getD fl_X8_23 dX8_best_1 z0 ?_
  refine E_cVI (As := []) (rest := []) (sB_isTold G h ((gB h 0).toNat) (tB3 _)) ck_X0_isTold lk_X8_133 rfl rfl kc_3 (tB3 _) rfl rfl rfl dX8_best_4 (fun r1 _ => ?_)
  refine E_if_eq (t := 19) dX8_best_7 rfl ?_ ?_
  · refine E_aload_n dX8_best_19 rfl 0 rfl ?_
    refine E_iconst (v := 1) dX8_best_20 rfl ?_
    refine E_cVIM (As := [.int 1]) (rest := []) (sX_refuse G h 1) ck_X8_refuse lk_X8_67 rfl rfl kc_0 z0 rfl rfl rfl dX8_best_21 (fun q2 _ => ?_)
    exact E_iret rfl rfl dX8_best_24
  · refine E_iload_n dX8_best_10 rfl 2 rfl ?_
    refine E_if_lt (t := 19) dX8_best_11 rfl ?_ ?_
    · refine E_aload_n dX8_best_19 rfl 0 rfl ?_
      refine E_iconst (v := 1) dX8_best_20 rfl ?_
      refine E_cVIM (As := [.int 1]) (rest := []) (sX_refuse G h 1) ck_X8_refuse lk_X8_67 rfl rfl kc_0 z0 rfl rfl rfl dX8_best_21 (fun q3 _ => ?_)
      exact E_iret rfl rfl dX8_best_24
    · refine E_iload_n dX8_best_14 rfl 2 rfl ?_
      refine E_iconst (v := 2) dX8_best_15 rfl ?_
      refine E_icmp_le (t := 25) dX8_best_16 rfl ?_ ?_
      · refine E_aload_n dX8_best_25 rfl 0 rfl ?_
        refine E_iload_n dX8_best_26 rfl 1 rfl ?_
        refine E_cVIM (As := [.int v1]) (rest := []) (sX_looksAhead G h v1) ck_X8_looksAhead lk_X8_202 rfl rfl kc_0 z0 rfl rfl rfl dX8_best_27 (fun q4 _ => ?_)
        refine E_if_ne (t := 35) dX8_best_30 rfl ?_ ?_
        · refine E_aload_n dX8_best_35 rfl 0 rfl ?_
          refine E_getF fl_X8_55 dX8_best_36 z0 ?_
          refine E_cVI (As := []) (rest := []) (sQ_bestCells G q4.2) ck_X4_bestCells lk_X8_205 rfl rfl kc_28 z28 rfl rfl rfl dX8_best_39 (fun r5 _ => ?_)
          refine E_istore_n (ls' := [(3, .int r5), (0, .ref (G.ad 0 0)), (1, .int v1), (2, .int v2)]) dX8_best_42 rfl (Nat.le_of_ble_eq_true rfl) rfl ?_
          refine E_iload_n dX8_best_43 rfl 3 rfl ?_
          refine E_if_ne (t := 60) dX8_best_44 rfl ?_ ?_
          · refine E_aload_n dX8_best_60 rfl 1 rfl ?_
            refine E_iload_n dX8_best_61 rfl 3 rfl ?_
            refine E_iconst (v := 1) dX8_best_62 rfl ?_
            refine E_icmp_ne (t := 73) dX8_best_63 rfl ?_ ?_
            · refine E_iload_n dX8_best_73 rfl 0 rfl ?_
              refine E_cVIM (As := [.int r5]) (rest := []) (sX_accept G q4.2 r5) ck_X8_accept lk_X8_84 rfl rfl kc_0 z0 rfl rfl rfl dX8_best_74 (fun q6 _ => ?_)
              exact E_iret rfl rfl dX8_best_77
            · refine E_iload_n dX8_best_66 rfl 0 rfl ?_
              refine E_cSI (As := [.int r5]) (rest := [.ref (G.ad 0 0)]) (sJ_bitCount G q4.2 r5) ck_J6_bitCount_0f7a4 lk_X8_167 rfl rfl rfl rfl rfl dX8_best_67 (fun r7 _ => ?_)
              refine E_goto (t := 74) dX8_best_70 rfl ?_
              refine E_cVIM (As := [.int r7]) (rest := []) (sX_accept G q4.2 r7) ck_X8_accept lk_X8_84 rfl rfl kc_0 z0 rfl rfl rfl dX8_best_74 (fun q8 _ => ?_)
              exact E_iret rfl rfl dX8_best_77
          · refine E_aload_n dX8_best_47 rfl 1 rfl ?_
            refine E_aload_n dX8_best_48 rfl 1 rfl ?_
            refine E_getF fl_X8_55 dX8_best_49 z0 ?_
            refine E_iload_n dX8_best_52 rfl 0 rfl ?_
            refine E_cVI (As := [.int r5]) (rest := [.ref (G.ad 0 0)]) (sQ_alikeBehind G q4.2 r5) ck_X4_alikeBehind lk_X8_208 rfl rfl kc_28 z28 rfl rfl rfl dX8_best_53 (fun r9 _ => ?_)
            refine E_cVIM (As := [.int r9]) (rest := []) (sX_accept G q4.2 r9) ck_X8_accept lk_X8_84 rfl rfl kc_0 z0 rfl rfl rfl dX8_best_56 (fun q10 _ => ?_)
            exact E_iret rfl rfl dX8_best_59
        · refine E_iconst (v := (-1)) dX8_best_33 rfl ?_
          exact E_iret rfl rfl dX8_best_34
      · refine E_aload_n dX8_best_19 rfl 0 rfl ?_
        refine E_iconst (v := 1) dX8_best_20 rfl ?_
        refine E_cVIM (As := [.int 1]) (rest := []) (sX_refuse G h 1) ck_X8_refuse lk_X8_67 rfl rfl kc_0 z0 rfl rfl rfl dX8_best_21 (fun q11 _ => ?_)
        exact E_iret rfl rfl dX8_best_24
