set_option maxRecDepth 20000 in
set_option maxHeartbeats 2000000 in
theorem law_case (G : JG) (b L : Nat) (xs : Nat → Int32) (ao k : Nat) (hL : L ≤ 3072) (hk : 6 * k + 6 ≤ L) (Rel : AH → AH → Prop) (hS : SOK Rel) (hnext : ∀ (hc hm : AH) (ov : Nat → Int64) (cells slots : Nat), Rel hc hm → cells ≤ 105 + (k + 1) → slots ≤ 42664 + 6 * (k + 1) → LSim G b L xs ao 1737 [(0, .ref b), (1, .ref (G.ad 0 0)), (2, .ref (G.ad 32 0)), (3, .ref ao), (4, .int (nI (6 * k)))] [] hc hm ov cells slots) (hc hm : AH) (ov : Nat → Int64) (cells slots : Nat) (hR : Rel hc hm) (hcs : cells ≤ 105 + k) (hss : slots ≤ 42664 + 6 * k) : ∀ j, j < 48 → LSim G b L xs ao (([248, 321, 346, 359, 372, 409, 446, 495, 544, 581, 618, 655, 680, 705, 730, 767, 804, 853, 878, 903, 916, 941, 978, 991, 1005, 1058, 1096, 1133, 1146, 1183, 1208, 1245, 1270, 1307, 1344, 1381, 1454, 1467, 1480, 1517, 1530, 1567, 1592, 1605, 1618, 1643, 1699, 1724] : List Nat).getD j 0) [(0, .ref b), (1, .ref (G.ad 0 0)), (2, .ref (G.ad 32 0)), (3, .ref ao), (4, .int (nI (6 * k)))] [] hc hm ov cells slots := by
  intro j hj
  match j, hj with
  | 0, _ => exact cs_feed G b L xs ao k hL hk Rel hS.1 hnext hc hm ov cells slots hR hcs hss
  | 1, _ => exact cs_book G b L xs ao k hL hk Rel hS.2.1 hnext hc hm ov cells slots hR hcs hss
  | 2, _ => exact cs_fault G b L xs ao k hL hk Rel hS.2.2.1 hnext hc hm ov cells slots hR hcs hss
  | 3, _ => exact cs_where G b L xs ao k hL hk Rel hS.2.2.2.1 hnext hc hm ov cells slots hR hcs hss
  | 4, _ => exact cs_shows G b L xs ao k hL hk Rel hS.2.2.2.2.1 hnext hc hm ov cells slots hR hcs hss
  | 5, _ => exact cs_whose G b L xs ao k hL hk Rel hS.2.2.2.2.2.1 hnext hc hm ov cells slots hR hcs hss
  | 6, _ => exact cs_was G b L xs ao k hL hk Rel hS.2.2.2.2.2.2.1 hnext hc hm ov cells slots hR hcs hss
  | 7, _ => exact cs_scraped G b L xs ao k hL hk Rel hS.2.2.2.2.2.2.2.1 hnext hc hm ov cells slots hR hcs hss
  | 8, _ => exact cs_deep G b L xs ao k hL hk Rel hS.2.2.2.2.2.2.2.2.1 hnext hc hm ov cells slots hR hcs hss
  | 9, _ => exact cs_relief G b L xs ao k hL hk Rel hS.2.2.2.2.2.2.2.2.2.1 hnext hc hm ov cells slots hR hcs hss
  | 10, _ => exact cs_light G b L xs ao k hL hk Rel hS.2.2.2.2.2.2.2.2.2.2.1 hnext hc hm ov cells slots hR hcs hss
  | 11, _ => exact cs_area G b L xs ao k hL hk Rel hS.2.2.2.2.2.2.2.2.2.2.2.1 hnext hc hm ov cells slots hR hcs hss
  | 12, _ => exact cs_share G b L xs ao k hL hk Rel hS.2.2.2.2.2.2.2.2.2.2.2.2.1 hnext hc hm ov cells slots hR hcs hss
  | 13, _ => exact cs_old G b L xs ao k hL hk Rel hS.2.2.2.2.2.2.2.2.2.2.2.2.2.1 hnext hc hm ov cells slots hR hcs hss
  | 14, _ => exact cs_changes G b L xs ao k hL hk Rel hS.2.2.2.2.2.2.2.2.2.2.2.2.2.2.1 hnext hc hm ov cells slots hR hcs hss
  | 15, _ => exact cs_work G b L xs ao k hL hk Rel hS.2.2.2.2.2.2.2.2.2.2.2.2.2.2.2.1 hnext hc hm ov cells slots hR hcs hss
  | 16, _ => exact cs_paint G b L xs ao k hL hk Rel hS.2.2.2.2.2.2.2.2.2.2.2.2.2.2.2.2.1 hnext hc hm ov cells slots hR hcs hss
  | 17, _ => exact cs_judged G b L xs ao k hL hk Rel hS.2.2.2.2.2.2.2.2.2.2.2.2.2.2.2.2.2.1 hnext hc hm ov cells slots hR hcs hss
  | 18, _ => exact cs_breaks G b L xs ao k hL hk Rel hS.2.2.2.2.2.2.2.2.2.2.2.2.2.2.2.2.2.2.1 hnext hc hm ov cells slots hR hcs hss
  | 19, _ => exact cs_forged G b L xs ao k hL hk Rel hS.2.2.2.2.2.2.2.2.2.2.2.2.2.2.2.2.2.2.2.1 hnext hc hm ov cells slots hR hcs hss
  | 20, _ => exact cs_left G b L xs ao k hL hk Rel hS.2.2.2.2.2.2.2.2.2.2.2.2.2.2.2.2.2.2.2.2.1 hnext hc hm ov cells slots hR hcs hss
  | 21, _ => exact cs_before G b L xs ao k hL hk Rel hS.2.2.2.2.2.2.2.2.2.2.2.2.2.2.2.2.2.2.2.2.2.1 hnext hc hm ov cells slots hR hcs hss
  | 22, _ => exact cs_untold G b L xs ao k hL hk Rel hS.2.2.2.2.2.2.2.2.2.2.2.2.2.2.2.2.2.2.2.2.2.2.1 hnext hc hm ov cells slots hR hcs hss
  | 23, _ => exact cs_orders G b L xs ao k hL hk Rel hS.2.2.2.2.2.2.2.2.2.2.2.2.2.2.2.2.2.2.2.2.2.2.2.1 hnext hc hm ov cells slots hR hcs hss
  | 24, _ => exact cs_placed G b L xs ao k hL hk Rel hS.2.2.2.2.2.2.2.2.2.2.2.2.2.2.2.2.2.2.2.2.2.2.2.2.1 hnext hc hm ov cells slots hR hcs hss
  | 25, _ => exact cs_ahead G b L xs ao k hL hk Rel hS.2.2.2.2.2.2.2.2.2.2.2.2.2.2.2.2.2.2.2.2.2.2.2.2.2.1 hnext hc hm ov cells slots hR hcs hss
  | 26, _ => exact cs_wanted G b L xs ao k hL hk Rel hS.2.2.2.2.2.2.2.2.2.2.2.2.2.2.2.2.2.2.2.2.2.2.2.2.2.2.1 hnext hc hm ov cells slots hR hcs hss
  | 27, _ => exact cs_alike G b L xs ao k hL hk Rel hS.2.2.2.2.2.2.2.2.2.2.2.2.2.2.2.2.2.2.2.2.2.2.2.2.2.2.2.1 hnext hc hm ov cells slots hR hcs hss
  | 28, _ => exact cs_best G b L xs ao k hL hk Rel hS.2.2.2.2.2.2.2.2.2.2.2.2.2.2.2.2.2.2.2.2.2.2.2.2.2.2.2.2.1 hnext hc hm ov cells slots hR hcs hss
  | 29, _ => exact cs_need G b L xs ao k hL hk Rel hS.2.2.2.2.2.2.2.2.2.2.2.2.2.2.2.2.2.2.2.2.2.2.2.2.2.2.2.2.2.1 hnext hc hm ov cells slots hR hcs hss
  | 30, _ => exact cs_step G b L xs ao k hL hk Rel hS.2.2.2.2.2.2.2.2.2.2.2.2.2.2.2.2.2.2.2.2.2.2.2.2.2.2.2.2.2.2.1 hnext hc hm ov cells slots hR hcs hss
  | 31, _ => exact cs_reach G b L xs ao k hL hk Rel hS.2.2.2.2.2.2.2.2.2.2.2.2.2.2.2.2.2.2.2.2.2.2.2.2.2.2.2.2.2.2.2.1 hnext hc hm ov cells slots hR hcs hss
  | 32, _ => exact cs_least G b L xs ao k hL hk Rel hS.2.2.2.2.2.2.2.2.2.2.2.2.2.2.2.2.2.2.2.2.2.2.2.2.2.2.2.2.2.2.2.2.1 hnext hc hm ov cells slots hR hcs hss
  | 33, _ => exact cs_freed G b L xs ao k hL hk Rel hS.2.2.2.2.2.2.2.2.2.2.2.2.2.2.2.2.2.2.2.2.2.2.2.2.2.2.2.2.2.2.2.2.2.1 hnext hc hm ov cells slots hR hcs hss
  | 34, _ => exact cs_begin G b L xs ao k hL hk Rel hS.2.2.2.2.2.2.2.2.2.2.2.2.2.2.2.2.2.2.2.2.2.2.2.2.2.2.2.2.2.2.2.2.2.2.1 hnext hc hm ov cells slots hR hcs hss
  | 35, _ => exact cs_patch G b L xs ao k hL hk Rel hS.2.2.2.2.2.2.2.2.2.2.2.2.2.2.2.2.2.2.2.2.2.2.2.2.2.2.2.2.2.2.2.2.2.2.2.1 hnext hc hm ov cells slots hR hcs hss
  | 36, _ => exact cs_dry G b L xs ao k hL hk Rel hS.2.2.2.2.2.2.2.2.2.2.2.2.2.2.2.2.2.2.2.2.2.2.2.2.2.2.2.2.2.2.2.2.2.2.2.2.1 hnext hc hm ov cells slots hR hcs hss
  | 37, _ => exact cs_wipe G b L xs ao k hL hk Rel hS.2.2.2.2.2.2.2.2.2.2.2.2.2.2.2.2.2.2.2.2.2.2.2.2.2.2.2.2.2.2.2.2.2.2.2.2.2.1 hnext hc hm ov cells slots hR hcs hss
  | 38, _ => exact cs_wet G b L xs ao k hL hk Rel hS.2.2.2.2.2.2.2.2.2.2.2.2.2.2.2.2.2.2.2.2.2.2.2.2.2.2.2.2.2.2.2.2.2.2.2.2.2.2.1 hnext hc hm ov cells slots hR hcs hss
  | 39, _ => exact cs_wetJudged G b L xs ao k hL hk Rel hS.2.2.2.2.2.2.2.2.2.2.2.2.2.2.2.2.2.2.2.2.2.2.2.2.2.2.2.2.2.2.2.2.2.2.2.2.2.2.2.1 hnext hc hm ov cells slots hR hcs hss
  | 40, _ => exact cs_scrape G b L xs ao k hL hk Rel hS.2.2.2.2.2.2.2.2.2.2.2.2.2.2.2.2.2.2.2.2.2.2.2.2.2.2.2.2.2.2.2.2.2.2.2.2.2.2.2.2.1 hnext hc hm ov cells slots hR hcs hss
  | 41, _ => exact cs_thief G b L xs ao k hL hk Rel hS.2.2.2.2.2.2.2.2.2.2.2.2.2.2.2.2.2.2.2.2.2.2.2.2.2.2.2.2.2.2.2.2.2.2.2.2.2.2.2.2.2.1 hnext hc hm ov cells slots hR hcs hss
  | 42, _ => exact cs_undo G b L xs ao k hL hk Rel hS.2.2.2.2.2.2.2.2.2.2.2.2.2.2.2.2.2.2.2.2.2.2.2.2.2.2.2.2.2.2.2.2.2.2.2.2.2.2.2.2.2.2.1 hnext hc hm ov cells slots hR hcs hss
  | 43, _ => exact cs_image G b L xs ao k hL hk Rel hS.2.2.2.2.2.2.2.2.2.2.2.2.2.2.2.2.2.2.2.2.2.2.2.2.2.2.2.2.2.2.2.2.2.2.2.2.2.2.2.2.2.2.2.1 hnext hc hm ov cells slots hR hcs hss
  | 44, _ => exact cs_back G b L xs ao k hL hk Rel hS.2.2.2.2.2.2.2.2.2.2.2.2.2.2.2.2.2.2.2.2.2.2.2.2.2.2.2.2.2.2.2.2.2.2.2.2.2.2.2.2.2.2.2.2.1 hnext hc hm ov cells slots hR hcs hss
  | 45, _ => exact cs_led G b L xs ao k hL hk Rel hS.2.2.2.2.2.2.2.2.2.2.2.2.2.2.2.2.2.2.2.2.2.2.2.2.2.2.2.2.2.2.2.2.2.2.2.2.2.2.2.2.2.2.2.2.2.1 hnext hc hm ov cells slots hR hcs hss
  | 46, _ => exact cs_size G b L xs ao k hL hk Rel hS.2.2.2.2.2.2.2.2.2.2.2.2.2.2.2.2.2.2.2.2.2.2.2.2.2.2.2.2.2.2.2.2.2.2.2.2.2.2.2.2.2.2.2.2.2.2.1 hnext hc hm ov cells slots hR hcs hss
  | 47, _ => exact cs_trouble G b L xs ao k hL hk Rel hS.2.2.2.2.2.2.2.2.2.2.2.2.2.2.2.2.2.2.2.2.2.2.2.2.2.2.2.2.2.2.2.2.2.2.2.2.2.2.2.2.2.2.2.2.2.2.2 hnext hc hm ov cells slots hR hcs hss
  | j + 48, hj => exact absurd hj (by omega)
set_option maxRecDepth 20000 in
set_option maxHeartbeats 2000000 in
theorem law_loop (G : JG) (b L : Nat) (xs : Nat → Int32) (ao : Nat) (hL : L ≤ 3072) (Rel : AH → AH → Prop) (hS : SOK Rel) : ∀ (n k : Nat) (hc hm : AH) (ov : Nat → Int64) (cells slots : Nat), Rel hc hm → L < 6 * k + 6 * n → 6 * k ≤ L → cells ≤ 105 + k → slots ≤ 42664 + 6 * k → LSim G b L xs ao 23 [(0, .ref b), (1, .ref (G.ad 0 0)), (2, .ref (G.ad 32 0)), (3, .ref ao), (4, .int (nI (6 * k)))] [] hc hm ov cells slots := by
  intro n
  induction n with
  | zero => intro k hc hm ov cells slots hR h1 h2; exact absurd h2 (by omega)
  | succ n ih =>
    intro k hc hm ov cells slots hR h1 h2 hcs hss
    have hsub : (nI L - 6).toInt = (L : Int) - 6 := pk_sub_toInt (a := L) (b := 6) (by omega) (by omega)
    have hki : (nI (6 * k)).toInt = ((6 * k : Nat) : Int) := nI_toInt (by omega)
    refine L_iload dL_law_23 4 rfl ?_
    refine L_aload_n dL_law_25 rfl 0 rfl ?_
    refine L_slen (v := nI L) rfl dL_law_26 ?_
    refine L_bipush (v := 6) dL_law_27 rfl ?_
    refine L_isub dL_law_29 ?_
    by_cases hk : 6 * k + 6 ≤ L
    · have hnext : ∀ (hc hm : AH) (ov : Nat → Int64) (cells slots : Nat), Rel hc hm → cells ≤ 105 + (k + 1) → slots ≤ 42664 + 6 * (k + 1) → LSim G b L xs ao 1737 [(0, .ref b), (1, .ref (G.ad 0 0)), (2, .ref (G.ad 32 0)), (3, .ref ao), (4, .int (nI (6 * k)))] [] hc hm ov cells slots := by
        intro hc hm ov cells slots hR hcs hss
        refine L_iinc (q := 4) (v := nI (6 * (k + 1))) (ls' := [(4, .int (nI (6 * (k + 1)))), (0, .ref b), (1, .ref (G.ad 0 0)), (2, .ref (G.ad 32 0)), (3, .ref ao)]) dL_law_1737 rfl (nI_add (6 * k) 6) (by decide) rfl ?_
        refine L_goto (t := 23) dL_law_1740 rfl ?_
        exact L_sub [1, 2, 3, 4, 0] rfl (ih (k + 1) hc hm ov cells slots hR (by omega) (by omega) hcs hss)
      refine L_icmp_gt_f (t := 1743) dL_law_30 rfl (by rw [Int32.lt_iff_toInt_lt, hsub, hki]; omega) ?_
      refine L_aload_n dL_law_33 rfl 0 rfl ?_
      refine L_iload dL_law_34 4 rfl ?_
      refine L_sld (j := 6 * k) rfl (by omega) hL dL_law_36 ?_
      refine L_bipush (v := 63) dL_law_37 rfl ?_
      refine L_iand dL_law_39 ?_
      refine L_tsw (t := 1737) [248, 321, 346, 359, 372, 409, 446, 495, 544, 581, 618, 655, 680, 705, 730, 767, 804, 853, 878, 903, 916, 941, 978, 991, 1005, 1058, 1096, 1133, 1146, 1183, 1208, 1245, 1270, 1307, 1344, 1381, 1454, 1467, 1480, 1517, 1530, 1567, 1592, 1605, 1618, 1643, 1699, 1724] dL_law_40 rfl rfl (by decide) (fun _ => hnext hc hm ov cells slots hR (by omega) (by omega)) (fun j hj hx => ?_)
      have hj2 : j < 48 := hj
      exact law_case G b L xs ao k hL hk Rel hS hnext hc hm ov cells slots hR hcs hss j hj2
    · refine L_icmp_gt_t (t := 1743) dL_law_30 rfl (by rw [Int32.lt_iff_toInt_lt, hsub, hki]; omega) ?_
      refine L_iconst (v := 1) dL_law_1743 rfl ?_
      exact L_ret (by omega) (by omega) dL_law_1744

