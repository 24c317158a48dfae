/-! ===== pure: the corners of a patch ===== -/
section
variable {h : AH} {b : Nat}
theorem c_cellAt2 {a : Nat} (e0 : gI h 3 b 0 = nI a) (x y : Nat) : jB_cellAt h b (nI x) (nI y) = some (nI (a * y + x)) := by
  unfold jB_cellAt
  rw [e0, pk_mul, nI_add]
theorem cell_lt {R : Nat → Nat} {x y : Nat} (hx : x < R 0) (hy : y < R 1) : R 0 * y + x < nC R := by
  have := Nat.mul_le_mul (Nat.le_refl (R 0)) (show y + 1 ≤ R 1 by omega)
  rw [Nat.mul_add, Nat.mul_one] at this
  unfold nC
  omega
theorem nC_24 {R : Nat → Nat} (h0 : R 0 ≤ 6) (h1 : R 1 ≤ 4) : nC R ≤ 24 := Nat.mul_le_mul h0 h1
theorem c_patch2 {R : Nat → Nat} (e0 : gI h 3 b 0 = nI (R 0)) (e1 : gI h 3 b 1 = nI (R 1)) (r0 : R 0 ≤ 6) (r1 : R 1 ≤ 4) {x0 y0 x1 y1 : Nat} (hx : x0 ≤ x1) (hx1 : x1 < R 0) (hy : y0 ≤ y1) (hy1 : y1 < R 1) : jB_patchCells h b (nI x0) (nI y0) (nI x1) (nI y1) = some (nI (bM (inr (R 0) x0 y0 x1 y1) (nC R))) := by
  have h1 : 1 ≤ R 0 := by omega
  have hn := nC_24 r0 r1
  unfold jB_patchCells
  have inner : ∀ (K : Int32 → Int32 → Option Int32) y, y0 ≤ y → y ≤ y1 → jB_patchCells_25 h b (nI x0) (nI x1) (nI y1) K FU (nI (bM (prt (R 0) x0 x1 y0 y x0) (nC R))) (nI y) (nI x0) = K (nI (bM (prt (R 0) x0 x1 y0 (y + 1) x0) (nC R))) (nI (y + 1)) := by
    intro K y hya hyb
    refine up_ind (P := fun n k => x0 ≤ k → jB_patchCells_25 h b (nI x0) (nI x1) (nI y1) K n (nI (bM (prt (R 0) x0 x1 y0 y k) (nC R))) (nI y) (nI k) = K (nI (bM (prt (R 0) x0 x1 y0 (y + 1) x0) (nC R))) (nI (y + 1))) (x1 + 1) (fun n _ => ?_) (fun n k hk ih hka => ?_) (x1 + 1 - x0) x0 FU (by omega) (FU_lt (by omega)) (Nat.le_refl _)
    · rw [jB_patchCells_25]
      simp (disch := omega) only [litI, jbn, inb_nI, nI_clamp, nI_add, pk_sub, pk_mul, nI_and, nI_or, and31, sh1, nI_dif, nI_bit, nI_shr, nI_eq, nI_ltI, nI_leI, nI_eq_neg, neg_eq_nI, neg_eq_neg, neg_lt_nI, nI_lt_neg, neg_le_nI, nI_le_neg, cv_eq2, nI_tn0, nI_tn1, obind, if_pos, if_neg, Nat.not_lt_zero, eq_self, if_true, if_false, Nat.zero_le, Nat.add_sub_cancel, nI_m1, nI_dn]
      rw [prt_y h1 r0 hx hya]
    · have hc := cell_lt (R := R) (x := k) (y := y) (by omega) (by omega)
      have ih := ih (by omega)
      rw [prt_x h1 r0 hka (by omega) (by omega) hya hc] at ih
      rw [jB_patchCells_25]
      simp (disch := omega) only [litI, jbn, inb_nI, nI_clamp, nI_add, pk_sub, pk_mul, nI_and, nI_or, and31, sh1, nI_dif, nI_bit, nI_shr, nI_eq, nI_ltI, nI_leI, nI_eq_neg, neg_eq_nI, neg_eq_neg, neg_lt_nI, nI_lt_neg, neg_le_nI, nI_le_neg, cv_eq2, nI_tn0, nI_tn1, obind, if_pos, if_neg, Nat.not_lt_zero, eq_self, if_true, if_false, Nat.zero_le, Nat.add_sub_cancel, nI_m1, nI_dn, e0, c_cellAt2 e0]
      exact ih
  have key := up_ind (P := fun n k => y0 ≤ k → jB_patchCells_6 h b (nI x0) (nI x1) (nI y1) n (nI (bM (prt (R 0) x0 x1 y0 k x0) (nC R))) (nI k) = some (nI (bM (inr (R 0) x0 y0 x1 y1) (nC R)))) (y1 + 1) (fun n _ => ?_) (fun n k hk ih hka => ?_) (y1 + 1 - y0) y0 FU (by omega) (FU_lt (by omega)) (Nat.le_refl _)
  · rw [prt_0] at key
    exact key
  · rw [jB_patchCells_6]
    simp (disch := omega) only [litI, jbn, inb_nI, nI_clamp, nI_add, pk_sub, pk_mul, nI_and, nI_or, and31, sh1, nI_dif, nI_bit, nI_shr, nI_eq, nI_ltI, nI_leI, nI_eq_neg, neg_eq_nI, neg_eq_neg, neg_lt_nI, nI_lt_neg, neg_le_nI, nI_le_neg, cv_eq2, nI_tn0, nI_tn1, obind, if_pos, if_neg, Nat.not_lt_zero, eq_self, if_true, if_false, Nat.zero_le, Nat.add_sub_cancel, nI_m1, nI_dn]
    rw [prt_e hx]
  · rw [jB_patchCells_6]
    simp (disch := omega) only [litI, jbn, inb_nI, nI_clamp, nI_add, pk_sub, pk_mul, nI_and, nI_or, and31, sh1, nI_dif, nI_bit, nI_shr, nI_eq, nI_ltI, nI_leI, nI_eq_neg, neg_eq_nI, neg_eq_neg, neg_lt_nI, nI_lt_neg, neg_le_nI, nI_le_neg, cv_eq2, nI_tn0, nI_tn1, obind, if_pos, if_neg, Nat.not_lt_zero, eq_self, if_true, if_false, Nat.zero_le, Nat.add_sub_cancel, nI_m1, nI_dn, e1]
    rw [inner _ k hka (by omega)]
    exact ih (by omega)
theorem pc_in {x0 x1 y1 : Nat} (hx1 : x1 < 1024) (K : Int32 → Int32 → Option Int32) (y : Nat) (hK : ∀ v, ∃ r, K v (nI (y + 1)) = some r) : ∀ d x, x1 + 1 ≤ x + d → x < 1000000 → ∀ fu, d < fu → ∀ v, ∃ r, jB_patchCells_25 h b (nI x0) (nI x1) (nI y1) K fu v (nI y) (nI x) = some r := by
  have eK : ∀ v, ∃ r, K v (nI y + 1) = some r := fun v => by rw [show nI y + 1 = nI (y + 1) from nI_add y 1]; exact hK v
  intro d
  induction d with
  | zero =>
    intro x hx hx2 fu hf v
    obtain ⟨f, rfl⟩ : ∃ f, fu = f + 1 := ⟨fu - 1, by omega⟩
    rw [jB_patchCells_25, if_neg (fun z => by have := (nI_leI (by omega) (by omega)).1 z; omega)]
    exact eK v
  | succ d ih =>
    intro x hx hx2 fu hf v
    obtain ⟨f, rfl⟩ : ∃ f, fu = f + 1 := ⟨fu - 1, by omega⟩
    rw [jB_patchCells_25]
    by_cases h1 : x ≤ x1
    · rw [if_pos ((nI_leI (by omega) (by omega)).2 h1), jB_cellAt, obind, show nI x + 1 = nI (x + 1) from nI_add x 1]
      split
      · exact ih (x + 1) (by omega) (by omega) f (by omega) _
      · exact eK v
    · rw [if_neg (fun z => h1 ((nI_leI (by omega) (by omega)).1 z))]
      exact eK v
theorem pc_tot {x0 y0 x1 y1 : Nat} (hx0 : x0 < 1024) (hx1 : x1 < 1024) (hy0 : y0 < 1024) (hy1 : y1 < 1024) : ∃ r, jB_patchCells h b (nI x0) (nI y0) (nI x1) (nI y1) = some r := by
  have out : ∀ d y, y1 + 1 ≤ y + d → y < 1000000 → ∀ fu, d < fu → ∀ v, ∃ r, jB_patchCells_6 h b (nI x0) (nI x1) (nI y1) fu v (nI y) = some r := by
    intro d
    induction d with
    | zero =>
      intro y hy hy2 fu hf v
      obtain ⟨f, rfl⟩ : ∃ f, fu = f + 1 := ⟨fu - 1, by omega⟩
      exact ⟨v, by rw [jB_patchCells_6, if_neg (fun z => by have := (nI_leI (by omega) (by omega)).1 z; omega)]⟩
    | succ d ih =>
      intro y hy hy2 fu hf v
      obtain ⟨f, rfl⟩ : ∃ f, fu = f + 1 := ⟨fu - 1, by omega⟩
      rw [jB_patchCells_6]
      by_cases h1 : y ≤ y1
      · rw [if_pos ((nI_leI (by omega) (by omega)).2 h1)]
        split
        · exact pc_in hx1 _ y (fun v => ih (y + 1) (by omega) (by omega) f (by omega) v) (x1 + 1) x0 (by omega) (by omega) FU (by unfold FU; omega) v
        · exact ⟨v, rfl⟩
      · exact ⟨v, by rw [if_neg (fun z => h1 ((nI_leI (by omega) (by omega)).1 z))]⟩
  exact out (y1 + 1) y0 (by omega) (by omega) FU (by unfold FU; omega) 0
end
/-- readCorners where all has failed -/
theorem bad_corners {h : AH} {n : Nat} (B : Bad h n) : ∃ u, jR_readCorners h = some (u, adH (adH (adH (adH (adH (adH (adH h))))))) := by
  have B1 := bad_a B
  have B2 := bad_a B1
  have B3 := bad_a B2
  have B4 := bad_a B3
  have B5 := bad_a B4
  have B6 := bad_a B5
  obtain ⟨r, hr⟩ := pc_tot (h := adH (adH (adH (adH (adH (adH (adH h))))))) (b := (gB (adH (adH (adH (adH (adH (adH (adH h))))))) 2).toNat) (x0 := 0) (y0 := 0) (x1 := 0) (y1 := 0) (by decide) (by decide) (by decide) (by decide)
  refine ⟨r, ?_⟩
  rw [jR_readCorners, bad_whole B, obind, bad_comma B1, obind, bad_whole B2, obind, bad_word B3, obind, bad_whole B4, obind, bad_comma B5, obind, bad_whole B6, obind, show jB_patchCells (adH (adH (adH (adH (adH (adH (adH h))))))) (gB (adH (adH (adH (adH (adH (adH (adH h))))))) 2).toNat 0 0 0 0 = some r from hr, obind]
def FmT (h h' : AH) : Prop := ∀ k i j, ¬ (k = 32 ∧ (4 ≤ j ∧ j ≤ 10 ∨ j = 13 ∨ 24 ≤ j ∧ j ≤ 27)) → k ≠ 34 → gI h' k i j = gI h k i j
theorem FmT.trans {x y z : AH} (h1 : FmT x y) (h2 : FmT y z) : FmT x z := fun k i j a c => (h2 k i j a c).trans (h1 k i j a c)
theorem FmR.t {x y : AH} (h : FmR x y) : FmT x y := fun k i j a b => h.1 k i j (by omega) b
theorem FmT_u {j : Nat} {h : AH} {v : Int32} (hj : 24 ≤ j ∧ j ≤ 27) : FmT h (uI h 32 0 j v) := fun a c d x y => gI_uI_n (fun r => by obtain ⟨rfl, rfl, rfl⟩ := r; omega)
theorem FmT.s {x y : AH} (h : FmT x y) : FmS x y := fun k i j a b c d => h k i j a b
theorem u_sm {a b x : Nat} {u v : Int32} {ok ok' : Bool} (h1 : ok' = true → ok = true ∧ a ≤ x ∧ x ≤ b ∧ u = nI x ∧ v = nI x) (h2 : ok' = false → u = nI 0) (hb : ok = true → b < 1024) : ∃ y, y < 1024 ∧ u = nI y ∧ (ok' = true → y = x) := by
  cases ok' with
  | true =>
    obtain ⟨o, _, c, d, _⟩ := h1 rfl
    exact ⟨x, by have := hb o; omega, d, fun _ => rfl⟩
  | false => exact ⟨0, by decide, h2 rfl, fun z => absurd z (by decide)⟩
/-- readCorners against cells -/
theorem p_corners {hc hm : AH} {T R : Nat → Nat} {L n i : Nat} (hb : ∀ i, T i < 256) (hL : L ≤ 900) (G : RG hc hm T L n i) (e0 : gI hc 3 (gB hc 2).toNat 0 = nI (R 0)) (e1 : gI hc 3 (gB hc 2).toNat 1 = nI (R 1)) (m0 : gI hm 36 0 0 = nI (R 0)) (m1 : gI hm 36 0 1 = nI (R 1)) (r0 : 1 ≤ R 0 ∧ R 0 ≤ 6) (r1 : 1 ≤ R 1 ∧ R 1 ≤ 4) : ∃ hc' hm' u ok, jR_readCorners hc = some (u, hc') ∧ jM_cells hm = some hm' ∧ FcR hc hc' ∧ FmT hm hm' ∧ St hc' hm' T L n ok (i + 7) ∧ (ok = true → ∃ x0 y0 x1 y1, x0 ≤ x1 ∧ x1 < R 0 ∧ y0 ≤ y1 ∧ y1 < R 1 ∧ u = nI (bM (inr (R 0) x0 y0 x1 y1) (nC R)) ∧ gI hm' 32 0 24 = nI x0 ∧ gI hm' 32 0 25 = nI y0 ∧ gI hm' 32 0 26 = nI x1 ∧ gI hm' 32 0 27 = nI y1) := by
  have w1 : nI (R 0) - 1 = nI (R 0 - 1) := pk_sub r0.1
  have w2 : nI (R 1) - 1 = nI (R 1 - 1) := pk_sub r1.1
  -- the first number
  obtain ⟨c1, g1, u1, v1, k1, x0, a1, b1, F1, H1, S1, t1, z1⟩ := s_num (A := 0) (B := nI (R 0) - 1) (A' := 0) (B' := nI (R 0) - 1) 0 (R 0 - 1) hb hL (St_t G) (fun _ => ⟨rfl, w1, rfl, w1, by omega, by omega⟩)
  have S1' : St c1 (uI g1 32 0 24 v1) T L n k1 (i + 1) := St_m S1 (fun k i j hk => gI_uI_n (by omega))
  obtain ⟨c2, g2, k2, a2, b2, F2, H2, S2, t2⟩ := s_comma hb hL S1'
  obtain ⟨c3, g3, u3, v3, k3, y0, a3, b3, F3, H3, S3, t3, z3⟩ := s_num (A := 0) (B := nI (R 1) - 1) (A' := 0) (B' := nI (R 1) - 1) 0 (R 1 - 1) hb hL S2 (fun _ => ⟨rfl, w2, rfl, w2, by omega, by omega⟩)
  have S3' : St c3 (uI g3 32 0 25 v3) T L n k3 (i + 1 + 1 + 1) := St_m S3 (fun k i j hk => gI_uI_n (by omega))
  obtain ⟨c4, g4, k4, a4, b4, F4, H4, S4, t4⟩ := s_word (t := 13) hb hL S3' (by decide)
  have g4_24 : gI g4 32 0 24 = v1 := by
    rw [H4.1 32 0 24 (by omega) (by decide), gI_uI_n (by omega), H3.1 32 0 24 (by omega) (by decide), H2.1 32 0 24 (by omega) (by decide), gI_uI_s]
  obtain ⟨c5, g5, u5, v5, k5, x1, a5, b5, F5, H5, S5, t5, z5⟩ := s_num (A := u1) (B := nI (R 0) - 1) (A' := gI g4 32 0 24) (B' := nI (R 0) - 1) x0 (R 0 - 1) hb hL S4 (fun z => by
    have q := t1 (t2 (t3 (t4 z)).1)
    exact ⟨q.2.2.2.1, w1, g4_24.trans q.2.2.2.2, w1, by omega, by omega⟩)
  have S5' : St c5 (uI g5 32 0 26 v5) T L n k5 (i + 1 + 1 + 1 + 1 + 1) := St_m S5 (fun k i j hk => gI_uI_n (by omega))
  obtain ⟨c6, g6, k6, a6, b6, F6, H6, S6, t6⟩ := s_comma hb hL S5'
  have g6_25 : gI g6 32 0 25 = v3 := by
    rw [H6.1 32 0 25 (by omega) (by decide), gI_uI_n (by omega), H5.1 32 0 25 (by omega) (by decide), H4.1 32 0 25 (by omega) (by decide), gI_uI_s]
  have t36 : k6 = true → k3 = true := fun z => t4 (t5 (t6 z)).1
  obtain ⟨c7, g7, u7, v7, k7, y1, a7, b7, F7, H7, S7, t7, z7⟩ := s_num (A := u3) (B := nI (R 1) - 1) (A' := gI g6 32 0 25) (B' := nI (R 1) - 1) y0 (R 1 - 1) hb hL S6 (fun z => by
    have q := t3 (t36 z)
    exact ⟨q.2.2.2.1, w2, g6_25.trans q.2.2.2.2, w2, by omega, by omega⟩)
  have S7' : St c7 (uI g7 32 0 27 v7) T L n k7 (i + 7) := St_m S7 (fun k i j hk => gI_uI_n (by omega))
  have Fc4 : FcR hc c4 := ((F1.trans F2).trans F3).trans F4
  have Fc2 : FcR hc c2 := F1.trans F2
  have Fc6 : FcR hc c6 := (Fc4.trans F5).trans F6
  have Fc7 : FcR hc c7 := Fc6.trans F7
  have f0 : ∀ {c}, FcR hc c → gI c 3 (gB c 2).toNat 0 = nI (R 0) ∧ gI c 3 (gB c 2).toNat 1 = nI (R 1) := fun F => by
    rw [gB_r F]
    exact ⟨(F.1 3 _ 0 (by omega)).trans e0, (F.1 3 _ 1 (by omega)).trans e1⟩
  have M2 : FmT hm g2 := (H1.t.trans (FmT_u (by omega))).trans H2.t
  have M4 : FmT hm g4 := ((M2.trans H3.t).trans (FmT_u (by omega))).trans H4.t
  have M6 : FmT hm g6 := ((M4.trans H5.t).trans (FmT_u (by omega))).trans H6.t
  have M7 : FmT hm (uI g7 32 0 27 v7) := (M6.trans H7.t).trans (FmT_u (by omega))
  obtain ⟨p1, q1, r1', s1⟩ := u_sm t1 z1 (fun _ => by omega)
  obtain ⟨p3, q3, r3, s3⟩ := u_sm t3 z3 (fun _ => by omega)
  obtain ⟨p5, q5, r5, s5⟩ := u_sm t5 z5 (fun _ => by omega)
  obtain ⟨p7, q7, r7, s7⟩ := u_sm t7 z7 (fun _ => by omega)
  obtain ⟨r, hr⟩ : ∃ r, jB_patchCells c7 (gB c7 2).toNat u1 u3 u5 u7 = some r := by
    rw [r1', r3, r5, r7]
    exact pc_tot q1 q5 q3 q7
  refine ⟨c7, uI g7 32 0 27 v7, r, k7, ?_, ?_, Fc7, M7, S7', fun z => ?_⟩
  · rw [jR_readCorners, e0, a1, obind, a2, obind, (f0 Fc2).2, a3, obind, show (29807 : Int64) = lqI (pkW 13) from pkW_13, a4, obind, (f0 Fc4).1, a5, obind, a6, obind, (f0 Fc6).2, a7, obind, hr, obind]
  · rw [jM_cells, if_pos (by decide), show gI hm 36 0 (Int32.toNatClampNeg 0) = nI (R 0) from m0, b1, obind, jbn, b2, obind, if_pos (by decide), show gI g2 36 0 (Int32.toNatClampNeg 1) = nI (R 1) from (M2 36 0 1 (by omega) (by decide)).trans m1, b3, obind, jbn, b4, obind, if_pos (by decide), show gI g4 36 0 (Int32.toNatClampNeg 0) = nI (R 0) from (M4 36 0 0 (by omega) (by decide)).trans m0, b5, obind, jbn, b6, obind, if_pos (by decide), show gI g6 36 0 (Int32.toNatClampNeg 1) = nI (R 1) from (M6 36 0 1 (by omega) (by decide)).trans m1, b7, obind, jbn]
  · have d7 := t7 z
    have d3 := t3 (t36 d7.1)
    have d5 := t5 (t6 d7.1)
    have d1 := t1 (t2 d3.1)
    refine ⟨x0, y0, x1, y1, d5.2.1, by omega, d7.2.1, by omega, ?_, ?_, ?_, ?_, ?_⟩
    · have e := c_patch2 (f0 Fc7).1 (f0 Fc7).2 r0.2 r1.2 d5.2.1 (by omega) d7.2.1 (by omega)
      rw [d1.2.2.2.1, d3.2.2.2.1, d5.2.2.2.1, d7.2.2.2.1, e] at hr
      exact (Option.some.inj hr).symm
    · rw [gI_uI_n (by omega), H7.1 32 0 24 (by omega) (by decide), H6.1 32 0 24 (by omega) (by decide), gI_uI_n (by omega), H5.1 32 0 24 (by omega) (by decide), g4_24]
      exact d1.2.2.2.2
    · rw [gI_uI_n (by omega), H7.1 32 0 25 (by omega) (by decide), g6_25]
      exact d3.2.2.2.2
    · rw [gI_uI_n (by omega), H7.1 32 0 26 (by omega) (by decide), H6.1 32 0 26 (by omega) (by decide), gI_uI_s]
      exact d5.2.2.2.2
    · rw [gI_uI_s]
      exact d7.2.2.2.2
