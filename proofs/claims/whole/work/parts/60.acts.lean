/-! ===== pure: acts: rows written ===== -/
theorem c_start {h : AH} {w n a y : Nat} (hn : gI h 13 w 0 = nI n) (h12 : n < 12) : jW_start h w (nI a) (nI y) = some (aI (uI (uI h 14 w n (nI a)) 15 w n (nI y)) 16 w (fun j => if n * 24 ≤ j ∧ j < n * 24 + 24 then -nI 2 else gI h 16 w j)) := by
  unfold jW_start
  rw [hn]
  simp (disch := omega) only [litI, nI_ltI, Nat.not_lt_zero, if_false, if_pos, inb_nI, nI_clamp, jbn, if_true]
  rw [gI_uI_n (by omega), hn]
  simp (disch := omega) only [inb_nI, nI_clamp, if_true]
  have key := up_ind (P := fun fu k => jW_start_38 w fu (nI k) (aI (uI (uI h 14 w n (nI a)) 15 w n (nI y)) 16 w (fun j => if n * 24 ≤ j ∧ j < n * 24 + k then -nI 2 else gI h 16 w j)) = some (aI (uI (uI h 14 w n (nI a)) 15 w n (nI y)) 16 w (fun j => if n * 24 ≤ j ∧ j < n * 24 + 24 then -nI 2 else gI h 16 w j))) 24 (fun fu => ?_) (fun fu k hk ih => ?_) 24 0 FU rfl (by decide)
  · rw [aI_id (fun c => by rw [if_neg (by omega), gI_uI_n (by omega), gI_uI_n (by omega)])] at key
    exact key
  · rw [jW_start_38]
    simp (disch := omega) only [litI, nI_ltI, if_neg]
  · rw [jW_start_38, gI_aI_n (by omega), gI_uI_n (by omega), gI_uI_n (by omega), hn]
    simp (disch := omega) only [litI, nI_ltI, if_pos, pk_mul, nI_add, inb_nI, nI_clamp, if_true, jbn]
    rw [uI_aI]
    rw [aI_ext (g := fun j => if n * 24 ≤ j ∧ j < n * 24 + (k + 1) then -nI 2 else gI h 16 w j) (fun c => ?_)]
    · exact ih
    · by_cases hc : c = n * 24 + k
      · rw [if_pos hc, if_pos (by omega)]
      · rw [if_neg hc]
        by_cases hc2 : n * 24 ≤ c ∧ c < n * 24 + k
        · rw [if_pos hc2, if_pos (by omega)]
        · rw [if_neg hc2, if_neg (by omega)]
def lyA (h : AH) (w r m : Nat) (v : Int32) (k : Nat) : Nat → Int32 := fun j => if r * 24 ≤ j ∧ j < r * 24 + k ∧ m.testBit (j - r * 24) = true then v else gI h 16 w j
theorem c_lay {h : AH} {w r m : Nat} {v : Int32} (hr : r < 12) (hm : m < 2 ^ 24) : jW_lay h w (nI r) v (nI m) = some (aI h 16 w (lyA h w r m v 24)) := by
  unfold jW_lay
  have hrow : jW_isRow (nI r) = some (nI 1) := by
    unfold jW_isRow
    simp (disch := omega) only [litI, jbn, inb_nI, nI_clamp, nI_add, pk_sub, pk_mul, nI_and, nI_or, and31, sh1, nI_dif, nI_bit, nI_shr, nI_eq, nI_ltI, nI_leI, nI_eq_neg, neg_eq_nI, neg_eq_neg, neg_lt_nI, nI_lt_neg, neg_le_nI, nI_le_neg, cv_eq2, nI_tn0, nI_tn1, obind, if_pos, if_neg, Nat.not_lt_zero, eq_self, if_true, if_false, Nat.zero_le, Nat.add_sub_cancel, nI_m1, nI_dn]
  have key := up_ind (P := fun fu k => jW_lay_3 w (nI r) v (nI m) fu (nI k) (aI h 16 w (lyA h w r m v k)) = some (aI h 16 w (lyA h w r m v 24))) 24 (fun fu => ?_) (fun fu k hk ih => ?_) 24 0 FU rfl (by decide)
  · rw [aI_id (f := lyA h w r m v 0) (fun c => by unfold lyA; rw [if_neg (by omega)])] at key
    exact key
  · rw [jW_lay_3]
    simp (disch := omega) only [litI, nI_ltI, if_neg]
  · rw [jW_lay_3, hrow]
    simp (disch := omega) only [litI, nI_ltI, if_pos, obind, nI_eq, if_neg, and31, nI_and, nI_shr, sh1, nI_tn0, nI_add, pk_mul, inb_nI, nI_clamp, if_true, jbn]
    cases hb : m.testBit k
    · rw [if_pos rfl]
      rw [aI_ext (g := lyA h w r m v k) (fun c => ?_)] at ih
      · exact ih
      · unfold lyA
        by_cases hc : c = r * 24 + k
        · rw [if_neg, if_neg (by omega)]
          rintro ⟨_, _, q⟩
          rw [show c - r * 24 = k by omega, hb] at q
          cases q
        · by_cases hc2 : r * 24 ≤ c ∧ c < r * 24 + k ∧ m.testBit (c - r * 24) = true
          · rw [if_pos hc2, if_pos ⟨hc2.1, by omega, hc2.2.2⟩]
          · rw [if_neg hc2, if_neg (fun z => hc2 ⟨z.1, by omega, z.2.2⟩)]
    · rw [if_neg (by decide), uI_aI]
      rw [aI_ext (g := fun c => if c = r * 24 + k then v else lyA h w r m v k c) (fun c => ?_)] at ih
      · exact ih
      · unfold lyA
        by_cases hc : c = r * 24 + k
        · rw [if_pos hc, if_pos ⟨by omega, by omega, by rw [show c - r * 24 = k by omega]; exact hb⟩]
        · rw [if_neg hc]
          by_cases hc2 : r * 24 ≤ c ∧ c < r * 24 + k ∧ m.testBit (c - r * 24) = true
          · rw [if_pos hc2, if_pos ⟨hc2.1, by omega, hc2.2.2⟩]
          · rw [if_neg hc2, if_neg (fun z => hc2 ⟨z.1, by omega, z.2.2⟩)]
/-- the model's row with a patch -/
def flA (h : AH) (k1 base Q c : Nat) : Nat → Int32 := fun j => if base ≤ j ∧ j < base + 24 ∧ Q.testBit (j - base) = true then nI (c + 1) else gI h k1 0 j
theorem flA_step {h : AH} {k1 base Q c i : Nat} (hi : i < 24) : uI (aI h k1 0 (flA h k1 base Q c)) k1 0 (base + i) (nI (c + 1)) = aI h k1 0 (flA h k1 base (Q ||| 2 ^ i) c) := by
  rw [uI_aI]
  refine aI_ext (fun j => ?_)
  unfold flA
  by_cases hj : j = base + i
  · rw [if_pos hj, if_pos ⟨by omega, by omega, by rw [show j - base = i by omega]; exact bit_has _ _⟩]
  · rw [if_neg hj]
    by_cases hq : base ≤ j ∧ j < base + 24 ∧ Q.testBit (j - base) = true
    · rw [if_pos hq, if_pos ⟨hq.1, hq.2.1, by rw [Nat.testBit_or, hq.2.2]; rfl⟩]
    · rw [if_neg hq, if_neg]
      rintro ⟨z1, z2, z3⟩
      rw [Nat.testBit_or, Bool.or_eq_true] at z3
      rcases z3 with z3 | z3
      · exact hq ⟨z1, z2, z3⟩
      · have := pow_tb.mp z3
        omega
theorem m_fill {h : AH} {k1 base c wi x0 y0 x1 y1 N NN : Nat} (hk : k1 ≠ 32) (hN : asz k1 = NN) (hb : base + 24 ≤ NN) (hNN : NN < 3000) (hc : c < 100) (h1 : 1 ≤ wi) (h2 : wi ≤ 6) (hx : x0 ≤ x1) (hx1 : x1 < wi) (hy : y0 ≤ y1) (hy1 : wi * (y1 + 1) ≤ N) (hN24 : N ≤ 24) (g24 : gI h 32 0 24 = nI x0) (g25 : gI h 32 0 25 = nI y0) (g26 : gI h 32 0 26 = nI x1) (g27 : gI h 32 0 27 = nI y1) : jM_fill h k1 (nI base) (nI c) (nI wi) = some (aI h k1 0 (flA h k1 base (bM (inr wi x0 y0 x1 y1) N) c)) := by
  have hwy : ∀ y, y ≤ y1 → wi * y + wi ≤ N := fun y hy2 => by
    have := Nat.mul_le_mul (Nat.le_refl wi) (show y + 1 ≤ y1 + 1 by omega)
    rw [Nat.mul_add, Nat.mul_one] at this
    omega
  have hy24 : y1 < 24 := by
    have := Nat.mul_le_mul h1 (Nat.le_refl (y1 + 1))
    omega
  unfold jM_fill
  rw [g25]
  have inner : ∀ (K : Int32 → AH → Option AH) y, y0 ≤ y → y ≤ y1 → jM_fill_21 k1 (nI base) (nI c) (nI wi) K FU (nI y) (nI x0) (aI h k1 0 (flA h k1 base (bM (prt wi x0 x1 y0 y x0) N) c)) = K (nI (y + 1)) (aI h k1 0 (flA h k1 base (bM (prt wi x0 x1 y0 (y + 1) x0) N) c)) := by
    intro K y hya hyb
    refine up_ind (P := fun fu x => x0 ≤ x → jM_fill_21 k1 (nI base) (nI c) (nI wi) K fu (nI y) (nI x) (aI h k1 0 (flA h k1 base (bM (prt wi x0 x1 y0 y x) N) c)) = K (nI (y + 1)) (aI h k1 0 (flA h k1 base (bM (prt wi x0 x1 y0 (y + 1) x0) N) c))) (x1 + 1) (fun fu _ => ?_) (fun fu x hxk ih hxa => ?_) (x1 + 1 - x0) x0 FU (by omega) (FU_lt (by omega)) (Nat.le_refl _)
    · rw [jM_fill_21, gI_aI_n (by omega), g26]
      simp (disch := omega) only [litI, nI_leI, if_neg, nI_add]
      rw [prt_y h1 h2 hx hya]
    · have hw := hwy y hyb
      have ih := ih (by omega)
      rw [prt_x h1 h2 hxa (by omega) (by omega) hya (by omega)] at ih
      rw [jM_fill_21, gI_aI_n (by omega), g26, hN]
      simp (disch := omega) only [litI, nI_leI, if_pos, pk_mul, nI_add, inb_nI, nI_clamp, if_true, jbn]
      rw [show base + wi * y + x = base + (wi * y + x) by omega, flA_step (by omega)]
      exact ih
  have key := up_ind (P := fun fu y => y0 ≤ y → jM_fill_6 k1 (nI base) (nI c) (nI wi) fu (nI y) (aI h k1 0 (flA h k1 base (bM (prt wi x0 x1 y0 y x0) N) c)) = some (aI h k1 0 (flA h k1 base (bM (inr wi x0 y0 x1 y1) N) c))) (y1 + 1) (fun fu _ => ?_) (fun fu y hyk ih hya => ?_) (y1 + 1 - y0) y0 FU (by omega) (FU_lt (by omega)) (Nat.le_refl _)
  · rw [prt_0, aI_id (f := flA h k1 base 0 c) (fun j => by unfold flA; rw [if_neg (fun z => by rw [Nat.zero_testBit] at z; exact absurd z.2.2 (by decide))])] at key
    exact key
  · rw [jM_fill_6, gI_aI_n (by omega), g27]
    simp (disch := omega) only [litI, nI_leI, if_neg]
    rw [prt_e hx]
  · rw [jM_fill_6, gI_aI_n (by omega), g27, gI_aI_n (by omega), g24]
    simp (disch := omega) only [litI, nI_leI, if_pos]
    rw [inner _ y hya (by omega)]
    exact ih (by omega)
section A
variable {hc hm : AH} {R S U K T : Nat → Nat} {tp un im nx fa : Nat}
theorem Inv_act {S' : Nat → Nat} (V : Inv R S U K T tp un im nx fa) (W' : WkI R S') (h0 : R 0 ≠ 0) : Inv R S' (psh U S un) K T tp (un1 un) im ((nx + 1) % 8) fa := by
  obtain ⟨v1, v2, v3, v4, v5, v6, v7⟩ := V
  refine ⟨v1, W', psh_WkI v5.2.1 v2 v3, v4, ⟨v5.1, ?_, v5.2.2.1, by omega, v5.2.2.2.2⟩, v6, fun z => absurd z h0⟩
  unfold un1
  split <;> omega
/-- the model: noted, the works written anew, done -/
theorem m_act {S' : Nat → Nat} {g1 g2 : AH} (A : MA hm R S U K T tp un im fa) (hun : un ≤ 8) (n1 : ∀ k i j, ¬ (k = 39 ∧ i = 0) → gI g1 k i j = gI hm k i j) (n2 : ∀ j, j < 340 → gI g1 39 0 j = nI (S j)) (w1 : ∀ k i j, ¬ (k = 37 ∧ i = 0) → ¬ (k = 32 ∧ 24 ≤ j ∧ j ≤ 27) → gI g2 k i j = gI g1 k i j) (w2 : MoS g2 S') : ∃ g3, jM_did g2 = some (nI 1, g3) ∧ MA g3 R S' (psh U S un) K T tp (un1 un) im fa ∧ gI g3 32 0 11 = gI hm 32 0 11 := by
  obtain ⟨a1, a2, a3, a4, a5, a6, a7, a8, a9⟩ := A
  have e : ∀ k i j, ¬ (k = 37 ∧ i = 0) → ¬ (k = 39 ∧ i = 0) → ¬ (k = 32 ∧ 24 ≤ j ∧ j ≤ 27) → gI g2 k i j = gI hm k i j := fun k i j q1 q2 q3 => (w1 k i j q1 q3).trans (n1 k i j q2)
  obtain ⟨g3, d1, d2, d3, d4, d5⟩ := m_did (h := g2) (U := U) (un := un) (S0 := S) (fun i hi => (e 40 0 i (by omega) (by omega) (by omega)).trans (a3 i hi)) ((e 32 0 22 (by omega) (by omega) (by omega)).trans a6) hun (fun j hj => (w1 39 0 j (by omega) (by omega)).trans (n2 j hj))
  have f : ∀ k i j, ¬ (k = 40 ∧ i = 0) → ¬ (k = 32 ∧ j = 22) → ¬ (k = 37 ∧ i = 0) → ¬ (k = 39 ∧ i = 0) → ¬ (k = 32 ∧ 24 ≤ j ∧ j ≤ 27) → gI g3 k i j = gI hm k i j := fun k i j q1 q2 q3 q4 q5 => (d2 k i j q1 q2).trans (e k i j q3 q4 q5)
  refine ⟨g3, d1, ⟨fun i hi => ?_, fun i hi => ?_, d4, fun i hi => ?_, ⟨?_, fun i hi => ?_⟩, d5, ?_, ?_, ?_⟩, ?_⟩
  · rw [f 35 0 i (by omega) (by omega) (by omega) (by omega) (by omega)]; exact a1 i hi
  · rw [d2 37 0 i (by omega) (by omega)]; exact w2 i hi
  · rw [f 41 0 i (by omega) (by omega) (by omega) (by omega) (by omega)]; exact a4 i hi
  · rw [f 32 0 2 (by omega) (by omega) (by omega) (by omega) (by omega)]; exact a5.1
  · rw [f 33 0 i (by omega) (by omega) (by omega) (by omega) (by omega)]; exact a5.2 i hi
  · rw [f 32 0 23 (by omega) (by omega) (by omega) (by omega) (by omega)]; exact a7
  · rw [f 32 0 9 (by omega) (by omega) (by omega) (by omega) (by omega)]; exact a8
  · rw [f 32 0 14 (by omega) (by omega) (by omega) (by omega) (by omega)]; exact a9
  · rw [f 32 0 11 (by omega) (by omega) (by omega) (by omega) (by omega)]
end A
theorem op_dry : so_dry Rel := by
  intro hc hm hr
  obtain ⟨R, S, U, K, T, tp, un, im, nx, fa, tr, pl, V, A, C, M, htr, h10, h11, h4⟩ := hr
  have I := V.1; have WI := V.2.1; have B := A.1; have W := A.2.1; have MR := M.1; have MS := M.2.1; have hb := M.2.2.2.2.2.2.2.2; have MR1 := (MA_G M).1; have MS1 := (MA_G M).2.1; have hb1 := (MA_G M).2.2.2.2.2.2.2.2; have hR := Rsm I; have hw := WI.1
  have hw1 := WI.2.1
  by_cases hwt : S 1 = 0
  · refine ⟨-nI 1, cX hc 6, mX (mG hm) 6, ?_, ?_, RelX V A C (MA_G M) (by omega)⟩
    · unfold jX_dry
      simp (disch := omega) only [litI, obind, nI_eq, if_true, if_false, if_neg, if_pos, c_accept, c_refuse, c_deny, c_grant, m_good, m_no, m_isNot, W.2.1]
    · unfold jM_dry
      simp (disch := omega) only [litI, obind, nI_eq, if_true, if_false, if_neg, if_pos, c_accept, c_refuse, c_deny, c_grant, m_good, m_no, m_isNot, hb1, inb_nI, nI_clamp, MS1 1]
      split <;> rfl
  · have h0 : R 0 ≠ 0 := fun z => by have := WI.2.2.1 z; omega
    have hj := jdg_le R S (S 0)
    by_cases hjz : jdg R S (S 0) = 0
    · obtain ⟨h2, e1, eB, A2, C2⟩ := c_keep V A C
      obtain ⟨g1, n0, n1, -, n2⟩ := m_note (MA_G M)
      have eb1 : gB h2 1 = gB hc 1 := by unfold gB; rw [eB]
      have WI' : WkI R (upn (upn S 1 0) 0 (S 0 + 1)) := by
        obtain ⟨w1, w2, w3, w4⟩ := WI
        unfold WkI hd yr pt at *
        rw [upn_s, upn_n (show (1 : Nat) ≠ 0 by omega), upn_s]
        refine ⟨by omega, by omega, fun z => absurd z h0, fun r hr => ?_⟩
        rw [upn_n (by omega), upn_n (by omega), upn_n (by omega), upn_n (by omega)]
        refine ⟨(w4 r (by omega)).1, (w4 r (by omega)).2.1, fun q hq => ?_⟩
        rw [upn_n (by omega), upn_n (by omega)]
        exact (w4 r (by omega)).2.2 q hq
      have V2 := Inv_act V WI' h0
      have MS3 : MoS (uI (uI g1 37 0 1 (nI 0)) 37 0 0 (nI (S 0 + 1))) (upn (upn S 1 0) 0 (S 0 + 1)) := by
        intro i hi
        by_cases hi0 : i = 0
        · rw [hi0, gI_uI_s, upn_s]
        · rw [gI_uI_n (by omega), upn_n hi0]
          by_cases hi1 : i = 1
          · rw [hi1, gI_uI_s, upn_s]
          · rw [gI_uI_n (by omega), upn_n hi1, n1 37 0 i (by omega)]
            exact MS1 i hi
      obtain ⟨g3, d1, M3, d11⟩ := m_act (S' := upn (upn S 1 0) 0 (S 0 + 1)) (g2 := uI (uI g1 37 0 1 (nI 0)) 37 0 0 (nI (S 0 + 1))) (MA_G M) V.2.2.2.2.1.2.1 n1 n2 (fun k i j q1 q2 => by rw [gI_uI_n (by omega), gI_uI_n (by omega)]) MS3
      have W2 := A2.2.1
      have A3 : CA (uI (uI h2 13 (gB h2 1).toNat 1 (nI 0)) 13 (gB h2 1).toNat 0 (nI (S 0 + 1))) R (upn (upn S 1 0) 0 (S 0 + 1)) (psh U S un) K T tp (un1 un) im ((nx + 1) % 8) fa := by
        refine CA_S A2 (fun k i j q1 q2 q3 => by rw [gI_uI_n (by omega), gI_uI_n (by omega)]) rfl ?_
        obtain ⟨a, b, c⟩ := W2
        unfold WkC hd yr pt at *
        rw [upn_s, upn_n (show (1 : Nat) ≠ 0 by omega), upn_s]
        refine ⟨gI_uI_s _ _ _ _ _, ?_, fun r hr => ?_⟩
        · rw [gI_uI_n (by omega), gI_uI_s]
        · rw [gI_uI_n (by omega), gI_uI_n (by omega), gI_uI_n (by omega), gI_uI_n (by omega), upn_n (by omega), upn_n (by omega), upn_n (by omega), upn_n (by omega)]
          refine ⟨(c r (by omega)).1, (c r (by omega)).2.1, fun q hq => ?_⟩
          rw [gI_uI_n (by omega), gI_uI_n (by omega), upn_n (by omega), upn_n (by omega)]
          exact (c r (by omega)).2.2 q hq
      refine ⟨nI (S 0), cX (uI (uI h2 13 (gB h2 1).toNat 1 (nI 0)) 13 (gB h2 1).toNat 0 (nI (S 0 + 1))) 0, g3, ?_, ?_, RelM V2 (CA_X A3) (Cch_X (Cch_of C2 (fun k i j hk => by rw [gI_uI_n (by omega), gI_uI_n (by omega)]))) M3 cX_10 (d11.trans mG_11) (by omega)⟩
      · unfold jX_dry
        rw [W.2.1, W.1]
        simp (disch := omega) only [litI, obind, nI_eq, if_true, if_false, if_neg, if_pos, c_accept, c_refuse, c_deny, c_grant, m_good, m_no, m_isNot, c_verdict B I W WI (r := S 0), hjz, e1, jbn]
        simp (disch := omega) only [gB_uI, gI_uI_n, gI_uI_s, W2.1, nI_add, pk_sub, Nat.add_sub_cancel]
      · unfold jM_dry
        simp (disch := omega) only [litI, obind, nI_eq, if_true, if_false, if_neg, if_pos, c_accept, c_refuse, c_deny, c_grant, m_good, m_no, m_isNot, hb1, hbk_1 h0, inb_nI, nI_clamp, MS1 1, MS1 0, m_judgedOf MR1 MS1 WI I (r := S 0), hjz, n0, jbn]
        rw [gI_uI_n (by omega), n1 37 0 0 (by omega), MS1 0 (by omega), nI_add, d1]
        simp (disch := omega) only [obind, M3.2.1 0, upn_s, pk_sub, Nat.add_sub_cancel]
    · refine ⟨-nI 1, cX hc 5, mX (mG hm) 5, ?_, ?_, RelX V A C (MA_G M) (by omega)⟩
      · unfold jX_dry
        rw [W.2.1, W.1]
        simp (disch := omega) only [litI, obind, nI_eq, if_true, if_false, if_neg, if_pos, c_accept, c_refuse, c_deny, c_grant, m_good, m_no, m_isNot, c_verdict B I W WI (r := S 0)]
      · unfold jM_dry
        simp (disch := omega) only [litI, obind, nI_eq, if_true, if_false, if_neg, if_pos, c_accept, c_refuse, c_deny, c_grant, m_good, m_no, m_isNot, hb1, hbk_1 h0, inb_nI, nI_clamp, MS1 1, MS1 0, m_judgedOf MR1 MS1 WI I (r := S 0)]
