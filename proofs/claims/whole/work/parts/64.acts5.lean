/-! ===== pure: thief, feed ===== -/
def thS (S : Nat → Nat) (y : Nat) : Nat → Nat → Nat
  | 0 => S
  | k + 1 => if yr S k ≤ y then thS S y k else paS (thS S y k) k (cel S k) 0
theorem thS_o {S : Nat → Nat} {y j : Nat} : ∀ k, ¬ (4 ≤ j ∧ j < 4 + 26 * k ∧ (j - 4) % 26 < 24) → thS S y k j = S j := by
  intro k
  induction k with
  | zero => intro _; rfl
  | succ k ih =>
    intro h
    unfold thS
    split
    · exact ih (by omega)
    · rw [paS_o (by omega)]
      exact ih (by omega)
theorem thS_hd {S : Nat → Nat} {y r : Nat} (k : Nat) : hd (thS S y k) r = hd S r := by
  unfold hd
  exact thS_o k (by omega)
theorem thS_yr {S : Nat → Nat} {y r : Nat} (k : Nat) : yr (thS S y k) r = yr S r := by
  unfold yr
  exact thS_o k (by omega)
theorem thS_0 {S : Nat → Nat} {y : Nat} (k : Nat) : thS S y k 0 = S 0 ∧ thS S y k 1 = S 1 := ⟨thS_o k (by omega), thS_o k (by omega)⟩
theorem thS_cel {S : Nat → Nat} {y r k : Nat} (h : k ≤ r) : cel (thS S y k) r = cel S r := by
  unfold cel pt
  refine bM_ext (fun q hq => ?_)
  rw [thS_o k (by omega)]
theorem thS_WkI {R S : Nat → Nat} {y : Nat} (WI : WkI R S) (I : BkI R) : ∀ k, k ≤ S 0 → WkI R (thS S y k) := by
  intro k
  induction k with
  | zero => intro _; exact WI
  | succ k ih =>
    intro hk
    unfold thS
    split
    · exact ih (by omega)
    · exact paS_WkI (ih (by omega)) (Nat.zero_le _) (cel_ltn WI I (by omega))
section C
variable {h : AH} {w : Nat} {R S : Nat → Nat}
theorem c_strip (W : WkC h w S) (WI : WkI R S) (I : BkI R) {y : Nat} (hy : y < 1000) : ∃ h', jW_stripLaterThan h w (nI y) = some h' ∧ FrK h h' w ∧ WkC h' w (thS S y (S 0)) := by
  have hw := WI.1
  unfold jW_stripLaterThan
  refine up_ind (P := fun fu k => ∀ g, FrK h g w → WkC g w (thS S y k) → ∃ h', jW_stripLaterThan_2 w (nI y) fu (nI k) g = some h' ∧ FrK h h' w ∧ WkC h' w (thS S y (S 0))) (S 0) (fun fu g F Wg => ?_) (fun fu k hk ih g F Wg => ?_) (S 0) 0 FU (by omega) (FU_lt (by omega)) h ⟨fun _ _ _ _ => rfl, rfl⟩ W
  · refine ⟨g, ?_, F, Wg⟩
    rw [jW_stripLaterThan_2, Wg.1, (thS_0 (S 0)).1]
    simp (disch := omega) only [nI_ltI, if_neg]
  · have WIk := thS_WkI (y := y) WI I k (by omega)
    have h00 := thS_0 (S := S) (y := y) k
    have hyk := (WI.2.2.2 k (by omega)).2.1
    rw [thS] at ih
    rw [jW_stripLaterThan_2, Wg.1, h00.1, c_yearOf Wg WIk (r := k) (by omega), thS_yr]
    simp (disch := omega) only [litI, nI_ltI, if_pos, obind, nI_leI, nI_add]
    by_cases hyy : yr S k ≤ y
    · rw [if_pos hyy]
      rw [if_pos hyy] at ih
      exact ih g F Wg
    · rw [if_neg hyy, c_cellsOf Wg WIk I (r := k) (by omega), obind, thS_cel (Nat.le_refl k), ← cv_0, c_lay (by omega) (cel_lt S k), obind]
      rw [if_neg hyy] at ih
      exact ih _ ⟨fun k' i j q => by rw [gI_aI_n (by omega)]; exact F.1 k' i j q, F.2⟩ (paS_WkC (R := R) Wg (by omega))
end C
section M
variable {h : AH} {R S : Nat → Nat}
theorem m_thief38 (MR : MoR h R) (MS : MoS h S) (WI : WkI R S) (I : BkI R) {y : Nat} (hy : y < 1000) : jM_thief_38 (nI y) FU (nI 0) (nI 0) h = jM_thief_75 (nI y) (nI (ltr S y (S 0))) h := by
  have hw := WI.1
  refine up_ind (P := fun fu k => jM_thief_38 (nI y) fu (nI (ltr S y k)) (nI k) h = jM_thief_75 (nI y) (nI (ltr S y (S 0))) h) (S 0) (fun fu => ?_) (fun fu k hk ih => ?_) (S 0) 0 FU (by omega) (FU_lt (by omega))
  · rw [jM_thief_38]
    simp (disch := omega) only [litI, inb_nI, nI_clamp, MS 0, if_true, nI_ltI, if_neg]
  · have hyk := (WI.2.2.2 k (by omega)).2.1
    rw [ltr] at ih
    rw [jM_thief_38]
    simp (disch := omega) only [litI, inb_nI, nI_clamp, MS 0, if_true, nI_ltI, if_pos, m_yearOf MS (w := k), m_painted MR MS WI I (r := k), obind, nI_leI, nI_or, nI_add, Nat.or_zero]
    by_cases hyy : yr S k ≤ y
    · rw [if_pos hyy]; rw [if_pos hyy] at ih; exact ih
    · rw [if_neg hyy]; rw [if_neg hyy] at ih; exact ih
/-- the model strips the rows -/
theorem m_thief92 {S0 : Nat → Nat} {y v : Nat} (hn : S0 0 ≤ 12) (hyb : ∀ k, k < S0 0 → yr S0 k ≤ 999) (hy : y < 1000) (MS : MoS h S0) : ∃ g, (∀ k i j, ¬ (k = 37 ∧ i = 0) → gI g k i j = gI h k i j) ∧ g.2 = h.2 ∧ MoS g (thS S0 y (S0 0)) ∧ jM_thief_92 (nI y) FU (nI v) (nI 0) h = (jM_did g).bind fun q1 => (jM_bits (nI v)).bind fun r2 => some (r2, q1.2) := by
  refine up_ind (P := fun fu k => ∀ g0, (∀ k i j, ¬ (k = 37 ∧ i = 0) → gI g0 k i j = gI h k i j) ∧ g0.2 = h.2 ∧ MoS g0 (thS S0 y k) → ∃ g, (∀ k i j, ¬ (k = 37 ∧ i = 0) → gI g k i j = gI h k i j) ∧ g.2 = h.2 ∧ MoS g (thS S0 y (S0 0)) ∧ jM_thief_92 (nI y) fu (nI v) (nI k) g0 = (jM_did g).bind fun q1 => (jM_bits (nI v)).bind fun r2 => some (r2, q1.2)) (S0 0) (fun fu g0 F => ?_) (fun fu k hk ih g0 F => ?_) (S0 0) 0 FU (by omega) (FU_lt (by omega)) h ⟨fun _ _ _ _ => rfl, rfl, MS⟩
  · refine ⟨g0, F.1, F.2.1, F.2.2, ?_⟩
    rw [jM_thief_92]
    simp (disch := omega) only [litI, inb_nI, nI_clamp, F.2.2 0, (thS_0 (S0 0)).1, if_true, nI_ltI, if_neg]
  · have hyk := hyb k hk
    have hinner : ∃ g1, (∀ k i j, ¬ (k = 37 ∧ i = 0) → gI g1 k i j = gI h k i j) ∧ g1.2 = h.2 ∧ MoS g1 (thS S0 y (k + 1)) ∧ ∀ K, jM_thief_105 (nI y) K FU (nI v) (nI k) (nI 0) g0 = K (nI v) (nI (k + 1)) g1 := by
      by_cases hyy : yr S0 k ≤ y
      · refine ⟨g0, F.1, F.2.1, ?_, fun K => ?_⟩
        · rw [thS, if_pos hyy]; exact F.2.2
        · rw [show FU = 9999 + 1 from rfl, jM_thief_105]
          simp (disch := omega) only [litI, nI_ltI, if_pos, m_yearOf F.2.2 (w := k), thS_yr, obind, nI_leI, nI_add]
      · refine ⟨aI g0 37 0 (fun j => if 4 + 26 * k ≤ j ∧ j < 4 + 26 * k + 24 then nI 0 else gI g0 37 0 j), fun k' i j q => by rw [gI_aI_n q]; exact F.1 k' i j q, F.2.1, ?_, fun K => ?_⟩
        · rw [thS, if_neg hyy]
          intro i hi
          rw [gI_aI_s]
          by_cases hq : 4 + 26 * k ≤ i ∧ i < 4 + 26 * k + 24
          · rw [if_pos hq]
            obtain ⟨q, rfl⟩ : ∃ q, i = 4 + 26 * k + q := ⟨i - (4 + 26 * k), by omega⟩
            rw [paS_c (by omega)]
            by_cases hb : (cel S0 k).testBit q = true
            · rw [if_pos hb]
            · rw [if_neg hb, thS_o k (by omega)]
              unfold cel at hb
              rw [bM_tb] at hb
              simp only [show q < 24 by omega, decide_true, Bool.true_and, decide_eq_true_eq, ne_eq, Decidable.not_not] at hb
              unfold pt at hb
              rw [hb]
          · rw [if_neg hq, paS_o (by omega)]
            exact F.2.2 i hi
        · have hy2 : ∀ c, jM_yearOf (aI g0 37 0 (fun j => if 4 + 26 * k ≤ j ∧ j < 4 + 26 * k + c then nI 0 else gI g0 37 0 j)) (nI k) = some (nI (yr S0 k)) := by
            intro c
            have hg := MS_yr F.2.2 (w := k) (by omega)
            rw [thS_yr] at hg
            unfold jM_yearOf
            simp (disch := omega) only [litI, pk_mul, nI_add, inb_nI, nI_clamp, if_true]
            rw [gI_aI_s, if_neg (by omega), hg]
          have key := up_ind (P := fun fu c => jM_thief_105 (nI y) K fu (nI v) (nI k) (nI c) (aI g0 37 0 (fun j => if 4 + 26 * k ≤ j ∧ j < 4 + 26 * k + c then nI 0 else gI g0 37 0 j)) = K (nI v) (nI (k + 1)) (aI g0 37 0 (fun j => if 4 + 26 * k ≤ j ∧ j < 4 + 26 * k + 24 then nI 0 else gI g0 37 0 j))) 24 (fun fu => ?_) (fun fu c hc ih => ?_) 24 0 FU rfl (by decide)
          · rw [aI_id (fun c => if_neg (by omega))] at key
            exact key
          · rw [jM_thief_105]
            simp (disch := omega) only [litI, nI_ltI, if_neg, nI_add]
          · rw [jM_thief_105, hy2 c]
            simp (disch := omega) only [litI, nI_ltI, if_pos, obind, nI_leI, if_neg, pk_mul, nI_add, inb_nI, nI_clamp, if_true, jbn]
            rw [uI_aI]
            rw [aI_ext (g := fun j => if 4 + 26 * k ≤ j ∧ j < 4 + 26 * k + (c + 1) then nI 0 else gI g0 37 0 j) (fun j => ?_)]
            · exact ih
            · by_cases hj : j = 2 + 26 * k + 2 + c
              · rw [if_pos hj, if_pos (by omega)]
              · rw [if_neg hj]
                by_cases hj2 : 4 + 26 * k ≤ j ∧ j < 4 + 26 * k + c
                · rw [if_pos hj2, if_pos (by omega)]
                · rw [if_neg hj2, if_neg (by omega)]
    obtain ⟨g1, f1, f2, f3, f4⟩ := hinner
    obtain ⟨g, q1, q2, q3, q4⟩ := ih g1 ⟨f1, f2, f3⟩
    refine ⟨g, q1, q2, q3, ?_⟩
    rw [jM_thief_92]
    simp (disch := omega) only [litI, inb_nI, nI_clamp, F.2.2 0, (thS_0 k).1, if_true, nI_ltI, if_pos]
    rw [f4]
    exact q4
end M
theorem op_thief : so_thief Rel := by
  intro hc hm hr a
  obtain ⟨R, S, U, K, T, tp, un, im, nx, fa, tr, pl, V, A, C, M, htr, h10, h11, h4⟩ := hr
  have I := V.1; have WI := V.2.1; have B := A.1; have W := A.2.1; have MR := M.1; have MS := M.2.1; have hb := M.2.2.2.2.2.2.2.2; have MR1 := (MA_G M).1; have MS1 := (MA_G M).2.1; have hb1 := (MA_G M).2.2.2.2.2.2.2.2; have hR := Rsm I; have hw := WI.1
  by_cases h0 : R 0 = 0
  · refine ⟨-nI 1, cX hc 1, mX (mG hm) 1, ?_, ?_, RelX V A C (MA_G M) (by omega)⟩
    · unfold jX_thief
      simp (disch := omega) only [litI, obind, nI_eq, if_true, if_false, if_neg, if_pos, c_accept, c_refuse, c_deny, c_grant, m_good, m_no, m_isNot, isTold_R B I, hbk_0 h0]
    · unfold jM_thief
      simp (disch := omega) only [litI, obind, nI_eq, if_true, if_false, if_neg, if_pos, c_accept, c_refuse, c_deny, c_grant, m_good, m_no, m_isNot, hb1, hbk_0 h0]
  · by_cases hyr : inN a 1000
    · obtain ⟨y, hy, rfl⟩ := hyr
      have hlt := ltr_lt S y (S 0)
      by_cases hz : ltr S y (S 0) = 0
      · refine ⟨-nI 1, cX hc 6, mX (mG hm) 6, ?_, ?_, RelX V A C (MA_G M) (by omega)⟩
        · unfold jX_thief
          simp (disch := omega) only [litI, obind, nI_eq, if_true, if_false, if_neg, if_pos, c_accept, c_refuse, c_deny, c_grant, m_good, m_no, m_isNot, isTold_R B I, hbk_1 h0, c_isYear_t hy, c_cellsLaterThan W WI I (y := y), hz]
        · unfold jM_thief
          simp (disch := omega) only [litI, obind, nI_eq, if_true, if_false, if_neg, if_pos, c_accept, c_refuse, c_deny, c_grant, m_good, m_no, m_isNot, hb1, hbk_1 h0, m_within_t, m_thief38 MR1 MS1 WI I hy]
          unfold jM_thief_75
          simp (disch := omega) only [litI, obind, nI_eq, if_true, if_false, if_neg, if_pos, c_accept, c_refuse, c_deny, c_grant, m_good, m_no, m_isNot, hz]
      · obtain ⟨h2, e1, eB, A2, C2⟩ := c_keep V A C
        obtain ⟨g1, n0, n1, -, n2⟩ := m_note (MA_G M)
        have hMS1 : MoS g1 S := fun i hi => (n1 37 0 i (by omega)).trans (MS1 i hi)
        obtain ⟨h3, e2, F3, W3⟩ := c_strip A2.2.1 WI I hy
        obtain ⟨g2, s1, s2, s3, s4⟩ := m_thief92 (h := g1) (S0 := S) (v := ltr S y (S 0)) (by omega) (fun k hk => (WI.2.2.2 k (by omega)).2.1) hy hMS1
        obtain ⟨g3, d1, M3, d11⟩ := m_act (S' := thS S y (S 0)) (g2 := g2) (MA_G M) V.2.2.2.2.1.2.1 n1 n2 (fun k i j q1 q2 => s1 k i j q1) s3
        have A3 : CA h3 R (thS S y (S 0)) (psh U S un) K T tp (un1 un) im ((nx + 1) % 8) fa := CA_S A2 (fun k i j q1 q2 q3 => F3.1 k i j q1) (by rw [F3.2]) W3
        refine ⟨nI (bP (ltr S y (S 0)) 24), cX h3 0, g3, ?_, ?_, RelM (Inv_act V (thS_WkI WI I _ (Nat.le_refl _)) h0) (CA_X A3) (Cch_X (Cch_of C2 (fun k i j hk => F3.1 k i j (by omega)))) M3 cX_10 (d11.trans mG_11) (by omega)⟩
        · unfold jX_thief
          simp (disch := omega) only [litI, obind, nI_eq, if_true, if_false, if_neg, if_pos, c_accept, c_refuse, c_deny, c_grant, m_good, m_no, m_isNot, isTold_R B I, hbk_1 h0, c_isYear_t hy, c_cellsLaterThan W WI I (y := y), e1, e2]
          rw [c_bitCount hlt, obind]
        · unfold jM_thief
          simp (disch := omega) only [litI, obind, nI_eq, if_true, if_false, if_neg, if_pos, c_accept, c_refuse, c_deny, c_grant, m_good, m_no, m_isNot, hb1, hbk_1 h0, m_within_t, m_thief38 MR1 MS1 WI I hy]
          unfold jM_thief_75
          simp (disch := omega) only [litI, nI_eq, if_neg, n0, obind]
          rw [s4, d1, obind, m_bits (by omega), obind]
    · refine ⟨-nI 1, cX hc 2, mX (mG hm) 2, ?_, ?_, RelX V A C (MA_G M) (by omega)⟩
      · unfold jX_thief
        simp (disch := omega) only [litI, obind, nI_eq, if_true, if_false, if_neg, if_pos, c_accept, c_refuse, c_deny, c_grant, m_good, m_no, m_isNot, isTold_R B I, hbk_1 h0, c_isYear_f hyr]
      · unfold jM_thief
        simp (disch := omega) only [litI, obind, nI_eq, if_true, if_false, if_neg, if_pos, c_accept, c_refuse, c_deny, c_grant, m_good, m_no, m_isNot, hb1, hbk_1 h0, m_within_f (b := 999) (by omega) hyr]
