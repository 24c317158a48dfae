/-! ===== pure: looking ahead, by the model ===== -/
theorem npt_full : ∀ wi, wi < 7 → ∀ hi, hi < 5 → 1 ≤ wi → 1 ≤ hi → npt wi 24 (2 ^ (wi * hi) - 1) = 1 := by decide +kernel
theorem lawK_0 {R : Nat → Nat} (I : BkI R) (h0 : 1 ≤ R 0) : lawK R 0 = 0 := by
  have hn := nC_le I
  have hp := nC_pos I (by omega)
  have hk : R 2 ≤ nC R := by
    rcases I.1 with z | z
    · omega
    · exact z.2.2.2.2.1
  have hR := Rsm I
  unfold lawK
  rw [bD_0, bP_up (full_lt _) hn, bP_full _ _ (Nat.le_refl _), if_neg (by omega)]
  have := npt_full (R 0) (by omega) (R 1) (by omega) h0 hp.2
  rw [show 2 ^ nC R - 1 = 2 ^ (R 0 * R 1) - 1 from rfl, this]
  rw [if_neg (by omega)]
theorem jcl_0 {R : Nat → Nat} {s y : Nat} : jcl R s y = 0 ↔ lawK R s = 0 ∧ s &&& brd R y 100 (R 6) = 0 := by
  unfold jcl
  by_cases h1 : lawK R s = 0
  · rw [if_neg (show ¬ lawK R s ≠ 0 from fun z => z h1)]
    by_cases h2 : s &&& brd R y 100 (R 6) = 0
    · rw [if_pos h2]; exact ⟨fun _ => ⟨h1, h2⟩, fun _ => rfl⟩
    · rw [if_neg h2]; exact ⟨fun z => by omega, fun z => absurd z.2 h2⟩
  · rw [if_pos h1]; exact ⟨fun z => absurd z h1, fun z => absurd z.1 h1⟩
theorem adm_jcl {R : Nat → Nat} {s y : Nat} (hc : hco R y (R 4) = true) : adm R (bar2 R y 100) s = true ↔ jcl R s y = 0 := by
  unfold adm bar2
  rw [if_pos hc, jcl_0]
  simp [and_comm]
theorem adm_none {R : Nat → Nat} {s y L : Nat} (hs : s < 2 ^ nC R) (hc : hco R y (R 4) = false) : adm R (bar2 R y L) s = true ↔ s = 0 ∧ lawK R s = 0 := by
  unfold adm bar2
  rw [hc, if_neg (by decide), Nat.and_two_pow_sub_one_eq_mod, Nat.mod_eq_of_lt hs]
  simp
theorem bsf_none {R : Nat → Nat} {A P y L : Nat} (hc : hco R y (R 4) = false) : ∀ k, k ≤ 2 ^ nC R → bsf R A P (bar2 R y L) k = 0 := by
  intro k
  induction k with
  | zero => intro _; rfl
  | succ k ih =>
    intro hk
    unfold bsf
    rw [ih (by omega)]
    split
    · rename_i z
      exact ((adm_none (by omega) hc).mp z.2).1
    · rfl
section M
variable {h : AH} {S R : Nat → Nat}
theorem m_wantedCells (MR : MoR h R) (I : BkI R) : jM_wantedCells h = some (nI (wnt R)) := by
  have hR := Rsm I
  unfold jM_wantedCells
  refine up_ind (P := fun n k => jM_wantedCells_4 h n (nI (bM (fun c => decide (R (46 + c) ≠ 0)) k)) (nI k) = some (nI (wnt R))) (nC R) (fun n => ?_) (fun n k hk ih => ?_) (nC R) 0 FU (by omega) (FU_lt (by omega))
  · rw [jM_wantedCells_4]
    simp (disch := omega) only [litI, jbn, inb_nI, nI_clamp, nI_add, pk_sub, pk_mul, nI_and, nI_or, and31, sh1, nI_dif, nI_bit, nI_shr, nI_eq, nI_ltI, nI_leI, nI_eq_neg, neg_eq_nI, neg_eq_neg, neg_lt_nI, nI_lt_neg, neg_le_nI, nI_le_neg, cv_eq2, nI_tn0, nI_tn1, obind, if_pos, if_neg, Nat.not_lt_zero, eq_self, if_true, if_false, Nat.zero_le, Nat.add_sub_cancel, nI_m1, nI_dn, m_cellMany MR]
    rfl
  · have h1 := (I.2.2.2 k (by omega)).1
    rw [jM_wantedCells_4]
    simp (disch := omega) only [litI, jbn, inb_nI, nI_clamp, nI_add, pk_sub, pk_mul, nI_and, nI_or, and31, sh1, nI_dif, nI_bit, nI_shr, nI_eq, nI_ltI, nI_leI, nI_eq_neg, neg_eq_nI, neg_eq_neg, neg_lt_nI, nI_lt_neg, neg_le_nI, nI_le_neg, cv_eq2, nI_tn0, nI_tn1, obind, if_pos, if_neg, Nat.not_lt_zero, eq_self, if_true, if_false, Nat.zero_le, Nat.add_sub_cancel, nI_m1, nI_dn, m_cellMany MR, m_wantedAt MR I (c := k)]
    by_cases h0 : R (46 + k) = 0
    · rw [if_pos h0, Nat.or_zero]
      rw [bM_f (by simp [h0])] at ih
      exact ih
    · rw [if_neg h0]
      rw [bM_t (by simp [h0])] at ih
      exact ih
theorem m_alikeCells (MR : MoR h R) (MS : MoS h S) (WI : WkI R S) (I : BkI R) : jM_alikeCells h = some (nI (alk R S)) := by
  have hR := Rsm I
  unfold jM_alikeCells
  refine up_ind (P := fun n k => jM_alikeCells_4 h n (nI (bM (fun c => decide (R (46 + c) ≠ 0) && decide (shn S c = R (46 + c))) k)) (nI k) = some (nI (alk R S))) (nC R) (fun n => ?_) (fun n k hk ih => ?_) (nC R) 0 FU (by omega) (FU_lt (by omega))
  · rw [jM_alikeCells_4]
    simp (disch := omega) only [litI, jbn, inb_nI, nI_clamp, nI_add, pk_sub, pk_mul, nI_and, nI_or, and31, sh1, nI_dif, nI_bit, nI_shr, nI_eq, nI_ltI, nI_leI, nI_eq_neg, neg_eq_nI, neg_eq_neg, neg_lt_nI, nI_lt_neg, neg_le_nI, nI_le_neg, cv_eq2, nI_tn0, nI_tn1, obind, if_pos, if_neg, Nat.not_lt_zero, eq_self, if_true, if_false, Nat.zero_le, Nat.add_sub_cancel, nI_m1, nI_dn, m_cellMany MR]
    rfl
  · rw [jM_alikeCells_4]
    simp (disch := omega) only [litI, m_cellMany MR, obind, nI_ltI, if_pos, m_isAlike MR MS WI I (c := k), nI_add, nI_or, and31, nI_and, nI_bit]
    by_cases h0 : R (46 + k) ≠ 0 ∧ shn S k = R (46 + k)
    · rw [show (if R (46 + k) ≠ 0 ∧ shn S k = R (46 + k) then 1 else 0) = 1 from if_pos h0]
      rw [bM_t (by simp [h0.1, h0.2])] at ih
      simp (disch := omega) only [nI_eq, if_neg]
      exact ih
    · rw [show (if R (46 + k) ≠ 0 ∧ shn S k = R (46 + k) then 1 else 0) = 0 from if_neg h0]
      have hf : (decide (R (46 + k) ≠ 0) && decide (shn S k = R (46 + k))) = false := by
        rw [← Bool.decide_and]
        exact decide_eq_false h0
      rw [bM_f hf] at ih
      simp (disch := omega) only [nI_eq, if_true, Nat.or_zero]
      exact ih
theorem m_payable (MR : MoR h R) (I : BkI R) {y : Nat} (hy : y < 2 ^ 31) : jM_payable h (nI y) = some (nI (pay R y)) := by
  have hR := Rsm I
  unfold jM_payable
  refine up_ind (P := fun n k => jM_payable_4 h (nI y) n (nI (bM (fun c => decide (R (46 + c) ≠ 0) && decide (R (16 + R (46 + c)) ≤ y)) k)) (nI k) = some (nI (pay R y))) (nC R) (fun n => ?_) (fun n k hk ih => ?_) (nC R) 0 FU (by omega) (FU_lt (by omega))
  · rw [jM_payable_4]
    simp (disch := omega) only [litI, jbn, inb_nI, nI_clamp, nI_add, pk_sub, pk_mul, nI_and, nI_or, and31, sh1, nI_dif, nI_bit, nI_shr, nI_eq, nI_ltI, nI_leI, nI_eq_neg, neg_eq_nI, neg_eq_neg, neg_lt_nI, nI_lt_neg, neg_le_nI, nI_le_neg, cv_eq2, nI_tn0, nI_tn1, obind, if_pos, if_neg, Nat.not_lt_zero, eq_self, if_true, if_false, Nat.zero_le, Nat.add_sub_cancel, nI_m1, nI_dn, m_cellMany MR]
    rfl
  · have h1 := (I.2.2.2 k (by omega)).1
    rw [jM_payable_4]
    unfold jM_payable_46
    simp (disch := omega) only [litI, jbn, inb_nI, nI_clamp, nI_add, pk_sub, pk_mul, nI_and, nI_or, and31, sh1, nI_dif, nI_bit, nI_shr, nI_eq, nI_ltI, nI_leI, nI_eq_neg, neg_eq_nI, neg_eq_neg, neg_lt_nI, nI_lt_neg, neg_le_nI, nI_le_neg, cv_eq2, nI_tn0, nI_tn1, obind, if_pos, if_neg, Nat.not_lt_zero, eq_self, if_true, if_false, Nat.zero_le, Nat.add_sub_cancel, nI_m1, nI_dn, m_cellMany MR, m_wantedAt MR I (c := k)]
    by_cases h0 : R (46 + k) = 0
    · rw [if_pos h0, Nat.or_zero]
      rw [bM_f (by simp [h0])] at ih
      exact ih
    · rw [if_neg h0, cv_pos (by omega)]
      have h3 := (I.2.1 (R (46 + k) - 1) (by omega)).2.2
      simp (disch := omega) only [litI, jbn, inb_nI, nI_clamp, nI_add, pk_sub, pk_mul, nI_and, nI_or, and31, sh1, nI_dif, nI_bit, nI_shr, nI_eq, nI_ltI, nI_leI, nI_eq_neg, neg_eq_nI, neg_eq_neg, neg_lt_nI, nI_lt_neg, neg_le_nI, nI_le_neg, cv_eq2, nI_tn0, nI_tn1, obind, if_pos, if_neg, Nat.not_lt_zero, eq_self, if_true, if_false, Nat.zero_le, Nat.add_sub_cancel, nI_m1, nI_dn, MR (17 + (R (46 + k) - 1))]
      rw [show 17 + (R (46 + k) - 1) = 16 + R (46 + k) by omega]
      by_cases h2 : R (16 + R (46 + k)) ≤ y
      · rw [if_pos h2]
        rw [bM_t (by simp [h0, h2])] at ih
        exact ih
      · rw [if_neg h2, Nat.or_zero]
        rw [bM_f (by simp [h2])] at ih
        exact ih
theorem isZ_b (x : Bool) : isZ (nI x.toNat) = true := by cases x <;> decide
theorem m_hasColours (MR : MoR h R) (I : BkI R) {y : Nat} (hy : y < 2 ^ 31) : jM_hasColours h (nI y) = some (nI (hco R y (R 4)).toNat) := by
  have hR := Rsm I
  unfold jM_hasColours
  refine up_ind (P := fun n k => jM_hasColours_4 h (nI y) n (nI (hco R y k).toNat) (nI k) = some (nI (hco R y (R 4)).toNat)) (R 4) (fun n => ?_) (fun n k hk ih => ?_) (R 4) 0 FU (by omega) (FU_lt (by omega))
  · rw [jM_hasColours_4]
    simp (disch := omega) only [litI, jbn, inb_nI, nI_clamp, nI_add, pk_sub, pk_mul, nI_and, nI_or, and31, sh1, nI_dif, nI_bit, nI_shr, nI_eq, nI_ltI, nI_leI, nI_eq_neg, neg_eq_nI, neg_eq_neg, neg_lt_nI, nI_lt_neg, neg_le_nI, nI_le_neg, cv_eq2, nI_tn0, nI_tn1, obind, if_pos, if_neg, Nat.not_lt_zero, eq_self, if_true, if_false, Nat.zero_le, Nat.add_sub_cancel, nI_m1, nI_dn, MR 4, isZ_b]
  · have h3 := (I.2.1 k hk).2.2
    rw [hco] at ih
    rw [jM_hasColours_4]
    unfold jM_hasColours_31
    simp (disch := omega) only [litI, inb_nI, nI_clamp, MR 4, if_true, nI_ltI, if_pos, nI_add, MR (17 + k), nI_tn0, nI_leI]
    cases hh : hco R y k
    · rw [hh] at ih
      simp only [if_true]
      by_cases h1 : R (17 + k) ≤ y
      · rw [if_pos h1]
        simp only [h1, decide_true, Bool.or_true, Bool.toNat_true] at ih
        exact ih
      · rw [if_neg h1]
        simp only [h1, decide_false, Bool.or_false, Bool.toNat_false] at ih
        exact ih
    · rw [hh] at ih
      simp only [Bool.true_or, Bool.toNat_true] at ih
      exact ih
def hbs (h : AH) (b a : Nat) : AH := uI (uI h 32 0 30 (nI b)) 32 0 31 (nI a)
theorem uI_com (h : AH) (k i j1 j2 : Nat) (v w : Int32) (hj : j1 ≠ j2) : uI (uI h k i j1 v) k i j2 w = uI (uI h k i j2 w) k i j1 v := by
  refine Prod.ext ?_ rfl
  funext a b c
  show (if a = k ∧ b = i ∧ c = j2 then w else if a = k ∧ b = i ∧ c = j1 then v else h.1 a b c) = if a = k ∧ b = i ∧ c = j1 then v else if a = k ∧ b = i ∧ c = j2 then w else h.1 a b c
  by_cases h1 : a = k ∧ b = i ∧ c = j1
  · rw [if_pos h1, if_pos h1, if_neg (fun z => hj (h1.2.2.symm.trans z.2.2))]
  · rw [if_neg h1, if_neg h1]
theorem hbs_hbs (h : AH) (b a b' a' : Nat) : uI (uI (hbs h b a) 32 0 30 (nI b')) 32 0 31 (nI a') = hbs h b' a' := by
  unfold hbs
  rw [uI_com (uI h 32 0 30 (nI b)) 32 0 31 30 _ _ (by decide), uI_uI, uI_uI]
theorem MoR_u {j : Nat} {v : Int32} (MR : MoR h R) : MoR (uI h 32 0 j v) R := fun i hi => (gI_uI_n (by omega)).trans (MR i hi)
theorem MoS_u {j : Nat} {v : Int32} (MS : MoS h S) : MoS (uI h 32 0 j v) S := fun i hi => (gI_uI_n (by omega)).trans (MS i hi)
theorem MoR_hbs {b a : Nat} (MR : MoR h R) : MoR (hbs h b a) R := MoR_u (MoR_u MR)
theorem hbs_30 (b a : Nat) : gI (hbs h b a) 32 0 30 = nI b := by
  unfold hbs
  rw [gI_uI_n (by omega), gI_uI_s]
theorem hbs_31 (b a : Nat) : gI (hbs h b a) 32 0 31 = nI a := by
  unfold hbs
  rw [gI_uI_s]
theorem m_layBest (MR : MoR h R) (MS : MoS h S) (WI : WkI R S) (I : BkI R) (h0 : 1 ≤ R 0) (hn : nC R ≤ 12) {y : Nat} (hy : y < 1000) : jM_layBest h (nI y) = some (hbs h (bsf R (alk R S) (pay R y) (bar2 R y 100) (2 ^ nC R)) (alb (alk R S) (pay R y) (bsf R (alk R S) (pay R y) (bar2 R y 100) (2 ^ nC R)))) := by
  have hp : 2 ^ nC R ≤ 2 ^ 12 := Nat.pow_le_pow_right (by decide) hn
  have hp0 := Nat.two_pow_pos (nC R)
  have hbit : ∀ x, jM_bits (nI (bD (alk R S) x ||| (x &&& pay R y))) = some (nI (alb (alk R S) (pay R y) x)) := by
    intro x
    have := lt24 I (alb_lt (x := x) (alk_lt R S) (pay_lt R y))
    rw [Nat.and_comm x, m_bits (by omega)]
    rfl
  have e27 : ∀ all, all < 2 ^ nC R → (hco R y (R 4) = false → all = 0) → (hco R y (R 4) = true → all + 1 = 2 ^ nC R) → jM_layBest_27 (nI y) (nI (alk R S)) (nI (pay R y)) (nI all) h = some (hbs h (bsf R (alk R S) (pay R y) (bar2 R y 100) (2 ^ nC R)) (alb (alk R S) (pay R y) (bsf R (alk R S) (pay R y) (bar2 R y 100) (2 ^ nC R)))) := by
    intro all hall hc0 hc1
    have elast : bsf R (alk R S) (pay R y) (bar2 R y 100) (all + 1) = bsf R (alk R S) (pay R y) (bar2 R y 100) (2 ^ nC R) := by
      cases hc : hco R y (R 4)
      · rw [bsf_none hc _ (by omega), bsf_none hc _ (Nat.le_refl _)]
      · rw [hc1 hc]
    have key := up_ind (P := fun n k => 1 ≤ k → jM_layBest_42 (nI y) n (nI (alk R S)) (nI (pay R y)) (nI all) (nI k) (hbs h (bsf R (alk R S) (pay R y) (bar2 R y 100) k) (alb (alk R S) (pay R y) (bsf R (alk R S) (pay R y) (bar2 R y 100) k))) = some (hbs h (bsf R (alk R S) (pay R y) (bar2 R y 100) (2 ^ nC R)) (alb (alk R S) (pay R y) (bsf R (alk R S) (pay R y) (bar2 R y 100) (2 ^ nC R))))) (all + 1) (fun n _ => ?_) (fun n k hk ih h1 => ?_) all 1 9999 (by omega) (by omega) (Nat.le_refl _)
    · unfold jM_layBest_27
      simp only [jbn]
      rw [show FU = 9999 + 1 from rfl, jM_layBest_42]
      simp (disch := omega) only [litI, nI_leI, if_pos, nI_dif, nI_and, nI_or, hbit, obind]
      have e30 : gI (uI (uI h 32 0 30 (-nI 1)) 32 0 31 (nI 0)) 32 0 30 = -nI 1 := by rw [gI_uI_n (by omega), gI_uI_s]
      simp only [e30, show (-nI 1 < nI 0) = True from eq_true (by decide), if_true]
      unfold jM_layBest_108
      rw [m_judgedCells (MoR_u (MoR_u MR)) I h0 (by omega) (by omega), obind, jcl_0.mpr ⟨lawK_0 I h0, Nat.zero_and _⟩]
      simp only [litI, if_true, jbn, nI_add, Nat.zero_add]
      rw [uI_com (uI h 32 0 30 (-nI 1)) 32 0 31 30 _ _ (by decide), uI_uI, uI_uI]
      rw [bsf_1] at key
      exact key
    · rw [jM_layBest_42]
      simp (disch := omega) only [litI, nI_leI, if_neg]
      rw [elast]
    · have hc : hco R y (R 4) = true := by
        cases hc : hco R y (R 4)
        · have := hc0 hc; omega
        · rfl
      have ih := ih (by omega)
      have hb := bsf_lt R (alk R S) (pay R y) (bar2 R y 100) k
      have b1 : alb (alk R S) (pay R y) k ≤ 24 := bP_le _ _
      have b2 : alb (alk R S) (pay R y) (bsf R (alk R S) (pay R y) (bar2 R y 100) k) ≤ 24 := bP_le _ _
      have hadm := adm_jcl (s := k) hc
      have hj := jcl_le R k y
      rw [bsf] at ih
      rw [jM_layBest_42]
      generalize hB : bsf R (alk R S) (pay R y) (bar2 R y 100) k = bb at hb b2 ih ⊢
      generalize bsf R (alk R S) (pay R y) (bar2 R y 100) (2 ^ nC R) = res at ih ⊢
      generalize hX : alb (alk R S) (pay R y) bb = ax at b2 ih ⊢
      have b3 := bP_le bb 24
      have b4 := bP_le k 24
      unfold jM_layBest_108
      simp (disch := omega) only [litI, nI_leI, if_pos, nI_dif, nI_and, nI_or, hbit, obind, hbs_30, hbs_31, m_bits, m_judgedCells (MoR_hbs MR) I h0 (s := k) (y := y), nI_ltI, nI_eq, nI_add, jbn, hbs_hbs, Nat.not_lt_zero, if_false]
      generalize hY : alb (alk R S) (pay R y) k = ay at b1 ih ⊢
      by_cases hjz : jcl R k y = 0
      · rw [if_pos hjz]
        have had := hadm.mpr hjz
        rw [had] at ih
        by_cases c1 : ay < ax
        · rw [if_pos c1]
          rw [if_neg (by omega), hX] at ih
          exact ih
        · rw [if_neg c1]
          by_cases c2 : ay = ax
          · rw [if_pos c2]
            by_cases c3 : bP k 24 < bP bb 24
            · rw [if_pos c3]
              rw [if_pos ⟨Or.inr ⟨c2, c3⟩, rfl⟩, hY] at ih
              exact ih
            · rw [if_neg c3]
              rw [if_neg (by omega), hX] at ih
              exact ih
          · rw [if_neg c2]
            rw [if_pos ⟨Or.inl (by omega), rfl⟩, hY] at ih
            exact ih
      · rw [if_neg hjz]
        rw [if_neg (fun z => hjz (hadm.mp z.2)), hX] at ih
        split
        · exact ih
        · split
          · split <;> exact ih
          · exact ih
  unfold jM_layBest
  rw [m_alikeCells MR MS WI I, obind, m_payable MR I (by omega), obind, m_hasColours MR I (by omega), obind]
  cases hc : hco R y (R 4)
  · simp only [Bool.toNat_false, litI, if_true]
    exact e27 0 hp0 (fun _ => rfl) (fun z => by rw [hc] at z; cases z)
  · simp (disch := omega) only [Bool.toNat_true, litI, nI_eq, if_neg]
    rw [m_allCells MR I, obind]
    exact e27 _ (full_lt _) (fun z => by rw [hc] at z; cases z) (fun _ => by omega)
/-- the model's table of what may be -/
def LawM (h : AH) (R : Nat → Nat) (y : Nat) : Prop := ∀ j, j < 4096 → gI h 45 0 j = nI (if j < 2 ^ nC R ∧ adm R (bar2 R y 100) j = true then 1 else 0)
def lwm (R : Nat → Nat) (y : Nat) (h : AH) : Nat → Int32 := fun j => if j < 4096 then nI (if j < 2 ^ nC R ∧ adm R (bar2 R y 100) j = true then 1 else 0) else gI h 45 0 j
theorem narb1 : vp_nar .boolean (nI 1) = nI 1 := by decide +kernel
theorem narb0 : vp_nar .boolean (nI 0) = nI 0 := by decide +kernel
theorem m_layLawful (MR : MoR h R) (I : BkI R) (h0 : 1 ≤ R 0) (hn : nC R ≤ 12) {y : Nat} (hy : y < 1000) : jM_layLawful h (nI y) = some (aI h 45 0 (lwm R y h)) := by
  have hp : 2 ^ nC R ≤ 2 ^ 12 := Nat.pow_le_pow_right (by decide) hn
  have hp0 := Nat.two_pow_pos (nC R)
  have e19 : ∀ all, all < 2 ^ nC R → (hco R y (R 4) = false → all = 0) → (hco R y (R 4) = true → all + 1 = 2 ^ nC R) → jM_layLawful_19 (nI y) FU (nI all) (nI 0) h = some (aI h 45 0 (lwm R y h)) := by
    intro all hall hc0 hc1
    have key := up_ind (P := fun n k => jM_layLawful_19 (nI y) n (nI all) (nI k) (aI h 45 0 (fun j => if j < k then nI (if j < 2 ^ nC R ∧ adm R (bar2 R y 100) j = true then 1 else 0) else gI h 45 0 j)) = some (aI h 45 0 (lwm R y h))) 4096 (fun n => ?_) (fun n k hk ih => ?_) 4096 0 FU rfl (FU_lt (by omega))
    · rw [aI_id (fun c => if_neg (by omega))] at key
      exact key
    · rw [jM_layLawful_19]
      simp (disch := omega) only [litI, nI_ltI, if_neg]
      rfl
    · generalize hg : aI h 45 0 (fun j => if j < k then nI (if j < 2 ^ nC R ∧ adm R (bar2 R y 100) j = true then 1 else 0) else gI h 45 0 j) = g at ih ⊢
      have e45 : ∀ (v : Nat), v = (if k < 2 ^ nC R ∧ adm R (bar2 R y 100) k = true then 1 else 0) → uI g 45 0 k (nI v) = aI h 45 0 (fun j => if j < k + 1 then nI (if j < 2 ^ nC R ∧ adm R (bar2 R y 100) j = true then 1 else 0) else gI h 45 0 j) := by
        rintro v rfl
        rw [← hg]
        exact aI_up h 45 0 k (fun j => nI (if j < 2 ^ nC R ∧ adm R (bar2 R y 100) j = true then 1 else 0)) _
      have MR2 : MoR g R := by
        intro i hi
        rw [← hg, gI_aI_n (by omega)]
        exact MR i hi
      clear hg
      have hj := jcl_le R k y
      rw [jM_layLawful_19]
      simp (disch := omega) only [litI, nI_ltI, if_pos, nI_leI, inb_nI, nI_clamp, narb1, narb0, jbn, nI_add, if_true]
      by_cases ha : k ≤ all
      · rw [if_pos ha, m_judgedCells MR2 I h0 (by omega) (by omega), obind]
        simp (disch := omega) only [nI_eq]
        cases hc : hco R y (R 4)
        · obtain rfl : k = 0 := by have := hc0 hc; omega
          rw [if_pos (jcl_0.mpr ⟨lawK_0 I h0, Nat.zero_and _⟩), e45 1 (by
            rw [if_pos ⟨hp0, (adm_none hp0 hc).mpr ⟨rfl, lawK_0 I h0⟩⟩])]
          exact ih
        · have hadm := adm_jcl (s := k) hc
          have := hc1 hc
          by_cases hjz : jcl R k y = 0
          · rw [if_pos hjz, e45 1 (by rw [if_pos ⟨by omega, hadm.mpr hjz⟩])]
            exact ih
          · rw [if_neg hjz, e45 0 (by rw [if_neg (fun z => hjz (hadm.mp z.2))])]
            exact ih
      · rw [if_neg ha, e45 0 (by
          rw [if_neg]
          rintro ⟨z1, z2⟩
          cases hc : hco R y (R 4)
          · have := hc0 hc
            have := ((adm_none z1 hc).mp z2).1
            omega
          · have := hc1 hc
            omega)]
        exact ih
  unfold jM_layLawful
  rw [m_hasColours MR I (by omega), obind]
  cases hc : hco R y (R 4)
  · simp only [Bool.toNat_false, litI, if_true]
    exact e19 0 hp0 (fun _ => rfl) (fun z => by rw [hc] at z; cases z)
  · simp (disch := omega) only [Bool.toNat_true, litI, nI_eq, if_neg]
    rw [m_allCells MR I, obind]
    exact e19 _ (full_lt _) (fun z => by rw [hc] at z; cases z) (fun _ => by omega)
theorem LawM_lay {y : Nat} : LawM (aI h 45 0 (lwm R y h)) R y := fun j hj => by
  rw [gI_aI_s]
  exact if_pos hj
theorem shw_eq (WI : WkI R S) (I : BkI R) (w : Nat) : bM (fun c => decide (und S c (S 0) 0 = w + 1)) (nC R) = shw S w (S 0) := by
  have hR := nC_le I
  have hz : ∀ c, nC R ≤ c → c < 24 → ∀ k, k ≤ S 0 → und S c k 0 = 0 := by
    intro c hc1 hc2 k
    induction k with
    | zero => intro _; rfl
    | succ k ih =>
      intro hk
      unfold und
      rw [((WI.2.2.2 k (by omega)).2.2 c hc2).2 hc1, if_pos rfl]
      exact ih (by omega)
  apply Nat.eq_of_testBit_eq
  intro i
  unfold shw
  rw [bM_tb, bM_tb]
  by_cases h1 : i < nC R
  · simp [h1, show i < 24 by omega]
  · by_cases h2 : i < 24
    · rw [hz i (by omega) h2 _ (Nat.le_refl _)]
      simp
    · simp [h1, h2]
theorem m_shownBy (MR : MoR h R) (MS : MoS h S) (WI : WkI R S) (I : BkI R) {w : Nat} (hw : w < S 0) : jM_shownBy h (nI w) = some (nI (shw S w (S 0))) := by
  have hR := nC_le I
  have h1 := WI.1
  unfold jM_shownBy
  rw [← shw_eq WI I w]
  refine up_ind (P := fun n k => jM_shownBy_4 h (nI w) n (nI (bM (fun c => decide (und S c (S 0) 0 = w + 1)) k)) (nI k) = some (nI (bM (fun c => decide (und S c (S 0) 0 = w + 1)) (nC R)))) (nC R) (fun n => ?_) (fun n k hk ih => ?_) (nC R) 0 FU (by omega) (FU_lt (by omega))
  · rw [jM_shownBy_4]
    simp (disch := omega) only [litI, jbn, inb_nI, nI_clamp, nI_add, pk_sub, pk_mul, nI_and, nI_or, and31, sh1, nI_dif, nI_bit, nI_shr, nI_eq, nI_ltI, nI_leI, nI_eq_neg, neg_eq_nI, neg_eq_neg, neg_lt_nI, nI_lt_neg, neg_le_nI, nI_le_neg, cv_eq2, nI_tn0, nI_tn1, obind, if_pos, if_neg, Nat.not_lt_zero, eq_self, if_true, if_false, Nat.zero_le, Nat.add_sub_cancel, nI_m1, nI_dn, m_cellMany MR]
  · have hu := und_le S k (S 0) 0
    rw [jM_shownBy_4]
    simp (disch := omega) only [litI, jbn, inb_nI, nI_clamp, nI_add, pk_sub, pk_mul, nI_and, nI_or, and31, sh1, nI_dif, nI_bit, nI_shr, nI_eq, nI_ltI, nI_leI, nI_eq_neg, neg_eq_nI, neg_eq_neg, neg_lt_nI, nI_lt_neg, neg_le_nI, nI_le_neg, cv_eq2, nI_tn0, nI_tn1, obind, if_pos, if_neg, Nat.not_lt_zero, eq_self, if_true, if_false, Nat.zero_le, Nat.add_sub_cancel, nI_m1, nI_dn, m_cellMany MR, m_under MS WI I (c := k), cv_eq]
    by_cases h0 : und S k (S 0) 0 = w + 1
    · rw [if_pos h0]
      rw [bM_t (by simp [h0])] at ih
      exact ih
    · rw [if_neg h0, Nat.or_zero]
      rw [bM_f (by simp [h0])] at ih
      exact ih
theorem m_least56 {y : Nat} (hT : LawM h R y) (hn : nC R ≤ 12) {s : Nat} (hs : s < 2 ^ 24) : jM_least_56 FU (nI s) (nI (bP s 24)) (nI 0) h = some (nI (lsf R (bar2 R y 100) s (2 ^ nC R)), h) := by
  have hp : 2 ^ nC R ≤ 2 ^ 12 := Nat.pow_le_pow_right (by decide) hn
  have key := up_ind (P := fun n k => jM_least_56 n (nI s) (nI (lsf R (bar2 R y 100) s (min k (2 ^ nC R)))) (nI k) h = some (nI (lsf R (bar2 R y 100) s (2 ^ nC R)), h)) 4096 (fun n => ?_) (fun n k hk ih => ?_) 4096 0 FU rfl (FU_lt (by omega))
  · rw [Nat.zero_min] at key
    exact key
  · rw [Nat.min_eq_right (by omega), jM_least_56]
    simp (disch := omega) only [litI, nI_ltI, if_neg]
  · have b1 := bP_le (bD s k) 24
    have b2 := lsf_le R (bar2 R y 100) s (min k (2 ^ nC R))
    have hbd := bD_le s k
    rw [jM_least_56]
    simp (disch := omega) only [litI, nI_ltI, if_pos, inb_nI, nI_clamp, hT k, if_true, nI_dif, m_bits (a := bD s k), obind, nI_add]
    by_cases hk2 : k < 2 ^ nC R
    · rw [Nat.min_eq_left (by omega)] at b2 ⊢
      rw [Nat.min_eq_left (by omega), lsf] at ih
      by_cases had : adm R (bar2 R y 100) k = true
      · rw [show (if k < 2 ^ nC R ∧ adm R (bar2 R y 100) k = true then 1 else 0) = 1 from if_pos ⟨hk2, had⟩]
        simp (disch := omega) only [nI_eq, if_neg]
        by_cases c1 : bP (bD s k) 24 < lsf R (bar2 R y 100) s k
        · rw [if_pos c1]
          rw [if_pos ⟨c1, had⟩] at ih
          exact ih
        · rw [if_neg c1]
          rw [if_neg (fun z => c1 z.1)] at ih
          exact ih
      · rw [show (if k < 2 ^ nC R ∧ adm R (bar2 R y 100) k = true then 1 else 0) = 0 from if_neg (fun z => had z.2)]
        rw [if_neg (fun z => had z.2)] at ih
        simp (disch := omega) only [nI_eq, if_true]
        exact ih
    · rw [Nat.min_eq_right (by omega)] at b2 ⊢
      rw [Nat.min_eq_right (by omega)] at ih
      rw [show (if k < 2 ^ nC R ∧ adm R (bar2 R y 100) k = true then 1 else 0) = 0 from if_neg (fun z => hk2 z.1)]
      simp (disch := omega) only [nI_eq, if_true]
      exact ih
end M
