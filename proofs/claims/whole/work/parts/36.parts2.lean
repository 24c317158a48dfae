/-! ===== pure: the parts, by the class and by the model ===== -/
theorem wi_cases {wi : Nat} (h1 : 1 ≤ wi) (h2 : wi ≤ 6) : wi = 1 ∨ wi = 2 ∨ wi = 3 ∨ wi = 4 ∨ wi = 5 ∨ wi = 6 := by omega
theorem lm_step {wi k i : Nat} (h1 : 1 ≤ wi) (h2 : wi ≤ 6) : (i < (k + 1) * wi ∧ i % wi = 0) ↔ (i < k * wi ∧ i % wi = 0) ∨ i = k * wi := by
  rcases wi_cases h1 h2 with rfl | rfl | rfl | rfl | rfl | rfl <;> omega
theorem md_right {wi e : Nat} (h1 : 1 ≤ wi) (h2 : wi ≤ 6) : e % wi < wi - 1 ↔ 0 < (e + 1) % wi := by
  rcases wi_cases h1 h2 with rfl | rfl | rfl | rfl | rfl | rfl <;> omega
def lmk (wi k : Nat) : Nat := bM (fun d => decide (d % wi = 0)) (k * wi)
theorem lmk_s {wi k : Nat} (h1 : 1 ≤ wi) (h2 : wi ≤ 6) : lmk wi (k + 1) = lmk wi k ||| 2 ^ (k * wi) := by
  apply Nat.eq_of_testBit_eq
  intro i
  unfold lmk
  rw [Nat.testBit_or, bM_tb, bM_tb, Nat.testBit_two_pow]
  have := lm_step (k := k) (i := i) h1 h2
  by_cases hi : i = k * wi
  · have h3 := this.mpr (Or.inr hi)
    subst hi
    rw [decide_eq_true h3.1, decide_eq_true h3.2]
    simp
  · have h3 : (i < (k + 1) * wi ∧ i % wi = 0) ↔ (i < k * wi ∧ i % wi = 0) := by
      rw [this]; exact ⟨fun z => z.resolve_right hi, Or.inl⟩
    have h4 : ¬ k * wi = i := fun z => hi z.symm
    simp only [h4, decide_false, Bool.or_false]
    rw [← Bool.decide_and, ← Bool.decide_and]
    exact decide_eq_decide.mpr h3
/-- what lies at the sides -/
def bsd (wi hi p : Nat) : Nat := bD (p <<< 1) (lmk wi hi) ||| (bD p (lmk wi hi)) >>> 1 ||| p <<< wi ||| p >>> wi
section C
variable {h : AH} {b : Nat} {R : Nat → Nat}
theorem c_besides (B : BkC h b R) (I : BkI R) (h0 : 1 ≤ R 0) {p : Nat} (hp : p < 2 ^ 24) : jB_besides h b (nI p) = some (nI (bsd (R 0) (R 1) p)) := by
  have hR := Rsm I
  unfold jB_besides
  have hs : p <<< R 0 < 2 ^ 32 := by
    rw [Nat.shiftLeft_eq]
    exact Nat.lt_of_le_of_lt (Nat.mul_le_mul (Nat.le_of_lt hp) (Nat.pow_le_pow_right (by decide) hR.1)) (by decide)
  have hs1 : p <<< 1 < 2 ^ 32 := by
    rw [Nat.shiftLeft_eq]
    omega
  have hd := bD_lt (b := lmk (R 0) (R 1)) hp
  have e0 : lmk (R 0) 0 = 0 := by
    unfold lmk
    rw [Nat.zero_mul]
    rfl
  have key := up_ind (P := fun n k => jB_besides_4 h b (nI p) n (nI (lmk (R 0) k)) (nI k) = some (nI (bsd (R 0) (R 1) p))) (R 1) (fun n => ?_) (fun n k hk ih => ?_) (R 1) 0 FU (by omega) (FU_lt (by omega))
  · rw [e0] at key
    exact key
  · rw [jB_besides_4, jB_besides_29]
    simp (disch := omega) only [litI, B.1.1, B.1.2.1, nI_ltI, if_neg, jb_eq, nI_and, and31]
    rw [nI_shl (by omega) hs, nI_shl (by omega) hs1, nI_dif, nI_dif, nI_shr (by omega) (by omega), nI_shr (by omega) (by omega), nI_or, nI_or, nI_or]
    rfl
  · have hkw : k * R 0 ≤ 3 * 6 := Nat.mul_le_mul (by omega) hR.1
    rw [jB_besides_4]
    simp (disch := omega) only [litI, jb_eq, inb_nI, nI_clamp, nI_add, pk_sub, pk_mul, nI_and, nI_or, and31, sh1, nI_dif, nI_bit, nI_shr, nI_eq, nI_ltI, nI_leI, nI_eq_neg, neg_eq_nI, neg_eq_neg, neg_lt_nI, nI_lt_neg, neg_le_nI, nI_le_neg, cv_eq2, nI_tn0, nI_tn1, Option.bind_some, if_pos, if_neg, Nat.not_lt_zero, eq_self, if_true, if_false, Nat.zero_le, Nat.add_sub_cancel, nI_m1, nI_dn, B.1.1, B.1.2.1]
    rw [lmk_s h0 hR.1] at ih
    exact ih
theorem bsd_gro (I : BkI R) (h0 : 1 ≤ R 0) {r p : Nat} (hr : r < 2 ^ nC R) (hp : p < 2 ^ nC R) : p ||| (bsd (R 0) (R 1) p &&& r) = gro (R 0) r p := by
  have hR := Rsm I
  have out : ∀ {x i : Nat}, x < 2 ^ nC R → x.testBit i = true → i < nC R := by
    intro x i hx hi
    apply Decidable.byContradiction
    intro z
    rw [Nat.testBit_lt_two_pow (Nat.lt_of_lt_of_le hx (Nat.pow_le_pow_right (by decide) (by omega)))] at hi
    cases hi
  have hc : R 1 * R 0 = nC R := Nat.mul_comm _ _
  apply Nat.eq_of_testBit_eq
  intro i
  unfold gro bsd lmk nbr
  rw [bM_tb, hc]
  simp only [Nat.testBit_or, Nat.testBit_and, Nat.testBit_shiftLeft, Nat.testBit_shiftRight, bD_tb, bM_tb]
  cases hpi : p.testBit i
  · cases hri : r.testBit i
    · simp
    · have hi := out hr hri
      have e1 : (decide (i ≥ 1) && p.testBit (i - 1) && !(decide (i < nC R) && decide (i % R 0 = 0))) = (decide (0 < i % R 0) && p.testBit (i - 1)) := by
        by_cases hm : i % R 0 = 0
        · simp [hm, hi]
        · have : i ≥ 1 := by
            apply Decidable.byContradiction
            intro z
            apply hm
            rw [show i = 0 by omega, Nat.zero_mod]
          simp [hm, this, Nat.pos_of_ne_zero hm]
      have e2 : (p.testBit (1 + i) && !(decide (1 + i < nC R) && decide ((1 + i) % R 0 = 0))) = (decide (0 < (i + 1) % R 0) && p.testBit (i + 1)) := by
        rw [Nat.add_comm 1 i]
        cases hq : p.testBit (i + 1)
        · simp
        · have := out hp hq
          by_cases hm : (i + 1) % R 0 = 0
          · simp [hm, this]
          · simp [hm, Nat.pos_of_ne_zero hm]
      rw [e1, e2, Nat.add_comm (R 0) i]
      simp [show i < 24 by omega]
  · have hi := out hp hpi
    simp [show i < 24 by omega]
theorem gro_ltn {wi r p n : Nat} (hr : r < 2 ^ n) (hp : p < 2 ^ n) : gro wi r p < 2 ^ n := by
  apply Nat.lt_pow_two_of_testBit
  intro i hi
  unfold gro
  rw [bM_tb, Nat.testBit_lt_two_pow (Nat.lt_of_lt_of_le hr (Nat.pow_le_pow_right (by decide) hi)), Nat.testBit_lt_two_pow (Nat.lt_of_lt_of_le hp (Nat.pow_le_pow_right (by decide) hi))]
  simp
theorem c_firstPart (B : BkC h b R) (I : BkI R) (h0 : 1 ≤ R 0) {r : Nat} (hr : r < 2 ^ nC R) (hr0 : r ≠ 0) : jB_firstPart h b (nI r) = some (nI (cmp (R 0) r (lw r))) := by
  have hR := Rsm I
  have hr24 : r < 2 ^ 24 := Nat.lt_of_lt_of_le hr (Nat.pow_le_pow_right (by decide) hR.2.2.2.2.2.2.2)
  obtain ⟨hl, hbl, -, -⟩ := lw_spec hr hr0
  unfold jB_firstPart
  rw [nI_low, hbl]
  have hlt : ∀ k, cmN (R 0) r (2 ^ lw r) k < 2 ^ nC R := by
    intro k
    induction k with
    | zero => exact Nat.pow_lt_pow_right (by decide) hl
    | succ k ih => exact gro_ltn hr ih
  refine up_ind (P := fun n k => jB_firstPart_7 h b (nI r) n (nI (cmN (R 0) r (2 ^ lw r) k)) (nI k) = some (nI (cmp (R 0) r (lw r)))) 24 (fun n => ?_) (fun n k hk ih => ?_) 24 0 FU rfl (by decide)
  · rw [jB_firstPart_7]
    simp (disch := omega) only [litI, jb_eq, inb_nI, nI_clamp, nI_add, pk_sub, pk_mul, nI_and, nI_or, and31, sh1, nI_dif, nI_bit, nI_shr, nI_eq, nI_ltI, nI_leI, nI_eq_neg, neg_eq_nI, neg_eq_neg, neg_lt_nI, nI_lt_neg, neg_le_nI, nI_le_neg, cv_eq2, nI_tn0, nI_tn1, Option.bind_some, if_pos, if_neg, Nat.not_lt_zero, eq_self, if_true, if_false, Nat.zero_le, Nat.add_sub_cancel, nI_m1, nI_dn]
    rfl
  · have hlk := hlt k
    have hlk2 : cmN (R 0) r (2 ^ lw r) k < 2 ^ 24 := Nat.lt_of_lt_of_le hlk (Nat.pow_le_pow_right (by decide) hR.2.2.2.2.2.2.2)
    have hg := gro_lt (R 0) r (cmN (R 0) r (2 ^ lw r) k)
    rw [jB_firstPart_7]
    simp (disch := omega) only [litI, nI_ltI, if_pos, c_besides B I h0 hlk2, Option.bind_some, nI_and, nI_or, bsd_gro I h0 hr hlk, nI_eq, nI_add]
    by_cases hf : gro (R 0) r (cmN (R 0) r (2 ^ lw r) k) = cmN (R 0) r (2 ^ lw r) k
    · rw [if_pos hf]
      have := cmN_stop hf (24 - k)
      rw [show k + (24 - k) = 24 by omega] at this
      unfold cmp
      rw [this]
    · rw [if_neg hf]
      exact ih
theorem c_partsOf (B : BkC h b R) (I : BkI R) (h0 : 1 ≤ R 0) {r : Nat} (hr : r < 2 ^ nC R) : jB_partsOf h b (nI r) = some (nI (npt (R 0) 24 r)) := by
  have hR := Rsm I
  unfold jB_partsOf
  have key := up_ind (P := fun n k => ∀ r m, r < 2 ^ nC R → jB_partsOf_7 h b n (nI r) (nI m) (nI k) = some (nI (m + npt (R 0) (24 - k) r))) 24 (fun n r m hr => ?_) (fun n k hk ih r m hr => ?_) 24 0 FU rfl (by decide)
  · have := key r 0 hr
    rw [Nat.zero_add] at this
    exact this
  · rw [jB_partsOf_7]
    simp (disch := omega) only [litI, jb_eq, inb_nI, nI_clamp, nI_add, pk_sub, pk_mul, nI_and, nI_or, and31, sh1, nI_dif, nI_bit, nI_shr, nI_eq, nI_ltI, nI_leI, nI_eq_neg, neg_eq_nI, neg_eq_neg, neg_lt_nI, nI_lt_neg, neg_le_nI, nI_le_neg, cv_eq2, nI_tn0, nI_tn1, Option.bind_some, if_pos, if_neg, Nat.not_lt_zero, eq_self, if_true, if_false, Nat.zero_le, Nat.add_sub_cancel, nI_m1, nI_dn]
    rfl
  · have hr24 : r < 2 ^ 24 := Nat.lt_of_lt_of_le hr (Nat.pow_le_pow_right (by decide) hR.2.2.2.2.2.2.2)
    rw [jB_partsOf_7, show 24 - k = (24 - (k + 1)) + 1 by omega, npt]
    simp (disch := omega) only [litI, jb_eq, inb_nI, nI_clamp, nI_add, pk_sub, pk_mul, nI_and, nI_or, and31, sh1, nI_dif, nI_bit, nI_shr, nI_eq, nI_ltI, nI_leI, nI_eq_neg, neg_eq_nI, neg_eq_neg, neg_lt_nI, nI_lt_neg, neg_le_nI, nI_le_neg, cv_eq2, nI_tn0, nI_tn1, Option.bind_some, if_pos, if_neg, Nat.not_lt_zero, eq_self, if_true, if_false, Nat.zero_le, Nat.add_sub_cancel, nI_m1, nI_dn]
    by_cases hr0 : r = 0
    · rw [if_pos hr0, if_pos hr0]; rfl
    · rw [if_neg hr0, if_neg hr0, c_firstPart B I h0 hr hr0]
      simp (disch := omega) only [litI, jb_eq, inb_nI, nI_clamp, nI_add, pk_sub, pk_mul, nI_and, nI_or, and31, sh1, nI_dif, nI_bit, nI_shr, nI_eq, nI_ltI, nI_leI, nI_eq_neg, neg_eq_nI, neg_eq_neg, neg_lt_nI, nI_lt_neg, neg_le_nI, nI_le_neg, cv_eq2, nI_tn0, nI_tn1, Option.bind_some, if_pos, if_neg, Nat.not_lt_zero, eq_self, if_true, if_false, Nat.zero_le, Nat.add_sub_cancel, nI_m1, nI_dn]
      rw [ih _ (m + 1) (bD_lt hr)]
      exact congrArg (fun x => some (nI x)) (by omega)
theorem c_firstOf {r : Nat} (hr : r < 2 ^ 24) (h0 : r ≠ 0) : jX_firstOf (nI r) = some (nI (lw r)) := by
  obtain ⟨hl, hbl, -, -⟩ := lw_spec hr h0
  have h1 := Nat.two_pow_pos (lw r)
  have h2 := pow_lt24 hl
  unfold jX_firstOf
  rw [nI_low, hbl]
  simp (disch := omega) only [litI, jb_eq, inb_nI, nI_clamp, nI_add, pk_sub, pk_mul, nI_and, nI_or, and31, sh1, nI_dif, nI_bit, nI_shr, nI_eq, nI_ltI, nI_leI, nI_eq_neg, neg_eq_nI, neg_eq_neg, neg_lt_nI, nI_lt_neg, neg_le_nI, nI_le_neg, cv_eq2, nI_tn0, nI_tn1, Option.bind_some, if_pos, if_neg, Nat.not_lt_zero, eq_self, if_true, if_false, Nat.zero_le, Nat.add_sub_cancel, nI_m1, nI_dn, c_bitCount]
  rw [bP_up (n := lw r) (by omega) (by omega), bP_full _ _ (Nat.le_refl _)]
theorem c_partStart (B : BkC h b R) (I : BkI R) (h0 : 1 ≤ R 0) {r q f : Nat} (hr : r < 2 ^ nC R) (hq : q < npt (R 0) f r) (hf : f ≤ 24) : jB_partStart h b (nI r) (nI q) = some (nI (pat (R 0) f r q - 1)) := by
  have hR := Rsm I
  have hle := npt_le (R 0) f r
  unfold jB_partStart
  have key := up_ind (P := fun n k => ∀ f r, r < 2 ^ nC R → q - k < npt (R 0) f r → jB_partStart_5 h b (nI q) n (nI r) (nI k) = some (nI (pat (R 0) f r (q - k) - 1))) q (fun n f r hr hq => ?_) (fun n k hk ih f r hr hq => ?_) q 0 FU (by omega) (FU_lt (by omega))
  · exact key f r hr hq
  · have hr24 : r < 2 ^ 24 := Nat.lt_of_lt_of_le hr (Nat.pow_le_pow_right (by decide) hR.2.2.2.2.2.2.2)
    cases f with
    | zero => simp [npt] at hq
    | succ f =>
      have hr0 : r ≠ 0 := by
        rintro rfl
        simp [npt] at hq
      rw [jB_partStart_5]
      simp (disch := omega) only [litI, jb_eq, inb_nI, nI_clamp, nI_add, pk_sub, pk_mul, nI_and, nI_or, and31, sh1, nI_dif, nI_bit, nI_shr, nI_eq, nI_ltI, nI_leI, nI_eq_neg, neg_eq_nI, neg_eq_neg, neg_lt_nI, nI_lt_neg, neg_le_nI, nI_le_neg, cv_eq2, nI_tn0, nI_tn1, Option.bind_some, if_pos, if_neg, Nat.not_lt_zero, eq_self, if_true, if_false, Nat.zero_le, Nat.add_sub_cancel, nI_m1, nI_dn, c_firstOf hr24 hr0]
      rw [pat, if_neg hr0, if_pos (by omega)]
      rfl
  · have hr24 : r < 2 ^ 24 := Nat.lt_of_lt_of_le hr (Nat.pow_le_pow_right (by decide) hR.2.2.2.2.2.2.2)
    cases f with
    | zero => simp [npt] at hq
    | succ f =>
      have hr0 : r ≠ 0 := by
        rintro rfl
        simp [npt] at hq
      rw [npt, if_neg hr0] at hq
      rw [jB_partStart_5]
      simp (disch := omega) only [litI, jb_eq, inb_nI, nI_clamp, nI_add, pk_sub, pk_mul, nI_and, nI_or, and31, sh1, nI_dif, nI_bit, nI_shr, nI_eq, nI_ltI, nI_leI, nI_eq_neg, neg_eq_nI, neg_eq_neg, neg_lt_nI, nI_lt_neg, neg_le_nI, nI_le_neg, cv_eq2, nI_tn0, nI_tn1, Option.bind_some, if_pos, if_neg, Nat.not_lt_zero, eq_self, if_true, if_false, Nat.zero_le, Nat.add_sub_cancel, nI_m1, nI_dn, c_firstPart B I h0 hr hr0]
      rw [pat, if_neg hr0, if_neg (by omega), ih f _ (bD_lt hr) (by omega), show q - k - 1 = q - (k + 1) by omega]
end C
