/-! ===== pure: the parts, by the model ===== -/
def sa (s p : Nat) (b : Bool) (d : Nat) : Nat := if b = true then p ||| (s &&& 2 ^ d) else p
theorem sa_tb (s p : Nat) (b : Bool) (d i : Nat) : (sa s p b d).testBit i = (p.testBit i || (b && s.testBit i && decide (i = d))) := by
  unfold sa
  cases b
  · simp
  · simp only [if_true, Nat.testBit_or, Nat.testBit_and, Nat.testBit_two_pow, Bool.true_and]
    by_cases h : i = d
    · simp [h]
    · simp [h, show ¬ d = i from fun z => h z.symm]
/-- one step of the model's walk over the cells -/
def stp (wi n s p c : Nat) : Nat := if p.testBit c = true then sa s (sa s (sa s (sa s p (decide (0 < c % wi)) (c - 1)) (decide (c % wi < wi - 1)) (c + 1)) (decide (wi ≤ c)) (c - wi)) (decide (c + wi < n)) (c + wi) else p
def scn (wi n s : Nat) : Nat → Nat → Nat → Nat
  | 0, _, p => p
  | d + 1, c, p => scn wi n s d (c + 1) (stp wi n s p c)
theorem stp_tb {wi n s p c i : Nat} (hc : p.testBit c = true) : (stp wi n s p c).testBit i = (p.testBit i || (s.testBit i && (decide (0 < c % wi ∧ i = c - 1) || decide (c % wi < wi - 1 ∧ i = c + 1) || decide (wi ≤ c ∧ i = c - wi) || decide (c + wi < n ∧ i = c + wi)))) := by
  unfold stp
  rw [if_pos hc, sa_tb, sa_tb, sa_tb, sa_tb]
  simp only [Bool.decide_and]
  cases p.testBit i <;> cases s.testBit i <;> simp [Bool.or_assoc]
theorem stp_sub {wi n s p c i : Nat} (h : p.testBit i = true) : (stp wi n s p c).testBit i = true := by
  by_cases hc : p.testBit c = true
  · rw [stp_tb hc, h]; rfl
  · unfold stp; rw [if_neg hc]; exact h
theorem scn_sub {wi n s i : Nat} : ∀ d c p, p.testBit i = true → (scn wi n s d c p).testBit i = true := by
  intro d
  induction d with
  | zero => intro c p h; exact h
  | succ d ih => intro c p h; exact ih _ _ (stp_sub h)
theorem stp_in {wi n s p c q : Nat} (h1 : 1 ≤ wi) (h2 : wi ≤ 6) (hs : s < 2 ^ 24) (hp : ∀ i, p.testBit i = true → q.testBit i = true) (hq : Cl wi s q) {i : Nat} (hi : (stp wi n s p c).testBit i = true) : q.testBit i = true := by
  by_cases hc : p.testBit c = true
  · rw [stp_tb hc] at hi
    simp only [Bool.or_eq_true, Bool.and_eq_true, decide_eq_true_eq] at hi
    rcases hi with hi | ⟨hsi, hi⟩
    · exact hp i hi
    · have h24 : i < 24 := by
        apply Decidable.byContradiction
        intro z
        rw [Nat.testBit_lt_two_pow (Nat.lt_of_lt_of_le hs (Nat.pow_le_pow_right (by decide) (by omega)))] at hsi
        cases hsi
      refine hq i h24 hsi (nbr_of (hp c hc) ?_)
      rw [md_right h1 h2] at hi
      rcases hi with ((⟨h3, h4⟩ | ⟨h3, h4⟩) | ⟨h3, h4⟩) | ⟨h3, h4⟩
      · have : c ≠ 0 := by rintro rfl; rw [Nat.zero_mod] at h3; omega
        exact Or.inr (Or.inl ⟨h3, by omega⟩)
      · exact Or.inl ⟨by rw [h4]; exact h3, h4⟩
      · exact Or.inr (Or.inr (Or.inr (by omega)))
      · exact Or.inr (Or.inr (Or.inl h4))
  · unfold stp at hi; rw [if_neg hc] at hi; exact hp i hi
theorem scn_in {wi n s q : Nat} (h1 : 1 ≤ wi) (h2 : wi ≤ 6) (hs : s < 2 ^ 24) (hq : Cl wi s q) : ∀ d c p, (∀ i, p.testBit i = true → q.testBit i = true) → ∀ i, (scn wi n s d c p).testBit i = true → q.testBit i = true := by
  intro d
  induction d with
  | zero => intro c p h; exact h
  | succ d ih => intro c p h; exact ih _ _ (fun i hi => stp_in h1 h2 hs h hq hi)
theorem scn_fix {wi n s : Nat} : ∀ d c p, scn wi n s d c p = p → ∀ e, c ≤ e → e < c + d → stp wi n s p e = p := by
  intro d
  induction d with
  | zero => intro c p _ e h1 h2; omega
  | succ d ih =>
    intro c p h e h1 h2
    have e0 : stp wi n s p c = p := by
      refine bext (fun i hi => ?_) (fun i hi => stp_sub hi)
      have := scn_sub (wi := wi) (n := n) (s := s) d (c + 1) _ hi
      rw [scn] at h
      rw [h] at this
      exact this
    by_cases hce : c = e
    · rw [← hce]; exact e0
    · rw [scn, e0] at h
      exact ih (c + 1) p h e (by omega) (by omega)
theorem scn_Cl {wi n s p : Nat} (h1 : 1 ≤ wi) (h2 : wi ≤ 6) (hn : n ≤ 24) (hs : s < 2 ^ n) (hp : p < 2 ^ n) (h : scn wi n s n 0 p = p) : Cl wi s p := by
  have out : ∀ {x i : Nat}, x < 2 ^ n → x.testBit i = true → i < n := by
    intro x i hx hi
    apply Decidable.byContradiction
    intro z
    rw [Nat.testBit_lt_two_pow (Nat.lt_of_lt_of_le hx (Nat.pow_le_pow_right (by decide) (by omega)))] at hi
    cases hi
  intro d hd hsd hnb
  obtain ⟨e, he, ha⟩ := nbr_ex hnb
  have hen := out hp he
  have hdn := out hs hsd
  have e0 := scn_fix n 0 p h e (Nat.zero_le _) (by omega)
  rw [← e0, stp_tb he, hsd]
  simp only [Bool.or_eq_true, Bool.and_eq_true, decide_eq_true_eq, true_and]
  right
  rw [md_right h1 h2]
  rcases ha with ⟨h3, h4⟩ | ⟨h3, h4⟩ | h4 | h4
  · exact Or.inl (Or.inl (Or.inr ⟨by rw [← h4]; exact h3, h4⟩))
  · exact Or.inl (Or.inl (Or.inl ⟨h3, by omega⟩))
  · exact Or.inr ⟨by omega, h4⟩
  · exact Or.inl (Or.inr ⟨by omega, by omega⟩)
theorem stp_lt {wi n s p c : Nat} (h : n ≤ 24) (hs : s < 2 ^ n) (hp : p < 2 ^ n) : stp wi n s p c < 2 ^ n := by
  apply Nat.lt_pow_two_of_testBit
  intro i hi
  by_cases hc : p.testBit c = true
  · rw [stp_tb hc, Nat.testBit_lt_two_pow (Nat.lt_of_lt_of_le hs (Nat.pow_le_pow_right (by decide) hi)), Nat.testBit_lt_two_pow (Nat.lt_of_lt_of_le hp (Nat.pow_le_pow_right (by decide) hi))]
    rfl
  · unfold stp; rw [if_neg hc]
    exact Nat.testBit_lt_two_pow (Nat.lt_of_lt_of_le hp (Nat.pow_le_pow_right (by decide) hi))
theorem scn_lt {wi n s : Nat} (h : n ≤ 24) (hs : s < 2 ^ n) : ∀ d c p, p < 2 ^ n → scn wi n s d c p < 2 ^ n := by
  intro d
  induction d with
  | zero => intro c p hp; exact hp
  | succ d ih => intro c p hp; exact ih _ _ (stp_lt h hs hp)
section M
variable {h : AH} {S R : Nat → Nat}
theorem sa_t {s p d : Nat} : sa s p true d = p ||| (s &&& 2 ^ d) := rfl
theorem sa_f {s p d : Nat} : sa s p false d = p := rfl
theorem m_stp (MR : MoR h R) (I : BkI R) (h0 : 1 ≤ R 0) (K : Int32 → Int32 → Int32 → Int32 → Option Int32) {s p c : Nat} (w0 : Int32) (hs : s < 2 ^ nC R) (hp : p < 2 ^ nC R) (hc : c < nC R) (hpc : p.testBit c = true) :
    (if (nI c - nI c / nI (R 0) * nI (R 0)) ≤ nI 0 then (jM_partOf_67 h (nI s) K (nI p) w0 (nI (R 0)) (nI c)) else (jM_partOf_67 h (nI s) K (nI (p ||| (s &&& 2 ^ (c - 1)))) w0 (nI (R 0)) (nI c))) = K (nI (stp (R 0) (nC R) s p c)) w0 (nI (R 0)) (nI (c + 1)) := by
  have hR := Rsm I
  have hm := Nat.mod_lt c h0
  have e1 : (if (nI c - nI c / nI (R 0) * nI (R 0)) ≤ nI 0 then (jM_partOf_67 h (nI s) K (nI p) w0 (nI (R 0)) (nI c)) else (jM_partOf_67 h (nI s) K (nI (p ||| (s &&& 2 ^ (c - 1)))) w0 (nI (R 0)) (nI c))) = jM_partOf_67 h (nI s) K (nI (sa s p (decide (0 < c % R 0)) (c - 1))) w0 (nI (R 0)) (nI c) := by
    rw [pk_rem (by omega) (by omega) (by omega)]
    by_cases hx : 0 < c % R 0
    · rw [decide_eq_true hx, sa_t]
      simp (disch := omega) only [nI_leI, if_neg]
    · rw [decide_eq_false hx, sa_f]
      simp (disch := omega) only [nI_leI, if_pos]
  have e2 : ∀ p, jM_partOf_67 h (nI s) K (nI p) w0 (nI (R 0)) (nI c) = jM_partOf_90 h (nI s) K (nI (sa s p (decide (c % R 0 < R 0 - 1)) (c + 1))) w0 (nI (R 0)) (nI c) := by
    intro p
    unfold jM_partOf_67
    simp only [litI]
    rw [pk_rem (by omega) (by omega) (by omega)]
    by_cases hx : c % R 0 < R 0 - 1
    · rw [decide_eq_true hx, sa_t]
      simp (disch := omega) only [litI, jb_eq, inb_nI, nI_clamp, nI_add, pk_sub, pk_mul, nI_and, nI_or, and31, sh1, nI_dif, nI_bit, nI_shr, nI_eq, nI_ltI, nI_leI, nI_eq_neg, neg_eq_nI, neg_eq_neg, neg_lt_nI, nI_lt_neg, neg_le_nI, nI_le_neg, cv_eq2, nI_tn0, nI_tn1, Option.bind_some, if_pos, if_neg, Nat.not_lt_zero, eq_self, if_true, if_false, Nat.zero_le, Nat.add_sub_cancel, nI_m1, nI_dn]
    · rw [decide_eq_false hx, sa_f]
      simp (disch := omega) only [litI, jb_eq, inb_nI, nI_clamp, nI_add, pk_sub, pk_mul, nI_and, nI_or, and31, sh1, nI_dif, nI_bit, nI_shr, nI_eq, nI_ltI, nI_leI, nI_eq_neg, neg_eq_nI, neg_eq_neg, neg_lt_nI, nI_lt_neg, neg_le_nI, nI_le_neg, cv_eq2, nI_tn0, nI_tn1, Option.bind_some, if_pos, if_neg, Nat.not_lt_zero, eq_self, if_true, if_false, Nat.zero_le, Nat.add_sub_cancel, nI_m1, nI_dn]
  have e3 : ∀ p, jM_partOf_90 h (nI s) K (nI p) w0 (nI (R 0)) (nI c) = jM_partOf_109 h (nI s) K (nI (sa s p (decide (R 0 ≤ c)) (c - R 0))) w0 (nI (R 0)) (nI c) := by
    intro p
    unfold jM_partOf_90
    by_cases hx : R 0 ≤ c
    · rw [decide_eq_true hx, sa_t]
      simp (disch := omega) only [litI, jb_eq, inb_nI, nI_clamp, nI_add, pk_sub, pk_mul, nI_and, nI_or, and31, sh1, nI_dif, nI_bit, nI_shr, nI_eq, nI_ltI, nI_leI, nI_eq_neg, neg_eq_nI, neg_eq_neg, neg_lt_nI, nI_lt_neg, neg_le_nI, nI_le_neg, cv_eq2, nI_tn0, nI_tn1, Option.bind_some, if_pos, if_neg, Nat.not_lt_zero, eq_self, if_true, if_false, Nat.zero_le, Nat.add_sub_cancel, nI_m1, nI_dn]
    · rw [decide_eq_false hx, sa_f]
      simp (disch := omega) only [litI, jb_eq, inb_nI, nI_clamp, nI_add, pk_sub, pk_mul, nI_and, nI_or, and31, sh1, nI_dif, nI_bit, nI_shr, nI_eq, nI_ltI, nI_leI, nI_eq_neg, neg_eq_nI, neg_eq_neg, neg_lt_nI, nI_lt_neg, neg_le_nI, nI_le_neg, cv_eq2, nI_tn0, nI_tn1, Option.bind_some, if_pos, if_neg, Nat.not_lt_zero, eq_self, if_true, if_false, Nat.zero_le, Nat.add_sub_cancel, nI_m1, nI_dn]
  have e4 : ∀ p, jM_partOf_109 h (nI s) K (nI p) w0 (nI (R 0)) (nI c) = K (nI (sa s p (decide (c + R 0 < nC R)) (c + R 0))) w0 (nI (R 0)) (nI (c + 1)) := by
    intro p
    unfold jM_partOf_109
    by_cases hx : c + R 0 < nC R
    · rw [decide_eq_true hx, sa_t]
      simp (disch := omega) only [litI, jb_eq, inb_nI, nI_clamp, nI_add, pk_sub, pk_mul, nI_and, nI_or, and31, sh1, nI_dif, nI_bit, nI_shr, nI_eq, nI_ltI, nI_leI, nI_eq_neg, neg_eq_nI, neg_eq_neg, neg_lt_nI, nI_lt_neg, neg_le_nI, nI_le_neg, cv_eq2, nI_tn0, nI_tn1, Option.bind_some, if_pos, if_neg, Nat.not_lt_zero, eq_self, if_true, if_false, Nat.zero_le, Nat.add_sub_cancel, nI_m1, nI_dn, m_cellMany MR]
    · rw [decide_eq_false hx, sa_f]
      simp (disch := omega) only [litI, jb_eq, inb_nI, nI_clamp, nI_add, pk_sub, pk_mul, nI_and, nI_or, and31, sh1, nI_dif, nI_bit, nI_shr, nI_eq, nI_ltI, nI_leI, nI_eq_neg, neg_eq_nI, neg_eq_neg, neg_lt_nI, nI_lt_neg, neg_le_nI, nI_le_neg, cv_eq2, nI_tn0, nI_tn1, Option.bind_some, if_pos, if_neg, Nat.not_lt_zero, eq_self, if_true, if_false, Nat.zero_le, Nat.add_sub_cancel, nI_m1, nI_dn, m_cellMany MR]
  rw [e1, e2, e3, e4]
  unfold stp
  rw [if_pos hpc]
theorem lt24 {R : Nat → Nat} (I : BkI R) {s : Nat} (hs : s < 2 ^ nC R) : s < 2 ^ 24 := Nat.lt_of_lt_of_le hs (Nat.pow_le_pow_right (by decide) (nC_le I))
theorem m_scn (MR : MoR h R) (I : BkI R) (h0 : 1 ≤ R 0) (K : Int32 → Int32 → Int32 → Option Int32) {s : Nat} (w0 : Int32) (hs : s < 2 ^ nC R) : ∀ p, p < 2 ^ nC R → jM_partOf_27 h (nI s) K FU (nI p) w0 (nI (R 0)) (nI 0) = K (nI (scn (R 0) (nC R) s (nC R) 0 p)) w0 (nI (R 0)) := by
  have hR := Rsm I
  have key := up_ind (P := fun n k => ∀ p, p < 2 ^ nC R → jM_partOf_27 h (nI s) K n (nI p) w0 (nI (R 0)) (nI k) = K (nI (scn (R 0) (nC R) s (nC R - k) k p)) w0 (nI (R 0))) (nC R) (fun n p hp => ?_) (fun n k hk ih p hp => ?_) (nC R) 0 FU (by omega) (FU_lt (by omega))
  · exact key
  · rw [jM_partOf_27]
    simp (disch := omega) only [litI, jb_eq, inb_nI, nI_clamp, nI_add, pk_sub, pk_mul, nI_and, nI_or, and31, sh1, nI_dif, nI_bit, nI_shr, nI_eq, nI_ltI, nI_leI, nI_eq_neg, neg_eq_nI, neg_eq_neg, neg_lt_nI, nI_lt_neg, neg_le_nI, nI_le_neg, cv_eq2, nI_tn0, nI_tn1, Option.bind_some, if_pos, if_neg, Nat.not_lt_zero, eq_self, if_true, if_false, Nat.zero_le, Nat.add_sub_cancel, nI_m1, nI_dn, m_cellMany MR]
    rw [Nat.sub_self]
    rfl
  · have hp24 := lt24 I hp
    rw [jM_partOf_27, show nC R - k = (nC R - (k + 1)) + 1 by omega, scn]
    simp (disch := omega) only [litI, m_cellMany MR, m_has, Option.bind_some, nI_ltI, if_pos, jb_eq]
    cases hpk : p.testBit k
    · simp (disch := omega) only [Bool.toNat_false, nI_eq, if_true, nI_add]
      rw [ih p hp]
      unfold stp
      rw [if_neg (by rw [hpk]; decide)]
    · simp (disch := omega) only [Bool.toNat_true, nI_eq, if_neg]
      rw [← ih _ (stp_lt (nC_le I) hs hp), ← m_stp MR I h0 (jM_partOf_27 h (nI s) K n) w0 hs hp hk hpk]
      by_cases hk0 : k = 0
      · subst hk0
        rw [pk_rem (by omega) (by omega) (by omega), Nat.zero_mod]
        rfl
      · simp (disch := omega) only [litI, jb_eq, inb_nI, nI_clamp, nI_add, pk_sub, pk_mul, nI_and, nI_or, and31, sh1, nI_dif, nI_bit, nI_shr, nI_eq, nI_ltI, nI_leI, nI_eq_neg, neg_eq_nI, neg_eq_neg, neg_lt_nI, nI_lt_neg, neg_le_nI, nI_le_neg, cv_eq2, nI_tn0, nI_tn1, Option.bind_some, if_pos, if_neg, Nat.not_lt_zero, eq_self, if_true, if_false, Nat.zero_le, Nat.add_sub_cancel, nI_m1, nI_dn]
theorem m_partOf (MR : MoR h R) (I : BkI R) (h0 : 1 ≤ R 0) {s c : Nat} (hs : s < 2 ^ nC R) (hc : s.testBit c = true) (hcn : c < nC R) : jM_partOf h (nI s) (nI c) = some (nI (cmp (R 0) s c)) := by
  have hR := Rsm I
  have hs24 := lt24 I hs
  have hsub : ∀ {i}, (cmp (R 0) s c).testBit i = true → s.testBit i = true := fun hi => cmp_sub hs24 hc hi
  have key : ∀ m n p w0, p < 2 ^ nC R → p.testBit c = true → (∀ i, p.testBit i = true → (cmp (R 0) s c).testBit i = true) → w0 < 2 ^ 24 → (p = w0 → Cl (R 0) s p) → 25 - bP p 24 ≤ m → m + (if p = w0 then 0 else 1) < n → jM_partOf_15 h (nI s) n (nI p) (nI w0) (nI (R 0)) = some (nI (cmp (R 0) s c)) := by
    intro m
    induction m with
    | zero =>
      intro n p w0 hp
      have := bP_le p 24
      omega
    | succ m ih =>
      intro n p w0 hp hpc hin hw hcl hm hn
      obtain ⟨n, rfl⟩ : ∃ k, n = k + 1 := ⟨n - 1, by omega⟩
      have hp24 := lt24 I hp
      rw [jM_partOf_15]
      simp (disch := omega) only [nI_eq, litI]
      by_cases hpw : p = w0
      · rw [if_pos hpw]
        refine congrArg (fun x => some (nI x)) (bext hin (fun i hi => ?_))
        exact cmp_least hpc (hcl hpw) hi
      · rw [if_neg hpw, m_scn MR I h0 _ _ hs p hp]
        rw [if_neg hpw] at hn
        generalize hq : scn (R 0) (nC R) s (nC R) 0 p = q
        have hq2 : q < 2 ^ nC R := by rw [← hq]; exact scn_lt (nC_le I) hs _ _ _ hp
        have hq3 : ∀ i, p.testBit i = true → q.testBit i = true := fun i hi => by rw [← hq]; exact scn_sub _ _ _ hi
        have hq4 : ∀ i, q.testBit i = true → (cmp (R 0) s c).testBit i = true := fun i hi => scn_in h0 hR.1 hs24 (cmp_Cl (by omega)) _ _ _ hin i (by rw [hq]; exact hi)
        by_cases hqp : q = p
        · cases n with
          | zero => omega
          | succ n =>
            rw [jM_partOf_15, hqp]
            simp (disch := omega) only [nI_eq, if_true]
            refine congrArg (fun x => some (nI x)) (bext hin (fun i hi => ?_))
            exact cmp_least hpc (scn_Cl h0 hR.1 (nC_le I) hs hp (by rw [hq]; exact hqp)) hi
        · have hgrow : bP p 24 < bP q 24 := by
            have hx : ∃ j, j < 24 ∧ p.testBit j = false ∧ q.testBit j = true := by
              apply Classical.byContradiction
              intro z
              apply hqp
              refine bext (fun i hi => ?_) hq3
              cases hpi : p.testBit i
              · exfalso
                apply z
                refine ⟨i, ?_, hpi, hi⟩
                apply Decidable.byContradiction
                intro zz
                rw [Nat.testBit_lt_two_pow (Nat.lt_of_lt_of_le (lt24 I hq2) (Nat.pow_le_pow_right (by decide) (by omega)))] at hi
                cases hi
              · rfl
            obtain ⟨j, hj, hj0, hj1⟩ := hx
            exact bP_smono (fun i _ hi => hq3 i hi) hj hj0 hj1
          exact ih n q p hq2 (hq3 c hpc) hq4 hp24 (fun z => absurd z hqp) (by omega) (by rw [if_neg hqp]; omega)
  unfold jM_partOf
  simp (disch := omega) only [litI, inb_nI, nI_clamp, MR 0, if_pos, nI_and, and31, nI_bit]
  have h2c : (2 ^ c).testBit c = true := pow_tb.mpr rfl
  refine key 25 FU (2 ^ c) 0 (Nat.pow_lt_pow_right (by decide) hcn) h2c (fun i hi => by rw [pow_tb.mp hi]; exact cmp_self (by omega)) (by decide) (fun z => absurd z (by have := Nat.two_pow_pos c; omega)) (by omega) ?_
  split <;> exact FU_lt (by omega)
/-- the lowest cell of what is left, when none is below c -/
theorem m_partAt (MR : MoR h R) (I : BkI R) (h0 : 1 ≤ R 0) {s q : Nat} (hs : s < 2 ^ nC R) (hq : q < 2 ^ 31) : jM_partAt h (nI s) (nI q) = some (cv (pat (R 0) 24 s q)) := by
  have hR := Rsm I
  have hs24 := lt24 I hs
  unfold jM_partAt
  have key := up_ind (P := fun n k => ∀ r a f, a ≤ q → r < 2 ^ nC R → (∀ i, r.testBit i = true → s.testBit i = true) → Cl (R 0) s r → (∀ j, j < k → r.testBit j = false) → bP r 24 ≤ f → jM_partAt_8 h (nI s) (nI q) n (nI r) (nI a) (nI k) = some (cv (pat (R 0) f r (q - a)))) (nC R) (fun n r a f ha hr hrs hcl hlow hf => ?_) (fun n k hk ih r a f ha hr hrs hcl hlow hf => ?_) (nC R) 0 FU (by omega) (FU_lt (by omega))
  · exact key s 0 24 (Nat.zero_le _) hs (fun _ z => z) (fun _ _ z _ => z) (fun j hj => by omega) (bP_le _ _)
  · rw [jM_partAt_8]
    simp (disch := omega) only [litI, jb_eq, inb_nI, nI_clamp, nI_add, pk_sub, pk_mul, nI_and, nI_or, and31, sh1, nI_dif, nI_bit, nI_shr, nI_eq, nI_ltI, nI_leI, nI_eq_neg, neg_eq_nI, neg_eq_neg, neg_lt_nI, nI_lt_neg, neg_le_nI, nI_le_neg, cv_eq2, nI_tn0, nI_tn1, Option.bind_some, if_pos, if_neg, Nat.not_lt_zero, eq_self, if_true, if_false, Nat.zero_le, Nat.add_sub_cancel, nI_m1, nI_dn, m_cellMany MR]
    have hr0 : r = 0 := by
      apply Nat.eq_of_testBit_eq
      intro i
      rw [Nat.zero_testBit]
      by_cases hi : i < nC R
      · exact hlow i hi
      · exact Nat.testBit_lt_two_pow (Nat.lt_of_lt_of_le hr (Nat.pow_le_pow_right (by decide) (by omega)))
    cases f with
    | zero => rfl
    | succ f => rw [pat, if_pos hr0]; rfl
  · have hr24 := lt24 I hr
    rw [jM_partAt_8]
    simp (disch := omega) only [litI, m_cellMany MR, m_has, Option.bind_some, nI_ltI, if_pos, nI_add, nI_eq]
    cases hrk : r.testBit k
    · simp (disch := omega) only [Bool.toNat_false, nI_eq, if_true]
      refine ih r a f ha hr hrs hcl (fun j hj => ?_) hf
      by_cases hjk : j = k
      · rw [hjk]; exact hrk
      · exact hlow j (by omega)
    · simp (disch := omega) only [Bool.toNat_true, nI_eq, if_neg]
      have hr0 : r ≠ 0 := by
        rintro rfl
        simp at hrk
      have hl : lw r = k := lw_uniq hrk hlow
      have hk24 : k < 24 := by omega
      cases f with
      | zero =>
        have := (bP_eq0 hr24).mp (by omega)
        exact absurd this hr0
      | succ f =>
        rw [pat, if_neg hr0, hl]
        by_cases haq : a = q
        · rw [if_pos haq, if_pos (by omega)]
          rfl
        · rw [if_neg haq, if_neg (by omega), m_partOf MR I h0 hs (hrs k hrk) hk]
          simp only [Option.bind_some, nI_dif]
          have hcm : cmp (R 0) r k = cmp (R 0) s k := cmp_in hs24 hrs hcl hrk hk24
          have hdec := rest_lt (wi := R 0) hr24 hr0
          rw [hl, hcm] at hdec
          have z1 : ∀ i, (bD r (cmp (R 0) s k)).testBit i = true → s.testBit i = true := fun i hi => by
            rw [bD_tb] at hi
            simp only [Bool.and_eq_true] at hi
            exact hrs i hi.1
          have z2 : Cl (R 0) s (bD r (cmp (R 0) s k)) := Cl_dif hs24 hrs hcl (cmp_Cl hk24) (fun i hi => cmp_sub hs24 (hrs k hrk) hi)
          have z3 : ∀ j, j < k + 1 → (bD r (cmp (R 0) s k)).testBit j = false := fun j hj => by
            rw [bD_tb]
            by_cases hjk : j = k
            · rw [hjk, cmp_self hk24]; simp
            · rw [hlow j (by omega)]; rfl
          rw [hcm, ih _ (a + 1) f (by omega) (bD_lt hr) z1 z2 z3 (by omega), show q - a - 1 = q - (a + 1) by omega]
theorem m_partsOf (MR : MoR h R) (I : BkI R) (h0 : 1 ≤ R 0) {s : Nat} (hs : s < 2 ^ nC R) : jM_partsOf h (nI s) = some (nI (npt (R 0) 24 s)) := by
  have hle := npt_le (R 0) 24 s
  have hpb : ∀ f r n, r < 2 ^ 24 → pat (R 0) f r n ≤ 24 := by
    intro f
    induction f with
    | zero => intro r n _; exact Nat.zero_le _
    | succ f ih =>
      intro r n hr
      unfold pat
      split
      · omega
      · rename_i hr0
        split
        · have := (lw_spec hr hr0).1; omega
        · exact ih _ _ (bD_lt hr)
  unfold jM_partsOf
  refine up_ind (P := fun n k => jM_partsOf_2 h (nI s) n (nI k) = some (nI (npt (R 0) 24 s))) (npt (R 0) 24 s) (fun n => ?_) (fun n k hk ih => ?_) (npt (R 0) 24 s) 0 FU (by omega) (FU_lt (by omega))
  · rw [jM_partsOf_2, m_partAt MR I h0 hs (by omega), (pat_npt _ _ _ _).mpr (Nat.le_refl _), cv_0]
    rfl
  · have h1 : pat (R 0) 24 s k ≠ 0 := fun z => by
      have := (pat_npt _ _ _ _).mp z
      omega
    have h2 := hpb 24 s k (lt24 I hs)
    rw [jM_partsOf_2, m_partAt MR I h0 hs (by omega)]
    simp (disch := omega) only [litI, jb_eq, inb_nI, nI_clamp, nI_add, pk_sub, pk_mul, nI_and, nI_or, and31, sh1, nI_dif, nI_bit, nI_shr, nI_eq, nI_ltI, nI_leI, nI_eq_neg, neg_eq_nI, neg_eq_neg, neg_lt_nI, nI_lt_neg, neg_le_nI, nI_le_neg, cv_eq2, nI_tn0, nI_tn1, Option.bind_some, if_pos, if_neg, Nat.not_lt_zero, eq_self, if_true, if_false, Nat.zero_le, Nat.add_sub_cancel, nI_m1, nI_dn]
    exact ih
end M
