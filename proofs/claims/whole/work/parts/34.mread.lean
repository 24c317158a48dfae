/-! ===== pure: what the model reads ===== -/
def MoR (h : AH) (R : Nat → Nat) : Prop := ∀ i, i < 161 → gI h 35 0 i = nI (R i)
def MoS (h : AH) (S : Nat → Nat) : Prop := ∀ i, i < 340 → gI h 37 0 i = nI (S i)
def hbk (R : Nat → Nat) : Nat := if R 0 = 0 then 0 else 1
theorem cel_eq {R S : Nat → Nat} (WI : WkI R S) (I : BkI R) {r : Nat} (hr : r < S 0 + S 1) : bM (fun c => decide (pt S r c ≠ 0)) (nC R) = cel S r := by
  have hR := nC_le I
  apply Nat.eq_of_testBit_eq
  intro i
  unfold cel
  rw [bM_tb, bM_tb]
  by_cases h1 : i < nC R
  · simp [h1, show i < 24 by omega]
  · by_cases h2 : i < 24
    · have := ((WI.2.2.2 r hr).2.2 i h2).2 (by omega)
      simp [this]
    · simp [h1, h2]
theorem m_within_t {x a b : Nat} (h1 : a ≤ x) (h2 : x ≤ b) (hb : b < 2 ^ 31) : jM_within (nI x) (nI a) (nI b) = some (nI 1) := by
  unfold jM_within
  simp (disch := omega) only [litI, jb_eq, inb_nI, nI_clamp, nI_add, pk_sub, pk_mul, nI_and, nI_or, and31, sh1, nI_dif, nI_bit, nI_shr, nI_eq, nI_ltI, nI_leI, nI_eq_neg, neg_eq_nI, neg_eq_neg, neg_lt_nI, nI_lt_neg, neg_le_nI, nI_le_neg, cv_eq2, nI_tn0, nI_tn1, Option.bind_some, if_pos, if_neg, Nat.not_lt_zero, eq_self, if_true, if_false, Nat.zero_le, Nat.add_sub_cancel, nI_m1, nI_dn]
theorem m_within_n {x a b : Nat} (h : ¬ (a ≤ x ∧ x ≤ b)) (hx : x < 2 ^ 31) (ha : a < 2 ^ 31) (hb : b < 2 ^ 31) : jM_within (nI x) (nI a) (nI b) = some (nI 0) := by
  unfold jM_within
  by_cases h1 : x < a
  · simp (disch := omega) only [litI, jb_eq, inb_nI, nI_clamp, nI_add, pk_sub, pk_mul, nI_and, nI_or, and31, sh1, nI_dif, nI_bit, nI_shr, nI_eq, nI_ltI, nI_leI, nI_eq_neg, neg_eq_nI, neg_eq_neg, neg_lt_nI, nI_lt_neg, neg_le_nI, nI_le_neg, cv_eq2, nI_tn0, nI_tn1, Option.bind_some, if_pos, if_neg, Nat.not_lt_zero, eq_self, if_true, if_false, Nat.zero_le, Nat.add_sub_cancel, nI_m1, nI_dn]
  · simp (disch := omega) only [litI, jb_eq, inb_nI, nI_clamp, nI_add, pk_sub, pk_mul, nI_and, nI_or, and31, sh1, nI_dif, nI_bit, nI_shr, nI_eq, nI_ltI, nI_leI, nI_eq_neg, neg_eq_nI, neg_eq_neg, neg_lt_nI, nI_lt_neg, neg_le_nI, nI_le_neg, cv_eq2, nI_tn0, nI_tn1, Option.bind_some, if_pos, if_neg, Nat.not_lt_zero, eq_self, if_true, if_false, Nat.zero_le, Nat.add_sub_cancel, nI_m1, nI_dn]
theorem m_within_f {v : Int32} {b : Nat} (hb : b < 2 ^ 31 - 1) (h : ¬ inN v (b + 1)) : jM_within v (nI 0) (nI b) = some (nI 0) := by
  unfold jM_within
  simp only [litI]
  rcases inN_or v (n := b + 1) (by omega) with h1 | h1 | h1
  · exact absurd h1 h
  · simp only [h1, if_true]
  · have h2 : ¬ v ≤ nI b := by
      rw [Int32.lt_iff_toInt_lt, nI_toInt (by omega)] at h1
      rw [Int32.le_iff_toInt_le, nI_toInt (by omega)]
      omega
    simp only [h2, if_false]
    split <;> rfl
theorem m_within_m (v : Int32) : jM_within v (nI 0) (nI 0 - nI 1) = some (nI 0) := by
  unfold jM_within
  simp only [litI]
  by_cases h1 : v < nI 0
  · simp only [h1, if_true]
  · have h2 : ¬ v ≤ nI 0 - nI 1 := by
      rw [nI_m1, Int32.le_iff_toInt_le, sb_negT (by omega)]
      rw [Int32.lt_iff_toInt_lt, nI_toInt (by omega)] at h1
      omega
    simp only [h1, h2, if_false]
theorem m_in_t {x n : Nat} (h : x < n) (hn : n < 2 ^ 31) : jM_within (nI x) (nI 0) (nI n - nI 1) = some (nI 1) := by
  rw [pk_sub (by omega)]
  exact m_within_t (Nat.zero_le _) (by omega) (by omega)
theorem m_in_f {v : Int32} {n : Nat} (hn : n < 2 ^ 31) (h : ¬ inN v n) : jM_within v (nI 0) (nI n - nI 1) = some (nI 0) := by
  by_cases h0 : n = 0
  · subst h0; exact m_within_m v
  · rw [pk_sub (by omega)]
    exact m_within_f (by omega) (by rw [show n - 1 + 1 = n by omega]; exact h)
section M
variable {h : AH} {S R : Nat → Nat}
theorem m_cellMany (MR : MoR h R) : jM_cellMany h = some (nI (nC R)) := by
  unfold jM_cellMany
  simp (disch := omega) only [litI, jb_eq, inb_nI, nI_clamp, nI_add, pk_sub, pk_mul, nI_and, nI_or, and31, sh1, nI_dif, nI_bit, nI_shr, nI_eq, nI_ltI, nI_leI, nI_eq_neg, neg_eq_nI, neg_eq_neg, neg_lt_nI, nI_lt_neg, neg_le_nI, nI_le_neg, cv_eq2, nI_tn0, nI_tn1, Option.bind_some, if_pos, if_neg, Nat.not_lt_zero, eq_self, if_true, if_false, Nat.zero_le, Nat.add_sub_cancel, nI_m1, nI_dn, MR 0, MR 1]
  rfl
theorem m_allCells (MR : MoR h R) (I : BkI R) : jM_allCells h = some (nI (2 ^ nC R - 1)) := by
  have h2 := nC_le I
  have h3 := Nat.two_pow_pos (nC R)
  unfold jM_allCells
  simp (disch := omega) only [litI, jb_eq, inb_nI, nI_clamp, nI_add, pk_sub, pk_mul, nI_and, nI_or, and31, sh1, nI_dif, nI_bit, nI_shr, nI_eq, nI_ltI, nI_leI, nI_eq_neg, neg_eq_nI, neg_eq_neg, neg_lt_nI, nI_lt_neg, neg_le_nI, nI_le_neg, cv_eq2, nI_tn0, nI_tn1, Option.bind_some, if_pos, if_neg, Nat.not_lt_zero, eq_self, if_true, if_false, Nat.zero_le, Nat.add_sub_cancel, nI_m1, nI_dn, m_cellMany MR]
theorem m_cellOf (MR : MoR h R) (x y : Nat) : jM_cellOf h (nI x) (nI y) = some (nI (R 0 * y + x)) := by
  unfold jM_cellOf
  simp (disch := omega) only [litI, jb_eq, inb_nI, nI_clamp, nI_add, pk_sub, pk_mul, nI_and, nI_or, and31, sh1, nI_dif, nI_bit, nI_shr, nI_eq, nI_ltI, nI_leI, nI_eq_neg, neg_eq_nI, neg_eq_neg, neg_lt_nI, nI_lt_neg, neg_le_nI, nI_le_neg, cv_eq2, nI_tn0, nI_tn1, Option.bind_some, if_pos, if_neg, Nat.not_lt_zero, eq_self, if_true, if_false, Nat.zero_le, Nat.add_sub_cancel, nI_m1, nI_dn, MR 0]
theorem MS_pt (MS : MoS h S) {w c : Nat} (hw : w < 12) (hc : c < 24) : gI h 37 0 (2 + 26 * w + 2 + c) = nI (pt S w c) := by
  rw [MS _ (by omega)]
  unfold pt
  exact congrArg (fun x => nI (S x)) (by omega)
theorem MS_yr (MS : MoS h S) {w : Nat} (hw : w < 12) : gI h 37 0 (2 + 26 * w + 1) = nI (yr S w) := by
  rw [MS _ (by omega)]
  unfold yr
  exact congrArg (fun x => nI (S x)) (by omega)
theorem MS_hd (MS : MoS h S) {w : Nat} (hw : w < 12) : gI h 37 0 (2 + 26 * w + 0) = nI (hd S w) := by
  rw [MS _ (by omega)]
  rfl
theorem m_paintOf (MS : MoS h S) {w c : Nat} (hw : w < 12) (hc : c < 24) (hp : pt S w c ≤ 5) : jM_paintOf h (nI w) (nI c) = some (cv (pt S w c)) := by
  unfold jM_paintOf
  simp (disch := omega) only [litI, jb_eq, inb_nI, nI_clamp, nI_add, pk_sub, pk_mul, nI_and, nI_or, and31, sh1, nI_dif, nI_bit, nI_shr, nI_eq, nI_ltI, nI_leI, nI_eq_neg, neg_eq_nI, neg_eq_neg, neg_lt_nI, nI_lt_neg, neg_le_nI, nI_le_neg, cv_eq2, nI_tn0, nI_tn1, Option.bind_some, if_pos, if_neg, Nat.not_lt_zero, eq_self, if_true, if_false, Nat.zero_le, Nat.add_sub_cancel, nI_m1, nI_dn, MS_pt MS hw hc]
  by_cases h0 : pt S w c = 0
  · rw [if_pos h0, h0]; rfl
  · rw [if_neg h0, cv_pos (by omega)]
theorem m_yearOf (MS : MoS h S) {w : Nat} (hw : w < 12) : jM_yearOf h (nI w) = some (nI (yr S w)) := by
  unfold jM_yearOf
  simp (disch := omega) only [litI, jb_eq, inb_nI, nI_clamp, nI_add, pk_sub, pk_mul, nI_and, nI_or, and31, sh1, nI_dif, nI_bit, nI_shr, nI_eq, nI_ltI, nI_leI, nI_eq_neg, neg_eq_nI, neg_eq_neg, neg_lt_nI, nI_lt_neg, neg_le_nI, nI_le_neg, cv_eq2, nI_tn0, nI_tn1, Option.bind_some, if_pos, if_neg, Nat.not_lt_zero, eq_self, if_true, if_false, Nat.zero_le, Nat.add_sub_cancel, nI_m1, nI_dn, MS_yr MS hw]
theorem m_wantedAt (MR : MoR h R) (I : BkI R) {c : Nat} (hc : c < 24) : jM_wantedAt h (nI c) = some (cv (R (46 + c))) := by
  have hR := Rsm I
  have h1 := (I.2.2.2 c hc).1
  unfold jM_wantedAt
  simp (disch := omega) only [litI, jb_eq, inb_nI, nI_clamp, nI_add, pk_sub, pk_mul, nI_and, nI_or, and31, sh1, nI_dif, nI_bit, nI_shr, nI_eq, nI_ltI, nI_leI, nI_eq_neg, neg_eq_nI, neg_eq_neg, neg_lt_nI, nI_lt_neg, neg_le_nI, nI_le_neg, cv_eq2, nI_tn0, nI_tn1, Option.bind_some, if_pos, if_neg, Nat.not_lt_zero, eq_self, if_true, if_false, Nat.zero_le, Nat.add_sub_cancel, nI_m1, nI_dn, MR (46 + c)]
  by_cases h0 : R (46 + c) = 0
  · rw [if_pos h0, h0]; rfl
  · rw [if_neg h0, cv_pos (by omega)]
theorem m_under (MS : MoS h S) (WI : WkI R S) (I : BkI R) {c d : Nat} (hc : c < 24) (hd : d < 2 ^ 31) : jM_under h (nI c) (nI d) = some (cv (und S c (S 0) d)) := by
  have h1 := WI.1
  unfold jM_under
  simp (disch := omega) only [litI, inb_nI, nI_clamp, MS 0, if_pos]
  have key := dn_ind (P := fun n k => k ≤ S 0 → ∀ a, a ≤ d → jM_under_12 h (nI c) n (nI a) (nI k - nI 1) = some (cv (und S c k a))) (fun n _ a ha => ?_) (fun n k ih hk a ha => ?_)
  · exact key (S 0) FU (FU_lt (by omega)) (Nat.le_refl _) d (Nat.le_refl _)
  · rw [jM_under_12]
    simp (disch := omega) only [litI, jb_eq, inb_nI, nI_clamp, nI_add, pk_sub, pk_mul, nI_and, nI_or, and31, sh1, nI_dif, nI_bit, nI_shr, nI_eq, nI_ltI, nI_leI, nI_eq_neg, neg_eq_nI, neg_eq_neg, neg_lt_nI, nI_lt_neg, neg_le_nI, nI_le_neg, cv_eq2, nI_tn0, nI_tn1, Option.bind_some, if_pos, if_neg, Nat.not_lt_zero, eq_self, if_true, if_false, Nat.zero_le, Nat.add_sub_cancel, nI_m1, nI_dn]
    rfl
  · have hp := ptb WI I (r := k) (c := c) (by omega) hc
    rw [jM_under_12]
    simp (disch := omega) only [litI, jb_eq, inb_nI, nI_clamp, nI_add, pk_sub, pk_mul, nI_and, nI_or, and31, sh1, nI_dif, nI_bit, nI_shr, nI_eq, nI_ltI, nI_leI, nI_eq_neg, neg_eq_nI, neg_eq_neg, neg_lt_nI, nI_lt_neg, neg_le_nI, nI_le_neg, cv_eq2, nI_tn0, nI_tn1, Option.bind_some, if_pos, if_neg, Nat.not_lt_zero, eq_self, if_true, if_false, Nat.zero_le, Nat.add_sub_cancel, nI_m1, nI_dn, m_paintOf MS (w := k) (by omega) hc hp]
    unfold und
    by_cases h0 : pt S k c = 0
    · rw [if_pos h0, if_pos h0]
      exact ih (by omega) a ha
    · rw [if_neg h0, if_neg h0]
      by_cases h2 : a = 0
      · rw [if_pos h2, if_pos h2]
        rfl
      · rw [if_neg h2, if_neg h2, ih (by omega) (a - 1) (by omega)]
theorem shn_le (WI : WkI R S) (I : BkI R) {c : Nat} (hc : c < 24) : shn S c ≤ R 4 := by
  have hu := und_le S c (S 0) 0
  unfold shn
  by_cases h0 : und S c (S 0) 0 = 0
  · rw [if_pos h0]; exact Nat.zero_le _
  · rw [if_neg h0]
    exact ((WI.2.2.2 (und S c (S 0) 0 - 1) (by omega)).2.2 c hc).1
theorem m_shown (MS : MoS h S) (WI : WkI R S) (I : BkI R) {c : Nat} (hc : c < 24) : jM_shown h (nI c) = some (cv (shn S c)) := by
  have h1 := WI.1
  have hu := und_le S c (S 0) 0
  unfold jM_shown shn
  simp (disch := omega) only [litI, jb_eq, inb_nI, nI_clamp, nI_add, pk_sub, pk_mul, nI_and, nI_or, and31, sh1, nI_dif, nI_bit, nI_shr, nI_eq, nI_ltI, nI_leI, nI_eq_neg, neg_eq_nI, neg_eq_neg, neg_lt_nI, nI_lt_neg, neg_le_nI, nI_le_neg, cv_eq2, nI_tn0, nI_tn1, Option.bind_some, if_pos, if_neg, Nat.not_lt_zero, eq_self, if_true, if_false, Nat.zero_le, Nat.add_sub_cancel, nI_m1, nI_dn, m_under MS WI I hc]
  by_cases h0 : und S c (S 0) 0 = 0
  · rw [if_pos h0, if_pos h0]; rfl
  · rw [if_neg h0, if_neg h0, cv_pos (by omega), m_paintOf MS (by omega) hc (ptb WI I (by omega) hc)]
    rfl
theorem m_isAlike (MR : MoR h R) (MS : MoS h S) (WI : WkI R S) (I : BkI R) {c : Nat} (hc : c < 24) : jM_isAlike h (nI c) = some (nI (if R (46 + c) ≠ 0 ∧ shn S c = R (46 + c) then 1 else 0)) := by
  have hR := Rsm I
  have h1 := (I.2.2.2 c hc).1
  have h2 := shn_le WI I hc
  unfold jM_isAlike
  simp (disch := omega) only [litI, jb_eq, inb_nI, nI_clamp, nI_add, pk_sub, pk_mul, nI_and, nI_or, and31, sh1, nI_dif, nI_bit, nI_shr, nI_eq, nI_ltI, nI_leI, nI_eq_neg, neg_eq_nI, neg_eq_neg, neg_lt_nI, nI_lt_neg, neg_le_nI, nI_le_neg, cv_eq2, nI_tn0, nI_tn1, Option.bind_some, if_pos, if_neg, Nat.not_lt_zero, eq_self, if_true, if_false, Nat.zero_le, Nat.add_sub_cancel, nI_m1, nI_dn, m_wantedAt MR I hc, m_shown MS WI I hc, cv_inj]
  by_cases h0 : R (46 + c) = 0
  · simp [h0]
  · by_cases h3 : shn S c = R (46 + c)
    · simp [h0, h3]
    · simp [h0, h3]
theorem m_isCell_t (MR : MoR h R) (I : BkI R) (hb : gI h 32 0 14 = nI (hbk R)) {x y : Nat} (hx : x < R 0) (hy : y < R 1) : jM_isCell h (nI x) (nI y) = some (nI 1) := by
  have hR := Rsm I
  have h0 : hbk R = 1 := by
    unfold hbk
    rw [if_neg (by omega)]
  unfold jM_isCell
  simp (disch := omega) only [litI, hb, h0, inb_nI, nI_clamp, MR 0, MR 1, m_in_t hx, m_in_t hy, Option.bind_some, if_true, nI_eq, if_neg]
theorem m_isCell_f (MR : MoR h R) (I : BkI R) (hb : gI h 32 0 14 = nI (hbk R)) {v1 v2 : Int32} (hn : ¬ (inN v1 (R 0) ∧ inN v2 (R 1))) : jM_isCell h v1 v2 = some (nI 0) := by
  have hR := Rsm I
  unfold jM_isCell
  simp (disch := omega) only [litI, hb, inb_nI, nI_clamp, MR 0, MR 1, Option.bind_some, if_true, hbk]
  by_cases h0 : R 0 = 0
  · simp only [h0, if_true]
  · rw [if_neg h0]
    by_cases h1 : inN v1 (R 0)
    · obtain ⟨x, hx, rfl⟩ := h1
      rw [m_in_t hx (by omega), m_in_f (by omega) (fun z => hn ⟨⟨x, hx, rfl⟩, z⟩)]
      rfl
    · rw [m_in_f (by omega) h1]
      rfl
theorem m_isWork_t (MS : MoS h S) (WI : WkI R S) (hb : gI h 32 0 14 = nI (hbk R)) {w : Nat} (hw : w < S 0) : jM_isWork h (nI w) = some (nI 1) := by
  have h1 := WI.1
  have h2 : hbk R = 1 := by
    unfold hbk
    rw [if_neg (fun z => by have := (WI.2.2.1 z).1; omega)]
  unfold jM_isWork
  simp (disch := omega) only [litI, hb, h2, inb_nI, nI_clamp, MS 0, m_in_t hw, Option.bind_some, if_true, nI_eq, if_neg]
theorem m_isWork_f (MS : MoS h S) (WI : WkI R S) (hb : gI h 32 0 14 = nI (hbk R)) {v : Int32} (hw : ¬ inN v (S 0)) : jM_isWork h v = some (nI 0) := by
  have h1 := WI.1
  unfold jM_isWork
  simp (disch := omega) only [litI, hb, inb_nI, nI_clamp, MS 0, Option.bind_some, if_true]
  rw [m_in_f (by omega) hw]
  simp only [Option.bind_some, if_true]
  split <;> rfl
theorem m_painted (MR : MoR h R) (MS : MoS h S) (WI : WkI R S) (I : BkI R) {r : Nat} (hr : r < S 0 + S 1) : jM_painted h (nI r) = some (nI (cel S r)) := by
  have hR := nC_le I
  have h1 := WI.1
  unfold jM_painted
  rw [← cel_eq WI I hr]
  refine up_ind (P := fun n k => jM_painted_4 h (nI r) n (nI (bM (fun c => decide (pt S r c ≠ 0)) k)) (nI k) = some (nI (bM (fun c => decide (pt S r c ≠ 0)) (nC R)))) (nC R) (fun n => ?_) (fun n k hk ih => ?_) (nC R) 0 FU (by omega) (FU_lt (by omega))
  · rw [jM_painted_4]
    simp (disch := omega) only [litI, jb_eq, inb_nI, nI_clamp, nI_add, pk_sub, pk_mul, nI_and, nI_or, and31, sh1, nI_dif, nI_bit, nI_shr, nI_eq, nI_ltI, nI_leI, nI_eq_neg, neg_eq_nI, neg_eq_neg, neg_lt_nI, nI_lt_neg, neg_le_nI, nI_le_neg, cv_eq2, nI_tn0, nI_tn1, Option.bind_some, if_pos, if_neg, Nat.not_lt_zero, eq_self, if_true, if_false, Nat.zero_le, Nat.add_sub_cancel, nI_m1, nI_dn, m_cellMany MR]
  · have hp := ptb WI I hr (c := k) (by omega)
    rw [jM_painted_4]
    simp (disch := omega) only [litI, jb_eq, inb_nI, nI_clamp, nI_add, pk_sub, pk_mul, nI_and, nI_or, and31, sh1, nI_dif, nI_bit, nI_shr, nI_eq, nI_ltI, nI_leI, nI_eq_neg, neg_eq_nI, neg_eq_neg, neg_lt_nI, nI_lt_neg, neg_le_nI, nI_le_neg, cv_eq2, nI_tn0, nI_tn1, Option.bind_some, if_pos, if_neg, Nat.not_lt_zero, eq_self, if_true, if_false, Nat.zero_le, Nat.add_sub_cancel, nI_m1, nI_dn, m_cellMany MR, m_paintOf MS (w := r) (c := k) (by omega) (by omega) hp]
    by_cases h0 : pt S r k = 0
    · rw [if_pos h0]
      rw [bM_f (by simp [h0])] at ih
      rw [Nat.or_zero]
      exact ih
    · rw [if_neg h0]
      rw [bM_t (by simp [h0])] at ih
      exact ih
theorem m_shownIn (MR : MoR h R) (MS : MoS h S) (WI : WkI R S) (I : BkI R) {c y : Nat} (hc : c < 24) (hy : y < 1000) : jM_shownIn h (nI c) (nI y) = some (cv (cin R S c y (S 0))) := by
  have h1 := WI.1
  have hR := Rsm I
  unfold jM_shownIn
  simp (disch := omega) only [litI, inb_nI, nI_clamp, MS 0, if_pos]
  have key := dn_ind (P := fun n k => k ≤ S 0 → jM_shownIn_9 h (nI c) (nI y) n (nI k - nI 1) = some (cv (cin R S c y k))) (fun n _ => ?_) (fun n k ih hk => ?_)
  · exact key (S 0) FU (FU_lt (by omega)) (Nat.le_refl _)
  · rw [jM_shownIn_9]
    simp (disch := omega) only [litI, jb_eq, inb_nI, nI_clamp, nI_add, pk_sub, pk_mul, nI_and, nI_or, and31, sh1, nI_dif, nI_bit, nI_shr, nI_eq, nI_ltI, nI_leI, nI_eq_neg, neg_eq_nI, neg_eq_neg, neg_lt_nI, nI_lt_neg, neg_le_nI, nI_le_neg, cv_eq2, nI_tn0, nI_tn1, Option.bind_some, if_pos, if_neg, Nat.not_lt_zero, eq_self, if_true, if_false, Nat.zero_le, Nat.add_sub_cancel, nI_m1, nI_dn]
    rfl
  · have ih := ih (by omega)
    have hp := ((WI.2.2.2 k (by omega)).2.2 c hc).1
    have hyr := (WI.2.2.2 k (by omega)).2.1
    rw [jM_shownIn_9]
    simp (disch := omega) only [litI, jb_eq, inb_nI, nI_clamp, nI_add, pk_sub, pk_mul, nI_and, nI_or, and31, sh1, nI_dif, nI_bit, nI_shr, nI_eq, nI_ltI, nI_leI, nI_eq_neg, neg_eq_nI, neg_eq_neg, neg_lt_nI, nI_lt_neg, neg_le_nI, nI_le_neg, cv_eq2, nI_tn0, nI_tn1, Option.bind_some, if_pos, if_neg, Nat.not_lt_zero, eq_self, if_true, if_false, Nat.zero_le, Nat.add_sub_cancel, nI_m1, nI_dn, m_paintOf MS (w := k) (by omega) hc (by omega), m_yearOf MS (w := k) (by omega)]
    unfold cin
    by_cases h0 : pt S k c = 0
    · rw [if_pos h0, if_pos h0]; exact ih
    · rw [if_neg h0, if_neg h0]
      by_cases h2 : y < yr S k
      · rw [if_neg (by omega), if_pos h2]; exact ih
      · rw [if_pos (by omega), if_neg h2, cv_pos (by omega)]
        have h3 := (I.2.1 (pt S k c - 1) (by omega)).2.1
        simp (disch := omega) only [litI, jb_eq, inb_nI, nI_clamp, nI_add, pk_sub, pk_mul, nI_and, nI_or, and31, sh1, nI_dif, nI_bit, nI_shr, nI_eq, nI_ltI, nI_leI, nI_eq_neg, neg_eq_nI, neg_eq_neg, neg_lt_nI, nI_lt_neg, neg_le_nI, nI_le_neg, cv_eq2, nI_tn0, nI_tn1, Option.bind_some, if_pos, if_neg, Nat.not_lt_zero, eq_self, if_true, if_false, Nat.zero_le, Nat.add_sub_cancel, nI_m1, nI_dn, MR (12 + (pt S k c - 1))]
        rw [show 12 + (pt S k c - 1) = 11 + pt S k c by omega] at h3 ⊢
        by_cases h4 : R (11 + pt S k c) = 0
        · rw [if_pos h4, if_pos (Or.inl h4), cv_pos (by omega)]
        · rw [if_neg h4]
          by_cases h5 : y - yr S k < R (11 + pt S k c)
          · rw [if_pos h5, if_pos (Or.inr h5), cv_pos (by omega)]
          · rw [if_neg h5, if_neg (by omega)]; exact ih
theorem m_reliefOf (MR : MoR h R) (MS : MoS h S) (WI : WkI R S) (I : BkI R) {c : Nat} (hc : c < 24) : jM_reliefOf h (nI c) = some (nI (rlf R S c (S 0))) := by
  have h1 := WI.1
  have hR := Rsm I
  unfold jM_reliefOf
  refine up_ind (P := fun n k => jM_reliefOf_4 h (nI c) n (nI (rlf R S c k)) (nI k) = some (nI (rlf R S c (S 0)))) (S 0) (fun n => ?_) (fun n k hk ih => ?_) (S 0) 0 FU (by omega) (FU_lt (by omega))
  · rw [jM_reliefOf_4]
    simp (disch := omega) only [litI, jb_eq, inb_nI, nI_clamp, nI_add, pk_sub, pk_mul, nI_and, nI_or, and31, sh1, nI_dif, nI_bit, nI_shr, nI_eq, nI_ltI, nI_leI, nI_eq_neg, neg_eq_nI, neg_eq_neg, neg_lt_nI, nI_lt_neg, neg_le_nI, nI_le_neg, cv_eq2, nI_tn0, nI_tn1, Option.bind_some, if_pos, if_neg, Nat.not_lt_zero, eq_self, if_true, if_false, Nat.zero_le, Nat.add_sub_cancel, nI_m1, nI_dn, MS 0]
  · have hp := ((WI.2.2.2 k (by omega)).2.2 c hc).1
    rw [jM_reliefOf_4]
    simp (disch := omega) only [litI, jb_eq, inb_nI, nI_clamp, nI_add, pk_sub, pk_mul, nI_and, nI_or, and31, sh1, nI_dif, nI_bit, nI_shr, nI_eq, nI_ltI, nI_leI, nI_eq_neg, neg_eq_nI, neg_eq_neg, neg_lt_nI, nI_lt_neg, neg_le_nI, nI_le_neg, cv_eq2, nI_tn0, nI_tn1, Option.bind_some, if_pos, if_neg, Nat.not_lt_zero, eq_self, if_true, if_false, Nat.zero_le, Nat.add_sub_cancel, nI_m1, nI_dn, MS 0, m_paintOf MS (w := k) (by omega) hc (by omega)]
    rw [rlf] at ih
    by_cases h0 : pt S k c = 0
    · rw [if_pos h0]
      rw [if_pos h0] at ih
      exact ih
    · rw [if_neg h0]
      rw [if_neg h0] at ih
      rw [cv_pos (by omega)]
      simp (disch := omega) only [litI, jb_eq, inb_nI, nI_clamp, nI_add, pk_sub, pk_mul, nI_and, nI_or, and31, sh1, nI_dif, nI_bit, nI_shr, nI_eq, nI_ltI, nI_leI, nI_eq_neg, neg_eq_nI, neg_eq_neg, neg_lt_nI, nI_lt_neg, neg_le_nI, nI_le_neg, cv_eq2, nI_tn0, nI_tn1, Option.bind_some, if_pos, if_neg, Nat.not_lt_zero, eq_self, if_true, if_false, Nat.zero_le, Nat.add_sub_cancel, nI_m1, nI_dn, MR (7 + (pt S k c - 1))]
      rw [show 7 + (pt S k c - 1) = 6 + pt S k c by omega]
      exact ih
end M
