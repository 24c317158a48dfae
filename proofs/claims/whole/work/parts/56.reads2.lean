/-! ===== pure: what is asked, with loops ===== -/
theorem cnt_t {p : Nat → Bool} {n : Nat} (h : p n = true) : cnt p (n + 1) = cnt p n + 1 := by
  show cnt p n + (p n).toNat = _
  rw [h]; rfl
theorem cnt_f {p : Nat → Bool} {n : Nat} (h : p n = false) : cnt p (n + 1) = cnt p n := by
  show cnt p n + (p n).toNat = _
  rw [h]; rfl
section L
variable {h : AH} {R S : Nat → Nat}
theorem c_area21 (B : BkC h (gB h 0).toNat R) (I : BkI R) (W : WkC h (gB h 1).toNat S) (WI : WkI R S) {c : Nat} (hc : c < 5) : jX_area_21 (nI c) FU (nI 0) (nI 0) h = some (nI (cnt (fun k => decide (shn S k = c + 1)) (nC R)), cX h 0) := by
  have hR := Rsm I
  refine up_ind (P := fun n k => jX_area_21 (nI c) n (nI (cnt (fun k => decide (shn S k = c + 1)) k)) (nI k) h = some (nI (cnt (fun k => decide (shn S k = c + 1)) (nC R)), cX h 0)) (nC R) (fun n => ?_) (fun n k hk ih => ?_) (nC R) 0 FU (by omega) (FU_lt (by omega))
  · rw [jX_area_21]
    simp (disch := omega) only [litI, jbn, inb_nI, nI_clamp, nI_add, pk_sub, pk_mul, nI_and, nI_or, and31, sh1, nI_dif, nI_bit, nI_shr, nI_eq, nI_ltI, nI_leI, nI_eq_neg, neg_eq_nI, neg_eq_neg, neg_lt_nI, nI_lt_neg, neg_le_nI, nI_le_neg, cv_eq2, nI_tn0, nI_tn1, obind, if_pos, if_neg, Nat.not_lt_zero, eq_self, if_true, if_false, Nat.zero_le, Nat.add_sub_cancel, nI_m1, nI_dn, c_cells B, c_accept]
  · have h2 := shn_le WI I (c := k) (by omega)
    rw [jX_area_21]
    simp (disch := omega) only [litI, jbn, inb_nI, nI_clamp, nI_add, pk_sub, pk_mul, nI_and, nI_or, and31, sh1, nI_dif, nI_bit, nI_shr, nI_eq, nI_ltI, nI_leI, nI_eq_neg, neg_eq_nI, neg_eq_neg, neg_lt_nI, nI_lt_neg, neg_le_nI, nI_le_neg, cv_eq2, nI_tn0, nI_tn1, obind, if_pos, if_neg, Nat.not_lt_zero, eq_self, if_true, if_false, Nat.zero_le, Nat.add_sub_cancel, nI_m1, nI_dn, c_cells B, c_shownAt W WI I (c := k), cv_eq]
    by_cases h0 : shn S k = c + 1
    · rw [if_pos h0]
      rw [cnt_t (by simp [h0])] at ih
      exact ih
    · rw [if_neg h0]
      rw [cnt_f (by simp [h0])] at ih
      exact ih
theorem m_area37 (MR : MoR h R) (MS : MoS h S) (WI : WkI R S) (I : BkI R) {c : Nat} (hc : c < 5) : jM_area_37 (nI c) FU (nI 0) (nI 0) h = some (nI (cnt (fun k => decide (shn S k = c + 1)) (nC R)), h) := by
  have hR := Rsm I
  refine up_ind (P := fun n k => jM_area_37 (nI c) n (nI (cnt (fun k => decide (shn S k = c + 1)) k)) (nI k) h = some (nI (cnt (fun k => decide (shn S k = c + 1)) (nC R)), h)) (nC R) (fun n => ?_) (fun n k hk ih => ?_) (nC R) 0 FU (by omega) (FU_lt (by omega))
  · rw [jM_area_37]
    simp (disch := omega) only [litI, jbn, inb_nI, nI_clamp, nI_add, pk_sub, pk_mul, nI_and, nI_or, and31, sh1, nI_dif, nI_bit, nI_shr, nI_eq, nI_ltI, nI_leI, nI_eq_neg, neg_eq_nI, neg_eq_neg, neg_lt_nI, nI_lt_neg, neg_le_nI, nI_le_neg, cv_eq2, nI_tn0, nI_tn1, obind, if_pos, if_neg, Nat.not_lt_zero, eq_self, if_true, if_false, Nat.zero_le, Nat.add_sub_cancel, nI_m1, nI_dn, m_cellMany MR]
  · have h2 := shn_le WI I (c := k) (by omega)
    rw [jM_area_37]
    simp (disch := omega) only [litI, jbn, inb_nI, nI_clamp, nI_add, pk_sub, pk_mul, nI_and, nI_or, and31, sh1, nI_dif, nI_bit, nI_shr, nI_eq, nI_ltI, nI_leI, nI_eq_neg, neg_eq_nI, neg_eq_neg, neg_lt_nI, nI_lt_neg, neg_le_nI, nI_le_neg, cv_eq2, nI_tn0, nI_tn1, obind, if_pos, if_neg, Nat.not_lt_zero, eq_self, if_true, if_false, Nat.zero_le, Nat.add_sub_cancel, nI_m1, nI_dn, m_cellMany MR, m_shown MS WI I (c := k), cv_eq, Nat.add_zero]
    by_cases h0 : shn S k = c + 1
    · rw [if_pos h0]
      rw [cnt_t (by simp [h0])] at ih
      exact ih
    · rw [if_neg h0]
      rw [cnt_f (by simp [h0])] at ih
      exact ih
def shp (S : Nat → Nat) (c k : Nat) : Bool := decide (und S k (S 0) 0 ≠ 0) && decide (hd S (und S k (S 0) 0 - 1) = c)
theorem c_share21 (B : BkC h (gB h 0).toNat R) (I : BkI R) (W : WkC h (gB h 1).toNat S) (WI : WkI R S) {c : Nat} (hc : c < 5) : jX_share_21 (nI c) FU (nI 0) (nI 0) h = some (nI (cnt (shp S c) (nC R)), cX h 0) := by
  have hR := Rsm I
  refine up_ind (P := fun n k => jX_share_21 (nI c) n (nI (cnt (shp S c) k)) (nI k) h = some (nI (cnt (shp S c) (nC R)), cX h 0)) (nC R) (fun n => ?_) (fun n k hk ih => ?_) (nC R) 0 FU (by omega) (FU_lt (by omega))
  · rw [jX_share_21]
    simp (disch := omega) only [litI, jbn, inb_nI, nI_clamp, nI_add, pk_sub, pk_mul, nI_and, nI_or, and31, sh1, nI_dif, nI_bit, nI_shr, nI_eq, nI_ltI, nI_leI, nI_eq_neg, neg_eq_nI, neg_eq_neg, neg_lt_nI, nI_lt_neg, neg_le_nI, nI_le_neg, cv_eq2, nI_tn0, nI_tn1, obind, if_pos, if_neg, Nat.not_lt_zero, eq_self, if_true, if_false, Nat.zero_le, Nat.add_sub_cancel, nI_m1, nI_dn, c_cells B, c_accept]
  · have hu := und_le S k (S 0) 0
    rw [jX_share_21]
    simp (disch := omega) only [litI, c_cells B, obind, nI_ltI, if_pos, c_shownHandAt W WI I (c := k), nI_add]
    by_cases h0 : und S k (S 0) 0 = 0
    · rw [if_pos h0, if_neg (by rw [neg_eq_nI (by omega) (by omega) (by omega)]; exact fun z => z)]
      rw [cnt_f (by simp [shp, h0])] at ih
      exact ih
    · have hh := (WI.2.2.2 (und S k (S 0) 0 - 1) (by omega)).1
      rw [if_neg h0]
      simp (disch := omega) only [nI_eq]
      by_cases h2 : hd S (und S k (S 0) 0 - 1) = c
      · rw [if_pos h2]
        rw [cnt_t (by simp [shp, h0, h2])] at ih
        exact ih
      · rw [if_neg h2]
        rw [cnt_f (by simp [shp, h2])] at ih
        exact ih
theorem m_share37 (MR : MoR h R) (MS : MoS h S) (WI : WkI R S) (I : BkI R) {c : Nat} (hc : c < 5) : jM_share_37 (nI c) FU (nI 0) (nI 0) h = some (nI (cnt (shp S c) (nC R)), h) := by
  have hR := Rsm I
  have hw := WI.1
  refine up_ind (P := fun n k => jM_share_37 (nI c) n (nI (cnt (shp S c) k)) (nI k) h = some (nI (cnt (shp S c) (nC R)), h)) (nC R) (fun n => ?_) (fun n k hk ih => ?_) (nC R) 0 FU (by omega) (FU_lt (by omega))
  · rw [jM_share_37]
    simp (disch := omega) only [litI, jbn, inb_nI, nI_clamp, nI_add, pk_sub, pk_mul, nI_and, nI_or, and31, sh1, nI_dif, nI_bit, nI_shr, nI_eq, nI_ltI, nI_leI, nI_eq_neg, neg_eq_nI, neg_eq_neg, neg_lt_nI, nI_lt_neg, neg_le_nI, nI_le_neg, cv_eq2, nI_tn0, nI_tn1, obind, if_pos, if_neg, Nat.not_lt_zero, eq_self, if_true, if_false, Nat.zero_le, Nat.add_sub_cancel, nI_m1, nI_dn, m_cellMany MR]
  · have hu := und_le S k (S 0) 0
    rw [jM_share_37]
    unfold jM_share_83
    simp (disch := omega) only [litI, m_cellMany MR, obind, nI_ltI, if_pos, m_under MS WI I (c := k), nI_add, cv_eq2, Nat.add_zero]
    by_cases h0 : und S k (S 0) 0 = 0
    · rw [if_pos h0]
      rw [cnt_f (by simp [shp, h0])] at ih
      exact ih
    · have hh := (WI.2.2.2 (und S k (S 0) 0 - 1) (by omega)).1
      have hg := MS_hd MS (w := und S k (S 0) 0 - 1) (by omega)
      rw [Nat.add_zero] at hg
      rw [if_neg h0, cv_pos (by omega)]
      simp (disch := omega) only [pk_mul, nI_add, inb_nI, nI_clamp, if_true, Nat.add_zero, hg, nI_eq]
      by_cases h2 : hd S (und S k (S 0) 0 - 1) = c
      · rw [if_pos h2]
        rw [cnt_t (by simp [shp, h0, h2])] at ih
        exact ih
      · rw [if_neg h2]
        rw [cnt_f (by simp [shp, h2])] at ih
        exact ih
def olp (S : Nat → Nat) (y k : Nat) : Bool := decide (und S k (S 0) 0 ≠ 0) && decide (yr S (und S k (S 0) 0 - 1) ≤ y)
theorem c_old33 (B : BkC h (gB h 0).toNat R) (I : BkI R) (W : WkC h (gB h 1).toNat S) (WI : WkI R S) {y : Nat} (hy : y < 1000) : jX_old_33 (nI y) FU (nI 0) (nI 0) h = some (nI (cnt (olp S y) (nC R)), cX h 0) := by
  have hR := Rsm I
  refine up_ind (P := fun n k => jX_old_33 (nI y) n (nI (cnt (olp S y) k)) (nI k) h = some (nI (cnt (olp S y) (nC R)), cX h 0)) (nC R) (fun n => ?_) (fun n k hk ih => ?_) (nC R) 0 FU (by omega) (FU_lt (by omega))
  · rw [jX_old_33]
    simp (disch := omega) only [litI, jbn, inb_nI, nI_clamp, nI_add, pk_sub, pk_mul, nI_and, nI_or, and31, sh1, nI_dif, nI_bit, nI_shr, nI_eq, nI_ltI, nI_leI, nI_eq_neg, neg_eq_nI, neg_eq_neg, neg_lt_nI, nI_lt_neg, neg_le_nI, nI_le_neg, cv_eq2, nI_tn0, nI_tn1, obind, if_pos, if_neg, Nat.not_lt_zero, eq_self, if_true, if_false, Nat.zero_le, Nat.add_sub_cancel, nI_m1, nI_dn, c_cells B, c_accept]
  · have hu := und_le S k (S 0) 0
    have hw := WI.1
    rw [jX_old_33]
    simp (disch := omega) only [litI, c_cells B, obind, nI_ltI, if_pos, c_below W WI I (c := k), nI_add, cv_eq2]
    by_cases h0 : und S k (S 0) 0 = 0
    · rw [if_pos h0]
      rw [cnt_f (by simp [olp, h0])] at ih
      exact ih
    · have hh := (WI.2.2.2 (und S k (S 0) 0 - 1) (by omega)).2.1
      rw [if_neg h0, cv_pos (by omega)]
      simp (disch := omega) only [c_yearOf W WI, obind, nI_leI]
      by_cases h2 : yr S (und S k (S 0) 0 - 1) ≤ y
      · rw [if_pos h2]
        rw [cnt_t (by simp [olp, h0, h2])] at ih
        exact ih
      · rw [if_neg h2]
        rw [cnt_f (by simp [olp, h2])] at ih
        exact ih
theorem m_old38 (MR : MoR h R) (MS : MoS h S) (WI : WkI R S) (I : BkI R) {y : Nat} (hy : y < 1000) : jM_old_38 (nI y) FU (nI 0) (nI 0) h = some (nI (cnt (olp S y) (nC R)), h) := by
  have hR := Rsm I
  have hw := WI.1
  refine up_ind (P := fun n k => jM_old_38 (nI y) n (nI (cnt (olp S y) k)) (nI k) h = some (nI (cnt (olp S y) (nC R)), h)) (nC R) (fun n => ?_) (fun n k hk ih => ?_) (nC R) 0 FU (by omega) (FU_lt (by omega))
  · rw [jM_old_38]
    simp (disch := omega) only [litI, jbn, inb_nI, nI_clamp, nI_add, pk_sub, pk_mul, nI_and, nI_or, and31, sh1, nI_dif, nI_bit, nI_shr, nI_eq, nI_ltI, nI_leI, nI_eq_neg, neg_eq_nI, neg_eq_neg, neg_lt_nI, nI_lt_neg, neg_le_nI, nI_le_neg, cv_eq2, nI_tn0, nI_tn1, obind, if_pos, if_neg, Nat.not_lt_zero, eq_self, if_true, if_false, Nat.zero_le, Nat.add_sub_cancel, nI_m1, nI_dn, m_cellMany MR]
  · have hu := und_le S k (S 0) 0
    rw [jM_old_38]
    unfold jM_old_76
    simp (disch := omega) only [litI, m_cellMany MR, obind, nI_ltI, if_pos, m_under MS WI I (c := k), nI_add, cv_eq2, Nat.add_zero]
    by_cases h0 : und S k (S 0) 0 = 0
    · rw [if_pos h0]
      rw [cnt_f (by simp [olp, h0])] at ih
      exact ih
    · have hh := (WI.2.2.2 (und S k (S 0) 0 - 1) (by omega)).2.1
      rw [if_neg h0, cv_pos (by omega)]
      simp (disch := omega) only [m_yearOf MS, obind, nI_leI]
      by_cases h2 : yr S (und S k (S 0) 0 - 1) ≤ y
      · rw [if_pos h2]
        rw [cnt_t (by simp [olp, h0, h2])] at ih
        exact ih
      · rw [if_neg h2]
        rw [cnt_f (by simp [olp, h2])] at ih
        exact ih
theorem m_left22 (MR : MoR h R) (MS : MoS h S) (WI : WkI R S) (I : BkI R) {w : Nat} (hw : w < S 0) : jM_left_22 (nI w) FU (nI 0) (nI 0) h = some (nI (bP (shw S w (S 0)) 24), h) := by
  have hR := Rsm I
  have h1 := WI.1
  have hlt : shw S w (S 0) < 2 ^ nC R := by rw [← shw_eq WI I w]; exact bM_lt _ _
  rw [bP_up hlt hR.2.2.2.2.2.2.2]
  refine up_ind (P := fun n k => jM_left_22 (nI w) n (nI (bP (shw S w (S 0)) k)) (nI k) h = some (nI (bP (shw S w (S 0)) (nC R)), h)) (nC R) (fun n => ?_) (fun n k hk ih => ?_) (nC R) 0 FU (by omega) (FU_lt (by omega))
  · rw [jM_left_22]
    simp (disch := omega) only [litI, jbn, inb_nI, nI_clamp, nI_add, pk_sub, pk_mul, nI_and, nI_or, and31, sh1, nI_dif, nI_bit, nI_shr, nI_eq, nI_ltI, nI_leI, nI_eq_neg, neg_eq_nI, neg_eq_neg, neg_lt_nI, nI_lt_neg, neg_le_nI, nI_le_neg, cv_eq2, nI_tn0, nI_tn1, obind, if_pos, if_neg, Nat.not_lt_zero, eq_self, if_true, if_false, Nat.zero_le, Nat.add_sub_cancel, nI_m1, nI_dn, m_cellMany MR]
  · have hu := und_le S k (S 0) 0
    have ht : (shw S w (S 0)).testBit k = decide (und S k (S 0) 0 = w + 1) := by
      unfold shw
      rw [bM_tb]
      simp [show k < 24 by omega]
    rw [bP, ht] at ih
    rw [jM_left_22]
    simp (disch := omega) only [litI, m_cellMany MR, obind, nI_ltI, if_pos, m_under MS WI I (c := k), nI_add, cv_eq, Nat.add_zero]
    by_cases h0 : und S k (S 0) 0 = w + 1
    · rw [if_pos h0]
      simp only [h0, decide_true, Bool.toNat_true] at ih
      exact ih
    · rw [if_neg h0]
      simp only [h0, decide_false, Bool.toNat_false, Nat.add_zero] at ih
      exact ih
/-- the first forged of those from w on: 0 none, else one more -/
def fgf (R S : Nat → Nat) : Nat → Nat → Nat
  | 0, _ => 0
  | d + 1, w => if unt R S w = 0 then fgf R S d (w + 1) else w + 1
theorem c_forged18 (B : BkC h (gB h 0).toNat R) (I : BkI R) (W : WkC h (gB h 1).toNat S) (WI : WkI R S) : jX_forged_18 FU (nI 0) h = some (cv (fgf R S (S 0) 0), cX h 0) := by
  have hR := Rsm I
  have hw := WI.1
  refine up_ind (P := fun n k => jX_forged_18 n (nI k) h = some (cv (fgf R S (S 0 - k) k), cX h 0)) (S 0) (fun n => ?_) (fun n k hk ih => ?_) (S 0) 0 FU (by omega) (FU_lt (by omega))
  · rw [jX_forged_18, Nat.sub_self]
    simp (disch := omega) only [litI, W.1, nI_ltI, if_neg, c_accept, obind]
    rfl
  · have hu := lt24 I (unt_lt R S k)
    rw [jX_forged_18, show S 0 - k = (S 0 - (k + 1)) + 1 by omega, fgf]
    simp (disch := omega) only [litI, W.1, nI_ltI, if_pos, c_untimely B I W WI (r := k), obind, nI_eq, c_accept, nI_add]
    by_cases h0 : unt R S k = 0
    · rw [if_pos h0, if_pos h0]; exact ih
    · rw [if_neg h0, if_neg h0]; rfl
theorem m_forged19 (MR : MoR h R) (MS : MoS h S) (WI : WkI R S) (I : BkI R) : jM_forged_19 FU (nI 0) h = some (cv (fgf R S (S 0) 0), h) := by
  have hR := Rsm I
  have hw := WI.1
  refine up_ind (P := fun n k => jM_forged_19 n (nI k) h = some (cv (fgf R S (S 0 - k) k), h)) (S 0) (fun n => ?_) (fun n k hk ih => ?_) (S 0) 0 FU (by omega) (FU_lt (by omega))
  · rw [jM_forged_19, Nat.sub_self]
    simp (disch := omega) only [litI, inb_nI, nI_clamp, MS 0, nI_ltI, if_neg, if_true]
    rfl
  · have hf := fst1_le (lt24 I (unt_lt R S k))
    rw [jM_forged_19, show S 0 - k = (S 0 - (k + 1)) + 1 by omega, fgf]
    simp (disch := omega) only [litI, inb_nI, nI_clamp, MS 0, nI_ltI, if_pos, if_true, m_tooNew MR MS WI I (r := k), obind, cv_eq2, nI_add]
    by_cases h0 : unt R S k = 0
    · rw [if_pos (fst1_0.mpr h0), if_pos h0]; exact ih
    · rw [if_neg (fun z => h0 (fst1_0.mp z)), if_neg h0]; rfl
theorem m_changes60 (MR : MoR h R) (MS : MoS h S) (WI : WkI R S) (I : BkI R) {x y f s : Nat} (c2 : R 0 * y + x < 24) (hf : f ≤ 5) (hs : s ≤ 1000) : jM_changes_60 (nI x) (nI y) FU (cv f) (nI s) h = some (cv (fcy (fun z => cin R S (R 0 * y + x) z (S 0)) f (1000 - s) s), h) := by
  have hR := Rsm I
  refine up_ind (P := fun n k => jM_changes_60 (nI x) (nI y) n (cv f) (nI k) h = some (cv (fcy (fun z => cin R S (R 0 * y + x) z (S 0)) f (1000 - k) k), h)) 1000 (fun n => ?_) (fun n k hk ih => ?_) (1000 - s) s FU (by omega) (FU_lt (by omega))
  · rw [jM_changes_60]
    simp (disch := omega) only [litI, nI_leI, if_neg]
    rfl
  · have hq := Nat.le_trans (cin_le WI (y := k) c2 (Nat.le_refl _)) (by omega : R 4 ≤ 5)
    rw [jM_changes_60]
    simp (disch := omega) only [litI, nI_leI, if_pos, m_cellOf MR, obind, m_shownIn MR MS WI I c2 hk, cv_inj, nI_add]
    rw [show 1000 - k = (1000 - (k + 1)) + 1 by omega, fcy]
    by_cases h2 : cin R S (R 0 * y + x) k (S 0) = f
    · rw [if_pos h2, if_pos h2]; exact ih
    · rw [if_neg h2, if_neg h2]; rfl
/-- the bare cell so many on: 0 none, else one more -/
def bcf (S : Nat → Nat) (a : Int32) : Nat → Nat → Nat → Nat
  | 0, _, _ => 0
  | d + 1, c, k => if und S c (S 0) 0 = 0 then (if nI k = a then c + 1 else bcf S a d (c + 1) (k + 1)) else bcf S a d (c + 1) k
theorem bcf_le (S : Nat → Nat) (a : Int32) : ∀ d c k, bcf S a d c k ≤ c + d := by
  intro d
  induction d with
  | zero => intro c k; exact Nat.zero_le _
  | succ d ih =>
    intro c k
    have h1 := ih (c + 1) (k + 1)
    have h2 := ih (c + 1) k
    unfold bcf
    split
    · split <;> omega
    · omega
theorem c_bareCell (B : BkC h (gB h 0).toNat R) (I : BkI R) (W : WkC h (gB h 1).toNat S) (WI : WkI R S) (a : Int32) : jX_bareCell h a = some (cw (bcf S a (nC R) 0 0)) := by
  have hR := Rsm I
  have hw := WI.1
  unfold jX_bareCell
  refine up_ind (P := fun n c => ∀ k, k ≤ c → jX_bareCell_4 h a n (nI k) (nI c) = some (cw (bcf S a (nC R - c) c k))) (nC R) (fun n k hk => ?_) (fun n c hc ih k hk => ?_) (nC R) 0 FU (by omega) (FU_lt (by omega)) 0 (Nat.le_refl _)
  · rw [jX_bareCell_4, Nat.sub_self]
    simp (disch := omega) only [litI, c_cells B, obind, nI_ltI, if_neg]
    rfl
  · have hu := und_le S c (S 0) 0
    rw [jX_bareCell_4, show nC R - c = (nC R - (c + 1)) + 1 by omega, bcf]
    simp (disch := omega) only [litI, c_cells B, obind, nI_ltI, if_pos, c_below W WI I (c := c), cv_eq2, nI_add]
    by_cases h0 : und S c (S 0) 0 = 0
    · rw [if_pos h0, if_pos h0]
      by_cases h2 : nI k = a
      · rw [if_pos h2, if_pos h2]; rfl
      · rw [if_neg h2, if_neg h2]
        exact ih (k + 1) (by omega)
    · rw [if_neg h0, if_neg h0]
      exact ih k (by omega)
theorem m_led4 (MR : MoR h R) (MS : MoS h S) (WI : WkI R S) (I : BkI R) (hb : gI h 32 0 14 = nI (hbk R)) (a : Int32) : jM_led h a = some (nI (bcf S a (nC R) 0 0 - 1), uI h 32 0 0 (nI (if bcf S a (nC R) 0 0 = 0 then 1 else 0))) := by
  have hR := Rsm I
  have hw := WI.1
  unfold jM_led
  by_cases h0 : R 0 = 0
  · have hn : nC R = 0 := by unfold nC; rw [h0, Nat.zero_mul]
    rw [hn, show FU = 9999 + 1 from rfl, jM_led_4]
    simp (disch := omega) only [litI, hb, hbk_0 h0, nI_eq, if_true, jbn]
    rfl
  · refine up_ind (P := fun n c => ∀ k, k ≤ c → jM_led_4 a n (nI k) (nI c) h = some (nI (bcf S a (nC R - c) c k - 1), uI h 32 0 0 (nI (if bcf S a (nC R - c) c k = 0 then 1 else 0)))) (nC R) (fun n k hk => ?_) (fun n c hc ih k hk => ?_) (nC R) 0 FU (by omega) (FU_lt (by omega)) 0 (Nat.le_refl _)
    · rw [jM_led_4, Nat.sub_self]
      simp (disch := omega) only [litI, hb, hbk_1 h0, nI_eq, if_neg, m_cellMany MR, obind, nI_ltI, jbn]
      rfl
    · have hu := und_le S c (S 0) 0
      rw [jM_led_4, show nC R - c = (nC R - (c + 1)) + 1 by omega, bcf]
      simp (disch := omega) only [litI, hb, hbk_1 h0, nI_eq, if_neg, m_cellMany MR, obind, nI_ltI, if_pos, m_under MS WI I (c := c), cv_eq2, jbn, nI_add]
      by_cases h1 : und S c (S 0) 0 = 0
      · rw [if_pos h1, if_pos h1]
        by_cases h2 : nI k = a
        · rw [if_pos h2, if_pos h2]; rfl
        · rw [if_neg h2, if_neg h2]
          exact ih (k + 1) (by omega)
      · rw [if_neg h1, if_neg h1]
        exact ih k (by omega)
end L
theorem op_area : so_area Rel := by
  intro hc hm hr a
  obtain ⟨R, S, U, K, T, tp, un, im, nx, fa, tr, pl, V, A, C, M, htr, h10, h11, h4⟩ := hr
  have I := V.1; have WI := V.2.1; have B := A.1; have W := A.2.1; have MR := M.1; have MS := M.2.1; have hb := M.2.2.2.2.2.2.2.2; have MR1 := (MA_G M).1; have MS1 := (MA_G M).2.1; have hb1 := (MA_G M).2.2.2.2.2.2.2.2; have hR := Rsm I; have hw := WI.1
  by_cases hcl : inN a (R 4)
  · obtain ⟨c, hcc, rfl⟩ := hcl
    have h0 : R 0 ≠ 0 := fun z => by
      rcases I.1 with q | q <;> omega
    refine ⟨nI (cnt (fun k => decide (shn S k = c + 1)) (nC R)), cX hc 0, mG hm, ?_, ?_, RelG V A C M⟩
    · unfold jX_area
      simp (disch := omega) only [litI, obind, nI_eq, if_true, if_false, if_neg, if_pos, c_accept, c_refuse, c_deny, c_grant, m_good, m_no, m_isNot, c_hasColour_t B I hcc, c_area21 B I W WI (c := c)]
    · unfold jM_area
      simp (disch := omega) only [litI, obind, nI_eq, if_true, if_false, if_neg, if_pos, c_accept, c_refuse, c_deny, c_grant, m_good, m_no, m_isNot, hb1, hbk_1 h0, inb_nI, nI_clamp, MR1 4, m_in_t hcc, m_area37 MR1 MS1 WI I (c := c)]
  · refine ⟨-nI 1, cX hc 1, mX (mG hm) 1, ?_, ?_, RelX V A C (MA_G M) (by omega)⟩
    · unfold jX_area
      simp (disch := omega) only [litI, obind, nI_eq, if_true, if_false, if_neg, if_pos, c_accept, c_refuse, c_deny, c_grant, m_good, m_no, m_isNot, c_hasColour_f B I hcl]
    · unfold jM_area
      simp (disch := omega) only [litI, obind, nI_eq, if_true, if_false, if_neg, if_pos, c_accept, c_refuse, c_deny, c_grant, m_good, m_no, m_isNot, hb1, inb_nI, nI_clamp, MR1 4, m_in_f (n := R 4) (by omega) hcl]
      split <;> rfl
theorem op_share : so_share Rel := by
  intro hc hm hr a
  obtain ⟨R, S, U, K, T, tp, un, im, nx, fa, tr, pl, V, A, C, M, htr, h10, h11, h4⟩ := hr
  have I := V.1; have WI := V.2.1; have B := A.1; have W := A.2.1; have MR := M.1; have MS := M.2.1; have hb := M.2.2.2.2.2.2.2.2; have MR1 := (MA_G M).1; have MS1 := (MA_G M).2.1; have hb1 := (MA_G M).2.2.2.2.2.2.2.2; have hR := Rsm I; have hw := WI.1
  by_cases hcl : inN a (R 5)
  · obtain ⟨c, hcc, rfl⟩ := hcl
    have h0 : R 0 ≠ 0 := fun z => by
      rcases I.1 with q | q <;> omega
    refine ⟨nI (cnt (shp S c) (nC R)), cX hc 0, mG hm, ?_, ?_, RelG V A C M⟩
    · unfold jX_share
      simp (disch := omega) only [litI, obind, nI_eq, if_true, if_false, if_neg, if_pos, c_accept, c_refuse, c_deny, c_grant, m_good, m_no, m_isNot, c_hasHand_t B I hcc, c_share21 B I W WI (c := c)]
    · unfold jM_share
      simp (disch := omega) only [litI, obind, nI_eq, if_true, if_false, if_neg, if_pos, c_accept, c_refuse, c_deny, c_grant, m_good, m_no, m_isNot, hb1, hbk_1 h0, inb_nI, nI_clamp, MR1 5, m_in_t hcc, m_share37 MR1 MS1 WI I (c := c)]
  · refine ⟨-nI 1, cX hc 1, mX (mG hm) 1, ?_, ?_, RelX V A C (MA_G M) (by omega)⟩
    · unfold jX_share
      simp (disch := omega) only [litI, obind, nI_eq, if_true, if_false, if_neg, if_pos, c_accept, c_refuse, c_deny, c_grant, m_good, m_no, m_isNot, c_hasHand_f B I hcl]
    · unfold jM_share
      simp (disch := omega) only [litI, obind, nI_eq, if_true, if_false, if_neg, if_pos, c_accept, c_refuse, c_deny, c_grant, m_good, m_no, m_isNot, hb1, inb_nI, nI_clamp, MR1 5, m_in_f (n := R 5) (by omega) hcl]
      split <;> rfl
theorem op_old : so_old Rel := by
  intro hc hm hr a
  obtain ⟨R, S, U, K, T, tp, un, im, nx, fa, tr, pl, V, A, C, M, htr, h10, h11, h4⟩ := hr
  have I := V.1; have WI := V.2.1; have B := A.1; have W := A.2.1; have MR := M.1; have MS := M.2.1; have hb := M.2.2.2.2.2.2.2.2; have MR1 := (MA_G M).1; have MS1 := (MA_G M).2.1; have hb1 := (MA_G M).2.2.2.2.2.2.2.2; have hR := Rsm I; have hw := WI.1
  by_cases h0 : R 0 = 0
  · refine ⟨-nI 1, cX hc 1, mX (mG hm) 1, ?_, ?_, RelX V A C (MA_G M) (by omega)⟩
    · unfold jX_old
      simp (disch := omega) only [litI, obind, nI_eq, if_true, if_false, if_neg, if_pos, c_accept, c_refuse, c_deny, c_grant, m_good, m_no, m_isNot, isTold_R B I, hbk_0 h0]
    · unfold jM_old
      simp (disch := omega) only [litI, obind, nI_eq, if_true, if_false, if_neg, if_pos, c_accept, c_refuse, c_deny, c_grant, m_good, m_no, m_isNot, hb1, hbk_0 h0]
  · by_cases hyr : inN a 1000
    · obtain ⟨z, hz, rfl⟩ := hyr
      refine ⟨nI (cnt (olp S z) (nC R)), cX hc 0, mG hm, ?_, ?_, RelG V A C M⟩
      · unfold jX_old
        simp (disch := omega) only [litI, obind, nI_eq, if_true, if_false, if_neg, if_pos, c_accept, c_refuse, c_deny, c_grant, m_good, m_no, m_isNot, isTold_R B I, hbk_1 h0, c_isYear_t hz, c_old33 B I W WI hz]
      · unfold jM_old
        simp (disch := omega) only [litI, obind, nI_eq, if_true, if_false, if_neg, if_pos, c_accept, c_refuse, c_deny, c_grant, m_good, m_no, m_isNot, hb1, hbk_1 h0, m_within_t, m_old38 MR1 MS1 WI I hz]
    · refine ⟨-nI 1, cX hc 2, mX (mG hm) 2, ?_, ?_, RelX V A C (MA_G M) (by omega)⟩
      · unfold jX_old
        simp (disch := omega) only [litI, obind, nI_eq, if_true, if_false, if_neg, if_pos, c_accept, c_refuse, c_deny, c_grant, m_good, m_no, m_isNot, isTold_R B I, hbk_1 h0, c_isYear_f hyr]
      · unfold jM_old
        simp (disch := omega) only [litI, obind, nI_eq, if_true, if_false, if_neg, if_pos, c_accept, c_refuse, c_deny, c_grant, m_good, m_no, m_isNot, hb1, hbk_1 h0, m_within_f (b := 999) (by omega) hyr]
theorem op_changes : so_changes Rel := by
  intro hc hm hr a b
  obtain ⟨R, S, U, K, T, tp, un, im, nx, fa, tr, pl, V, A, C, M, htr, h10, h11, h4⟩ := hr
  have I := V.1; have WI := V.2.1; have B := A.1; have W := A.2.1; have MR := M.1; have MS := M.2.1; have hb := M.2.2.2.2.2.2.2.2; have MR1 := (MA_G M).1; have MS1 := (MA_G M).2.1; have hb1 := (MA_G M).2.2.2.2.2.2.2.2; have hR := Rsm I; have hw := WI.1
  by_cases hcell : inN a (R 0) ∧ inN b (R 1)
  · obtain ⟨⟨x, hx, rfl⟩, ⟨y, hy, rfl⟩⟩ := hcell
    obtain ⟨c1, c2⟩ := cellb I hx hy
    by_cases hs : S 0 = 0
    · refine ⟨-nI 2, cX hc 0, mG hm, ?_, ?_, RelG V A C M⟩
      · unfold jX_changes
        simp (disch := omega) only [litI, obind, nI_eq, if_true, if_false, if_neg, if_pos, c_accept, c_refuse, c_deny, c_grant, m_good, m_no, m_isNot, c_hasCell_t B I hx hy, c_cellAt B, c_firstChange B I W WI c2]
        rfl
      · unfold jM_changes
        simp (disch := omega) only [litI, obind, nI_eq, if_true, if_false, if_neg, if_pos, c_accept, c_refuse, c_deny, c_grant, m_good, m_no, m_isNot, m_isCell_t MR1 I hb1 hx hy, inb_nI, nI_clamp, MS1 0]
    · have hyr := (WI.2.2.2 (S 0 - 1) (by omega)).2.1
      have hf2 := Nat.le_trans (cin_le WI (y := yr S (S 0 - 1)) c2 (Nat.le_refl _)) (by omega : R 4 ≤ 5)
      refine ⟨cv (fcy (fun z => cin R S (R 0 * y + x) z (S 0)) (cin R S (R 0 * y + x) (yr S (S 0 - 1)) (S 0)) (1000 - (yr S (S 0 - 1) + 1)) (yr S (S 0 - 1) + 1)), cX hc 0, mG hm, ?_, ?_, RelG V A C M⟩
      · unfold jX_changes
        simp (disch := omega) only [litI, obind, nI_eq, if_true, if_false, if_neg, if_pos, c_accept, c_refuse, c_deny, c_grant, m_good, m_no, m_isNot, c_hasCell_t B I hx hy, c_cellAt B, c_firstChange B I W WI c2]
      · unfold jM_changes
        simp (disch := omega) only [litI, obind, nI_eq, if_true, if_false, if_neg, if_pos, c_accept, c_refuse, c_deny, c_grant, m_good, m_no, m_isNot, m_isCell_t MR1 I hb1 hx hy, inb_nI, nI_clamp, MS1 0, pk_sub, m_yearOf MS1, m_cellOf MR1, m_shownIn MR1 MS1 WI I c2, m_changes60 MR1 MS1 WI I c2 hf2]
        rw [show 1000 - yr S (S 0 - 1) = (1000 - (yr S (S 0 - 1) + 1)) + 1 by omega, fcy, if_pos rfl]
  · refine ⟨-nI 1, cX hc 1, mX (mG hm) 1, ?_, ?_, RelX V A C (MA_G M) (by omega)⟩
    · unfold jX_changes
      simp (disch := omega) only [litI, obind, nI_eq, if_true, if_false, if_neg, if_pos, c_accept, c_refuse, c_deny, c_grant, m_good, m_no, m_isNot, c_hasCell_f B I hcell]
    · unfold jM_changes
      simp (disch := omega) only [litI, obind, nI_eq, if_true, if_false, if_neg, if_pos, c_accept, c_refuse, c_deny, c_grant, m_good, m_no, m_isNot, m_isCell_f MR1 I hb1 hcell]
theorem op_forged : so_forged Rel := by
  intro hc hm hr
  obtain ⟨R, S, U, K, T, tp, un, im, nx, fa, tr, pl, V, A, C, M, htr, h10, h11, h4⟩ := hr
  have I := V.1; have WI := V.2.1; have B := A.1; have W := A.2.1; have MR := M.1; have MS := M.2.1; have hb := M.2.2.2.2.2.2.2.2; have MR1 := (MA_G M).1; have MS1 := (MA_G M).2.1; have hb1 := (MA_G M).2.2.2.2.2.2.2.2; have hR := Rsm I; have hw := WI.1
  by_cases h0 : R 0 = 0
  · refine ⟨-nI 1, cX hc 1, mX (mG hm) 1, ?_, ?_, RelX V A C (MA_G M) (by omega)⟩
    · unfold jX_forged
      simp (disch := omega) only [litI, obind, nI_eq, if_true, if_false, if_neg, if_pos, c_accept, c_refuse, c_deny, c_grant, m_good, m_no, m_isNot, isTold_R B I, hbk_0 h0]
    · unfold jM_forged
      simp (disch := omega) only [litI, obind, nI_eq, if_true, if_false, if_neg, if_pos, c_accept, c_refuse, c_deny, c_grant, m_good, m_no, m_isNot, hb1, hbk_0 h0]
  · refine ⟨cv (fgf R S (S 0) 0), cX hc 0, mG hm, ?_, ?_, RelG V A C M⟩
    · unfold jX_forged
      simp (disch := omega) only [litI, obind, nI_eq, if_true, if_false, if_neg, if_pos, c_accept, c_refuse, c_deny, c_grant, m_good, m_no, m_isNot, isTold_R B I, hbk_1 h0, c_forged18 B I W WI]
    · unfold jM_forged
      simp (disch := omega) only [litI, obind, nI_eq, if_true, if_false, if_neg, if_pos, c_accept, c_refuse, c_deny, c_grant, m_good, m_no, m_isNot, hb1, hbk_1 h0, m_forged19 MR1 MS1 WI I]
theorem op_left : so_left Rel := by
  intro hc hm hr w
  obtain ⟨R, S, U, K, T, tp, un, im, nx, fa, tr, pl, V, A, C, M, htr, h10, h11, h4⟩ := hr
  have I := V.1; have WI := V.2.1; have B := A.1; have W := A.2.1; have MR := M.1; have MS := M.2.1; have hb := M.2.2.2.2.2.2.2.2; have MR1 := (MA_G M).1; have MS1 := (MA_G M).2.1; have hb1 := (MA_G M).2.2.2.2.2.2.2.2; have hR := Rsm I; have hw := WI.1
  by_cases hwk : inN w (S 0)
  · obtain ⟨r, hr, rfl⟩ := hwk
    refine ⟨nI (bP (shw S r (S 0)) 24), cX hc 0, mG hm, ?_, ?_, RelG V A C M⟩
    · unfold jX_left
      simp (disch := omega) only [litI, obind, nI_eq, if_true, if_false, if_neg, if_pos, c_accept, c_refuse, c_deny, c_grant, m_good, m_no, m_isNot, c_has_t W WI hr, c_shownCells W WI I hr]
      rw [c_bitCount (shw_lt _ _ _), obind]
    · unfold jM_left
      simp (disch := omega) only [litI, obind, nI_eq, if_true, if_false, if_neg, if_pos, c_accept, c_refuse, c_deny, c_grant, m_good, m_no, m_isNot, m_isWork_t MS1 WI hb1 hr, m_left22 MR1 MS1 WI I hr]
  · refine ⟨-nI 1, cX hc 1, mX (mG hm) 1, ?_, ?_, RelX V A C (MA_G M) (by omega)⟩
    · unfold jX_left
      simp (disch := omega) only [litI, obind, nI_eq, if_true, if_false, if_neg, if_pos, c_accept, c_refuse, c_deny, c_grant, m_good, m_no, m_isNot, c_has_f W WI hwk]
    · unfold jM_left
      simp (disch := omega) only [litI, obind, nI_eq, if_true, if_false, if_neg, if_pos, c_accept, c_refuse, c_deny, c_grant, m_good, m_no, m_isNot, m_isWork_f MS1 WI hb1 hwk]
theorem op_alike : so_alike Rel := by
  intro hc hm hr
  obtain ⟨R, S, U, K, T, tp, un, im, nx, fa, tr, pl, V, A, C, M, htr, h10, h11, h4⟩ := hr
  have I := V.1; have WI := V.2.1; have B := A.1; have W := A.2.1; have MR := M.1; have MS := M.2.1; have hb := M.2.2.2.2.2.2.2.2; have MR1 := (MA_G M).1; have MS1 := (MA_G M).2.1; have hb1 := (MA_G M).2.2.2.2.2.2.2.2; have hR := Rsm I; have hw := WI.1
  have hal := lt24 I (alk_lt R S)
  by_cases h0 : R 0 = 0
  · refine ⟨-nI 1, cX hc 1, mX (mG hm) 1, ?_, ?_, RelX V A C (MA_G M) (by omega)⟩
    · unfold jX_alike
      simp (disch := omega) only [litI, obind, nI_eq, if_true, if_false, if_neg, if_pos, c_accept, c_refuse, c_deny, c_grant, m_good, m_no, m_isNot, isTold_R B I, hbk_0 h0]
    · unfold jM_alike
      simp (disch := omega) only [litI, obind, nI_eq, if_true, if_false, if_neg, if_pos, c_accept, c_refuse, c_deny, c_grant, m_good, m_no, m_isNot, hb1, hbk_0 h0]
  · refine ⟨nI (bP (alk R S) 24), cX hc 0, mG hm, ?_, ?_, RelG V A C M⟩
    · unfold jX_alike
      simp (disch := omega) only [litI, obind, nI_eq, if_true, if_false, if_neg, if_pos, c_accept, c_refuse, c_deny, c_grant, m_good, m_no, m_isNot, isTold_R B I, hbk_1 h0, c_alikeCells B I W WI]
      rw [c_bitCount hal, obind]
    · unfold jM_alike
      simp (disch := omega) only [litI, obind, nI_eq, if_true, if_false, if_neg, if_pos, c_accept, c_refuse, c_deny, c_grant, m_good, m_no, m_isNot, hb1, hbk_1 h0, m_alikeCells MR1 MS1 WI I]
      rw [m_bits (by omega), obind]
theorem op_led : so_led Rel := by
  intro hc hm hr a
  have hr2 := fun v => RelT hr v
  obtain ⟨R, S, U, K, T, tp, un, im, nx, fa, tr, pl, V, A, C, M, htr, h10, h11, h4⟩ := hr
  have I := V.1; have WI := V.2.1; have B := A.1; have W := A.2.1; have MR := M.1; have MS := M.2.1; have hb := M.2.2.2.2.2.2.2.2; have MR1 := (MA_G M).1; have MS1 := (MA_G M).2.1; have hb1 := (MA_G M).2.2.2.2.2.2.2.2; have hR := Rsm I; have hw := WI.1
  have hle := bcf_le S a (nC R) 0 0
  refine ⟨_, _, _, nI (if bcf S a (nC R) 0 0 = 0 then 1 else 0), c_bareCell B I W WI a, m_led4 MR MS WI I hb a, hr2 _, ?_, fun z => ?_, fun z => ?_⟩
  · unfold jM_thrown
    rw [gI_uI_s]
  · by_cases h0 : bcf S a (nC R) 0 0 = 0
    · rw [if_pos h0]; rfl
    · rw [cw_pos h0] at z
      exact absurd z (nI_pos (by omega))
  · by_cases h0 : bcf S a (nC R) 0 0 = 0
    · rw [h0, cw_0] at z
      exact absurd z (by decide)
    · rw [if_neg h0, cw_pos h0]
      exact ⟨rfl, rfl⟩
theorem op_work : so_work Rel := by
  intro hc hm hr w a
  obtain ⟨R, S, U, K, T, tp, un, im, nx, fa, tr, pl, V, A, C, M, htr, h10, h11, h4⟩ := hr
  have I := V.1; have WI := V.2.1; have B := A.1; have W := A.2.1; have MR := M.1; have MS := M.2.1; have hb := M.2.2.2.2.2.2.2.2; have MR1 := (MA_G M).1; have MS1 := (MA_G M).2.1; have hb1 := (MA_G M).2.2.2.2.2.2.2.2; have hR := Rsm I; have hw := WI.1
  by_cases hwk : inN w (S 0)
  · obtain ⟨r, hr, rfl⟩ := hwk
    have h1 := nC_ne WI I (r := r) (by omega)
    have hfb := full_bP WI I (r := r) (by omega)
    have hcl := cel_lt S r
    have hk24 : bD (2 ^ nC R - 1) (cel S r) < 2 ^ 24 := lt24 I (bD_lt (full_lt _))
    by_cases ha : inN a 5
    · obtain ⟨k, hk, rfl⟩ := ha
      have hcls : jX_work hc (nI r) (nI k) = (jX_told hc (nI r) (nI k)).bind fun v => some (v, cX hc 0) := by
        unfold jX_work
        simp (disch := omega) only [litI, obind, nI_eq, if_true, if_false, if_neg, if_pos, c_accept, c_refuse, c_deny, c_grant, m_good, m_no, m_isNot, c_has_t W WI hr, nI_ltI, Nat.not_lt_zero, nI_leI]
      have hmod : ∀ v, jM_work hm (nI r) (nI k) = some (v, mG hm) → jX_told hc (nI r) (nI k) = some v → ∃ r_1 hc' hm', jX_work hc (nI r) (nI k) = some (r_1, hc') ∧ jM_work hm (nI r) (nI k) = some (r_1, hm') ∧ Rel hc' hm' := by
        intro v q1 q2
        refine ⟨v, cX hc 0, mG hm, ?_, q1, RelG V A C M⟩
        rw [hcls, q2, obind]
      have hcase : k = 0 ∨ k = 1 ∨ k = 2 ∨ k = 3 ∨ k = 4 := by omega
      rcases hcase with rfl | rfl | rfl | rfl | rfl
      · refine hmod (nI (hd S r)) ?_ ?_
        · have hg := MS_hd MS1 (w := r) (by omega)
          rw [Nat.add_zero] at hg
          unfold jM_work
          simp (disch := omega) only [litI, obind, nI_eq, if_true, if_false, if_neg, if_pos, c_accept, c_refuse, c_deny, c_grant, m_good, m_no, m_isNot, m_isWork_t MS1 WI hb1 hr, pk_mul, nI_add, inb_nI, nI_clamp, Nat.add_zero, hg]
        · unfold jX_told
          simp (disch := omega) only [litI, obind, nI_eq, if_true, if_false, if_neg, if_pos, c_accept, c_refuse, c_deny, c_grant, m_good, m_no, m_isNot, c_cellsOf W WI I (r := r), c_handOf W WI (r := r)]
      · refine hmod (nI (yr S r)) ?_ ?_
        · unfold jM_work
          simp (disch := omega) only [litI, obind, nI_eq, if_true, if_false, if_neg, if_pos, c_accept, c_refuse, c_deny, c_grant, m_good, m_no, m_isNot, m_isWork_t MS1 WI hb1 hr, m_yearOf MS1 (w := r)]
        · unfold jX_told
          simp (disch := omega) only [litI, obind, nI_eq, if_true, if_false, if_neg, if_pos, c_accept, c_refuse, c_deny, c_grant, m_good, m_no, m_isNot, c_cellsOf W WI I (r := r), c_yearOf W WI (r := r)]
      · refine hmod (nI (bP (cel S r) 24)) ?_ ?_
        · unfold jM_work
          simp (disch := omega) only [litI, obind, nI_eq, if_true, if_false, if_neg, if_pos, c_accept, c_refuse, c_deny, c_grant, m_good, m_no, m_isNot, m_isWork_t MS1 WI hb1 hr, m_painted MR1 MS1 WI I (r := r), m_bits (a := cel S r)]
        · unfold jX_told
          simp (disch := omega) only [litI, obind, nI_eq, if_true, if_false, if_neg, if_pos, c_accept, c_refuse, c_deny, c_grant, m_good, m_no, m_isNot, c_cellsOf W WI I (r := r)]
          rw [c_bitCount hcl, obind]
      · refine hmod (nI (nC R - bP (cel S r) 24)) ?_ ?_
        · unfold jM_work
          simp (disch := omega) only [litI, obind, nI_eq, if_true, if_false, if_neg, if_pos, c_accept, c_refuse, c_deny, c_grant, m_good, m_no, m_isNot, m_isWork_t MS1 WI hb1 hr, m_cellMany MR1, m_painted MR1 MS1 WI I (r := r), m_bits (a := cel S r), pk_sub]
        · unfold jX_told
          simp (disch := omega) only [litI, obind, nI_eq, if_true, if_false, if_neg, if_pos, c_accept, c_refuse, c_deny, c_grant, m_good, m_no, m_isNot, c_cellsOf W WI I (r := r), c_allCells B I, nI_dif]
          rw [c_bitCount hk24, obind, hfb.1]
      · refine hmod (nI (npt (R 0) 24 (bD (2 ^ nC R - 1) (cel S r)))) ?_ ?_
        · unfold jM_work
          simp (disch := omega) only [litI, obind, nI_eq, if_true, if_false, if_neg, if_pos, c_accept, c_refuse, c_deny, c_grant, m_good, m_no, m_isNot, m_isWork_t MS1 WI hb1 hr, m_allCells MR1 I, m_painted MR1 MS1 WI I (r := r), nI_dif, m_partsOf MR1 I h1 (s := bD (2 ^ nC R - 1) (cel S r)) (bD_lt (full_lt _))]
        · unfold jX_told
          simp (disch := omega) only [litI, obind, nI_eq, if_true, if_false, if_neg, if_pos, c_accept, c_refuse, c_deny, c_grant, m_good, m_no, m_isNot, c_cellsOf W WI I (r := r), c_allCells B I, nI_dif, c_partsOf B I h1 (r := bD (2 ^ nC R - 1) (cel S r)) (bD_lt (full_lt _))]
    · have hne : ∀ k, k < 5 → ¬ a = nI k := fun k hk z => ha ⟨k, hk, z⟩
      refine ⟨-nI 1, cX hc 1, mX (mG hm) 1, ?_, ?_, RelX V A C (MA_G M) (by omega)⟩
      · unfold jX_work
        simp (disch := omega) only [litI, obind, nI_eq, if_true, if_false, if_neg, if_pos, c_accept, c_refuse, c_deny, c_grant, m_good, m_no, m_isNot, c_has_t W WI hr]
        rcases inN_or a (n := 5) (by omega) with q | q | q
        · exact absurd q ha
        · simp only [q, if_true]
        · have q2 : ¬ a ≤ nI 4 := by
            rw [Int32.lt_iff_toInt_lt, nI_toInt (by omega)] at q
            rw [Int32.le_iff_toInt_le, nI_toInt (by omega)]
            omega
          simp only [q2, if_false]
          split <;> rfl
      · unfold jM_work
        simp (disch := omega) only [litI, obind, nI_eq, if_true, if_false, if_neg, if_pos, c_accept, c_refuse, c_deny, c_grant, m_good, m_no, m_isNot, m_isWork_t MS1 WI hb1 hr, hne 0 (by omega), hne 1 (by omega), hne 2 (by omega), hne 3 (by omega), hne 4 (by omega)]
  · refine ⟨-nI 1, cX hc 1, mX (mG hm) 1, ?_, ?_, RelX V A C (MA_G M) (by omega)⟩
    · unfold jX_work
      simp (disch := omega) only [litI, obind, nI_eq, if_true, if_false, if_neg, if_pos, c_accept, c_refuse, c_deny, c_grant, m_good, m_no, m_isNot, c_has_f W WI hwk]
    · unfold jM_work
      simp (disch := omega) only [litI, obind, nI_eq, if_true, if_false, if_neg, if_pos, c_accept, c_refuse, c_deny, c_grant, m_good, m_no, m_isNot, m_isWork_f MS1 WI hb1 hwk]
