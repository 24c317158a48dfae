/-! ===== pure: who was surely before whom ===== -/
def sac (S : Nat → Nat) (T : Nat → Nat) (w : Nat) : Nat → Nat
  | 0 => 0
  | k + 1 => if cel S k &&& cel S w = 0 then sac S T w k else sac S T w k ||| (T k ||| 2 ^ k)
def sTb (S : Nat → Nat) : Nat → Nat → Nat
  | 0 => fun _ => 0
  | n + 1 => fun w => if w = n then sac S (sTb S n) n n else sTb S n w
def sur (S : Nat → Nat) (w : Nat) : Nat := sTb S (w + 1) w
theorem sTb_st (S : Nat → Nat) {w : Nat} : ∀ {n}, w < n → sTb S n w = sur S w := by
  intro n
  induction n with
  | zero => intro h; omega
  | succ n ih =>
    intro h
    by_cases hw : w = n
    · rw [hw]; rfl
    · show (if w = n then _ else sTb S n w) = _
      rw [if_neg hw]
      exact ih (by omega)
theorem sac_ext {S T T' : Nat → Nat} {w : Nat} : ∀ k, (∀ j, j < k → T j = T' j) → sac S T w k = sac S T' w k := by
  intro k
  induction k with
  | zero => intro _; rfl
  | succ k ih =>
    intro h
    unfold sac
    rw [ih (fun j hj => h j (by omega)), h k (by omega)]
theorem sur_eq (S : Nat → Nat) (w : Nat) : sur S w = sac S (sur S) w w := by
  show (if w = w then sac S (sTb S w) w w else _) = _
  rw [if_pos rfl]
  exact sac_ext w (fun j hj => sTb_st S hj)
theorem sac_lt {S T : Nat → Nat} {w n : Nat} : ∀ k, k ≤ n → (∀ j, j < k → T j < 2 ^ n) → sac S T w k < 2 ^ n := by
  intro k
  induction k with
  | zero => intro _ _; exact Nat.two_pow_pos n
  | succ k ih =>
    intro hk h
    unfold sac
    have := ih (by omega) (fun j hj => h j (by omega))
    split
    · exact this
    · exact Nat.or_lt_two_pow this (Nat.or_lt_two_pow (h k (by omega)) (Nat.pow_lt_pow_right (by decide) (by omega)))
theorem sur_lt (S : Nat → Nat) (w : Nat) : sur S w < 2 ^ w := by
  induction w using Nat.strongRecOn with
  | ind w ih =>
    rw [sur_eq]
    exact sac_lt w (Nat.le_refl _) (fun j hj => Nat.lt_of_lt_of_le (ih j hj) (Nat.pow_le_pow_right (by decide) (by omega)))
theorem sac_lt12 {S : Nat → Nat} {w k : Nat} (hk : k ≤ 12) : sac S (sur S) w k < 2 ^ 12 := sac_lt k hk (fun j hj => Nat.lt_of_lt_of_le (sur_lt S j) (Nat.pow_le_pow_right (by decide) (by omega)))
theorem sur_lt12 {S : Nat → Nat} {w : Nat} (hw : w ≤ 12) : sur S w < 2 ^ 12 := Nat.lt_of_lt_of_le (sur_lt S w) (Nat.pow_le_pow_right (by decide) hw)
def FrO (h h' : AH) : Prop := (∀ k i j, ¬ (24 ≤ k ∧ k ≤ 26) → gI h' k i j = gI h k i j) ∧ h'.2 = h.2
def FrS (h h' : AH) : Prop := (∀ k i j, ¬ (k = 42 ∧ i = 0) → gI h' k i j = gI h k i j) ∧ h'.2 = h.2
section C
variable {h : AH} {w : Nat} {S R : Nat → Nat}
/-- the class's rows: count, what they paint, who was before -/
def OrF (h : AH) (S : Nat → Nat) : Prop := gI h 24 0 0 = nI (S 0) ∧ ∀ r, r < S 0 → gI h 26 0 r = nI (sur S r)
theorem c_sure (W : WkC h w S) (WI : WkI R S) (I : BkI R) : ∃ h', jO_learn h w = some h' ∧ FrO h h' ∧ OrF h' S := by
  have h1 := WI.1
  unfold jO_learn mmin
  simp (disch := omega) only [litI, W.1, nI_ltI, if_neg, jbn]
  -- the inner loop
  have inner : ∀ (n : Nat), n < S 0 → ∀ (g : AH), gI g 24 0 0 = nI (S 0) → (∀ r, r ≤ n → gI g 25 0 r = nI (cel S r)) → (∀ r, r < n → gI g 26 0 r = nI (sur S r)) → gI g 26 0 n = nI 0 → ∀ K : Int32 → AH → Option AH, jO_learn_43 w K FU (nI n) (nI 0) g = K (nI (n + 1)) (uI g 26 0 n (nI (sur S n))) := by
    intro n hn g g0 g1 g2 g3 K
    have key := up_ind (P := fun fu k => jO_learn_43 w K fu (nI n) (nI k) (uI g 26 0 n (nI (sac S (sur S) n k))) = K (nI (n + 1)) (uI g 26 0 n (nI (sur S n)))) n (fun fu => ?_) (fun fu k hk ih => ?_) n 0 FU (by omega) (FU_lt (by omega))
    · have e : uI g 26 0 n (nI (sac S (sur S) n 0)) = g := by
        refine Prod.ext ?_ rfl
        funext a b c
        show (if a = 26 ∧ b = 0 ∧ c = n then nI 0 else g.1 a b c) = g.1 a b c
        by_cases hh : a = 26 ∧ b = 0 ∧ c = n
        · rw [if_pos hh, hh.1, hh.2.1, hh.2.2]
          exact g3.symm
        · rw [if_neg hh]
      rw [e] at key
      exact key
    · rw [jO_learn_43]
      simp (disch := omega) only [litI, nI_ltI, if_neg, nI_add]
      rw [sur_eq S n]
    · have c1 := g1 k (by omega)
      have c2 := g1 n (Nat.le_refl _)
      have c3 := g2 k hk
      have hand : cel S k &&& cel S n < 2 ^ 31 := Nat.lt_of_le_of_lt Nat.and_le_left (by have := cel_lt S k; omega)
      rw [sac] at ih
      rw [jO_learn_43]
      simp (disch := omega) only [litI, nI_ltI, if_pos, inb_nI, nI_clamp, gI_uI_n, c1, c2, c3, if_true, nI_and, gI_uI_s, uI_uI, nI_add, jbn, and31, nI_bit, nI_or]
      simp only [show (nI (cel S k &&& cel S n) = nI 0) = (cel S k &&& cel S n = 0) from propext (nI_eq hand (by omega))]
      by_cases h2 : cel S k &&& cel S n = 0
      · rw [if_pos h2]
        rw [if_pos h2] at ih
        exact ih
      · rw [if_neg h2]
        rw [if_neg h2] at ih
        exact ih
  refine up_ind (P := fun fu n => ∀ g, FrO h g → gI g 24 0 0 = nI (S 0) → (∀ r, r < n → gI g 25 0 r = nI (cel S r) ∧ gI g 26 0 r = nI (sur S r)) → ∃ h', jO_learn_15 w fu (nI n) g = some h' ∧ FrO h h' ∧ OrF h' S) (S 0) (fun fu g F g0 g1 => ?_) (fun fu n hn ih g F g0 g1 => ?_) (S 0) 0 FU (by omega) (FU_lt (by omega)) _ ⟨fun k i j q => gI_uI_n (by omega), rfl⟩ (gI_uI_s _ _ _ _ _) (fun r hr => by omega)
  · refine ⟨g, ?_, F, g0, fun r hr => (g1 r hr).2⟩
    rw [jO_learn_15]
    simp (disch := omega) only [g0, nI_ltI, if_neg]
  · have W2 : WkC g w S := WkC_of W (fun k j hk => F.1 k w j (by omega))
    rw [jO_learn_15]
    simp (disch := omega) only [litI, g0, nI_ltI, if_pos, c_cellsOf W2 WI I (r := n), obind, inb_nI, nI_clamp, if_true, jbn]
    rw [inner n hn _ (by rw [gI_uI_n (by omega), gI_uI_n (by omega)]; exact g0) (fun r hr => ?_) (fun r hr => ?_) (gI_uI_s _ _ _ _ _), uI_uI]
    · refine ih _ ⟨fun k i j q => by rw [gI_uI_n (by omega), gI_uI_n (by omega)]; exact F.1 k i j q, F.2⟩ (by rw [gI_uI_n (by omega), gI_uI_n (by omega)]; exact g0) (fun r hr => ?_)
      by_cases hrn : r = n
      · rw [hrn, gI_uI_n (by omega), gI_uI_s, gI_uI_s]
        exact ⟨rfl, rfl⟩
      · rw [gI_uI_n (by omega), gI_uI_n (by omega), gI_uI_n (by omega), gI_uI_n (by omega)]
        exact g1 r (by omega)
    · by_cases hrn : r = n
      · rw [hrn, gI_uI_n (by omega), gI_uI_s]
      · rw [gI_uI_n (by omega), gI_uI_n (by omega)]
        exact (g1 r (by omega)).1
    · rw [gI_uI_n (by omega), gI_uI_n (by omega)]
      exact (g1 r hr).2
theorem c_isSure {x y : Nat} (hO : OrF h S) (WI : WkI R S) (hx : x < 12) (hy : y < S 0) : jO_isSure h (nI x) (nI y) = some (nI ((sur S y).testBit x).toNat) := by
  have h1 := WI.1
  have h2 := sur_lt12 (S := S) (w := y) (by omega)
  unfold jO_isSure
  simp (disch := omega) only [litI, hO.1, hO.2 y hy, nI_ltI, if_pos, Nat.not_lt_zero, if_false, inb_nI, nI_clamp, if_true, nI_and, and31, nI_shr, sh1, nI_tn0]
  cases (sur S y).testBit x <;> rfl
def spr (S : Nat → Nat) : Nat → Nat
  | 0 => 0
  | n + 1 => spr S n + bP (sur S n) 24
theorem sur_bP (S : Nat → Nat) {w : Nat} (hw : w ≤ 24) : bP (sur S w) 24 ≤ w := by
  rw [bP_up (sur_lt S w) hw]
  exact bP_le _ _
theorem spr_le (S : Nat → Nat) : ∀ n, n ≤ 24 → 2 * spr S n ≤ n * (n - 1) := by
  intro n
  induction n with
  | zero => intro _; exact Nat.le_refl 0
  | succ n ih =>
    intro hn
    have h1 := ih (by omega)
    have h2 := sur_bP S (w := n) (by omega)
    unfold spr
    rw [Nat.add_sub_cancel]
    cases n with
    | zero => simp at h2 ⊢; have h3 : spr S 0 = 0 := rfl; omega
    | succ n =>
      rw [Nat.add_sub_cancel] at h1
      have e : (n + 1 + 1) * (n + 1) = (n + 1) * n + 2 * (n + 1) := by
        rw [Nat.add_mul, Nat.mul_comm (n + 1) (n + 1), Nat.mul_add, Nat.mul_one, Nat.one_mul]
        omega
      omega
theorem c_openPairs (hO : OrF h S) (WI : WkI R S) : jO_openPairs h = some (nI (S 0 * (S 0 - 1) / 2 - spr S (S 0))) := by
  have h1 := WI.1
  have hle := spr_le S (S 0) (by omega)
  have hm : S 0 * (S 0 - 1) ≤ 12 * 12 := Nat.mul_le_mul (by omega) (by omega)
  have hmono : ∀ d n, spr S n ≤ spr S (n + d) := by
    intro d
    induction d with
    | zero => intro n; exact Nat.le_refl _
    | succ d ih =>
      intro n
      have := ih n
      show _ ≤ spr S (n + d) + _
      omega
  unfold jO_openPairs
  rw [if_neg (show ¬ ((2 : Nat) = 0) by decide), hO.1]
  have e0 : (nI (S 0) * (nI (S 0) - 1)) / 2 = nI (S 0 * (S 0 - 1) / 2) := by
    by_cases hz : S 0 = 0
    · rw [hz]; decide
    · rw [show (1 : Int32) = nI 1 from rfl, show (2 : Int32) = nI 2 from rfl, pk_sub (by omega), pk_mul, pk_div (by omega) (by omega) (by omega)]
  rw [e0]
  refine up_ind (P := fun fu k => jO_openPairs_16 h fu (nI (S 0 * (S 0 - 1) / 2 - spr S k)) (nI k) = some (nI (S 0 * (S 0 - 1) / 2 - spr S (S 0)))) (S 0) (fun fu => ?_) (fun fu k hk ih => ?_) (S 0) 0 FU (by omega) (FU_lt (by omega))
  · rw [jO_openPairs_16]
    simp (disch := omega) only [hO.1, nI_ltI, if_neg]
  · have h2 := sur_lt12 (S := S) (w := k) (by omega)
    have h3 := hmono (S 0 - (k + 1)) (k + 1)
    rw [show k + 1 + (S 0 - (k + 1)) = S 0 by omega] at h3
    have h4 : spr S (k + 1) = spr S k + bP (sur S k) 24 := rfl
    rw [jO_openPairs_16]
    simp (disch := omega) only [litI, hO.1, nI_ltI, if_pos, inb_nI, nI_clamp, hO.2 k hk, if_true, c_bitCount (a := sur S k), obind, pk_sub, nI_add]
    rw [show S 0 * (S 0 - 1) / 2 - spr S k - bP (sur S k) 24 = S 0 * (S 0 - 1) / 2 - spr S (k + 1) by omega]
    exact ih
theorem c_earliest (hO : OrF h S) (WI : WkI R S) {x : Nat} (hx : x < S 0) : jO_earliestPlace h (nI x) = some (nI (bP (sur S x) 24)) := by
  have h1 := WI.1
  unfold jO_earliestPlace
  rw [bP_up (sur_lt S x) (by omega), ← bP_up (sur_lt S x) (by omega : x ≤ S 0)]
  refine up_ind (P := fun fu k => jO_earliestPlace_4 h (nI x) fu (nI (bP (sur S x) k)) (nI k) = some (nI (bP (sur S x) (S 0)))) (S 0) (fun fu => ?_) (fun fu k hk ih => ?_) (S 0) 0 FU (by omega) (FU_lt (by omega))
  · rw [jO_earliestPlace_4]
    simp (disch := omega) only [hO.1, nI_ltI, if_neg]
  · rw [bP] at ih
    rw [jO_earliestPlace_4]
    simp (disch := omega) only [litI, hO.1, nI_ltI, if_pos, c_isSure hO WI (x := k) (y := x), obind, nI_add, nI_tn0]
    cases hb : (sur S x).testBit k
    · rw [hb] at ih
      rw [if_pos rfl]
      exact ih
    · rw [hb] at ih
      rw [if_neg (by decide)]
      exact ih
def beh (S : Nat → Nat) (x : Nat) : Nat → Nat
  | 0 => 0
  | k + 1 => beh S x k + ((sur S k).testBit x).toNat
theorem beh_le (S : Nat → Nat) {x : Nat} : ∀ k, beh S x k ≤ k - (x + 1) := by
  intro k
  induction k with
  | zero => exact Nat.zero_le _
  | succ k ih =>
    unfold beh
    cases hb : (sur S k).testBit x
    · simp; omega
    · have := out_n (sur_lt S k) hb
      simp; omega
theorem c_latest (hO : OrF h S) (WI : WkI R S) {x : Nat} (hx : x < S 0) : jO_latestPlace h (nI x) = some (nI (S 0 - 1 - beh S x (S 0))) := by
  have h1 := WI.1
  unfold jO_latestPlace
  rw [hO.1]
  simp (disch := omega) only [litI, pk_sub]
  refine up_ind (P := fun fu k => jO_latestPlace_9 h (nI x) fu (nI (S 0 - 1 - beh S x k)) (nI k) = some (nI (S 0 - 1 - beh S x (S 0)))) (S 0) (fun fu => ?_) (fun fu k hk ih => ?_) (S 0) 0 FU (by omega) (FU_lt (by omega))
  · rw [jO_latestPlace_9]
    simp (disch := omega) only [hO.1, nI_ltI, if_neg]
  · have hb1 := beh_le S (x := x) (k + 1)
    rw [beh] at ih hb1
    rw [jO_latestPlace_9]
    simp (disch := omega) only [litI, hO.1, nI_ltI, if_pos, c_isSure hO WI (x := x) (y := k), obind, nI_add, nI_tn0, nI_dn]
    cases hb : (sur S k).testBit x
    · rw [hb] at ih
      rw [if_pos rfl]
      exact ih
    · rw [hb] at ih hb1
      simp only [Bool.toNat_true] at ih hb1
      rw [if_neg (by decide), pk_sub (by omega), show S 0 - 1 - beh S x k - 1 = S 0 - 1 - (beh S x k + 1) by omega]
      exact ih
end C
section M
variable {h : AH} {S R : Nat → Nat}
def OrM (h : AH) (S : Nat → Nat) : Prop := ∀ r, r < S 0 → gI h 42 0 r = nI (sur S r)
theorem m_laySure (MR : MoR h R) (MS : MoS h S) (WI : WkI R S) (I : BkI R) : ∃ h', jM_laySure h = some h' ∧ FrS h h' ∧ OrM h' S := by
  have h1 := WI.1
  unfold jM_laySure
  have inner : ∀ (n : Nat), n < S 0 → ∀ (g : AH), MoR g R → MoS g S → (∀ r, r < n → gI g 42 0 r = nI (sur S r)) → gI g 42 0 n = nI 0 → ∀ K : Int32 → AH → Option AH, jM_laySure_21 K FU (nI n) (nI 0) g = K (nI (n + 1)) (uI g 42 0 n (nI (sur S n))) := by
    intro n hn g MR MS g2 g3 K
    have key := up_ind (P := fun fu k => jM_laySure_21 K fu (nI n) (nI k) (uI g 42 0 n (nI (sac S (sur S) n k))) = K (nI (n + 1)) (uI g 42 0 n (nI (sur S n)))) n (fun fu => ?_) (fun fu k hk ih => ?_) n 0 FU (by omega) (FU_lt (by omega))
    · have e : uI g 42 0 n (nI (sac S (sur S) n 0)) = g := by
        refine Prod.ext ?_ rfl
        funext a b c
        show (if a = 42 ∧ b = 0 ∧ c = n then nI 0 else g.1 a b c) = g.1 a b c
        by_cases hh : a = 42 ∧ b = 0 ∧ c = n
        · rw [if_pos hh, hh.1, hh.2.1, hh.2.2]
          exact g3.symm
        · rw [if_neg hh]
      rw [e] at key
      exact key
    · rw [jM_laySure_21]
      simp (disch := omega) only [litI, nI_ltI, if_neg, nI_add]
      rw [sur_eq S n]
    · have MR2 : MoR (uI g 42 0 n (nI (sac S (sur S) n k))) R := fun i hi => (gI_uI_n (by omega)).trans (MR i hi)
      have MS2 : MoS (uI g 42 0 n (nI (sac S (sur S) n k))) S := fun i hi => (gI_uI_n (by omega)).trans (MS i hi)
      have c3 := g2 k hk
      have hand : cel S k &&& cel S n < 2 ^ 31 := Nat.lt_of_le_of_lt Nat.and_le_left (by have := cel_lt S k; omega)
      rw [sac] at ih
      rw [jM_laySure_21]
      simp (disch := omega) only [litI, nI_ltI, if_pos, m_painted MR2 MS2 WI I (r := k), m_painted MR2 MS2 WI I (r := n), obind, inb_nI, nI_clamp, gI_uI_n, c3, if_true, nI_and, gI_uI_s, uI_uI, nI_add, jbn, and31, nI_bit, nI_or]
      simp only [show (nI (cel S k &&& cel S n) = nI 0) = (cel S k &&& cel S n = 0) from propext (nI_eq hand (by omega))]
      by_cases h2 : cel S k &&& cel S n = 0
      · rw [if_pos h2]
        rw [if_pos h2] at ih
        exact ih
      · rw [if_neg h2]
        rw [if_neg h2, Nat.or_comm (sur S k)] at ih
        exact ih
  refine up_ind (P := fun fu n => ∀ g, FrS h g → (∀ r, r < n → gI g 42 0 r = nI (sur S r)) → ∃ h', jM_laySure_2 fu (nI n) g = some h' ∧ FrS h h' ∧ OrM h' S) (S 0) (fun fu g F g1 => ?_) (fun fu n hn ih g F g1 => ?_) (S 0) 0 FU (by omega) (FU_lt (by omega)) h ⟨fun _ _ _ _ => rfl, rfl⟩ (fun r hr => by omega)
  · have MS2 : MoS g S := fun i hi => (F.1 37 0 i (by omega)).trans (MS i hi)
    refine ⟨g, ?_, F, g1⟩
    rw [jM_laySure_2]
    simp (disch := omega) only [litI, inb_nI, nI_clamp, MS2 0, if_true, nI_ltI, if_neg]
  · have MS2 : MoS g S := fun i hi => (F.1 37 0 i (by omega)).trans (MS i hi)
    have MR2 : MoR g R := fun i hi => (F.1 35 0 i (by omega)).trans (MR i hi)
    rw [jM_laySure_2]
    simp (disch := omega) only [litI, inb_nI, nI_clamp, MS2 0, if_true, nI_ltI, if_pos, jbn]
    rw [inner n hn _ (fun i hi => (gI_uI_n (by omega)).trans (MR2 i hi)) (fun i hi => (gI_uI_n (by omega)).trans (MS2 i hi)) (fun r hr => (gI_uI_n (by omega)).trans (g1 r hr)) (gI_uI_s _ _ _ _ _), uI_uI]
    refine ih _ ⟨fun k i j q => (gI_uI_n (by omega)).trans (F.1 k i j q), F.2⟩ (fun r hr => ?_)
    by_cases hrn : r = n
    · rw [hrn, gI_uI_s]
    · rw [gI_uI_n (by omega)]
      exact g1 r (by omega)
theorem m_untold25 (MS : MoS h S) (WI : WkI R S) (hO : OrM h S) : jM_untold_25 FU (nI 0) (nI 0) h = some (nI (S 0 * (S 0 - 1) / 2 - spr S (S 0)), h) := by
  have h1 := WI.1
  have htri : ∀ n, (n + 1) * (n + 1 - 1) / 2 = n * (n - 1) / 2 + n := by
    intro n
    cases n with
    | zero => rfl
    | succ n =>
      rw [Nat.add_sub_cancel, Nat.add_sub_cancel]
      have e : (n + 1 + 1) * (n + 1) = (n + 1) * n + 2 * (n + 1) := by
        rw [Nat.add_mul, Nat.mul_comm (n + 1) (n + 1), Nat.mul_add, Nat.mul_one, Nat.one_mul]
        omega
      omega
  refine up_ind (P := fun fu k => jM_untold_25 fu (nI (k * (k - 1) / 2 - spr S k)) (nI k) h = some (nI (S 0 * (S 0 - 1) / 2 - spr S (S 0)), h)) (S 0) (fun fu => ?_) (fun fu k hk ih => ?_) (S 0) 0 FU (by omega) (FU_lt (by omega))
  · rw [jM_untold_25]
    simp (disch := omega) only [litI, inb_nI, nI_clamp, MS 0, if_true, nI_ltI, if_neg]
  · have h2 := sur_lt12 (S := S) (w := k) (by omega)
    have h3 := sur_bP S (w := k) (by omega)
    have h4 := spr_le S k (by omega)
    have h5 := htri k
    have h6 : spr S (k + 1) = spr S k + bP (sur S k) 24 := rfl
    rw [jM_untold_25]
    simp (disch := omega) only [litI, inb_nI, nI_clamp, MS 0, if_true, nI_ltI, if_pos, hO k hk, m_bits (a := sur S k), obind, pk_sub, nI_add]
    rw [show k * (k - 1) / 2 - spr S k + (k - bP (sur S k) 24) = (k + 1) * (k + 1 - 1) / 2 - spr S (k + 1) by omega]
    exact ih
theorem m_placed41 (MS : MoS h S) (WI : WkI R S) (hO : OrM h S) {x : Nat} (hx : x < S 0) : jM_placed_41 (nI x) FU (nI 0) (nI 0) h = some (nI (S 0 - 1 - beh S x (S 0)), h) := by
  have h1 := WI.1
  refine up_ind (P := fun fu k => jM_placed_41 (nI x) fu (nI (beh S x k)) (nI k) h = some (nI (S 0 - 1 - beh S x (S 0)), h)) (S 0) (fun fu => ?_) (fun fu k hk ih => ?_) (S 0) 0 FU (by omega) (FU_lt (by omega))
  · have := beh_le S (x := x) (S 0)
    rw [jM_placed_41]
    unfold jM_placed_80
    simp (disch := omega) only [litI, inb_nI, nI_clamp, MS 0, if_true, nI_ltI, if_neg, pk_sub]
  · have h2 := sur_lt12 (S := S) (w := k) (by omega)
    rw [beh] at ih
    rw [jM_placed_41]
    simp (disch := omega) only [litI, inb_nI, nI_clamp, MS 0, if_true, nI_ltI, if_pos, hO k hk, m_has, obind, nI_add, nI_tn0]
    cases hb : (sur S k).testBit x
    · rw [hb] at ih
      rw [if_pos rfl]
      exact ih
    · rw [hb] at ih
      rw [if_neg (by decide)]
      exact ih
end M
