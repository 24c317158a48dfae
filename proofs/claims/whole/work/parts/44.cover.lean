/-! ===== pure: covers, choices ===== -/
theorem bsub_le {a b : Nat} (h : bD a b = 0) : a ≤ b := b_sub_le ((bD0 a b).mp h)
def Cov (a : Nat → Bool) : Nat → Nat → Prop
  | 0, t => t = 0
  | k + 1, t => ∃ x, a x = true ∧ Cov a k (bD t x)
theorem cov_mono {a : Nat → Bool} : ∀ k {t u : Nat}, (∀ i, u.testBit i = true → t.testBit i = true) → Cov a k t → Cov a k u := by
  intro k
  induction k with
  | zero =>
    intro t u h hc
    have ht : t = 0 := hc
    apply Nat.eq_of_testBit_eq
    intro i
    rw [Nat.zero_testBit]
    cases hu : u.testBit i
    · rfl
    · have := h i hu
      rw [ht, Nat.zero_testBit] at this
      cases this
  | succ k ih =>
    intro t u h hc
    obtain ⟨x, hx, hr⟩ := hc
    refine ⟨x, hx, ih (fun i hi => ?_) hr⟩
    rw [bD_tb] at hi ⊢
    simp only [Bool.and_eq_true] at hi ⊢
    exact ⟨h i hi.1, hi.2⟩
theorem cov_succ {a : Nat → Bool} (h0 : a 0 = true) {k t : Nat} (h : Cov a k t) : Cov a (k + 1) t := ⟨0, h0, by rw [bD_0]; exact h⟩
theorem cov_le {a : Nat → Bool} (h0 : a 0 = true) {k t : Nat} (h : Cov a k t) : ∀ d, Cov a (k + d) t := by
  intro d
  induction d with
  | zero => exact h
  | succ d ih => exact cov_succ h0 ih
theorem bD_sub (a b : Nat) : ∀ i, (bD a b).testBit i = true → a.testBit i = true := by
  intro i hi
  rw [bD_tb] at hi
  simp only [Bool.and_eq_true] at hi
  exact hi.1
theorem bP_dec {t x n : Nat} (ht : t < 2 ^ n) (h : bD t x ≠ t) : bP (bD t x) n < bP t n := by
  have hx : ∃ j, t.testBit j = true ∧ (bD t x).testBit j = false := by
    apply Classical.byContradiction
    intro z
    apply h
    refine bext (bD_sub t x) (fun i hi => ?_)
    cases hq : (bD t x).testBit i
    · exact absurd ⟨i, hi, hq⟩ z
    · rfl
  obtain ⟨j, h1, h2⟩ := hx
  have hj : j < n := by
    apply Decidable.byContradiction
    intro z
    rw [Nat.testBit_lt_two_pow (Nat.lt_of_lt_of_le ht (Nat.pow_le_pow_right (by decide) (by omega)))] at h1
    cases h1
  exact bP_smono (fun i _ hi => bD_sub t x i hi) hj h2 h1
theorem cov_bound {a : Nat → Bool} (h0 : a 0 = true) {n : Nat} : ∀ k t, t < 2 ^ n → Cov a k t → Cov a (bP t n) t := by
  intro k
  induction k with
  | zero =>
    intro t ht hc
    have : t = 0 := hc
    rw [this, bP_0]
    exact rfl
  | succ k ih =>
    intro t ht hc
    obtain ⟨x, hx, hr⟩ := hc
    by_cases he : bD t x = t
    · rw [he] at hr
      exact ih t ht hr
    · have h1 := ih _ (bD_lt ht) hr
      have h2 := bP_dec ht he
      have h3 : Cov a (bP (bD t x) n + 1) t := ⟨x, hx, h1⟩
      have := cov_le h0 h3 (bP t n - (bP (bD t x) n + 1))
      rw [show bP (bD t x) n + 1 + (bP t n - (bP (bD t x) n + 1)) = bP t n by omega] at this
      exact this
theorem cov_12 {a : Nat → Bool} (h0 : a 0 = true) {k t : Nat} (ht : t < 2 ^ 12) (h : Cov a k t) : Cov a 12 t := by
  have h1 := cov_bound h0 k t ht h
  have h2 := bP_le t 12
  have := cov_le h0 h1 (12 - bP t 12)
  rw [show bP t 12 + (12 - bP t 12) = 12 by omega] at this
  exact this
/-- by how few it is covered; 100: it isn't -/
noncomputable def mcs (a : Nat → Bool) (t : Nat) : Nat → Nat → Nat
  | 0, _ => 100
  | d + 1, k => @ite Nat (Cov a k t) (Classical.propDecidable _) k (mcs a t d (k + 1))
noncomputable def mcv (a : Nat → Bool) (t : Nat) : Nat := mcs a t 13 0
theorem mcs_spec (a : Nat → Bool) (t : Nat) : ∀ d k, (mcs a t d k = 100 ∧ ∀ j, k ≤ j → j < k + d → ¬ Cov a j t) ∨ (k ≤ mcs a t d k ∧ mcs a t d k < k + d ∧ Cov a (mcs a t d k) t ∧ ∀ j, k ≤ j → j < mcs a t d k → ¬ Cov a j t) := by
  intro d
  induction d with
  | zero => intro k; exact Or.inl ⟨rfl, fun j h1 h2 => by omega⟩
  | succ d ih =>
    intro k
    rw [mcs]
    by_cases hc : Cov a k t
    · rw [if_pos hc]
      exact Or.inr ⟨Nat.le_refl _, by omega, hc, fun j h1 h2 => by omega⟩
    · rw [if_neg hc]
      rcases ih (k + 1) with ⟨h1, h2⟩ | ⟨h1, h2, h3, h4⟩
      · refine Or.inl ⟨h1, fun j q1 q2 => ?_⟩
        by_cases hj : j = k
        · rw [hj]; exact hc
        · exact h2 j (by omega) (by omega)
      · refine Or.inr ⟨by omega, by omega, h3, fun j q1 q2 => ?_⟩
        by_cases hj : j = k
        · rw [hj]; exact hc
        · exact h4 j (by omega) q2
theorem mcv_spec {a : Nat → Bool} (h0 : a 0 = true) {t : Nat} (ht : t < 2 ^ 12) : (mcv a t = 100 ∧ ∀ j, ¬ Cov a j t) ∨ (mcv a t ≤ 12 ∧ Cov a (mcv a t) t ∧ ∀ j, Cov a j t → mcv a t ≤ j) := by
  rcases mcs_spec a t 13 0 with ⟨h1, h2⟩ | ⟨h1, h2, h3, h4⟩
  · exact Or.inl ⟨h1, fun j hj => h2 12 (by omega) (by omega) (cov_12 h0 ht hj)⟩
  · refine Or.inr ⟨by unfold mcv; omega, h3, fun j hj => ?_⟩
    apply Decidable.byContradiction
    intro z
    exact h4 j (by omega) (by unfold mcv at z; omega) hj
theorem mcv_le {a : Nat → Bool} (h0 : a 0 = true) {t j : Nat} (ht : t < 2 ^ 12) (h : Cov a j t) : mcv a t ≤ j ∧ mcv a t ≤ 12 := by
  rcases mcv_spec h0 ht with ⟨h1, h2⟩ | ⟨h1, h2, h3⟩
  · exact absurd h (h2 j)
  · exact ⟨h3 j h, h1⟩
theorem mcv_cov {a : Nat → Bool} (h0 : a 0 = true) {t : Nat} (ht : t < 2 ^ 12) (h : mcv a t < 100) : Cov a (mcv a t) t := by
  rcases mcv_spec h0 ht with ⟨h1, h2⟩ | ⟨h1, h2, h3⟩
  · omega
  · exact h2
theorem mcv_b {a : Nat → Bool} (h0 : a 0 = true) {t : Nat} (ht : t < 2 ^ 12) : mcv a t = 100 ∨ mcv a t ≤ 12 := by
  rcases mcv_spec h0 ht with ⟨h1, h2⟩ | ⟨h1, h2, h3⟩
  · exact Or.inl h1
  · exact Or.inr h1
theorem mcv_0 {a : Nat → Bool} (h0 : a 0 = true) : mcv a 0 = 0 := by
  have := (mcv_le h0 (t := 0) (j := 0) (by decide) rfl).1
  omega
theorem mcv_pos {a : Nat → Bool} (h0 : a 0 = true) {t : Nat} (ht : t < 2 ^ 12) (hne : t ≠ 0) : 1 ≤ mcv a t := by
  rcases mcv_spec h0 ht with ⟨h1, h2⟩ | ⟨h1, h2, h3⟩
  · omega
  · apply Decidable.byContradiction
    intro z
    have : mcv a t = 0 := by omega
    rw [this] at h2
    exact hne h2
/-- one is enough -/
def One (a : Nat → Bool) (t : Nat) : Prop := ∃ x, a x = true ∧ bD t x = 0
theorem one_mcv {a : Nat → Bool} (h0 : a 0 = true) {t : Nat} (ht : t < 2 ^ 12) (hne : t ≠ 0) : mcv a t = 1 ↔ One a t := by
  constructor
  · intro h
    have := mcv_cov h0 ht (by omega)
    rw [h] at this
    obtain ⟨x, hx, hr⟩ := this
    exact ⟨x, hx, hr⟩
  · rintro ⟨x, hx, hr⟩
    have h1 := (mcv_le h0 ht (j := 1) ⟨x, hx, hr⟩).1
    have h2 := mcv_pos h0 ht hne
    omega
/-! choices of a set, downwards -/
def rk : Nat → Nat → Nat → Nat
  | 0, _, _ => 0
  | n + 1, o, c => if o % 2 = 1 then 2 * rk n (o / 2) (c / 2) + c % 2 else rk n (o / 2) (c / 2)
theorem bD_half {c o : Nat} (h : bD c o = 0) : bD (c / 2) (o / 2) = 0 := by
  rw [bD0] at h ⊢
  intro i hi
  have := h (i + 1)
  rw [Nat.testBit_succ, Nat.testBit_succ] at this
  exact this hi
theorem bD_low {c o : Nat} (h : bD c o = 0) (ho : o % 2 = 0) : c % 2 = 0 := by
  rw [bD0] at h
  have := h 0
  rw [Nat.testBit_zero, Nat.testBit_zero] at this
  simp only [decide_eq_true_eq] at this
  omega
theorem and_half (a b : Nat) : (a &&& b) / 2 = a / 2 &&& b / 2 := by
  apply Nat.eq_of_testBit_eq
  intro i
  rw [← Nat.testBit_succ, Nat.testBit_and, Nat.testBit_and, Nat.testBit_succ, Nat.testBit_succ]
theorem and_low (a b : Nat) : (a &&& b) % 2 = if a % 2 = 1 ∧ b % 2 = 1 then 1 else 0 := by
  have h := Nat.testBit_and a b 0
  rw [Nat.testBit_zero, Nat.testBit_zero, Nat.testBit_zero, ← Bool.decide_and] at h
  have h2 := decide_eq_decide.mp h
  split <;> omega
theorem sub_and {c o : Nat} (h : bD c o = 0) : c &&& o = c := by
  rw [bD0] at h
  apply Nat.eq_of_testBit_eq
  intro i
  rw [Nat.testBit_and]
  cases hc : c.testBit i
  · rfl
  · rw [h i hc]; rfl
theorem rk_pred : ∀ n o c, c < 2 ^ n → bD c o = 0 → c ≠ 0 → rk n o c = rk n o ((c - 1) &&& o) + 1 := by
  intro n
  induction n with
  | zero => intro o c hc _ h0; omega
  | succ n ih =>
    intro o c hc hs h0
    have hc2 : c / 2 < 2 ^ n := by rw [Nat.pow_succ] at hc; omega
    have hh := bD_half hs
    unfold rk
    rw [and_half]
    by_cases ho : o % 2 = 1
    · rw [if_pos ho, if_pos ho]
      by_cases hq : c % 2 = 1
      · have e1 : (c - 1) / 2 = c / 2 := by omega
        have e2 : ((c - 1) &&& o) % 2 = 0 := by rw [and_low, if_neg (by omega)]
        rw [e1, e2, sub_and hh, hq]
      · have e1 : (c - 1) / 2 = c / 2 - 1 := by omega
        have e2 : ((c - 1) &&& o) % 2 = 1 := by rw [and_low, if_pos (by omega)]
        rw [e1, e2, ih (o / 2) (c / 2) hc2 hh (by omega)]
        omega
    · rw [if_neg ho, if_neg ho]
      have hq := bD_low hs (by omega)
      have e1 : (c - 1) / 2 = c / 2 - 1 := by omega
      rw [e1]
      exact ih (o / 2) (c / 2) hc2 hh (by omega)
theorem rk_mono : ∀ n o s c, c < 2 ^ n → bD s o = 0 → bD c o = 0 → s < c → rk n o s < rk n o c := by
  intro n
  induction n with
  | zero => intro o s c hc _ _ h; omega
  | succ n ih =>
    intro o s c hc hs hcs h
    have hc2 : c / 2 < 2 ^ n := by rw [Nat.pow_succ] at hc; omega
    unfold rk
    by_cases ho : o % 2 = 1
    · rw [if_pos ho, if_pos ho]
      by_cases he : s / 2 = c / 2
      · rw [he]; omega
      · have := ih (o / 2) (s / 2) (c / 2) hc2 (bD_half hs) (bD_half hcs) (by omega)
        omega
    · rw [if_neg ho, if_neg ho]
      have h1 := bD_low hs (by omega)
      have h2 := bD_low hcs (by omega)
      exact ih (o / 2) (s / 2) (c / 2) hc2 (bD_half hs) (bD_half hcs) (by omega)
theorem and_sub (c o : Nat) : bD (c &&& o) o = 0 := by
  rw [bD0]
  intro i hi
  rw [Nat.testBit_and] at hi
  simp only [Bool.and_eq_true] at hi
  exact hi.2
/-- the next choice downwards: nothing lies between -/
theorem pred_gap {n o s c : Nat} (hc : c < 2 ^ n) (hs : bD s o = 0) (hcs : bD c o = 0) (h0 : c ≠ 0) (h : s < c) : s ≤ ((c - 1) &&& o) := by
  apply Decidable.byContradiction
  intro z
  have h1 := rk_mono n o s c hc hs hcs h
  have h2 := rk_pred n o c hc hcs h0
  have h3 := rk_mono n o ((c - 1) &&& o) s (by omega) (and_sub _ _) hs (by omega)
  omega
theorem pred_lt {o c : Nat} (h0 : c ≠ 0) : ((c - 1) &&& o) < c := by
  have : ((c - 1) &&& o) ≤ c - 1 := Nat.and_le_left
  omega
theorem bP_half (s : Nat) : ∀ n, bP s (n + 1) = s % 2 + bP (s / 2) n := by
  intro n
  induction n with
  | zero =>
    show bP s 0 + (s.testBit 0).toNat = s % 2 + bP (s / 2) 0
    rw [Nat.testBit_zero]
    show 0 + (decide (s % 2 = 1)).toNat = s % 2 + 0
    by_cases h : s % 2 = 1
    · simp [h]
    · simp [h]; omega
  | succ n ih =>
    rw [bP, ih, Nat.testBit_succ]
    show _ = s % 2 + (bP (s / 2) n + ((s / 2).testBit n).toNat)
    omega
theorem rk_full : ∀ n o, o < 2 ^ n → rk n o o = 2 ^ bP o n - 1 := by
  intro n
  induction n with
  | zero => intro o ho; rfl
  | succ n ih =>
    intro o ho
    have h1 := ih (o / 2) (by rw [Nat.pow_succ] at ho; omega)
    have h2 := Nat.two_pow_pos (bP (o / 2) n)
    rw [bP_half]
    unfold rk
    by_cases hq : o % 2 = 1
    · rw [if_pos hq, h1, hq, Nat.add_comm 1, Nat.pow_succ]
      omega
    · rw [if_neg hq, h1, show o % 2 = 0 by omega, Nat.zero_add]
theorem rk_0 : ∀ n o, rk n o 0 = 0 := by
  intro n
  induction n with
  | zero => intro o; rfl
  | succ n ih =>
    intro o
    unfold rk
    rw [Nat.zero_div, ih, Nat.zero_mod]
    split <;> rfl
/-! exact covers, as the model makes them -/
def Exc (a : Nat → Bool) (o : Nat) : Nat → Nat → Prop
  | 0, d => d = 0
  | m + 1, d => ∃ e x, Exc a o m e ∧ a x = true ∧ x &&& o ≠ 0 ∧ d = e ||| (x &&& o)
theorem exc_sub {a : Nat → Bool} {o : Nat} : ∀ m d, Exc a o m d → bD d o = 0 := by
  intro m
  induction m with
  | zero =>
    intro d h
    have : d = 0 := h
    rw [this, bD0]
    intro i hi
    rw [Nat.zero_testBit] at hi
    cases hi
  | succ m ih =>
    intro d h
    obtain ⟨e, x, h1, h2, h3, rfl⟩ := h
    have := ih e h1
    rw [bD0] at this ⊢
    intro i hi
    rw [Nat.testBit_or, Nat.testBit_and] at hi
    simp only [Bool.or_eq_true, Bool.and_eq_true] at hi
    rcases hi with hi | hi
    · exact this i hi
    · exact hi.2
theorem exc_cov {a : Nat → Bool} {o : Nat} : ∀ m d, Exc a o m d → Cov a m d := by
  intro m
  induction m with
  | zero => intro d h; exact h
  | succ m ih =>
    intro d h
    obtain ⟨e, x, h1, h2, h3, rfl⟩ := h
    refine ⟨x, h2, cov_mono m (fun i hi => ?_) (ih e h1)⟩
    rw [bD_tb, Nat.testBit_or, Nat.testBit_and] at hi
    simp only [Bool.and_eq_true, Bool.or_eq_true, Bool.not_eq_true'] at hi
    rcases hi.1 with z | z
    · exact z
    · rw [z.1] at hi
      exact absurd hi.2 (by decide)
theorem cov_exc {a : Nat → Bool} {o : Nat} : ∀ m t, bD t o = 0 → Cov a m t → ∃ m' d, m' ≤ m ∧ Exc a o m' d ∧ bD t d = 0 := by
  intro m
  induction m with
  | zero =>
    intro t ht h
    have h0 : t = 0 := h
    exact ⟨0, 0, Nat.le_refl _, rfl, by rw [h0, bD_0]⟩
  | succ m ih =>
    intro t ht h
    obtain ⟨x, hx, hr⟩ := h
    have hs : bD (bD t x) o = 0 := by
      rw [bD0] at ht ⊢
      intro i hi
      exact ht i (bD_sub t x i hi)
    obtain ⟨m', d, h1, h2, h3⟩ := ih _ hs hr
    by_cases hxo : x &&& o = 0
    · refine ⟨m', d, by omega, h2, ?_⟩
      rw [bD0] at h3 ht ⊢
      intro i hi
      apply h3
      rw [bD_tb, hi]
      cases hq : x.testBit i
      · rfl
      · exact absurd ⟨hq, ht i hi⟩ ((bAnd0 x o).mp hxo i)
    · refine ⟨m' + 1, d ||| (x &&& o), by omega, ⟨d, x, h2, hx, hxo, rfl⟩, ?_⟩
      rw [bD0] at h3 ht ⊢
      intro i hi
      rw [Nat.testBit_or, Nat.testBit_and]
      cases hq : x.testBit i
      · rw [h3 i (by rw [bD_tb, hi, hq]; rfl)]; rfl
      · rw [ht i hi]; simp
