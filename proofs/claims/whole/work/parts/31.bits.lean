/-! ===== pure: counting bits, lowest bits, choices ===== -/
def bP (s : Nat) : Nat → Nat
  | 0 => 0
  | n + 1 => bP s n + (s.testBit n).toNat
theorem bP_le (s n : Nat) : bP s n ≤ n := by
  induction n with
  | zero => exact Nat.le_refl 0
  | succ n ih =>
    unfold bP
    cases s.testBit n <;> simp <;> omega
theorem bP_0 (n : Nat) : bP 0 n = 0 := by
  induction n with
  | zero => rfl
  | succ n ih => unfold bP; rw [ih, Nat.zero_testBit]; rfl
theorem bP_mono {s t n : Nat} (h : ∀ i, i < n → s.testBit i = true → t.testBit i = true) : bP s n ≤ bP t n := by
  induction n with
  | zero => exact Nat.le_refl 0
  | succ n ih =>
    unfold bP
    have h1 := ih (fun i hi => h i (by omega))
    cases hs : s.testBit n
    · simp; omega
    · rw [h n (by omega) hs]; simp; omega
theorem bP_smono {s t n : Nat} (h : ∀ i, i < n → s.testBit i = true → t.testBit i = true) {j : Nat} (hj : j < n) (h0 : s.testBit j = false) (h1 : t.testBit j = true) : bP s n < bP t n := by
  induction n with
  | zero => omega
  | succ n ih =>
    unfold bP
    by_cases hn : j = n
    · subst hn
      rw [h0, h1]
      have := bP_mono (n := j) (fun i hi => h i (by omega))
      simp; omega
    · have h2 := ih (fun i hi => h i (by omega)) (by omega)
      cases hs : s.testBit n
      · simp; omega
      · rw [h n (by omega) hs]; simp; omega
theorem bP_ext {s t n : Nat} (h : ∀ i, i < n → s.testBit i = t.testBit i) : bP s n = bP t n := by
  induction n with
  | zero => rfl
  | succ n ih => unfold bP; rw [ih (fun i hi => h i (by omega)), h n (by omega)]
theorem bP_add (s t u n : Nat) (h : ∀ i, i < n → (s.testBit i).toNat = (t.testBit i).toNat + (u.testBit i).toNat) : bP s n = bP t n + bP u n := by
  induction n with
  | zero => rfl
  | succ n ih =>
    unfold bP
    rw [ih (fun i hi => h i (by omega)), h n (by omega)]
    omega
theorem bP_dif (a b n : Nat) (h : ∀ i, b.testBit i = true → a.testBit i = true) : bP (bD a b) n = bP a n - bP b n := by
  have := bP_add a (bD a b) b n (by
    intro i _
    rw [bD_tb]
    cases hb : b.testBit i
    · cases a.testBit i <;> rfl
    · rw [h i hb]; rfl)
  omega
theorem bP_eq0 {s n : Nat} (h : s < 2 ^ n) : bP s n = 0 ↔ s = 0 := by
  constructor
  · intro h0
    apply Nat.eq_of_testBit_eq
    intro i
    rw [Nat.zero_testBit]
    by_cases hi : i < n
    · cases hb : s.testBit i
      · rfl
      · have := bP_smono (s := 0) (t := s) (n := n) (fun i _ z => by simp at z) hi (Nat.zero_testBit i) hb
        omega
    · exact Nat.testBit_lt_two_pow (Nat.lt_of_lt_of_le h (Nat.pow_le_pow_right (by decide) (by omega)))
  · rintro rfl
    exact bP_0 n
theorem bP_full (n : Nat) : ∀ k, k ≤ n → bP (2 ^ n - 1) k = k := by
  intro k
  induction k with
  | zero => intro _; rfl
  | succ k ih =>
    intro hk
    unfold bP
    rw [ih (by omega), Nat.testBit_two_pow_sub_one]
    simp [show k < n by omega]
theorem bP_up {s n m : Nat} (h : s < 2 ^ n) (hm : n ≤ m) : bP s m = bP s n := by
  obtain ⟨d, rfl⟩ : ∃ d, m = n + d := ⟨m - n, by omega⟩
  clear hm
  induction d with
  | zero => rfl
  | succ d ih =>
    rw [← Nat.add_assoc, bP, ih, Nat.testBit_lt_two_pow (Nat.lt_of_lt_of_le h (Nat.pow_le_pow_right (by decide) (by omega)))]
    rfl
/-! the model's bits -/
theorem m_bits {a : Nat} (h : a < 2 ^ 31) : jM_bits (nI a) = some (nI (bP a 24)) := by
  unfold jM_bits
  refine up_ind (P := fun n k => jM_bits_4 (nI a) n (nI (bP a k)) (nI k) = some (nI (bP a 24))) 24 (fun n => ?_) (fun n k hk ih => ?_) 24 0 FU rfl (by decide)
  · rw [jM_bits_4]
    simp (disch := omega) only [litI, jb_eq, inb_nI, nI_clamp, nI_add, pk_sub, pk_mul, nI_and, nI_or, and31, sh1, nI_dif, nI_bit, nI_shr, nI_eq, nI_ltI, nI_leI, nI_eq_neg, neg_eq_nI, neg_eq_neg, neg_lt_nI, nI_lt_neg, neg_le_nI, nI_le_neg, cv_eq2, nI_tn0, nI_tn1, Option.bind_some, if_pos, if_neg, Nat.not_lt_zero, eq_self, if_true, if_false, Nat.zero_le]
  · rw [jM_bits_4]
    simp (disch := omega) only [litI, jb_eq, inb_nI, nI_clamp, nI_add, pk_sub, pk_mul, nI_and, nI_or, and31, sh1, nI_dif, nI_bit, nI_shr, nI_eq, nI_ltI, nI_leI, nI_eq_neg, neg_eq_nI, neg_eq_neg, neg_lt_nI, nI_lt_neg, neg_le_nI, nI_le_neg, cv_eq2, nI_tn0, nI_tn1, Option.bind_some, if_pos, if_neg, Nat.not_lt_zero, eq_self, if_true, if_false, Nat.zero_le]
    exact ih
theorem m_has {a k : Nat} (h : a < 2 ^ 31) (hk : k < 32) : jM_has (nI a) (nI k) = some (nI (a.testBit k).toNat) := by
  unfold jM_has
  simp (disch := omega) only [litI, jb_eq, inb_nI, nI_clamp, nI_add, pk_sub, pk_mul, nI_and, nI_or, and31, sh1, nI_dif, nI_bit, nI_shr, nI_eq, nI_ltI, nI_leI, nI_eq_neg, neg_eq_nI, neg_eq_neg, neg_lt_nI, nI_lt_neg, neg_le_nI, nI_le_neg, cv_eq2, nI_tn0, nI_tn1, Option.bind_some, if_pos, if_neg, Nat.not_lt_zero, eq_self, if_true, if_false, Nat.zero_le]
  cases a.testBit k <;> rfl
/-! the class's bitCount -/
theorem by_and (x y m n : Nat) (hx : x < 2 ^ 8) (hm : m < 2 ^ 8) : (2 ^ 8 * y + x) &&& (2 ^ 8 * n + m) = 2 ^ 8 * (y &&& n) + (x &&& m) := by
  apply Nat.eq_of_testBit_eq
  intro j
  rw [Nat.testBit_and, Nat.testBit_two_pow_mul_add _ hx, Nat.testBit_two_pow_mul_add _ hm, Nat.testBit_two_pow_mul_add _ (Nat.and_lt_two_pow _ hm)]
  by_cases hj : j < 8
  · simp [hj]
  · simp [hj]
theorem by_shr (x y m n k : Nat) (hx : x < 2 ^ 8) (hm : m < 2 ^ 8) (hk : m <<< k < 2 ^ 8) : ((2 ^ 8 * y + x) >>> k) &&& (2 ^ 8 * n + m) = 2 ^ 8 * ((y >>> k) &&& n) + ((x >>> k) &&& m) := by
  apply Nat.eq_of_testBit_eq
  intro j
  rw [Nat.testBit_and, Nat.testBit_shiftRight, Nat.testBit_two_pow_mul_add _ hx, Nat.testBit_two_pow_mul_add _ hm, Nat.testBit_two_pow_mul_add _ (Nat.and_lt_two_pow _ hm)]
  by_cases hj : j < 8
  · by_cases hkj : k + j < 8
    · simp [hj, hkj]
    · have h0 : m.testBit j = false := by
        have h1 := Nat.testBit_lt_two_pow (Nat.lt_of_lt_of_le hk (Nat.pow_le_pow_right (by decide) (by omega : 8 ≤ k + j)))
        rw [Nat.testBit_shiftLeft] at h1
        simpa using h1
      simp [hj, hkj, h0]
  · simp [hj, show ¬ k + j < 8 by omega, show k + j - 8 = k + (j - 8) by omega]
theorem by_dec : ∀ x, x < 256 → (x >>> 1 &&& 85) ≤ x ∧ x - (x >>> 1 &&& 85) < 256 ∧ (x >>> 1 &&& 21845) = (x >>> 1 &&& 85) := by decide +kernel
theorem by_dec2 : ∀ x, x < 256 → (x &&& 51) + (x >>> 2 &&& 51) < 256 ∧ (x &&& 13107) = (x &&& 51) ∧ (x >>> 2 &&& 13107) = (x >>> 2 &&& 51) ∧ (x &&& 3855) = x % 16 ∧ (x &&& 15) = x % 16 := by decide +kernel
theorem by_dec3 : ∀ x, x < 256 → (((x - (x >>> 1 &&& 85)) &&& 51) + ((x - (x >>> 1 &&& 85)) >>> 2 &&& 51)) % 16 ≤ 4 ∧ (((x - (x >>> 1 &&& 85)) &&& 51) + ((x - (x >>> 1 &&& 85)) >>> 2 &&& 51)) / 16 ≤ 4 ∧ (((x - (x >>> 1 &&& 85)) &&& 51) + ((x - (x >>> 1 &&& 85)) >>> 2 &&& 51)) % 16 + (((x - (x >>> 1 &&& 85)) &&& 51) + ((x - (x >>> 1 &&& 85)) >>> 2 &&& 51)) / 16 = bP x 8 := by decide +kernel
theorem bP_by (x y : Nat) (hx : x < 2 ^ 8) (n : Nat) : bP (2 ^ 8 * y + x) (8 + n) = bP x 8 + bP y n := by
  induction n with
  | zero =>
    refine bP_ext (fun i hi => ?_)
    rw [Nat.testBit_two_pow_mul_add _ hx, if_pos (by omega)]
  | succ n ih =>
    rw [← Nat.add_assoc, bP, ih, Nat.testBit_two_pow_mul_add _ hx, if_neg (by omega), show 8 + n - 8 = n by omega]
    show _ = bP x 8 + (bP y n + (y.testBit n).toNat)
    omega
theorem ush1 {n : Nat} (h : n < 2 ^ 32) : ((nI n).toUInt32 >>> ((1 : Int32).toUInt32 &&& 31)).toInt32 = nI (n >>> 1) := (pk_ushrN h 1 1 (by decide)).trans (by rw [Nat.shiftRight_eq_div_pow])
theorem ush2 {n : Nat} (h : n < 2 ^ 32) : ((nI n).toUInt32 >>> ((2 : Int32).toUInt32 &&& 31)).toInt32 = nI (n >>> 2) := (pk_ushrN h 2 2 (by decide)).trans (by rw [Nat.shiftRight_eq_div_pow])
theorem ush4 {n : Nat} (h : n < 2 ^ 32) : ((nI n).toUInt32 >>> ((4 : Int32).toUInt32 &&& 31)).toInt32 = nI (n / 16) := pk_ushrN h 4 4 (by decide)
theorem ush8 {n : Nat} (h : n < 2 ^ 32) : ((nI n).toUInt32 >>> ((8 : Int32).toUInt32 &&& 31)).toInt32 = nI (n / 256) := pk_ushrN h 8 8 (by decide)
theorem ush16 {n : Nat} (h : n < 2 ^ 32) : ((nI n).toUInt32 >>> ((16 : Int32).toUInt32 &&& 31)).toInt32 = nI (n / 65536) := pk_ushrN h 16 16 (by decide)
theorem by_n (u t : Nat) (d : u % 16 ≤ 4) (e : u / 16 ≤ 4) : (u + u / 16 + 16 * t) % 16 = u % 16 + u / 16 := by omega
theorem by_n0 (u : Nat) (d : u % 16 ≤ 4) (e : u / 16 ≤ 4) : (u + u / 16) % 16 = u % 16 + u / 16 := by omega
theorem by_end (c0 c1 c2 : Nat) (h0 : c0 ≤ 8) (h1 : c1 ≤ 8) (h2 : c2 ≤ 8) : (2 ^ 8 * (2 ^ 8 * c2 + c1) + c0 + (2 ^ 8 * (2 ^ 8 * c2 + c1) + c0) / 256 + (2 ^ 8 * (2 ^ 8 * c2 + c1) + c0 + (2 ^ 8 * (2 ^ 8 * c2 + c1) + c0) / 256) / 65536) % 2 ^ 6 = c0 + (c1 + c2) := by
  have e1 : (2 ^ 8 * (2 ^ 8 * c2 + c1) + c0) / 256 = 2 ^ 8 * c2 + c1 := by omega
  rw [e1]
  have e2 : (2 ^ 8 * (2 ^ 8 * c2 + c1) + c0 + (2 ^ 8 * c2 + c1)) / 65536 = c2 := by omega
  rw [e2]
  omega
theorem c_bitCount {a : Nat} (h : a < 2 ^ 24) : jJ_bitCount (nI a) = some (nI (bP a 24)) := by
  obtain ⟨a0, a1, a2, h0, h1, h2, rfl⟩ : ∃ a0 a1 a2 : Nat, a0 < 256 ∧ a1 < 256 ∧ a2 < 256 ∧ a = 2 ^ 8 * (2 ^ 8 * a2 + a1) + a0 := ⟨a % 256, a / 256 % 256, a / 65536, by omega, by omega, by omega, by omega⟩
  have hb : bP (2 ^ 8 * (2 ^ 8 * a2 + a1) + a0) 24 = bP a0 8 + (bP a1 8 + bP a2 8) := by
    rw [show (24 : Nat) = 8 + (8 + 8) by decide, bP_by _ _ h0, bP_by _ _ h1]
  obtain ⟨p0, q0, -⟩ := by_dec a0 h0
  obtain ⟨p1, q1, -⟩ := by_dec a1 h1
  obtain ⟨p2, q2, r2⟩ := by_dec a2 h2
  obtain ⟨d0, e0, f0⟩ := by_dec3 a0 h0
  obtain ⟨d1, e1, f1⟩ := by_dec3 a1 h1
  obtain ⟨d2, e2, f2⟩ := by_dec3 a2 h2
  rw [hb, ← f0, ← f1, ← f2]
  have m1 : (2 ^ 8 * (2 ^ 8 * a2 + a1) + a0) >>> 1 &&& 1431655765 = 2 ^ 8 * (2 ^ 8 * (a2 >>> 1 &&& 85) + (a1 >>> 1 &&& 85)) + (a0 >>> 1 &&& 85) := by
    rw [show (1431655765 : Nat) = 2 ^ 8 * (2 ^ 8 * 21845 + 85) + 85 by decide, by_shr _ _ _ _ _ h0 (by decide) (by decide), by_shr _ _ _ _ _ h1 (by decide) (by decide), r2]
  unfold jJ_bitCount
  simp only [jb_eq]
  rw [ush1 (by omega), show (1431655765 : Int32) = nI 1431655765 from rfl, nI_and, m1, pk_sub (by omega), show 2 ^ 8 * (2 ^ 8 * a2 + a1) + a0 - (2 ^ 8 * (2 ^ 8 * (a2 >>> 1 &&& 85) + (a1 >>> 1 &&& 85)) + (a0 >>> 1 &&& 85)) = 2 ^ 8 * (2 ^ 8 * (a2 - (a2 >>> 1 &&& 85)) + (a1 - (a1 >>> 1 &&& 85))) + (a0 - (a0 >>> 1 &&& 85)) by omega]
  generalize hz0 : a0 - (a0 >>> 1 &&& 85) = z0 at *
  generalize hz1 : a1 - (a1 >>> 1 &&& 85) = z1 at *
  generalize hz2 : a2 - (a2 >>> 1 &&& 85) = z2 at *
  obtain ⟨k0, -, -, -, -⟩ := by_dec2 z0 q0
  obtain ⟨k1, -, -, -, -⟩ := by_dec2 z1 q1
  obtain ⟨k2, l2, n2, -, -⟩ := by_dec2 z2 q2
  have m2 : (2 ^ 8 * (2 ^ 8 * z2 + z1) + z0) &&& 858993459 = 2 ^ 8 * (2 ^ 8 * (z2 &&& 51) + (z1 &&& 51)) + (z0 &&& 51) := by
    rw [show (858993459 : Nat) = 2 ^ 8 * (2 ^ 8 * 13107 + 51) + 51 by decide, by_and _ _ _ _ q0 (by decide), by_and _ _ _ _ q1 (by decide), l2]
  have m3 : (2 ^ 8 * (2 ^ 8 * z2 + z1) + z0) >>> 2 &&& 858993459 = 2 ^ 8 * (2 ^ 8 * (z2 >>> 2 &&& 51) + (z1 >>> 2 &&& 51)) + (z0 >>> 2 &&& 51) := by
    rw [show (858993459 : Nat) = 2 ^ 8 * (2 ^ 8 * 13107 + 51) + 51 by decide, by_shr _ _ _ _ _ q0 (by decide) (by decide), by_shr _ _ _ _ _ q1 (by decide) (by decide), n2]
  rw [ush2 (by omega), show (858993459 : Int32) = nI 858993459 from rfl, nI_and, nI_and, m2, m3, nI_add, show 2 ^ 8 * (2 ^ 8 * (z2 &&& 51) + (z1 &&& 51)) + (z0 &&& 51) + (2 ^ 8 * (2 ^ 8 * (z2 >>> 2 &&& 51) + (z1 >>> 2 &&& 51)) + (z0 >>> 2 &&& 51)) = 2 ^ 8 * (2 ^ 8 * ((z2 &&& 51) + (z2 >>> 2 &&& 51)) + ((z1 &&& 51) + (z1 >>> 2 &&& 51))) + ((z0 &&& 51) + (z0 >>> 2 &&& 51)) by omega]
  generalize (z0 &&& 51) + (z0 >>> 2 &&& 51) = u0 at *
  generalize (z1 &&& 51) + (z1 >>> 2 &&& 51) = u1 at *
  generalize (z2 &&& 51) + (z2 >>> 2 &&& 51) = u2 at *
  have t0 : u0 + u0 / 16 + 16 * (u1 % 16) < 256 := by omega
  have t1 : u1 + u1 / 16 + 16 * (u2 % 16) < 256 := by omega
  have t2 : u2 + u2 / 16 < 256 := by omega
  have m4 : (2 ^ 8 * (2 ^ 8 * (u2 + u2 / 16) + (u1 + u1 / 16 + 16 * (u2 % 16))) + (u0 + u0 / 16 + 16 * (u1 % 16))) &&& 252645135 = 2 ^ 8 * (2 ^ 8 * (u2 % 16 + u2 / 16) + (u1 % 16 + u1 / 16)) + (u0 % 16 + u0 / 16) := by
    rw [show (252645135 : Nat) = 2 ^ 8 * (2 ^ 8 * 3855 + 15) + 15 by decide, by_and _ _ _ _ t0 (by decide), by_and _ _ _ _ t1 (by decide), (by_dec2 _ t0).2.2.2.2, (by_dec2 _ t1).2.2.2.2, (by_dec2 _ t2).2.2.2.1, by_n _ _ d0 e0, by_n _ _ d1 e1, by_n0 _ d2 e2]
  rw [ush4 (by omega), nI_add, show 2 ^ 8 * (2 ^ 8 * u2 + u1) + u0 + (2 ^ 8 * (2 ^ 8 * u2 + u1) + u0) / 16 = 2 ^ 8 * (2 ^ 8 * (u2 + u2 / 16) + (u1 + u1 / 16 + 16 * (u2 % 16))) + (u0 + u0 / 16 + 16 * (u1 % 16)) by omega, show (252645135 : Int32) = nI 252645135 from rfl, nI_and, m4, ush8 (by omega), nI_add, ush16 (by omega), nI_add, show (63 : Int32) = nI 63 from rfl, nI_and, show (63 : Nat) = 2 ^ 6 - 1 by decide, Nat.and_two_pow_sub_one_eq_mod]
  exact congrArg (fun x => some (nI x)) (by_end _ _ _ (by omega) (by omega) (by omega))
