/-! ===== pure: ints that are small naturals; sets as bits of a natural ===== -/
theorem litI (n : Nat) : (no_index (OfNat.ofNat n) : Int32) = nI (OfNat.ofNat n) := rfl
theorem jb_eq {β γ : Type} (x : β) (f : β → γ) : jb x f = f x := rfl
theorem inb_nI {a n : Nat} (h : a < n) (hn : n < 2 ^ 31) : inb (nI a) n = true := by
  unfold inb
  exact decide_eq_true (nI_in h hn)
theorem nI_eq_neg {a b : Nat} (ha : a < 2 ^ 31) (hb : 0 < b) (hc : b < 2 ^ 31) : (nI a = -nI b) ↔ False := by
  rw [← Int32.toInt_inj, nI_toInt ha, sb_negT hc]; exact ⟨fun h => by omega, fun h => h.elim⟩
theorem neg_eq_nI {a b : Nat} (ha : a < 2 ^ 31) (hb : 0 < b) (hc : b < 2 ^ 31) : (-nI b = nI a) ↔ False := by
  rw [← Int32.toInt_inj, nI_toInt ha, sb_negT hc]; exact ⟨fun h => by omega, fun h => h.elim⟩
theorem neg_eq_neg {a b : Nat} (ha : a < 2 ^ 31) (hc : b < 2 ^ 31) : (-nI a = -nI b) ↔ a = b := by
  rw [← Int32.toInt_inj, sb_negT ha, sb_negT hc]; omega
theorem neg_lt_nI {a b : Nat} (ha : a < 2 ^ 31) (hb : 0 < b) (hc : b < 2 ^ 31) : (-nI b < nI a) ↔ True := by
  rw [Int32.lt_iff_toInt_lt, nI_toInt ha, sb_negT hc]; exact ⟨fun _ => trivial, fun _ => by omega⟩
theorem nI_lt_neg {a b : Nat} (ha : a < 2 ^ 31) (hc : b < 2 ^ 31) : (nI a < -nI b) ↔ False := by
  rw [Int32.lt_iff_toInt_lt, nI_toInt ha, sb_negT hc]; exact ⟨fun h => by omega, fun h => h.elim⟩
theorem neg_le_nI {a b : Nat} (ha : a < 2 ^ 31) (hc : b < 2 ^ 31) : (-nI b ≤ nI a) ↔ True := by
  rw [Int32.le_iff_toInt_le, nI_toInt ha, sb_negT hc]; exact ⟨fun _ => trivial, fun _ => by omega⟩
theorem nI_le_neg {a b : Nat} (ha : a < 2 ^ 31) (hb : 0 < b) (hc : b < 2 ^ 31) : (nI a ≤ -nI b) ↔ False := by
  rw [Int32.le_iff_toInt_le, nI_toInt ha, sb_negT hc]; exact ⟨fun h => by omega, fun h => h.elim⟩
/-- a cell's colour: 0 bare, else one more than the colour -/
def cv (m : Nat) : Int32 := if m = 0 then -nI 2 else nI (m - 1)
theorem cv_0 : cv 0 = -nI 2 := rfl
theorem cv_s (m : Nat) : cv (m + 1) = nI m := rfl
theorem cv_pos {m : Nat} (h : 0 < m) : cv m = nI (m - 1) := by
  unfold cv
  rw [if_neg (by omega)]
theorem cv_eq2 {m : Nat} (h : m < 2 ^ 31) : (cv m = -nI 2) ↔ m = 0 := by
  by_cases hm : m = 0
  · subst hm; exact ⟨fun _ => rfl, fun _ => rfl⟩
  · rw [cv_pos (by omega), nI_eq_neg (by omega) (by omega) (by omega)]; exact ⟨fun h => h.elim, fun h => hm h⟩
theorem cv_eq {m k : Nat} (h : m < 2 ^ 31) (hk : k < 2 ^ 31) : (cv m = nI k) ↔ m = k + 1 := by
  by_cases hm : m = 0
  · subst hm; rw [cv_0, neg_eq_nI (by omega) (by omega) (by omega)]; exact ⟨fun h => h.elim, fun h => by omega⟩
  · rw [cv_pos (by omega), nI_eq (by omega) (by omega)]; omega
theorem cv_inj {m k : Nat} (h : m < 2 ^ 31) (hk : k < 2 ^ 31) : (cv m = cv k) ↔ m = k := by
  by_cases hk0 : k = 0
  · subst hk0; rw [cv_0, cv_eq2 h]
  · rw [cv_pos (by omega : 0 < k), cv_eq h (by omega)]; omega
/-! loops -/
theorem up_ind {P : Nat → Nat → Prop} (N : Nat) (h0 : ∀ n, P (n + 1) N) (hs : ∀ n k, k < N → P n (k + 1) → P (n + 1) k) : ∀ (d k n : Nat), k + d = N → d < n → P n k := by
  intro d
  induction d with
  | zero =>
    intro k n hk hn
    obtain ⟨m, rfl⟩ : ∃ m, n = m + 1 := ⟨n - 1, by omega⟩
    obtain rfl : k = N := by omega
    exact h0 m
  | succ d ih =>
    intro k n hk hn
    obtain ⟨m, rfl⟩ : ∃ m, n = m + 1 := ⟨n - 1, by omega⟩
    exact hs m k (by omega) (ih (k + 1) m (by omega) (by omega))
/-- downwards: the counter is one less than k; below 0 it ends -/
theorem dn_ind {P : Nat → Nat → Prop} (h0 : ∀ n, P (n + 1) 0) (hs : ∀ n k, P n k → P (n + 1) (k + 1)) : ∀ (k n : Nat), k < n → P n k := by
  intro k
  induction k with
  | zero =>
    intro n hn
    obtain ⟨m, rfl⟩ : ∃ m, n = m + 1 := ⟨n - 1, by omega⟩
    exact h0 m
  | succ k ih =>
    intro n hn
    obtain ⟨m, rfl⟩ : ∃ m, n = m + 1 := ⟨n - 1, by omega⟩
    exact hs m k (ih m (by omega))
theorem FU_lt {k : Nat} (h : k < 10000) : k < FU := h
/-! sets -/
def bM (p : Nat → Bool) : Nat → Nat
  | 0 => 0
  | n + 1 => if p n = true then bM p n ||| 2 ^ n else bM p n
theorem bM_tb (p : Nat → Bool) (n i : Nat) : (bM p n).testBit i = (decide (i < n) && p i) := by
  induction n with
  | zero => simp [bM]
  | succ n ih =>
    unfold bM
    by_cases hp : p n = true
    · rw [if_pos hp, Nat.testBit_or, ih, Nat.testBit_two_pow]
      by_cases hi : n = i
      · subst hi; simp [hp]
      · by_cases h2 : i < n
        · simp [hi, h2, show i < n + 1 by omega]
        · simp [hi, h2, show ¬ i < n + 1 by omega]
    · rw [if_neg hp, ih]
      by_cases hi : n = i
      · subst hi; simp [hp]
      · by_cases h2 : i < n
        · simp [h2, show i < n + 1 by omega]
        · simp [h2, show ¬ i < n + 1 by omega]
theorem bM_lt (p : Nat → Bool) (n : Nat) : bM p n < 2 ^ n := by
  apply Nat.lt_pow_two_of_testBit
  intro i hi
  rw [bM_tb]
  simp [show ¬ i < n by omega]
theorem bM_lt31 (p : Nat → Bool) {n : Nat} (h : n ≤ 24) : bM p n < 2 ^ 24 := Nat.lt_of_lt_of_le (bM_lt p n) (Nat.pow_le_pow_right (by decide) h)
theorem bM_t {p : Nat → Bool} {n : Nat} (h : p n = true) : bM p (n + 1) = bM p n ||| 2 ^ n := by
  rw [bM, if_pos h]
theorem bM_f {p : Nat → Bool} {n : Nat} (h : p n = false) : bM p (n + 1) = bM p n := by
  rw [bM, if_neg (by rw [h]; decide)]
theorem bM_ext {p q : Nat → Bool} {n : Nat} (h : ∀ i, i < n → p i = q i) : bM p n = bM q n := by
  apply Nat.eq_of_testBit_eq
  intro i
  rw [bM_tb, bM_tb]
  by_cases hi : i < n
  · rw [h i hi]
  · simp [hi]
theorem bM_of {s n : Nat} (h : s < 2 ^ n) : bM (fun i => s.testBit i) n = s := by
  apply Nat.eq_of_testBit_eq
  intro i
  rw [bM_tb]
  by_cases hi : i < n
  · simp [hi]
  · rw [Nat.testBit_lt_two_pow (Nat.lt_of_lt_of_le h (Nat.pow_le_pow_right (by decide) (by omega)))]
    simp
/-- without -/
def bD (a b : Nat) : Nat := a ^^^ (a &&& b)
theorem bD_tb (a b i : Nat) : (bD a b).testBit i = (a.testBit i && !b.testBit i) := by
  unfold bD
  rw [Nat.testBit_xor, Nat.testBit_and]
  cases a.testBit i <;> cases b.testBit i <;> rfl
theorem bD_le (a b : Nat) : bD a b ≤ a := by
  have h : a &&& bD a b = bD a b := by
    apply Nat.eq_of_testBit_eq
    intro i
    rw [Nat.testBit_and, bD_tb]
    cases a.testBit i <;> simp
  rw [← h]
  exact Nat.and_le_left
theorem bAnd0 (a b : Nat) : (a &&& b = 0) ↔ ∀ i, ¬ (a.testBit i = true ∧ b.testBit i = true) := by
  constructor
  · intro h i hi
    have := congrArg (fun x => x.testBit i) h
    simp [hi.1, hi.2] at this
  · intro h
    apply Nat.eq_of_testBit_eq
    intro i
    rw [Nat.testBit_and, Nat.zero_testBit]
    have := h i
    cases ha : a.testBit i <;> cases hb : b.testBit i <;> simp_all
theorem bD0 (a b : Nat) : (bD a b = 0) ↔ ∀ i, a.testBit i = true → b.testBit i = true := by
  constructor
  · intro h i hi
    have := congrArg (fun x => x.testBit i) h
    simp only [bD_tb, Nat.zero_testBit, hi, Bool.true_and, Bool.not_eq_false'] at this
    exact this
  · intro h
    apply Nat.eq_of_testBit_eq
    intro i
    rw [bD_tb, Nat.zero_testBit]
    cases ha : a.testBit i
    · rfl
    · rw [h i ha]; rfl
theorem b_sub_le {a b : Nat} (h : ∀ i, a.testBit i = true → b.testBit i = true) : a ≤ b := by
  have e : b &&& a = a := by
    apply Nat.eq_of_testBit_eq
    intro i
    rw [Nat.testBit_and]
    cases ha : a.testBit i
    · simp
    · rw [h i ha]; rfl
  rw [← e]
  exact Nat.and_le_left
/-! the ints' side -/
theorem nI_bv (n : Nat) : (nI n).toBitVec = BitVec.ofNat 32 n := rfl
theorem nI_and (a b : Nat) : nI a &&& nI b = nI (a &&& b) := by
  apply Int32.toBitVec_inj.mp
  rw [Int32.toBitVec_and, nI_bv, nI_bv, nI_bv, BitVec.ofNat_and]
theorem nI_or (a b : Nat) : nI a ||| nI b = nI (a ||| b) := by
  apply Int32.toBitVec_inj.mp
  rw [Int32.toBitVec_or, nI_bv, nI_bv, nI_bv, BitVec.ofNat_or]
theorem nI_dif (a b : Nat) : nI a &&& (nI b ^^^ -nI 1) = nI (bD a b) := by
  apply Int32.toBitVec_inj.mp
  rw [Int32.toBitVec_and, Int32.toBitVec_xor, nI_bv, nI_bv, nI_bv, show (-nI 1).toBitVec = BitVec.allOnes 32 by decide, BitVec.xor_allOnes]
  apply BitVec.eq_of_getLsbD_eq
  intro i hi
  rw [BitVec.getLsbD_and, BitVec.getLsbD_not, BitVec.getLsbD_ofNat, BitVec.getLsbD_ofNat, BitVec.getLsbD_ofNat, bD_tb]
  simp [hi]
theorem and31 {k : Nat} (h : k < 32) : k &&& 31 = k := by
  rw [show (31 : Nat) = 2 ^ 5 - 1 by decide, Nat.and_two_pow_sub_one_eq_mod]
  exact Nat.mod_eq_of_lt h
theorem sh_k : ∀ k, k < 32 → ((nI k).toBitVec.smod 32).toNat = k := by decide +kernel
theorem nI_bit {k : Nat} (hk : k < 32) : nI 1 <<< nI k = nI (2 ^ k) := by
  rw [pk_shlN (nI k) k (sh_k k hk) (by rw [Nat.one_mul]; exact Nat.pow_lt_pow_right (by decide) hk), Nat.one_mul]
theorem nI_shl {a k : Nat} (hk : k < 32) (h : a <<< k < 2 ^ 32) : nI a <<< nI k = nI (a <<< k) := by
  rw [pk_shlN (nI k) k (sh_k k hk) (by rw [← Nat.shiftLeft_eq]; exact h), Nat.shiftLeft_eq]
theorem nI_shr {a k : Nat} (ha : a < 2 ^ 31) (hk : k < 32) : nI a >>> nI k = nI (a >>> k) := by
  rw [pk_shrN ha (nI k) k (sh_k k hk), Nat.shiftRight_eq_div_pow]
theorem sh1 (a k : Nat) : a >>> k &&& 1 = (a.testBit k).toNat := by
  unfold Nat.testBit
  rw [Nat.and_comm, Nat.one_and_eq_mod_two]
  have h : (a >>> k) % 2 = 0 ∨ (a >>> k) % 2 = 1 := by omega
  rcases h with h | h <;> rw [h] <;> rfl
theorem nI_tn0 (b : Bool) : (nI b.toNat = nI 0) ↔ b = false := by cases b <;> decide
theorem nI_tn1 (b : Bool) : (nI b.toNat = nI 1) ↔ b = true := by cases b <;> decide
/-- the lowest bit alone -/
def bL (a : Nat) : Nat := bD a (a - 1)
theorem nI_low (a : Nat) : nI a &&& -nI a = nI (bL a) := by
  cases a with
  | zero => decide
  | succ a =>
    have e : -nI (a + 1) = nI a ^^^ -nI 1 := by
      apply Int32.toBitVec_inj.mp
      rw [Int32.toBitVec_neg, Int32.toBitVec_xor, nI_bv, nI_bv, show (-nI 1).toBitVec = BitVec.allOnes 32 by decide, BitVec.xor_allOnes, BitVec.ofNat_add, BitVec.neg_add, BitVec.neg_eq_not_add, BitVec.add_sub_cancel]
    rw [e, nI_dif]
    rfl
