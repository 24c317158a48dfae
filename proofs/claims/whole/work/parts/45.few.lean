/-! ===== pure: the fewest works, by the class ===== -/
def aC (R : Nat → Nat) (sh x : Nat) : Bool := decide (x < 2 ^ nC R) && adm R sh x
theorem aC_0 {R : Nat → Nat} (I : BkI R) (h0 : 1 ≤ R 0) (sh : Nat) : aC R sh 0 = true := by
  unfold aC adm
  rw [lawK_0 I h0, Nat.zero_and]
  simp [Nat.two_pow_pos]
theorem aC_lt {R : Nat → Nat} {sh x : Nat} (h : aC R sh x = true) : x < 2 ^ nC R ∧ adm R sh x = true := by
  unfold aC at h
  simpa using h
theorem aC_of {R : Nat → Nat} {sh x : Nat} (h : x < 2 ^ nC R) : aC R sh x = adm R sh x := by
  unfold aC
  simp [h]
noncomputable def o1 (a : Nat → Bool) (t : Nat) : Nat := @ite Nat (One a t) (Classical.propDecidable _) 1 100
theorem o1_t {a : Nat → Bool} {t : Nat} (h : One a t) : o1 a t = 1 := if_pos h
theorem o1_f {a : Nat → Bool} {t : Nat} (h : ¬ One a t) : o1 a t = 100 := if_neg h
theorem o1_eq1 {a : Nat → Bool} {t : Nat} : o1 a t = 1 ↔ One a t := by
  by_cases h : One a t
  · rw [o1_t h]; exact ⟨fun _ => h, fun _ => rfl⟩
  · rw [o1_f h]; exact ⟨fun z => by omega, fun z => absurd z h⟩
theorem o1_le (a : Nat → Bool) (t : Nat) : o1 a t ≤ 100 := by
  by_cases h : One a t
  · rw [o1_t h]; omega
  · rw [o1_f h]; omega
theorem and_pow {c m : Nat} : (c &&& 2 ^ m = 0) ↔ c.testBit m = false := by
  rw [bAnd0]
  constructor
  · intro h
    cases hc : c.testBit m
    · rfl
    · exact absurd ⟨hc, pow_tb.mpr rfl⟩ (h m)
  · rintro h i ⟨h1, h2⟩
    rw [pow_tb.mp h2, h] at h1
    cases h1
theorem out_n {x n i : Nat} (hx : x < 2 ^ n) (hi : x.testBit i = true) : i < n := by
  apply Decidable.byContradiction
  intro z
  rw [Nat.testBit_lt_two_pow (Nat.lt_of_lt_of_le hx (Nat.pow_le_pow_right (by decide) (by omega)))] at hi
  cases hi
theorem one_step {a : Nat → Bool} {n c : Nat} (hn : ∀ x, a x = true → x < 2 ^ n) : One a c ↔ a c = true ∨ ∃ j, j < n ∧ c.testBit j = false ∧ One a (c ||| 2 ^ j) := by
  constructor
  · rintro ⟨x, hx, hs⟩
    by_cases he : c = x
    · left; rw [he]; exact hx
    · right
      rw [bD0] at hs
      have : ∃ j, x.testBit j = true ∧ c.testBit j = false := by
        apply Classical.byContradiction
        intro z
        apply he
        refine bext hs (fun i hi => ?_)
        cases hq : c.testBit i
        · exact absurd ⟨i, hi, hq⟩ z
        · rfl
      obtain ⟨j, h1, h2⟩ := this
      refine ⟨j, out_n (hn x hx) h1, h2, x, hx, ?_⟩
      rw [bD0]
      intro i hi
      rw [Nat.testBit_or, Bool.or_eq_true] at hi
      rcases hi with hi | hi
      · exact hs i hi
      · rw [pow_tb.mp hi]; exact h1
  · rintro (h | ⟨j, -, -, x, hx, hs⟩)
    · exact ⟨c, h, by rw [bD0]; exact fun _ z => z⟩
    · refine ⟨x, hx, ?_⟩
      rw [bD0] at hs ⊢
      intro i hi
      exact hs i (by rw [Nat.testBit_or, hi]; rfl)
theorem shl1 {m : Nat} (hm : m < 30) : nI (2 ^ m) <<< nI 1 = nI (2 ^ (m + 1)) := by
  rw [nI_shl (by omega) (by
    rw [Nat.shiftLeft_eq, ← Nat.pow_succ]
    exact Nat.pow_lt_pow_right (by decide) (by omega)), Nat.shiftLeft_eq, Nat.pow_one, Nat.pow_succ]
section C
variable {h : AH} {S R : Nat → Nat}
theorem c_inner21 (K : Int32 → AH → Option AH) (v1 : Int32) {g : AH} {n c : Nat} {f : Nat → Nat} (hn : n ≤ 12) (hc : c < 2 ^ n) (h6 : gI g 28 0 6 = nI (2 ^ n)) (hf : ∀ t, c < t → t < 2 ^ n → gI g 30 0 t = nI (f t) ∧ f t ≤ 100) (res : Nat) (hres : (res = 1 ∧ ∃ j, j < n ∧ c.testBit j = false ∧ f (c ||| 2 ^ j) = 1) ∨ (res = 0 ∧ ∀ j, j < n → c.testBit j = false → f (c ||| 2 ^ j) ≠ 1)) :
    jQ_learnOneWork_21 v1 K FU (nI c) (nI 0) (nI 1) g = jQ_learnOneWork_69 v1 K (nI c) (nI res) g := by
  have hp : 2 ^ n ≤ 2 ^ 12 := Nat.pow_le_pow_right (by decide) hn
  have hor : ∀ {m}, m < n → c ||| 2 ^ m < 2 ^ n := fun hm => Nat.or_lt_two_pow hc (Nat.pow_lt_pow_right (by decide) hm)
  have hgt : ∀ {m}, c.testBit m = false → c < c ||| 2 ^ m := by
    intro m hm
    have h1 : c ≤ c ||| 2 ^ m := b_sub_le (fun i hi => by rw [Nat.testBit_or, hi]; rfl)
    have h2 : c ≠ c ||| 2 ^ m := fun z => by
      have : (c ||| 2 ^ m).testBit m = true := by rw [Nat.testBit_or, pow_tb.mpr rfl, Bool.or_true]
      rw [← z, hm] at this
      cases this
    omega
  have key := up_ind (P := fun fu m => n - m < fu → (∀ j, j < m → c.testBit j = false → f (c ||| 2 ^ j) ≠ 1) → jQ_learnOneWork_21 v1 K fu (nI c) (nI 0) (nI (2 ^ m)) g = jQ_learnOneWork_69 v1 K (nI c) (nI res) g) n (fun fu _ hz => ?_) (fun fu m hm ih hfu hz => ?_) n 0 FU (by omega) (FU_lt (by omega)) (FU_lt (by omega)) (fun j hj => by omega)
  · rw [Nat.pow_zero] at key
    exact key
  · obtain rfl : res = 0 := by
      rcases hres with ⟨-, j, h1, h2, h3⟩ | ⟨h1, -⟩
      · exact absurd h3 (hz j h1 h2)
      · exact h1
    rw [jQ_learnOneWork_21]
    simp (disch := omega) only [h6, nI_ltI, if_neg]
  · have hlt : 2 ^ m < 2 ^ n := Nat.pow_lt_pow_right (by decide) hm
    have ho := hor hm
    rw [jQ_learnOneWork_21]
    unfold jQ_learnOneWork_58 jQ_learnOneWork_59
    simp (disch := omega) only [litI, h6, nI_ltI, if_pos, if_true, nI_and, nI_or, and31, shl1]
    have hand : c &&& 2 ^ m < 2 ^ 31 := Nat.lt_of_le_of_lt Nat.and_le_left (by omega)
    simp only [show (nI (c &&& 2 ^ m) = nI 0) = (c.testBit m = false) from propext ((nI_eq hand (by omega)).trans and_pow)]
    cases hb : c.testBit m
    · obtain ⟨e1, e2⟩ := hf _ (hgt hb) ho
      simp (disch := omega) only [if_true, inb_nI, nI_clamp, e1, nI_eq]
      by_cases h1 : f (c ||| 2 ^ m) = 1
      · rw [if_pos h1]
        obtain rfl : res = 1 := by
          rcases hres with ⟨h2, -⟩ | ⟨-, h2⟩
          · exact h2
          · exact absurd h1 (h2 m hm hb)
        cases fu with
        | zero => omega
        | succ fu =>
          rw [jQ_learnOneWork_21]
          by_cases hmn : m + 1 < n
          · have : 2 ^ (m + 1) < 2 ^ n := Nat.pow_lt_pow_right (by decide) hmn
            simp (disch := omega) only [litI, h6, nI_ltI, if_pos, nI_eq, if_neg]
          · have : ¬ 2 ^ (m + 1) < 2 ^ n := by
              rw [show m + 1 = n by omega]; omega
            have h3 : 2 ^ (m + 1) < 2 ^ 31 := Nat.pow_lt_pow_right (by decide) (by omega)
            simp (disch := omega) only [litI, h6, nI_ltI, if_neg]
      · rw [if_neg h1]
        refine ih (by omega) (fun j hj hjb => ?_)
        by_cases hjm : j = m
        · rw [hjm]; exact h1
        · exact hz j (by omega) hjb
    · simp only [Bool.true_eq_false, if_false]
      refine ih (by omega) (fun j hj hjb => ?_)
      by_cases hjm : j = m
      · rw [hjm, hb] at hjb; cases hjb
      · exact hz j (by omega) hjb
end C
