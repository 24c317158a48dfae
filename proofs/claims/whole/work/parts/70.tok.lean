/-! ===== pure: the tape's tokens ===== -/
def sml (c : Nat) : Bool := decide (97 ≤ c ∧ c ≤ 122)
def dgt (c : Nat) : Bool := decide (48 ≤ c ∧ c ≤ 57)
def rnE (f : Nat → Bool) : Nat → Nat → Nat
  | 0, p => p
  | n + 1, p => if f p = true then rnE f n (p + 1) else p
theorem rnE_b (f : Nat → Bool) : ∀ n p, p ≤ rnE f n p ∧ rnE f n p ≤ p + n := by
  intro n
  induction n with
  | zero => exact fun p => ⟨Nat.le_refl _, Nat.le_refl _⟩
  | succ n ih =>
    intro p
    rw [rnE]
    by_cases h : f p = true
    · rw [if_pos h]; have := ih (p + 1); omega
    · rw [if_neg h]; omega
theorem rnE_in (f : Nat → Bool) : ∀ n p q, p ≤ q → q < rnE f n p → f q = true := by
  intro n
  induction n with
  | zero => exact fun p q h1 h2 => absurd (show q < p from h2) (by omega)
  | succ n ih =>
    intro p q h1 h2
    rw [rnE] at h2
    by_cases h : f p = true
    · rw [if_pos h] at h2
      by_cases e : q = p
      · rw [e]; exact h
      · exact ih (p + 1) q (by omega) h2
    · rw [if_neg h] at h2; omega
theorem rnE_end (f : Nat → Bool) : ∀ n p, rnE f n p < p + n → f (rnE f n p) = false := by
  intro n
  induction n with
  | zero => exact fun p h => absurd (show p < p + 0 from h) (by omega)
  | succ n ih =>
    intro p h2
    rw [rnE] at h2 ⊢
    by_cases h : f p = true
    · rw [if_pos h] at h2 ⊢
      exact ih (p + 1) (by omega)
    · rw [if_neg h] at h2 ⊢
      exact eq_false_of_ne_true h
theorem rnE_ext {f g : Nat → Bool} : ∀ n p, (∀ q, p ≤ q → q < p + n → f q = g q) → rnE f n p = rnE g n p := by
  intro n
  induction n with
  | zero => exact fun p _ => rfl
  | succ n ih =>
    intro p h
    rw [rnE, rnE, h p (Nat.le_refl _) (by omega), ih (p + 1) (fun q q1 q2 => h q (by omega) (by omega))]
/-- same kind of run: letters with letters, digits with digits -/
def sam (a b : Nat) : Bool := (sml a && sml b) || (dgt a && dgt b)
def enT (T : Nat → Nat) (L q : Nat) : Nat := rnE (fun p => sam (T q) (T p)) (L - (q + 1)) (q + 1)
def skp (T : Nat → Nat) (L q : Nat) : Nat := rnE (fun p => decide (T p = 32)) (L - q) q
def tS (T : Nat → Nat) (L : Nat) : Nat → Nat
  | 0 => skp T L 0
  | i + 1 => skp T L (enT T L (tS T L i))
/-- kinds as the class numbers them -/
def kdT (T : Nat → Nat) (L q : Nat) : Nat :=
  if L ≤ q then 1 else if sml (T q) = true then (if enT T L q - q ≤ 8 then 2 else 0) else if dgt (T q) = true then (if enT T L q - q ≤ 3 then 3 else 0) else if T q = 59 then 4 else if T q = 44 then 5 else 0
def nuT (T : Nat → Nat) (q : Nat) : Nat → Nat
  | 0 => 0
  | n + 1 => nuT T q n * 10 + (T (q + n) - 48)
def paT (T : Nat → Nat) (q : Nat) : Nat → Nat
  | 0 => 0
  | n + 1 => paT T q n * 256 + T (q + n)
theorem sbt_lo : ∀ a, a < 128 → sbt a = nI a := by decide +kernel
theorem sbt_hi : ∀ a, a < 128 → sbt (128 + a) = -nI (128 - a) := by decide +kernel
theorem sbt_or {a : Nat} (h : a < 256) : a < 128 ∧ sbt a = nI a ∨ 128 ≤ a ∧ ∃ b, 0 < b ∧ b ≤ 128 ∧ sbt a = -nI b := by
  by_cases h1 : a < 128
  · exact Or.inl ⟨h1, sbt_lo a h1⟩
  · refine Or.inr ⟨by omega, 128 - (a - 128), by omega, by omega, ?_⟩
    have := sbt_hi (a - 128) (by omega)
    rwa [show 128 + (a - 128) = a by omega] at this
theorem sbt_eq {a c : Nat} (h : a < 256) (hc : c < 128) : (sbt a = nI c) ↔ a = c := by
  rcases sbt_or h with ⟨h1, e⟩ | ⟨h1, b, b1, b2, e⟩
  · rw [e, nI_eq (by omega) (by omega)]
  · rw [e, neg_eq_nI (by omega) (by omega) (by omega)]
    exact ⟨fun z => z.elim, fun z => by omega⟩
theorem sbt_lt {a c : Nat} (h : a < 256) (hc : c < 128) : (sbt a < nI c) ↔ ¬ (c ≤ a ∧ a < 128) := by
  rcases sbt_or h with ⟨h1, e⟩ | ⟨h1, b, b1, b2, e⟩
  · rw [e, nI_ltI (by omega) (by omega)]; omega
  · rw [e, neg_lt_nI (by omega) (by omega) (by omega)]
    exact ⟨fun _ => by omega, fun _ => trivial⟩
theorem sbt_le {a c : Nat} (h : a < 256) (hc : c < 128) : (sbt a ≤ nI c) ↔ ¬ (c < a ∧ a < 128) := by
  rcases sbt_or h with ⟨h1, e⟩ | ⟨h1, b, b1, b2, e⟩
  · rw [e, nI_leI (by omega) (by omega)]; omega
  · rw [e, neg_le_nI (by omega) (by omega)]
    exact ⟨fun _ => by omega, fun _ => trivial⟩
def bI (b : Bool) : Int32 := nI b.toNat
theorem c_letters {a b : Nat} (ha : a < 256) (hb : b < 256) : jT_areLetters (sbt a) (sbt b) = some (bI (sml a && sml b)) := by
  unfold jT_areLetters
  rw [show (97 : Int32) = nI 97 from rfl, show (122 : Int32) = nI 122 from rfl]
  simp only [sbt_lt ha (show 97 < 128 by decide), sbt_lt hb (show 97 < 128 by decide), sbt_le ha (show 122 < 128 by decide), sbt_le hb (show 122 < 128 by decide)]
  by_cases h1 : 97 ≤ a ∧ a ≤ 122
  · rw [if_neg (by omega), if_pos (by omega)]
    by_cases h2 : 97 ≤ b ∧ b ≤ 122
    · rw [if_neg (by omega), if_pos (by omega), show sml a = true from decide_eq_true h1, show sml b = true from decide_eq_true h2]; rfl
    · rw [show sml b = false from decide_eq_false h2, Bool.and_false]
      by_cases h3 : 97 ≤ b ∧ b < 128
      · rw [if_neg (by omega), if_neg (by omega)]; rfl
      · rw [if_pos h3]; rfl
  · rw [show sml a = false from decide_eq_false h1]
    by_cases h3 : 97 ≤ a ∧ a < 128
    · rw [if_neg (by omega), if_neg (by omega)]; rfl
    · rw [if_pos h3]; rfl
theorem c_digits {a b : Nat} (ha : a < 256) (hb : b < 256) : jT_areDigits (sbt a) (sbt b) = some (bI (dgt a && dgt b)) := by
  unfold jT_areDigits
  rw [show (48 : Int32) = nI 48 from rfl, show (57 : Int32) = nI 57 from rfl]
  simp only [sbt_lt ha (show 48 < 128 by decide), sbt_lt hb (show 48 < 128 by decide), sbt_le ha (show 57 < 128 by decide), sbt_le hb (show 57 < 128 by decide)]
  by_cases h1 : 48 ≤ a ∧ a ≤ 57
  · rw [if_neg (by omega), if_pos (by omega)]
    by_cases h2 : 48 ≤ b ∧ b ≤ 57
    · rw [if_neg (by omega), if_pos (by omega), show dgt a = true from decide_eq_true h1, show dgt b = true from decide_eq_true h2]; rfl
    · rw [show dgt b = false from decide_eq_false h2, Bool.and_false]
      by_cases h3 : 48 ≤ b ∧ b < 128
      · rw [if_neg (by omega), if_neg (by omega)]; rfl
      · rw [if_pos h3]; rfl
  · rw [show dgt a = false from decide_eq_false h1]
    by_cases h3 : 48 ≤ a ∧ a < 128
    · rw [if_neg (by omega), if_neg (by omega)]; rfl
    · rw [if_pos h3]; rfl
theorem bI_0 (b : Bool) : (bI b = 0) ↔ b = false := by cases b <;> decide
theorem c_endOf {h : AH} {T : Nat → Nat} {L q : Nat} (hT : ∀ i, i < L → gI h 1 0 i = sbt (T i)) (hb : ∀ i, T i < 256) (hL : L ≤ 900) (hq : q < L) : jT_endOf h (nI q) (nI L) = some (nI (enT T L q)) := by
  unfold jT_endOf
  have loop : ∀ n p, q < p → p + n = L → ∀ fu, n < fu → jT_endOf_4 h (nI q) (nI L) fu (nI p) = some (nI (rnE (fun p => sam (T q) (T p)) n p)) := by
    intro n
    induction n with
    | zero =>
      intro p _ hp fu hf
      obtain ⟨f, rfl⟩ : ∃ f, fu = f + 1 := ⟨fu - 1, by omega⟩
      rw [jT_endOf_4, if_neg (by rw [nI_ltI (by omega) (by omega)]; omega)]
      rfl
    | succ n ih =>
      intro p hqp hp fu hf
      obtain ⟨f, rfl⟩ : ∃ f, fu = f + 1 := ⟨fu - 1, by omega⟩
      rw [jT_endOf_4, if_pos (by rw [nI_ltI (by omega) (by omega)]; omega), inb_nI (by omega) (by omega), inb_nI (by omega) (by omega), if_pos rfl, if_pos rfl, nI_clamp (by omega), nI_clamp (by omega), hT q hq, hT p (by omega), c_letters (hb q) (hb p), obind, c_digits (hb q) (hb p)]
      rw [rnE]
      have next := ih (p + 1) (by omega) (by omega) f (by omega)
      rw [show nI p + 1 = nI (p + 1) from nI_add p 1]
      unfold sam
      cases e1 : (sml (T q) && sml (T p)) with
      | true =>
        rw [if_neg (show ¬ bI true = 0 by decide), next]
        rw [Bool.true_or, if_pos rfl]
        rfl
      | false =>
        rw [if_pos (show bI false = 0 by decide), if_pos rfl, if_pos rfl, obind, Bool.false_or]
        cases e2 : (dgt (T q) && dgt (T p)) with
        | true => rw [if_neg (show ¬ bI true = 0 by decide), next, if_pos rfl]; rfl
        | false => rw [if_pos (show bI false = 0 by decide), if_neg (by decide)]
  rw [show nI q + 1 = nI (q + 1) from nI_add q 1]
  exact loop (L - (q + 1)) (q + 1) (by omega) (by omega) FU (by unfold FU; omega)
theorem enT_b {T : Nat → Nat} {L q : Nat} (hq : q < L) : q < enT T L q ∧ enT T L q ≤ L := by
  have := rnE_b (fun p => sam (T q) (T p)) (L - (q + 1)) (q + 1)
  unfold enT
  omega
theorem c_kindOf {T : Nat → Nat} {L q : Nat} (hb : ∀ i, T i < 256) (hL : L ≤ 900) (hq : q < L) : jT_kindOf (sbt (T q)) (nI (enT T L q) - nI q) = some (nI (kdT T L q)) := by
  have he := enT_b (T := T) hq
  unfold jT_kindOf kdT
  rw [c_letters (hb q) (hb q), obind, c_digits (hb q) (hb q), Bool.and_self, Bool.and_self, pk_sub (by omega), if_neg (show ¬ L ≤ q by omega), show (8 : Int32) = nI 8 from rfl, show (3 : Int32) = nI 3 from rfl, show (59 : Int32) = nI 59 from rfl, show (44 : Int32) = nI 44 from rfl]
  cases sml (T q) with
  | true =>
    rw [if_neg (show ¬ bI true = 0 by decide), if_pos rfl]
    by_cases h : enT T L q - q ≤ 8
    · rw [if_pos ((nI_leI (by omega) (by omega)).2 h), if_pos h]; rfl
    · rw [if_neg (fun z => h ((nI_leI (by omega) (by omega)).1 z)), if_neg h]; rfl
  | false =>
    rw [if_pos (show bI false = 0 by decide), obind, if_neg (show ¬ false = true by decide)]
    cases dgt (T q) with
    | true =>
      rw [if_neg (show ¬ bI true = 0 by decide), if_pos rfl]
      by_cases h : enT T L q - q ≤ 3
      · rw [if_pos ((nI_leI (by omega) (by omega)).2 h), if_pos h]
      · rw [if_neg (fun z => h ((nI_leI (by omega) (by omega)).1 z)), if_neg h]; rfl
    | false =>
      rw [if_pos (show bI false = 0 by decide), if_neg (show ¬ false = true by decide)]
      by_cases h : T q = 59
      · rw [if_pos ((sbt_eq (hb q) (by decide)).2 h), if_pos h]; rfl
      · rw [if_neg (fun z => h ((sbt_eq (hb q) (by decide)).1 z)), if_neg h]
        by_cases h : T q = 44
        · rw [if_pos ((sbt_eq (hb q) (by decide)).2 h), if_pos h]; rfl
        · rw [if_neg (fun z => h ((sbt_eq (hb q) (by decide)).1 z)), if_neg h]; rfl
