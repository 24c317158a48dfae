/-! ===== pure: the parts of a set of cells ===== -/
theorem bL_tb : ∀ (n : Nat) (a : Nat), a < 2 ^ n → a ≠ 0 → ∃ k, k < n ∧ bL a = 2 ^ k ∧ a.testBit k = true ∧ ∀ j, j < k → a.testBit j = false := by
  intro n
  induction n with
  | zero => intro a h h0; omega
  | succ n ih =>
    intro a h h0
    by_cases ho : a % 2 = 1
    · refine ⟨0, by omega, ?_, by rw [Nat.testBit_zero]; simp [ho], fun j hj => by omega⟩
      apply Nat.eq_of_testBit_eq
      intro i
      unfold bL
      rw [bD_tb, Nat.testBit_two_pow]
      cases i with
      | zero => rw [Nat.testBit_zero, Nat.testBit_zero]; simp [ho]; omega
      | succ i =>
        rw [Nat.testBit_succ, Nat.testBit_succ, show (a - 1) / 2 = a / 2 by omega]
        cases (a / 2).testBit i <;> simp
    · obtain ⟨k, hk, e, t, z⟩ := ih (a / 2) (by rw [Nat.pow_succ] at h; omega) (by omega)
      refine ⟨k + 1, by omega, ?_, by rw [Nat.testBit_succ]; exact t, ?_⟩
      · apply Nat.eq_of_testBit_eq
        intro i
        unfold bL at e ⊢
        rw [bD_tb, Nat.testBit_two_pow]
        cases i with
        | zero => rw [Nat.testBit_zero, Nat.testBit_zero]; simp [ho]
        | succ i =>
          have e2 := congrArg (fun x => x.testBit i) e
          simp only [bD_tb, Nat.testBit_two_pow] at e2
          rw [Nat.testBit_succ, Nat.testBit_succ, show (a - 1) / 2 = a / 2 - 1 by omega, e2]
          by_cases hki : k = i
          · simp [hki]
          · simp [hki]
      · intro j hj
        cases j with
        | zero => rw [Nat.testBit_zero]; simp [ho]
        | succ j => rw [Nat.testBit_succ]; exact z j (by omega)
/-- the lowest cell -/
def lw (a : Nat) : Nat := Nat.log2 (bL a)
theorem lw_spec {n a : Nat} (h : a < 2 ^ n) (h0 : a ≠ 0) : lw a < n ∧ bL a = 2 ^ lw a ∧ a.testBit (lw a) = true ∧ ∀ j, j < lw a → a.testBit j = false := by
  obtain ⟨k, hk, e, t, z⟩ := bL_tb n a h h0
  have hl : lw a = k := by
    unfold lw
    rw [e, Nat.log2_two_pow]
  rw [hl]
  exact ⟨hk, e, t, z⟩
theorem lw_uniq {a k : Nat} (h : a.testBit k = true) (hz : ∀ j, j < k → a.testBit j = false) : lw a = k := by
  have h0 : a ≠ 0 := by
    rintro rfl
    simp at h
  obtain ⟨-, -, t, z⟩ := lw_spec (n := a) Nat.lt_two_pow_self h0
  rcases Nat.lt_trichotomy (lw a) k with h1 | h1 | h1
  · rw [hz _ h1] at t; cases t
  · exact h1
  · rw [z _ h1] at h; cases h
def nbr (wi p d : Nat) : Bool := (decide (0 < d % wi) && p.testBit (d - 1)) || (decide (0 < (d + 1) % wi) && p.testBit (d + 1)) || (decide (wi ≤ d) && p.testBit (d - wi)) || p.testBit (d + wi)
def gro (wi s p : Nat) : Nat := bM (fun d => p.testBit d || (s.testBit d && nbr wi p d)) 24
def cmN (wi s p : Nat) : Nat → Nat
  | 0 => p
  | k + 1 => gro wi s (cmN wi s p k)
def cmp (wi s c : Nat) : Nat := cmN wi s (2 ^ c) 24
theorem gro_lt (wi s p : Nat) : gro wi s p < 2 ^ 24 := bM_lt _ 24
theorem gro_sub {wi s p i : Nat} (hp : p < 2 ^ 24) (h : p.testBit i = true) : (gro wi s p).testBit i = true := by
  unfold gro
  rw [bM_tb]
  have hi : i < 24 := by
    apply Decidable.byContradiction
    intro z
    rw [Nat.testBit_lt_two_pow (Nat.lt_of_lt_of_le hp (Nat.pow_le_pow_right (by decide) (by omega)))] at h
    cases h
  simp [hi, h]
theorem cmN_lt {wi s p : Nat} (hp : p < 2 ^ 24) : ∀ k, cmN wi s p k < 2 ^ 24 := by
  intro k
  cases k with
  | zero => exact hp
  | succ k => exact gro_lt _ _ _
/-- closed: what lies beside and is in s, is in it -/
def Cl (wi s p : Nat) : Prop := ∀ d, d < 24 → s.testBit d = true → nbr wi p d = true → p.testBit d = true
theorem Cl_gro {wi s p : Nat} (hp : p < 2 ^ 24) (h : Cl wi s p) : gro wi s p = p := by
  apply Nat.eq_of_testBit_eq
  intro i
  unfold gro
  rw [bM_tb]
  by_cases hi : i < 24
  · simp only [hi, decide_true, Bool.true_and]
    cases hq : p.testBit i
    · cases hs : s.testBit i
      · rfl
      · cases hn : nbr wi p i
        · rfl
        · rw [h i hi hs hn] at hq; cases hq
    · rfl
  · rw [Nat.testBit_lt_two_pow (Nat.lt_of_lt_of_le hp (Nat.pow_le_pow_right (by decide) (by omega)))]
    simp [hi]
theorem gro_Cl {wi s p : Nat} (h : gro wi s p = p) : Cl wi s p := by
  intro d hd hs hn
  rw [← h]
  unfold gro
  rw [bM_tb]
  simp [hd, hs, hn]
theorem nbr_mono {wi p q d : Nat} (h : ∀ i, p.testBit i = true → q.testBit i = true) (hn : nbr wi p d = true) : nbr wi q d = true := by
  unfold nbr at hn ⊢
  simp only [Bool.or_eq_true, Bool.and_eq_true] at hn ⊢
  rcases hn with ((hn | hn) | hn) | hn
  · exact Or.inl (Or.inl (Or.inl ⟨hn.1, h _ hn.2⟩))
  · exact Or.inl (Or.inl (Or.inr ⟨hn.1, h _ hn.2⟩))
  · exact Or.inl (Or.inr ⟨hn.1, h _ hn.2⟩)
  · exact Or.inr (h _ hn)
theorem gro_least {wi s p q i : Nat} (h : ∀ i, p.testBit i = true → q.testBit i = true) (hq : Cl wi s q) (hi : (gro wi s p).testBit i = true) : q.testBit i = true := by
  unfold gro at hi
  rw [bM_tb] at hi
  simp only [Bool.and_eq_true, Bool.or_eq_true, decide_eq_true_eq] at hi
  rcases hi.2 with h1 | h1
  · exact h i h1
  · exact hq i hi.1 h1.1 (nbr_mono h h1.2)
theorem cmN_least {wi s p q : Nat} (h : ∀ i, p.testBit i = true → q.testBit i = true) (hq : Cl wi s q) : ∀ k i, (cmN wi s p k).testBit i = true → q.testBit i = true := by
  intro k
  induction k with
  | zero => exact h
  | succ k ih =>
    intro i hi
    exact gro_least ih hq hi
theorem cmN_stop {wi s p k : Nat} (h : gro wi s (cmN wi s p k) = cmN wi s p k) : ∀ d, cmN wi s p (k + d) = cmN wi s p k := by
  intro d
  induction d with
  | zero => rfl
  | succ d ih =>
    rw [← Nat.add_assoc, cmN, ih]
    exact h
theorem gro_grows {wi s p : Nat} (hp : p < 2 ^ 24) (h : gro wi s p ≠ p) : bP p 24 < bP (gro wi s p) 24 := by
  have hx : ∃ j, j < 24 ∧ p.testBit j = false ∧ (gro wi s p).testBit j = true := by
    apply Classical.byContradiction
    intro z
    apply h
    apply Nat.eq_of_testBit_eq
    intro i
    cases hq : p.testBit i
    · cases hg : (gro wi s p).testBit i
      · rfl
      · exfalso
        apply z
        refine ⟨i, ?_, hq, hg⟩
        apply Decidable.byContradiction
        intro zz
        rw [Nat.testBit_lt_two_pow (Nat.lt_of_lt_of_le (gro_lt wi s p) (Nat.pow_le_pow_right (by decide) (by omega)))] at hg
        cases hg
    · exact gro_sub hp hq
  obtain ⟨j, hj, h0, h1⟩ := hx
  exact bP_smono (fun i _ hi => gro_sub hp hi) hj h0 h1
theorem cmN_fix {wi s p : Nat} (hp : p < 2 ^ 24) (h0 : p ≠ 0) : gro wi s (cmN wi s p 24) = cmN wi s p 24 := by
  apply Classical.byContradiction
  intro z
  have key : ∀ k, k ≤ 24 → k + 1 ≤ bP (cmN wi s p k) 24 := by
    intro k
    induction k with
    | zero =>
      intro _
      have := mt (bP_eq0 hp).mp h0
      show 0 + 1 ≤ bP p 24
      omega
    | succ k ih =>
      intro hk
      have h1 := ih (by omega)
      have h2 : gro wi s (cmN wi s p k) ≠ cmN wi s p k := by
        intro e
        have e1 := cmN_stop e (24 - k)
        rw [show k + (24 - k) = 24 by omega] at e1
        apply z
        rw [e1]
        exact e
      have h3 := gro_grows (cmN_lt hp k) h2
      show k + 1 + 1 ≤ bP (gro wi s (cmN wi s p k)) 24
      omega
  have h1 := key 24 (Nat.le_refl _)
  have h2 := bP_le (cmN wi s p 24) 24
  omega
theorem pow_lt24 {c : Nat} (hc : c < 24) : 2 ^ c < 2 ^ 24 := Nat.pow_lt_pow_right (by decide) hc
theorem cmp_lt {wi s c : Nat} (hc : c < 24) : cmp wi s c < 2 ^ 24 := cmN_lt (pow_lt24 hc) 24
theorem cmp_Cl {wi s c : Nat} (hc : c < 24) : Cl wi s (cmp wi s c) := gro_Cl (cmN_fix (pow_lt24 hc) (by have := Nat.two_pow_pos c; omega))
theorem pow_tb {c i : Nat} : ((2 ^ c).testBit i = true) ↔ i = c := by
  rw [Nat.testBit_two_pow]
  simp
  omega
theorem cmp_self {wi s c : Nat} (hc : c < 24) : (cmp wi s c).testBit c = true := by
  unfold cmp
  have : ∀ k, (cmN wi s (2 ^ c) k).testBit c = true := by
    intro k
    induction k with
    | zero => exact pow_tb.mpr rfl
    | succ k ih => exact gro_sub (cmN_lt (pow_lt24 hc) k) ih
  exact this 24
theorem cmp_least {wi s c q : Nat} (h : q.testBit c = true) (hq : Cl wi s q) {i : Nat} (hi : (cmp wi s c).testBit i = true) : q.testBit i = true :=
  cmN_least (fun i z => by rw [pow_tb.mp z]; exact h) hq 24 i hi
theorem cmp_sub {wi s c : Nat} (hs : s < 2 ^ 24) (hc : s.testBit c = true) {i : Nat} (hi : (cmp wi s c).testBit i = true) : s.testBit i = true :=
  cmp_least hc (fun _ _ h _ => h) hi
/-- closed in s, as a part of it that nothing of s lies beside -/
theorem nbr_ex {wi p d : Nat} (h : nbr wi p d = true) : ∃ e, p.testBit e = true ∧ (0 < d % wi ∧ d = e + 1 ∨ 0 < e % wi ∧ e = d + 1 ∨ d = e + wi ∨ e = d + wi) := by
  unfold nbr at h
  simp only [Bool.or_eq_true, Bool.and_eq_true, decide_eq_true_eq] at h
  rcases h with ((h | h) | h) | h
  · refine ⟨d - 1, h.2, Or.inl ⟨h.1, ?_⟩⟩
    have : d ≠ 0 := by rintro rfl; simp at h
    omega
  · exact ⟨d + 1, h.2, Or.inr (Or.inl ⟨h.1, rfl⟩)⟩
  · exact ⟨d - wi, h.2, Or.inr (Or.inr (Or.inl (by omega)))⟩
  · exact ⟨d + wi, h, Or.inr (Or.inr (Or.inr rfl))⟩
theorem nbr_of {wi p d e : Nat} (he : p.testBit e = true) (h : 0 < d % wi ∧ d = e + 1 ∨ 0 < e % wi ∧ e = d + 1 ∨ d = e + wi ∨ e = d + wi) : nbr wi p d = true := by
  unfold nbr
  simp only [Bool.or_eq_true, Bool.and_eq_true, decide_eq_true_eq]
  rcases h with h | h | h | h
  · exact Or.inl (Or.inl (Or.inl ⟨h.1, by rw [show d - 1 = e by omega]; exact he⟩))
  · exact Or.inl (Or.inl (Or.inr ⟨by rw [← h.2]; exact h.1, by rw [← h.2]; exact he⟩))
  · exact Or.inl (Or.inr ⟨by omega, by rw [show d - wi = e by omega]; exact he⟩)
  · exact Or.inr (by rw [← h]; exact he)
theorem nbr_sym {wi p q d e : Nat} (hd : q.testBit d = true) (h : 0 < d % wi ∧ d = e + 1 ∨ 0 < e % wi ∧ e = d + 1 ∨ d = e + wi ∨ e = d + wi) : nbr wi q e = true := by
  apply nbr_of hd
  omega
/-- without a closed part of it: closed as well -/
theorem Cl_dif {wi s r q : Nat} (hs : s < 2 ^ 24) (hr : ∀ i, r.testBit i = true → s.testBit i = true) (h1 : Cl wi s r) (h2 : Cl wi s q) (hq : ∀ i, q.testBit i = true → s.testBit i = true) : Cl wi s (bD r q) := by
  intro d hd hsd hn
  obtain ⟨e, he, ha⟩ := nbr_ex hn
  rw [bD_tb] at he ⊢
  simp only [Bool.and_eq_true, Bool.not_eq_true'] at he ⊢
  refine ⟨h1 d hd hsd (nbr_of he.1 ha), ?_⟩
  cases hqd : q.testBit d
  · rfl
  · have he24 : e < 24 := by
      apply Decidable.byContradiction
      intro z
      have := hr e he.1
      rw [Nat.testBit_lt_two_pow (Nat.lt_of_lt_of_le hs (Nat.pow_le_pow_right (by decide) (by omega)))] at this
      cases this
    have := h2 e he24 (hr e he.1) (nbr_sym (p := q) hqd ha)
    rw [this] at he
    exact absurd he.2 (by decide)
theorem bext {a b : Nat} (h1 : ∀ i, a.testBit i = true → b.testBit i = true) (h2 : ∀ i, b.testBit i = true → a.testBit i = true) : a = b := by
  apply Nat.eq_of_testBit_eq
  intro i
  cases ha : a.testBit i
  · cases hb : b.testBit i
    · rfl
    · rw [h2 i hb] at ha; cases ha
  · rw [h1 i ha]
/-- the part of c is the same in what is closed in s -/
theorem cmp_in {wi s r c : Nat} (hs : s < 2 ^ 24) (hr : ∀ i, r.testBit i = true → s.testBit i = true) (h1 : Cl wi s r) (hc : r.testBit c = true) (hc24 : c < 24) : cmp wi r c = cmp wi s c := by
  refine bext (fun i hi => ?_) (fun i hi => ?_)
  · exact cmp_least (cmp_self hc24) (fun d hd hrd hn => cmp_Cl hc24 d hd (hr d hrd) hn) hi
  · refine cmp_least (cmp_self hc24) (fun d hd hsd hn => ?_) hi
    have hsub : ∀ i, (cmp wi r c).testBit i = true → r.testBit i = true := fun i hi => cmp_least hc (fun _ _ z _ => z) hi
    have hrd := h1 d hd hsd (nbr_mono hsub hn)
    exact cmp_Cl hc24 d hd hrd hn
/-- parts by their first cells: the n-th's first cell, one more; how many -/
def pat (wi : Nat) : Nat → Nat → Nat → Nat
  | 0, _, _ => 0
  | f + 1, r, n => if r = 0 then 0 else if n = 0 then lw r + 1 else pat wi f (bD r (cmp wi r (lw r))) (n - 1)
def npt (wi : Nat) : Nat → Nat → Nat
  | 0, _ => 0
  | f + 1, r => if r = 0 then 0 else npt wi f (bD r (cmp wi r (lw r))) + 1
theorem npt_le (wi : Nat) : ∀ f r, npt wi f r ≤ f := by
  intro f
  induction f with
  | zero => intro r; exact Nat.le_refl 0
  | succ f ih =>
    intro r
    unfold npt
    split
    · omega
    · have := ih (bD r (cmp wi r (lw r))); omega
theorem pat_npt (wi : Nat) : ∀ f r n, pat wi f r n = 0 ↔ npt wi f r ≤ n := by
  intro f
  induction f with
  | zero => intro r n; simp [pat, npt]
  | succ f ih =>
    intro r n
    unfold pat npt
    by_cases hr : r = 0
    · simp [hr]
    · rw [if_neg hr, if_neg hr]
      by_cases hn : n = 0
      · simp [hn]
      · rw [if_neg hn, ih]
        omega
theorem rest_lt {wi r : Nat} (hr : r < 2 ^ 24) (h0 : r ≠ 0) : bP (bD r (cmp wi r (lw r))) 24 < bP r 24 := by
  obtain ⟨h1, -, h2, -⟩ := lw_spec hr h0
  refine bP_smono (j := lw r) (fun i _ hi => ?_) h1 ?_ h2
  · rw [bD_tb] at hi
    simp only [Bool.and_eq_true] at hi
    exact hi.1
  · rw [bD_tb, cmp_self h1]
    simp
theorem bD_lt {a b n : Nat} (h : a < 2 ^ n) : bD a b < 2 ^ n := Nat.lt_of_le_of_lt (bD_le a b) h
