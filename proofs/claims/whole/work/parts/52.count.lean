/-! ===== pure: in how many orders ===== -/
def aL (h : AH) (k i : Nat) (f : Nat → Int64) : AH := (h.1, fun a b c => if a = k ∧ b = i then f c else h.2.1 a b c, h.2.2)
theorem gL_aL_s (h : AH) (k i : Nat) (f : Nat → Int64) (c : Nat) : gL (aL h k i f) k i c = f c := if_pos ⟨rfl, rfl⟩
theorem gI_aL (h : AH) (k i : Nat) (f : Nat → Int64) (a b c : Nat) : gI (aL h k i f) a b c = gI h a b c := rfl
theorem aL_self (h : AH) (k i : Nat) : aL h k i (gL h k i) = h := by
  refine Prod.ext rfl (Prod.ext ?_ rfl)
  funext a b c
  show (if a = k ∧ b = i then gL h k i c else h.2.1 a b c) = h.2.1 a b c
  by_cases hh : a = k ∧ b = i
  · rw [if_pos hh, hh.1, hh.2]; rfl
  · rw [if_neg hh]
theorem aL_id {h : AH} {k i : Nat} {f : Nat → Int64} (e : ∀ c, f c = gL h k i c) : aL h k i f = h := by
  have : f = gL h k i := funext e
  rw [this, aL_self]
theorem uL_aL (h : AH) (k i j : Nat) (f : Nat → Int64) (v : Int64) : uL (aL h k i f) k i j v = aL h k i (fun c => if c = j then v else f c) := by
  refine Prod.ext rfl (Prod.ext ?_ rfl)
  funext a b c
  show (if a = k ∧ b = i ∧ c = j then v else if a = k ∧ b = i then f c else h.2.1 a b c) = if a = k ∧ b = i then (if c = j then v else f c) else h.2.1 a b c
  by_cases hh : a = k ∧ b = i
  · rw [if_pos hh, if_pos hh]
    by_cases hc : c = j
    · rw [if_pos hc, if_pos ⟨hh.1, hh.2, hc⟩]
    · rw [if_neg hc, if_neg (fun z => hc z.2.2)]
  · rw [if_neg hh, if_neg hh, if_neg (fun z => hh ⟨z.1, z.2.1⟩)]
theorem aL_ext {h : AH} {k i : Nat} {f g : Nat → Int64} (e : ∀ c, f c = g c) : aL h k i f = aL h k i g := by
  rw [show f = g from funext e]
theorem uL_is (h : AH) (k i j : Nat) (v : Int64) : uL h k i j v = aL h k i (fun c => if c = j then v else gL h k i c) := by
  have := uL_aL h k i j (gL h k i) v
  rw [aL_self] at this
  exact this
/-- sums of longs -/
def sm (f : Nat → Int64) : Nat → Int64
  | 0 => 0
  | n + 1 => sm f n + f n
theorem sm_ext {f g : Nat → Int64} : ∀ n, (∀ i, i < n → f i = g i) → sm f n = sm g n := by
  intro n
  induction n with
  | zero => intro _; rfl
  | succ n ih => intro h; unfold sm; rw [ih (fun i hi => h i (by omega)), h n (by omega)]
theorem sm_up {f : Nat → Int64} {v : Int64} {j : Nat} : ∀ n, j < n → f j = 0 → sm (fun i => if i = j then v else f i) n = sm f n + v := by
  intro n
  induction n with
  | zero => intro h; omega
  | succ n ih =>
    intro h h0
    unfold sm
    by_cases hj : j = n
    · rw [hj] at h0 ⊢
      rw [if_pos rfl, h0, Int64.add_zero, sm_ext n (fun i hi => if_neg (by omega))]
    · rw [if_neg (show ¬ n = j from fun z => hj z.symm), ih (by omega) h0, Int64.add_assoc, Int64.add_assoc, Int64.add_comm v]
theorem sm_0 {f : Nat → Int64} : ∀ n, (∀ i, i < n → f i = 0) → sm f n = 0 := by
  intro n
  induction n with
  | zero => intro _; rfl
  | succ n ih => intro h; unfold sm; rw [ih (fun i hi => h i (by omega)), h n (by omega)]; rfl
/-- may v come right behind the set c -/
def okO (S : Nat → Nat) (a b : Nat) (v c : Nat) : Bool := decide (bD (sur S v) c = 0) && (decide (v ≠ b) || c.testBit a)
/-- the ways to a set, through its last -/
def wTb (ok : Nat → Nat → Bool) (n : Nat) : Nat → Nat → Int64
  | 0 => fun _ => 0
  | k + 1 => fun s => if s = k then (if k = 0 then 1 else sm (fun w => if s.testBit w = true ∧ ok w (bD s (2 ^ w)) = true then wTb ok n k (bD s (2 ^ w)) else 0) n) else wTb ok n k s
def wy (ok : Nat → Nat → Bool) (n s : Nat) : Int64 := wTb ok n (s + 1) s
theorem wTb_st (ok : Nat → Nat → Bool) (n : Nat) {s : Nat} : ∀ {k}, s < k → wTb ok n k s = wy ok n s := by
  intro k
  induction k with
  | zero => intro h; omega
  | succ k ih =>
    intro h
    by_cases hs : s = k
    · rw [hs]; rfl
    · show (if s = k then _ else wTb ok n k s) = _
      rw [if_neg hs]
      exact ih (by omega)
theorem wy_0 (ok : Nat → Nat → Bool) (n : Nat) : wy ok n 0 = 1 := rfl
theorem less_lt {s w : Nat} (h : s.testBit w = true) : bD s (2 ^ w) < s := by
  have h1 := bD_le s (2 ^ w)
  have h2 : bD s (2 ^ w) ≠ s := fun z => by
    have : (bD s (2 ^ w)).testBit w = false := by rw [bD_tb, Nat.testBit_two_pow]; simp
    rw [z, h] at this
    cases this
  omega
theorem wy_s (ok : Nat → Nat → Bool) (n : Nat) {s : Nat} (h0 : s ≠ 0) : wy ok n s = sm (fun w => if s.testBit w = true ∧ ok w (bD s (2 ^ w)) = true then wy ok n (bD s (2 ^ w)) else 0) n := by
  show (if s = s then (if s = 0 then _ else _) else _) = _
  rw [if_pos rfl, if_neg h0]
  refine sm_ext n (fun w _ => ?_)
  by_cases hc : s.testBit w = true ∧ ok w (bD s (2 ^ w)) = true
  · rw [if_pos hc, if_pos hc]
    exact wTb_st ok n (less_lt hc.1)
  · rw [if_neg hc, if_neg hc]
section M
variable {h : AH} {S R : Nat → Nat}
/-- the model's row of ways, a set at a time -/
theorem m_ways {ok : Nat → Nat → Bool} {n N : Nat} (f56 : (Int32 → Int32 → AH → Option (Int64 × AH)) → Nat → Int32 → Int32 → Int32 → AH → Option (Int64 × AH)) (hN : N = 2 ^ n) (hn : n ≤ 12)
    (hend : ∀ K fu s g, MoS g S → S 0 = n → f56 K (fu + 1) (nI (N - 1)) (nI s) (nI n) g = K (nI (N - 1)) (nI (s + 1)) g)
    (hstep : ∀ K fu s w g, MoS g S → OrM g S → S 0 = n → s < N → s ≠ 0 → w < n → (s.testBit w = true ∧ ok w (bD s (2 ^ w)) = true → f56 K (fu + 1) (nI (N - 1)) (nI s) (nI w) g = f56 K fu (nI (N - 1)) (nI s) (nI (w + 1)) (uL g 43 0 s (gL g 43 0 s + gL g 43 0 (bD s (2 ^ w))))) ∧ (¬ (s.testBit w = true ∧ ok w (bD s (2 ^ w)) = true) → f56 K (fu + 1) (nI (N - 1)) (nI s) (nI w) g = f56 K fu (nI (N - 1)) (nI s) (nI (w + 1)) g))
    (hS : S 0 = n) : ∀ s, s < N → s ≠ 0 → ∀ g, MoS g S → OrM g S → (∀ t, t < s → gL g 43 0 t = wy ok n t) → gL g 43 0 s = 0 → ∃ g', (∀ K, f56 K FU (nI (N - 1)) (nI s) (nI 0) g = K (nI (N - 1)) (nI (s + 1)) g') ∧ (g'.1 = g.1 ∧ g'.2.2 = g.2.2) ∧ (∀ t, t ≤ s → gL g' 43 0 t = wy ok n t) ∧ (∀ a b c, ¬ (a = 43 ∧ b = 0) → gL g' a b c = gL g a b c) := by
  intro s hs h0 g MS OM hpast hz
  have key := up_ind (P := fun fu w => ∃ g', (∀ K, f56 K fu (nI (N - 1)) (nI s) (nI w) (uL g 43 0 s (sm (fun w => if s.testBit w = true ∧ ok w (bD s (2 ^ w)) = true then wy ok n (bD s (2 ^ w)) else 0) w)) = K (nI (N - 1)) (nI (s + 1)) g') ∧ (g'.1 = g.1 ∧ g'.2.2 = g.2.2) ∧ (∀ t, t ≤ s → gL g' 43 0 t = wy ok n t) ∧ (∀ a b c, ¬ (a = 43 ∧ b = 0) → gL g' a b c = gL g a b c)) n (fun fu => ?_) (fun fu w hw ih => ?_) n 0 FU (by omega) (FU_lt (by omega))
  · have e : uL g 43 0 s (sm (fun w => if s.testBit w = true ∧ ok w (bD s (2 ^ w)) = true then wy ok n (bD s (2 ^ w)) else 0) 0) = g := by
      rw [uL_is]
      refine aL_id (fun c => ?_)
      by_cases hc : c = s
      · rw [if_pos hc, hc, hz]; rfl
      · rw [if_neg hc]
    rw [e] at key
    exact key
  · refine ⟨_, fun K => hend K fu s _ (fun i hi => MS i hi) hS, ⟨rfl, rfl⟩, fun t ht => ?_, fun a b c q => ?_⟩
    · rw [gL_uL]
      by_cases hts : t = s
      · rw [if_pos ⟨rfl, rfl, hts⟩, hts, wy_s ok n h0]
      · rw [if_neg (fun z => hts z.2.2)]
        exact hpast t (by omega)
    · rw [gL_uL, if_neg (fun z => q ⟨z.1, z.2.1⟩)]
  · obtain ⟨g', q1, q2⟩ := ih
    refine ⟨g', fun K => ?_, q2⟩
    obtain ⟨c1, c2⟩ := hstep K fu s w (uL g 43 0 s (sm (fun w => if s.testBit w = true ∧ ok w (bD s (2 ^ w)) = true then wy ok n (bD s (2 ^ w)) else 0) w)) (fun i hi => MS i hi) (fun r hr => OM r hr) hS hs h0 hw
    have q1 := q1 K
    rw [sm] at q1
    by_cases hc : s.testBit w = true ∧ ok w (bD s (2 ^ w)) = true
    · have hlt := less_lt hc.1
      rw [c1 hc, gL_uL, if_pos ⟨rfl, rfl, rfl⟩, gL_uL, if_neg (by omega), hpast _ hlt]
      rw [if_pos hc] at q1
      rw [← q1]
      rw [uL_is, uL_is, uL_is]
      refine congrArg _ ?_
      refine Prod.ext rfl (Prod.ext ?_ rfl)
      funext a b c
      show (if a = 43 ∧ b = 0 then (if c = s then _ else gL (aL g 43 0 _) 43 0 c) else (if a = 43 ∧ b = 0 then _ else g.2.1 a b c)) = (if a = 43 ∧ b = 0 then (if c = s then _ else gL g 43 0 c) else g.2.1 a b c)
      by_cases hh : a = 43 ∧ b = 0
      · rw [if_pos hh, if_pos hh]
        by_cases hcs : c = s
        · rw [if_pos hcs, if_pos hcs]
        · rw [if_neg hcs, if_neg hcs, gL_aL_s, if_neg hcs]
      · rw [if_neg hh, if_neg hh, if_neg hh]
    · rw [c2 hc]
      rw [if_neg hc, Int64.add_zero] at q1
      exact q1
end M
