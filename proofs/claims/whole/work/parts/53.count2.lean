/-! ===== pure: in how many orders, both sides ===== -/
theorem okO_tb {S : Nat → Nat} {a b v c : Nat} : okO S a b v c = true ↔ bD (sur S v) c = 0 ∧ (v = b → c.testBit a = true) := by
  unfold okO
  simp only [Bool.and_eq_true, Bool.or_eq_true, decide_eq_true_eq]
  constructor
  · rintro ⟨h1, h2⟩
    exact ⟨h1, fun z => h2.resolve_left (fun q => q z)⟩
  · rintro ⟨h1, h2⟩
    refine ⟨h1, ?_⟩
    by_cases hv : v = b
    · exact Or.inr (h2 hv)
    · exact Or.inl hv
section M
variable {h : AH} {S R : Nat → Nat}
theorem m_outer {ok : Nat → Nat → Bool} {n N : Nat} (f56 : (Int32 → Int32 → AH → Option (Int64 × AH)) → Nat → Int32 → Int32 → Int32 → AH → Option (Int64 × AH)) (f42 : Nat → Int32 → Int32 → AH → Option (Int64 × AH)) (hN : N = 2 ^ n) (hn : n ≤ 12)
    (h42a : ∀ fu s g, 1 ≤ s → s < N → f42 (fu + 1) (nI (N - 1)) (nI s) g = f56 (f42 fu) FU (nI (N - 1)) (nI s) (nI 0) (uL g 43 0 s 0))
    (h42b : ∀ fu g, f42 (fu + 1) (nI (N - 1)) (nI N) g = some (gL g 43 0 (N - 1), g))
    (hend : ∀ K fu s g, MoS g S → S 0 = n → f56 K (fu + 1) (nI (N - 1)) (nI s) (nI n) g = K (nI (N - 1)) (nI (s + 1)) g)
    (hstep : ∀ K fu s w g, MoS g S → OrM g S → S 0 = n → s < N → s ≠ 0 → w < n → (s.testBit w = true ∧ ok w (bD s (2 ^ w)) = true → f56 K (fu + 1) (nI (N - 1)) (nI s) (nI w) g = f56 K fu (nI (N - 1)) (nI s) (nI (w + 1)) (uL g 43 0 s (gL g 43 0 s + gL g 43 0 (bD s (2 ^ w))))) ∧ (¬ (s.testBit w = true ∧ ok w (bD s (2 ^ w)) = true) → f56 K (fu + 1) (nI (N - 1)) (nI s) (nI w) g = f56 K fu (nI (N - 1)) (nI s) (nI (w + 1)) g))
    (hS : S 0 = n) (MS : MoS h S) (OM : OrM h S) : ∃ h', f42 FU (nI (N - 1)) (nI 1) (uL h 43 0 0 1) = some (wy ok n (N - 1), h') ∧ h'.1 = h.1 ∧ h'.2.2 = h.2.2 := by
  have hp : 2 ^ n ≤ 2 ^ 12 := Nat.pow_le_pow_right (by decide) hn
  have hp0 := Nat.two_pow_pos n
  refine up_ind (P := fun fu s => 1 ≤ s → ∀ g, g.1 = h.1 ∧ g.2.2 = h.2.2 → (∀ t, t < s → gL g 43 0 t = wy ok n t) → ∃ h', f42 fu (nI (N - 1)) (nI s) g = some (wy ok n (N - 1), h') ∧ h'.1 = h.1 ∧ h'.2.2 = h.2.2) N (fun fu _ g hg hw => ?_) (fun fu s hs ih h1 g hg hw => ?_) (N - 1) 1 FU (by omega) (FU_lt (by omega)) (Nat.le_refl _) _ ⟨rfl, rfl⟩ (fun t ht => ?_)
  · refine ⟨g, ?_, hg⟩
    rw [h42b, hw _ (by omega)]
  · have MS2 : MoS (uL g 43 0 s 0) S := fun i hi => by
      show g.1 37 0 i = _
      rw [hg.1]; exact MS i hi
    have OM2 : OrM (uL g 43 0 s 0) S := fun r hr => by
      show g.1 42 0 r = _
      rw [hg.1]; exact OM r hr
    obtain ⟨g', q1, q2, q3, q4⟩ := m_ways (ok := ok) (N := N) f56 hN hn hend hstep hS s hs (by omega) (uL g 43 0 s 0) MS2 OM2 (fun t ht => by
      rw [gL_uL, if_neg (by omega)]
      exact hw t ht) (by rw [gL_uL, if_pos ⟨rfl, rfl, rfl⟩])
    rw [h42a fu s g h1 hs, q1]
    exact ih (by omega) g' ⟨q2.1.trans hg.1, q2.2.trans hg.2⟩ (fun t ht => q3 t (by omega))
  · obtain rfl : t = 0 := by omega
    rw [gL_uL, if_pos ⟨rfl, rfl, rfl⟩, wy_0]
theorem less_step {S : Nat → Nat} {n N s w a b : Nat} (hN : N = 2 ^ n) (hn : n ≤ 12) (hs : s < N) (hw : w < n) (ha : a < 12) : s.testBit w = true ∧ okO S a b w (bD s (2 ^ w)) = true ↔ s.testBit w = true ∧ bD (sur S w) (bD s (2 ^ w)) = 0 ∧ (w = b → (bD s (2 ^ w)).testBit a = true) := by
  rw [okO_tb]
theorem m_orders_run {n : Nat} (hn : n ≤ 12) (hS : S 0 = n) (MS : MoS h S) (OM : OrM h S) : ∃ h', jM_orders_42 FU (nI (2 ^ n - 1)) (nI 1) (uL h 43 0 0 1) = some (wy (okO S 0 100) n (2 ^ n - 1), h') ∧ h'.1 = h.1 ∧ h'.2.2 = h.2.2 := by
  have hp : 2 ^ n ≤ 2 ^ 12 := Nat.pow_le_pow_right (by decide) hn
  have hp0 := Nat.two_pow_pos n
  refine m_outer (fun K => jM_orders_56 K) jM_orders_42 rfl hn (fun fu s g h1 h2 => ?_) (fun fu g => ?_) (fun K fu s g MS hS => ?_) (fun K fu s w g MS OM hS hs h0 hw => ?_) hS MS OM
  · rw [jM_orders_42]
    simp (disch := omega) only [litI, nI_leI, if_pos, inb_nI, nI_clamp, if_true, jbn]
  · rw [jM_orders_42]
    simp (disch := omega) only [litI, nI_leI, if_neg, inb_nI, nI_clamp, if_true]
  · rw [jM_orders_56]
    simp (disch := omega) only [litI, inb_nI, nI_clamp, MS 0, hS, if_true, nI_ltI, if_neg, nI_add]
  · have hlt : bD s (2 ^ w) < 2 ^ 12 := by have := bD_le s (2 ^ w); omega
    have hsl := sur_lt12 (S := S) (w := w) (by omega)
    have hb : bD (sur S w) (bD s (2 ^ w)) < 2 ^ 31 := by have := bD_le (sur S w) (bD s (2 ^ w)); omega
    have hok : okO S 0 100 w (bD s (2 ^ w)) = true ↔ bD (sur S w) (bD s (2 ^ w)) = 0 := by
      rw [okO_tb]
      exact ⟨fun z => z.1, fun z => ⟨z, fun q => by omega⟩⟩
    show (_ → jM_orders_56 K (fu + 1) _ _ _ g = jM_orders_56 K fu _ _ _ _) ∧ (_ → jM_orders_56 K (fu + 1) _ _ _ g = jM_orders_56 K fu _ _ _ g)
    rw [jM_orders_56]
    simp (disch := omega) only [litI, inb_nI, nI_clamp, MS 0, hS, if_true, nI_ltI, if_pos, jbn, nI_and, and31, nI_bit, nI_dif, m_has, obind, nI_tn0, OM w (by omega), nI_add]
    simp only [show (nI (bD (sur S w) (bD s (2 ^ w))) = nI 0) = (bD (sur S w) (bD s (2 ^ w)) = 0) from propext (nI_eq hb (by omega))]
    cases ht : s.testBit w
    · simp only [if_true]
      exact ⟨fun z => absurd z.1 (by decide), fun _ => trivial⟩
    · simp only [Bool.true_eq_false, if_false]
      by_cases h2 : bD (sur S w) (bD s (2 ^ w)) = 0
      · rw [if_pos h2]
        exact ⟨fun _ => rfl, fun z => absurd ⟨trivial, hok.mpr h2⟩ z⟩
      · rw [if_neg h2]
        exact ⟨fun z => absurd (hok.mp z.2) h2, fun _ => rfl⟩
theorem m_ahead_run {n a b : Nat} (hn : n ≤ 12) (ha : a < n) (hb : b < n) (hS : S 0 = n) (MS : MoS h S) (OM : OrM h S) : ∃ h', jM_ahead_57 (nI a) (nI b) FU (nI (2 ^ n - 1)) (nI 1) (uL h 43 0 0 1) = some (wy (okO S a b) n (2 ^ n - 1), h') ∧ h'.1 = h.1 ∧ h'.2.2 = h.2.2 := by
  have hp : 2 ^ n ≤ 2 ^ 12 := Nat.pow_le_pow_right (by decide) hn
  have hp0 := Nat.two_pow_pos n
  refine m_outer (fun K => jM_ahead_74 (nI a) (nI b) K) (jM_ahead_57 (nI a) (nI b)) rfl hn (fun fu s g h1 h2 => ?_) (fun fu g => ?_) (fun K fu s g MS hS => ?_) (fun K fu s w g MS OM hS hs h0 hw => ?_) hS MS OM
  · rw [jM_ahead_57]
    simp (disch := omega) only [litI, nI_leI, if_pos, inb_nI, nI_clamp, if_true, jbn]
  · rw [jM_ahead_57]
    simp (disch := omega) only [litI, nI_leI, if_neg, inb_nI, nI_clamp, if_true]
  · rw [jM_ahead_74]
    simp (disch := omega) only [litI, inb_nI, nI_clamp, MS 0, hS, if_true, nI_ltI, if_neg, nI_add]
  · have hlt : bD s (2 ^ w) < 2 ^ 12 := by have := bD_le s (2 ^ w); omega
    have hsl := sur_lt12 (S := S) (w := w) (by omega)
    have hbb : bD (sur S w) (bD s (2 ^ w)) < 2 ^ 31 := by have := bD_le (sur S w) (bD s (2 ^ w)); omega
    show (_ → jM_ahead_74 (nI a) (nI b) K (fu + 1) _ _ _ g = jM_ahead_74 (nI a) (nI b) K fu _ _ _ _) ∧ (_ → jM_ahead_74 (nI a) (nI b) K (fu + 1) _ _ _ g = jM_ahead_74 (nI a) (nI b) K fu _ _ _ g)
    rw [jM_ahead_74]
    unfold jM_ahead_136
    simp (disch := omega) only [litI, inb_nI, nI_clamp, MS 0, hS, if_true, nI_ltI, if_pos, jbn, nI_and, and31, nI_bit, nI_dif, m_has, obind, nI_tn0, OM w (by omega), nI_add, nI_eq]
    simp only [okO_tb]
    cases ht : s.testBit w
    · simp only [if_true]
      exact ⟨fun z => absurd z.1 (by decide), fun _ => trivial⟩
    · simp only [Bool.true_eq_false, if_false]
      by_cases h2 : bD (sur S w) (bD s (2 ^ w)) = 0
      · rw [if_pos h2]
        by_cases h3 : w = b
        · rw [if_pos h3]
          cases h4 : (bD s (2 ^ w)).testBit a
          · simp only [if_true]
            exact ⟨fun z => absurd (z.2.2 h3) (by decide), fun _ => trivial⟩
          · simp only [Bool.true_eq_false, if_false]
            exact ⟨fun _ => trivial, fun z => absurd ⟨trivial, h2, fun _ => trivial⟩ z⟩
        · rw [if_neg h3]
          exact ⟨fun _ => rfl, fun z => absurd ⟨trivial, h2, fun q => absurd q h3⟩ z⟩
      · rw [if_neg h2]
        exact ⟨fun z => absurd z.2.1 h2, fun _ => rfl⟩
end M
/-! the class: forwards -/
def fwd (ok : Nat → Nat → Bool) (n c k s : Nat) : Int64 := if s = 0 then 1 else sm (fun w => if s.testBit w = true ∧ ok w (bD s (2 ^ w)) = true ∧ (bD s (2 ^ w) < c ∨ bD s (2 ^ w) = c ∧ w < k) then wy ok n (bD s (2 ^ w)) else 0) n
theorem fwd_self (ok : Nat → Nat → Bool) (n c k : Nat) : fwd ok n c k c = wy ok n c := by
  unfold fwd
  by_cases h0 : c = 0
  · rw [if_pos h0, h0, wy_0]
  · rw [if_neg h0, wy_s ok n h0]
    refine sm_ext n (fun w _ => ?_)
    by_cases hc : c.testBit w = true ∧ ok w (bD c (2 ^ w)) = true
    · rw [if_pos hc, if_pos ⟨hc.1, hc.2, Or.inl (less_lt hc.1)⟩]
    · rw [if_neg hc, if_neg (fun z => hc ⟨z.1, z.2.1⟩)]
theorem fwd_next (ok : Nat → Nat → Bool) (n c s : Nat) : fwd ok n c n s = fwd ok n (c + 1) 0 s := by
  unfold fwd
  by_cases h0 : s = 0
  · rw [if_pos h0, if_pos h0]
  · rw [if_neg h0, if_neg h0]
    refine sm_ext n (fun w hw => ?_)
    by_cases hc : s.testBit w = true ∧ ok w (bD s (2 ^ w)) = true ∧ (bD s (2 ^ w) < c ∨ bD s (2 ^ w) = c ∧ w < n)
    · rw [if_pos hc, if_pos ⟨hc.1, hc.2.1, by omega⟩]
    · rw [if_neg hc, if_neg (fun z => hc ⟨z.1, z.2.1, by omega⟩)]
theorem fwd_skip {ok : Nat → Nat → Bool} {n c k : Nat} (hz : wy ok n c = 0) (s : Nat) : fwd ok n c k s = fwd ok n (c + 1) 0 s := by
  unfold fwd
  by_cases h0 : s = 0
  · rw [if_pos h0, if_pos h0]
  · rw [if_neg h0, if_neg h0]
    refine sm_ext n (fun w hw => ?_)
    by_cases hc : s.testBit w = true ∧ ok w (bD s (2 ^ w)) = true ∧ (bD s (2 ^ w) < c ∨ bD s (2 ^ w) = c ∧ w < k)
    · rw [if_pos hc, if_pos ⟨hc.1, hc.2.1, by omega⟩]
    · rw [if_neg hc]
      by_cases hd : s.testBit w = true ∧ ok w (bD s (2 ^ w)) = true ∧ (bD s (2 ^ w) < c + 1 ∨ bD s (2 ^ w) = c + 1 ∧ w < 0)
      · rw [if_pos hd]
        have : bD s (2 ^ w) = c := by
          rcases hd.2.2 with z | z
          · apply Decidable.byContradiction
            intro q
            exact hc ⟨hd.1, hd.2.1, Or.inl (by omega)⟩
          · omega
        rw [this, hz]
      · rw [if_neg hd]
theorem bit_add {s c k : Nat} (hs : s.testBit k = true) (e : bD s (2 ^ k) = c) : s = c ||| 2 ^ k := by
  apply Nat.eq_of_testBit_eq
  intro i
  rw [← e, Nat.testBit_or, bD_tb, Nat.testBit_two_pow]
  by_cases hk : k = i
  · rw [← hk, hs]; simp
  · simp [hk]
theorem bit_rem {c k : Nat} (hc : c.testBit k = false) : bD (c ||| 2 ^ k) (2 ^ k) = c := by
  apply Nat.eq_of_testBit_eq
  intro i
  rw [bD_tb, Nat.testBit_or, Nat.testBit_two_pow]
  by_cases hk : k = i
  · rw [← hk, hc]; simp
  · simp [hk]
theorem bit_has (c k : Nat) : (c ||| 2 ^ k).testBit k = true := by
  rw [Nat.testBit_or, pow_tb.mpr rfl, Bool.or_true]
theorem fwd_no {ok : Nat → Nat → Bool} {n c k : Nat} (hno : ¬ (c.testBit k = false ∧ ok k c = true)) (s : Nat) : fwd ok n c (k + 1) s = fwd ok n c k s := by
  unfold fwd
  by_cases h0 : s = 0
  · rw [if_pos h0, if_pos h0]
  · rw [if_neg h0, if_neg h0]
    refine sm_ext n (fun w hw => ?_)
    by_cases hc : s.testBit w = true ∧ ok w (bD s (2 ^ w)) = true ∧ (bD s (2 ^ w) < c ∨ bD s (2 ^ w) = c ∧ w < k)
    · rw [if_pos hc, if_pos ⟨hc.1, hc.2.1, by omega⟩]
    · rw [if_neg hc, if_neg]
      rintro ⟨q1, q2, q3⟩
      by_cases hwk : w = k ∧ bD s (2 ^ w) = c
      · rw [hwk.1] at q1 q2 hwk
        rw [hwk.2] at q2
        refine hno ⟨?_, q2⟩
        rw [← hwk.2, bD_tb, Nat.testBit_two_pow]
        simp
      · exact hc ⟨q1, q2, by omega⟩
theorem fwd_yes {ok : Nat → Nat → Bool} {n c k : Nat} (hk : k < n) (h1 : c.testBit k = false) (h2 : ok k c = true) (s : Nat) : fwd ok n c (k + 1) s = if s = c ||| 2 ^ k then fwd ok n c k s + wy ok n c else fwd ok n c k s := by
  by_cases hs : s = c ||| 2 ^ k
  · rw [if_pos hs, hs]
    have hne : c ||| 2 ^ k ≠ 0 := fun z => by
      have := bit_has c k
      rw [z, Nat.zero_testBit] at this
      cases this
    unfold fwd
    rw [if_neg hne, if_neg hne, ← sm_up n hk]
    · refine sm_ext n (fun w hw => ?_)
      by_cases hwk : w = k
      · rw [hwk, if_pos rfl, if_pos ⟨bit_has c k, by rw [bit_rem h1]; exact h2, Or.inr ⟨bit_rem h1, by omega⟩⟩, bit_rem h1]
      · rw [if_neg hwk]
        by_cases hc : (c ||| 2 ^ k).testBit w = true ∧ ok w (bD (c ||| 2 ^ k) (2 ^ w)) = true ∧ (bD (c ||| 2 ^ k) (2 ^ w) < c ∨ bD (c ||| 2 ^ k) (2 ^ w) = c ∧ w < k)
        · rw [if_pos hc, if_pos ⟨hc.1, hc.2.1, by omega⟩]
        · rw [if_neg hc, if_neg (fun z => hc ⟨z.1, z.2.1, by omega⟩)]
    · rw [if_neg]
      rintro ⟨-, -, q3⟩
      rw [bit_rem h1] at q3
      omega
  · rw [if_neg hs]
    unfold fwd
    by_cases h0 : s = 0
    · rw [if_pos h0, if_pos h0]
    · rw [if_neg h0, if_neg h0]
      refine sm_ext n (fun w hw => ?_)
      by_cases hc : s.testBit w = true ∧ ok w (bD s (2 ^ w)) = true ∧ (bD s (2 ^ w) < c ∨ bD s (2 ^ w) = c ∧ w < k)
      · rw [if_pos hc, if_pos ⟨hc.1, hc.2.1, by omega⟩]
      · rw [if_neg hc, if_neg]
        rintro ⟨q1, q2, q3⟩
        by_cases hwk : w = k ∧ bD s (2 ^ w) = c
        · rw [hwk.1] at q1 hwk
          exact hs (bit_add q1 hwk.2)
        · exact hc ⟨q1, q2, by omega⟩
section C
variable {h : AH} {S R : Nat → Nat}
def wL (ok : Nat → Nat → Bool) (n N c k : Nat) (h : AH) : AH := aL h 27 0 (fun s => if s < N then fwd ok n c k s else gL h 27 0 s)
theorem wL_g {ok : Nat → Nat → Bool} {n N c k s : Nat} {h : AH} (hs : s < N) : gL (wL ok n N c k h) 27 0 s = fwd ok n c k s := by
  unfold wL
  rw [gL_aL_s, if_pos hs]
theorem c_countAll {a b : Nat} {v1 v2 : Int32} (hO : OrF h S) (WI : WkI R S) (hv2 : ∀ w, w < 12 → (nI w = v2 ↔ w = b)) (hv1 : b < S 0 → v1 = nI a ∧ a < S 0) : ∃ h', jO_countAll h v1 v2 = some (wy (okO S a b) (S 0) (2 ^ S 0 - 1), h') ∧ h'.1 = h.1 ∧ h'.2.2 = h.2.2 := by
  have h1 := WI.1
  have hp : 2 ^ S 0 ≤ 2 ^ 12 := Nat.pow_le_pow_right (by decide) (by omega)
  have hp0 := Nat.two_pow_pos (S 0)
  have h24 : ∀ c k, gI (wL (okO S a b) (S 0) (2 ^ S 0) c k h) 24 0 0 = nI (S 0) := fun c k => hO.1
  have h26 : ∀ c k r, r < S 0 → gI (wL (okO S a b) (S 0) (2 ^ S 0) c k h) 26 0 r = nI (sur S r) := fun c k r hr => hO.2 r hr
  have inner : ∀ (K : Int32 → Int32 → AH → Option (Int64 × AH)) c, c < 2 ^ S 0 → jO_countAll_49 v1 v2 K FU (nI (2 ^ S 0)) (nI c) (nI 0) (wL (okO S a b) (S 0) (2 ^ S 0) c 0 h) = K (nI (2 ^ S 0)) (nI (c + 1)) (wL (okO S a b) (S 0) (2 ^ S 0) (c + 1) 0 h) := by
    intro K c hc
    refine up_ind (P := fun fu k => jO_countAll_49 v1 v2 K fu (nI (2 ^ S 0)) (nI c) (nI k) (wL (okO S a b) (S 0) (2 ^ S 0) c k h) = K (nI (2 ^ S 0)) (nI (c + 1)) (wL (okO S a b) (S 0) (2 ^ S 0) (c + 1) 0 h)) (S 0) (fun fu => ?_) (fun fu k hk ih => ?_) (S 0) 0 FU (by omega) (FU_lt (by omega))
    · rw [jO_countAll_49]
      simp (disch := omega) only [litI, h24, nI_ltI, if_neg, nI_add]
      refine congrArg _ (aL_ext (fun s => ?_))
      by_cases hs : s < 2 ^ S 0
      · rw [if_pos hs, if_pos hs, fwd_next]
      · rw [if_neg hs, if_neg hs]
    · have hck : c ||| 2 ^ k < 2 ^ S 0 := Nat.or_lt_two_pow hc (Nat.pow_lt_pow_right (by decide) hk)
      have hsl := sur_lt12 (S := S) (w := k) (by omega)
      have e97 : ∀ wf, (wf < 2 ^ 12 ∧ (bD wf c = 0 ↔ okO S a b k c = true)) → jO_countAll_97 v1 v2 (jO_countAll_49 v1 v2 K fu) (nI (2 ^ S 0)) (nI c) (nI k) (nI wf) (wL (okO S a b) (S 0) (2 ^ S 0) c k h) = K (nI (2 ^ S 0)) (nI (c + 1)) (wL (okO S a b) (S 0) (2 ^ S 0) (c + 1) 0 h) := by
        rintro wf ⟨q1, q2⟩
        have hb : bD wf c < 2 ^ 31 := by have := bD_le wf c; omega
        unfold jO_countAll_97
        simp (disch := omega) only [litI, nI_and, and31, nI_shr, sh1, nI_tn0, nI_dif, nI_bit, nI_or, inb_nI, nI_clamp, if_true, nI_add, jbn]
        simp only [show (nI (bD wf c) = nI 0) = (bD wf c = 0) from propext (nI_eq hb (by omega))]
        rw [wL_g hck, wL_g hc, fwd_self]
        have hno : ¬ (c.testBit k = false ∧ okO S a b k c = true) → jO_countAll_49 v1 v2 K fu (nI (2 ^ S 0)) (nI c) (nI (k + 1)) (wL (okO S a b) (S 0) (2 ^ S 0) c k h) = K (nI (2 ^ S 0)) (nI (c + 1)) (wL (okO S a b) (S 0) (2 ^ S 0) (c + 1) 0 h) := by
          intro z
          rw [← ih]
          refine congrArg _ (aL_ext (fun s => ?_))
          rw [fwd_no z]
        cases ht : c.testBit k
        · simp only [if_true]
          by_cases h2 : bD wf c = 0
          · rw [if_pos h2]
            rw [← ih]
            refine congrArg _ ?_
            unfold wL
            rw [uL_aL]
            refine aL_ext (fun s => ?_)
            rw [fwd_yes hk ht (q2.mp h2)]
            by_cases hs : s = c ||| 2 ^ k
            · rw [if_pos hs, if_pos hs, if_pos (by rw [hs]; exact hck), hs]
            · rw [if_neg hs, if_neg hs]
          · rw [if_neg h2]
            exact hno (fun z => h2 (q2.mpr z.2))
        · simp only [Bool.true_eq_false, if_false]
          exact hno (fun z => by rw [ht] at z; exact absurd z.1 (by decide))
      rw [jO_countAll_49]
      simp (disch := omega) only [litI, h24, nI_ltI, if_pos, inb_nI, nI_clamp, if_true]
      rw [wL_g hc, fwd_self]
      by_cases hz : lg_cmp (wy (okO S a b) (S 0) c) 0 = nI 0
      · have hz2 := (lg_cmp_eq _ _).mp hz
        rw [if_pos hz]
        simp only [nI_add]
        refine congrArg _ (aL_ext (fun s => ?_))
        rw [fwd_skip hz2]
      · rw [if_neg hz]
        simp only [hv2 k (by omega), h26 c k k hk]
        by_cases hkb : k = b
        · rw [if_pos hkb]
          obtain ⟨r1, r2⟩ := hv1 (by omega)
          rw [r1]
          simp (disch := omega) only [nI_and, and31, nI_bit, nI_or]
          rw [← r1]
          refine e97 _ ⟨Nat.or_lt_two_pow hsl (Nat.pow_lt_pow_right (by decide) (by omega)), ?_⟩
          rw [okO_tb]
          constructor
          · intro z
            rw [bD0] at z
            refine ⟨(bD0 _ _).mpr (fun i hi => z i (by rw [Nat.testBit_or, hi]; rfl)), fun _ => z a (bit_has _ _)⟩
          · rintro ⟨z1, z2⟩
            rw [bD0] at z1 ⊢
            intro i hi
            rw [Nat.testBit_or, Bool.or_eq_true] at hi
            rcases hi with hi | hi
            · exact z1 i hi
            · rw [pow_tb.mp hi]; exact z2 hkb
        · rw [if_neg hkb]
          refine e97 _ ⟨hsl, ?_⟩
          rw [okO_tb]
          exact ⟨fun z => ⟨z, fun q => absurd q hkb⟩, fun z => z.1⟩
  have outer : jO_countAll_40 v1 v2 FU (nI (2 ^ S 0)) (nI 0) (wL (okO S a b) (S 0) (2 ^ S 0) 0 0 h) = some (wy (okO S a b) (S 0) (2 ^ S 0 - 1), wL (okO S a b) (S 0) (2 ^ S 0) (2 ^ S 0) 0 h) := by
    refine up_ind (P := fun fu c => jO_countAll_40 v1 v2 fu (nI (2 ^ S 0)) (nI c) (wL (okO S a b) (S 0) (2 ^ S 0) c 0 h) = some (wy (okO S a b) (S 0) (2 ^ S 0 - 1), wL (okO S a b) (S 0) (2 ^ S 0) (2 ^ S 0) 0 h)) (2 ^ S 0) (fun fu => ?_) (fun fu c hc ih => ?_) (2 ^ S 0) 0 FU (by omega) (FU_lt (by omega))
    · rw [jO_countAll_40]
      unfold jO_countAll_153
      simp (disch := omega) only [litI, nI_ltI, if_neg, pk_sub, inb_nI, nI_clamp, if_true]
      rw [wL_g (by omega)]
      have : fwd (okO S a b) (S 0) (2 ^ S 0) 0 (2 ^ S 0 - 1) = wy (okO S a b) (S 0) (2 ^ S 0 - 1) := by
        rw [← fwd_self (okO S a b) (S 0) (2 ^ S 0 - 1) (S 0), fwd_next, Nat.sub_add_cancel hp0]
      rw [this]
    · rw [jO_countAll_40]
      simp (disch := omega) only [litI, nI_ltI, if_pos]
      rw [inner _ c hc]
      exact ih
  refine ⟨wL (okO S a b) (S 0) (2 ^ S 0) (2 ^ S 0) 0 h, ?_, rfl, rfl⟩
  unfold jO_countAll
  rw [hO.1]
  simp (disch := omega) only [litI, nI_and, and31, nI_bit]
  have key := up_ind (P := fun fu k => jO_countAll_10 v1 v2 fu (nI (2 ^ S 0)) (nI k) (aL h 27 0 (fun j => if j < k then 0 else gL h 27 0 j)) = some (wy (okO S a b) (S 0) (2 ^ S 0 - 1), wL (okO S a b) (S 0) (2 ^ S 0) (2 ^ S 0) 0 h)) (2 ^ S 0) (fun fu => ?_) (fun fu k hk ih => ?_) (2 ^ S 0) 0 FU (by omega) (FU_lt (by omega))
  · rw [aL_id (fun c => if_neg (by omega))] at key
    exact key
  · rw [jO_countAll_10]
    unfold jO_countAll_30
    simp (disch := omega) only [litI, nI_ltI, if_neg, inb_nI, nI_clamp, if_true, jbn]
    rw [uL_aL, ← outer]
    refine congrArg _ (aL_ext (fun s => ?_))
    by_cases hs0 : s = 0
    · rw [if_pos hs0, if_pos (by omega)]
      unfold fwd
      rw [if_pos hs0]
    · rw [if_neg hs0]
      by_cases hs : s < 2 ^ S 0
      · rw [if_pos hs, if_pos hs]
        unfold fwd
        rw [if_neg hs0, sm_0]
        intro i _
        rw [if_neg]
        rintro ⟨-, -, q⟩
        omega
      · rw [if_neg hs, if_neg hs]
  · rw [jO_countAll_10]
    simp (disch := omega) only [litI, nI_ltI, if_pos, inb_nI, nI_clamp, if_true, jbn, nI_add]
    rw [uL_aL]
    rw [aL_ext (g := fun j => if j < k + 1 then 0 else gL h 27 0 j) (fun s => ?_)]
    · exact ih
    · by_cases hs : s = k
      · rw [if_pos hs, if_pos (by omega)]
      · rw [if_neg hs]
        by_cases h2 : s < k
        · rw [if_pos h2, if_pos (by omega)]
        · rw [if_neg h2, if_neg (by omega)]
end C
