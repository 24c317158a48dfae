/-! ===== pure: need and steps, by the model ===== -/
def cw (m : Nat) : Int32 := if m = 0 then -nI 1 else nI (m - 1)
theorem cw_0 : cw 0 = -nI 1 := rfl
theorem cw_s (m : Nat) : cw (m + 1) = nI m := rfl
theorem cw_pos {m : Nat} (h : m ≠ 0) : cw m = nI (m - 1) := if_neg h
def wH (h : AH) (lev : Nat → Nat) : AH := aI h 44 0 (fun j => if j < 4096 then cw (lev j) else gI h 44 0 j)
theorem wH_g {h : AH} {lev : Nat → Nat} {d : Nat} (hd : d < 4096) : gI (wH h lev) 44 0 d = cw (lev d) := by
  unfold wH
  rw [gI_aI_s]
  exact if_pos hd
theorem wH_n {h : AH} {lev : Nat → Nat} {k i j : Nat} (hn : ¬ (k = 44 ∧ i = 0)) : gI (wH h lev) k i j = gI h k i j := gI_aI_n hn
def upn (lev : Nat → Nat) (q v : Nat) : Nat → Nat := fun j => if j = q then v else lev j
theorem upn_s (lev : Nat → Nat) (q v : Nat) : upn lev q v q = v := if_pos rfl
theorem upn_n {lev : Nat → Nat} {q v j : Nat} (h : j ≠ q) : upn lev q v j = lev j := if_neg h
theorem wH_u {h : AH} {lev : Nat → Nat} {q v : Nat} (hq : q < 4096) (hv : v ≠ 0) : uI (wH h lev) 44 0 q (nI (v - 1)) = wH h (upn lev q v) := by
  unfold wH
  rw [uI_aI]
  refine aI_ext (fun c => ?_)
  by_cases hc : c = q
  · rw [if_pos hc, hc, if_pos hq, upn_s, cw_pos hv]
  · rw [if_neg hc, upn_n hc]
def LvOK (a : Nat → Bool) (o n : Nat) (lev : Nat → Nat) : Prop := ∀ d, d < 4096 → (lev d ≠ 0 → Exc a o (lev d - 1) d) ∧ lev d ≤ n + 1 ∧ ∀ m, m ≤ n → Exc a o m d → lev d ≠ 0 ∧ lev d ≤ m + 1
def JJ (lev0 lev : Nat → Nat) (n : Nat) (H : Nat → Prop) : Prop := ∀ d, d < 4096 → (lev0 d ≠ 0 → lev d = lev0 d) ∧ (lev0 d = 0 → (lev d = n + 1 ∧ H d) ∨ (lev d = 0 ∧ ¬ H d))
theorem JJ_ext {lev0 lev : Nat → Nat} {n : Nat} {H H' : Nat → Prop} (j : JJ lev0 lev n H) (e : ∀ d, d < 4096 → (H d ↔ H' d)) : JJ lev0 lev n H' := by
  intro d hd
  refine ⟨(j d hd).1, fun h0 => ?_⟩
  rcases (j d hd).2 h0 with ⟨q1, q2⟩ | ⟨q1, q2⟩
  · exact Or.inl ⟨q1, (e d hd).mp q2⟩
  · exact Or.inr ⟨q1, fun z => q2 ((e d hd).mpr z)⟩
theorem JJ_n {lev0 lev : Nat → Nat} {n : Nat} {H : Nat → Prop} (j : JJ lev0 lev n H) (hn : 1 ≤ n) {e : Nat} (he : e < 4096) : lev e = n ↔ lev0 e = n := by
  by_cases h0 : lev0 e = 0
  · rcases (j e he).2 h0 with ⟨q1, q2⟩ | ⟨q1, q2⟩ <;> omega
  · rw [(j e he).1 h0]
def Okk (a : Nat → Bool) (o s : Nat) : Prop := a s = true ∧ s &&& o ≠ 0
def HtS (a : Nat → Bool) (o n : Nat) (lev0 : Nat → Nat) (s d : Nat) : Prop := ∃ s' e, s' < s ∧ Okk a o s' ∧ bD e o = 0 ∧ lev0 e = n ∧ d = e ||| (s' &&& o)
theorem LvOK_next {a : Nat → Bool} {o n N : Nat} {lev0 lev : Nat → Nat} (ha : ∀ x, a x = true → x < N) (ho : o < 4096) (hn : 1 ≤ n) (h0 : LvOK a o (n - 1) lev0) (j : JJ lev0 lev n (HtS a o n lev0 N)) : LvOK a o n lev := by
  intro d hd
  obtain ⟨p1, p2, p3⟩ := h0 d hd
  have hin : ∀ {e}, bD e o = 0 → e < 4096 := fun he => Nat.lt_of_le_of_lt (bsub_le he) ho
  by_cases hz : lev0 d = 0
  · rcases (j d hd).2 hz with ⟨q1, s', e, r1, r2, r3, r4, r5⟩ | ⟨q1, q2⟩
    · refine ⟨fun _ => ?_, by omega, fun m hm hx => ⟨by omega, ?_⟩⟩
      · rw [q1, show n + 1 - 1 = (n - 1) + 1 by omega]
        refine ⟨e, s', ?_, r2.1, r2.2, r5⟩
        have := (h0 e (hin r3)).1 (by omega)
        rw [r4] at this
        exact this
      · by_cases hmn : m ≤ n - 1
        · exact absurd hz (p3 m hmn hx).1
        · omega
    · refine ⟨fun z => absurd q1 z, by omega, fun m hm hx => ?_⟩
      exfalso
      by_cases hmn : m ≤ n - 1
      · exact (p3 m hmn hx).1 hz
      · obtain rfl : m = n := by omega
        obtain ⟨v, rfl⟩ : ∃ v, m = v + 1 := ⟨m - 1, by omega⟩
        obtain ⟨e, x, x1, x2, x3, x4⟩ := hx
        have hes := exc_sub _ _ x1
        obtain ⟨g1, g2, g3⟩ := h0 e (hin hes)
        obtain ⟨k1, k2⟩ := g3 v (by omega) x1
        by_cases hev : lev0 e = v + 1
        · exact q2 ⟨x, e, ha x x2, ⟨x2, x3⟩, hes, hev, x4⟩
        · have := g1 k1
          have hd2 : Exc a o (lev0 e - 1 + 1) d := ⟨e, x, this, x2, x3, x4⟩
          exact (p3 _ (by omega) hd2).1 hz
  · have e := (j d hd).1 hz
    rw [e]
    refine ⟨p1, by omega, fun m hm hx => ?_⟩
    by_cases hmn : m ≤ n - 1
    · exact p3 m hmn hx
    · exact ⟨hz, by omega⟩
section M
variable {h : AH} {S R : Nat → Nat}
theorem m_inner {a : Nat → Bool} {o s n : Nat} {st : Int32} {lev0 : Nat → Nat} (ho : o < 4096) (hn : 1 ≤ n) (hn12 : n ≤ 12) (hs : s < 4096) (hok : Okk a o s) (hb0 : ∀ d, d < 4096 → lev0 d ≤ n) : ∀ e, e < 4096 → bD e o = 0 → ∀ fuel, e < fuel → ∀ lev, JJ lev0 lev n (fun d => HtS a o n lev0 s d ∨ ∃ e', bD e' o = 0 ∧ e < e' ∧ lev0 e' = n ∧ d = e' ||| (s &&& o)) →
    ∃ lev', JJ lev0 lev' n (HtS a o n lev0 (s + 1)) ∧ ∀ K, jM_needOf_136 K fuel (nI o) st (nI n) (nI s) (nI e) (wH h lev) = K (nI o) st (nI n) (nI (s + 1)) (wH h lev') := by
  intro e
  induction e using Nat.strongRecOn with
  | ind e ih =>
    intro he heo fuel hf lev hJ
    obtain ⟨fuel, rfl⟩ : ∃ f, fuel = f + 1 := ⟨fuel - 1, by omega⟩
    have hq : e ||| (s &&& o) < 4096 := Nat.or_lt_two_pow (n := 12) he (Nat.lt_of_le_of_lt Nat.and_le_left hs)
    have hlev : ∀ d, d < 4096 → lev d ≤ n + 1 := by
      intro d hd
      by_cases h0 : lev0 d = 0
      · rcases (hJ d hd).2 h0 with ⟨q1, q2⟩ | ⟨q1, q2⟩ <;> omega
      · rw [(hJ d hd).1 h0]; have := hb0 d hd; omega
    -- the state behind this pair
    have key : ∃ lev1, JJ lev0 lev1 n (fun d => HtS a o n lev0 s d ∨ ∃ e', bD e' o = 0 ∧ e ≤ e' ∧ lev0 e' = n ∧ d = e' ||| (s &&& o)) ∧ ∀ K, jM_needOf_136 K (fuel + 1) (nI o) st (nI n) (nI s) (nI e) (wH h lev) = jM_needOf_179 K (jM_needOf_136 K fuel) (nI o) st (nI n) (nI s) (nI e) (wH h lev1) := by
      by_cases hen : lev e = n
      · have hen0 := (JJ_n hJ hn he).mp hen
        by_cases hqz : lev (e ||| (s &&& o)) = 0
        · refine ⟨upn lev (e ||| (s &&& o)) (n + 1), ?_, fun K => ?_⟩
          · intro d hd
            by_cases hdq : d = e ||| (s &&& o)
            · rw [hdq, upn_s, ← hdq]
              have hz0 : lev0 d = 0 := by
                apply Decidable.byContradiction
                intro z
                have := (hJ d hd).1 z
                rw [hdq] at this z
                omega
              exact ⟨fun z => absurd hz0 z, fun _ => Or.inl ⟨rfl, Or.inr ⟨e, heo, Nat.le_refl _, hen0, hdq⟩⟩⟩
            · rw [upn_n hdq]
              refine ⟨(hJ d hd).1, fun h0 => ?_⟩
              rcases (hJ d hd).2 h0 with ⟨q1, q2⟩ | ⟨q1, q2⟩
              · refine Or.inl ⟨q1, ?_⟩
                rcases q2 with q2 | ⟨e', r1, r2, r3, r4⟩
                · exact Or.inl q2
                · exact Or.inr ⟨e', r1, by omega, r3, r4⟩
              · refine Or.inr ⟨q1, fun z => q2 ?_⟩
                rcases z with z | ⟨e', r1, r2, r3, r4⟩
                · exact Or.inl z
                · by_cases hee : e' = e
                  · rw [hee] at r4; exact absurd r4 hdq
                  · exact Or.inr ⟨e', r1, by omega, r3, r4⟩
          · rw [jM_needOf_136]
            simp (disch := omega) only [litI, inb_nI, nI_clamp, wH_g, if_true, pk_sub, nI_and, nI_or, hqz, cw_0, nI_le_neg, if_false, jbn]
            rw [cw_pos (by omega), hen, if_pos rfl]
            have hu := wH_u (h := h) (lev := lev) hq (v := n + 1) (by omega)
            rw [Nat.add_sub_cancel] at hu
            rw [hu]
        · refine ⟨lev, ?_, fun K => ?_⟩
          · intro d hd
            refine ⟨(hJ d hd).1, fun h0 => ?_⟩
            rcases (hJ d hd).2 h0 with ⟨q1, q2⟩ | ⟨q1, q2⟩
            · refine Or.inl ⟨q1, ?_⟩
              rcases q2 with q2 | ⟨e', r1, r2, r3, r4⟩
              · exact Or.inl q2
              · exact Or.inr ⟨e', r1, by omega, r3, r4⟩
            · refine Or.inr ⟨q1, fun z => q2 ?_⟩
              rcases z with z | ⟨e', r1, r2, r3, r4⟩
              · exact Or.inl z
              · by_cases hee : e' = e
                · rw [hee] at r4
                  rw [r4] at q1
                  exact absurd q1 hqz
                · exact Or.inr ⟨e', r1, by omega, r3, r4⟩
          · have hb := hlev _ hq
            rw [jM_needOf_136]
            simp (disch := omega) only [litI, inb_nI, nI_clamp, wH_g, if_true, pk_sub, nI_and, nI_or]
            rw [cw_pos (by omega : lev e ≠ 0), hen, if_pos rfl, cw_pos hqz]
            simp (disch := omega) only [nI_leI, if_pos]
      · refine ⟨lev, JJ_ext hJ (fun d hd => ?_), fun K => ?_⟩
        · constructor
          · rintro (z | ⟨e', r1, r2, r3, r4⟩)
            · exact Or.inl z
            · exact Or.inr ⟨e', r1, by omega, r3, r4⟩
          · rintro (z | ⟨e', r1, r2, r3, r4⟩)
            · exact Or.inl z
            · by_cases hee : e' = e
              · rw [hee] at r3
                exact absurd ((JJ_n hJ hn he).mpr r3) hen
              · exact Or.inr ⟨e', r1, by omega, r3, r4⟩
        · have hb := hlev _ he
          rw [jM_needOf_136]
          simp (disch := omega) only [litI, inb_nI, nI_clamp, wH_g, if_true, pk_sub]
          rw [if_neg]
          by_cases hz : lev e = 0
          · rw [hz, cw_0, neg_eq_nI (by omega) (by omega) (by omega)]
            exact fun z => z
          · rw [cw_pos hz, nI_eq (by omega) (by omega)]
            omega
    obtain ⟨lev1, hJ1, hK1⟩ := key
    by_cases he0 : e = 0
    · refine ⟨lev1, JJ_ext hJ1 (fun d hd => ?_), fun K => ?_⟩
      · constructor
        · rintro (⟨s', e', r1, r2, r3⟩ | ⟨e', r1, r2, r3, r4⟩)
          · exact ⟨s', e', by omega, r2, r3⟩
          · exact ⟨s, e', by omega, hok, r1, r3, r4⟩
        · rintro ⟨s', e', r1, r2, r3, r4, r5⟩
          by_cases hss : s' = s
          · rw [hss] at r5
            exact Or.inr ⟨e', r3, by omega, r4, r5⟩
          · exact Or.inl ⟨s', e', by omega, r2, r3, r4, r5⟩
      · rw [hK1]
        unfold jM_needOf_179
        simp (disch := omega) only [litI, nI_eq, if_pos, nI_add]
    · have hpl := pred_lt (o := o) he0
      obtain ⟨lev', q1, q2⟩ := ih ((e - 1) &&& o) hpl (by omega) (and_sub _ _) fuel (by omega) lev1 (JJ_ext hJ1 (fun d hd => by
        constructor
        · rintro (z | ⟨e', r1, r2, r3, r4⟩)
          · exact Or.inl z
          · exact Or.inr ⟨e', r1, by omega, r3, r4⟩
        · rintro (z | ⟨e', r1, r2, r3, r4⟩)
          · exact Or.inl z
          · refine Or.inr ⟨e', r1, ?_, r3, r4⟩
            apply Decidable.byContradiction
            intro z
            have := pred_gap (n := 12) (s := e') (by omega) r1 heo he0 (by omega)
            omega))
      refine ⟨lev', q1, fun K => ?_⟩
      rw [hK1, ← q2 K]
      unfold jM_needOf_179
      simp (disch := omega) only [litI, nI_eq, if_neg, pk_sub, nI_and]
theorem adN_iff {y x : Nat} (hs : bD (spo R y) (alk R S) = 0) (hx : x < 2 ^ nC R) : adN R y x = true ↔ adm R (bar2 R y 100) x = true ∧ x &&& (bD (alk R S) (pay R y)) = 0 := by
  have e : spo R y = bD (alk R S) (pay R y) := by
    rw [bD0] at hs
    refine bext (fun i hi => ?_) (fun i hi => ?_)
    · have h1 := hs i hi
      unfold spo at hi
      rw [bD_tb] at hi ⊢
      simp only [Bool.and_eq_true] at hi ⊢
      exact ⟨h1, hi.2⟩
    · unfold spo
      rw [bD_tb] at hi ⊢
      simp only [Bool.and_eq_true] at hi ⊢
      refine ⟨?_, hi.2⟩
      have h1 := hi.1
      unfold alk at h1
      unfold wnt
      rw [bM_tb] at h1 ⊢
      simp only [Bool.and_eq_true] at h1 ⊢
      exact ⟨h1.1, h1.2.1⟩
  unfold adN
  rw [aC_of hx, e]
  unfold adm
  rw [Nat.and_or_distrib_left]
  simp only [Bool.and_eq_true, decide_eq_true_eq]
  constructor
  · rintro ⟨h1, h2⟩
    have h3 : x &&& bar2 R y 100 = 0 ∧ x &&& bD (alk R S) (pay R y) = 0 := by
      constructor
      · have : x &&& bar2 R y 100 ≤ x &&& bar2 R y 100 ||| x &&& bD (alk R S) (pay R y) := b_sub_le (fun i hi => by rw [Nat.testBit_or, hi]; rfl)
        omega
      · have : x &&& bD (alk R S) (pay R y) ≤ x &&& bar2 R y 100 ||| x &&& bD (alk R S) (pay R y) := b_sub_le (fun i hi => by rw [Nat.testBit_or, hi, Bool.or_true])
        omega
    exact ⟨⟨h3.1, h2⟩, h3.2⟩
  · rintro ⟨⟨h1, h2⟩, h3⟩
    rw [h1, h3]
    exact ⟨rfl, h2⟩
theorem m_sets (MR : MoR h R) (I : BkI R) (hn : nC R ≤ 12) {y o n : Nat} {lev0 : Nat → Nat} (hL : LawM h R y) (hs : bD (spo R y) (alk R S) = 0) (ho : o < 2 ^ nC R) (hn1 : 1 ≤ n) (hn12 : n ≤ 12) (hb0 : ∀ d, d < 4096 → lev0 d ≤ n) :
    ∃ lev', JJ lev0 lev' n (HtS (adN R y) o n lev0 (2 ^ nC R)) ∧ ∀ K, jM_needOf_96 K FU (nI o) (nI (bD (alk R S) (pay R y))) (nI n) (nI 0) (wH h lev0) = jM_needOf_204 K (nI o) (nI (bD (alk R S) (pay R y))) (nI n) (wH h lev') := by
  have hp : 2 ^ nC R ≤ 2 ^ 12 := Nat.pow_le_pow_right (by decide) hn
  have hp0 := Nat.two_pow_pos (nC R)
  have key := up_ind (P := fun fu s => ∀ lev, JJ lev0 lev n (HtS (adN R y) o n lev0 s) → ∃ lev', JJ lev0 lev' n (HtS (adN R y) o n lev0 (2 ^ nC R)) ∧ ∀ K, jM_needOf_96 K fu (nI o) (nI (bD (alk R S) (pay R y))) (nI n) (nI s) (wH h lev) = jM_needOf_204 K (nI o) (nI (bD (alk R S) (pay R y))) (nI n) (wH h lev')) (2 ^ nC R) (fun fu lev hJ => ?_) (fun fu s hk ih lev hJ => ?_) (2 ^ nC R) 0 FU (by omega) (FU_lt (by omega)) lev0 (fun d hd => ⟨fun _ => rfl, fun z => Or.inr ⟨z, fun ⟨s', e, q1, _⟩ => by omega⟩⟩)
  · exact key
  · refine ⟨lev, hJ, fun K => ?_⟩
    have MR2 : MoR (wH h lev) R := fun i hi => (wH_n (by omega)).trans (MR i hi)
    rw [jM_needOf_96]
    simp (disch := omega) only [m_allCells MR2 I, obind, nI_leI, if_neg]
  · have MR2 : MoR (wH h lev) R := fun i hi => (wH_n (by omega)).trans (MR i hi)
    have hL2 : gI (wH h lev) 45 0 s = nI (if s < 2 ^ nC R ∧ adm R (bar2 R y 100) s = true then 1 else 0) := (wH_n (by omega)).trans (hL s (by omega))
    have had := adN_iff (S := S) hs hk
    have ha1 : s &&& bD (alk R S) (pay R y) < 2 ^ 31 := Nat.lt_of_le_of_lt Nat.and_le_left (by omega)
    have ha2 : s &&& o < 2 ^ 31 := Nat.lt_of_le_of_lt Nat.and_le_left (by omega)
    have hsame : ¬ Okk (adN R y) o s → ∀ d, d < 4096 → (HtS (adN R y) o n lev0 s d ↔ HtS (adN R y) o n lev0 (s + 1) d) := by
      intro hno d hd
      constructor
      · rintro ⟨s', e, q1, q2⟩; exact ⟨s', e, by omega, q2⟩
      · rintro ⟨s', e, q1, q2, q3⟩
        refine ⟨s', e, ?_, q2, q3⟩
        apply Decidable.byContradiction
        intro z
        have : s' = s := by omega
        rw [this] at q2
        exact hno q2
    have hstep : ∀ K, (Okk (adN R y) o s → jM_needOf_96 K (fu + 1) (nI o) (nI (bD (alk R S) (pay R y))) (nI n) (nI s) (wH h lev) = jM_needOf_136 (jM_needOf_96 K fu) FU (nI o) (nI (bD (alk R S) (pay R y))) (nI n) (nI s) (nI o) (wH h lev)) ∧ (¬ Okk (adN R y) o s → jM_needOf_96 K (fu + 1) (nI o) (nI (bD (alk R S) (pay R y))) (nI n) (nI s) (wH h lev) = jM_needOf_96 K fu (nI o) (nI (bD (alk R S) (pay R y))) (nI n) (nI (s + 1)) (wH h lev)) := by
      intro K
      rw [jM_needOf_96]
      simp (disch := omega) only [litI, m_allCells MR2 I, obind, nI_leI, if_pos, inb_nI, nI_clamp, hL2, if_true, nI_and, nI_add]
      simp only [show (nI (s &&& bD (alk R S) (pay R y)) = nI 0) = (s &&& bD (alk R S) (pay R y) = 0) from propext (nI_eq ha1 (by omega)), show (nI (s &&& o) = nI 0) = (s &&& o = 0) from propext (nI_eq ha2 (by omega))]
      by_cases h1 : adm R (bar2 R y 100) s = true
      · rw [show (if s < 2 ^ nC R ∧ adm R (bar2 R y 100) s = true then 1 else 0) = 1 from if_pos ⟨hk, h1⟩]
        simp (disch := omega) only [nI_eq, if_neg]
        by_cases h2 : s &&& bD (alk R S) (pay R y) = 0
        · rw [if_pos h2]
          by_cases h3 : s &&& o = 0
          · rw [if_pos h3]
            exact ⟨fun z => absurd h3 z.2, fun _ => rfl⟩
          · rw [if_neg h3]
            exact ⟨fun _ => rfl, fun z => absurd ⟨had.mpr ⟨h1, h2⟩, h3⟩ z⟩
        · rw [if_neg h2]
          exact ⟨fun z => absurd (had.mp z.1).2 h2, fun _ => rfl⟩
      · rw [show (if s < 2 ^ nC R ∧ adm R (bar2 R y 100) s = true then 1 else 0) = 0 from if_neg (fun z => h1 z.2)]
        simp (disch := omega) only [nI_eq, if_true]
        exact ⟨fun z => absurd (had.mp z.1).1 h1, fun _ => trivial⟩
    by_cases hok : Okk (adN R y) o s
    · obtain ⟨lev1, q1, q2⟩ := m_inner (h := h) (a := adN R y) (o := o) (s := s) (n := n) (st := nI (bD (alk R S) (pay R y))) (lev0 := lev0) (by omega) hn1 hn12 (by omega) hok hb0 o (by omega) (bD_rf o) FU (FU_lt (by omega)) lev (JJ_ext hJ (fun d hd => ⟨Or.inl, fun z => by
        rcases z with z | ⟨e', r1, r2, r3, r4⟩
        · exact z
        · have := bsub_le r1
          omega⟩))
      obtain ⟨lev', p1, p2⟩ := ih lev1 q1
      exact ⟨lev', p1, fun K => by rw [(hstep K).1 hok, q2, p2]⟩
    · obtain ⟨lev', p1, p2⟩ := ih lev (JJ_ext hJ (hsame hok))
      exact ⟨lev', p1, fun K => by rw [(hstep K).2 hok, p2]⟩
end M
