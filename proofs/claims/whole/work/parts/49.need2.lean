/-! ===== pure: need and steps, by the model: the answers ===== -/
def FrN (h h' : AH) : Prop := (∀ k i j, ¬ (k = 44 ∧ i = 0) → ¬ (k = 45 ∧ i = 0) → gI h' k i j = gI h k i j) ∧ h'.2 = h.2
def opn (R S : Nat → Nat) : Nat := bD (wnt R) (alk R S)
theorem opn_lt (R S : Nat → Nat) : opn R S < 2 ^ nC R := bD_lt (wnt_lt R)
theorem opn_pay (R S : Nat → Nat) (y : Nat) : bD (opn R S) (pay R y) = bD (spo R y) (alk R S) := by
  apply Nat.eq_of_testBit_eq
  intro i
  unfold opn spo
  simp only [bD_tb]
  cases (wnt R).testBit i <;> cases (alk R S).testBit i <;> cases (pay R y).testBit i <;> rfl
theorem pay_wnt {R : Nat → Nat} {y i : Nat} (h : (pay R y).testBit i = true) : (wnt R).testBit i = true := by
  unfold pay at h
  unfold wnt
  rw [bM_tb] at h ⊢
  simp only [Bool.and_eq_true] at h ⊢
  exact ⟨h.1, h.2.1⟩
theorem lck_opn {R S : Nat → Nat} {y : Nat} (hs : bD (spo R y) (alk R S) = 0) : lck R S y = opn R S := by
  rw [bD0] at hs
  unfold lck opn
  refine bext (fun i hi => ?_) (fun i hi => ?_)
  · rw [bD_tb] at hi ⊢
    simp only [Bool.and_eq_true] at hi ⊢
    exact ⟨pay_wnt hi.1, hi.2⟩
  · rw [bD_tb] at hi ⊢
    simp only [Bool.and_eq_true, Bool.not_eq_true'] at hi ⊢
    refine ⟨?_, hi.2⟩
    cases hq : (pay R y).testBit i
    · have := hs i (by unfold spo; rw [bD_tb, hi.1, hq]; rfl)
      rw [this] at hi
      exact absurd hi.2 (by decide)
    · rfl
theorem aI_com (h : AH) {k1 i1 k2 i2 : Nat} (f g : Nat → Int32) (hn : ¬ (k1 = k2 ∧ i1 = i2)) : aI (aI h k1 i1 f) k2 i2 g = aI (aI h k2 i2 g) k1 i1 f := by
  refine Prod.ext ?_ rfl
  funext a b c
  show (if a = k2 ∧ b = i2 then g c else if a = k1 ∧ b = i1 then f c else h.1 a b c) = if a = k1 ∧ b = i1 then f c else if a = k2 ∧ b = i2 then g c else h.1 a b c
  by_cases h1 : a = k1 ∧ b = i1
  · rw [if_pos h1, if_pos h1, if_neg (fun z => hn ⟨h1.1.symm.trans z.1, h1.2.symm.trans z.2⟩)]
  · rw [if_neg h1, if_neg h1]
theorem wH_45 (h : AH) (lev : Nat → Nat) (f : Nat → Int32) : aI (wH h lev) 45 0 f = wH (aI h 45 0 f) lev := by
  unfold wH
  rw [aI_com h _ f (by omega)]
  refine aI_ext (fun c => ?_)
  rw [gI_aI_n (by omega)]
section M
variable {h : AH} {S R : Nat → Nat}
theorem m_levels (I : BkI R) (h0 : 1 ≤ R 0) (hn : nC R ≤ 12) (MR : MoR h R) {y : Nat} (hL : LawM h R y) (hs : bD (spo R y) (alk R S) = 0) (ho0 : opn R S ≠ 0) :
    ∃ lev', jM_needOf_86 FU (nI (opn R S)) (nI (bD (alk R S) (pay R y))) (nI 1) (wH h (upn (fun _ => 0) 0 1)) = some (ndI (mcv (adN R y) (opn R S)), wH h lev') ∧ (mcv (adN R y) (opn R S) < 100 → LvOK (adN R y) (opn R S) (mcv (adN R y) (opn R S)) lev') := by
  have hp : 2 ^ nC R ≤ 2 ^ 12 := Nat.pow_le_pow_right (by decide) hn
  have hol := opn_lt R S
  have ha0 : adN R y 0 = true := aC_0 I h0 _
  generalize opn R S = o at ho0 hol ⊢
  have key := up_ind (P := fun fu n => 1 ≤ n → ∀ lev0, LvOK (adN R y) o (n - 1) lev0 → lev0 o = 0 → ∃ lev', jM_needOf_86 fu (nI o) (nI (bD (alk R S) (pay R y))) (nI n) (wH h lev0) = some (ndI (mcv (adN R y) o), wH h lev') ∧ (mcv (adN R y) o < 100 → LvOK (adN R y) o (mcv (adN R y) o) lev')) 13 (fun fu _ lev0 hlv hz => ?_) (fun fu n hk ih hn1 lev0 hlv hz => ?_) 12 1 FU rfl (FU_lt (by omega)) (Nat.le_refl _)
  · refine key _ (fun d hd => ?_) (upn_n ho0)
    by_cases hd0 : d = 0
    · rw [hd0, upn_s]
      exact ⟨fun _ => rfl, by omega, fun m _ _ => by omega⟩
    · rw [upn_n hd0]
      refine ⟨fun z => absurd rfl z, by omega, fun m hm hx => ?_⟩
      obtain rfl : m = 0 := by omega
      exact absurd hx hd0
  · have hno : mcv (adN R y) o = 100 := by
      rcases mcv_spec ha0 (t := o) (by omega) with ⟨q1, -⟩ | ⟨q1, q2, -⟩
      · exact q1
      · obtain ⟨m', d, r1, r2, r3⟩ := cov_exc (o := o) _ o (bD_rf o) q2
        have hd : d = o := bext ((bD0 d o).mp (exc_sub _ _ r2)) ((bD0 o d).mp r3)
        rw [hd] at r2
        have := ((hlv o (by omega)).2.2 m' (by omega) r2).1
        exact absurd hz this
    refine ⟨lev0, ?_, fun z => by omega⟩
    rw [jM_needOf_86]
    simp (disch := omega) only [litI, nI_leI, if_neg]
    rw [hno]
    rfl
  · have hb0 : ∀ d, d < 4096 → lev0 d ≤ n := fun d hd => by have := (hlv d hd).2.1; omega
    obtain ⟨lev1, j1, j2⟩ := m_sets (S := S) MR I hn hL hs hol hn1 (by omega) hb0
    have hlv1 := LvOK_next (fun x => adN_lt) (by omega) hn1 hlv j1
    have hb1 := (hlv1 o (by omega)).2.1
    rw [jM_needOf_86]
    simp (disch := omega) only [litI, nI_leI, if_pos]
    rw [j2]
    unfold jM_needOf_204
    simp (disch := omega) only [litI, inb_nI, nI_clamp, wH_g, if_true, nI_add]
    by_cases hz1 : lev1 o = 0
    · rw [hz1, cw_0]
      simp (disch := omega) only [neg_lt_nI, if_true]
      exact ih (by omega) lev1 (by rw [Nat.add_sub_cancel]; exact hlv1) hz1
    · have he : lev1 o = n + 1 := by
        rcases (j1 o (by omega)).2 hz with ⟨q, -⟩ | ⟨q, -⟩ <;> omega
      have hmc : mcv (adN R y) o = n := by
        have q1 := (hlv1 o (by omega)).1 hz1
        rw [he, Nat.add_sub_cancel] at q1
        have q2 := (mcv_le ha0 (by omega) (exc_cov _ _ q1)).1
        apply Decidable.byContradiction
        intro z
        have q3 := mcv_cov ha0 (t := o) (by omega) (by omega)
        obtain ⟨m', d, r1, r2, r3⟩ := cov_exc (o := o) _ o (bD_rf o) q3
        have hd : d = o := bext ((bD0 d o).mp (exc_sub _ _ r2)) ((bD0 o d).mp r3)
        rw [hd] at r2
        have := ((hlv o (by omega)).2.2 m' (by omega) r2).1
        exact absurd hz this
      refine ⟨lev1, ?_, fun _ => by rw [hmc]; exact hlv1⟩
      rw [he, cw_s, hmc]
      simp (disch := omega) only [nI_ltI, Nat.not_lt_zero, if_false]
      unfold ndI
      rw [if_pos (by omega)]
theorem m_needOf (MR : MoR h R) (MS : MoS h S) (WI : WkI R S) (I : BkI R) (h0 : 1 ≤ R 0) (hn : nC R ≤ 12) {y : Nat} (hy : y < 1000) :
    ∃ h', jM_needOf h (nI y) = some (ndI (ndv R S y), h') ∧ FrN h h' ∧ (ndv R S y < 100 → 1 ≤ ndv R S y → bD (spo R y) (alk R S) = 0 ∧ ndv R S y = mcv (adN R y) (opn R S) ∧ LawM h' R y ∧ ∃ lev, (∀ d, d < 4096 → gI h' 44 0 d = cw (lev d)) ∧ LvOK (adN R y) (opn R S) (ndv R S y) lev) := by
  have hp : 2 ^ nC R ≤ 2 ^ 12 := Nat.pow_le_pow_right (by decide) hn
  have hol := opn_lt R S
  have ha0 : adN R y 0 = true := aC_0 I h0 _
  have hdl : bD (opn R S) (pay R y) < 2 ^ 31 := by have := bD_le (opn R S) (pay R y); omega
  have e24 : ∀ v3 v4, jM_needOf_24 (nI y) FU v3 v4 (nI 0) h = jM_needOf_46 (nI y) v3 v4 (wH h (fun _ => 0)) := by
    intro v3 v4
    have key := up_ind (P := fun fu k => jM_needOf_24 (nI y) fu v3 v4 (nI k) (aI h 44 0 (fun j => if j < k then -nI 1 else gI h 44 0 j)) = jM_needOf_46 (nI y) v3 v4 (wH h (fun _ => 0))) 4096 (fun fu => ?_) (fun fu k hk ih => ?_) 4096 0 FU rfl (FU_lt (by omega))
    · rw [aI_id (fun c => if_neg (by omega))] at key
      exact key
    · rw [jM_needOf_24]
      simp (disch := omega) only [litI, nI_ltI, if_neg]
      rfl
    · rw [jM_needOf_24]
      simp (disch := omega) only [litI, nI_ltI, if_pos, inb_nI, nI_clamp, jbn, nI_add]
      rw [aI_up h 44 0 k (fun _ => -nI 1)]
      exact ih
  have e46 : ∀ v3 v4, jM_needOf_46 (nI y) v3 v4 (wH h (fun _ => 0)) = (if v3 = 0 then some (0, wH h (upn (fun _ => 0) 0 1)) else if (v3 &&& (v4 ^^^ (-1))) = 0 then ((jM_layLawful (wH h (upn (fun _ => 0) 0 1)) (nI y)).bind fun h2 => (jM_staying h2 (nI y)).bind fun r3 => (jM_needOf_86 FU v3 r3 1 h2)) else some ((-2), wH h (upn (fun _ => 0) 0 1))) := by
    intro v3 v4
    unfold jM_needOf_46
    have := wH_u (h := h) (lev := fun _ => 0) (q := 0) (v := 1) (by omega) (by omega)
    rw [show nI (1 - 1) = nI 0 from rfl] at this
    simp (disch := omega) only [jbn]
    rw [if_pos (show inb 0 4096 = true by decide), show Int32.toNatClampNeg 0 = 0 from rfl, show uI (wH h (fun _ => 0)) 44 0 0 0 = wH h (upn (fun _ => 0) 0 1) from this]
  have Fw : ∀ lev, FrN h (wH h lev) := fun lev => ⟨fun k i j q _ => wH_n q, rfl⟩
  unfold jM_needOf
  rw [m_alikeCells MR MS WI I, obind, m_wantedCells MR I, obind, m_payable MR I (by omega), obind]
  simp only [litI, nI_dif]
  rw [show bD (wnt R) (alk R S) = opn R S from rfl, e24, e46]
  simp (disch := omega) only [litI, nI_dif, nI_eq]
  rw [opn_pay]
  by_cases ho0 : opn R S = 0
  · have hz : bD (spo R y) (alk R S) = 0 := by rw [← opn_pay, ho0, bD_0l]
    have hv : ndv R S y = 0 := by
      unfold ndv
      rw [if_pos hz, lck_opn hz, ho0, mcv_0 ha0]
    refine ⟨wH h (upn (fun _ => 0) 0 1), ?_, Fw _, fun _ z => by omega⟩
    rw [if_pos ho0, hv]
    rfl
  · rw [if_neg ho0]
    by_cases hz : bD (spo R y) (alk R S) = 0
    · have hv : ndv R S y = mcv (adN R y) (opn R S) := by
        unfold ndv
        rw [if_pos hz, lck_opn hz]
      rw [if_pos hz]
      have MR1 : MoR (wH h (upn (fun _ => 0) 0 1)) R := fun i hi => (wH_n (by omega)).trans (MR i hi)
      rw [m_layLawful MR1 I h0 hn hy, obind, wH_45]
      generalize hg : aI h 45 0 (lwm R y (wH h (upn (fun _ => 0) 0 1))) = g
      have hL : LawM g R y := fun j hj => by
        rw [← hg, gI_aI_s]
        exact if_pos hj
      have hgn : ∀ k i j, ¬ (k = 45 ∧ i = 0) → gI g k i j = gI h k i j := fun k i j q => by
        rw [← hg]
        exact gI_aI_n q
      have MRg : MoR g R := fun i hi => (hgn 35 0 i (by omega)).trans (MR i hi)
      have MR2 : MoR (wH g (upn (fun _ => 0) 0 1)) R := fun i hi => (wH_n (by omega)).trans (MRg i hi)
      have MS2 : MoS (wH g (upn (fun _ => 0) 0 1)) S := fun i hi => (wH_n (by omega)).trans ((hgn 37 0 i (by omega)).trans (MS i hi))
      have est : jM_staying (wH g (upn (fun _ => 0) 0 1)) (nI y) = some (nI (bD (alk R S) (pay R y))) := by
        unfold jM_staying
        rw [m_alikeCells MR2 MS2 WI I, obind, m_payable MR2 I (by omega), obind]
        simp only [litI, nI_dif]
      rw [est, obind]
      obtain ⟨lev', q1, q2⟩ := m_levels (S := S) I h0 hn MRg hL hz ho0
      refine ⟨wH g lev', ?_, ⟨fun k i j r1 r2 => (wH_n r1).trans (hgn k i j r2), by rw [← hg]; rfl⟩, fun z1 z2 => ⟨hz, hv, fun j hj => (wH_n (by omega)).trans (hL j hj), lev', fun d hd => wH_g hd, ?_⟩⟩
      · rw [q1, hv]
      · rw [hv]
        exact q2 (by omega)
    · have hv : ndv R S y = 100 := by
        unfold ndv
        rw [if_neg hz]
      refine ⟨wH h (upn (fun _ => 0) 0 1), ?_, Fw _, fun z => by omega⟩
      rw [if_neg hz, hv]
      rfl
theorem m_canBe {a : Nat → Bool} {o n c many : Nat} {lev : Nat → Nat} (ha0 : a 0 = true) (ho : o < 4096) (hlev : ∀ d, d < 4096 → gI h 44 0 d = cw (lev d)) (hLv : LvOK a o n lev) (hn : n ≤ 12) (hc : bD c o = 0) (hm : many ≤ n) :
    (Cov a many c → jM_canBe h (nI c) (nI many) = some (nI 1)) ∧ (¬ Cov a many c → jM_canBe h (nI c) (nI many) = some (nI 0)) := by
  have hcl := bsub_le hc
  have hiff : Cov a many c ↔ ∃ d, d < 4096 ∧ bD c d = 0 ∧ lev d ≠ 0 ∧ lev d ≤ many + 1 := by
    constructor
    · intro z
      obtain ⟨m', d, r1, r2, r3⟩ := cov_exc many c hc z
      have hd : d < 4096 := Nat.lt_of_le_of_lt (bsub_le (exc_sub _ _ r2)) ho
      have := (hLv d hd).2.2 m' (by omega) r2
      exact ⟨d, hd, r3, this.1, by omega⟩
    · rintro ⟨d, hd, r1, r2, r3⟩
      have := exc_cov _ _ ((hLv d hd).1 r2)
      have h2 := cov_mono _ ((bD0 c d).mp r1) this
      have := cov_le ha0 h2 (many - (lev d - 1))
      rw [show lev d - 1 + (many - (lev d - 1)) = many by omega] at this
      exact this
  have hstep : ∀ fu k, k < 4096 → ((bD c k = 0 ∧ lev k ≠ 0 ∧ lev k ≤ many + 1) → jM_canBe_5 h (nI c) (nI many) (fu + 1) (nI 0) (nI k) = jM_canBe_5 h (nI c) (nI many) fu (nI 1) (nI (k + 1))) ∧ (¬ (bD c k = 0 ∧ lev k ≠ 0 ∧ lev k ≤ many + 1) → jM_canBe_5 h (nI c) (nI many) (fu + 1) (nI 0) (nI k) = jM_canBe_5 h (nI c) (nI many) fu (nI 0) (nI (k + 1))) := by
    intro fu k hk
    have hb := (hLv k hk).2.1
    have hbd : bD c k < 2 ^ 31 := by have := bD_le c k; omega
    rw [jM_canBe_5]
    simp (disch := omega) only [litI, nI_ltI, if_pos, if_true, nI_dif, inb_nI, nI_clamp, hlev, nI_add]
    simp only [show (nI (bD c k) = nI 0) = (bD c k = 0) from propext (nI_eq hbd (by omega))]
    by_cases h1 : bD c k = 0
    · rw [if_pos h1]
      by_cases h2 : lev k = 0
      · rw [h2, cw_0]
        simp (disch := omega) only [neg_lt_nI, if_true]
        exact ⟨fun z => absurd rfl z.2.1, fun _ => trivial⟩
      · rw [cw_pos h2]
        simp (disch := omega) only [nI_ltI, Nat.not_lt_zero, if_false, nI_leI]
        by_cases h3 : lev k - 1 ≤ many
        · rw [if_pos h3]
          exact ⟨fun _ => rfl, fun z => absurd ⟨h1, h2, by omega⟩ z⟩
        · rw [if_neg h3]
          exact ⟨fun z => absurd z.2.2 (by omega), fun _ => rfl⟩
    · rw [if_neg h1]
      exact ⟨fun z => absurd z.1 h1, fun _ => rfl⟩
  have hone : ∀ fu k, k ≤ 4096 → jM_canBe_5 h (nI c) (nI many) (fu + 1) (nI 1) (nI k) = some (nI 1) := by
    intro fu k hk
    rw [jM_canBe_5]
    have hz : isZ (nI 1) = true := by decide
    by_cases h1 : k < 4096
    · simp (disch := omega) only [litI, nI_ltI, if_pos, nI_eq, if_neg, hz, if_true]
    · simp (disch := omega) only [litI, nI_ltI, if_neg, hz, if_true]
  unfold jM_canBe
  constructor
  · intro z
    obtain ⟨d, hd, r⟩ := hiff.mp z
    refine up_ind (P := fun fu k => (k ≤ d ∧ 4096 - k < fu) → jM_canBe_5 h (nI c) (nI many) fu (nI 0) (nI k) = some (nI 1)) 4096 (fun fu q => by omega) (fun fu k hk ih q => ?_) 4096 0 FU rfl (FU_lt (by omega)) ⟨Nat.zero_le _, FU_lt (by omega)⟩
    by_cases hp : bD c k = 0 ∧ lev k ≠ 0 ∧ lev k ≤ many + 1
    · rw [(hstep fu k hk).1 hp]
      obtain ⟨fu, rfl⟩ : ∃ f, fu = f + 1 := ⟨fu - 1, by omega⟩
      exact hone fu (k + 1) (by omega)
    · rw [(hstep fu k hk).2 hp]
      have : k ≠ d := by
        rintro rfl
        exact hp r
      exact ih ⟨by omega, by omega⟩
  · intro z
    refine up_ind (P := fun fu k => jM_canBe_5 h (nI c) (nI many) fu (nI 0) (nI k) = some (nI 0)) 4096 (fun fu => ?_) (fun fu k hk ih => ?_) 4096 0 FU rfl (FU_lt (by omega))
    · rw [jM_canBe_5]
      have hz : isZ (nI 0) = true := by decide
      simp (disch := omega) only [litI, nI_ltI, if_neg, hz, if_true]
    · rw [(hstep fu k hk).2 (fun q => z (hiff.mpr ⟨k, hk, q⟩))]
      exact ih
theorem m_steps (I : BkI R) (h0 : 1 ≤ R 0) (hn : nC R ≤ 12) {y i n : Nat} {lev : Nat → Nat} (hs : bD (spo R y) (alk R S) = 0) (hnv : mcv (adN R y) (opn R S) = n) (hn12 : n ≤ 12) (hi : i < n) (hL : LawM h R y) (hlev : ∀ d, d < 4096 → gI h 44 0 d = cw (lev d)) (hLv : LvOK (adN R y) (opn R S) n lev) :
    jM_step_96 (nI i) FU (nI n) (nI (opn R S)) (nI (bD (alk R S) (pay R y))) (nI 0) (nI 0) h = some (nI (nxt (adN R y) (nC R) (lks (adN R y) (nC R) (opn R S) i)), h) := by
  have hp : 2 ^ nC R ≤ 2 ^ 12 := Nat.pow_le_pow_right (by decide) hn
  have hol := opn_lt R S
  have ha0 : adN R y 0 = true := aC_0 I h0 _
  have hmk := lks_mcv I h0 hn (y := y) hol (by omega)
  refine up_ind (P := fun fu k => ∀ v7 : Int32, (k = i + 1 → v7 = nI (nxt (adN R y) (nC R) (lks (adN R y) (nC R) (opn R S) i))) → jM_step_96 (nI i) fu (nI n) (nI (lks (adN R y) (nC R) (opn R S) k)) (nI (bD (alk R S) (pay R y))) v7 (nI k) h = some (nI (nxt (adN R y) (nC R) (lks (adN R y) (nC R) (opn R S) i)), h)) (i + 1) (fun fu v7 hv => ?_) (fun fu k hk ih v7 hv => ?_) (i + 1) 0 FU (by omega) (FU_lt (by omega)) _ (fun z => by omega)
  · rw [jM_step_96]
    simp (disch := omega) only [nI_leI, if_neg]
    rw [hv rfl]
  · have hm := hmk k (by omega)
    have hsub := lks_sub (adN R y) (nC R) (opn R S) k
    have hle := bsub_le hsub
    generalize hl : lks (adN R y) (nC R) (opn R S) k = l at hm hsub hle
    obtain ⟨x1, x2, x3, x4, x5⟩ := nxs_spec (adN R y) l (2 ^ nC R - 1) 1 (nxt_ex ha0 hn (fun _ => adN_lt) (by omega) (by omega) (by omega))
    rw [jM_step_96]
    simp (disch := omega) only [litI, nI_leI, if_pos]
    have hcb : ∀ x, x < 2 ^ nC R → (Cov (adN R y) (n - k - 1) (bD l x) → jM_canBe h (nI (bD l x)) (nI (n - k - 1)) = some (nI 1)) ∧ (¬ Cov (adN R y) (n - k - 1) (bD l x) → jM_canBe h (nI (bD l x)) (nI (n - k - 1)) = some (nI 0)) := fun x hx => m_canBe ha0 (by omega) hlev hLv hn12 (bD_tr ((bD0 _ _).mpr (bD_sub _ _)) hsub) (by omega)
    have key := up_ind (P := fun fu2 x => jM_step_105 (nI i) (jM_step_96 (nI i) fu) fu2 (nI n) (nI l) (nI (bD (alk R S) (pay R y))) (nI x) (nI k) h = some (nI (nxt (adN R y) (nC R) (lks (adN R y) (nC R) (opn R S) i)), h)) (nxs (adN R y) l (2 ^ nC R - 1) 1) (fun fu2 => ?_) (fun fu2 x hx ih2 => ?_) (nxs (adN R y) l (2 ^ nC R - 1) 1) 0 FU (by omega) (FU_lt (by omega))
    · exact key
    · generalize hX : nxs (adN R y) l (2 ^ nC R - 1) 1 = X at x1 x2 x3 x4 x5
      have hX2 : X < 2 ^ nC R := by omega
      obtain ⟨a1, a2⟩ := (adN_iff (S := S) hs hX2).mp x1
      have hcov : Cov (adN R y) (n - k - 1) (bD l X) := by
        have := mcv_cov ha0 (t := bD l X) (by have := bD_le l X; omega) (by omega)
        rw [show mcv (adN R y) (bD l X) = n - k - 1 by omega] at this
        exact this
      rw [jM_step_105]
      unfold jM_step_150
      simp (disch := omega) only [litI, inb_nI, nI_clamp, hL X, if_true, nI_and, nI_dif, pk_sub, nI_add]
      rw [show (if X < 2 ^ nC R ∧ adm R (bar2 R y 100) X = true then 1 else 0) = 1 from if_pos ⟨hX2, a1⟩, a2, (hcb X hX2).1 hcov]
      simp (disch := omega) only [nI_eq, if_neg, if_true, obind]
      have hnx : bD l X = lks (adN R y) (nC R) (opn R S) (k + 1) := by
        show bD l X = bD (lks _ _ _ k) (nxt _ _ (lks _ _ _ k))
        rw [hl]
        unfold nxt
        rw [hX]
      rw [hnx]
      refine ih _ (fun z => ?_)
      rw [show i = k by omega, hl]
      unfold nxt
      rw [hX]
    · have hx2 : x < 2 ^ nC R := by omega
      have had := adN_iff (S := S) hs hx2
      have hsa : x &&& bD (alk R S) (pay R y) < 2 ^ 31 := Nat.lt_of_le_of_lt Nat.and_le_left (by omega)
      have hno : ¬ (adN R y x = true ∧ Cov (adN R y) (n - k - 1) (bD l x)) := by
        rintro ⟨z1, z2⟩
        by_cases hx0 : x = 0
        · rw [hx0, bD_0] at z2
          have := (mcv_le ha0 (t := l) (by omega) z2).1
          omega
        · have hbl : bD l x < 2 ^ 12 := by have := bD_le l x; omega
          have q1 := (mcv_le ha0 hbl z2).1
          have q2 := mcv_cov ha0 hbl (by omega)
          have q3 := (mcv_le ha0 (t := l) (j := mcv (adN R y) (bD l x) + 1) (by omega) ⟨x, z1, q2⟩).1
          exact x5 x (by omega) hx ⟨z1, by omega⟩
      rw [jM_step_105]
      unfold jM_step_150
      simp (disch := omega) only [litI, inb_nI, nI_clamp, hL x, if_true, nI_and, nI_dif, pk_sub, nI_add]
      simp only [show (nI (x &&& bD (alk R S) (pay R y)) = nI 0) = (x &&& bD (alk R S) (pay R y) = 0) from propext (nI_eq hsa (by omega))]
      by_cases h1 : adm R (bar2 R y 100) x = true
      · rw [show (if x < 2 ^ nC R ∧ adm R (bar2 R y 100) x = true then 1 else 0) = 1 from if_pos ⟨hx2, h1⟩]
        simp (disch := omega) only [nI_eq, if_neg]
        by_cases h2 : x &&& bD (alk R S) (pay R y) = 0
        · rw [if_pos h2, (hcb x hx2).2 (fun z => hno ⟨had.mpr ⟨h1, h2⟩, z⟩), obind, if_pos rfl]
          exact ih2
        · rw [if_neg h2]
          exact ih2
      · rw [show (if x < 2 ^ nC R ∧ adm R (bar2 R y 100) x = true then 1 else 0) = 0 from if_neg (fun z => h1 z.2)]
        simp (disch := omega) only [nI_eq, if_true]
        exact ih2
end M
