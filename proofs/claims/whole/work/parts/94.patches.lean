/-! ===== pure: patches told ===== -/
def lyK (h : AH) (kc ic bc m : Nat) (v : Int32) : Nat → Int32 := fun j => if bc ≤ j ∧ j < bc + 24 ∧ m.testBit (j - bc) = true then v else gI h kc ic j
def wtK (h : AH) (b m : Nat) (v : Int32) (k : Nat) : Nat → Int32 := fun j => if j < k ∧ m.testBit j = true then v else gI h 12 b j
theorem c_want {h : AH} {b m : Nat} {v : Int32} (hm : m < 2 ^ 24) : jB_want h b v (nI m) = some (aI h 12 b (lyK h 12 b 0 m v)) := by
  unfold jB_want
  have key := up_ind (P := fun fu k => jB_want_2 b v (nI m) fu (nI k) (aI h 12 b (wtK h b m v k)) = some (aI h 12 b (lyK h 12 b 0 m v))) 24 (fun fu => ?_) (fun fu k hk ih => ?_) 24 0 FU rfl (by decide)
  · rw [aI_id (f := wtK h b m v 0) (fun c => by unfold wtK; rw [if_neg (by omega)])] at key
    exact key
  · rw [jB_want_2]
    simp (disch := omega) only [litI, nI_ltI, if_neg]
    refine congrArg some (aI_ext (fun c => ?_))
    unfold wtK lyK
    by_cases hc : c < 24 ∧ m.testBit c = true
    · rw [if_pos hc, if_pos ⟨by omega, by omega, by rw [Nat.sub_zero]; exact hc.2⟩]
    · rw [if_neg hc, if_neg (fun z => hc ⟨by omega, by rw [Nat.sub_zero] at z; exact z.2.2⟩)]
  · rw [jB_want_2]
    simp (disch := omega) only [litI, nI_ltI, if_pos, obind, nI_eq, if_neg, and31, nI_and, nI_shr, sh1, nI_tn0, nI_add, inb_nI, nI_clamp, if_true, jbn]
    cases hb : m.testBit k
    · rw [if_pos rfl]
      rw [aI_ext (g := wtK h b m v k) (fun c => ?_)] at ih
      · exact ih
      · unfold wtK
        by_cases hc : c = k
        · rw [if_neg, if_neg (by omega)]
          rintro ⟨_, q⟩
          rw [hc, hb] at q
          cases q
        · by_cases hc2 : c < k ∧ m.testBit c = true
          · rw [if_pos hc2, if_pos ⟨by omega, hc2.2⟩]
          · rw [if_neg hc2, if_neg (fun z => hc2 ⟨by omega, z.2⟩)]
    · rw [if_neg (by decide), uI_aI]
      rw [aI_ext (g := fun c => if c = k then v else wtK h b m v k c) (fun c => ?_)] at ih
      · exact ih
      · unfold wtK
        by_cases hc : c = k
        · rw [if_pos hc, if_pos ⟨by omega, by rw [hc]; exact hb⟩]
        · rw [if_neg hc]
          by_cases hc2 : c < k ∧ m.testBit c = true
          · rw [if_pos hc2, if_pos ⟨by omega, hc2.2⟩]
          · rw [if_neg hc2, if_neg (fun z => hc2 ⟨by omega, z.2⟩)]
/-- where the patches go -/
def TgC (v1 : Int32) (kc ic bc b w : Nat) : Prop := (v1 = -1 ∧ kc = 12 ∧ ic = b ∧ bc = 0) ∨ (∃ r, r < 12 ∧ v1 = nI r ∧ kc = 16 ∧ ic = w ∧ bc = r * 24)
def TgM (k1 base : Nat) : Prop := k1 = 36 ∧ base = 46 ∨ k1 = 38 ∧ base + 24 ≤ 340
def TQ (hc hm : AH) (kc ic bc k1 base : Nat) (Q : Nat → Nat) : Prop := (∀ c, c < 24 → gI hc kc ic (bc + c) = cv (Q c)) ∧ (∀ c, c < 24 → gI hm k1 0 (base + c) = nI (Q c))
def QOK (R Q : Nat → Nat) : Prop := ∀ c, c < 24 → Q c ≤ R 4 ∧ (nC R ≤ c → Q c = 0)
def FcP (kc ic bc : Nat) (h h' : AH) : Prop := (∀ k i j, ¬ (k = 2 ∧ i = 0 ∧ (j = 0 ∨ j = 5 ∨ j = 6)) → ¬ (k = kc ∧ i = ic ∧ bc ≤ j ∧ j < bc + 24) → gI h' k i j = gI h k i j) ∧ h'.2 = h.2
def FmP (k1 base : Nat) (h h' : AH) : Prop := ∀ k i j, ¬ (k = 32 ∧ (4 ≤ j ∧ j ≤ 10 ∨ j = 13 ∨ 24 ≤ j ∧ j ≤ 27)) → k ≠ 34 → ¬ (k = k1 ∧ i = 0 ∧ base ≤ j ∧ j < base + 24) → gI h' k i j = gI h k i j
theorem FcP.trans {kc ic bc : Nat} {x y z : AH} (h1 : FcP kc ic bc x y) (h2 : FcP kc ic bc y z) : FcP kc ic bc x z := ⟨fun k i j a c => (h2.1 k i j a c).trans (h1.1 k i j a c), h2.2.trans h1.2⟩
theorem FmP.trans {k1 base : Nat} {x y z : AH} (h1 : FmP k1 base x y) (h2 : FmP k1 base y z) : FmP k1 base x z := fun k i j a c d => (h2 k i j a c d).trans (h1 k i j a c d)
theorem FcR.p {x y : AH} (h : FcR x y) (kc ic bc : Nat) : FcP kc ic bc x y := ⟨fun k i j a _ => h.1 k i j a, h.2⟩
theorem FmT.p {x y : AH} (h : FmT x y) (k1 base : Nat) : FmP k1 base x y := fun k i j a b _ => h k i j a b
theorem FcP_l {kc ic bc m : Nat} {v : Int32} (h : AH) : FcP kc ic bc h (aI h kc ic (lyK h kc ic bc m v)) := ⟨fun k i j _ a => by
  by_cases q : k = kc ∧ i = ic
  · obtain ⟨rfl, rfl⟩ := q
    rw [gI_aI_s]
    unfold lyK
    exact if_neg (by omega)
  · exact gI_aI_n q, rfl⟩
theorem FmP_f {k1 base m c : Nat} (h : AH) : FmP k1 base h (aI h k1 0 (flA h k1 base m c)) := fun k i j _ _ a => by
  by_cases q : k = k1 ∧ i = 0
  · obtain ⟨rfl, rfl⟩ := q
    rw [gI_aI_s]
    unfold flA
    exact if_neg (by omega)
  · exact gI_aI_n q
theorem TQ_l {hc hm : AH} {kc ic bc k1 base m c : Nat} {Q : Nat → Nat} (t : TQ hc hm kc ic bc k1 base Q) : TQ (aI hc kc ic (lyK hc kc ic bc m (nI c))) (aI hm k1 0 (flA hm k1 base m c)) kc ic bc k1 base (fun q => if m.testBit q = true then c + 1 else Q q) := by
  refine ⟨fun q hq => ?_, fun q hq => ?_⟩
  · rw [gI_aI_s]
    unfold lyK
    by_cases h : m.testBit q = true
    · rw [if_pos ⟨by omega, by omega, by rw [show bc + q - bc = q by omega]; exact h⟩]
      show _ = cv (if m.testBit q = true then c + 1 else Q q)
      rw [if_pos h]
      rfl
    · rw [if_neg (fun z => h (by rw [show bc + q - bc = q by omega] at z; exact z.2.2))]
      show _ = cv (if m.testBit q = true then c + 1 else Q q)
      rw [if_neg h]
      exact t.1 q hq
  · rw [gI_aI_s]
    unfold flA
    by_cases h : m.testBit q = true
    · rw [if_pos ⟨by omega, by omega, by rw [show base + q - base = q by omega]; exact h⟩]
      show _ = nI (if m.testBit q = true then c + 1 else Q q)
      rw [if_pos h]
    · rw [if_neg (fun z => h (by rw [show base + q - base = q by omega] at z; exact z.2.2))]
      show _ = nI (if m.testBit q = true then c + 1 else Q q)
      rw [if_neg h]
      exact t.2 q hq
theorem pat_stop (v1 : Int32) (f : Nat) (v : Int32) (h : AH) : jR_readPatches_4 v1 (f + 1) 0 v h = some h := by
  rw [jR_readPatches_4]
  split
  · rw [if_pos rfl]
  · rfl
theorem pat_80bad {h : AH} {n : Nat} (B : Bad h n) (v1 : Int32) (f : Nat) (v : Int32) : jR_readPatches_80 v1 (jR_readPatches_4 v1 (f + 1)) v h = some h := by
  rw [jR_readPatches_80, if_neg (Bad_nz B), jR_readPatches_106, jR_readPatches_107, if_pos rfl, pat_stop]
theorem pat_61bad {h : AH} {n : Nat} (B : Bad h n) (v1 : Int32) (f : Nat) (v a c : Int32) : jR_readPatches_61 v1 (jR_readPatches_4 v1 (f + 1)) v a c h = some h := by
  rw [jR_readPatches_61, if_neg (Bad_nz B), pat_80bad B]
theorem pat_24bad {h h1 h2 : AH} {n : Nat} {v1 s v u u2 : Int32} (f : Nat) (e : jR_readColour h s = some (u, h1)) (e2 : jR_readCorners h1 = some (u2, h2)) (B : Bad h2 n) : jR_readPatches_24 v1 (jR_readPatches_4 v1 (f + 1)) v s h = some h2 := by
  rw [jR_readPatches_24, e, obind, e2, obind, if_neg (Bad_nz B), pat_61bad B]
/-- a patch where nothing has failed: it is laid -/
theorem pat_24ok {h h1 h2 : AH} {kc ic bc b w m c : Nat} {v1 s v : Int32} (K : Int32 → Int32 → AH → Option AH) (e : jR_readColour h s = some (nI c, h1)) (e2 : jR_readCorners h1 = some (nI m, h2)) (e0 : gI h2 2 0 0 = 0) (hm : m < 2 ^ 24) (t : TgC v1 kc ic bc b w) (hb : (gB h2 2).toNat = b) (hw : (gB h2 3).toNat = w) : jR_readPatches_24 v1 K v s h = jR_readPatches_80 v1 K v (aI h2 kc ic (lyK h2 kc ic bc m (nI c))) := by
  rw [jR_readPatches_24, e, obind, e2, obind, if_pos e0]
  rcases t with ⟨rfl, rfl, rfl, rfl⟩ | ⟨r, hr, rfl, rfl, rfl, rfl⟩
  · rw [if_pos rfl, hb, c_want hm, obind]
  · rw [if_neg (m1n r (by omega)), jR_readPatches_61, if_pos e0, hw, c_lay hr hm, obind]
    rfl
section
variable {T R : Nat → Nat} {L n : Nat} {kc ic bc k1 base b w : Nat} {v1 : Int32}
theorem p_patches (hb : ∀ i, T i < 256) (hL : L ≤ 900) (N : NmI R) (r0 : 1 ≤ R 0 ∧ R 0 ≤ 6) (r1 : 1 ≤ R 1 ∧ R 1 ≤ 4) (tc : TgC v1 kc ic bc b w) (tm : TgM k1 base) : ∀ d k i (hc hm : AH) (Q : Nat → Nat), k + d = 4 → RG hc hm T L n i → NmC hc b R → gI hc 3 b 0 = nI (R 0) → gI hc 3 b 1 = nI (R 1) → NmM hm R → gI hm 36 0 0 = nI (R 0) → gI hm 36 0 1 = nI (R 1) → TQ hc hm kc ic bc k1 base Q → QOK R Q → (gB hc 2).toNat = b → (gB hc 3).toNat = w → ∀ fu fv, d + 1 < fu → d + 1 < fv → ∃ hc' hm', jR_readPatches_4 v1 fu 1 (nI k) hc = some hc' ∧ jM_patches_5 k1 (nI base) fv (nI k) 1 hm = some hm' ∧ FcP kc ic bc hc hc' ∧ FmP k1 base hm hm' ∧ ((∃ i' Q', i ≤ i' ∧ RG hc' hm' T L n i' ∧ TQ hc' hm' kc ic bc k1 base Q' ∧ QOK R Q') ∨ RF hc' hm' T L n) := by
  have n4 := N.1
  have hk3 : kc ≠ 3 ∧ kc ≠ 2 ∧ kc ≠ 17 ∧ kc ≠ 18 ∧ kc ≠ 19 := by
    rcases tc with ⟨_, h, _⟩ | ⟨_, _, _, h, _⟩ <;> omega
  have hk32 : k1 ≠ 32 ∧ k1 ≠ 33 ∧ k1 ≠ 34 := by
    rcases tm with ⟨h, _⟩ | ⟨h, _⟩ <;> omega
  -- where it fails at the colour
  have fail : ∀ f k i (hc hm : AH) a c s u, 1 ≤ f → f ≤ 6 → RG hc hm T L n i → jR_readColour hc s = some (u, adH (flH hc f)) → ∃ hc', jR_readPatches_24 v1 (jR_readPatches_4 v1 (a + 1)) (nI k) s hc = some hc' ∧ jM_patches_38 k1 (nI base) (jM_patches_5 k1 (nI base) (c + 1)) (nI k) 0 (wrH hm f (tS T L i)) = some (wrH hm f (tS T L i)) ∧ FcP kc ic bc hc hc' ∧ FmP k1 base hm (wrH hm f (tS T L i)) ∧ RF hc' (wrH hm f (tS T L i)) T L n := by
    intro f k i hc hm a c s u f1 f2 G e
    have F := RF_a (RG_fail G ⟨f1, f2⟩)
    have B := F.bad hL
    obtain ⟨u2, hu⟩ := bad_corners B
    refine ⟨_, pat_24bad a e hu (bad_corners_ok B), by rw [jM_patches_38, if_neg (wrH_13 _ _ _)], ?_, (FmR_w hm f _).t.p _ _, RF_a (RF_a (RF_a (RF_a (RF_a (RF_a (RF_a F))))))⟩
    exact (((((((((FcR_f hc f).trans (FcR_a _)).trans (FcR_a _)).trans (FcR_a _)).trans (FcR_a _)).trans (FcR_a _)).trans (FcR_a _)).trans (FcR_a _)).trans (FcR_a _)).p _ _ _
  intro d
  induction d with
  | zero =>
    intro k i hc hm Q hk G NC w0 w1 NM m0 m1 t q hb2 hb3 fu fv hfu hfv
    obtain ⟨a, rfl⟩ : ∃ a, fu = a + 1 + 1 := ⟨fu - 2, by omega⟩
    obtain ⟨c, rfl⟩ : ∃ c, fv = c + 1 + 1 := ⟨fv - 2, by omega⟩
    have hk4 : k = 4 := by omega
    have e13 : gI hm 32 0 13 = 0 := G.2.2.2.2.2.2
    have eC : jR_readPatches_4 v1 (a + 1 + 1) 1 (nI k) hc = jR_readPatches_24 v1 (jR_readPatches_4 v1 (a + 1)) (nI k) 1 hc := by
      rw [jR_readPatches_4, hk4, if_pos (show nI 4 ≤ 4 by decide), if_neg (by decide), if_neg (show ¬ nI 4 < 4 by decide)]
    rcases p_col hL G (by rw [hb2]; exact NC) NM N with ⟨cl, hcl, mN, -, cN, hi⟩ | ⟨f, f1, f2, mN, cN⟩
    · obtain ⟨hc', q1, q2, q3, q4, q5⟩ := fail 5 k i hc hm a c 1 (nI cl) (by omega) (by omega) G cN
      refine ⟨hc', wrH hm 5 (tS T L i), by rw [eC, q1], ?_, q3, q4, Or.inr q5⟩
      rw [jM_patches_5, if_neg (by decide), mN, obind, if_pos e13, hk4, if_pos (show nI 4 = 4 from rfl), G.2.2.2.2.2.1.1, show jM_wrong hm 5 (nI (tS T L i)) = _ from m_wrong_t G.2.2.2.2.2.2 5 _, obind, jM_patches_38, if_neg (wrH_13 _ _ _)]
    · obtain ⟨u, cN⟩ := cN 1
      obtain ⟨hc', q1, q2, q3, q4, q5⟩ := fail f k i hc hm a c 1 u f1 f2 G cN
      refine ⟨hc', wrH hm f (tS T L i), by rw [eC, q1], ?_, q3, q4, Or.inr q5⟩
      rw [jM_patches_5, if_neg (by decide), mN, obind, if_neg (wrH_13 _ _ _)]
      exact q2
  | succ d ih =>
    intro k i hc hm Q hk G NC w0 w1 NM m0 m1 t q hb2 hb3 fu fv hfu hfv
    obtain ⟨a, rfl⟩ : ∃ a, fu = a + 1 + 1 := ⟨fu - 2, by omega⟩
    obtain ⟨c, rfl⟩ : ∃ c, fv = c + 1 + 1 := ⟨fv - 2, by omega⟩
    have e13 : gI hm 32 0 13 = 0 := G.2.2.2.2.2.2
    have eC : jR_readPatches_4 v1 (a + 1 + 1) 1 (nI k) hc = jR_readPatches_24 v1 (jR_readPatches_4 v1 (a + 1)) (nI k) 0 hc := by
      rw [jR_readPatches_4, if_pos (show nI k ≤ 4 from (nI_leI (by omega) (by decide)).2 (show k ≤ 4 by omega)), if_neg (by decide), if_pos (show nI k < 4 from (nI_ltI (by omega) (by decide)).2 (show k < 4 by omega))]
    rcases p_col hL G (by rw [hb2]; exact NC) NM N with ⟨cl, hcl, mN, cN, -, hi⟩ | ⟨f, f1, f2, mN, cN⟩
    · obtain ⟨m1', s1, s2, s3⟩ := RG_next hb hL G hi
      have Fm1 : FmR hm m1' := s2.r
      obtain ⟨c2, g2, u2, ok, a2, b2, F2, H2, S2, t2⟩ := p_corners (R := R) hb hL s3 (by rw [gB_r (FcR_a hc), hb2]; exact (gI_uI_n (by omega)).trans w0) (by rw [gB_r (FcR_a hc), hb2]; exact (gI_uI_n (by omega)).trans w1) ((Fm1.1 36 0 0 (by omega) (by decide)).trans m0) ((Fm1.1 36 0 1 (by omega) (by decide)).trans m1) r0 r1
      have FC : FcR hc c2 := (FcR_a hc).trans F2
      have FM : FmT hm g2 := Fm1.t.trans H2
      have eM : jM_patches_5 k1 (nI base) (c + 1 + 1) (nI k) 1 hm = if gI g2 32 0 13 = 0 then (jM_fill g2 k1 (nI base) (nI cl) (nI (R 0))).bind (fun h3 => (jM_comma h3).bind fun q4 => jM_patches_5 k1 (nI base) (c + 1) (nI k + 1) q4.1 q4.2) else some g2 := by
        rw [jM_patches_5, if_neg (by decide), mN, obind, if_pos e13, if_neg (show ¬ nI k = 4 from fun z => by have := (nI_eq (by omega) (show 4 < 2 ^ 31 by decide)).1 (z : nI k = nI 4); omega), jM_patches_38, if_pos e13, s1, obind, b2, obind, if_pos (show inb 0 161 = true by decide), show gI g2 36 0 (Int32.toNatClampNeg 0) = nI (R 0) from (FM 36 0 0 (by omega) (by decide)).trans m0]
      cases hok : ok with
      | false =>
        rw [hok] at S2
        have F := S2.2 rfl
        refine ⟨c2, g2, by rw [eC, pat_24bad a cN a2 (F.bad hL)], ?_, FC.p _ _ _, FM.p _ _, Or.inr F⟩
        rw [eM, if_neg (by rw [RF_13 F]; decide)]
      | true =>
        rw [hok] at S2 t2
        have G2 := S2.1 rfl
        obtain ⟨x0, y0, xx, yy, o1, o2, o3, o4, o5, o6, o7, o8, o9⟩ := t2 rfl
        have h24 : nC R ≤ 24 := nC_24 r0.2 r1.2
        have hm24 := bM_lt (inr (R 0) x0 y0 xx yy) (nC R)
        have hmm : bM (inr (R 0) x0 y0 xx yy) (nC R) < 2 ^ 24 := Nat.lt_of_lt_of_le hm24 (Nat.pow_le_pow_right (by decide) h24)
        rw [o5] at a2
        have hfill : jM_fill g2 k1 (nI base) (nI cl) (nI (R 0)) = some (aI g2 k1 0 (flA g2 k1 base (bM (inr (R 0) x0 y0 xx yy) (nC R)) cl)) := by
          have hy1 : R 0 * (yy + 1) ≤ nC R := Nat.mul_le_mul (Nat.le_refl _) o4
          rcases tm with ⟨rfl, rfl⟩ | ⟨rfl, h⟩
          · exact m_fill (NN := 161) (by decide) rfl (by omega) (by omega) (by omega) (by omega) (by omega) o1 o2 o3 hy1 h24 o6 o7 o8 o9
          · exact m_fill (NN := 340) (by decide) rfl (by omega) (by omega) (by omega) (by omega) (by omega) o1 o2 o3 hy1 h24 o6 o7 o8 o9
        have eC2 := pat_24ok (v := nI k) (jR_readPatches_4 v1 (a + 1)) cN a2 (show gI c2 2 0 0 = 0 from G2.2.2.2.1) hmm tc (by rw [gB_r FC]; exact hb2) (by rw [gB_r FC]; exact hb3)
        have t3 : TQ c2 g2 kc ic bc k1 base Q := ⟨fun q hq => (FC.1 kc ic (bc + q) (by omega)).trans (t.1 q hq), fun q hq => (FM k1 0 (base + q) (by omega) (by omega)).trans (t.2 q hq)⟩
        have t4 := TQ_l (m := bM (inr (R 0) x0 y0 xx yy) (nC R)) (c := cl) t3
        have q4 : QOK R (fun q => if (bM (inr (R 0) x0 y0 xx yy) (nC R)).testBit q = true then cl + 1 else Q q) := by
          intro z hz
          show (if (bM (inr (R 0) x0 y0 xx yy) (nC R)).testBit z = true then cl + 1 else Q z) ≤ R 4 ∧ (nC R ≤ z → (if (bM (inr (R 0) x0 y0 xx yy) (nC R)).testBit z = true then cl + 1 else Q z) = 0)
          by_cases hzb : (bM (inr (R 0) x0 y0 xx yy) (nC R)).testBit z = true
          · rw [if_pos hzb]
            refine ⟨by omega, fun hn => ?_⟩
            rw [bM_tb, decide_eq_false (by omega)] at hzb
            cases hzb
          · rw [if_neg hzb]
            exact q z hz
        have FC3 : FcP kc ic bc hc (aI c2 kc ic (lyK c2 kc ic bc (bM (inr (R 0) x0 y0 xx yy) (nC R)) (nI cl))) := (FC.p _ _ _).trans (FcP_l _)
        have FM3 : FmP k1 base hm (aI g2 k1 0 (flA g2 k1 base (bM (inr (R 0) x0 y0 xx yy) (nC R)) cl)) := (FM.p _ _).trans (FmP_f _)
        have G3 : RG (aI c2 kc ic (lyK c2 kc ic bc (bM (inr (R 0) x0 y0 xx yy) (nC R)) (nI cl))) (aI g2 k1 0 (flA g2 k1 base (bM (inr (R 0) x0 y0 xx yy) (nC R)) cl)) T L n (i + 1 + 7) := RG_fr G2 (fun k i j hk => gI_aI_n (by omega)) (fun _ => rfl) (fun k i j hk => gI_aI_n (by omega))
        rw [if_pos (show gI g2 32 0 13 = 0 from G2.2.2.2.2.2.2), hfill, obind] at eM
        rw [eC2] at eC
        generalize aI c2 kc ic (lyK c2 kc ic bc (bM (inr (R 0) x0 y0 xx yy) (nC R)) (nI cl)) = hd2 at eC t4 FC3 G3
        generalize aI g2 k1 0 (flA g2 k1 base (bM (inr (R 0) x0 y0 xx yy) (nC R)) cl) = md2 at eM t4 FM3 G3
        generalize (fun q => if (bM (inr (R 0) x0 y0 xx yy) (nC R)).testBit q = true then cl + 1 else Q q) = Q2 at t4 q4
        have G3' := G3
        obtain ⟨D, e5, hi3, e0, P, Mk, e13'⟩ := G3'
        have k6 := kd_6 T L (tS T L (i + 1 + 7))
        rw [jR_readPatches_80, if_pos (show gI hd2 2 0 0 = 0 from e0), e5, show (5 : Int32) = nI 5 from rfl, c_isKind D hL hi3 (by decide), obind] at eC
        by_cases hk5 : kdT T L (tS T L (i + 1 + 7)) = 5
        · obtain ⟨m3, z1, z2, z3⟩ := RG_next hb hL G3 (kd_in D hi3 (by rw [hk5]; decide))
          have FC4 : FcP kc ic bc hc (adH hd2) := FC3.trans ((FcR_a hd2).p _ _ _)
          have FM4 : FmP k1 base hm m3 := FM3.trans (z2.r.t.p _ _)
          obtain ⟨hc', hm', y1, y2, y3, y4, y5⟩ := ih (k + 1) (i + 1 + 7 + 1) (adH hd2) m3 Q2 (by omega) z3 (NmC_of NC (fun j => FC4.1 3 b j (by omega) (by omega)) (fun k i j _ => by unfold gL; rw [FC4.2])) ((FC4.1 3 b 0 (by omega) (by omega)).trans w0) ((FC4.1 3 b 1 (by omega) (by omega)).trans w1) (fun j h1 h2 => (FM4 36 0 j (by omega) (by decide) (fun z => by rcases tm with ⟨_, h⟩ | ⟨h, _⟩ <;> omega)).trans (NM j h1 h2)) ((FM4 36 0 0 (by omega) (by decide) (fun z => by rcases tm with ⟨_, h⟩ | ⟨h, _⟩ <;> omega)).trans m0) ((FM4 36 0 1 (by omega) (by decide) (fun z => by rcases tm with ⟨_, h⟩ | ⟨h, _⟩ <;> omega)).trans m1) ⟨fun q hq => (gI_uI_n (by omega)).trans (t4.1 q hq), fun q hq => (z2.r.1 k1 0 (base + q) (by omega) (by omega)).trans (t4.2 q hq)⟩ q4 (by unfold gB; rw [FC4.2]; exact hb2) (by unfold gB; rw [FC4.2]; exact hb3) (a + 1) (c + 1) (by omega) (by omega)
          refine ⟨hc', hm', ?_, ?_, FC4.trans y3, FM4.trans y4, ?_⟩
          · rw [eC, decide_eq_true hk5, if_neg bI_t, jR_readPatches_107, if_neg (by decide), jbn, show uI hd2 2 0 5 (gI hd2 2 0 5 + 1) = adH hd2 from rfl, show nI k + 1 = nI (k + 1) from nI_add k 1]
            exact y1
          · rw [eM, jM_comma, if_pos (show gI md2 32 0 13 = 0 from e13'), Mk.2.2.1, if_pos ((kmT_44 k6).2 hk5), z1, obind, obind, show nI k + 1 = nI (k + 1) from nI_add k 1]
            exact y2
          · rcases y5 with ⟨i', Q', v1, v2⟩ | y5
            · exact Or.inl ⟨i', Q', by omega, v2⟩
            · exact Or.inr y5
        · refine ⟨hd2, md2, ?_, ?_, FC3, FM3, Or.inl ⟨i + 1 + 7, Q2, by omega, G3, t4, q4⟩⟩
          · rw [eC, decide_eq_false hk5, if_pos bI_f, jR_readPatches_106, jR_readPatches_107, if_pos rfl, pat_stop]
          · rw [eM, jM_comma, if_pos (show gI md2 32 0 13 = 0 from e13'), Mk.2.2.1, if_neg (fun z => hk5 ((kmT_44 k6).1 z)), obind, jM_patches_5, if_pos rfl]
    · obtain ⟨u, cN⟩ := cN 0
      obtain ⟨hc', q1, q2, q3, q4, q5⟩ := fail f k i hc hm a c 0 u f1 f2 G cN
      refine ⟨hc', wrH hm f (tS T L i), by rw [eC, q1], ?_, q3, q4, Or.inr q5⟩
      rw [jM_patches_5, if_neg (by decide), mN, obind, if_neg (wrH_13 _ _ _)]
      exact q2
end
/-- the patches where all has failed -/
theorem bad_patches {h : AH} {n : Nat} (B : Bad h n) (v1 : Int32) (hC : ∀ v, ∃ r, jB_colourNamed h (gB h 2).toNat v = some r) : ∃ h', jR_readPatches h v1 = some h' ∧ ∀ b w, FcB b w h h' := by
  obtain ⟨v, hv⟩ := tt_valueOf B.1 B.2.1 (gI h 2 0 5)
  obtain ⟨r, hr⟩ := hC v
  obtain ⟨s, hs⟩ := tt_isName B.1 B.2.1 (gI h 2 0 5)
  have e1 : jR_readColour h 0 = some (r, adH h) := by
    rw [jR_readColour, hv, obind, hr, obind, hs, obind, bad_fail B, obind, t_col38 B]
    split <;> rfl
  have B1 := bad_a B
  obtain ⟨u, hu⟩ := bad_corners B1
  refine ⟨_, ?_, fun b w => (((((((FcB_a b w h).trans (FcB_a _ _ _)).trans (FcB_a _ _ _)).trans (FcB_a _ _ _)).trans (FcB_a _ _ _)).trans (FcB_a _ _ _)).trans (FcB_a _ _ _)).trans (FcB_a _ _ _)⟩
  rw [jR_readPatches, show FU = 9998 + 1 + 1 from rfl, jR_readPatches_4, if_pos (by decide), if_neg (by decide), if_pos (by decide)]
  exact pat_24bad 9998 e1 hu (bad_corners_ok B1)
