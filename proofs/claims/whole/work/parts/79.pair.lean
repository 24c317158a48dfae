/-! ===== pure: both readers at a token ===== -/
def FcR (h h' : AH) : Prop := (∀ k i j, ¬ (k = 2 ∧ i = 0 ∧ (j = 0 ∨ j = 5 ∨ j = 6)) → gI h' k i j = gI h k i j) ∧ h'.2 = h.2
def FmR (h h' : AH) : Prop := (∀ k i j, ¬ (k = 32 ∧ (j = 4 ∨ j = 5 ∨ j = 6 ∨ j = 7 ∨ j = 8 ∨ j = 9 ∨ j = 10 ∨ j = 13)) → k ≠ 34 → gI h' k i j = gI h k i j) ∧ h'.2 = h.2
theorem FcR.trans {a b c : AH} (h1 : FcR a b) (h2 : FcR b c) : FcR a c := ⟨fun k i j x => (h2.1 k i j x).trans (h1.1 k i j x), h2.2.trans h1.2⟩
theorem FmR.trans {a b c : AH} (h1 : FmR a b) (h2 : FmR b c) : FmR a c := ⟨fun k i j x y => (h2.1 k i j x y).trans (h1.1 k i j x y), h2.2.trans h1.2⟩
theorem FcR.refl (a : AH) : FcR a a := ⟨fun _ _ _ _ => rfl, rfl⟩
theorem FmR.refl (a : AH) : FmR a a := ⟨fun _ _ _ _ _ => rfl, rfl⟩
theorem FzX.r {a b : AH} (h : FzX a b) : FmR a b := ⟨fun k i j x y => h.1 k i j (fun z => x ⟨z.1, by omega⟩) y, h.2⟩
theorem FcR_u (h : AH) {j : Nat} (hj : j = 0 ∨ j = 5 ∨ j = 6) (v : Int32) : FcR h (uI h 2 0 j v) := ⟨fun k i c x => gI_uI_n (fun z => x ⟨z.1, z.2.1, by rw [z.2.2]; exact hj⟩), rfl⟩
theorem FmR_u (h : AH) {j : Nat} (hj : j = 4 ∨ j = 5 ∨ j = 6 ∨ j = 7 ∨ j = 8 ∨ j = 9 ∨ j = 10 ∨ j = 13) (v : Int32) : FmR h (uI h 32 0 j v) := ⟨fun k i c x _ => gI_uI_n (fun z => x ⟨z.1, by rw [z.2.2]; exact hj⟩), rfl⟩
theorem FmR_w (h : AH) (f p : Nat) : FmR h (wrH h f p) := ((FmR_u h (j := 13) (by omega) _).trans (FmR_u _ (j := 9) (by omega) _)).trans (FmR_u _ (j := 10) (by omega) _)
theorem TkC_of {h h' : AH} {T : Nat → Nat} {L n : Nat} (C : TkC h T L n) (F : FcR h h') : TkC h' T L n := by
  obtain ⟨a, b, c, d, e⟩ := C
  refine ⟨(F.1 17 0 0 (by omega)).trans a, b, fun i hi => TkO_of (c i hi) ⟨F.1 18 0 i (by omega), F.1 19 0 i (by omega), ?_⟩, d, e⟩
  unfold gL
  rw [F.2]
/-- both hold token i, nothing wrong yet -/
def RG (hc hm : AH) (T : Nat → Nat) (L n i : Nat) : Prop := TkC hc T L n ∧ gI hc 2 0 5 = nI i ∧ i ≤ n ∧ gI hc 2 0 0 = nI 0 ∧ MTp hm T L ∧ MTk hm T L (tS T L i) ∧ gI hm 32 0 13 = nI 0
/-- both have failed, with the same fault at the same place -/
def RF (hc hm : AH) (T : Nat → Nat) (L n : Nat) : Prop := TkC hc T L n ∧ ∃ f j, 1 ≤ f ∧ f ≤ 6 ∧ j ≤ n ∧ gI hc 2 0 0 = nI f ∧ gI hc 2 0 6 = nI j ∧ gI hm 32 0 13 = nI 1 ∧ gI hm 32 0 9 = nI f ∧ gI hm 32 0 10 = nI (tS T L j)
def adH (h : AH) : AH := uI h 2 0 5 (gI h 2 0 5 + 1)
def flH (h : AH) (f : Nat) : AH := uI (uI h 2 0 0 (nI f)) 2 0 6 (gI h 2 0 5)
theorem FcR_a (h : AH) : FcR h (adH h) := FcR_u h (by omega) _
theorem FcR_f (h : AH) (f : Nat) : FcR h (flH h f) := (FcR_u h (j := 0) (by omega) _).trans (FcR_u _ (j := 6) (by omega) _)
theorem c_fail_t {h : AH} (e : gI h 2 0 0 = nI 0) (f : Nat) : jR_fail h (nI f) = some (flH h f) := by
  rw [jR_fail, if_pos (show gI h 2 0 0 = 0 from e), jbn, jbn, gI_uI_n (by omega)]
  rfl
theorem c_fail_f {h : AH} {g : Nat} (e : gI h 2 0 0 = nI g) (hg : 1 ≤ g ∧ g ≤ 6) (v : Int32) : jR_fail h v = some h := by
  rw [jR_fail, if_neg (show ¬ gI h 2 0 0 = 0 from fun z => by have := (nI_eq (by omega) (by decide)).1 ((e.symm.trans z : nI g = nI 0)); omega)]
theorem RF_of {hc hm hc' hm' : AH} {T : Nat → Nat} {L n : Nat} (F : RF hc hm T L n) (C : TkC hc' T L n) (e0 : gI hc' 2 0 0 = gI hc 2 0 0) (e6 : gI hc' 2 0 6 = gI hc 2 0 6) (m13 : gI hm' 32 0 13 = gI hm 32 0 13) (m9 : gI hm' 32 0 9 = gI hm 32 0 9) (m10 : gI hm' 32 0 10 = gI hm 32 0 10) : RF hc' hm' T L n := by
  obtain ⟨_, f, j, a, b, c, d1, d2, d3, d4, d5⟩ := F
  exact ⟨C, f, j, a, b, c, e0.trans d1, e6.trans d2, m13.trans d3, m9.trans d4, m10.trans d5⟩
/-- where both fail with f at the token in hand -/
theorem RG_fail {hc hm : AH} {T : Nat → Nat} {L n i f : Nat} (G : RG hc hm T L n i) (hf : 1 ≤ f ∧ f ≤ 6) : RF (flH hc f) (wrH hm f (tS T L i)) T L n := by
  obtain ⟨C, e5, hi, e0, P, M, e13⟩ := G
  refine ⟨TkC_of C (FcR_f hc f), f, i, hf.1, hf.2, hi, ?_, ?_, ?_, ?_, ?_⟩
  · unfold flH; rw [gI_uI_n (by omega), gI_uI_s]
  · unfold flH; rw [gI_uI_s, e5]
  · unfold wrH; rw [gI_uI_n (by omega), gI_uI_n (by omega), gI_uI_s]
  · unfold wrH; rw [gI_uI_n (by omega), gI_uI_s]
  · unfold wrH; rw [gI_uI_s]
theorem RF_a {hc hm : AH} {T : Nat → Nat} {L n : Nat} (F : RF hc hm T L n) : RF (adH hc) hm T L n :=
  RF_of F (TkC_of F.1 (FcR_a hc)) (gI_uI_n (by omega)) (gI_uI_n (by omega)) rfl rfl rfl
theorem tS_le {T : Nat → Nat} {L n i : Nat} {h : AH} (C : TkC h T L n) (hi : i ≤ n) : tS T L i ≤ L := by
  by_cases e : i = n
  · rw [e, C.2.2.2.2]; exact Nat.le_refl _
  · have := C.2.2.2.1 i (by omega); omega
/-- a token that is no end is not the last -/
theorem kd_in {T : Nat → Nat} {L n i : Nat} {h : AH} (C : TkC h T L n) (hi : i ≤ n) (hk : kdT T L (tS T L i) ≠ 1) : i < n := by
  by_cases e : i = n
  · exfalso
    apply hk
    rw [e, C.2.2.2.2]
    exact kd_L
  · omega
theorem RG_next {hc hm : AH} {T : Nat → Nat} {L n i : Nat} (hb : ∀ i, T i < 256) (hL : L ≤ 900) (G : RG hc hm T L n i) (hi : i < n) : ∃ hm', jM_next hm = some hm' ∧ FzX hm hm' ∧ RG (adH hc) hm' T L n (i + 1) := by
  obtain ⟨C, e5, hi2, e0, P, M, e13⟩ := G
  have hlt := C.2.2.2.1 i hi
  have he := enT_b (T := T) hlt
  have e6 : gI hm 32 0 5 = nI (enT T L (tS T L i)) := M.2.1.trans (by unfold edT; rw [if_pos hlt])
  obtain ⟨hm', q1, q2, q3⟩ := m_next hb hL he.2 P e6
  refine ⟨hm', q1, q2, TkC_of C (FcR_a hc), ?_, hi, ?_, MTp_x P q2, q3, (q2.1 32 0 13 (by omega) (by decide)).trans e13⟩
  · unfold adH
    rw [gI_uI_s, e5]
    exact nI_add i 1
  · unfold adH
    rw [gI_uI_n (by omega)]
    exact e0
/-- readWord against must -/
theorem p_word {hc hm : AH} {T : Nat → Nat} {L n i t : Nat} (hb : ∀ i, T i < 256) (hL : L ≤ 900) (G : RG hc hm T L n i) (ht : t < 17) : ∃ hc' hm', jR_readWord hc (lqI (pkW t)) = some hc' ∧ jM_must hm t = some hm' ∧ FcR hc hc' ∧ FmR hm hm' ∧ (RG hc' hm' T L n (i + 1) ∨ RF hc' hm' T L n) := by
  have G0 := G
  obtain ⟨C, e5, hi, e0, P, M, e13⟩ := G0
  rw [jR_readWord, e5, c_isWord C hL hi ht, obind, jM_must, if_pos (show gI hm 32 0 13 = 0 from e13), m_isWord M e13 ht, obind]
  cases e : isW T L (tS T L i) t with
  | true =>
    have hk := (isW_i.1 e).1
    obtain ⟨hm', q1, q2, q3⟩ := RG_next hb hL G (kd_in C hi (by rw [hk]; decide))
    refine ⟨adH hc, hm', ?_, ?_, FcR_a hc, q2.r, Or.inl q3⟩
    · rw [if_neg bI_t, jbn, adH, e5]
    · rw [if_neg bI_t, q1, obind]
  | false =>
    refine ⟨adH (flH hc 1), wrH hm 1 (tS T L i), ?_, ?_, (FcR_f hc 1).trans (FcR_a _), FmR_w hm _ _, Or.inr (RF_a (RG_fail G (by omega)))⟩
    · rw [if_pos bI_f, show jR_fail hc 1 = _ from c_fail_t e0 1, obind, jbn]; rfl
    · rw [if_pos bI_f, M.1, show jM_wrong hm 1 (nI (tS T L i)) = _ from m_wrong_t e13 1 _, obind]
