/-! ===== pure: both readers step by step, failed or not ===== -/
theorem RF_13 {hc hm : AH} {T : Nat → Nat} {L n : Nat} (F : RF hc hm T L n) : gI hm 32 0 13 = nI 1 := by
  obtain ⟨_, f, j, _, _, _, _, _, e, _⟩ := F
  exact e
/-- both at the token i where ok; else both have failed -/
def St (hc hm : AH) (T : Nat → Nat) (L n : Nat) (ok : Bool) (i : Nat) : Prop := (ok = true → RG hc hm T L n i) ∧ (ok = false → RF hc hm T L n)
section
variable {hc hm : AH} {T : Nat → Nat} {L n i : Nat} {ok : Bool}
theorem St_t (G : RG hc hm T L n i) : St hc hm T L n true i := ⟨fun _ => G, fun z => absurd z (by decide)⟩
theorem St_f (F : RF hc hm T L n) (i : Nat) : St hc hm T L n false i := ⟨fun z => absurd z (by decide), fun _ => F⟩
theorem St_fr {hc' hm' : AH} (G : St hc hm T L n ok i) (e : ∀ k i j, k = 2 ∨ k = 17 ∨ k = 18 ∨ k = 19 → gI hc' k i j = gI hc k i j) (e2 : ∀ i, gL hc' 20 0 i = gL hc 20 0 i) (e3 : ∀ k i j, k = 32 ∧ j ≤ 13 ∨ k = 33 ∨ k = 34 → gI hm' k i j = gI hm k i j) : St hc' hm' T L n ok i := ⟨fun z => RG_fr (G.1 z) e e2 e3, fun z => RF_fr (G.2 z) e e2 e3⟩
theorem St_m {hm' : AH} (G : St hc hm T L n ok i) (e3 : ∀ k i j, k = 32 ∧ j ≤ 13 ∨ k = 33 ∨ k = 34 → gI hm' k i j = gI hm k i j) : St hc hm' T L n ok i := St_fr G (fun _ _ _ _ => rfl) (fun _ => rfl) e3
theorem s_word {t : Nat} (hb : ∀ i, T i < 256) (hL : L ≤ 900) (G : St hc hm T L n ok i) (ht : t < 17) : ∃ hc' hm' ok', jR_readWord hc (lqI (pkW t)) = some hc' ∧ jM_must hm t = some hm' ∧ FcR hc hc' ∧ FmR hm hm' ∧ St hc' hm' T L n ok' (i + 1) ∧ (ok' = true → ok = true) := by
  cases ok with
  | true =>
    obtain ⟨hc', hm', q1, q2, q3, q4, q5⟩ := p_word hb hL (G.1 rfl) ht
    rcases q5 with g | f
    · exact ⟨hc', hm', true, q1, q2, q3, q4, St_t g, fun _ => rfl⟩
    · exact ⟨hc', hm', false, q1, q2, q3, q4, St_f f _, fun _ => rfl⟩
  | false =>
    have F := G.2 rfl
    exact ⟨adH hc, hm, false, bad_word (F.bad hL) _, (m_bad (RF_13 F)).1 _, FcR_a hc, FmR.refl hm, St_f (RF_a F) _, fun z => absurd z (by decide)⟩
theorem s_comma (hb : ∀ i, T i < 256) (hL : L ≤ 900) (G : St hc hm T L n ok i) : ∃ hc' hm' ok', jR_readComma hc = some hc' ∧ jM_mustComma hm = some hm' ∧ FcR hc hc' ∧ FmR hm hm' ∧ St hc' hm' T L n ok' (i + 1) ∧ (ok' = true → ok = true) := by
  cases ok with
  | true =>
    obtain ⟨hc', hm', q1, q2, q3, q4, q5⟩ := p_comma hb hL (G.1 rfl)
    rcases q5 with g | f
    · exact ⟨hc', hm', true, q1, q2, q3, q4, St_t g, fun _ => rfl⟩
    · exact ⟨hc', hm', false, q1, q2, q3, q4, St_f f _, fun _ => rfl⟩
  | false =>
    have F := G.2 rfl
    exact ⟨adH hc, hm, false, bad_comma (F.bad hL), (m_bad (RF_13 F)).2.2.1, FcR_a hc, FmR.refl hm, St_f (RF_a F) _, fun z => absurd z (by decide)⟩
theorem s_num {A B A' B' : Int32} (a b : Nat) (hb : ∀ i, T i < 256) (hL : L ≤ 900) (G : St hc hm T L n ok i) (hA : ok = true → A = nI a ∧ B = nI b ∧ A' = nI a ∧ B' = nI b ∧ a < 1024 ∧ b < 1024) : ∃ hc' hm' u v ok' x, jR_readWhole hc A B = some (u, hc') ∧ jM_number hm A' B' = some (v, hm') ∧ FcR hc hc' ∧ FmR hm hm' ∧ St hc' hm' T L n ok' (i + 1) ∧ (ok' = true → ok = true ∧ a ≤ x ∧ x ≤ b ∧ u = nI x ∧ v = nI x) ∧ (ok' = false → u = nI 0) := by
  cases ok with
  | true =>
    obtain ⟨rfl, rfl, rfl, rfl, ha, hb2⟩ := hA rfl
    obtain ⟨hc', hm', u, v, q1, q2, q3, q4, q5⟩ := p_number hb hL (G.1 rfl) ha hb2
    rcases q5 with ⟨g, x, x1, x2, x3, x4⟩ | ⟨f, x3, x4⟩
    · exact ⟨hc', hm', u, v, true, x, q1, q2, q3, q4, St_t g, fun _ => ⟨rfl, x1, x2, x3, x4⟩, fun z => absurd z (by decide)⟩
    · exact ⟨hc', hm', u, v, false, 0, q1, q2, q3, q4, St_f f _, fun z => absurd z (by decide), fun _ => x3⟩
  | false =>
    have F := G.2 rfl
    exact ⟨adH hc, hm, 0, A', false, 0, bad_whole (F.bad hL) _ _, (m_bad (RF_13 F)).2.1 _ _, FcR_a hc, FmR.refl hm, St_f (RF_a F) _, fun z => absurd z (by decide), fun _ => rfl⟩
theorem s_told {t : Nat} {A B A' B' : Int32} (a b : Nat) (hb : ∀ i, T i < 256) (hL : L ≤ 900) (G : St hc hm T L n ok i) (ht : t < 17) (hA : ok = true → A = nI a ∧ B = nI b ∧ A' = nI a ∧ B' = nI b ∧ a < 1024 ∧ b < 1024) : ∃ h1 hc' hm' u v ok' x, jR_readWord hc (lqI (pkW t)) = some h1 ∧ jR_readWhole h1 A B = some (u, hc') ∧ jM_told hm t A' B' = some (v, hm') ∧ FcR hc h1 ∧ FcR h1 hc' ∧ FmR hm hm' ∧ St hc' hm' T L n ok' (i + 2) ∧ (ok' = true → ok = true ∧ a ≤ x ∧ x ≤ b ∧ u = nI x ∧ v = nI x) ∧ (ok' = false → u = nI 0) := by
  obtain ⟨h1, m1, ok1, q1, q2, q3, q4, q5, q6⟩ := s_word hb hL G ht
  obtain ⟨h2, m2, u, v, ok2, x, p1, p2, p3, p4, p5, p6, p7⟩ := s_num a b hb hL q5 (fun z => hA (q6 z))
  exact ⟨h1, h2, m2, u, v, ok2, x, q1, p1, by rw [jM_told, q2, obind, p2, obind], q3, p3, q4.trans p4, p5, fun z => ⟨q6 (p6 z).1, (p6 z).2⟩, p7⟩
end
/-! what may change -/
def FcS (b w : Nat) (h h' : AH) : Prop := (∀ k i j, ¬ (k = 2 ∧ i = 0 ∧ (j = 0 ∨ j = 5 ∨ j = 6)) → ¬ (3 ≤ k ∧ k ≤ 12 ∧ i = b) → ¬ (13 ≤ k ∧ k ≤ 16 ∧ i = w) → gI h' k i j = gI h k i j) ∧ h'.2.2 = h.2.2 ∧ ∀ i j, gL h' 20 i j = gL h 20 i j
def FmS (h h' : AH) : Prop := ∀ k i j, ¬ (k = 32 ∧ (4 ≤ j ∧ j ≤ 10 ∨ j = 13 ∨ 24 ≤ j ∧ j ≤ 27)) → k ≠ 34 → k ≠ 36 → k ≠ 38 → gI h' k i j = gI h k i j
theorem FcS.trans {b w : Nat} {x y z : AH} (h1 : FcS b w x y) (h2 : FcS b w y z) : FcS b w x z := ⟨fun k i j a c d => (h2.1 k i j a c d).trans (h1.1 k i j a c d), h2.2.1.trans h1.2.1, fun i j => (h2.2.2 i j).trans (h1.2.2 i j)⟩
theorem FmS.trans {x y z : AH} (h1 : FmS x y) (h2 : FmS y z) : FmS x z := fun k i j a c d e => (h2 k i j a c d e).trans (h1 k i j a c d e)
theorem FmS.refl (x : AH) : FmS x x := fun _ _ _ _ _ _ _ => rfl
theorem FcS.refl (b w : Nat) (x : AH) : FcS b w x x := ⟨fun _ _ _ _ _ _ => rfl, rfl, fun _ _ => rfl⟩
theorem FcR.s {x y : AH} (h : FcR x y) (b w : Nat) : FcS b w x y := ⟨fun k i j a _ _ => h.1 k i j a, by rw [h.2], fun i j => by unfold gL; rw [h.2]⟩
theorem FmR.s {x y : AH} (h : FmR x y) : FmS x y := fun k i j a b c d => h.1 k i j (by omega) b
theorem FcS_u {b w k i j : Nat} {h : AH} {v : Int32} (hk : 3 ≤ k ∧ k ≤ 12 ∧ i = b ∨ 13 ≤ k ∧ k ≤ 16 ∧ i = w) : FcS b w h (uI h k i j v) := ⟨fun a c d x y z => gI_uI_n (fun q => by obtain ⟨rfl, rfl, rfl⟩ := q; omega), rfl, fun _ _ => rfl⟩
theorem FcS_aI {b w k i : Nat} {h : AH} {f : Nat → Int32} (hk : 3 ≤ k ∧ k ≤ 12 ∧ i = b ∨ 13 ≤ k ∧ k ≤ 16 ∧ i = w) : FcS b w h (aI h k i f) := ⟨fun a c d x y z => gI_aI_n (fun q => by obtain ⟨rfl, rfl⟩ := q; omega), rfl, fun _ _ => rfl⟩
theorem FcS_uL {b w k i j : Nat} {h : AH} {v : Int64} (hk : k ≠ 20) : FcS b w h (uL h k i j v) := ⟨fun _ _ _ _ _ _ => rfl, rfl, fun a c => by rw [gL_uL, if_neg (fun q => hk q.1.symm)]⟩
theorem FmS_u {k j : Nat} {h : AH} {v : Int32} (hk : k = 36 ∨ k = 38 ∨ k = 32 ∧ 24 ≤ j ∧ j ≤ 27) : FmS h (uI h k 0 j v) := fun a c d x y z q => gI_uI_n (fun r => by obtain ⟨rfl, rfl, rfl⟩ := r; omega)
theorem FmS_aI {k : Nat} {h : AH} {f : Nat → Int32} (hk : k = 36 ∨ k = 38) : FmS h (aI h k 0 f) := fun a c d x y z q => gI_aI_n (fun r => by obtain ⟨rfl, rfl⟩ := r; omega)
/-- where the class has failed: its place alone, and the other book and works -/
def FcB (b w : Nat) (h h' : AH) : Prop := FcS b w h h' ∧ gI h' 2 0 0 = gI h 2 0 0 ∧ gI h' 2 0 6 = gI h 2 0 6
theorem FcB.trans {b w : Nat} {x y z : AH} (h1 : FcB b w x y) (h2 : FcB b w y z) : FcB b w x z := ⟨h1.1.trans h2.1, h2.2.1.trans h1.2.1, h2.2.2.trans h1.2.2⟩
theorem FcB.refl (b w : Nat) (x : AH) : FcB b w x x := ⟨FcS.refl b w x, rfl, rfl⟩
theorem FcB_a (b w : Nat) (h : AH) : FcB b w h (adH h) := ⟨(FcR_a h).s b w, gI_uI_n (by omega), gI_uI_n (by omega)⟩
theorem FcB_u {b w k i j : Nat} {h : AH} {v : Int32} (hk : 3 ≤ k ∧ k ≤ 12 ∧ i = b ∨ 13 ≤ k ∧ k ≤ 16 ∧ i = w) : FcB b w h (uI h k i j v) := ⟨FcS_u hk, gI_uI_n (by omega), gI_uI_n (by omega)⟩
theorem FcB_aI {b w k i : Nat} {h : AH} {f : Nat → Int32} (hk : 3 ≤ k ∧ k ≤ 12 ∧ i = b ∨ 13 ≤ k ∧ k ≤ 16 ∧ i = w) : FcB b w h (aI h k i f) := ⟨FcS_aI hk, gI_aI_n (by omega), gI_aI_n (by omega)⟩
theorem Bad_b {b w n : Nat} {h h' : AH} (B : Bad h n) (F : FcB b w h h') : Bad h' n := by
  obtain ⟨a, c, g, d, e, f⟩ := B
  exact ⟨(F.1.1 17 0 0 (by omega) (by omega) (by omega)).trans a, c, g, d, e, F.2.1.trans f⟩
theorem TkC_s {b w : Nat} {h h' : AH} {T : Nat → Nat} {L n : Nat} (C : TkC h T L n) (F : FcS b w h h') : TkC h' T L n := by
  obtain ⟨a, c, d, e, f⟩ := C
  exact ⟨(F.1 17 0 0 (by omega) (by omega) (by omega)).trans a, c, fun i hi => TkO_of (d i hi) ⟨F.1 18 0 i (by omega) (by omega) (by omega), F.1 19 0 i (by omega) (by omega) (by omega), F.2.2 0 i⟩, e, f⟩
theorem RF_b {b w : Nat} {hc hc' hm : AH} {T : Nat → Nat} {L n : Nat} (R : RF hc hm T L n) (F : FcB b w hc hc') : RF hc' hm T L n := RF_of R (TkC_s R.1 F.1) F.2.1 F.2.2 rfl rfl rfl
theorem gB_s {b w x : Nat} {h h' : AH} (F : FcS b w h h') : gB h' x = gB h x := by unfold gB; rw [F.2.1]
theorem gB_r {x : Nat} {h h' : AH} (F : FcR h h') : gB h' x = gB h x := by unfold gB; rw [F.2]
theorem i32N (v : Int32) : ∃ a, v = nI a := ⟨v.toBitVec.toNat, by apply Int32.toBitVec_inj.mp; rw [nI_bv, BitVec.ofNat_toNat, BitVec.setWidth_eq]⟩
