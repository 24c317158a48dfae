/-! ===== pure: a name is kept ===== -/
def nmR (R : Nat → Nat) (k m : Nat) (f : Nat → Nat) : Nat → Nat := fun j => if j = 71 + k then m else if 81 + 8 * k ≤ j ∧ j < 81 + 8 * k + m then f (j - (81 + 8 * k)) else R j
theorem aI_uI (h : AH) (k i j : Nat) (v : Int32) (F : Nat → Int32) : aI (uI h k i j v) k i F = aI h k i F := by
  refine Prod.ext ?_ rfl
  funext a b c
  show (if a = k ∧ b = i then F c else if a = k ∧ b = i ∧ c = j then v else h.1 a b c) = (if a = k ∧ b = i then F c else h.1 a b c)
  by_cases q : a = k ∧ b = i
  · rw [if_pos q, if_pos q]
  · rw [if_neg q, if_neg q, if_neg (fun z => q ⟨z.1, z.2.1⟩)]
def kpF (g : AH) (k m : Nat) (f : Nat → Nat) (j : Nat) : Nat → Int32 := fun c => if 81 + 8 * k + j ≤ c ∧ c < 81 + 8 * k + m then nI (f (c - (81 + 8 * k))) else gI g 36 0 c
theorem m_keep2 {k m : Nat} {f : Nat → Nat} (hk : k < 10) (hm : m ≤ 8) : ∀ d j (g : AH), j + d = m → gI g 32 0 8 = nI m → (∀ q, q < m → gI g 34 0 q = nI (f q)) → ∀ fu, d < fu → jM_keepName_2 (nI k) fu (nI j) g = jM_keepName_36 (nI k) (aI g 36 0 (kpF g k m f j)) := by
  intro d
  induction d with
  | zero =>
    intro j g hj e8 el fu hf
    obtain ⟨q, rfl⟩ : ∃ q, fu = q + 1 := ⟨fu - 1, by omega⟩
    rw [jM_keepName_2, e8, if_neg (fun z => by have := (nI_ltI (by omega) (by omega)).1 z; omega), aI_id (fun c => by unfold kpF; rw [if_neg (by omega)])]
  | succ d ih =>
    intro j g hj e8 el fu hf
    obtain ⟨q, rfl⟩ : ∃ q, fu = q + 1 := ⟨fu - 1, by omega⟩
    rw [jM_keepName_2, e8, if_pos ((nI_ltI (by omega) (by omega)).2 (by omega)), inb_nI (by omega) (by decide), if_pos rfl, show (81 : Int32) = nI 81 from rfl, show (8 : Int32) = nI 8 from rfl, pk_mul, nI_add, nI_add, inb_nI (by omega) (by decide), if_pos rfl, jbn, nI_clamp (by omega), nI_clamp (by omega), el j (by omega), show nI j + 1 = nI (j + 1) from nI_add j 1, ih (j + 1) _ (by omega) ((gI_uI_n (by omega)).trans e8) (fun p hp => (gI_uI_n (by omega)).trans (el p hp)) q (by omega), aI_uI]
    refine congrArg _ (aI_ext (fun c => ?_))
    unfold kpF
    by_cases h1 : c = 81 + 8 * k + j
    · rw [if_neg (by omega), if_pos (by omega), h1, gI_uI_s, show 81 + 8 * k + j - (81 + 8 * k) = j by omega]
    · rw [gI_uI_n (by omega)]
      by_cases h2 : 81 + 8 * k + (j + 1) ≤ c ∧ c < 81 + 8 * k + m
      · rw [if_pos h2, if_pos (by omega)]
      · rw [if_neg h2, if_neg (by omega)]
def FmK (h h' : AH) : Prop := ∀ k i j, ¬ (k = 32 ∧ (4 ≤ j ∧ j ≤ 8)) → k ≠ 34 → k ≠ 36 → gI h' k i j = gI h k i j
theorem FmK.s {x y : AH} (h : FmK x y) : FmS x y := fun k i j a b c d => h k i j (by omega) b c
theorem p_keep {hc hm : AH} {T R : Nat → Nat} {L n i k : Nat} (hb : ∀ i, T i < 256) (hL : L ≤ 900) (G : RG hc hm T L n i) (h2 : kdT T L (tS T L i) = 2) (hi : i < n) (hk : k < 10) (MR : ∀ j, j < 161 → gI hm 36 0 j = nI (R j)) : ∃ hm', jM_keepName hm (nI k) = some hm' ∧ RG (adH hc) hm' T L n (i + 1) ∧ FmK hm hm' ∧ ∀ j, j < 161 → gI hm' 36 0 j = nI (nmR R k (enT T L (tS T L i) - tS T L i) (ltT T (tS T L i)) j) := by
  have G0 := G
  obtain ⟨C, e5, hi2, e0, P, M, e13⟩ := G0
  have k8 := (kd_2 h2).2.2
  have el := (M.2.2.2.1 h2)
  have G1 : RG hc (uI (aI hm 36 0 (kpF hm k (enT T L (tS T L i) - tS T L i) (ltT T (tS T L i)) 0)) 36 0 (71 + k) (nI (enT T L (tS T L i) - tS T L i))) T L n i := RG_fr G (fun _ _ _ _ => rfl) (fun _ => rfl) (fun k i j hk => (gI_uI_n (by omega)).trans (gI_aI_n (by omega)))
  obtain ⟨hm', q1, q2, q3⟩ := RG_next hb hL G1 hi
  refine ⟨hm', ?_, q3, fun a b c x y z => ?_, fun j hj => ?_⟩
  · rw [jM_keepName, show jM_keepName_2 (nI k) FU 0 hm = _ from m_keep2 (f := ltT T (tS T L i)) hk k8 (enT T L (tS T L i) - tS T L i) 0 hm (by omega) el.1 (fun q hq => el.2 q hq) FU (by unfold FU; omega), jM_keepName_36, show (71 : Int32) + nI k = nI (71 + k) from nI_add 71 k, inb_nI (by omega) (by decide), if_pos rfl, jbn, nI_clamp (by omega), gI_aI_n (by omega), el.1, q1, obind]
  · rw [q2.1 a b c (by omega) y, gI_uI_n (by omega), gI_aI_n (by omega)]
  · rw [q2.1 36 0 j (by omega) (by decide)]
    unfold nmR
    by_cases h1 : j = 71 + k
    · rw [if_pos h1, h1, gI_uI_s]
    · rw [if_neg h1, gI_uI_n (by omega), gI_aI_s]
      unfold kpF
      by_cases h3 : 81 + 8 * k ≤ j ∧ j < 81 + 8 * k + (enT T L (tS T L i) - tS T L i)
      · rw [if_pos h3, if_pos (by omega)]
      · rw [if_neg h3, if_neg (by omega)]
        exact MR j hj
section
variable {R R' f : Nat → Nat} {k m : Nat}
theorem nmR_k : nmR R k m f (71 + k) = m := if_pos rfl
theorem nmR_o {j : Nat} (h : j ≠ k) (hj : j < 10) (hk : k < 10) : nmR R k m f (71 + j) = R (71 + j) := by
  unfold nmR
  rw [if_neg (by omega), if_neg (by omega)]
theorem nmR_lo {j : Nat} (h : j < 71) : nmR R k m f j = R j := by
  unfold nmR
  rw [if_neg (by omega), if_neg (by omega)]
theorem nmR_F {j : Nat} (hk : k < 10) (hj : j < m) (hm : m ≤ 8) : nmF (nmR R k m f) k j = f j := by
  unfold nmF nmR
  rw [if_neg (by omega), if_pos (by omega), show 81 + 8 * k + j - (81 + 8 * k) = j by omega]
theorem nmR_Fo {j q : Nat} (h : q ≠ k) (hk : k < 10) (hj : j < 8) (hm : m ≤ 8) : nmF (nmR R k m f) q j = nmF R q j := by
  unfold nmF nmR
  rw [if_neg (by omega), if_neg (by omega)]
theorem NmI_add (N : NmI R) (hk : k < 10) (hnk : ¬ nmH R k) (hm : 1 ≤ m ∧ m ≤ 8) (hf : ∀ j, j < m → 97 ≤ f j ∧ f j ≤ 122) (nw : ∀ j, j < 10 → nmE R m f j = false) (e : ∀ j, 71 ≤ j → R' j = nmR R k m f j) (h4 : R' 4 ≤ 5) (h5 : R' 5 ≤ 5) (hH : ∀ j, j < 10 → (nmH R' j ↔ nmH R j ∨ j = k)) : NmI R' := by
  obtain ⟨n1, n2, n3, n4, n5, n6⟩ := N
  have eF : ∀ q j, nmF R' q j = nmF (nmR R k m f) q j := fun q j => e _ (by omega)
  have el : ∀ q, R' (71 + q) = nmR R k m f (71 + q) := fun q => e _ (by omega)
  have nw2 : ∀ j, j < 10 → nmH R j → ¬ (R (71 + j) = m ∧ ∀ i, i < m → nmF R j i = f i) := fun j hj hh z => by
    have h1 := nw j hj
    have h2 : nmE R m f j = true := decide_eq_true ⟨(n3 j hj hh).1, z.1, fun i hi => z.2 i hi⟩
    rw [h2] at h1
    cases h1
  refine ⟨h4, h5, fun q hq hh => ?_, fun q hq hh => ?_, fun c d hc hd z => ?_, fun j h1 h2 => ?_⟩
  · by_cases hqk : q = k
    · subst hqk
      rw [el, nmR_k]
      exact ⟨hm.1, hm.2, fun j hj => by rw [eF, nmR_F hk hj hm.2]; exact hf j hj⟩
    · have h := n3 q hq (((hH q hq).1 hh).resolve_right hqk)
      rw [el, nmR_o hqk hq hk]
      exact ⟨h.1, h.2.1, fun j hj => by rw [eF, nmR_Fo hqk hk (by omega) hm.2]; exact h.2.2 j hj⟩
  · have h3 : q ≠ k := fun z => hh ((hH q hq).2 (Or.inr z))
    rw [el, nmR_o h3 hq hk]
    exact n4 q hq (fun z => hh ((hH q hq).2 (Or.inl z)))
  · have c1 := (hH c (by omega)).1 (Or.inl hc)
    have d1 := (hH (5 + d) (by omega)).1 (Or.inr ⟨by omega, by omega⟩)
    rw [el, el] at z
    by_cases ck : c = k
    · have dk : 5 + d ≠ k := by omega
      have d2 := d1.resolve_right dk
      subst ck
      rw [nmR_k, nmR_o dk (by omega) hk] at z
      have h8 := (n3 (5 + d) (by omega) d2).2.1
      refine nw2 (5 + d) (by omega) d2 ⟨z.1.symm, fun i hi => ?_⟩
      have := z.2 i hi
      rw [eF, eF, nmR_F hk hi hm.2, nmR_Fo dk hk (by omega) hm.2] at this
      exact this.symm
    · have c2 := c1.resolve_right ck
      have h8 := (n3 c (by omega) c2).2.1
      by_cases dk : 5 + d = k
      · rw [dk, nmR_k, nmR_o ck (by omega) hk] at z
        refine nw2 c (by omega) c2 ⟨z.1, fun i hi => ?_⟩
        have := z.2 i (by omega)
        rw [eF, eF, nmR_F hk hi hm.2, nmR_Fo ck hk (by omega) hm.2] at this
        exact this
      · have d2 := d1.resolve_right dk
        rw [nmR_o ck (by omega) hk, nmR_o dk (by omega) hk] at z
        have hcR : c < R 4 := by
          rcases c2 with q | q
          · exact q
          · omega
        have hdR : d < R 5 := by
          rcases d2 with q | q
          · omega
          · omega
        refine n5 c d hcR hdR ⟨z.1, fun i hi => ?_⟩
        have := z.2 i hi
        rw [eF, eF, nmR_Fo ck hk (by omega) hm.2, nmR_Fo dk hk (by omega) hm.2] at this
        exact this
  · rw [e j h1]
    unfold nmR
    split
    · omega
    · split
      · rename_i q
        have := hf (j - (81 + 8 * k)) (by omega)
        omega
      · exact n6 j h1 h2
/-- the name at q as the class packs it, in the new r -/
theorem nm_pk {q : Nat} (N : NmI R) (hk : k < 10) (hm : m ≤ 8) (e : ∀ j, 71 ≤ j → R' j = nmR R k m f j) (hq : q < 10) (hh : nmH R q) (hqk : q ≠ k) : paF (nmF R' q) (R' (71 + q)) = paF (nmF R q) (R (71 + q)) := by
  have h8 := (N.2.2.1 q hq hh).2.1
  rw [e _ (by omega), nmR_o hqk hq hk]
  refine paF_ext _ (fun j hj => ?_)
  show R' _ = _
  rw [e _ (by omega)]
  exact nmR_Fo hqk hk (by omega) hm
theorem nm_pk2 (hk : k < 10) (hm : m ≤ 8) (e : ∀ j, 71 ≤ j → R' j = nmR R k m f j) : paF (nmF R' k) (R' (71 + k)) = paF f m := by
  rw [e _ (by omega), nmR_k]
  refine paF_ext _ (fun j hj => ?_)
  show R' _ = _
  rw [e _ (by omega)]
  exact nmR_F hk hj hm
end
