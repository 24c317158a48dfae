theorem c_cut {T : Nat → Nat} {L : Nat} (hb : ∀ i, T i < 256) (hL : L ≤ 900) {h : AH} (hT : ∀ i, i < L → gI h 1 0 i = sbt (T i)) : ∃ h' n, jT_cut h (nI L) = some h' ∧ TkC h' T L n ∧ FrT h h' := by
  have fin : ∀ (h : AH) m, TkP h T L m → tS T L m = L → m ≤ L → ∃ h' n, (jT_put h 1 (nI L) 0).bind (fun h1 => some h1) = some h' ∧ TkC h' T L n ∧ FrT h h' := by
    intro h m P e hm
    refine ⟨putH h m 1 (nI L) 0, m, ?_, ⟨(put_s h m _ _ _).2.2.2, hm, fun i hi => ?_, fun i hi => (P.2 i hi).2, e⟩, FrT_put h m _ _ _⟩
    · rw [c_put P.1 (by omega), obind]
    · by_cases hi2 : i = m
      · rw [hi2]
        have s := put_s h m 1 (nI L) 0
        refine ⟨s.1.trans ?_, s.2.1.trans ?_, fun z => ?_, fun z => ?_⟩
        · rw [e, kd_L]; rfl
        · rw [e]
        · rw [e, kd_L] at z; omega
        · rw [e, kd_L] at z; omega
      · exact TkO_of (P.2 i (by omega)).1 (put_n h m _ _ _ hi2)
  have loop : ∀ d p v m (h : AH), L - p ≤ d → p ≤ L → v ≤ p → m ≤ v → (∀ i, i < L → gI h 1 0 i = sbt (T i)) → TkP h T L m → skp T L p = tS T L m → ∀ fu, d < fu → ∃ h' n, jT_cut_10 (nI L) fu (nI p) (nI v) h = some h' ∧ TkC h' T L n ∧ FrT h h' := by
    intro d
    induction d with
    | zero =>
      intro p v m h hd hp hv hm hT P hs fu hf
      obtain ⟨f, rfl⟩ : ∃ f, fu = f + 1 := ⟨fu - 1, by omega⟩
      have ep : p = L := by omega
      subst ep
      rw [skp_L] at hs
      obtain ⟨h', n, q1, q2⟩ := fin h m P hs.symm (by omega)
      refine ⟨h', n, ?_, q2⟩
      rw [jT_cut_10]
      by_cases hv2 : v < p
      · rw [if_pos ((nI_ltI (by omega) (by omega)).2 hv2), if_neg (by rw [nI_ltI (by omega) (by omega)]; omega)]; exact q1
      · rw [if_neg (fun z => hv2 ((nI_ltI (by omega) (by omega)).1 z))]; exact q1
    | succ d ih =>
      intro p v m h hd hp hv hm hT P hs fu hf
      obtain ⟨f, rfl⟩ : ∃ f, fu = f + 1 := ⟨fu - 1, by omega⟩
      by_cases hpL : p = L
      · exact ih p v m h (by omega) hp hv hm hT P hs (f + 1) (by omega)
      have hp2 : p < L := by omega
      have he := enT_b (T := T) hp2
      rw [jT_cut_10, if_pos ((nI_ltI (by omega) (by omega)).2 (show v < L by omega)), if_pos ((nI_ltI (by omega) (by omega)).2 hp2), c_endOf hT hb hL hp2, obind, inb_nI (by omega) (by omega), if_pos rfl, nI_clamp (by omega), hT p hp2, c_kindOf hb hL hp2, obind, if_pos rfl, show nI v + 1 = nI (v + 1) from nI_add v 1]
      by_cases h32 : T p = 32
      · rw [if_pos (show sbt (T p) = 32 from (sbt_eq (hb p) (by decide)).2 h32), en_32 h32]
        exact ih (p + 1) (v + 1) m h (by omega) (by omega) (by omega) (by omega) hT P (by rw [← skp_32 hp2 h32]; exact hs) f (by omega)
      · rw [if_neg (show ¬ sbt (T p) = 32 from fun z => h32 ((sbt_eq (hb p) (by decide)).1 z))]
        rw [skp_n h32] at hs
        have go : ∀ u : Int64, (kdT T L p = 2 → u = lqI (paT T p (enT T L p - p))) → (kdT T L p = 3 → u = lqI (nuT T p (enT T L p - p))) → ∃ h' n, jT_cut_76 (nI L) (jT_cut_10 (nI L) f) (nI v) (nI (enT T L p)) u (nI p) (nI (kdT T L p)) h = some h' ∧ TkC h' T L n ∧ FrT h h' := by
          intro u u2 u3
          have F := FrT_put h m (nI (kdT T L p)) (nI p) u
          have s := put_s h m (nI (kdT T L p)) (nI p) u
          obtain ⟨h', n, q1, q2, q3⟩ := ih (enT T L p) (v + 1) (m + 1) (putH h m (nI (kdT T L p)) (nI p) u) (by omega) he.2 (by omega) (by omega) (fun i hi => (F.1 1 0 i (by decide) (by decide) (by decide)).trans (hT i hi)) ⟨s.2.2.2, fun i hi => by
            by_cases hi2 : i = m
            · rw [hi2]
              unfold TkO
              rw [← hs]
              exact ⟨⟨s.1, s.2.1, fun z => s.2.2.1.trans (u2 z), fun z => s.2.2.1.trans (u3 z)⟩, hp2⟩
            · exact ⟨TkO_of (P.2 i (by omega)).1 (put_n h m _ _ _ hi2), (P.2 i (by omega)).2⟩⟩ (by rw [tS, ← hs]) f (by omega)
          refine ⟨h', n, ?_, q2, F.trans q3⟩
          rw [jT_cut_76, c_put P.1 (by omega), obind, show nI v + 1 = nI (v + 1) from nI_add v 1]
          exact q1
        by_cases h3 : kdT T L p = 3
        · have k3 := kd_3 h3
          rw [if_pos (show nI (kdT T L p) = 3 by rw [h3]; rfl), c_numberOf hT hL (by omega) he.2 (en_dgt k3.2.1), obind]
          exact go _ (fun z => by omega) (fun _ => rfl)
        · have hk5 : kdT T L p < 6 := by
            unfold kdT
            repeat' split
            all_goals decide
          rw [if_neg (show ¬ nI (kdT T L p) = 3 from fun z => h3 ((nI_eq (by omega) (by decide)).1 (z : nI (kdT T L p) = nI 3)))]
          by_cases h2 : kdT T L p = 2
          · have k2 := kd_2 h2
            rw [c_lettersOf hT hL (by omega) he.2 (en_sml k2.2.1), obind]
            exact go _ (fun _ => rfl) (fun z => by omega)
          · obtain ⟨u, hu⟩ := c_lettersOf_t (h := h) hL (show p ≤ enT T L p by omega) he.2
            rw [hu, obind]
            exact go u (fun z => absurd z h2) (fun z => absurd z h3)
  unfold jT_cut
  rw [jbn]
  have e0 : FrT h (uI h 17 0 0 0) := ⟨fun k i j x _ _ => gI_uI_n (fun z => x z.1), fun _ _ _ _ => rfl, rfl⟩
  obtain ⟨h', n, q1, q2, q3⟩ := loop L 0 0 0 (uI h 17 0 0 0) (by omega) (by omega) (Nat.le_refl _) (Nat.le_refl _) (fun i hi => (e0.1 1 0 i (by decide) (by decide) (by decide)).trans (hT i hi)) ⟨gI_uI_s _ _ _ _ _, fun i hi => absurd hi (Nat.not_lt_zero _)⟩ rfl FU (by unfold FU; omega)
  exact ⟨h', n, q1, q2, e0.trans q3⟩
