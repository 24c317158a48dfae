/-! ===== pure: book ===== -/
theorem c_fill12 {h : AH} {b : Nat} : jJ_fill h b (-2) = some (aI h 12 b (fun j => if j < 24 then -nI 2 else gI h 12 b j)) := by
  unfold jJ_fill
  have key := up_ind (P := fun fu k => jJ_fill_5 b (-2) fu (nI k) 24 (aI h 12 b (fun j => if j < k then -nI 2 else gI h 12 b j)) = some (aI h 12 b (fun j => if j < 24 then -nI 2 else gI h 12 b j))) 24 (fun fu => ?_) (fun fu k hk ih => ?_) 24 0 FU rfl (by decide)
  · rw [aI_id (f := fun j => if j < 0 then -nI 2 else gI h 12 b j) (fun c => by rw [if_neg (by omega)])] at key
    exact key
  · rw [jJ_fill_5]
    simp (disch := omega) only [litI, nI_ltI, if_neg]
  · rw [jJ_fill_5]
    simp (disch := omega) only [litI, nI_ltI, if_pos, inb_nI, nI_clamp, if_true, jbn, nI_add]
    rw [uI_aI]
    rw [aI_ext (g := fun c => if c < k + 1 then -nI 2 else gI h 12 b c) (fun c => ?_)]
    · exact ih
    · by_cases hc : c = k
      · rw [if_pos hc, if_pos (by omega)]
      · rw [if_neg hc]
        by_cases hc2 : c < k
        · rw [if_pos hc2, if_pos (by omega)]
        · rw [if_neg hc2, if_neg (by omega)]
theorem mmin_n {a : Nat} (h : a ≤ 900) : mmin (nI a) 900 = nI a := by
  unfold mmin
  by_cases h9 : a = 900
  · rw [h9]; decide
  · rw [if_neg (show ¬ (900 : Int32) < nI a from fun z => by have := (nI_ltI (show 900 < 2 ^ 31 by decide) (by omega)).1 (z : nI 900 < nI a); omega)]
def zrK (h : AH) (k d : Nat) : Nat → Int32 := fun j => if j < d then nI 0 else gI h k 0 j
theorem m_z36 {h : AH} (v : Int32) : jM_book_39 v FU 0 h = jM_book_61 v FU 0 (aI h 36 0 (zrK h 36 161)) := by
  have key := up_ind (P := fun fu k => jM_book_39 v fu (nI k) (aI h 36 0 (zrK h 36 k)) = jM_book_61 v FU 0 (aI h 36 0 (zrK h 36 161))) 161 (fun fu => ?_) (fun fu k hk ih => ?_) 161 0 FU rfl (by decide)
  · rw [aI_id (f := zrK h 36 0) (fun c => by unfold zrK; rw [if_neg (by omega)])] at key
    exact key
  · rw [jM_book_39, if_neg (by decide)]
  · rw [jM_book_39, if_pos (show nI k < 161 from (nI_ltI (by omega) (show 161 < 2 ^ 31 by decide)).2 hk), inb_nI (by omega) (by decide), if_pos rfl, jbn, nI_clamp (by omega), show nI k + 1 = nI (k + 1) from nI_add k 1, uI_aI]
    rw [aI_ext (g := zrK h 36 (k + 1)) (fun c => ?_)]
    · exact ih
    · unfold zrK
      by_cases hc : c = k
      · rw [if_pos hc, if_pos (by omega)]; rfl
      · rw [if_neg hc]
        by_cases hc2 : c < k
        · rw [if_pos hc2, if_pos (by omega)]
        · rw [if_neg hc2, if_neg (by omega)]
theorem m_z38 {h : AH} (v : Int32) : jM_book_61 v FU 0 h = jM_book_81 v (aI h 38 0 (zrK h 38 340)) := by
  have key := up_ind (P := fun fu k => jM_book_61 v fu (nI k) (aI h 38 0 (zrK h 38 k)) = jM_book_81 v (aI h 38 0 (zrK h 38 340))) 340 (fun fu => ?_) (fun fu k hk ih => ?_) 340 0 FU rfl (by decide)
  · rw [aI_id (f := zrK h 38 0) (fun c => by unfold zrK; rw [if_neg (by omega)])] at key
    exact key
  · rw [jM_book_61, if_neg (by decide)]
  · rw [jM_book_61, if_pos (show nI k < 340 from (nI_ltI (by omega) (show 340 < 2 ^ 31 by decide)).2 hk), inb_nI (by omega) (by decide), if_pos rfl, jbn, nI_clamp (by omega), show nI k + 1 = nI (k + 1) from nI_add k 1, uI_aI]
    rw [aI_ext (g := zrK h 38 (k + 1)) (fun c => ?_)]
    · exact ih
    · unfold zrK
      by_cases hc : c = k
      · rw [if_pos hc, if_pos (by omega)]; rfl
      · rw [if_neg hc]
        by_cases hc2 : c < k
        · rw [if_pos hc2, if_pos (by omega)]
        · rw [if_neg hc2, if_neg (by omega)]
def clH (h : AH) (b : Nat) : AH := uI (uI (uI (uI (uI (uI (uI (uI h 3 b 0 0) 3 b 1 0) 3 b 2 0) 3 b 3 0) 3 b 4 0) 3 b 5 0) 3 b 6 0) 3 b 7 0
theorem clH_n {h : AH} {b k i j : Nat} (hk : k ≠ 3) : gI (clH h b) k i j = gI h k i j := by
  unfold clH
  rw [gI_uI_n (by omega), gI_uI_n (by omega), gI_uI_n (by omega), gI_uI_n (by omega), gI_uI_n (by omega), gI_uI_n (by omega), gI_uI_n (by omega), gI_uI_n (by omega)]
theorem clH_s {h : AH} {b j : Nat} (hj : j < 8) : gI (clH h b) 3 b j = nI 0 := by
  unfold clH
  by_cases h7 : j = 7
  · rw [h7, gI_uI_s]; rfl
  rw [gI_uI_n (by omega)]
  by_cases h6 : j = 6
  · rw [h6, gI_uI_s]; rfl
  rw [gI_uI_n (by omega)]
  by_cases h5 : j = 5
  · rw [h5, gI_uI_s]; rfl
  rw [gI_uI_n (by omega)]
  by_cases h4 : j = 4
  · rw [h4, gI_uI_s]; rfl
  rw [gI_uI_n (by omega)]
  by_cases h3 : j = 3
  · rw [h3, gI_uI_s]; rfl
  rw [gI_uI_n (by omega)]
  by_cases h2 : j = 2
  · rw [h2, gI_uI_s]; rfl
  rw [gI_uI_n (by omega)]
  by_cases h1 : j = 1
  · rw [h1, gI_uI_s]; rfl
  rw [gI_uI_n (by omega)]
  by_cases h0 : j = 0
  · rw [h0, gI_uI_s]; rfl
  omega
theorem c_clear (h : AH) (b : Nat) : jB_clear h b = some (aI (clH h b) 12 b (fun j => if j < 24 then -nI 2 else gI (clH h b) 12 b j)) := by
  rw [jB_clear, jbn, jbn, jbn, jbn, jbn, jbn, jbn, jbn, show jJ_fill (uI (uI (uI (uI (uI (uI (uI (uI h 3 b 0 0) 3 b 1 0) 3 b 2 0) 3 b 3 0) 3 b 4 0) 3 b 5 0) 3 b 6 0) 3 b 7 0) b (-2) = _ from c_fill12 (h := clH h b), obind]
theorem SBI_0 : SBI (fun _ => 0) (fun _ => 0) := by
  refine ⟨Or.inl ⟨rfl, rfl, rfl, rfl, rfl, rfl, rfl⟩, ⟨Nat.zero_le _, Nat.zero_le _, Nat.zero_le _, rfl⟩, fun c hc => absurd hc (Nat.not_lt_zero _), fun c hc => absurd hc (Nat.not_lt_zero _), fun c _ => ⟨Nat.le_refl _, fun _ => rfl⟩, fun c hc => absurd hc (Nat.not_lt_zero _), fun _ _ _ _ _ => rfl, ⟨Nat.zero_le _, Nat.zero_le _, fun k _ hk => ?_, fun _ _ _ => rfl, fun c d hc => absurd hc (Nat.not_lt_zero _), fun _ _ _ => show 0 < 2 ^ 31 by decide⟩⟩
  have hk : k < 0 ∨ 5 ≤ k ∧ k < 5 + 0 := hk
  omega
/-- both before the first line -/
theorem book_start {hc hm : AH} {T : Nat → Nat} {L : Nat} (hb : ∀ i, T i < 256) (hL : L ≤ 900) (hT : ∀ i, i < L → gI hc 1 0 i = sbt (T i)) (hT2 : ∀ i, i < L → gI hm 33 0 i = nI (T i)) (h13 : gI hm 32 0 13 = nI 0) (h9 : gI hm 32 0 9 = nI 0) : ∃ h5 m5 n, jR_readBook hc (nI L) = jR_readBook_46 FU (nI L) 1 0 h5 ∧ jM_book_39 (nI L) FU 0 hm = ((jM_readLine m5).bind fun h4 => jM_book_99 FU h4) ∧ LnS h5 m5 T L n 0 (fun _ => 0) (fun _ => 0) ∧ (∀ k i j, ¬ (k = 2 ∧ i = 0 ∧ (j = 0 ∨ j = 5)) → ¬ (3 ≤ k ∧ k ≤ 12 ∧ i = (gB hc 2).toNat) → ¬ (13 ≤ k ∧ k ≤ 16 ∧ i = (gB hc 3).toNat) → ¬ (17 ≤ k ∧ k ≤ 19) → gI h5 k i j = gI hc k i j) ∧ h5.2.2 = hc.2.2 ∧ (∀ k i j, ¬ (k = 32 ∧ (3 ≤ j ∧ j ≤ 8)) → k ≠ 34 → k ≠ 36 → k ≠ 38 → gI m5 k i j = gI hm k i j) := by
  obtain ⟨h1, n, c1, K1, F1⟩ := c_cut hb hL hT
  have eb : ∀ x, gB h1 x = gB hc x := fun x => by unfold gB; rw [F1.2.2]
  generalize hB : (gB hc 2).toNat = b
  generalize hW : (gB hc 3).toNat = w
  have e2 := c_clear h1 b
  generalize hH2 : aI (clH h1 b) 12 b (fun j => if j < 24 then -nI 2 else gI (clH h1 b) 12 b j) = h2 at e2
  have a2 : ∀ k i j, k ≠ 3 → ¬ (k = 12 ∧ i = b) → gI h2 k i j = gI h1 k i j := fun k i j q1 q2 => by rw [← hH2, gI_aI_n q2, clH_n q1]
  have a3 : ∀ k i j, i ≠ b → gI h2 k i j = gI h1 k i j := fun k i j q1 => by
    rw [← hH2, gI_aI_n (by omega)]
    unfold clH
    rw [gI_uI_n (by omega), gI_uI_n (by omega), gI_uI_n (by omega), gI_uI_n (by omega), gI_uI_n (by omega), gI_uI_n (by omega), gI_uI_n (by omega), gI_uI_n (by omega)]
  have s2 : ∀ j, j < 8 → gI h2 3 b j = nI 0 := fun j hj => by rw [← hH2, gI_aI_n (by omega), clH_s hj]
  have s12 : ∀ j, j < 24 → gI h2 12 b j = cv 0 := fun j hj => by rw [← hH2, gI_aI_s, if_pos hj]; rfl
  have L2 : h2.2 = h1.2 := by rw [← hH2]; rfl
  have eb2 : ∀ x, gB h2 x = gB hc x := fun x => by unfold gB; rw [L2]; exact eb x
  have e3 : jW_clear h2 w = some (uI (uI h2 13 w 0 0) 13 w 1 0) := by rw [jW_clear, jbn, jbn]
  have eC : jR_readBook hc (nI L) = jR_readBook_46 FU (nI L) 1 0 (uI (uI (uI (uI h2 13 w 0 0) 13 w 1 0) 2 0 0 0) 2 0 5 0) := by
    rw [jR_readBook, mmin_n hL, c1, obind, eb, hB, e2, obind, eb2, hW, e3, obind, jbn, jbn]
  have f5 : ∀ k i j, ¬ (k = 2 ∧ i = 0 ∧ (j = 0 ∨ j = 5)) → ¬ (k = 13 ∧ i = w ∧ j ≤ 1) → gI (uI (uI (uI (uI h2 13 w 0 0) 13 w 1 0) 2 0 0 0) 2 0 5 0) k i j = gI h2 k i j := fun k i j q1 q2 => by
    rw [gI_uI_n (by omega), gI_uI_n (by omega), gI_uI_n (by omega), gI_uI_n (by omega)]
  have w0 : gI (uI (uI (uI (uI h2 13 w 0 0) 13 w 1 0) 2 0 0 0) 2 0 5 0) 13 w 0 = nI 0 := by
    rw [gI_uI_n (by omega), gI_uI_n (by omega), gI_uI_n (by omega), gI_uI_s]; rfl
  have w1 : gI (uI (uI (uI (uI h2 13 w 0 0) 13 w 1 0) 2 0 0 0) 2 0 5 0) 13 w 1 = nI 0 := by
    rw [gI_uI_n (by omega), gI_uI_n (by omega), gI_uI_s]; rfl
  have t0 : gI (uI (uI (uI (uI h2 13 w 0 0) 13 w 1 0) 2 0 0 0) 2 0 5 0) 2 0 0 = nI 0 := by
    rw [gI_uI_n (by omega), gI_uI_s]; rfl
  have t5 : gI (uI (uI (uI (uI h2 13 w 0 0) 13 w 1 0) 2 0 0 0) 2 0 5 0) 2 0 5 = nI 0 := by
    rw [gI_uI_s]; rfl
  have L5 : (uI (uI (uI (uI h2 13 w 0 0) 13 w 1 0) 2 0 0 0) 2 0 5 0).2 = h1.2 := L2
  generalize uI (uI (uI (uI h2 13 w 0 0) 13 w 1 0) 2 0 0 0) 2 0 5 0 = h5 at eC f5 w0 w1 t0 t5 L5
  have eb5 : ∀ x, gB h5 x = gB hc x := fun x => by unfold gB; rw [L5]; exact eb x
  have K5 : TkC h5 T L n := by
    obtain ⟨a, bb, c, d, e⟩ := K1
    exact ⟨((f5 17 0 0 (by omega) (by omega)).trans (a2 17 0 0 (by omega) (by omega))).trans a, bb, fun i hi => TkO_of (c i hi) ⟨(f5 18 0 i (by omega) (by omega)).trans (a2 18 0 i (by omega) (by omega)), (f5 19 0 i (by omega) (by omega)).trans (a2 19 0 i (by omega) (by omega)), by unfold gL; rw [L5]⟩, d, e⟩
  -- the model
  have eM1 := m_z36 (h := hm) (nI L)
  generalize hA1 : aI hm 36 0 (zrK hm 36 161) = ma at eM1
  have ma_n : ∀ k i j, k ≠ 36 → gI ma k i j = gI hm k i j := fun k i j q => by rw [← hA1, gI_aI_n (by omega)]
  have ma_s : ∀ j, j < 161 → gI ma 36 0 j = nI 0 := fun j hj => by rw [← hA1, gI_aI_s]; unfold zrK; rw [if_pos hj]
  have eM2 := m_z38 (h := ma) (nI L)
  generalize hA2 : aI ma 38 0 (zrK ma 38 340) = mb at eM2
  have mb_n : ∀ k i j, k ≠ 38 → gI mb k i j = gI ma k i j := fun k i j q => by rw [← hA2, gI_aI_n (by omega)]
  have mb_s : ∀ j, j < 340 → gI mb 38 0 j = nI 0 := fun j hj => by rw [← hA2, gI_aI_s]; unfold zrK; rw [if_pos hj]
  have mb_m : ∀ k i j, k ≠ 36 → k ≠ 38 → gI mb k i j = gI hm k i j := fun k i j q1 q2 => (mb_n k i j q2).trans (ma_n k i j q1)
  have P : MTp (uI (uI mb 32 0 3 (nI L)) 32 0 5 0) T L := ⟨(gI_uI_n (by omega)).trans (gI_uI_s _ _ _ _ _), fun i hi => ((gI_uI_n (by omega)).trans (gI_uI_n (by omega))).trans ((mb_m 33 0 i (by decide) (by decide)).trans (hT2 i hi)), ((gI_uI_n (by omega)).trans (gI_uI_n (by omega))).trans ((mb_m 32 0 9 (by decide) (by decide)).trans h9)⟩
  obtain ⟨m5, q1, q2, q3⟩ := m_next (e := 0) hb hL (Nat.zero_le _) P (gI_uI_s _ _ _ _ _)
  have fm : ∀ k i j, ¬ (k = 32 ∧ (3 ≤ j ∧ j ≤ 8)) → k ≠ 34 → gI m5 k i j = gI mb k i j := fun k i j r1 r2 => by
    rw [q2.1 k i j (by omega) r2, gI_uI_n (by omega), gI_uI_n (by omega)]
  have eM : jM_book_39 (nI L) FU 0 hm = ((jM_readLine m5).bind fun h4 => jM_book_99 FU h4) := by
    rw [eM1, eM2, jM_book_81, jbn, jbn, q1, obind]
  refine ⟨h5, m5, n, eC, eM, ⟨⟨K5, t5, Nat.zero_le _, t0, MTp_x P q2, q3, ?_⟩, ?_, ⟨fun j hj => ?_, fun j hj => ?_⟩, SBI_0⟩, fun k i j r1 r2 r3 r4 => ?_, by rw [L5]; exact F1.2.2, fun k i j r1 r2 r3 r4 => (fm k i j r1 r2).trans (mb_m k i j r3 r4)⟩
  · exact (fm 32 0 13 (by omega) (by decide)).trans ((mb_m 32 0 13 (by decide) (by decide)).trans h13)
  · rw [eb5, eb5, hB, hW]
    have g3 : ∀ j, j < 8 → gI h5 3 b j = nI 0 := fun j hj => (f5 3 b j (by omega) (by omega)).trans (s2 j hj)
    have g12 : ∀ j, j < 24 → gI h5 12 b j = cv 0 := fun j hj => (f5 12 b j (by omega) (by omega)).trans (s12 j hj)
    refine ⟨⟨⟨g3 0 (by omega), g3 1 (by omega), g3 2 (by omega), g3 3 (by omega), g3 4 (by omega), g3 5 (by omega), g3 6 (by omega)⟩, fun c hc => absurd hc (Nat.not_lt_zero _), fun c hc => absurd hc (Nat.not_lt_zero _), fun c hc => absurd (show c < 0 * 0 from hc) (by omega)⟩, g12, g3 7 (by omega), ⟨g3 4 (by omega), g3 5 (by omega), fun c hc => absurd hc (Nat.not_lt_zero _), fun c hc => absurd hc (Nat.not_lt_zero _)⟩, ⟨w0, w1, fun c hc => absurd hc (Nat.not_lt_zero _)⟩⟩
  · exact (fm 36 0 j (by omega) (by decide)).trans ((mb_n 36 0 j (by decide)).trans (ma_s j hj))
  · exact (fm 38 0 j (by omega) (by decide)).trans (mb_s j hj)
  · have e1 : gI h1 k i j = gI hc k i j := F1.1 k i j (by omega) (by omega) (by omega)
    rw [f5 k i j r1 (by omega), ← e1]
    by_cases hib : i = b
    · exact a2 k i j (by omega) (by omega)
    · exact a3 k i j hib
theorem CA_keep {hc hf : AH} {R S U K T : Nat → Nat} {tp un im nx fa f : Nat} (A : CA hc R S U K T tp un im nx fa) (e : ∀ k i j, ¬ (k = 2 ∧ i = 0 ∧ (j = 0 ∨ j = 1 ∨ j = 5 ∨ j = 6)) → ¬ (3 ≤ k ∧ k ≤ 12 ∧ i = (gB hc 2).toNat) → ¬ (13 ≤ k ∧ k ≤ 16 ∧ i = (gB hc 3).toNat) → ¬ (17 ≤ k ∧ k ≤ 19) → ¬ (k = 0 ∧ i = 0 ∧ j = 1) → gI hf k i j = gI hc k i j) (e2 : hf.2.2 = hc.2.2) (e0 : gI hf 0 0 1 = nI 0) (ef : gI hf 2 0 0 = nI f) : CA hf R S U K T 0 un im nx f := by
  obtain ⟨a1, a2, a3, a4, a5, a6, a7⟩ := A
  have eb : ∀ b, gB hf b = gB hc b := fun b => by unfold gB; rw [e2]
  have n0 : (gB hc 0).toNat ≠ (gB hc 2).toNat := by rw [a3.1]; cases gB hc 0 <;> decide
  have n1 : (gB hc 1).toNat ≠ (gB hc 3).toNat := by rw [a3.2]; cases gB hc 1 <;> decide
  have l3 := gBle hc 3
  have ew : ∀ w S, w ≠ (gB hc 3).toNat → WkC hc w S → WkC hf w S := fun w S hw W => WkC_of W (fun k j hk => e k w j (by omega) (by omega) (by omega) (by omega) (by omega))
  refine ⟨?_, ?_, ?_, ⟨e0, fun i hi => absurd hi (Nat.not_lt_zero _)⟩, ⟨?_, ?_, fun i hi => ew _ _ (by omega) (a5.2.2 i hi)⟩, ⟨?_, fun i hi => ew _ _ (by omega) (a6.2 i hi)⟩, ef⟩
  · rw [eb]; exact BkC_of a1 (fun k j hk => e k _ j (by omega) (by omega) (by omega) (by omega) (by omega))
  · rw [eb]; exact ew _ _ n1 a2
  · rw [eb, eb, eb, eb]; exact a3
  · rw [e 21 0 0 (by omega) (by omega) (by omega) (by omega) (by omega)]; exact a5.1
  · rw [e 21 0 1 (by omega) (by omega) (by omega) (by omega) (by omega)]; exact a5.2.1
  · rw [e 0 0 7 (by omega) (by omega) (by omega) (by omega) (by omega)]; exact a6.1
def tkH (h : AH) : AH := uI (uI (uI (uI (uI (uB (uB (uB (uB h 0 (gB h 2)) 1 (gB h 3)) 2 (gB h 0)) 3 (gB h 1)) 21 0 0 0) 0 0 7 0) 28 0 1 0) 28 0 3 (-1)) 28 0 4 (-1)
theorem c_takeBook (h : AH) : jX_takeBook h = some (tkH h) := by
  rw [jX_takeBook, jbn, jbn, jbn, jbn, jP_forget, jbn, obind, jbn, jQ_forget, jbn, jbn, jbn, obind]
  rfl
theorem tk_n {h : AH} {k i j : Nat} (hk : ¬ (k = 21 ∧ j = 0) ∧ ¬ (k = 0 ∧ j = 7) ∧ k ≠ 28) : gI (tkH h) k i j = gI h k i j := by
  unfold tkH
  rw [gI_uI_n (by omega), gI_uI_n (by omega), gI_uI_n (by omega), gI_uI_n (by omega), gI_uI_n (by omega)]
  rfl
theorem op_book : so_book Rel := by
  intro hc hm hr a
  obtain ⟨R, S, U, K, T, tp, un, im, nx, fa, tr, pl, V, A, C, M, htr, h10, h11, h4⟩ := hr
  have I := V.1
  have hle := V.2.2.2.2.1
  have hb := V.2.2.2.2.2.1
  have ht1 := A.2.2.2.1.1
  have htp : gI (mG hm) 32 0 2 = nI tp := ((gI_uI_n (by omega)).trans (gI_uI_n (by omega))).trans M.2.2.2.2.1.1
  by_cases hin : inN a (tp + 1)
  · obtain ⟨L, hL1, rfl⟩ := hin
    have hL : L ≤ 900 := by omega
    have hTc : ∀ i, i < L → gI (uI hc 0 0 1 0) 1 0 i = sbt (T i) := fun i hi => (gI_uI_n (by omega)).trans (A.2.2.2.1.2 i (by omega))
    generalize hm3e : uI (uI (uI (mG hm) 32 0 2 0) 32 0 9 0) 32 0 13 0 = m3
    have m3n : ∀ k i j, ¬ (k = 32 ∧ (j = 0 ∨ j = 2 ∨ j = 9 ∨ j = 11 ∨ j = 13)) → gI m3 k i j = gI hm k i j := fun k i j q => by
      rw [← hm3e, gI_uI_n (by omega), gI_uI_n (by omega), gI_uI_n (by omega)]
      exact (gI_uI_n (by omega)).trans (gI_uI_n (by omega))
    have m32 : gI m3 32 0 2 = nI 0 := by rw [← hm3e, gI_uI_n (by omega), gI_uI_n (by omega), gI_uI_s]; rfl
    have m39 : gI m3 32 0 9 = nI 0 := by rw [← hm3e, gI_uI_n (by omega), gI_uI_s]; rfl
    have m313 : gI m3 32 0 13 = nI 0 := by rw [← hm3e, gI_uI_s]; rfl
    have m311 : gI m3 32 0 11 = nI 0 := by rw [← hm3e, gI_uI_n (by omega), gI_uI_n (by omega), gI_uI_n (by omega)]; exact mG_11
    obtain ⟨h5, m5, n, eC, eM, X, f5, L5, g5⟩ := book_start (hc := uI hc 0 0 1 0) (hm := m3) hb hL hTc (fun i hi => (m3n 33 0 i (by omega)).trans (M.2.2.2.2.1.2 i (by omega))) m313 m39
    obtain ⟨hf, mf, eC2, eM2, FC, FM, O⟩ := p_lines hb hL (n + 1) 0 0 h5 m5 _ _ (by omega) (Nat.le_refl _) X FU FU (by have := X.1.1.2.1; unfold FU; omega) (by have := X.1.1.2.1; unfold FU; omega)
    have eb5 : ∀ x, gB h5 x = gB hc x := fun x => by unfold gB; rw [L5]; rfl
    have ebf : ∀ x, gB hf x = gB hc x := fun x => (gB_s FC).trans (eb5 x)
    rw [eb5, eb5] at FC O
    have eX : jX_book hc (nI L) = (jR_readBook_218 hf).bind fun h3 => if gI h3 2 0 0 = 0 then ((jX_takeBook h3).bind fun h4 => (jX_accept h4 (gI h4 13 ((gB h4 1).toNat) 0)).bind fun q5 => some (q5.1, q5.2)) else ((jX_refuse h3 4).bind fun q6 => some (q6.1, q6.2)) := by
      rw [jX_book, if_neg (nI_n0 L (by omega)), ht1, if_pos ((nI_leI (by omega) (by omega)).2 (by omega)), jbn, eC, show jR_readBook_46 FU (nI L) 1 0 h5 = jR_readBook_218 hf from eC2]
    have eY : jM_book hm (nI L) = jM_book_175 mf := by
      rw [jM_book, m_good, obind, htp, show jM_within (nI L) 0 (nI tp) = some (nI 1) from m_within_t (Nat.zero_le _) (by omega) (by omega), obind, if_neg (show ¬ nI 1 = (0 : Int32) by decide), jbn, jbn, jbn, hm3e, eM, eM2]
    have fh : ∀ k i j, ¬ (k = 2 ∧ i = 0 ∧ (j = 0 ∨ j = 5 ∨ j = 6)) → ¬ (3 ≤ k ∧ k ≤ 12 ∧ i = (gB hc 2).toNat) → ¬ (13 ≤ k ∧ k ≤ 16 ∧ i = (gB hc 3).toNat) → ¬ (17 ≤ k ∧ k ≤ 19) → ¬ (k = 0 ∧ i = 0 ∧ j = 1) → gI hf k i j = gI hc k i j := fun k i j q1 q2 q3 q4 q5 => by
      rw [FC.1 k i j q1 q2 q3, f5 k i j (by omega) q2 q3 q4, gI_uI_n q5]
    have fh01 : gI hf 0 0 1 = nI 0 := by
      rw [FC.1 0 0 1 (by omega) (by omega) (by omega), f5 0 0 1 (by omega) (by omega) (by omega) (by omega), gI_uI_s]
      rfl
    have fhm : ∀ k i j, ¬ (k = 32 ∧ (j = 0 ∨ j = 2 ∨ 3 ≤ j ∧ j ≤ 11 ∨ j = 13 ∨ 24 ≤ j ∧ j ≤ 27)) → k ≠ 34 → k ≠ 36 → k ≠ 38 → gI mf k i j = gI hm k i j := fun k i j q1 q2 q3 q4 => by
      rw [FM k i j (by omega) q2 q3 q4, g5 k i j (by omega) q2 q3 q4, m3n k i j (by omega)]
    have fm2 : gI mf 32 0 2 = nI 0 := by
      rw [FM 32 0 2 (by omega) (by decide) (by decide) (by decide), g5 32 0 2 (by omega) (by decide) (by decide) (by decide), m32]
    have fm11 : gI mf 32 0 11 = nI 0 := by
      rw [FM 32 0 11 (by omega) (by decide) (by decide) (by decide), g5 32 0 11 (by omega) (by decide) (by decide) (by decide), m311]
    have eL : hf.2.2 = hc.2.2 := FC.2.1.trans L5
    rcases O with ⟨R2, S2, o1, o2, o3, C2, M2, I2, o4⟩ | F
    · -- a whole text
      obtain ⟨B1, -, -, -, W1⟩ := C2
      have hnx := A.2.2.2.2.1.2.1
      have a3 := A.2.2.1
      have e1 : jR_readBook_218 hf = some (uI hf 2 0 1 (-1)) := by
        rw [jR_readBook_218, if_pos (show gI hf 2 0 0 = 0 from o1), jbn]
      have o1' : gI (uI hf 2 0 1 (-1)) 2 0 0 = 0 := (gI_uI_n (by omega)).trans o1
      have eb' : ∀ x, gB (uI hf 2 0 1 (-1)) x = gB hc x := ebf
      have t0 : gB (tkH (uI hf 2 0 1 (-1))) 0 = gB hc 2 := ebf 2
      have t1 : gB (tkH (uI hf 2 0 1 (-1))) 1 = gB hc 3 := ebf 3
      have t2 : gB (tkH (uI hf 2 0 1 (-1))) 2 = gB hc 0 := ebf 0
      have t3 : gB (tkH (uI hf 2 0 1 (-1))) 3 = gB hc 1 := ebf 1
      have tn : ∀ k i j, ¬ (k = 21 ∧ j = 0) → ¬ (k = 0 ∧ j = 7) → k ≠ 28 → ¬ (k = 2 ∧ j = 1) → gI (tkH (uI hf 2 0 1 (-1))) k i j = gI hf k i j := fun k i j q1 q2 q3 q4 => (tk_n ⟨q1, q2, q3⟩).trans (gI_uI_n (by omega))
      have WI2 := WkI_of I2
      have BI2 : BkI R2 := by
        obtain ⟨i1, i2, i3, i4, i5, i6, i7, i8⟩ := I2
        exact ⟨Or.inr (by have := i8.1; have := i8.2.1; omega), i3, i4, i5⟩
      have V2 : Inv R2 S2 U K T 0 0 0 nx 0 := ⟨BI2, WI2, fun i hi => absurd hi (Nat.not_lt_zero _), fun i hi => absurd hi (Nat.not_lt_zero _), by omega, hb, fun _ => ⟨rfl, rfl⟩⟩
      have A2 : CA (tkH (uI hf 2 0 1 (-1))) R2 S2 U K T 0 0 0 nx 0 := by
        refine ⟨?_, ?_, ?_, ⟨(tn 0 0 1 (by omega) (by omega) (by omega) (by omega)).trans fh01, fun i hi => absurd hi (Nat.not_lt_zero _)⟩, ⟨?_, ?_, fun i hi => absurd hi (Nat.not_lt_zero _)⟩, ⟨?_, fun i hi => absurd hi (Nat.not_lt_zero _)⟩, ?_⟩
        · rw [t0]
          exact BkC_of B1 (fun k j hk => tn k _ j (by omega) (by omega) (by omega) (by omega))
        · rw [t1]
          exact WkC_of W1 (fun k j hk => tn k _ j (by omega) (by omega) (by omega) (by omega))
        · rw [t0, t1, t2, t3, a3.1, a3.2, Bool.not_not, Bool.not_not]
          exact ⟨rfl, rfl⟩
        · unfold tkH
          rw [gI_uI_n (by omega), gI_uI_n (by omega), gI_uI_n (by omega), gI_uI_n (by omega), gI_uI_s]
          rfl
        · rw [tn 21 0 1 (by omega) (by omega) (by omega) (by omega), fh 21 0 1 (by omega) (by omega) (by omega) (by omega) (by omega)]
          exact hnx
        · unfold tkH
          rw [gI_uI_n (by omega), gI_uI_n (by omega), gI_uI_n (by omega), gI_uI_s]
          rfl
        · rw [tn 2 0 0 (by omega) (by omega) (by omega) (by omega)]
          exact o1
      have Ch2 : Cch (tkH (uI hf 2 0 1 (-1))) R2 := by
        intro _ _
        refine ⟨Or.inl ?_, Or.inl ?_⟩
        · unfold tkH
          rw [gI_uI_n (by omega), gI_uI_n (by omega), gI_uI_s]
          rfl
        · unfold tkH
          rw [gI_uI_n (by omega), gI_uI_s]
          rfl
      have ec1 := m_copy (h := mf) (k1 := 36) (k2 := 35) (s := 0) (d := 0) (n := 161) (N1 := 161) (N2 := 161) (by decide) rfl rfl (by omega) (by omega) (by omega)
      generalize hq1 : aI mf 35 0 (fun j => if 0 ≤ j ∧ j < 0 + 161 then gI mf 36 0 (0 + (j - 0)) else gI mf 35 0 j) = m7 at ec1
      have m7n : ∀ k i j, k ≠ 35 → gI m7 k i j = gI mf k i j := fun k i j q => by rw [← hq1, gI_aI_n (by omega)]
      have m7s : ∀ j, j < 161 → gI m7 35 0 j = nI (R2 j) := fun j hj => by
        rw [← hq1, gI_aI_s, if_pos (by omega), Nat.zero_add, Nat.sub_zero]
        exact M2.1 j hj
      have ec2 := m_copy (h := m7) (k1 := 38) (k2 := 37) (s := 0) (d := 0) (n := 340) (N1 := 340) (N2 := 340) (by decide) rfl rfl (by omega) (by omega) (by omega)
      generalize hq2 : aI m7 37 0 (fun j => if 0 ≤ j ∧ j < 0 + 340 then gI m7 38 0 (0 + (j - 0)) else gI m7 37 0 j) = m8 at ec2
      have m8n : ∀ k i j, k ≠ 37 → gI m8 k i j = gI m7 k i j := fun k i j q => by rw [← hq2, gI_aI_n (by omega)]
      have m8s : ∀ j, j < 340 → gI m8 37 0 j = nI (S2 j) := fun j hj => by
        rw [← hq2, gI_aI_s, if_pos (by omega), Nat.zero_add, Nat.sub_zero, m7n 38 0 j (by decide)]
        exact M2.2 j hj
      have e9n : ∀ k i j, ¬ (k = 32 ∧ (j = 14 ∨ j = 22 ∨ j = 23)) → gI (uI (uI (uI m8 32 0 14 1) 32 0 22 0) 32 0 23 0) k i j = gI m8 k i j := fun k i j q => by
        rw [gI_uI_n (by omega), gI_uI_n (by omega), gI_uI_n (by omega)]
      have M3 : MA (uI (uI (uI m8 32 0 14 1) 32 0 22 0) 32 0 23 0) R2 S2 U K T 0 0 0 0 := by
        obtain ⟨b1, b2, b3, b4, b5, b6, b7, b8, b9⟩ := M
        refine ⟨fun i hi => ?_, fun i hi => ?_, fun i hi => ?_, fun i hi => ?_, ⟨?_, fun i hi => absurd hi (Nat.not_lt_zero _)⟩, ?_, ?_, ?_, ?_⟩
        · rw [e9n 35 0 i (by omega), m8n 35 0 i (by decide)]; exact m7s i hi
        · rw [e9n 37 0 i (by omega)]; exact m8s i hi
        · rw [e9n 40 0 i (by omega), m8n 40 0 i (by decide), m7n 40 0 i (by decide), fhm 40 0 i (by omega) (by decide) (by decide) (by decide)]; exact b3 i hi
        · rw [e9n 41 0 i (by omega), m8n 41 0 i (by decide), m7n 41 0 i (by decide), fhm 41 0 i (by omega) (by decide) (by decide) (by decide)]; exact b4 i hi
        · rw [e9n 32 0 2 (by omega), m8n 32 0 2 (by decide), m7n 32 0 2 (by decide)]; exact fm2
        · rw [gI_uI_n (by omega), gI_uI_s]; rfl
        · rw [gI_uI_s]; rfl
        · rw [e9n 32 0 9 (by omega), m8n 32 0 9 (by decide), m7n 32 0 9 (by decide)]; exact o3
        · rw [gI_uI_n (by omega), gI_uI_n (by omega), gI_uI_s, hbk_1 o4]; rfl
      have h11' : gI (uI (uI (uI m8 32 0 14 1) 32 0 22 0) 32 0 23 0) 32 0 11 = nI 0 := by
        rw [e9n 32 0 11 (by omega), m8n 32 0 11 (by decide), m7n 32 0 11 (by decide)]; exact fm11
      refine ⟨nI (S2 0), cX (tkH (uI hf 2 0 1 (-1))) 0, uI (uI (uI m8 32 0 14 1) 32 0 22 0) 32 0 23 0, ?_, ?_, RelM V2 (CA_X A2) (Cch_X Ch2) M3 cX_10 h11' (by omega)⟩
      · rw [eX, e1, obind, if_pos o1', c_takeBook, obind, c_accept, obind, t1, tn 13 _ 0 (by omega) (by omega) (by omega) (by omega), W1.1]
      · rw [eY, jM_book_175, if_pos (show gI mf 32 0 13 = 0 from o2), show jM_copy mf 36 0 35 0 161 = some m7 from ec1, obind, show jM_copy m7 38 0 37 0 340 = some m8 from ec2, obind, jbn, jbn, jbn, if_pos (by decide), show gI (uI (uI (uI m8 32 0 14 1) 32 0 22 0) 32 0 23 0) 37 0 (Int32.toNatClampNeg 0) = nI (S2 0) from (e9n 37 0 0 (by omega)).trans (m8s 0 (by omega))]
    · -- a fault
      obtain ⟨D, f, j, f1, f2, f3, f4, f6, f7, f8, f9⟩ := F
      have e1 : jR_readBook_218 hf = some (uI hf 2 0 1 (nI (tS T L j))) := by
        rw [jR_readBook_218, if_neg (show ¬ gI hf 2 0 0 = 0 from fun z => by have := (nI_eq (by omega) (show 0 < 2 ^ 31 by decide)).1 ((f4.symm.trans z : nI f = nI 0)); omega), f6, c_startOf D hL f3, obind, jbn]
      have n1 : ¬ gI (uI hf 2 0 1 (nI (tS T L j))) 2 0 0 = 0 := by
        rw [gI_uI_n (by omega)]
        exact fun z => by have := (nI_eq (by omega) (show 0 < 2 ^ 31 by decide)).1 ((f4.symm.trans z : nI f = nI 0)); omega
      have V2 : Inv R S U K T 0 un im nx f := by
        obtain ⟨v1, v2, v3, v4, v5, v6, v7⟩ := V
        exact ⟨v1, v2, v3, v4, by omega, v6, v7⟩
      have A2 : CA (uI hf 2 0 1 (nI (tS T L j))) R S U K T 0 un im nx f := CA_keep A (fun k i j q1 q2 q3 q4 q5 => (gI_uI_n (by omega)).trans (fh k i j (by omega) q2 q3 q4 q5)) eL ((gI_uI_n (by omega)).trans fh01) ((gI_uI_n (by omega)).trans f4)
      have Ch2 : Cch (uI hf 2 0 1 (nI (tS T L j))) R := Cch_of C (fun k i j hk => (gI_uI_n (by omega)).trans (fh k i j (by omega) (by omega) (by omega) (by omega) (by omega)))
      have M2 : MA mf R S U K T 0 un im f := by
        obtain ⟨b1, b2, b3, b4, b5, b6, b7, b8, b9⟩ := M
        refine ⟨fun i hi => ?_, fun i hi => ?_, fun i hi => ?_, fun i hi => ?_, ⟨fm2, fun i hi => absurd hi (Nat.not_lt_zero _)⟩, ?_, ?_, f8, ?_⟩
        · rw [fhm 35 0 i (by omega) (by decide) (by decide) (by decide)]; exact b1 i hi
        · rw [fhm 37 0 i (by omega) (by decide) (by decide) (by decide)]; exact b2 i hi
        · rw [fhm 40 0 i (by omega) (by decide) (by decide) (by decide)]; exact b3 i hi
        · rw [fhm 41 0 i (by omega) (by decide) (by decide) (by decide)]; exact b4 i hi
        · rw [fhm 32 0 22 (by omega) (by decide) (by decide) (by decide)]; exact b6
        · rw [fhm 32 0 23 (by omega) (by decide) (by decide) (by decide)]; exact b7
        · rw [fhm 32 0 14 (by omega) (by decide) (by decide) (by decide)]; exact b9
      refine ⟨-nI 1, cX (uI hf 2 0 1 (nI (tS T L j))) 4, mX mf 4, ?_, ?_, ⟨R, S, U, K, T, 0, un, im, nx, f, 4, tS T L j, V2, CA_X A2, Cch_X Ch2, MA_X M2, by omega, cX_10, mX_11, fun _ => ⟨?_, ?_⟩⟩⟩
      · rw [eX, e1, obind, if_neg n1, show jX_refuse (uI hf 2 0 1 (nI (tS T L j))) 4 = _ from c_refuse _ 4, obind]
      · rw [eY, jM_book_175, if_neg (show ¬ gI mf 32 0 13 = 0 by rw [f7]; decide), show jM_no mf 4 = _ from m_no _ 4, obind]
      · exact (gI_uI_n (by omega)).trans (gI_uI_s _ _ _ _ _)
      · exact (gI_uI_n (by omega)).trans f9
  · refine ⟨-nI 1, cX hc 2, mX (mG hm) 2, ?_, ?_, RelX V A C (MA_G M) (by omega)⟩
    · rw [jX_book, ht1, show jX_refuse hc 2 = _ from c_refuse _ 2, obind]
      by_cases h1 : a < 0
      · rw [if_pos h1]
      · rw [if_neg h1, if_neg (show ¬ a ≤ nI tp from fun z => ?_)]
        rcases pk_ix a (n := tp + 1) (by omega) with q | q | q
        · exact h1 q
        · have q1 := Int32.le_iff_toInt_le.1 q
          have q2 := Int32.le_iff_toInt_le.1 z
          rw [nI_toInt (by omega)] at q1 q2
          omega
        · exact hin q
    · rw [jM_book, m_good, obind, htp, show jM_within a 0 (nI tp) = some (nI 0) from m_within_f (by omega) hin, obind, if_pos (show nI 0 = (0 : Int32) from rfl), show jM_no (mG hm) 2 = _ from m_no _ 2, obind]
