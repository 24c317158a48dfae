/-! ===== pure: the text to its end ===== -/
theorem t_come57 {h : AH} {n : Nat} (B : Bad h n) (v : Int32) : jR_isLineToCome_57 v h = some (0, adH h) := by
  rw [jR_isLineToCome_57, jbn, show uI h 2 0 5 (gI h 2 0 5 + 1) = adH h from rfl, if_neg (Bad_nz (bad_a B))]
  split <;> rfl
theorem tt_isTold (h : AH) (b : Nat) : ∃ r, jB_isTold h b = some r := by
  unfold jB_isTold
  split <;> exact ⟨_, rfl⟩
theorem t_come37 {h : AH} {n : Nat} (B : Bad h n) (v : Int32) : jR_isLineToCome_37 v h = some (0, adH h) := by
  obtain ⟨r, hr⟩ := tt_isTold h (gB h 2).toNat
  rw [jR_isLineToCome_37, hr, obind, bad_fail B, obind, t_come57 B]
  split
  · split <;> rfl
  · rfl
theorem bad_come {h : AH} {n : Nat} (B : Bad h n) : jR_isLineToCome h = some (0, adH h) := by
  obtain ⟨r1, h1⟩ := tt_isKind B.1 B.2.1 (gI h 2 0 5) 4
  obtain ⟨r2, h2⟩ := tt_isKind B.1 B.2.1 (gI h 2 0 5) 1
  rw [jR_isLineToCome, h1, obind, h2, obind, bad_fail B, obind, t_come37 B]
  split
  · split <;> rfl
  · rfl
theorem read_stop (a : Nat) (v3 v5 : Int32) (h : AH) : jR_readBook_46 (a + 1) v3 0 v5 h = jR_readBook_218 h := by
  rw [jR_readBook_46]
  split
  · rw [if_pos rfl]
  · rfl
theorem m_99bad {h : AH} (e : ¬ gI h 32 0 13 = 0) (f : Nat) : jM_book_99 (f + 1) h = jM_book_175 h := by
  rw [jM_book_99, if_neg e, jM_book_126, if_neg e, jM_book_149, if_neg e]
def FinO (hf mf : AH) (b w : Nat) : Prop := ∃ R S, gI hf 2 0 0 = nI 0 ∧ gI mf 32 0 13 = nI 0 ∧ gI mf 32 0 9 = nI 0 ∧ SBc hf b w R S ∧ SBm mf R S ∧ SBI R S ∧ R 0 ≠ 0
theorem p_lines {T : Nat → Nat} {L n : Nat} (hb : ∀ i, T i < 256) (hL : L ≤ 900) : ∀ d i v5 (hc hm : AH) (R S : Nat → Nat), n < i + d → v5 ≤ i → LnS hc hm T L n i R S → ∀ fu fv, d + 1 < fu → d < fv → ∃ hf mf, jR_readBook_46 fu (nI L) 1 (nI v5) hc = jR_readBook_218 hf ∧ ((jM_readLine hm).bind fun h4 => jM_book_99 fv h4) = jM_book_175 mf ∧ FcS (gB hc 2).toNat (gB hc 3).toNat hc hf ∧ FmS hm mf ∧ (FinO hf mf (gB hc 2).toNat (gB hc 3).toNat ∨ RF hf mf T L n) := by
  intro d
  induction d with
  | zero =>
    intro i v5 hc hm R S hd hv X
    have := X.1.2.2.1
    omega
  | succ d ih =>
    intro i v5 hc hm R S hd hv X fu fv hfu hfv
    obtain ⟨a, rfl⟩ : ∃ a, fu = a + 1 + 1 := ⟨fu - 2, by omega⟩
    obtain ⟨c, rfl⟩ : ∃ c, fv = c + 1 := ⟨fv - 1, by omega⟩
    have hin := X.1.2.2.1
    have hnL := X.1.1.2.1
    obtain ⟨hc', hm', eC, eM, FC, FM, O⟩ := p_line hb hL X
    have eC1 : jR_readBook_46 (a + 1 + 1) (nI L) 1 (nI v5) hc = (jR_isLineToCome hc').bind fun q1 => jR_readBook_46 (a + 1) (nI L) q1.1 (nI v5 + 1) q1.2 := by
      have e : jR_readBook_46 (a + 1 + 1) (nI L) 1 (nI v5) hc = dspC hc (fun h' => jR_readBook_206 (jR_readBook_46 (a + 1)) (nI L) (nI v5) h') := by
        rw [jR_readBook_46, if_pos ((nI_leI (by omega) (by omega)).2 (by omega)), if_neg (by decide)]
        rfl
      rw [e, eC]
      rfl
    have eM1 : ((jM_readLine hm).bind fun h4 => jM_book_99 (c + 1) h4) = jM_book_99 (c + 1) hm' := by rw [eM, obind]
    have fail : ∀ f j (hc2 : AH), 1 ≤ f ∧ f ≤ 6 → RG hc' hm' T L n j → jR_isLineToCome hc' = some (0, adH (flH hc' f)) → jM_book_99 (c + 1) hm' = jM_book_175 (wrH hm' f (tS T L j)) → ∃ hf mf, jR_readBook_46 (a + 1 + 1) (nI L) 1 (nI v5) hc = jR_readBook_218 hf ∧ ((jM_readLine hm).bind fun h4 => jM_book_99 (c + 1) h4) = jM_book_175 mf ∧ FcS (gB hc 2).toNat (gB hc 3).toNat hc hf ∧ FmS hm mf ∧ (FinO hf mf (gB hc 2).toNat (gB hc 3).toNat ∨ RF hf mf T L n) := by
      intro f j _ hf G e1 e2
      refine ⟨adH (flH hc' f), wrH hm' f (tS T L j), ?_, ?_, FC.trans (((FcR_f hc' f).trans (FcR_a _)).s _ _), FM.trans (FmR_w hm' f _).s, Or.inr (RF_a (RG_fail G hf))⟩
      · rw [eC1, e1, obind, read_stop]
      · rw [eM1, e2]
    rcases O with ⟨i', R', S', hi', X'⟩ | F
    · obtain ⟨G, C, M, I⟩ := X'
      have G0 := G
      obtain ⟨D, e5, hi2, e0, P, Mk, e13⟩ := G0
      have k6 := kd_6 T L (tS T L i')
      have i1 := I.1
      have q0 : gI hm' 36 0 (Int32.toNatClampNeg 0) = nI (R' 0) := M.1 0 (by omega)
      have eI : jR_isLineToCome hc' = if bI (decide (kdT T L (tS T L i') = 4)) = 0 then (if bI (decide (kdT T L (tS T L i') = 1)) = 0 then ((jR_fail hc' 1).bind fun h3 => jR_isLineToCome_37 (bI (decide (kdT T L (tS T L i') = 4))) h3) else jR_isLineToCome_37 (bI (decide (kdT T L (tS T L i') = 4))) hc') else jR_isLineToCome_37 (bI (decide (kdT T L (tS T L i') = 4))) hc' := by
        rw [jR_isLineToCome, e5, show (4 : Int32) = nI 4 from rfl, c_isKind D hL hi2 (by decide), obind, show jT_isKind hc' (nI i') 1 = some (bI (decide (kdT T L (tS T L i') = 1))) from c_isKind (k := 1) D hL hi2 (by decide), obind]
      by_cases h4 : kdT T L (tS T L i') = 4
      · obtain ⟨m2, r1, r2, r3⟩ := RG_next hb hL G (kd_in D hi2 (by rw [h4]; decide))
        have X2 : LnS (adH hc') m2 T L n (i' + 1) R' S' := ⟨r3, SBc_r C (FcR_a hc'), SBm_r M r2.r, I⟩
        obtain ⟨hf, mf, s1, s2, s3, s4, s5⟩ := ih (i' + 1) (v5 + 1) (adH hc') m2 R' S' (by omega) (by omega) X2 (a + 1) c (by omega) (by omega)
        have eb2 : gB (adH hc') 2 = gB hc 2 := (gB_r (FcR_a hc')).trans (gB_s FC)
        have eb3 : gB (adH hc') 3 = gB hc 3 := (gB_r (FcR_a hc')).trans (gB_s FC)
        rw [eb2, eb3] at s3 s5
        refine ⟨hf, mf, ?_, ?_, (FC.trans ((FcR_a hc').s _ _)).trans s3, (FM.trans r2.r.s).trans s4, s5⟩
        · rw [eC1, eI, decide_eq_true h4, if_neg bI_t, jR_isLineToCome_37, if_neg bI_t, jR_isLineToCome_57, jbn, if_neg bI_t, show uI hc' 2 0 5 (gI hc' 2 0 5 + 1) = adH hc' from rfl, if_pos (show gI (adH hc') 2 0 0 = 0 from r3.2.2.2.1), obind, show nI v5 + 1 = nI (v5 + 1) from nI_add v5 1]
          exact s1
        · rw [eM1, jM_book_99, if_pos (show gI hm' 32 0 13 = 0 from e13), Mk.2.2.1, if_pos ((kmT_59 k6).2 h4), r1, obind]
          exact s2
      · have n59 : ¬ nI (kmT (kdT T L (tS T L i'))) = 59 := fun z => h4 ((kmT_59 k6).1 z)
        have eM2 : jM_book_99 (c + 1) hm' = jM_book_126 hm' := by
          rw [jM_book_99, if_pos (show gI hm' 32 0 13 = 0 from e13), Mk.2.2.1, if_neg n59]
        by_cases h1 : kdT T L (tS T L i') = 1
        · by_cases h0 : R' 0 = 0
          · refine fail 6 i' hc' (by omega) G ?_ ?_
            · rw [eI, decide_eq_false h4, if_pos bI_f, decide_eq_true h1, if_neg bI_t, jR_isLineToCome_37, if_pos bI_f, c_isTold2 C.1.1.1 (by omega), obind, if_pos h0, if_pos (show nI 0 = (0 : Int32) from rfl), show jR_fail hc' 6 = _ from c_fail_t e0 6, obind, t_come57 (RG_bad G hL (by omega))]
            · rw [eM2, jM_book_126, if_pos (show gI hm' 32 0 13 = 0 from e13), Mk.2.2.1, if_pos ((kmT_0 k6).2 h1), jM_book_149, if_pos (show gI hm' 32 0 13 = 0 from e13), if_pos (by decide), q0, if_pos (show nI (R' 0) = 0 by rw [h0]; rfl), Mk.1, show jM_wrong hm' 6 (nI (tS T L i')) = _ from m_wrong_t e13 6 _, obind]
          · refine ⟨adH hc', hm', ?_, ?_, FC.trans ((FcR_a hc').s _ _), FM, Or.inl ⟨R', S', (gI_uI_n (by omega)).trans e0, e13, P.2.2, ?_, M, I, h0⟩⟩
            · rw [eC1, eI, decide_eq_false h4, if_pos bI_f, decide_eq_true h1, if_neg bI_t, jR_isLineToCome_37, if_pos bI_f, c_isTold2 C.1.1.1 (by omega), obind, if_neg h0, if_neg (by decide), jR_isLineToCome_57, jbn, if_pos bI_f, show uI hc' 2 0 5 (gI hc' 2 0 5 + 1) = adH hc' from rfl, obind, read_stop]
            · rw [eM1, eM2, jM_book_126, if_pos (show gI hm' 32 0 13 = 0 from e13), Mk.2.2.1, if_pos ((kmT_0 k6).2 h1), jM_book_149, if_pos (show gI hm' 32 0 13 = 0 from e13), if_pos (by decide), q0, if_neg (show ¬ nI (R' 0) = 0 from fun z => h0 ((nI_eq (by omega) (show 0 < 2 ^ 31 by decide)).1 (z : nI (R' 0) = nI 0)))]
            · rw [gB_s FC, gB_s FC] at C
              exact SBc_r C (FcR_a hc')
        · refine fail 1 i' hc' (by omega) G ?_ ?_
          · rw [eI, decide_eq_false h4, if_pos bI_f, decide_eq_false h1, if_pos bI_f, show jR_fail hc' 1 = _ from c_fail_t e0 1, obind, t_come37 (RG_bad G hL (by omega))]
          · rw [eM2, jM_book_126, if_pos (show gI hm' 32 0 13 = 0 from e13), Mk.2.2.1, if_neg (fun z => h1 ((kmT_0 k6).1 z)), Mk.1, show jM_wrong hm' 1 (nI (tS T L i')) = _ from m_wrong_t e13 1 _, obind, jM_book_149, if_neg (wrH_13 _ _ _)]
    · have ne : ¬ gI hm' 32 0 13 = 0 := by
        rw [RF_13 F]
        decide
      refine ⟨adH hc', hm', ?_, ?_, FC.trans ((FcR_a hc').s _ _), FM, Or.inr (RF_a F)⟩
      · rw [eC1, bad_come (F.bad hL), obind, read_stop]
      · rw [eM1, m_99bad ne]
