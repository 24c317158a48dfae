/-! ===== pure: a line ===== -/
theorem c_isTold2 {h : AH} {b r : Nat} (e : gI h 3 b 0 = nI r) (hr : r < 2 ^ 31) : jB_isTold h b = some (nI (if r = 0 then 0 else 1)) := by
  unfold jB_isTold
  rw [e]
  by_cases h0 : r = 0
  · rw [h0]; rfl
  · rw [if_neg h0, if_neg (show ¬ nI r ≤ 0 from fun z => h0 (by have := (nI_leI hr (show 0 < 2 ^ 31 by decide)).1 (z : nI r ≤ nI 0); omega))]
    rfl
theorem colour_bad {h : AH} {n : Nat} {R : Nat → Nat} (B : Bad h n) (NC : NmC h (gB h 2).toNat R) (N : NmI R) : ∃ h', jR_colourLine_16 h = some h' ∧ FcB (gB h 2).toNat (gB h 3).toNat h h' := by
  have B1 := bad_a B
  have NC1 : NmC (adH h) (gB (adH h) 2).toNat R := NmC_r NC (FcR_a h)
  obtain ⟨v, hv⟩ := tt_valueOf B1.1 B1.2.1 (gI (adH h) 2 0 5)
  obtain ⟨s, hs⟩ := tt_isName B1.1 B1.2.1 (gI (adH h) 2 0 5)
  obtain ⟨r1, h1⟩ := (bad_named NC1 N).1 v
  obtain ⟨r2, h2⟩ := (bad_named NC1 N).2 v
  have eN : jR_readNewName (adH h) 0 = some (v, adH (adH h)) := by
    rw [jR_readNewName, hv, obind, hs, obind, bad_fail B1, obind, t_new31 B1 0 v h1 h2]
    split <;> rfl
  have B2 := bad_a B1
  have B3 := bad_a B2
  have B4 := bad_a B3
  have B5 := bad_a B4
  have B6 := bad_a B5
  have B7 := bad_a B6
  have B8 := bad_a B7
  refine ⟨_, ?_, ((((((((FcB_a (gB h 2).toNat (gB h 3).toNat h).trans (FcB_a _ _ _)).trans (FcB_a _ _ _)).trans (FcB_a _ _ _)).trans (FcB_a _ _ _)).trans (FcB_a _ _ _)).trans (FcB_a _ _ _)).trans (FcB_a _ _ _))⟩
  rw [jR_colourLine_16, jbn, show uI h 2 0 5 (gI h 2 0 5 + 1) = adH h from rfl, eN, obind, bad_word B2, obind, bad_whole B3, obind, bad_word B4, obind, bad_whole B5, obind, bad_word B6, obind, bad_whole B7, obind, if_neg (Bad_nz B8)]
theorem m_lines_bad {h : AH} (e : ¬ gI h 32 0 13 = 0) : jM_wallLine h = some h ∧ jM_colourLine h = some h ∧ jM_workLine h = some h ∧ jM_contractLine h = some h ∧ jM_wantLine h = some h := by
  refine ⟨?_, ?_, ?_, ?_, ?_⟩
  · rw [jM_wallLine, if_neg e]
  · rw [jM_colourLine, if_neg e]
  · rw [jM_workLine, if_neg e]
  · rw [jM_contractLine, if_neg e]
  · rw [jM_wantLine, if_neg e]
section
variable {hc hm : AH} {T R S : Nat → Nat} {L n i : Nat}
theorem m_begins_f (G : RG hc hm T L n i) {t : Nat} (ht : t < 17) (e : isW T L (tS T L i) t = false) (a b c : Int32) : jM_begins hm t a b c = some (0, hm) := by
  rw [jM_begins, m_isWord G.2.2.2.2.2.1 G.2.2.2.2.2.2 ht, obind, e, if_pos bI_f]
theorem m_begins_b (G : RG hc hm T L n i) (e36 : gI hm 36 0 0 = nI (R 0)) {t : Nat} (ht : t < 17) (e : isW T L (tS T L i) t = true) (f : Nat) (c : Int32) : jM_begins hm t 0 (nI f) c = some (1, wrH hm f (tS T L i)) := by
  have e47 : jM_begins_47 (wrH hm f (tS T L i)) = some (1, wrH hm f (tS T L i)) := by rw [jM_begins_47, if_neg (wrH_13 _ _ _)]
  have e23 : jM_begins_23 c (wrH hm f (tS T L i)) = some (1, wrH hm f (tS T L i)) := by
    have ew : ∀ v p, jM_wrong (wrH hm f (tS T L i)) v p = some (wrH hm f (tS T L i)) := fun v p => by rw [jM_wrong, if_neg (wrH_13 _ _ _)]
    rw [jM_begins_23, e47, ew, obind, e47]
    split
    · rfl
    · rw [if_pos (by decide)]
      split <;> rfl
  rw [jM_begins, m_isWord G.2.2.2.2.2.1 G.2.2.2.2.2.2 ht, obind, e, if_neg bI_t, if_pos rfl, G.2.2.2.2.2.1.1, show jM_wrong hm (nI f) (nI (tS T L i)) = _ from m_wrong_t G.2.2.2.2.2.2 f _, obind, e23]
theorem m_begins_6 (G : RG hc hm T L n i) (e36 : gI hm 36 0 0 = nI (R 0)) (h0 : R 0 = 0) {t : Nat} (ht : t < 17) (e : isW T L (tS T L i) t = true) (b : Int32) : jM_begins hm t 1 b 1 = some (1, wrH hm 6 (tS T L i)) := by
  rw [jM_begins, m_isWord G.2.2.2.2.2.1 G.2.2.2.2.2.2 ht, obind, e, if_neg bI_t, if_neg (by decide), jM_begins_23, if_neg (by decide), if_pos (by decide), if_pos (show gI hm 36 0 (Int32.toNatClampNeg 0) = 0 by rw [show gI hm 36 0 (Int32.toNatClampNeg 0) = nI (R 0) from e36, h0]; rfl), G.2.2.2.2.2.1.1, show jM_wrong hm 6 (nI (tS T L i)) = _ from m_wrong_t G.2.2.2.2.2.2 6 _, obind, jM_begins_47, if_neg (wrH_13 _ _ _)]
theorem m_begins_t (hb : ∀ i, T i < 256) (hL : L ≤ 900) (G : RG hc hm T L n i) (e36 : gI hm 36 0 0 = nI (R 0)) (hR0 : R 0 < 2 ^ 31) {t : Nat} (ht : t < 17) (e : isW T L (tS T L i) t = true) (b c : Int32) (h0 : c = 0 ∨ R 0 ≠ 0) : ∃ hm', jM_begins hm t 1 b c = some (1, hm') ∧ FmR hm hm' ∧ RG (adH hc) hm' T L n (i + 1) := by
  have hk := (isW_i.1 e).1
  obtain ⟨hm', q1, q2, q3⟩ := RG_next hb hL G (kd_in G.1 G.2.2.1 (by rw [hk]; decide))
  have e47 : jM_begins_47 hm = some (1, hm') := by rw [jM_begins_47, if_pos (show gI hm 32 0 13 = 0 from G.2.2.2.2.2.2), q1, obind]
  refine ⟨hm', ?_, q2.r, q3⟩
  rw [jM_begins, m_isWord G.2.2.2.2.2.1 G.2.2.2.2.2.2 ht, obind, e, if_neg bI_t, if_neg (by decide), jM_begins_23, e47]
  split
  · rfl
  · rename_i hz
    have h0 := h0.resolve_left hz
    rw [if_pos (by decide), if_neg (show ¬ gI hm 36 0 (Int32.toNatClampNeg 0) = 0 from fun z => h0 ((nI_eq hR0 (show 0 < 2 ^ 31 by decide)).1 ((e36.symm.trans z : nI (R 0) = nI 0))))]
/-- failed at the head -/
theorem head_fail (hL : L ≤ 900) (G : RG hc hm T L n i) {f : Nat} (hf : 1 ≤ f ∧ f ≤ 6) {h' : AH} (F : FcB (gB (flH hc f) 2).toNat (gB (flH hc f) 3).toNat (flH hc f) h') : LnO hc hm h' (wrH hm f (tS T L i)) T L n i :=
  LnO_fail (((FcR_f hc f).s _ _).trans F.1) (FmR_w hm f _).s (RF_b (RG_fail G hf) F)
def dspC (h : AH) (K : AH → Option AH) : Option AH :=
  (jT_isWord h (gI h 2 0 5) 2002873452).bind fun r1 =>
    if r1 = 0 then ((jT_isWord h (gI h 2 0 5) 109330211763570).bind fun r2 =>
    if r2 = 0 then ((jT_isWord h (gI h 2 0 5) 1751215716).bind fun r3 =>
    if r3 = 0 then ((jT_isWord h (gI h 2 0 5) 2003792491).bind fun r4 =>
    if r4 = 0 then ((jT_isWord h (gI h 2 0 5) 7165066978583995252).bind fun r5 =>
    if r5 = 0 then ((jT_isWord h (gI h 2 0 5) 2002873972).bind fun r6 =>
    if r6 = 0 then ((jR_fail h 1).bind fun h7 => K h7)
    else ((jR_wantLine h).bind fun h8 => K h8))
    else ((jR_contractLine h).bind fun h9 => K h9))
    else ((jR_workLine h).bind fun h10 => K h10))
    else ((jR_handLine h).bind fun h11 => K h11))
    else ((jR_colourLine h).bind fun h12 => K h12))
    else ((jR_wallLine h).bind fun h13 => K h13)
theorem LnO_next {m1 hc' hm' : AH} (F : FmR hm m1) (O : LnO hc m1 hc' hm' T L n (i + 1)) : LnO hc hm hc' hm' T L n i := LnO_trans (FcS.refl _ _ _) F.s (by omega) O
theorem p_wall (hb : ∀ i, T i < 256) (hL : L ≤ 900) (X : LnS hc hm T L n i R S) (e : isW T L (tS T L i) 0 = true) : ∃ hc' hm', jR_wallLine hc = some hc' ∧ (jM_begins hm 0 (if R 0 = 0 then 1 else 0) 3 0).bind (fun q1 => jM_wallLine q1.2) = some hm' ∧ LnO hc hm hc' hm' T L n i := by
  obtain ⟨G, C, M, I⟩ := X
  have i1 := I.1
  by_cases h0 : R 0 = 0
  · obtain ⟨m1, a1, a2, a3⟩ := m_begins_t (R := R) hb hL G (M.1 0 (by omega)) (by omega) (t := 0) (by decide) e 3 0 (Or.inl rfl)
    obtain ⟨hc', hm', b1, b2, b3⟩ := l_wall hb hL a3 C (SBm_r M a2) I h0
    refine ⟨hc', hm', ?_, ?_, LnO_next a2 b3⟩
    · rw [jR_wallLine, c_isTold2 C.1.1.1 (by omega), obind, if_pos h0, if_pos (show nI 0 = (0 : Int32) from rfl), b1]
    · rw [if_pos h0, a1, obind, b2]
  · obtain ⟨h', b1, b2⟩ := wall_bad (RG_bad G hL (f := 3) (by omega))
    refine ⟨h', _, ?_, ?_, head_fail hL G (by omega) b2⟩
    · rw [jR_wallLine, c_isTold2 C.1.1.1 (by omega), obind, if_neg h0, if_neg (by decide), show jR_fail hc 3 = _ from c_fail_t G.2.2.2.1 3, obind, b1]
    · rw [if_neg h0, show jM_begins hm 0 0 3 0 = _ from m_begins_b (R := R) G (M.1 0 (by omega)) (by decide) e 3 0, obind, (m_lines_bad (wrH_13 _ _ _)).1]
theorem p_colour (hb : ∀ i, T i < 256) (hL : L ≤ 900) (X : LnS hc hm T L n i R S) (e : isW T L (tS T L i) 1 = true) : ∃ hc' hm', jR_colourLine hc = some hc' ∧ (jM_begins hm 1 (if R 4 < 5 then 1 else 0) 5 0).bind (fun q1 => jM_colourLine q1.2) = some hm' ∧ LnO hc hm hc' hm' T L n i := by
  obtain ⟨G, C, M, I⟩ := X
  have i1 := I.1
  have N : NmI R := I.2.2.2.2.2.2.2
  have n4 := N.1
  by_cases h4 : R 4 < 5
  · obtain ⟨m1, a1, a2, a3⟩ := m_begins_t (R := R) hb hL G (M.1 0 (by omega)) (by omega) (t := 1) (by decide) e 5 0 (Or.inl rfl)
    obtain ⟨hc', hm', b1, b2, b3⟩ := l_colour hb hL a3 C (SBm_r M a2) I h4
    refine ⟨hc', hm', ?_, ?_, LnO_next a2 b3⟩
    · rw [jR_colourLine, C.1.1.2.2.2.2.1, if_pos (show nI (R 4) < 5 from (nI_ltI (by omega) (show 5 < 2 ^ 31 by decide)).2 h4), b1]
    · rw [if_pos h4, a1, obind, b2]
  · obtain ⟨h', b1, b2⟩ := colour_bad (RG_bad G hL (f := 5) (by omega)) (NmC_r C.2.2.2.1 (FcR_f hc 5)) N
    refine ⟨h', _, ?_, ?_, head_fail hL G (by omega) b2⟩
    · rw [jR_colourLine, C.1.1.2.2.2.2.1, if_neg (show ¬ nI (R 4) < 5 from fun z => h4 ((nI_ltI (by omega) (show 5 < 2 ^ 31 by decide)).1 (z : nI (R 4) < nI 5))), show jR_fail hc 5 = _ from c_fail_t G.2.2.2.1 5, obind, b1]
    · rw [if_neg h4, show jM_begins hm 1 0 5 0 = _ from m_begins_b (R := R) G (M.1 0 (by omega)) (by decide) e 5 0, obind, (m_lines_bad (wrH_13 _ _ _)).2.1]
theorem p_handl (hb : ∀ i, T i < 256) (hL : L ≤ 900) (X : LnS hc hm T L n i R S) (e : isW T L (tS T L i) 2 = true) : ∃ hc' hm', jR_handLine hc = some hc' ∧ (jM_begins hm 2 1 1 0).bind (fun q1 => jM_handLine q1.2) = some hm' ∧ LnO hc hm hc' hm' T L n i := by
  obtain ⟨G, C, M, I⟩ := X
  have i1 := I.1
  obtain ⟨m1, a1, a2, a3⟩ := m_begins_t (R := R) hb hL G (M.1 0 (by omega)) (by omega) (t := 2) (by decide) e 1 0 (Or.inl rfl)
  obtain ⟨hc', hm', b1, b2, b3⟩ := l_hand hb hL a3 C (SBm_r M a2) I
  exact ⟨hc', hm', b1, by rw [a1, obind, b2], LnO_next a2 b3⟩
theorem p_workl (hb : ∀ i, T i < 256) (hL : L ≤ 900) (X : LnS hc hm T L n i R S) (e : isW T L (tS T L i) 3 = true) : ∃ hc' hm', jR_workLine hc = some hc' ∧ (jM_begins hm 3 (if S 0 < 9 then 1 else 0) 5 1).bind (fun q1 => jM_workLine q1.2) = some hm' ∧ LnO hc hm hc' hm' T L n i := by
  obtain ⟨G, C, M, I⟩ := X
  have i1 := I.1
  have i2 := I.2.1
  by_cases h9 : S 0 < 9
  · have e9 : gI hc 13 (gB hc 3).toNat 0 < 9 := by
      rw [C.2.2.2.2.1]
      exact (nI_ltI (by omega) (show 9 < 2 ^ 31 by decide)).2 h9
    by_cases h0 : R 0 = 0
    · obtain ⟨h', b1, b2⟩ := work_bad (RG_bad G hL (f := 6) (by omega)) (SBc_r C (FcR_f hc 6)) I
      refine ⟨h', _, ?_, ?_, head_fail hL G (by omega) b2⟩
      · rw [jR_workLine, if_pos e9, jR_workLine_17, c_isTold2 C.1.1.1 (by omega), obind, if_pos h0, if_pos (show nI 0 = (0 : Int32) from rfl), show jR_fail hc 6 = _ from c_fail_t G.2.2.2.1 6, obind, b1]
      · rw [if_pos h9, m_begins_6 (R := R) G (M.1 0 (by omega)) h0 (by decide) e, obind, (m_lines_bad (wrH_13 _ _ _)).2.2.1]
    · obtain ⟨m1, a1, a2, a3⟩ := m_begins_t (R := R) hb hL G (M.1 0 (by omega)) (by omega) (t := 3) (by decide) e 5 1 (Or.inr h0)
      obtain ⟨hc', hm', b1, b2, b3⟩ := l_work hb hL a3 C (SBm_r M a2) I h0 h9
      refine ⟨hc', hm', ?_, ?_, LnO_next a2 b3⟩
      · rw [jR_workLine, if_pos e9, jR_workLine_17, c_isTold2 C.1.1.1 (by omega), obind, if_neg h0, if_neg (by decide), b1]
      · rw [if_pos h9, a1, obind, b2]
  · have C6 := SBc_r C (FcR_f hc 5)
    obtain ⟨h', b1, b2⟩ := work_bad (RG_bad G hL (f := 5) (by omega)) C6 I
    refine ⟨h', _, ?_, ?_, head_fail hL G (by omega) b2⟩
    · rw [jR_workLine, C.2.2.2.2.1, if_neg (show ¬ nI (S 0) < 9 from fun z => h9 ((nI_ltI (by omega) (show 9 < 2 ^ 31 by decide)).1 (z : nI (S 0) < nI 9))), show jR_fail hc 5 = _ from c_fail_t G.2.2.2.1 5, obind, jR_workLine_17, show jB_isTold (flH hc 5) (gB (flH hc 5) 2).toNat = _ from c_isTold2 C6.1.1.1 (by omega), obind, if_neg (show ¬ R 0 = 0 by omega), if_neg (by decide), b1]
    · rw [if_neg h9, show jM_begins hm 3 0 5 1 = _ from m_begins_b (R := R) G (M.1 0 (by omega)) (by decide) e 5 1, obind, (m_lines_bad (wrH_13 _ _ _)).2.2.1]
theorem p_contractl (hb : ∀ i, T i < 256) (hL : L ≤ 900) (X : LnS hc hm T L n i R S) (e : isW T L (tS T L i) 4 = true) : ∃ hc' hm', jR_contractLine hc = some hc' ∧ (jM_begins hm 4 (if R 6 < 4 then 1 else 0) 5 1).bind (fun q1 => jM_contractLine q1.2) = some hm' ∧ LnO hc hm hc' hm' T L n i := by
  obtain ⟨G, C, M, I⟩ := X
  have i1 := I.1
  have i2 := I.2.1
  by_cases h9 : R 6 < 4
  · have e9 : gI hc 3 (gB hc 2).toNat 6 < 4 := by
      rw [C.1.1.2.2.2.2.2.2]
      exact (nI_ltI (by omega) (show 4 < 2 ^ 31 by decide)).2 h9
    by_cases h0 : R 0 = 0
    · obtain ⟨h', b1, b2⟩ := contract_bad (RG_bad G hL (f := 6) (by omega))
      refine ⟨h', _, ?_, ?_, head_fail hL G (by omega) b2⟩
      · rw [jR_contractLine, if_pos e9, jR_contractLine_16, c_isTold2 C.1.1.1 (by omega), obind, if_pos h0, if_pos (show nI 0 = (0 : Int32) from rfl), show jR_fail hc 6 = _ from c_fail_t G.2.2.2.1 6, obind, b1]
      · rw [if_pos h9, m_begins_6 (R := R) G (M.1 0 (by omega)) h0 (by decide) e, obind, (m_lines_bad (wrH_13 _ _ _)).2.2.2.1]
    · obtain ⟨m1, a1, a2, a3⟩ := m_begins_t (R := R) hb hL G (M.1 0 (by omega)) (by omega) (t := 4) (by decide) e 5 1 (Or.inr h0)
      obtain ⟨hc', hm', b1, b2, b3⟩ := l_contract hb hL a3 C (SBm_r M a2) I h0 h9
      refine ⟨hc', hm', ?_, ?_, LnO_next a2 b3⟩
      · rw [jR_contractLine, if_pos e9, jR_contractLine_16, c_isTold2 C.1.1.1 (by omega), obind, if_neg h0, if_neg (by decide), b1]
      · rw [if_pos h9, a1, obind, b2]
  · have C6 := SBc_r C (FcR_f hc 5)
    obtain ⟨h', b1, b2⟩ := contract_bad (RG_bad G hL (f := 5) (by omega))
    refine ⟨h', _, ?_, ?_, head_fail hL G (by omega) b2⟩
    · rw [jR_contractLine, C.1.1.2.2.2.2.2.2, if_neg (show ¬ nI (R 6) < 4 from fun z => h9 ((nI_ltI (by omega) (show 4 < 2 ^ 31 by decide)).1 (z : nI (R 6) < nI 4))), show jR_fail hc 5 = _ from c_fail_t G.2.2.2.1 5, obind, jR_contractLine_16, show jB_isTold (flH hc 5) (gB (flH hc 5) 2).toNat = _ from c_isTold2 C6.1.1.1 (by omega), obind, if_neg (show ¬ R 0 = 0 by omega), if_neg (by decide), b1]
    · rw [if_neg h9, show jM_begins hm 4 0 5 1 = _ from m_begins_b (R := R) G (M.1 0 (by omega)) (by decide) e 5 1, obind, (m_lines_bad (wrH_13 _ _ _)).2.2.2.1]
theorem p_wantl (hb : ∀ i, T i < 256) (hL : L ≤ 900) (X : LnS hc hm T L n i R S) (e : isW T L (tS T L i) 5 = true) : ∃ hc' hm', jR_wantLine hc = some hc' ∧ (jM_begins hm 5 (if R 70 = 0 then 1 else 0) 3 1).bind (fun q1 => jM_wantLine q1.2) = some hm' ∧ LnO hc hm hc' hm' T L n i := by
  obtain ⟨G, C, M, I⟩ := X
  have i1 := I.1
  have i2 := I.2.1
  have N : NmI R := I.2.2.2.2.2.2.2
  by_cases h9 : R 70 = 0
  · have e9 : gI hc 3 (gB hc 2).toNat 7 = 0 := by
      rw [C.2.2.1, h9]
      rfl
    by_cases h0 : R 0 = 0
    · obtain ⟨h', b1, b2⟩ := want_bad (RG_bad G hL (f := 6) (by omega)) (NmC_r C.2.2.2.1 (FcR_f hc 6)) N
      refine ⟨h', _, ?_, ?_, head_fail hL G (by omega) b2⟩
      · rw [jR_wantLine, if_pos e9, jR_wantLine_15, c_isTold2 C.1.1.1 (by omega), obind, if_pos h0, if_pos (show nI 0 = (0 : Int32) from rfl), show jR_fail hc 6 = _ from c_fail_t G.2.2.2.1 6, obind, b1]
      · rw [if_pos h9, m_begins_6 (R := R) G (M.1 0 (by omega)) h0 (by decide) e, obind, (m_lines_bad (wrH_13 _ _ _)).2.2.2.2]
    · obtain ⟨m1, a1, a2, a3⟩ := m_begins_t (R := R) hb hL G (M.1 0 (by omega)) (by omega) (t := 5) (by decide) e 3 1 (Or.inr h0)
      obtain ⟨hc', hm', b1, b2, b3⟩ := l_want hb hL a3 C (SBm_r M a2) I h0
      refine ⟨hc', hm', ?_, ?_, LnO_next a2 b3⟩
      · rw [jR_wantLine, if_pos e9, jR_wantLine_15, c_isTold2 C.1.1.1 (by omega), obind, if_neg h0, if_neg (by decide), b1]
      · rw [if_pos h9, a1, obind, b2]
  · have C6 := SBc_r C (FcR_f hc 3)
    obtain ⟨h', b1, b2⟩ := want_bad (RG_bad G hL (f := 3) (by omega)) (NmC_r C.2.2.2.1 (FcR_f hc 3)) N
    refine ⟨h', _, ?_, ?_, head_fail hL G (by omega) b2⟩
    · rw [jR_wantLine, C.2.2.1, if_neg (show ¬ nI (R 70) = 0 from fun z => h9 ((nI_eq (by omega) (show 0 < 2 ^ 31 by decide)).1 (z : nI (R 70) = nI 0))), show jR_fail hc 3 = _ from c_fail_t G.2.2.2.1 3, obind, jR_wantLine_15, show jB_isTold (flH hc 3) (gB (flH hc 3) 2).toNat = _ from c_isTold2 C6.1.1.1 (by omega), obind, if_neg (show ¬ R 0 = 0 by omega), if_neg (by decide), b1]
    · rw [if_neg h9, show jM_begins hm 5 0 3 1 = _ from m_begins_b (R := R) G (M.1 0 (by omega)) (by decide) e 3 1, obind, (m_lines_bad (wrH_13 _ _ _)).2.2.2.2]
end
