/-! ===== pure: feed ===== -/
def bnt (v : Int32) (s : Nat) : Nat := (v >>> nI s).toBitVec.toNat % 256
theorem byte_eq (x : Int32) : vp_nar .byte (x.toInt8.toInt32) = sbt (x.toBitVec.toNat % 256) := by
  have h1 : vp_nar .byte (x.toInt8.toInt32) = x.toInt8.toInt32 := by
    unfold vp_nar
    rw [pk_nb]
  rw [h1]
  unfold sbt
  have h2 : x.toInt8 = (nI (x.toBitVec.toNat % 256)).toInt8 := by
    apply Int8.toBitVec_inj.mp
    apply BitVec.eq_of_toNat_eq
    show (x.toBitVec.signExtend 8).toNat = ((nI (x.toBitVec.toNat % 256)).toBitVec.signExtend 8).toNat
    rw [BitVec.signExtend_eq_setWidth_of_le _ (by decide), BitVec.signExtend_eq_setWidth_of_le _ (by decide), BitVec.toNat_setWidth, BitVec.toNat_setWidth, nI_bv, BitVec.toNat_ofNat]
    omega
  rw [h2]
def arf (a b c d e : Int32) (q : Nat) : Int32 := if q < 4 then a else if q < 8 then b else if q < 12 then c else if q < 16 then d else e
def cfd (h : AH) (tp : Nat) (F : Nat → Nat) (k : Nat) : AH := uI (aI h 1 0 (fun j => if tp ≤ j ∧ j < tp + k then sbt (F (j - tp)) else gI h 1 0 j)) 0 0 1 (nI (tp + k))
theorem cfd_s (h : AH) (tp : Nat) (F : Nat → Nat) (k : Nat) : uI (uI (cfd h tp F k) 1 0 (tp + k) (sbt (F k))) 0 0 1 (nI (tp + k + 1)) = cfd h tp F (k + 1) := by
  refine Prod.ext ?_ rfl
  funext a b c
  show (if a = 0 ∧ b = 0 ∧ c = 1 then nI (tp + k + 1) else if a = 1 ∧ b = 0 ∧ c = tp + k then sbt (F k) else if a = 0 ∧ b = 0 ∧ c = 1 then nI (tp + k) else if a = 1 ∧ b = 0 then (if tp ≤ c ∧ c < tp + k then sbt (F (c - tp)) else gI h 1 0 c) else h.1 a b c) = (if a = 0 ∧ b = 0 ∧ c = 1 then nI (tp + (k + 1)) else if a = 1 ∧ b = 0 then (if tp ≤ c ∧ c < tp + (k + 1) then sbt (F (c - tp)) else gI h 1 0 c) else h.1 a b c)
  by_cases h1 : a = 0 ∧ b = 0 ∧ c = 1
  · rw [if_pos h1, if_pos h1]; rfl
  · rw [if_neg h1, if_neg h1, if_neg h1]
    by_cases h2 : a = 1 ∧ b = 0
    · rw [if_pos h2, if_pos h2]
      by_cases h3 : c = tp + k
      · rw [if_pos ⟨h2.1, h2.2, h3⟩, if_pos (by omega), h3, show tp + k - tp = k by omega]
      · rw [if_neg (fun z => h3 z.2.2)]
        by_cases h4 : tp ≤ c ∧ c < tp + k
        · rw [if_pos h4, if_pos (by omega)]
        · rw [if_neg h4, if_neg (by omega)]
    · rw [if_neg h2, if_neg h2, if_neg (fun z => h2 ⟨z.1, z.2.1⟩)]
theorem cfd_tp (h : AH) (tp : Nat) (F : Nat → Nat) (k : Nat) : gI (cfd h tp F k) 0 0 1 = nI (tp + k) := gI_uI_s _ _ _ _ _
theorem c_tape1 {h : AH} {tp k s fu : Nat} {F : Nat → Nat} {v : Int32} (hk : tp + k < 900) (hs : s < 32) (hF : F k = bnt v s) : jX_tapeNumber_3 v (fu + 1) (nI s) (cfd h tp F k) = jX_tapeNumber_3 v fu (nI s + -nI 8) (cfd h tp F (k + 1)) := by
  rw [jX_tapeNumber_3, cfd_tp]
  simp (disch := omega) only [litI, nI_ltI, Nat.not_lt_zero, if_false, if_pos, inb_nI, nI_clamp, if_true, jbn, nI_and, and31, gI_uI_n, cfd_tp, nI_add]
  rw [byte_eq, show (v >>> nI s).toBitVec.toNat % 256 = F k from hF.symm, cfd_s]
theorem c_tapeN {h : AH} {tp k : Nat} {F : Nat → Nat} {v : Int32} (hk : tp + k + 4 ≤ 900) (h0 : F k = bnt v 24) (h1 : F (k + 1) = bnt v 16) (h2 : F (k + 2) = bnt v 8) (h3 : F (k + 3) = bnt v 0) : jX_tapeNumber (cfd h tp F k) v = some (cfd h tp F (k + 4)) := by
  unfold jX_tapeNumber
  rw [show (24 : Int32) = nI 24 from rfl, show FU = 9995 + 1 + 1 + 1 + 1 + 1 from rfl, c_tape1 (by omega) (by omega) h0, show nI 24 + -nI 8 = nI 16 by decide, c_tape1 (by omega) (by omega) h1, show nI 16 + -nI 8 = nI 8 by decide, c_tape1 (by omega) (by omega) h2, show nI 8 + -nI 8 = nI 0 by decide, c_tape1 (by omega) (by omega) h3, jX_tapeNumber_3, if_pos (show nI 0 + -nI 8 < 0 by decide)]
def mfd (h : AH) (tp : Nat) (F : Nat → Nat) (k : Nat) : AH := uI (aI h 33 0 (fun j => if tp ≤ j ∧ j < tp + k then nI (F (j - tp)) else gI h 33 0 j)) 32 0 2 (nI (tp + k))
theorem mfd_s (h : AH) (tp : Nat) (F : Nat → Nat) (k : Nat) : uI (uI (mfd h tp F k) 33 0 (tp + k) (nI (F k))) 32 0 2 (nI (tp + k + 1)) = mfd h tp F (k + 1) := by
  refine Prod.ext ?_ rfl
  funext a b c
  show (if a = 32 ∧ b = 0 ∧ c = 2 then nI (tp + k + 1) else if a = 33 ∧ b = 0 ∧ c = tp + k then nI (F k) else if a = 32 ∧ b = 0 ∧ c = 2 then nI (tp + k) else if a = 33 ∧ b = 0 then (if tp ≤ c ∧ c < tp + k then nI (F (c - tp)) else gI h 33 0 c) else h.1 a b c) = (if a = 32 ∧ b = 0 ∧ c = 2 then nI (tp + (k + 1)) else if a = 33 ∧ b = 0 then (if tp ≤ c ∧ c < tp + (k + 1) then nI (F (c - tp)) else gI h 33 0 c) else h.1 a b c)
  by_cases h1 : a = 32 ∧ b = 0 ∧ c = 2
  · rw [if_pos h1, if_pos h1]; rfl
  · rw [if_neg h1, if_neg h1, if_neg h1]
    by_cases h2 : a = 33 ∧ b = 0
    · rw [if_pos h2, if_pos h2]
      by_cases h3 : c = tp + k
      · rw [if_pos ⟨h2.1, h2.2, h3⟩, if_pos (by omega), h3, show tp + k - tp = k by omega]
      · rw [if_neg (fun z => h3 z.2.2)]
        by_cases h4 : tp ≤ c ∧ c < tp + k
        · rw [if_pos h4, if_pos (by omega)]
        · rw [if_neg h4, if_neg (by omega)]
    · rw [if_neg h2, if_neg h2, if_neg (fun z => h2 ⟨z.1, z.2.1⟩)]
theorem mfd_tp (h : AH) (tp : Nat) (F : Nat → Nat) (k : Nat) : gI (mfd h tp F k) 32 0 2 = nI (tp + k) := gI_uI_s _ _ _ _ _
def fdF (a b c d e : Int32) (k : Nat) : Nat := bnt (arf a b c d e k) (24 - 8 * (k % 4))
theorem m_feed23 {h : AH} {tp : Nat} {a b c d e : Int32} (htp : tp + 20 ≤ 900) (h2 : gI h 32 0 2 = nI tp) : jM_feed_23 a b c d e FU (nI 0) h = some (nI (tp + 20), mfd h tp (fdF a b c d e) 20) := by
  have e76 : ∀ K k s0, k < 20 → s0 = arf a b c d e k → jM_feed_76 a b c d e K (nI k) s0 (mfd h tp (fdF a b c d e) k) = K (nI (k + 1)) (mfd h tp (fdF a b c d e) (k + 1)) := by
    rintro K k s0 hk rfl
    have hm4 := Nat.mod_lt k (show 0 < 4 by omega)
    unfold jM_feed_76
    rw [if_neg (show ¬ ((4 : Nat) = 0) by decide), mfd_tp]
    simp only [litI]
    rw [pk_rem (by omega) (by omega) (by omega), pk_mul, pk_sub (by omega), nI_and, and31 (by omega), pk_and _ (m := nI 255) 8 (by decide)]
    simp (disch := omega) only [inb_nI, nI_clamp, if_true, jbn, gI_uI_n, mfd_tp, nI_add]
    rw [show (arf a b c d e k >>> nI (24 - 8 * (k % 4))).toBitVec.toNat % 2 ^ 8 = fdF a b c d e k from rfl, mfd_s]
  have key := up_ind (P := fun fu k => jM_feed_23 a b c d e fu (nI k) (mfd h tp (fdF a b c d e) k) = some (nI (tp + 20), mfd h tp (fdF a b c d e) 20)) 20 (fun fu => ?_) (fun fu k hk ih => ?_) 20 0 FU rfl (by decide)
  · have e0 : mfd h tp (fdF a b c d e) 0 = h := by
      unfold mfd
      rw [aI_id (fun c => if_neg (by omega))]
      refine Prod.ext ?_ rfl
      funext x y z
      show (if x = 32 ∧ y = 0 ∧ z = 2 then nI (tp + 0) else h.1 x y z) = h.1 x y z
      by_cases hh : x = 32 ∧ y = 0 ∧ z = 2
      · rw [if_pos hh, hh.1, hh.2.1, hh.2.2]; exact h2.symm
      · rw [if_neg hh]
    rw [e0] at key
    exact key
  · rw [jM_feed_23, mfd_tp]
    simp (disch := omega) only [litI, nI_ltI, if_neg]
  · rw [jM_feed_23]
    simp (disch := omega) only [litI, nI_ltI, if_pos]
    by_cases q1 : k < 4
    · rw [if_pos q1, e76 _ k _ hk (by unfold arf; rw [if_pos q1])]; exact ih
    · rw [if_neg q1]
      by_cases q2 : k < 8
      · rw [if_pos q2, e76 _ k _ hk (by unfold arf; rw [if_neg q1, if_pos q2])]; exact ih
      · rw [if_neg q2]
        by_cases q3 : k < 12
        · rw [if_pos q3, e76 _ k _ hk (by unfold arf; rw [if_neg q1, if_neg q2, if_pos q3])]; exact ih
        · rw [if_neg q3]
          by_cases q4 : k < 16
          · rw [if_pos q4, e76 _ k _ hk (by unfold arf; rw [if_neg q1, if_neg q2, if_neg q3, if_pos q4])]; exact ih
          · rw [if_neg q4, e76 _ k _ hk (by unfold arf; rw [if_neg q1, if_neg q2, if_neg q3, if_neg q4])]; exact ih
theorem op_feed : so_feed Rel := by
  intro hc hm hr a b c d e
  have hr2 := RelT hr (nI 0)
  obtain ⟨R, S, U, K, T, tp, un, im, nx, fa, tr, pl, V, A, C, M, htr, h10, h11, h4⟩ := hr
  have hle := V.2.2.2.2.1
  have ht1 := A.2.2.2.1.1
  have M1 : MA (uI hm 32 0 0 (nI 0)) R S U K T tp un im fa := MA_of M (fun k i j hk => gI_uI_n (by omega))
  by_cases hfull : tp ≤ 880
  · have e0 : cfd hc tp (fdF a b c d e) 0 = hc := by
      unfold cfd
      rw [aI_id (fun c => if_neg (by omega))]
      refine Prod.ext ?_ rfl
      funext x y z
      show (if x = 0 ∧ y = 0 ∧ z = 1 then nI (tp + 0) else hc.1 x y z) = hc.1 x y z
      by_cases hh : x = 0 ∧ y = 0 ∧ z = 1
      · rw [if_pos hh, hh.1, hh.2.1, hh.2.2]; exact ht1.symm
      · rw [if_neg hh]
    have V2 : Inv R S U K (fun i => if tp ≤ i ∧ i < tp + 20 then fdF a b c d e (i - tp) else T i) (tp + 20) un im nx fa := by
      obtain ⟨v1, v2, v3, v4, v5, v6, v7⟩ := V
      refine ⟨v1, v2, v3, v4, by omega, fun i => ?_, v7⟩
      show (if _ then _ else _) < 256
      split
      · exact Nat.mod_lt _ (by omega)
      · exact v6 i
    have ec : ∀ k i j, ¬ (k = 1 ∧ i = 0) → ¬ (k = 0 ∧ i = 0 ∧ j = 1) → gI (cfd hc tp (fdF a b c d e) 20) k i j = gI hc k i j := fun k i j q1 q2 => (gI_uI_n q2).trans (gI_aI_n q1)
    have A2 : CA (cfd hc tp (fdF a b c d e) 20) R S U K (fun i => if tp ≤ i ∧ i < tp + 20 then fdF a b c d e (i - tp) else T i) (tp + 20) un im nx fa := by
      obtain ⟨a1, a2, a3, a4, a5, a6, a7⟩ := A
      have ew : ∀ w S, WkC hc w S → WkC (cfd hc tp (fdF a b c d e) 20) w S := fun w S W => WkC_of W (fun k j hk => ec k w j (by omega) (by omega))
      refine ⟨BkC_of a1 (fun k j hk => ec k _ j (by omega) (by omega)), ew _ _ a2, a3, ⟨cfd_tp _ _ _ _, fun i hi => ?_⟩, ⟨(ec 21 0 0 (by omega) (by omega)).trans a5.1, (ec 21 0 1 (by omega) (by omega)).trans a5.2.1, fun i hi => ew _ _ (a5.2.2 i hi)⟩, ⟨(ec 0 0 7 (by omega) (by omega)).trans a6.1, fun i hi => ew _ _ (a6.2 i hi)⟩, (ec 2 0 0 (by omega) (by omega)).trans a7⟩
      unfold cfd
      rw [gI_uI_n (by omega), gI_aI_s]
      show (if _ then _ else _) = sbt (if tp ≤ i ∧ i < tp + 20 then _ else _)
      by_cases hq : tp ≤ i ∧ i < tp + 20
      · rw [if_pos hq, if_pos hq]
      · rw [if_neg hq, if_neg hq]
        exact a4.2 i (by omega)
    have em : ∀ k i j, ¬ (k = 33 ∧ i = 0) → ¬ (k = 32 ∧ i = 0 ∧ j = 2) → gI (mfd (uI hm 32 0 0 (nI 0)) tp (fdF a b c d e) 20) k i j = gI (uI hm 32 0 0 (nI 0)) k i j := fun k i j q1 q2 => (gI_uI_n q2).trans (gI_aI_n q1)
    have M2 : MA (mfd (uI hm 32 0 0 (nI 0)) tp (fdF a b c d e) 20) R S U K (fun i => if tp ≤ i ∧ i < tp + 20 then fdF a b c d e (i - tp) else T i) (tp + 20) un im fa := by
      obtain ⟨a1, a2, a3, a4, a5, a6, a7, a8, a9⟩ := M1
      refine ⟨fun i hi => (em 35 0 i (by omega) (by omega)).trans (a1 i hi), fun i hi => (em 37 0 i (by omega) (by omega)).trans (a2 i hi), fun i hi => (em 40 0 i (by omega) (by omega)).trans (a3 i hi), fun i hi => (em 41 0 i (by omega) (by omega)).trans (a4 i hi), ⟨mfd_tp _ _ _ _, fun i hi => ?_⟩, (em 32 0 22 (by omega) (by omega)).trans a6, (em 32 0 23 (by omega) (by omega)).trans a7, (em 32 0 9 (by omega) (by omega)).trans a8, (em 32 0 14 (by omega) (by omega)).trans a9⟩
      unfold mfd
      rw [gI_uI_n (by omega), gI_aI_s]
      show (if _ then _ else _) = nI (if tp ≤ i ∧ i < tp + 20 then _ else _)
      by_cases hq : tp ≤ i ∧ i < tp + 20
      · rw [if_pos hq, if_pos hq]
      · rw [if_neg hq, if_neg hq]
        exact a5.2 i (by omega)
    refine ⟨nI (tp + 20), cfd hc tp (fdF a b c d e) 20, mfd (uI hm 32 0 0 (nI 0)) tp (fdF a b c d e) 20, ?_, ?_, R, S, U, K, _, tp + 20, un, im, nx, fa, tr, pl, V2, A2, Cch_of C (fun k i j hk => ec k i j (by omega) (by omega)), M2, htr, (ec 0 0 10 (by omega) (by omega)).trans h10, (em 32 0 11 (by omega) (by omega)).trans ((gI_uI_n (by omega)).trans h11), fun z => ⟨(ec 2 0 1 (by omega) (by omega)).trans (h4 z).1, (em 32 0 10 (by omega) (by omega)).trans ((gI_uI_n (by omega)).trans (h4 z).2)⟩⟩
    · have q0 := c_tapeN (h := hc) (tp := tp) (k := 0) (F := fdF a b c d e) (v := a) (by omega) rfl rfl rfl rfl
      have q1 := c_tapeN (h := hc) (tp := tp) (k := 4) (F := fdF a b c d e) (v := b) (by omega) rfl rfl rfl rfl
      have q2 := c_tapeN (h := hc) (tp := tp) (k := 8) (F := fdF a b c d e) (v := c) (by omega) rfl rfl rfl rfl
      have q3 := c_tapeN (h := hc) (tp := tp) (k := 12) (F := fdF a b c d e) (v := d) (by omega) rfl rfl rfl rfl
      have q4 := c_tapeN (h := hc) (tp := tp) (k := 16) (F := fdF a b c d e) (v := e) (by omega) rfl rfl rfl rfl
      rw [e0] at q0
      unfold jX_feed
      rw [ht1]
      simp (disch := omega) only [litI, nI_leI, if_pos]
      rw [q0, obind, q1, obind, q2, obind, q3, obind, q4, obind, cfd_tp]
    · unfold jM_feed
      simp only [jbn, litI]
      rw [M1.2.2.2.2.1.1]
      simp (disch := omega) only [nI_add, nI_leI, if_pos]
      exact m_feed23 (by omega) M1.2.2.2.2.1.1
  · refine ⟨-nI 1, hc, uI hm 32 0 0 (nI 0), ?_, ?_, hr2⟩
    · unfold jX_feed
      rw [ht1]
      simp (disch := omega) only [litI, nI_leI, if_neg]
    · unfold jM_feed
      simp only [jbn, litI]
      rw [M1.2.2.2.2.1.1]
      simp (disch := omega) only [nI_add, nI_leI, if_neg]
