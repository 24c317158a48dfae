/-! ===== pure: looking ahead ===== -/
theorem jbn {β γ : Type} (x : β) (f : β → γ) : jb x f = f x := by
  rw [jb]
def LawT (h : AH) (R : Nat → Nat) : Prop := ∀ j, j < 2 ^ nC R → gI h 29 0 j = nI (if lawK R j = 0 then 1 else 0)
def bar2 (R : Nat → Nat) (y L : Nat) : Nat := if hco R y (R 4) = true then brd R y L (R 6) else 2 ^ nC R - 1
theorem bar2_lt (R : Nat → Nat) (y L : Nat) : bar2 R y L < 2 ^ nC R := by
  unfold bar2
  split
  · exact brd_lt _ _ _ _
  · exact full_lt _
def PlF (h : AH) (R S : Nat → Nat) (y L : Nat) : Prop := gI h 28 0 1 = nI 1 ∧ LawT h R ∧ gI h 28 0 6 = nI (2 ^ nC R) ∧ gI h 28 0 7 = nI (alk R S) ∧ gI h 28 0 8 = nI (pay R y) ∧ gI h 28 0 9 = nI (bD (wnt R) (pay R y)) ∧ gI h 28 0 10 = nI (bar2 R y L)
/-- the plan's cells alone have changed -/
def FrL (h h' : AH) : Prop := (∀ k i j, ¬ (k = 28 ∧ i = 0 ∧ (j = 1 ∨ 6 ≤ j ∧ j ≤ 10)) → ¬ (k = 29 ∧ i = 0) → gI h' k i j = gI h k i j) ∧ h'.2 = h.2
theorem FrL.trans {a b c : AH} (h1 : FrL a b) (h2 : FrL b c) : FrL a c := ⟨fun k i j q r => (h2.1 k i j q r).trans (h1.1 k i j q r), h2.2.trans h1.2⟩
theorem FrL_u (h : AH) (j : Nat) (v : Int32) (hj : j = 1 ∨ 6 ≤ j ∧ j ≤ 10) : FrL h (uI h 28 0 j v) := ⟨fun k i c q _ => gI_uI_n (fun z => q ⟨z.1, z.2.1, by rw [z.2.2]; exact hj⟩), rfl⟩
theorem FrL_a (h : AH) (f : Nat → Int32) : FrL h (aI h 29 0 f) := ⟨fun k i c _ r => gI_aI_n r, rfl⟩
section C
variable {h : AH} {b w : Nat} {S R : Nat → Nat}
theorem FrL.B {h' : AH} (F : FrL h h') (B : BkC h b R) : BkC h' b R := BkC_of B (fun k j hk => F.1 k b j (by omega) (by omega))
theorem FrL.W {h' : AH} (F : FrL h h') (W : WkC h w S) : WkC h' w S := WkC_of W (fun k j hk => F.1 k w j (by omega) (by omega))
theorem c_learn (B : BkC h b R) (I : BkI R) (h0 : 1 ≤ R 0) (hn : nC R ≤ 12) (hs : gI h 28 0 6 = nI (2 ^ nC R)) (hk : gI h 28 0 1 = nI 0 ∨ gI h 28 0 1 = nI 1 ∧ LawT h R) : ∃ h', jQ_learnLaw h b = some h' ∧ FrL h h' ∧ gI h' 28 0 1 = nI 1 ∧ LawT h' R ∧ gI h' 28 0 6 = nI (2 ^ nC R) := by
  rcases hk with hk | ⟨hk, hT⟩
  · refine ⟨_, c_learnLaw B I h0 hn hs hk, (FrL_a h _).trans (FrL_u _ 1 _ (Or.inl rfl)), gI_uI_s _ _ _ _ _, fun j hj => ?_, ?_⟩
    · rw [gI_uI_n (by omega), gI_aI_s]
      exact if_pos hj
    · rw [gI_uI_n (by omega), gI_aI_n (by omega)]
      exact hs
  · refine ⟨h, ?_, ⟨fun _ _ _ _ _ => rfl, rfl⟩, hk, hT, hs⟩
    unfold jQ_learnLaw
    rw [hk]
    rfl
theorem c_look (B : BkC h b R) (I : BkI R) (W : WkC h w S) (WI : WkI R S) (h0 : 1 ≤ R 0) (hn : nC R ≤ 12) {y L : Nat} {lo : Int32} (hy : y < 1000) (hlo : ∀ k, k < 4 → (nI k = lo ↔ k = L)) (hk : gI h 28 0 1 = nI 0 ∨ gI h 28 0 1 = nI 1 ∧ LawT h R) : ∃ h', jQ_look h b w (nI y) lo = some h' ∧ FrL h h' ∧ PlF h' R S y L := by
  have hR := Rsm I
  have hp : 2 ^ nC R ≤ 2 ^ 12 := Nat.pow_le_pow_right (by decide) hn
  have hp0 := Nat.two_pow_pos (nC R)
  have F1 : FrL h (uI h 28 0 6 (nI (2 ^ nC R))) := FrL_u h 6 _ (by omega)
  obtain ⟨h3, l1, F3, k1, kT, k6⟩ := c_learn (F1.B B) I h0 hn (gI_uI_s _ _ _ _ _) (by
    rcases hk with z | ⟨z, zT⟩
    · exact Or.inl ((gI_uI_n (by omega)).trans z)
    · exact Or.inr ⟨(gI_uI_n (by omega)).trans z, fun j hj => (gI_uI_n (by omega)).trans (zT j hj)⟩)
  have F13 := F1.trans F3
  have B3 := F13.B B
  have W3 := F13.W W
  have e80 : ∀ m, jQ_look_80 b (nI y) lo (uI (uI h3 28 0 7 (nI (alk R S))) 28 0 8 (nI m)) = some (uI (uI (uI (uI h3 28 0 7 (nI (alk R S))) 28 0 8 (nI m)) 28 0 9 (nI (bD (wnt R) m))) 28 0 10 (nI (bar2 R y L))) := by
    intro m
    have Fa : FrL h3 (uI (uI h3 28 0 7 (nI (alk R S))) 28 0 8 (nI m)) := (FrL_u _ 7 _ (by omega)).trans (FrL_u _ 8 _ (by omega))
    have Fb : FrL h3 (uI (uI (uI h3 28 0 7 (nI (alk R S))) 28 0 8 (nI m)) 28 0 9 (nI (bD (wnt R) m))) := Fa.trans (FrL_u _ 9 _ (by omega))
    unfold jQ_look_80 bar2
    rw [c_wantedCells (Fa.B B3) I, obind, gI_uI_s]
    simp only [litI, nI_dif, jbn]
    rw [c_hadAny (Fb.B B3) I (by omega), obind]
    cases hco R y (R 4)
    · simp only [Bool.toNat_false, if_true]
      rw [c_allCells (Fb.B B3) I, obind]
      rfl
    · simp (disch := omega) only [Bool.toNat_true, nI_eq, if_neg]
      rw [c_guardedIn (Fb.B B3) I (by omega) hlo, obind]
      rfl
  have e38 : jQ_look_38 b (nI y) lo FU (nI 0) (uI (uI h3 28 0 7 (nI (alk R S))) 28 0 8 (nI 0)) = some (uI (uI (uI (uI h3 28 0 7 (nI (alk R S))) 28 0 8 (nI (pay R y))) 28 0 9 (nI (bD (wnt R) (pay R y)))) 28 0 10 (nI (bar2 R y L))) := by
    refine up_ind (P := fun n k => jQ_look_38 b (nI y) lo n (nI k) (uI (uI h3 28 0 7 (nI (alk R S))) 28 0 8 (nI (bM (fun c => decide (R (46 + c) ≠ 0) && decide (R (16 + R (46 + c)) ≤ y)) k))) = some (uI (uI (uI (uI h3 28 0 7 (nI (alk R S))) 28 0 8 (nI (pay R y))) 28 0 9 (nI (bD (wnt R) (pay R y)))) 28 0 10 (nI (bar2 R y L)))) (nC R) (fun n => ?_) (fun n k hk ih => ?_) (nC R) 0 FU (by omega) (FU_lt (by omega))
    · have Fa : FrL h3 (uI (uI h3 28 0 7 (nI (alk R S))) 28 0 8 (nI (bM (fun c => decide (R (46 + c) ≠ 0) && decide (R (16 + R (46 + c)) ≤ y)) (nC R)))) := (FrL_u _ 7 _ (by omega)).trans (FrL_u _ 8 _ (by omega))
      rw [jQ_look_38]
      simp (disch := omega) only [c_cells (Fa.B B3), obind, nI_ltI, if_neg]
      exact e80 (pay R y)
    · have h1 := (I.2.2.2 k (by omega)).1
      generalize hm : bM (fun c => decide (R (46 + c) ≠ 0) && decide (R (16 + R (46 + c)) ≤ y)) k = m at ih
      have Fa : FrL h3 (uI (uI h3 28 0 7 (nI (alk R S))) 28 0 8 (nI m)) := (FrL_u _ 7 _ (by omega)).trans (FrL_u _ 8 _ (by omega))
      rw [jQ_look_38]
      simp (disch := omega) only [litI, c_cells (Fa.B B3), obind, nI_ltI, if_pos, c_wantedAt (Fa.B B3) I hk, c_hadComeUp (Fa.B B3) I h1 (y := y), nI_add, jbn, gI_uI_s, uI_uI, nI_and, and31, nI_bit, nI_or]
      by_cases h2 : R (46 + k) ≠ 0 ∧ R (16 + R (46 + k)) ≤ y
      · rw [show (if R (46 + k) ≠ 0 ∧ R (16 + R (46 + k)) ≤ y then 1 else 0) = 1 from if_pos h2]
        rw [bM_t (by simp [h2.1, h2.2]), hm] at ih
        simp (disch := omega) only [nI_eq, if_neg]
        exact ih
      · rw [show (if R (46 + k) ≠ 0 ∧ R (16 + R (46 + k)) ≤ y then 1 else 0) = 0 from if_neg h2]
        have hf : (decide (R (46 + k) ≠ 0) && decide (R (16 + R (46 + k)) ≤ y)) = false := by
          rw [← Bool.decide_and]
          exact decide_eq_false h2
        rw [bM_f hf, hm] at ih
        simp (disch := omega) only [nI_eq, if_true]
        exact ih
  have Fz : FrL h3 (uI (uI (uI (uI h3 28 0 7 (nI (alk R S))) 28 0 8 (nI (pay R y))) 28 0 9 (nI (bD (wnt R) (pay R y)))) 28 0 10 (nI (bar2 R y L))) := (((FrL_u _ 7 _ (by omega)).trans (FrL_u _ 8 _ (by omega))).trans (FrL_u _ 9 _ (by omega))).trans (FrL_u _ 10 _ (by omega))
  refine ⟨_, ?_, F13.trans Fz, ?_, fun j hj => ?_, ?_, ?_, ?_, ?_, ?_⟩
  · unfold jQ_look mmin
    rw [c_allCells B I, obind]
    simp (disch := omega) only [litI, nI_add, Nat.sub_add_cancel, nI_ltI, if_neg, jbn]
    rw [l1, obind, c_alikeCells B3 I W3 WI, obind]
    exact e38
  · rw [gI_uI_n (by omega), gI_uI_n (by omega), gI_uI_n (by omega), gI_uI_n (by omega)]
    exact k1
  · rw [gI_uI_n (by omega), gI_uI_n (by omega), gI_uI_n (by omega), gI_uI_n (by omega)]
    exact kT j hj
  · rw [gI_uI_n (by omega), gI_uI_n (by omega), gI_uI_n (by omega), gI_uI_n (by omega)]
    exact k6
  · rw [gI_uI_n (by omega), gI_uI_n (by omega), gI_uI_n (by omega), gI_uI_s]
  · rw [gI_uI_n (by omega), gI_uI_n (by omega), gI_uI_s]
  · rw [gI_uI_n (by omega), gI_uI_s]
  · rw [gI_uI_s]
/-! what a work in that year can be -/
def adm (R : Nat → Nat) (sh x : Nat) : Bool := decide (x &&& sh = 0) && decide (lawK R x = 0)
def alb (A P x : Nat) : Nat := bP (bD A x ||| (P &&& x)) 24
theorem c_mayPaint (hT : LawT h R) (hn : nC R ≤ 12) {x sh : Nat} (hx : x < 2 ^ nC R) : jQ_mayPaint h (nI x) (nI sh) = some (nI (adm R sh x).toNat) := by
  have hp : 2 ^ nC R ≤ 2 ^ 12 := Nat.pow_le_pow_right (by decide) hn
  have ha : x &&& sh < 2 ^ 31 := Nat.lt_of_le_of_lt Nat.and_le_left (by omega)
  unfold jQ_mayPaint adm
  simp (disch := omega) only [litI, nI_and, nI_eq, inb_nI, nI_clamp, hT x hx, if_true]
  by_cases h1 : x &&& sh = 0
  · by_cases h2 : lawK R x = 0
    · simp only [h1, h2, if_true, decide_true, Bool.and_true, Bool.toNat_true]
      rfl
    · simp only [h1, h2, if_true, if_false, decide_true, decide_false, Bool.and_false, Bool.toNat_false]
  · simp only [h1, if_false, decide_false, Bool.false_and, Bool.toNat_false]
theorem alb_lt {A P x n : Nat} (hA : A < 2 ^ n) (hP : P < 2 ^ n) : bD A x ||| (P &&& x) < 2 ^ n := Nat.or_lt_two_pow (bD_lt hA) (Nat.lt_of_le_of_lt Nat.and_le_left hP)
theorem c_alikeBehind (I : BkI R) {A P x : Nat} (h7 : gI h 28 0 7 = nI A) (h8 : gI h 28 0 8 = nI P) (hA : A < 2 ^ nC R) (hP : P < 2 ^ nC R) : jQ_alikeBehind h (nI x) = some (nI (alb A P x)) := by
  unfold jQ_alikeBehind alb
  rw [h7, h8]
  simp only [litI, nI_dif, nI_and, nI_or]
  rw [c_bitCount (lt24 I (alb_lt hA hP)), obind]
/-- the best of the sets below k -/
def bsf (R : Nat → Nat) (A P sh : Nat) : Nat → Nat
  | 0 => 0
  | k + 1 => if (alb A P (bsf R A P sh k) < alb A P k ∨ alb A P k = alb A P (bsf R A P sh k) ∧ bP k 24 < bP (bsf R A P sh k) 24) ∧ adm R sh k = true then k else bsf R A P sh k
theorem bsf_lt (R : Nat → Nat) (A P sh : Nat) : ∀ k, bsf R A P sh k < k + 1 := by
  intro k
  induction k with
  | zero => exact Nat.zero_lt_one
  | succ k ih =>
    unfold bsf
    split <;> omega
theorem bsf_1 (R : Nat → Nat) (A P sh : Nat) : bsf R A P sh 1 = 0 := by
  have := bsf_lt R A P sh 0
  have h0 : bsf R A P sh 0 = 0 := rfl
  unfold bsf
  rw [h0]
  split <;> rfl
theorem c_bestCells (I : BkI R) (h0 : 1 ≤ R 0) (hn : nC R ≤ 12) {y L : Nat} (F : PlF h R S y L) : jQ_bestCells h = some (nI (bsf R (alk R S) (pay R y) (bar2 R y L) (2 ^ nC R))) := by
  have hp : 2 ^ nC R ≤ 2 ^ 12 := Nat.pow_le_pow_right (by decide) hn
  have hp0 := Nat.two_pow_pos (nC R)
  obtain ⟨f1, fT, f6, f7, f8, f9, f10⟩ := F
  have ea := fun x => c_alikeBehind (h := h) (x := x) I f7 f8 (alk_lt R S) (pay_lt R y)
  unfold jQ_bestCells
  simp only [litI]
  rw [ea 0, obind]
  have key := up_ind (P := fun n k => 1 ≤ k → jQ_bestCells_10 h n (nI (bsf R (alk R S) (pay R y) (bar2 R y L) k)) (nI (alb (alk R S) (pay R y) (bsf R (alk R S) (pay R y) (bar2 R y L) k))) (nI k) = some (nI (bsf R (alk R S) (pay R y) (bar2 R y L) (2 ^ nC R)))) (2 ^ nC R) (fun n _ => ?_) (fun n k hk ih h1 => ?_) (2 ^ nC R - 1) 1 FU (by omega) (FU_lt (by omega)) (Nat.le_refl _)
  · rw [bsf_1] at key
    exact key
  · rw [jQ_bestCells_10]
    simp (disch := omega) only [f6, nI_ltI, if_neg]
  · have ih := ih (by omega)
    have hb := bsf_lt R (alk R S) (pay R y) (bar2 R y L) k
    have b1 : alb (alk R S) (pay R y) k ≤ 24 := bP_le _ _
    have b2 : alb (alk R S) (pay R y) (bsf R (alk R S) (pay R y) (bar2 R y L) k) ≤ 24 := bP_le _ _
    rw [bsf] at ih
    rw [jQ_bestCells_10]
    generalize hB : bsf R (alk R S) (pay R y) (bar2 R y L) k = bb at hb b2 ih ⊢
    generalize bsf R (alk R S) (pay R y) (bar2 R y L) (2 ^ nC R) = res at ih ⊢
    generalize hX : alb (alk R S) (pay R y) bb = ax at b2 ih ⊢
    have b3 := bP_le bb 24
    have b4 := bP_le k 24
    unfold jQ_bestCells_48 jQ_bestCells_52 jQ_bestCells_53
    simp (disch := omega) only [litI, f6, nI_ltI, if_pos, ea k, obind, c_bitCount (a := k) (by omega), c_bitCount (a := bb) (by omega), f10, c_mayPaint fT hn hk, nI_add]
    generalize hY : alb (alk R S) (pay R y) k = ay at b1 ih ⊢
    simp (disch := omega) only [nI_leI, nI_eq, nI_ltI, if_true, if_neg]
    cases had : adm R (bar2 R y L) k
    · rw [had] at ih
      rw [if_neg (fun z => by simp at z), hX] at ih
      simp only [Bool.toNat_false, if_true]
      split
      · split
        · split <;> exact ih
        · exact ih
      · exact ih
    · rw [had] at ih
      simp (disch := omega) only [Bool.toNat_true, nI_eq, if_neg]
      by_cases c1 : ay ≤ ax
      · rw [if_pos c1]
        by_cases c2 : ay = ax
        · rw [if_pos c2]
          by_cases c3 : bP k 24 < bP bb 24
          · rw [if_pos c3]
            rw [if_pos ⟨Or.inr ⟨c2, c3⟩, rfl⟩, hY] at ih
            exact ih
          · rw [if_neg c3]
            rw [if_neg (by omega), hX] at ih
            exact ih
        · rw [if_neg c2]
          rw [if_neg (by omega), hX] at ih
          exact ih
      · rw [if_neg c1]
        rw [if_pos ⟨Or.inl (by omega), rfl⟩, hY] at ih
        exact ih
/-- the fewest that stay of some cells -/
def lsf (R : Nat → Nat) (sh s : Nat) : Nat → Nat
  | 0 => bP s 24
  | k + 1 => if bP (bD s k) 24 < lsf R sh s k ∧ adm R sh k = true then bP (bD s k) 24 else lsf R sh s k
theorem lsf_le (R : Nat → Nat) (sh s : Nat) : ∀ k, lsf R sh s k ≤ 24 := by
  intro k
  induction k with
  | zero => exact bP_le _ _
  | succ k ih =>
    unfold lsf
    split
    · exact bP_le _ _
    · exact ih
theorem bD_0 (s : Nat) : bD s 0 = s := by
  unfold bD
  rw [Nat.and_zero, Nat.xor_zero]
theorem lsf_1 (R : Nat → Nat) (sh s : Nat) : lsf R sh s 1 = bP s 24 := by
  unfold lsf
  rw [bD_0]
  split
  · rfl
  · rfl
theorem c_fewestLeft (I : BkI R) (hn : nC R ≤ 12) {y L s : Nat} (F : PlF h R S y L) (hs : s < 2 ^ 24) : jQ_fewestLeft h (nI s) = some (nI (lsf R (bar2 R y L) s (2 ^ nC R))) := by
  have hp : 2 ^ nC R ≤ 2 ^ 12 := Nat.pow_le_pow_right (by decide) hn
  have hp0 := Nat.two_pow_pos (nC R)
  obtain ⟨f1, fT, f6, f7, f8, f9, f10⟩ := F
  unfold jQ_fewestLeft
  rw [c_bitCount hs, obind, ← lsf_1 R (bar2 R y L) s]
  refine up_ind (P := fun n k => jQ_fewestLeft_7 h (nI s) n (nI (lsf R (bar2 R y L) s k)) (nI k) = some (nI (lsf R (bar2 R y L) s (2 ^ nC R)))) (2 ^ nC R) (fun n => ?_) (fun n k hk ih => ?_) (2 ^ nC R - 1) 1 FU (by omega) (FU_lt (by omega))
  · rw [jQ_fewestLeft_7]
    simp (disch := omega) only [f6, nI_ltI, if_neg]
  · have b1 := bP_le (bD s k) 24
    have b2 := lsf_le R (bar2 R y L) s k
    rw [lsf] at ih
    rw [jQ_fewestLeft_7]
    simp (disch := omega) only [litI, f6, nI_ltI, if_pos, nI_dif, c_bitCount (a := bD s k) (bD_lt hs), obind, f10, c_mayPaint fT hn hk, nI_add]
    by_cases c1 : bP (bD s k) 24 < lsf R (bar2 R y L) s k
    · rw [if_pos c1]
      cases had : adm R (bar2 R y L) k
      · rw [had] at ih
        rw [if_neg (fun z => by simp at z)] at ih
        simp only [Bool.toNat_false, if_true]
        exact ih
      · rw [had] at ih
        rw [if_pos ⟨c1, rfl⟩] at ih
        simp (disch := omega) only [Bool.toNat_true, nI_eq, if_neg]
        exact ih
    · rw [if_neg c1]
      rw [if_neg (fun z => c1 z.1)] at ih
      exact ih
end C
