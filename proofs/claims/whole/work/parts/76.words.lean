/-! ===== pure: words ===== -/
def paF (f : Nat → Nat) : Nat → Nat
  | 0 => 0
  | n + 1 => paF f n * 256 + f n
theorem paT_F (T : Nat → Nat) (q : Nat) : ∀ n, paT T q n = paF (fun j => T (q + j)) n := by
  intro n
  induction n with
  | zero => rfl
  | succ n ih => rw [paT, paF, ih]
theorem paF_lt {f : Nat → Nat} : ∀ n, (∀ j, j < n → f j < 256) → paF f n < 256 ^ n := by
  intro n
  induction n with
  | zero => exact fun _ => show 0 < 1 by decide
  | succ n ih =>
    intro h
    have h1 := ih (fun j hj => h j (by omega))
    have h2 := h n (by omega)
    rw [paF, Nat.pow_succ]
    omega
theorem paF_inj {f g : Nat → Nat} : ∀ n m, (∀ j, j < n → 0 < f j ∧ f j < 256) → (∀ j, j < m → 0 < g j ∧ g j < 256) → paF f n = paF g m → n = m ∧ ∀ j, j < n → f j = g j := by
  intro n
  induction n with
  | zero =>
    intro m _ hg e
    cases m with
    | zero => exact ⟨rfl, fun j hj => absurd hj (Nat.not_lt_zero _)⟩
    | succ m =>
      have := hg m (by omega)
      rw [paF, paF] at e
      omega
  | succ n ih =>
    intro m hf hg e
    cases m with
    | zero =>
      have := hf n (by omega)
      rw [paF, paF] at e
      omega
    | succ m =>
      have h1 := hf n (by omega)
      have h2 := hg m (by omega)
      rw [paF, paF] at e
      have e1 : f n = g m := by omega
      obtain ⟨a, b⟩ := ih m (fun j hj => hf j (by omega)) (fun j hj => hg j (by omega)) (by omega)
      refine ⟨by omega, fun j hj => ?_⟩
      by_cases ej : j = n
      · rw [ej, e1, a]
      · exact b j (by omega)
theorem paF_ext {f g : Nat → Nat} : ∀ n, (∀ j, j < n → f j = g j) → paF f n = paF g n := by
  intro n
  induction n with
  | zero => exact fun _ => rfl
  | succ n ih => intro h; rw [paF, paF, ih (fun j hj => h j (by omega)), h n (by omega)]
theorem lqI_inj {a b : Nat} (ha : a < 2 ^ 64) (hb : b < 2 ^ 64) : (lqI a = lqI b) ↔ a = b := by
  refine ⟨fun h => ?_, fun h => by rw [h]⟩
  have h1 := congrArg (fun x => x.toBitVec.toNat) h
  have h1 : (BitVec.ofNat 64 a).toNat = (BitVec.ofNat 64 b).toNat := h1
  rwa [BitVec.toNat_ofNat, BitVec.toNat_ofNat, Nat.mod_eq_of_lt ha, Nat.mod_eq_of_lt hb] at h1
theorem lg_0 {x y : Int64} : (lg_cmp x y = 0) ↔ x = y := by
  unfold lg_cmp
  by_cases h1 : x > y
  · rw [if_pos h1]
    exact ⟨fun z => absurd z (by decide), fun z => absurd h1 (by rw [z]; exact Int64.lt_irrefl)⟩
  · rw [if_neg h1]
    by_cases h2 : x = y
    · rw [if_pos h2]; exact ⟨fun _ => h2, fun _ => rfl⟩
    · rw [if_neg h2]; exact ⟨fun z => absurd z (by decide), fun z => absurd z h2⟩
def wB (t j : Nat) : Nat := ((sByt.getD t []).getD j 0).toNatClampNeg
def sLn (t : Nat) : Nat := sLen.getD t 0
theorem wB_ok : ∀ t, t < 17 → 1 ≤ sLn t ∧ sLn t ≤ 8 ∧ ∀ j, j < sLn t → 97 ≤ wB t j ∧ wB t j ≤ 122 ∧ strat t j = nI (wB t j) := by decide +kernel
def pkW (t : Nat) : Nat := paF (wB t) (sLn t)
/-- the word at q is constant t -/
def isW (T : Nat → Nat) (L q t : Nat) : Bool := decide (kdT T L q = 2 ∧ enT T L q - q = sLn t ∧ ∀ j, j < sLn t → T (q + j) = wB t j)
theorem isW_i {T : Nat → Nat} {L q t : Nat} : (isW T L q t = true) ↔ (kdT T L q = 2 ∧ enT T L q - q = sLn t ∧ ∀ j, j < sLn t → T (q + j) = wB t j) := ⟨fun h => of_decide_eq_true h, fun h => decide_eq_true h⟩
theorem pk8 {f : Nat → Nat} {n : Nat} (hn : n ≤ 8) (h : ∀ j, j < n → f j < 256) : paF f n < 2 ^ 64 := by
  have h1 := paF_lt n h
  have h2 : (256 : Nat) ^ n ≤ 256 ^ 8 := Nat.pow_le_pow_right (by decide) hn
  have h3 : (256 : Nat) ^ 8 = 2 ^ 64 := by decide
  omega
theorem kd2_let {T : Nat → Nat} {L q : Nat} (h : kdT T L q = 2) : ∀ j, j < enT T L q - q → 97 ≤ T (q + j) ∧ T (q + j) ≤ 122 := fun j hj => of_decide_eq_true (en_sml (L := L) (kd_2 h).2.1 (q + j) (by omega) (by omega))
theorem c_isWord {h : AH} {T : Nat → Nat} {L n i t : Nat} (C : TkC h T L n) (hL : L ≤ 900) (hi : i ≤ n) (ht : t < 17) : jT_isWord h (nI i) (lqI (pkW t)) = some (bI (isW T L (tS T L i) t)) := by
  have O := C.2.2.1 i hi
  have w := wB_ok t ht
  have hk6 : kdT T L (tS T L i) < 6 := by
    unfold kdT
    repeat' split
    all_goals decide
  have hn := C.2.1
  unfold jT_isWord
  rw [if_neg (show ¬ nI i < 0 from fun z => absurd ((nI_ltI (by omega) (by decide)).1 (z : nI i < nI 0)) (Nat.not_lt_zero _)), C.1, if_pos ((nI_ltI (by omega) (by omega)).2 (show i < n + 1 by omega)), inb_nI (by omega) (by decide), if_pos rfl, nI_clamp (by omega), O.1]
  by_cases h2 : kdT T L (tS T L i) = 2
  · have k8 := (kd_2 h2).2.2
    have lt := kd2_let h2
    rw [if_pos (show nI (kdT T L (tS T L i)) = 2 by rw [h2]; rfl), if_pos rfl, O.2.2.1 h2, paT_F]
    have b1 := pk8 k8 (f := fun j => T (tS T L i + j)) (fun j hj => by have := lt j hj; omega)
    have b2 : pkW t < 2 ^ 64 := pk8 w.2.1 (fun j hj => by have := w.2.2 j hj; omega)
    cases e : isW T L (tS T L i) t with
    | true =>
      have e := isW_i.1 e
      rw [if_pos (lg_0.2 ?_)]
      · rfl
      · rw [e.2.1]
        exact congrArg lqI (paF_ext _ (fun j hj => e.2.2 j hj))
    | false =>
      rw [if_neg (fun z => absurd (isW_i.2 ?_) (by rw [e]; decide))]
      · rfl
      · have z1 := (lqI_inj b1 b2).1 (lg_0.1 z)
        obtain ⟨a, b⟩ := paF_inj _ _ (fun j hj => by have := lt j hj; omega) (fun j hj => by have := w.2.2 j hj; omega) z1
        exact ⟨h2, a, fun j hj => b j (by omega)⟩
  · have e : isW T L (tS T L i) t = false := decide_eq_false (fun z => h2 z.1)
    rw [if_neg (show ¬ nI (kdT T L (tS T L i)) = 2 from fun z => h2 ((nI_eq (by omega) (by decide)).1 (z : _ = nI 2))), e]
    rfl
