/-! ===== pure: the tape cut into tokens ===== -/
def FrT (h h' : AH) : Prop := (∀ k i j, k ≠ 17 → k ≠ 18 → k ≠ 19 → gI h' k i j = gI h k i j) ∧ (∀ k i j, k ≠ 20 → gL h' k i j = gL h k i j) ∧ h'.2.2 = h.2.2
theorem FrT.trans {a b c : AH} (h1 : FrT a b) (h2 : FrT b c) : FrT a c := ⟨fun k i j x y z => (h2.1 k i j x y z).trans (h1.1 k i j x y z), fun k i j x => (h2.2.1 k i j x).trans (h1.2.1 k i j x), h2.2.2.trans h1.2.2⟩
/-- token i is as the tape says -/
def TkO (h : AH) (T : Nat → Nat) (L i : Nat) : Prop :=
  gI h 18 0 i = nI (kdT T L (tS T L i)) ∧ gI h 19 0 i = nI (tS T L i)
  ∧ (kdT T L (tS T L i) = 2 → gL h 20 0 i = lqI (paT T (tS T L i) (enT T L (tS T L i) - tS T L i)))
  ∧ (kdT T L (tS T L i) = 3 → gL h 20 0 i = lqI (nuT T (tS T L i) (enT T L (tS T L i) - tS T L i)))
def TkP (h : AH) (T : Nat → Nat) (L m : Nat) : Prop := gI h 17 0 0 = nI m ∧ (∀ i, i < m → TkO h T L i ∧ tS T L i < L)
def TkC (h : AH) (T : Nat → Nat) (L n : Nat) : Prop := gI h 17 0 0 = nI (n + 1) ∧ n ≤ L ∧ (∀ i, i ≤ n → TkO h T L i) ∧ (∀ i, i < n → tS T L i < L) ∧ tS T L n = L
def putH (h : AH) (m : Nat) (k s : Int32) (v : Int64) : AH := uI (uL (uI (uI h 18 0 m k) 19 0 m s) 20 0 m v) 17 0 0 (nI (m + 1))
theorem FrT_put (h : AH) (m : Nat) (k s : Int32) (v : Int64) : FrT h (putH h m k s v) := by
  refine ⟨fun a i j x y z => ?_, fun a i j x => ?_, rfl⟩
  · show gI (uI (uL (uI (uI h 18 0 m k) 19 0 m s) 20 0 m v) 17 0 0 (nI (m + 1))) a i j = _
    rw [gI_uI_n (by omega)]
    show gI (uI (uI h 18 0 m k) 19 0 m s) a i j = _
    rw [gI_uI_n (by omega), gI_uI_n (by omega)]
  · exact if_neg (fun z => x z.1)
theorem put_s (h : AH) (m : Nat) (k s : Int32) (v : Int64) : gI (putH h m k s v) 18 0 m = k ∧ gI (putH h m k s v) 19 0 m = s ∧ gL (putH h m k s v) 20 0 m = v ∧ gI (putH h m k s v) 17 0 0 = nI (m + 1) := by
  refine ⟨?_, ?_, if_pos ⟨rfl, rfl, rfl⟩, gI_uI_s _ _ _ _ _⟩
  · show gI (uI (uL (uI (uI h 18 0 m k) 19 0 m s) 20 0 m v) 17 0 0 (nI (m + 1))) 18 0 m = _
    rw [gI_uI_n (by omega)]
    show gI (uI (uI h 18 0 m k) 19 0 m s) 18 0 m = _
    rw [gI_uI_n (by omega), gI_uI_s]
  · show gI (uI (uL (uI (uI h 18 0 m k) 19 0 m s) 20 0 m v) 17 0 0 (nI (m + 1))) 19 0 m = _
    rw [gI_uI_n (by omega)]
    show gI (uI (uI h 18 0 m k) 19 0 m s) 19 0 m = _
    rw [gI_uI_s]
theorem put_n (h : AH) (m : Nat) (k s : Int32) (v : Int64) {i : Nat} (hi : i ≠ m) : gI (putH h m k s v) 18 0 i = gI h 18 0 i ∧ gI (putH h m k s v) 19 0 i = gI h 19 0 i ∧ gL (putH h m k s v) 20 0 i = gL h 20 0 i := by
  refine ⟨?_, ?_, if_neg (fun z => hi z.2.2)⟩
  · show gI (uI (uL (uI (uI h 18 0 m k) 19 0 m s) 20 0 m v) 17 0 0 (nI (m + 1))) 18 0 i = _
    rw [gI_uI_n (by omega)]
    show gI (uI (uI h 18 0 m k) 19 0 m s) 18 0 i = _
    rw [gI_uI_n (by omega), gI_uI_n (by omega)]
  · show gI (uI (uL (uI (uI h 18 0 m k) 19 0 m s) 20 0 m v) 17 0 0 (nI (m + 1))) 19 0 i = _
    rw [gI_uI_n (by omega)]
    show gI (uI (uI h 18 0 m k) 19 0 m s) 19 0 i = _
    rw [gI_uI_n (by omega), gI_uI_n (by omega)]
theorem c_put {h : AH} {m : Nat} {k s : Int32} {v : Int64} (e : gI h 17 0 0 = nI m) (hm : m < 901) : jT_put h k s v = some (putH h m k s v) := by
  have e1 : gI (uI h 18 0 m k) 17 0 0 = nI m := (gI_uI_n (by omega)).trans e
  have e2 : gI (uI (uI h 18 0 m k) 19 0 m s) 17 0 0 = nI m := (gI_uI_n (by omega)).trans e1
  have e3 : gI (uL (uI (uI h 18 0 m k) 19 0 m s) 20 0 m v) 17 0 0 = nI m := e2
  unfold jT_put
  rw [e, if_pos (show nI m < 901 from (nI_ltI (by omega) (show 901 < 2 ^ 31 by decide)).2 hm), inb_nI (by omega) (by decide), if_pos rfl, jbn, nI_clamp (by omega), e1, inb_nI (by omega) (by decide), if_pos rfl, jbn, nI_clamp (by omega), e2, inb_nI (by omega) (by decide), if_pos rfl, jbn, nI_clamp (by omega), jbn, e3, show nI m + 1 = nI (m + 1) from nI_add m 1]
  rfl
theorem TkO_of {h h' : AH} {T : Nat → Nat} {L i : Nat} (O : TkO h T L i) (e : gI h' 18 0 i = gI h 18 0 i ∧ gI h' 19 0 i = gI h 19 0 i ∧ gL h' 20 0 i = gL h 20 0 i) : TkO h' T L i := by
  obtain ⟨a, b, c, d⟩ := O
  exact ⟨e.1.trans a, e.2.1.trans b, fun z => e.2.2.trans (c z), fun z => e.2.2.trans (d z)⟩
theorem skp_32 {T : Nat → Nat} {L p : Nat} (hp : p < L) (h : T p = 32) : skp T L p = skp T L (p + 1) := by
  unfold skp
  rw [show L - p = (L - (p + 1)) + 1 by omega, rnE, if_pos (decide_eq_true h)]
theorem skp_n {T : Nat → Nat} {L p : Nat} (h : T p ≠ 32) : skp T L p = p := by
  unfold skp
  cases e : L - p with
  | zero => rfl
  | succ n => rw [rnE, if_neg (by rw [decide_eq_false h]; decide)]
theorem skp_L {T : Nat → Nat} {L : Nat} : skp T L L = L := by
  unfold skp
  rw [Nat.sub_self]
  rfl
theorem en_32 {T : Nat → Nat} {L p : Nat} (h : T p = 32) : enT T L p = p + 1 := by
  unfold enT
  have : rnE (fun q => sam (T p) (T q)) (L - (p + 1)) (p + 1) = rnE (fun _ => false) (L - (p + 1)) (p + 1) := rnE_ext _ _ (fun q _ _ => by show sam (T p) (T q) = false; rw [h]; unfold sam; rw [show sml 32 = false from rfl, show dgt 32 = false from rfl, Bool.false_and, Bool.false_and]; rfl)
  rw [this]
  cases e : L - (p + 1) with
  | zero => rfl
  | succ n => rw [rnE, if_neg (by decide)]
/-- all of a run is of its kind -/
theorem en_sml {T : Nat → Nat} {L p : Nat} (h : sml (T p) = true) : ∀ i, p ≤ i → i < enT T L p → sml (T i) = true := by
  intro i h1 h2
  by_cases e : i = p
  · rw [e]; exact h
  · have := rnE_in (fun q => sam (T p) (T q)) _ _ i (show p + 1 ≤ i by omega) h2
    have h3 : dgt (T p) = false := by
      have := of_decide_eq_true h
      exact decide_eq_false (by omega)
    unfold sam at this
    rw [h, h3, Bool.true_and, Bool.false_and, Bool.or_false] at this
    exact this
theorem en_dgt {T : Nat → Nat} {L p : Nat} (h : dgt (T p) = true) : ∀ i, p ≤ i → i < enT T L p → dgt (T i) = true := by
  intro i h1 h2
  by_cases e : i = p
  · rw [e]; exact h
  · have := rnE_in (fun q => sam (T p) (T q)) _ _ i (show p + 1 ≤ i by omega) h2
    have h3 : sml (T p) = false := by
      have := of_decide_eq_true h
      exact decide_eq_false (by omega)
    unfold sam at this
    rw [h, h3, Bool.true_and, Bool.false_and, Bool.false_or] at this
    exact this
theorem kd_2 {T : Nat → Nat} {L q : Nat} (h : kdT T L q = 2) : q < L ∧ sml (T q) = true ∧ enT T L q - q ≤ 8 := by
  unfold kdT at h
  split at h
  · omega
  · split at h
    · split at h
      · exact ⟨by omega, by assumption, by assumption⟩
      · omega
    · split at h
      · split at h <;> omega
      · split at h
        · omega
        · split at h <;> omega
theorem kd_3 {T : Nat → Nat} {L q : Nat} (h : kdT T L q = 3) : q < L ∧ dgt (T q) = true ∧ enT T L q - q ≤ 3 := by
  unfold kdT at h
  split at h
  · omega
  · split at h
    · split at h <;> omega
    · split at h
      · split at h
        · exact ⟨by omega, by assumption, by assumption⟩
        · omega
      · split at h
        · omega
        · split at h <;> omega
theorem kd_L {T : Nat → Nat} {L : Nat} : kdT T L L = 1 := if_pos (Nat.le_refl _)
