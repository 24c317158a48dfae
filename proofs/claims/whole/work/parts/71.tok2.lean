/-! ===== pure: numbers and names of tokens ===== -/
def lqI (n : Nat) : Int64 := Int64.ofNat n
theorem lqI_n : ∀ c, c < 128 → (nI c).toInt64 = lqI c := by decide +kernel
theorem lqI_d : ∀ c, c < 10 → (nI (48 + c) - 48).toInt64 = lqI c := by decide +kernel
theorem lqI_num {v c : Nat} (hc : 48 ≤ c ∧ c ≤ 57) : lqI v * 10 + (nI c - 48).toInt64 = lqI (v * 10 + (c - 48)) := by
  have h := lqI_d (c - 48) (by omega)
  rw [show 48 + (c - 48) = c by omega] at h
  rw [h]
  unfold lqI
  rw [Int64.ofNat_add, Int64.ofNat_mul]
  rfl
theorem lqI_bv (n : Nat) : (lqI n).toBitVec = BitVec.ofNat 64 n := rfl
theorem lqI_pack {v c : Nat} (hc : c < 128) : (lqI v <<< ((8 : Int32).toInt64 &&& 63)) ||| (nI c).toInt64 = lqI (v * 256 + c) := by
  rw [lqI_n c hc, show ((8 : Int32).toInt64 &&& 63) = lqI 8 from by decide +kernel]
  apply Int64.toBitVec_inj.mp
  rw [Int64.toBitVec_or, Int64.toBitVec_shiftLeft, lqI_bv, lqI_bv, lqI_bv, lqI_bv]
  rw [show (BitVec.ofNat 64 8).smod 64 = BitVec.ofNat 64 8 from by decide +kernel]
  apply BitVec.eq_of_toNat_eq
  rw [BitVec.toNat_or, BitVec.shiftLeft_eq', BitVec.toNat_shiftLeft, BitVec.toNat_ofNat, BitVec.toNat_ofNat, BitVec.toNat_ofNat, BitVec.toNat_ofNat]
  have e8 : 8 % 2 ^ 64 = 8 := by decide
  rw [e8, Nat.shiftLeft_eq, Nat.mod_eq_of_lt (show c < 2 ^ 64 by omega)]
  have h1 : (v % 2 ^ 64 * 2 ^ 8) % 2 ^ 64 = 2 ^ 8 * (v % 2 ^ 56) := by omega
  rw [h1, ← Nat.two_pow_add_eq_or_of_lt (show c < 2 ^ 8 by omega)]
  omega
theorem c_numberOf {h : AH} {T : Nat → Nat} {L q e : Nat} (hT : ∀ i, i < L → gI h 1 0 i = sbt (T i)) (hL : L ≤ 900) (hq : q ≤ e) (he : e ≤ L) (hd : ∀ i, q ≤ i → i < e → dgt (T i) = true) : jT_numberOf h (nI q) (nI e) = some (lqI (nuT T q (e - q))) := by
  unfold jT_numberOf
  have loop : ∀ n k, q + k + n = e → ∀ fu, n < fu → jT_numberOf_5 h (nI e) fu (lqI (nuT T q k)) (nI (q + k)) = some (lqI (nuT T q (e - q))) := by
    intro n
    induction n with
    | zero =>
      intro k hk fu hf
      obtain ⟨f, rfl⟩ : ∃ f, fu = f + 1 := ⟨fu - 1, by omega⟩
      rw [jT_numberOf_5, if_neg (by rw [nI_ltI (by omega) (by omega)]; omega), show e - q = k by omega]
    | succ n ih =>
      intro k hk fu hf
      obtain ⟨f, rfl⟩ : ∃ f, fu = f + 1 := ⟨fu - 1, by omega⟩
      have hdd := of_decide_eq_true (hd (q + k) (by omega) (by omega))
      rw [jT_numberOf_5, if_pos (by rw [nI_ltI (by omega) (by omega)]; omega), inb_nI (by omega) (by omega), if_pos rfl, jbn, nI_clamp (by omega), hT (q + k) (by omega), sbt_lo _ (by omega), lqI_num hdd, show nI (q + k) + 1 = nI (q + (k + 1)) from nI_add (q + k) 1]
      exact ih (k + 1) (by omega) f (by omega)
  exact loop (e - q) 0 (by omega) FU (by unfold FU; omega)
theorem c_lettersOf {h : AH} {T : Nat → Nat} {L q e : Nat} (hT : ∀ i, i < L → gI h 1 0 i = sbt (T i)) (hL : L ≤ 900) (hq : q ≤ e) (he : e ≤ L) (hd : ∀ i, q ≤ i → i < e → sml (T i) = true) : jT_lettersOf h (nI q) (nI e) = some (lqI (paT T q (e - q))) := by
  unfold jT_lettersOf
  have loop : ∀ n k, q + k + n = e → ∀ fu, n < fu → jT_lettersOf_5 h (nI e) fu (lqI (paT T q k)) (nI (q + k)) = some (lqI (paT T q (e - q))) := by
    intro n
    induction n with
    | zero =>
      intro k hk fu hf
      obtain ⟨f, rfl⟩ : ∃ f, fu = f + 1 := ⟨fu - 1, by omega⟩
      rw [jT_lettersOf_5, if_neg (by rw [nI_ltI (by omega) (by omega)]; omega), show e - q = k by omega]
    | succ n ih =>
      intro k hk fu hf
      obtain ⟨f, rfl⟩ : ∃ f, fu = f + 1 := ⟨fu - 1, by omega⟩
      have hdd := of_decide_eq_true (hd (q + k) (by omega) (by omega))
      rw [jT_lettersOf_5, if_pos (by rw [nI_ltI (by omega) (by omega)]; omega), inb_nI (by omega) (by omega), if_pos rfl, jbn, nI_clamp (by omega), hT (q + k) (by omega), sbt_lo _ (by omega), lqI_pack (by omega), show nI (q + k) + 1 = nI (q + (k + 1)) from nI_add (q + k) 1]
      exact ih (k + 1) (by omega) f (by omega)
  exact loop (e - q) 0 (by omega) FU (by unfold FU; omega)
/-- of any run it answers something -/
theorem c_lettersOf_t {h : AH} {L q e : Nat} (hL : L ≤ 900) (hq : q ≤ e) (he : e ≤ L) : ∃ v, jT_lettersOf h (nI q) (nI e) = some v := by
  unfold jT_lettersOf
  have loop : ∀ n k, q + k + n = e → ∀ fu, n < fu → ∀ u, ∃ v, jT_lettersOf_5 h (nI e) fu u (nI (q + k)) = some v := by
    intro n
    induction n with
    | zero =>
      intro k hk fu hf u
      obtain ⟨f, rfl⟩ : ∃ f, fu = f + 1 := ⟨fu - 1, by omega⟩
      exact ⟨u, by rw [jT_lettersOf_5, if_neg (by rw [nI_ltI (by omega) (by omega)]; omega)]⟩
    | succ n ih =>
      intro k hk fu hf u
      obtain ⟨f, rfl⟩ : ∃ f, fu = f + 1 := ⟨fu - 1, by omega⟩
      rw [jT_lettersOf_5, if_pos (by rw [nI_ltI (by omega) (by omega)]; omega), inb_nI (by omega) (by omega), if_pos rfl, jbn, show nI (q + k) + 1 = nI (q + (k + 1)) from nI_add (q + k) 1]
      exact ih (k + 1) (by omega) f (by omega) _
  exact loop (e - q) 0 (by omega) FU (by unfold FU; omega) 0
