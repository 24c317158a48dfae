/-! ===== pure: names ===== -/
theorem c_isKind {h : AH} {T : Nat → Nat} {L n i k : Nat} (C : TkC h T L n) (hL : L ≤ 900) (hi : i ≤ n) (hk : k < 6) : jT_isKind h (nI i) (nI k) = some (bI (decide (kdT T L (tS T L i) = k))) := by
  have O := C.2.2.1 i hi
  have hn := C.2.1
  have k6 := kd_6 T L (tS T L i)
  unfold jT_isKind
  rw [if_neg (show ¬ nI i < 0 from fun z => absurd ((nI_ltI (by omega) (by decide)).1 (z : nI i < nI 0)) (Nat.not_lt_zero _)), C.1, if_pos ((nI_ltI (by omega) (by omega)).2 (show i < n + 1 by omega)), inb_nI (by omega) (by decide), if_pos rfl, nI_clamp (by omega), O.1]
  by_cases e : kdT T L (tS T L i) = k
  · rw [if_pos (by rw [e]), decide_eq_true e]; rfl
  · rw [if_neg (fun z => e ((nI_eq (by omega) (by omega)).1 z)), decide_eq_false e]; rfl
theorem c_valueOf {h : AH} {T : Nat → Nat} {L n i : Nat} (C : TkC h T L n) (hL : L ≤ 900) (hi : i ≤ n) : jT_valueOf h (nI i) = some (gL h 20 0 i) := by
  have hn := C.2.1
  unfold jT_valueOf
  rw [if_neg (show ¬ nI i < 0 from fun z => absurd ((nI_ltI (by omega) (by decide)).1 (z : nI i < nI 0)) (Nat.not_lt_zero _)), C.1, if_pos ((nI_ltI (by omega) (by omega)).2 (show i < n + 1 by omega)), inb_nI (by omega) (by decide), if_pos rfl, nI_clamp (by omega)]
theorem c_startOf {h : AH} {T : Nat → Nat} {L n i : Nat} (C : TkC h T L n) (hL : L ≤ 900) (hi : i ≤ n) : jT_startOf h (nI i) = some (nI (tS T L i)) := by
  have hn := C.2.1
  unfold jT_startOf
  rw [if_neg (show ¬ nI i < 0 from fun z => absurd ((nI_ltI (by omega) (by decide)).1 (z : nI i < nI 0)) (Nat.not_lt_zero _)), C.1, if_pos ((nI_ltI (by omega) (by omega)).2 (show i < n + 1 by omega)), inb_nI (by omega) (by decide), if_pos rfl, nI_clamp (by omega), (C.2.2.1 i hi).2.1]
def isN (T : Nat → Nat) (L q : Nat) : Bool := decide (kdT T L q = 2) && !(isW T L q 0 || isW T L q 1 || isW T L q 2 || isW T L q 3 || isW T L q 4 || isW T L q 5)
theorem pkW_0 : (2002873452 : Int64) = lqI (pkW 0) := by decide +kernel
theorem pkW_1 : (109330211763570 : Int64) = lqI (pkW 1) := by decide +kernel
theorem pkW_2 : (1751215716 : Int64) = lqI (pkW 2) := by decide +kernel
theorem pkW_3 : (2003792491 : Int64) = lqI (pkW 3) := by decide +kernel
theorem pkW_4 : (7165066978583995252 : Int64) = lqI (pkW 4) := by decide +kernel
theorem pkW_5 : (2002873972 : Int64) = lqI (pkW 5) := by decide +kernel
theorem bI_t : ¬ bI true = 0 := by decide
theorem bI_f : bI false = 0 := by decide
theorem c_isName {h : AH} {T : Nat → Nat} {L n i : Nat} (C : TkC h T L n) (hL : L ≤ 900) (hi : i ≤ n) : jT_isName h (nI i) = some (bI (isN T L (tS T L i))) := by
  have t1 : (decide (kdT T L (tS T L i) = 2) && !true) = false := by rw [Bool.not_true, Bool.and_false]
  have e66 : jT_isName_66 h (nI i) = some (bI false) := by
    rw [jT_isName_66, jT_isName_71, show (2 : Int32) = nI 2 from rfl, c_isKind C hL hi (by decide), obind, if_neg (show ¬ (1 : Int32) = 0 by decide)]
    split <;> rfl
  have e71 : jT_isName_71 h (nI i) 0 = some (bI (decide (kdT T L (tS T L i) = 2))) := by
    rw [jT_isName_71, show (2 : Int32) = nI 2 from rfl, c_isKind C hL hi (by decide), obind, if_pos (show (0 : Int32) = 0 from rfl)]
    cases decide (kdT T L (tS T L i) = 2) with
    | true => rw [if_neg bI_t]; rfl
    | false => rw [if_pos bI_f]; rfl
  unfold jT_isName isN
  rw [pkW_0, pkW_1, pkW_2, pkW_3, pkW_4, pkW_5, c_isWord C hL hi (by decide), c_isWord C hL hi (by decide), c_isWord C hL hi (by decide), c_isWord C hL hi (by decide), c_isWord C hL hi (by decide), c_isWord C hL hi (by decide), obind, obind, obind, obind, obind, obind, e66, e71]
  cases isW T L (tS T L i) 0 with
  | true => rw [if_neg bI_t]; exact congrArg (fun b => some (bI b)) (by cases decide (kdT T L (tS T L i) = 2) <;> rfl)
  | false =>
    rw [if_pos bI_f]
    cases isW T L (tS T L i) 1 with
    | true => rw [if_neg bI_t]; exact congrArg (fun b => some (bI b)) (by cases decide (kdT T L (tS T L i) = 2) <;> rfl)
    | false =>
      rw [if_pos bI_f]
      cases isW T L (tS T L i) 2 with
      | true => rw [if_neg bI_t]; exact congrArg (fun b => some (bI b)) (by cases decide (kdT T L (tS T L i) = 2) <;> rfl)
      | false =>
        rw [if_pos bI_f]
        cases isW T L (tS T L i) 3 with
        | true => rw [if_neg bI_t]; exact congrArg (fun b => some (bI b)) (by cases decide (kdT T L (tS T L i) = 2) <;> rfl)
        | false =>
          rw [if_pos bI_f]
          cases isW T L (tS T L i) 4 with
          | true => rw [if_neg bI_t]; exact congrArg (fun b => some (bI b)) (by cases decide (kdT T L (tS T L i) = 2) <;> rfl)
          | false =>
            rw [if_pos bI_f]
            cases isW T L (tS T L i) 5 with
            | true => rw [if_neg bI_t]; exact congrArg (fun b => some (bI b)) (by cases decide (kdT T L (tS T L i) = 2) <;> rfl)
            | false => rw [if_pos bI_f]; exact congrArg (fun b => some (bI b)) (by cases decide (kdT T L (tS T L i) = 2) <;> rfl)
/-! the model -/
def wrH (h : AH) (f p : Nat) : AH := uI (uI (uI h 32 0 13 (nI 1)) 32 0 9 (nI f)) 32 0 10 (nI p)
theorem m_wrong_t {h : AH} (h13 : gI h 32 0 13 = nI 0) (f p : Nat) : jM_wrong h (nI f) (nI p) = some (wrH h f p) := by
  rw [jM_wrong, if_pos (show gI h 32 0 13 = 0 from h13), jbn, jbn, jbn]
  rfl
theorem m_wrong_f {h : AH} (h13 : gI h 32 0 13 = nI 1) (v p : Int32) : jM_wrong h v p = some h := by
  rw [jM_wrong, if_neg (by rw [h13]; decide)]
theorem m_mustName {h : AH} {T : Nat → Nat} {L q : Nat} (M : MTk h T L q) (h13 : gI h 32 0 13 = nI 0) : jM_mustName h = some (if isN T L q = true then h else wrH h 1 q) := by
  have k6 := kd_6 T L q
  have e54 : jM_mustName_54 h = some (wrH h 1 q) := by
    rw [jM_mustName_54, jM_mustName_59, M.1, show jM_wrong h 1 (nI q) = _ from m_wrong_t h13 1 q, obind]
    split
    · rw [if_neg (by decide)]
    · rfl
  have e59 : jM_mustName_59 0 h = some (if decide (kdT T L q = 2) = true then h else wrH h 1 q) := by
    rw [jM_mustName_59, M.1, show jM_wrong h 1 (nI q) = _ from m_wrong_t h13 1 q, obind, M.2.2.1]
    by_cases e : kdT T L q = 2
    · rw [if_pos ((kmT_2 k6).2 e), if_pos rfl, if_pos (decide_eq_true e)]
    · rw [if_neg (fun z => e ((kmT_2 k6).1 z)), if_neg (by rw [decide_eq_false e]; decide)]
  unfold jM_mustName isN
  rw [m_isWord M h13 (by decide), m_isWord M h13 (by decide), m_isWord M h13 (by decide), m_isWord M h13 (by decide), m_isWord M h13 (by decide), m_isWord M h13 (by decide), obind, obind, obind, obind, obind, obind, e54, e59]
  have ef : ∀ b, b = false → some (wrH h 1 q) = some (if b = true then h else wrH h 1 q) := fun b hb => by rw [hb, if_neg (by decide)]
  cases isW T L q 0 with
  | true => rw [if_neg bI_t]; exact ef _ (by cases decide (kdT T L q = 2) <;> rfl)
  | false =>
    rw [if_pos bI_f]
    cases isW T L q 1 with
    | true => rw [if_neg bI_t]; exact ef _ (by cases decide (kdT T L q = 2) <;> rfl)
    | false =>
      rw [if_pos bI_f]
      cases isW T L q 2 with
      | true => rw [if_neg bI_t]; exact ef _ (by cases decide (kdT T L q = 2) <;> rfl)
      | false =>
        rw [if_pos bI_f]
        cases isW T L q 3 with
        | true => rw [if_neg bI_t]; exact ef _ (by cases decide (kdT T L q = 2) <;> rfl)
        | false =>
          rw [if_pos bI_f]
          cases isW T L q 4 with
          | true => rw [if_neg bI_t]; exact ef _ (by cases decide (kdT T L q = 2) <;> rfl)
          | false =>
            rw [if_pos bI_f]
            cases isW T L q 5 with
            | true => rw [if_neg bI_t]; exact ef _ (by cases decide (kdT T L q = 2) <;> rfl)
            | false =>
              rw [if_pos bI_f]
              cases decide (kdT T L q = 2) <;> rfl
