/-! ===== pure: the class's words are the model's ===== -/
theorem pkW_6 : (2003395685 : Int64) = lqI (pkW 6) := by decide +kernel
theorem pkW_7 : (1751738216 : Int64) = lqI (pkW 7) := by decide +kernel
theorem pkW_8 : (461262647411 : Int64) = lqI (pkW 8) := by decide +kernel
theorem pkW_9 : (482671228019 : Int64) = lqI (pkW 9) := by decide +kernel
theorem pkW_10 : (499967943531 : Int64) = lqI (pkW 10) := by decide +kernel
theorem pkW_11 : (439720633715 : Int64) = lqI (pkW 11) := by decide +kernel
theorem pkW_12 : (495690081125 : Int64) = lqI (pkW 12) := by decide +kernel
theorem pkW_13 : (29807 : Int64) = lqI (pkW 13) := by decide +kernel
theorem pkW_14 : (2036687218 : Int64) = lqI (pkW 14) := by decide +kernel
theorem pkW_15 : (1718775661 : Int64) = lqI (pkW 15) := by decide +kernel
theorem pkW_16 : (504364296556 : Int64) = lqI (pkW 16) := by decide +kernel
/-- readCorners where all has failed -/
theorem bad_corners_ok {h : AH} {n : Nat} (B : Bad h n) : Bad (adH (adH (adH (adH (adH (adH (adH h))))))) n := bad_a (bad_a (bad_a (bad_a (bad_a (bad_a (bad_a B))))))
theorem tt_isWordB {h : AH} {n : Nat} (B : Bad h n) (v : Int32) (w : Int64) : ∃ r, jT_isWord h v w = some r := tt_isWord B.1 B.2.1 v w
theorem tt_isName {h : AH} {n : Nat} (e : gI h 17 0 0 = nI (n + 1)) (hn : n ≤ 900) (v : Int32) : ∃ r, jT_isName h v = some r := by
  obtain ⟨k, hk⟩ := tt_isKind e hn v 2
  have e71 : ∀ s, ∃ r, jT_isName_71 h v s = some r := by
    intro s
    rw [jT_isName_71, hk, obind]
    split
    · exact ⟨_, rfl⟩
    · split <;> exact ⟨_, rfl⟩
  have e66 : ∃ r, jT_isName_66 h v = some r := e71 1
  obtain ⟨r0, h0⟩ := tt_isWord e hn v 2002873452
  obtain ⟨r1, h1⟩ := tt_isWord e hn v 109330211763570
  obtain ⟨r2, h2⟩ := tt_isWord e hn v 1751215716
  obtain ⟨r3, h3⟩ := tt_isWord e hn v 2003792491
  obtain ⟨r4, h4⟩ := tt_isWord e hn v 7165066978583995252
  obtain ⟨r5, h5⟩ := tt_isWord e hn v 2002873972
  rw [jT_isName, h0, h1, h2, h3, h4, h5, obind, obind, obind, obind, obind, obind]
  split
  · split
    · split
      · split
        · split
          · split
            · exact e71 0
            · exact e66
          · exact e66
        · exact e66
      · exact e66
    · exact e66
  · exact e66
