/-! ===== wrappers ===== -/
abbrev rvI (h : AH) : Int32 → Option Value × AH := fun r => (some (.int r), h)
abbrev rvL (h : AH) : Int64 → Option Value × AH := fun r => (some (.long r), h)
abbrev rvIM : Int32 × AH → Option Value × AH := fun q => (some (.int q.1), q.2)
abbrev rvLM : Int64 × AH → Option Value × AH := fun q => (some (.long q.1), q.2)
abbrev rvV : AH → Option Value × AH := fun q => (none, q)
def rmb (N M : MI) : Bool := N.rm.cells == 0 && (N.rm.slots == 0 && (Nat.ble (N.rm.frames + 1) M.rm.frames && Nat.ble (8 + (N.nL + 11) + N.rm.locals) M.rm.locals))
theorem rmok {N M : MI} (h : rmb N M = true) : RmOk N M := by
  unfold rmb at h
  simp only [Bool.and_eq_true, beq_iff_eq] at h
  exact ⟨h.1, h.2.1, Nat.le_of_ble_eq_true h.2.2.1, Nat.le_of_ble_eq_true h.2.2.2⟩
def CK (N : MI) (n : Nat) : Prop := MBs N n ∧ MVs N
def CS (N : MI) (n : Nat) : Prop := MBs N n ∧ Cond.static N.y ∈ JT
theorem le8 {l : List Value} (h : Nat.ble ((l.map fun v => v.category).sum) 8 = true) : (l.map fun v => v.category).sum ≤ 8 := Nat.le_of_ble_eq_true h
section Rules
variable {G : JG} {M : MI} {α : Type} {rv : α → Option Value × AH} {pc : Nat} {ls : List (Nat × Value)} {st : List Value} {h : AH} {o : Option α}
theorem E_iushr' {x y : Int32} (hd : decode M.cc pc = .ok (.iushr, 1)) (k : Sim G M rv (pc + 1) ls (.int (x.toUInt32 >>> (y.toUInt32 &&& 31)).toInt32 :: st) h o) : Sim G M rv pc ls (.int y :: .int x :: st) h o := E_iushr hd k
theorem E_ldcSw {i idx : Nat} (hw : M.wd = 1) (hcl : M.y.cls = RX9) (hi : i < 17) (hx0 : sIx i = idx) (hd : decode M.cc pc = .ok (.ldc_w idx, 3)) (kk : Sim G M rv (pc + 3) ls (.ref (G.aK i) :: st) h o) : Sim G M rv pc ls st h o := by
  intro a ha
  intro p e s m args below meth c H locs la hx hb hr hts hown hml hk hI hK hX hP hS hl
  rcases hX.2 with hY | hY
  · rw [hw] at hY; cases hY
  · have hZ := hY.1 i hi
    rw [hx0] at hZ
    intro T hT X
    obtain ⟨t, a1, b1⟩ := kk a ha p e s m args below meth c H locs la hx hb hr hts hown hml hk hI hK hX hP hS hl T hT X
    exact ⟨t, X.ldcStringW hx (hcl ▸ hown) (text := sTx i) (a := G.aK i) hZ.1 hZ.2 (g := F0 m pc la st) rfl (by rw [hb]; exact hd) t a1, b1⟩
theorem E_tsw {x : Int32} {dflt lo hi : Int} {offs : Array Int} {len t : Nat} (tgs : List Nat) (hd : decode M.cc pc = .ok (.tableswitch dflt lo hi offs, len)) (hdf : (pc : Int) + dflt = (t : Int)) (hsz : (offs.size : Int) = hi - lo + 1) (hT : ∀ j, j < offs.size → (pc : Int) + offs.getD j 0 = ((tgs.getD j 0 : Nat) : Int))
    (hout : (x.toInt < lo ∨ hi < x.toInt) → Sim G M rv t ls st h o) (hin : ∀ j : Nat, j < offs.size → x.toInt = lo + (j : Int) → Sim G M rv (tgs.getD j 0) ls st h o) : Sim G M rv pc ls (.int x :: st) h o := by
  intro a ha
  intro p e s m args below meth c H locs la hx hb hr hts hown hml hk hI hK hX hP hS hl
  by_cases h1 : x.toInt < lo
  · exact lv_tableOut hx hb hd (Or.inl h1) hdf (hout (Or.inl h1) a ha p e s m args below meth c H locs la hx hb hr hts hown hml hk hI hK hX hP hS hl)
  by_cases h2 : hi < x.toInt
  · exact lv_tableOut hx hb hd (Or.inr h2) hdf (hout (Or.inr h2) a ha p e s m args below meth c H locs la hx hb hr hts hown hml hk hI hK hX hP hS hl)
  have hj : (x.toInt - lo).toNat < offs.size := by omega
  have he : offs[(x.toInt - lo).toNat]? = some (offs.getD (x.toInt - lo).toNat 0) := by
    rw [Array.getElem?_eq_getElem hj]
    simp [Array.getD, hj]
  exact lv_tableIn hx hb hd h1 h2 he (hT _ hj) (hin _ hj (by omega) a ha p e s m args below meth c H locs la hx hb hr hts hown hml hk hI hK hX hP hS hl)
theorem E_cVI {N : MI} {k i idx n : Nat} {As rest : List Value} {oc : Option (Int32)} {f : Int32 → Option α} (hM : Mt G N (rvI h) (.ref (G.ad k i) :: As) h oc) (hB : CK N n) (hL : Cond.methodLink M.y.cls idx N.y ∈ JT) (hR : rmb N M = true) (hwd : N.wd = M.wd) (hC : KCl k N.y.cls) (hi : i < nIn M.wd k) (hn : As.length = n) (hst : st = As.reverse ++ .ref (G.ad k i) :: rest) (hcat : Nat.ble ((rest.map fun v => v.category).sum) 8 = true) (hd : decode M.cc pc = .ok (.invokevirtual idx, 3)) (kk : ∀ b, oc = some b → Sim G M rv (pc + 3) ls (.int b :: rest) h (f b)) : Sim G M rv pc ls st h (oc.bind f) := E_callV hM hB.1 hB.2 hL (rmok hR) hwd hC hi hn hst (le8 hcat) hd kk
theorem E_cSI {N : MI} {idx n : Nat} {As rest : List Value} {oc : Option (Int32)} {f : Int32 → Option α} (hM : Mt G N (rvI h) As h oc) (hB : CS N n) (hL : Cond.methodLink M.y.cls idx N.y ∈ JT) (hR : rmb N M = true) (hwd : N.wd = M.wd) (hn : As.length = n) (hst : st = As.reverse ++ rest) (hcat : Nat.ble ((rest.map fun v => v.category).sum) 8 = true) (hd : decode M.cc pc = .ok (.invokestatic idx, 3)) (kk : ∀ b, oc = some b → Sim G M rv (pc + 3) ls (.int b :: rest) h (f b)) : Sim G M rv pc ls st h (oc.bind f) := E_callS hM hB.1 hB.2 hL (rmok hR) hwd hn hst (le8 hcat) hd kk
theorem E_cNI {N : MI} {idx n : Nat} {host : String} {As rest : List Value} {oc : Option (Int32)} {f : Int32 → Option α} (hM : Mt G N (rvI h) As h oc) (hB : CS N n) (hL : (M.y.cls, idx, N.y, host) ∈ nestL) (hR : rmb N M = true) (hwd : N.wd = M.wd) (hn : As.length = n) (hst : st = As.reverse ++ rest) (hcat : Nat.ble ((rest.map fun v => v.category).sum) 8 = true) (hd : decode M.cc pc = .ok (.invokestatic idx, 3)) (kk : ∀ b, oc = some b → Sim G M rv (pc + 3) ls (.int b :: rest) h (f b)) : Sim G M rv pc ls st h (oc.bind f) := E_callN hM hB.1 hB.2 hL (rmok hR) hwd hn hst (le8 hcat) hd kk
theorem E_cVL {N : MI} {k i idx n : Nat} {As rest : List Value} {oc : Option (Int64)} {f : Int64 → Option α} (hM : Mt G N (rvL h) (.ref (G.ad k i) :: As) h oc) (hB : CK N n) (hL : Cond.methodLink M.y.cls idx N.y ∈ JT) (hR : rmb N M = true) (hwd : N.wd = M.wd) (hC : KCl k N.y.cls) (hi : i < nIn M.wd k) (hn : As.length = n) (hst : st = As.reverse ++ .ref (G.ad k i) :: rest) (hcat : Nat.ble ((rest.map fun v => v.category).sum) 8 = true) (hd : decode M.cc pc = .ok (.invokevirtual idx, 3)) (kk : ∀ b, oc = some b → Sim G M rv (pc + 3) ls (.long b :: rest) h (f b)) : Sim G M rv pc ls st h (oc.bind f) := E_callV hM hB.1 hB.2 hL (rmok hR) hwd hC hi hn hst (le8 hcat) hd kk
theorem E_cSL {N : MI} {idx n : Nat} {As rest : List Value} {oc : Option (Int64)} {f : Int64 → Option α} (hM : Mt G N (rvL h) As h oc) (hB : CS N n) (hL : Cond.methodLink M.y.cls idx N.y ∈ JT) (hR : rmb N M = true) (hwd : N.wd = M.wd) (hn : As.length = n) (hst : st = As.reverse ++ rest) (hcat : Nat.ble ((rest.map fun v => v.category).sum) 8 = true) (hd : decode M.cc pc = .ok (.invokestatic idx, 3)) (kk : ∀ b, oc = some b → Sim G M rv (pc + 3) ls (.long b :: rest) h (f b)) : Sim G M rv pc ls st h (oc.bind f) := E_callS hM hB.1 hB.2 hL (rmok hR) hwd hn hst (le8 hcat) hd kk
theorem E_cVIM {N : MI} {k i idx n : Nat} {As rest : List Value} {oc : Option (Int32 × AH)} {f : Int32 × AH → Option α} (hM : Mt G N (rvIM) (.ref (G.ad k i) :: As) h oc) (hB : CK N n) (hL : Cond.methodLink M.y.cls idx N.y ∈ JT) (hR : rmb N M = true) (hwd : N.wd = M.wd) (hC : KCl k N.y.cls) (hi : i < nIn M.wd k) (hn : As.length = n) (hst : st = As.reverse ++ .ref (G.ad k i) :: rest) (hcat : Nat.ble ((rest.map fun v => v.category).sum) 8 = true) (hd : decode M.cc pc = .ok (.invokevirtual idx, 3)) (kk : ∀ b, oc = some b → Sim G M rv (pc + 3) ls (.int b.1 :: rest) b.2 (f b)) : Sim G M rv pc ls st h (oc.bind f) := E_callV hM hB.1 hB.2 hL (rmok hR) hwd hC hi hn hst (le8 hcat) hd kk
theorem E_cSIM {N : MI} {idx n : Nat} {As rest : List Value} {oc : Option (Int32 × AH)} {f : Int32 × AH → Option α} (hM : Mt G N (rvIM) As h oc) (hB : CS N n) (hL : Cond.methodLink M.y.cls idx N.y ∈ JT) (hR : rmb N M = true) (hwd : N.wd = M.wd) (hn : As.length = n) (hst : st = As.reverse ++ rest) (hcat : Nat.ble ((rest.map fun v => v.category).sum) 8 = true) (hd : decode M.cc pc = .ok (.invokestatic idx, 3)) (kk : ∀ b, oc = some b → Sim G M rv (pc + 3) ls (.int b.1 :: rest) b.2 (f b)) : Sim G M rv pc ls st h (oc.bind f) := E_callS hM hB.1 hB.2 hL (rmok hR) hwd hn hst (le8 hcat) hd kk
theorem E_cVLM {N : MI} {k i idx n : Nat} {As rest : List Value} {oc : Option (Int64 × AH)} {f : Int64 × AH → Option α} (hM : Mt G N (rvLM) (.ref (G.ad k i) :: As) h oc) (hB : CK N n) (hL : Cond.methodLink M.y.cls idx N.y ∈ JT) (hR : rmb N M = true) (hwd : N.wd = M.wd) (hC : KCl k N.y.cls) (hi : i < nIn M.wd k) (hn : As.length = n) (hst : st = As.reverse ++ .ref (G.ad k i) :: rest) (hcat : Nat.ble ((rest.map fun v => v.category).sum) 8 = true) (hd : decode M.cc pc = .ok (.invokevirtual idx, 3)) (kk : ∀ b, oc = some b → Sim G M rv (pc + 3) ls (.long b.1 :: rest) b.2 (f b)) : Sim G M rv pc ls st h (oc.bind f) := E_callV hM hB.1 hB.2 hL (rmok hR) hwd hC hi hn hst (le8 hcat) hd kk
theorem E_cSLM {N : MI} {idx n : Nat} {As rest : List Value} {oc : Option (Int64 × AH)} {f : Int64 × AH → Option α} (hM : Mt G N (rvLM) As h oc) (hB : CS N n) (hL : Cond.methodLink M.y.cls idx N.y ∈ JT) (hR : rmb N M = true) (hwd : N.wd = M.wd) (hn : As.length = n) (hst : st = As.reverse ++ rest) (hcat : Nat.ble ((rest.map fun v => v.category).sum) 8 = true) (hd : decode M.cc pc = .ok (.invokestatic idx, 3)) (kk : ∀ b, oc = some b → Sim G M rv (pc + 3) ls (.long b.1 :: rest) b.2 (f b)) : Sim G M rv pc ls st h (oc.bind f) := E_callS hM hB.1 hB.2 hL (rmok hR) hwd hn hst (le8 hcat) hd kk
theorem E_cVV {N : MI} {k i idx n : Nat} {As rest : List Value} {oc : Option (AH)} {f : AH → Option α} (hM : Mt G N (rvV) (.ref (G.ad k i) :: As) h oc) (hB : CK N n) (hL : Cond.methodLink M.y.cls idx N.y ∈ JT) (hR : rmb N M = true) (hwd : N.wd = M.wd) (hC : KCl k N.y.cls) (hi : i < nIn M.wd k) (hn : As.length = n) (hst : st = As.reverse ++ .ref (G.ad k i) :: rest) (hcat : Nat.ble ((rest.map fun v => v.category).sum) 8 = true) (hd : decode M.cc pc = .ok (.invokevirtual idx, 3)) (kk : ∀ b, oc = some b → Sim G M rv (pc + 3) ls (rest) b (f b)) : Sim G M rv pc ls st h (oc.bind f) := E_callV hM hB.1 hB.2 hL (rmok hR) hwd hC hi hn hst (le8 hcat) hd kk
theorem E_cSV {N : MI} {idx n : Nat} {As rest : List Value} {oc : Option (AH)} {f : AH → Option α} (hM : Mt G N (rvV) As h oc) (hB : CS N n) (hL : Cond.methodLink M.y.cls idx N.y ∈ JT) (hR : rmb N M = true) (hwd : N.wd = M.wd) (hn : As.length = n) (hst : st = As.reverse ++ rest) (hcat : Nat.ble ((rest.map fun v => v.category).sum) 8 = true) (hd : decode M.cc pc = .ok (.invokestatic idx, 3)) (kk : ∀ b, oc = some b → Sim G M rv (pc + 3) ls (rest) b (f b)) : Sim G M rv pc ls st h (oc.bind f) := E_callS hM hB.1 hB.2 hL (rmok hR) hwd hn hst (le8 hcat) hd kk
end Rules
