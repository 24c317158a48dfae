theorem wd_133 : Cond.instanceMethod objectInit ∈ JT := JT_of (List.mem_of_getElem? (i := 133) (by decide +kernel)) (by decide +kernel)
theorem wd_134 : Cond.code objectInit ⟨#[0xb1]⟩ 1 none ∈ JT := JT_of (List.mem_of_getElem? (i := 134) (by decide +kernel)) (by decide +kernel)
theorem wd_139 : Cond.code yX5_init cX5_init 1 none ∈ JT := JT_of (List.mem_of_getElem? (i := 139) (by decide +kernel)) (by decide +kernel)
theorem wd_140 : Cond.methodLink RX5 3 objectInit ∈ JT := JT_of (List.mem_of_getElem? (i := 140) (by decide +kernel)) (by decide +kernel)
theorem wd_141 : Cond.classLink RX5 15 RX0 ∈ JT := JT_of (List.mem_of_getElem? (i := 141) (by decide +kernel)) (by decide +kernel)
theorem wd_142 : Cond.instantiable RX0 17 ∈ JT := JT_of (List.mem_of_getElem? (i := 142) (by decide +kernel)) (by decide +kernel)
theorem wd_144 : Cond.instanceMethod yX0_init ∈ JT := JT_of (List.mem_of_getElem? (i := 144) (by decide +kernel)) (by decide +kernel)
theorem wd_145 : Cond.code yX0_init cX0_init 1 none ∈ JT := JT_of (List.mem_of_getElem? (i := 145) (by decide +kernel)) (by decide +kernel)
theorem wd_146 : Cond.methodLink RX0 3 objectInit ∈ JT := JT_of (List.mem_of_getElem? (i := 146) (by decide +kernel)) (by decide +kernel)
theorem wd_218 : Cond.arrayClass .byte ∈ JT := JT_of (List.mem_of_getElem? (i := 218) (by decide +kernel)) (by decide +kernel)
theorem wd_219 : Cond.arrayClass .long ∈ JT := JT_of (List.mem_of_getElem? (i := 219) (by decide +kernel)) (by decide +kernel)
theorem wd_220 : Cond.arrayClass .int ∈ JT := JT_of (List.mem_of_getElem? (i := 220) (by decide +kernel)) (by decide +kernel)
theorem wd_221 : Cond.classLink RX5 22 RX7 ∈ JT := JT_of (List.mem_of_getElem? (i := 221) (by decide +kernel)) (by decide +kernel)
theorem wd_222 : Cond.instantiable RX7 5 ∈ JT := JT_of (List.mem_of_getElem? (i := 222) (by decide +kernel)) (by decide +kernel)
theorem wd_224 : Cond.instanceMethod yX7_init ∈ JT := JT_of (List.mem_of_getElem? (i := 224) (by decide +kernel)) (by decide +kernel)
theorem wd_225 : Cond.code yX7_init cX7_init 1 none ∈ JT := JT_of (List.mem_of_getElem? (i := 225) (by decide +kernel)) (by decide +kernel)
theorem wd_226 : Cond.methodLink RX7 3 objectInit ∈ JT := JT_of (List.mem_of_getElem? (i := 226) (by decide +kernel)) (by decide +kernel)
theorem wd_247 : Cond.classLink RX5 29 RX6 ∈ JT := JT_of (List.mem_of_getElem? (i := 247) (by decide +kernel)) (by decide +kernel)
theorem wd_248 : Cond.instantiable RX6 4 ∈ JT := JT_of (List.mem_of_getElem? (i := 248) (by decide +kernel)) (by decide +kernel)
theorem wd_250 : Cond.instanceMethod yX6_init ∈ JT := JT_of (List.mem_of_getElem? (i := 250) (by decide +kernel)) (by decide +kernel)
theorem wd_251 : Cond.code yX6_init cX6_init 1 none ∈ JT := JT_of (List.mem_of_getElem? (i := 251) (by decide +kernel)) (by decide +kernel)
theorem wd_252 : Cond.methodLink RX6 3 objectInit ∈ JT := JT_of (List.mem_of_getElem? (i := 252) (by decide +kernel)) (by decide +kernel)
theorem wd_300 : Cond.code yX3_init cX3_init 2 none ∈ JT := JT_of (List.mem_of_getElem? (i := 300) (by decide +kernel)) (by decide +kernel)
theorem wd_301 : Cond.methodLink RX3 3 objectInit ∈ JT := JT_of (List.mem_of_getElem? (i := 301) (by decide +kernel)) (by decide +kernel)
theorem wd_302 : Cond.classLink RX3 9 RX7 ∈ JT := JT_of (List.mem_of_getElem? (i := 302) (by decide +kernel)) (by decide +kernel)
theorem wd_320 : Cond.code yX2_init cX2_init 1 none ∈ JT := JT_of (List.mem_of_getElem? (i := 320) (by decide +kernel)) (by decide +kernel)
theorem wd_321 : Cond.methodLink RX2 3 objectInit ∈ JT := JT_of (List.mem_of_getElem? (i := 321) (by decide +kernel)) (by decide +kernel)
theorem wd_339 : Cond.code yX4_init cX4_init 1 none ∈ JT := JT_of (List.mem_of_getElem? (i := 339) (by decide +kernel)) (by decide +kernel)
theorem wd_340 : Cond.methodLink RX4 3 objectInit ∈ JT := JT_of (List.mem_of_getElem? (i := 340) (by decide +kernel)) (by decide +kernel)
theorem arrV_ext {cA : ClassId} {n : Nat} {f g : Nat → Value} (h : ∀ j, j < n → f j = g j) : arrV cA n f = arrV cA n g := by
  unfold arrV
  congr 1
  apply Array.ext
  · simp
  · intro i h1 h2
    simp at h1
    simp [h i h1]
section Rules
variable {G : JG} {M : MI} {A : Nat → Prop} {post : va_W → Prop} {mc ms : Nat} {pc : Nat} {ls : List (Nat × Value)} {st : List Value} {ws : va_W} {cells slots : Nat}
theorem refs_P {D : va_G} {ws : va_W} {H : Heap} {p a n : Nat} {cA : ClassId} {f f' : Nat → Option Nat} (hP : va_P D vwCl ws H) (hp : ws[p]? = some (a, .inl (cA, n, .inr (.inr (.inr (.inr f)))))) (h : ∀ j, j < n → f j = f' j) : va_P D vwCl (ws.set p (a, .inl (cA, n, .inr (.inr (.inr (.inr f')))))) H := by
  intro k q hk
  rw [List.getElem?_set] at hk
  by_cases e : p = k
  · subst e
    rw [if_pos rfl] at hk
    have h1 := hP p _ hp
    obtain ⟨l1, -⟩ := List.getElem?_eq_some_iff.mp hp
    rw [if_pos l1] at hk
    cases hk
    show H[a]? = some (vp_cell cA (n, .inr (.inr (.inr (.inr f')))))
    have h2 : H[a]? = some (vp_cell cA (n, .inr (.inr (.inr (.inr f))))) := h1
    rw [h2, vp_cell_q, vp_cell_q]
    exact congrArg some (arrV_ext (fun j hj => by rw [h j hj]))
  · rw [if_neg e] at hk
    exact hP k q hk
theorem K_refs {a n : Nat} {x0 : Nat × va_E} {R : va_W} {f f' : Nat → Option Nat} (h : ∀ j, j < n → f j = f' j) (k : CSim G M A post mc ms pc ls st (x0 :: (a, .inl (G.cT 4, n, .inr (.inr (.inr (.inr f'))))) :: R) cells slots) : CSim G M A post mc ms pc ls st (x0 :: (a, .inl (G.cT 4, n, .inr (.inr (.inr (.inr f))))) :: R) cells slots := by
  intro p e s m args below meth c H locs la hx hb hr hts hown hml hk hin hK hN hO hA hP hD hS hl
  exact k p e s m args below meth c H locs la hx hb hr hts hown hml hk hin hK hN hO hA (refs_P (p := 1) hP rfl h) (hD.set (p := 1) rfl) hS hl
end Rules
theorem cf_X7_9 : CFd RX7 9 6 2 (.array .int) true := ⟨RX7, TX7, 5, tyX7, rfl, by decide, ux_X7, wd_233, tyX7_ok, nmX7, rfl, by decide +kernel, rfl⟩
theorem cf_X7_15 : CFd RX7 15 6 3 (.array .int) true := ⟨RX7, TX7, 5, tyX7, rfl, by decide, ux_X7, wd_234, tyX7_ok, nmX7, rfl, by decide +kernel, rfl⟩
theorem cf_X7_18 : CFd RX7 18 6 4 (.array .int) true := ⟨RX7, TX7, 5, tyX7, rfl, by decide, ux_X7, wd_235, tyX7_ok, nmX7, rfl, by decide +kernel, rfl⟩
theorem cf_X0_9 : CFd RX0 9 0 8 (.array .long) true := ⟨RX0, TX0, 17, tyX0, rfl, by decide, ux_X0, wd_174, tyX0_ok, nmX0, rfl, by decide +kernel, rfl⟩
theorem cf_X0_15 : CFd RX0 15 0 9 (.array .int) true := ⟨RX0, TX0, 17, tyX0, rfl, by decide, ux_X0, wd_175, tyX0_ok, nmX0, rfl, by decide +kernel, rfl⟩
theorem cf_X0_19 : CFd RX0 19 0 10 (.array .int) true := ⟨RX0, TX0, 17, tyX0, rfl, by decide, ux_X0, wd_176, tyX0_ok, nmX0, rfl, by decide +kernel, rfl⟩
theorem cf_X0_22 : CFd RX0 22 0 11 (.array .int) true := ⟨RX0, TX0, 17, tyX0, rfl, by decide, ux_X0, wd_177, tyX0_ok, nmX0, rfl, by decide +kernel, rfl⟩
theorem cf_X0_25 : CFd RX0 25 0 12 (.array .long) true := ⟨RX0, TX0, 17, tyX0, rfl, by decide, ux_X0, wd_178, tyX0_ok, nmX0, rfl, by decide +kernel, rfl⟩
theorem cf_X0_28 : CFd RX0 28 0 13 (.array .int) true := ⟨RX0, TX0, 17, tyX0, rfl, by decide, ux_X0, wd_179, tyX0_ok, nmX0, rfl, by decide +kernel, rfl⟩
theorem cf_X0_31 : CFd RX0 31 0 14 (.array .int) true := ⟨RX0, TX0, 17, tyX0, rfl, by decide, ux_X0, wd_180, tyX0_ok, nmX0, rfl, by decide +kernel, rfl⟩
theorem cf_X0_34 : CFd RX0 34 0 15 (.array .int) true := ⟨RX0, TX0, 17, tyX0, rfl, by decide, ux_X0, wd_181, tyX0_ok, nmX0, rfl, by decide +kernel, rfl⟩
theorem cf_X0_37 : CFd RX0 37 0 16 (.array .int) true := ⟨RX0, TX0, 17, tyX0, rfl, by decide, ux_X0, wd_182, tyX0_ok, nmX0, rfl, by decide +kernel, rfl⟩
theorem cf_X6_9 : CFd RX6 9 5 1 (.array .int) true := ⟨RX6, TX6, 4, tyX6, rfl, by decide, ux_X6, wd_254, tyX6_ok, nmX6, rfl, by decide +kernel, rfl⟩
theorem cf_X6_15 : CFd RX6 15 5 2 (.array .int) true := ⟨RX6, TX6, 4, tyX6, rfl, by decide, ux_X6, wd_255, tyX6_ok, nmX6, rfl, by decide +kernel, rfl⟩
theorem cf_X6_18 : CFd RX6 18 5 3 (.array .long) true := ⟨RX6, TX6, 4, tyX6, rfl, by decide, ux_X6, wd_256, tyX6_ok, nmX6, rfl, by decide +kernel, rfl⟩
theorem cf_X2_9 : CFd RX2 9 1 1 (.array .int) true := ⟨RX2, TX2, 4, tyX2, rfl, by decide, ux_X2, wd_323, tyX2_ok, nmX2, rfl, by decide +kernel, rfl⟩
theorem cf_X2_15 : CFd RX2 15 1 2 (.array .int) true := ⟨RX2, TX2, 4, tyX2, rfl, by decide, ux_X2, wd_324, tyX2_ok, nmX2, rfl, by decide +kernel, rfl⟩
theorem cf_X2_18 : CFd RX2 18 1 3 (.array .long) true := ⟨RX2, TX2, 4, tyX2, rfl, by decide, ux_X2, wd_325, tyX2_ok, nmX2, rfl, by decide +kernel, rfl⟩
theorem cf_X4_11 : CFd RX4 11 3 0 (.array .byte) true := ⟨RX4, TX4, 11, tyX4, rfl, by decide, ux_X4, wd_341, tyX4_ok, nmX4, rfl, by decide +kernel, rfl⟩
theorem cf_X4_15 : CFd RX4 15 3 2 (.array .int) true := ⟨RX4, TX4, 11, tyX4, rfl, by decide, ux_X4, wd_343, tyX4_ok, nmX4, rfl, by decide +kernel, rfl⟩
theorem cf_X4_19 : CFd RX4 19 3 3 .int false := ⟨RX4, TX4, 11, tyX4, rfl, by decide, ux_X4, wd_344, tyX4_ok, nmX4, rfl, by decide +kernel, rfl⟩
theorem cf_X4_23 : CFd RX4 23 3 4 .int false := ⟨RX4, TX4, 11, tyX4, rfl, by decide, ux_X4, wd_345, tyX4_ok, nmX4, rfl, by decide +kernel, rfl⟩
theorem cf_X4_26 : CFd RX4 26 3 5 (.array .int) true := ⟨RX4, TX4, 11, tyX4, rfl, by decide, ux_X4, wd_346, tyX4_ok, nmX4, rfl, by decide +kernel, rfl⟩
theorem cf_X5_9 : CFd RX5 9 4 1 .int false := ⟨RX5, TX5, 7, tyX5, rfl, by decide, ux_X5, wd_268, tyX5_ok, nmX5, rfl, by decide +kernel, rfl⟩
theorem cf_X5_18 : CFd RX5 18 4 2 (.object "PaintedOver$Book") false := ⟨RX5, TX5, 7, tyX5, rfl, by decide, ux_X5, wd_270, tyX5_ok, nmX5, rfl, by decide +kernel, rfl⟩
theorem cf_X5_25 : CFd RX5 25 4 3 (.object "PaintedOver$Works") false := ⟨RX5, TX5, 7, tyX5, rfl, by decide, ux_X5, wd_272, tyX5_ok, nmX5, rfl, by decide +kernel, rfl⟩
theorem cf_X5_32 : CFd RX5 32 4 4 (.object "PaintedOver$Tokens") true := ⟨RX5, TX5, 7, tyX5, rfl, by decide, ux_X5, wd_274, tyX5_ok, nmX5, rfl, by decide +kernel, rfl⟩
theorem cf_X3_11 : CFd RX3 11 2 2 (.array (.object "PaintedOver$Works")) true := ⟨RX3, TX3, 3, tyX3, rfl, by decide, ux_X3, wd_308, tyX3_ok, nmX3, rfl, by decide +kernel, rfl⟩
def iX7_init : MI := (yX7_init, cX7_init, 1, none, { frames := 1, cells := 3, slots := 312, locals := 20 }, 0)
theorem mb_X7 : MBs iX7_init 0 := ⟨wd_108, wd_225, by decide +kernel⟩
def pX7 (G : JG) (h0 : Nat) (w : va_W) : Prop := ∃ a1 a2 a3 : Nat, w = (h0, .inr (6, [.int 0, .int 0, .ref a1, .ref a2, .ref a3])) :: [(a1, .inl (G.cT 0, (12, .inl (fun _ => 0)))), (a2, .inl (G.cT 0, (12, .inl (fun _ => 0)))), (a3, .inl (G.cT 0, (288, .inl (fun _ => 0))))]
set_option maxRecDepth 20000 in
set_option maxHeartbeats 2000000 in
theorem kX7 (G : JG) (h0 : Nat) : CMt G iX7_init h0 (.inr (6, [.int 0, .int 0, .null, .null, .null])) (pX7 G h0) 3 312 := by
  refine CMt_of (by decide) rfl rfl (by decide) (fun A => ?_)
  refine K_aload_n dX7_init_0 rfl 0 rfl ?_
  refine K_objinit wd_226 wd_133 wd_134 (Nat.le_of_ble_eq_true rfl) (Nat.le_of_ble_eq_true rfl) dX7_init_1 ?_
  refine K_aload_n dX7_init_4 rfl 0 rfl ?_
  refine K_bipush (v := 12) dX7_init_5 rfl ?_
  refine K_newarr (t := 0) (N := 12) (a0 := (12, .inl (fun _ => 0))) wd_220 rfl (fun _ => rfl) (fun _ => rfl) (by decide) rfl (Nat.le_of_ble_eq_true rfl) (Nat.le_of_ble_eq_true rfl) (Nat.le_of_ble_eq_true rfl) dX7_init_7 (fun a1 => ?_)
  refine K_world (ws' := (h0, .inr (6, [.int 0, .int 0, .null, .null, .null])) :: [(a1, .inl (G.cT 0, (12, .inl (fun _ => 0))))]) rfl ?_
  refine K_put cf_X7_9 rfl rfl (Nat.le_of_ble_eq_true rfl) dX7_init_9 ?_
  refine K_world (ws' := (h0, .inr (6, [.int 0, .int 0, .ref a1, .null, .null])) :: [(a1, .inl (G.cT 0, (12, .inl (fun _ => 0))))]) rfl ?_
  refine K_aload_n dX7_init_12 rfl 0 rfl ?_
  refine K_bipush (v := 12) dX7_init_13 rfl ?_
  refine K_newarr (t := 0) (N := 12) (a0 := (12, .inl (fun _ => 0))) wd_220 rfl (fun _ => rfl) (fun _ => rfl) (by decide) rfl (Nat.le_of_ble_eq_true rfl) (Nat.le_of_ble_eq_true rfl) (Nat.le_of_ble_eq_true rfl) dX7_init_15 (fun a2 => ?_)
  refine K_world (ws' := (h0, .inr (6, [.int 0, .int 0, .ref a1, .null, .null])) :: [(a1, .inl (G.cT 0, (12, .inl (fun _ => 0)))), (a2, .inl (G.cT 0, (12, .inl (fun _ => 0))))]) rfl ?_
  refine K_put cf_X7_15 rfl rfl (Nat.le_of_ble_eq_true rfl) dX7_init_17 ?_
  refine K_world (ws' := (h0, .inr (6, [.int 0, .int 0, .ref a1, .ref a2, .null])) :: [(a1, .inl (G.cT 0, (12, .inl (fun _ => 0)))), (a2, .inl (G.cT 0, (12, .inl (fun _ => 0))))]) rfl ?_
  refine K_aload_n dX7_init_20 rfl 0 rfl ?_
  refine K_sipush (v := 288) dX7_init_21 rfl ?_
  refine K_newarr (t := 0) (N := 288) (a0 := (288, .inl (fun _ => 0))) wd_220 rfl (fun _ => rfl) (fun _ => rfl) (by decide) rfl (Nat.le_of_ble_eq_true rfl) (Nat.le_of_ble_eq_true rfl) (Nat.le_of_ble_eq_true rfl) dX7_init_24 (fun a3 => ?_)
  refine K_world (ws' := (h0, .inr (6, [.int 0, .int 0, .ref a1, .ref a2, .null])) :: [(a1, .inl (G.cT 0, (12, .inl (fun _ => 0)))), (a2, .inl (G.cT 0, (12, .inl (fun _ => 0)))), (a3, .inl (G.cT 0, (288, .inl (fun _ => 0))))]) rfl ?_
  refine K_put cf_X7_18 rfl rfl (Nat.le_of_ble_eq_true rfl) dX7_init_26 ?_
  refine K_world (ws' := (h0, .inr (6, [.int 0, .int 0, .ref a1, .ref a2, .ref a3])) :: [(a1, .inl (G.cT 0, (12, .inl (fun _ => 0)))), (a2, .inl (G.cT 0, (12, .inl (fun _ => 0)))), (a3, .inl (G.cT 0, (288, .inl (fun _ => 0))))]) rfl ?_
  exact K_ret ⟨a1, a2, a3, rfl⟩ rfl rfl dX7_init_29
def iX0_init : MI := (yX0_init, cX0_init, 1, none, { frames := 1, cells := 9, slots := 61, locals := 20 }, 0)
theorem mb_X0 : MBs iX0_init 0 := ⟨wd_107, wd_145, by decide +kernel⟩
def pX0 (G : JG) (h0 : Nat) (w : va_W) : Prop := ∃ a1 a2 a3 a4 a5 a6 a7 a8 a9 : Nat, w = (h0, .inr (0, [.int 0, .int 0, .int 0, .int 0, .int 0, .int 0, .int 0, .int 0, .ref a1, .ref a2, .ref a3, .ref a4, .ref a5, .ref a6, .ref a7, .ref a8, .ref a9])) :: [(a1, .inl (G.cT 3, (5, .inr (.inl (fun _ => 0))))), (a2, .inl (G.cT 0, (5, .inl (fun _ => 0)))), (a3, .inl (G.cT 0, (5, .inl (fun _ => 0)))), (a4, .inl (G.cT 0, (5, .inl (fun _ => 0)))), (a5, .inl (G.cT 3, (5, .inr (.inl (fun _ => 0))))), (a6, .inl (G.cT 0, (4, .inl (fun _ => 0)))), (a7, .inl (G.cT 0, (4, .inl (fun _ => 0)))), (a8, .inl (G.cT 0, (4, .inl (fun _ => 0)))), (a9, .inl (G.cT 0, (24, .inl (fun _ => 0))))]
set_option maxRecDepth 20000 in
set_option maxHeartbeats 2000000 in
theorem kX0 (G : JG) (h0 : Nat) : CMt G iX0_init h0 (.inr (0, [.int 0, .int 0, .int 0, .int 0, .int 0, .int 0, .int 0, .int 0, .null, .null, .null, .null, .null, .null, .null, .null, .null])) (pX0 G h0) 9 61 := by
  refine CMt_of (by decide) rfl rfl (by decide) (fun A => ?_)
  refine K_aload_n dX0_init_0 rfl 0 rfl ?_
  refine K_objinit wd_146 wd_133 wd_134 (Nat.le_of_ble_eq_true rfl) (Nat.le_of_ble_eq_true rfl) dX0_init_1 ?_
  refine K_aload_n dX0_init_4 rfl 0 rfl ?_
  refine K_iconst (v := 5) dX0_init_5 rfl ?_
  refine K_newarr (t := 3) (N := 5) (a0 := (5, .inr (.inl (fun _ => 0)))) wd_219 rfl (fun _ => rfl) (fun _ => rfl) (by decide) rfl (Nat.le_of_ble_eq_true rfl) (Nat.le_of_ble_eq_true rfl) (Nat.le_of_ble_eq_true rfl) dX0_init_6 (fun a1 => ?_)
  refine K_world (ws' := (h0, .inr (0, [.int 0, .int 0, .int 0, .int 0, .int 0, .int 0, .int 0, .int 0, .null, .null, .null, .null, .null, .null, .null, .null, .null])) :: [(a1, .inl (G.cT 3, (5, .inr (.inl (fun _ => 0)))))]) rfl ?_
  refine K_put cf_X0_9 rfl rfl (Nat.le_of_ble_eq_true rfl) dX0_init_8 ?_
  refine K_world (ws' := (h0, .inr (0, [.int 0, .int 0, .int 0, .int 0, .int 0, .int 0, .int 0, .int 0, .ref a1, .null, .null, .null, .null, .null, .null, .null, .null])) :: [(a1, .inl (G.cT 3, (5, .inr (.inl (fun _ => 0)))))]) rfl ?_
  refine K_aload_n dX0_init_11 rfl 0 rfl ?_
  refine K_iconst (v := 5) dX0_init_12 rfl ?_
  refine K_newarr (t := 0) (N := 5) (a0 := (5, .inl (fun _ => 0))) wd_220 rfl (fun _ => rfl) (fun _ => rfl) (by decide) rfl (Nat.le_of_ble_eq_true rfl) (Nat.le_of_ble_eq_true rfl) (Nat.le_of_ble_eq_true rfl) dX0_init_13 (fun a2 => ?_)
  refine K_world (ws' := (h0, .inr (0, [.int 0, .int 0, .int 0, .int 0, .int 0, .int 0, .int 0, .int 0, .ref a1, .null, .null, .null, .null, .null, .null, .null, .null])) :: [(a1, .inl (G.cT 3, (5, .inr (.inl (fun _ => 0))))), (a2, .inl (G.cT 0, (5, .inl (fun _ => 0))))]) rfl ?_
  refine K_put cf_X0_15 rfl rfl (Nat.le_of_ble_eq_true rfl) dX0_init_15 ?_
  refine K_world (ws' := (h0, .inr (0, [.int 0, .int 0, .int 0, .int 0, .int 0, .int 0, .int 0, .int 0, .ref a1, .ref a2, .null, .null, .null, .null, .null, .null, .null])) :: [(a1, .inl (G.cT 3, (5, .inr (.inl (fun _ => 0))))), (a2, .inl (G.cT 0, (5, .inl (fun _ => 0))))]) rfl ?_
  refine K_aload_n dX0_init_18 rfl 0 rfl ?_
  refine K_iconst (v := 5) dX0_init_19 rfl ?_
  refine K_newarr (t := 0) (N := 5) (a0 := (5, .inl (fun _ => 0))) wd_220 rfl (fun _ => rfl) (fun _ => rfl) (by decide) rfl (Nat.le_of_ble_eq_true rfl) (Nat.le_of_ble_eq_true rfl) (Nat.le_of_ble_eq_true rfl) dX0_init_20 (fun a3 => ?_)
  refine K_world (ws' := (h0, .inr (0, [.int 0, .int 0, .int 0, .int 0, .int 0, .int 0, .int 0, .int 0, .ref a1, .ref a2, .null, .null, .null, .null, .null, .null, .null])) :: [(a1, .inl (G.cT 3, (5, .inr (.inl (fun _ => 0))))), (a2, .inl (G.cT 0, (5, .inl (fun _ => 0)))), (a3, .inl (G.cT 0, (5, .inl (fun _ => 0))))]) rfl ?_
  refine K_put cf_X0_19 rfl rfl (Nat.le_of_ble_eq_true rfl) dX0_init_22 ?_
  refine K_world (ws' := (h0, .inr (0, [.int 0, .int 0, .int 0, .int 0, .int 0, .int 0, .int 0, .int 0, .ref a1, .ref a2, .ref a3, .null, .null, .null, .null, .null, .null])) :: [(a1, .inl (G.cT 3, (5, .inr (.inl (fun _ => 0))))), (a2, .inl (G.cT 0, (5, .inl (fun _ => 0)))), (a3, .inl (G.cT 0, (5, .inl (fun _ => 0))))]) rfl ?_
  refine K_aload_n dX0_init_25 rfl 0 rfl ?_
  refine K_iconst (v := 5) dX0_init_26 rfl ?_
  refine K_newarr (t := 0) (N := 5) (a0 := (5, .inl (fun _ => 0))) wd_220 rfl (fun _ => rfl) (fun _ => rfl) (by decide) rfl (Nat.le_of_ble_eq_true rfl) (Nat.le_of_ble_eq_true rfl) (Nat.le_of_ble_eq_true rfl) dX0_init_27 (fun a4 => ?_)
  refine K_world (ws' := (h0, .inr (0, [.int 0, .int 0, .int 0, .int 0, .int 0, .int 0, .int 0, .int 0, .ref a1, .ref a2, .ref a3, .null, .null, .null, .null, .null, .null])) :: [(a1, .inl (G.cT 3, (5, .inr (.inl (fun _ => 0))))), (a2, .inl (G.cT 0, (5, .inl (fun _ => 0)))), (a3, .inl (G.cT 0, (5, .inl (fun _ => 0)))), (a4, .inl (G.cT 0, (5, .inl (fun _ => 0))))]) rfl ?_
  refine K_put cf_X0_22 rfl rfl (Nat.le_of_ble_eq_true rfl) dX0_init_29 ?_
  refine K_world (ws' := (h0, .inr (0, [.int 0, .int 0, .int 0, .int 0, .int 0, .int 0, .int 0, .int 0, .ref a1, .ref a2, .ref a3, .ref a4, .null, .null, .null, .null, .null])) :: [(a1, .inl (G.cT 3, (5, .inr (.inl (fun _ => 0))))), (a2, .inl (G.cT 0, (5, .inl (fun _ => 0)))), (a3, .inl (G.cT 0, (5, .inl (fun _ => 0)))), (a4, .inl (G.cT 0, (5, .inl (fun _ => 0))))]) rfl ?_
  refine K_aload_n dX0_init_32 rfl 0 rfl ?_
  refine K_iconst (v := 5) dX0_init_33 rfl ?_
  refine K_newarr (t := 3) (N := 5) (a0 := (5, .inr (.inl (fun _ => 0)))) wd_219 rfl (fun _ => rfl) (fun _ => rfl) (by decide) rfl (Nat.le_of_ble_eq_true rfl) (Nat.le_of_ble_eq_true rfl) (Nat.le_of_ble_eq_true rfl) dX0_init_34 (fun a5 => ?_)
  refine K_world (ws' := (h0, .inr (0, [.int 0, .int 0, .int 0, .int 0, .int 0, .int 0, .int 0, .int 0, .ref a1, .ref a2, .ref a3, .ref a4, .null, .null, .null, .null, .null])) :: [(a1, .inl (G.cT 3, (5, .inr (.inl (fun _ => 0))))), (a2, .inl (G.cT 0, (5, .inl (fun _ => 0)))), (a3, .inl (G.cT 0, (5, .inl (fun _ => 0)))), (a4, .inl (G.cT 0, (5, .inl (fun _ => 0)))), (a5, .inl (G.cT 3, (5, .inr (.inl (fun _ => 0)))))]) rfl ?_
  refine K_put cf_X0_25 rfl rfl (Nat.le_of_ble_eq_true rfl) dX0_init_36 ?_
  refine K_world (ws' := (h0, .inr (0, [.int 0, .int 0, .int 0, .int 0, .int 0, .int 0, .int 0, .int 0, .ref a1, .ref a2, .ref a3, .ref a4, .ref a5, .null, .null, .null, .null])) :: [(a1, .inl (G.cT 3, (5, .inr (.inl (fun _ => 0))))), (a2, .inl (G.cT 0, (5, .inl (fun _ => 0)))), (a3, .inl (G.cT 0, (5, .inl (fun _ => 0)))), (a4, .inl (G.cT 0, (5, .inl (fun _ => 0)))), (a5, .inl (G.cT 3, (5, .inr (.inl (fun _ => 0)))))]) rfl ?_
  refine K_aload_n dX0_init_39 rfl 0 rfl ?_
  refine K_iconst (v := 4) dX0_init_40 rfl ?_
  refine K_newarr (t := 0) (N := 4) (a0 := (4, .inl (fun _ => 0))) wd_220 rfl (fun _ => rfl) (fun _ => rfl) (by decide) rfl (Nat.le_of_ble_eq_true rfl) (Nat.le_of_ble_eq_true rfl) (Nat.le_of_ble_eq_true rfl) dX0_init_41 (fun a6 => ?_)
  refine K_world (ws' := (h0, .inr (0, [.int 0, .int 0, .int 0, .int 0, .int 0, .int 0, .int 0, .int 0, .ref a1, .ref a2, .ref a3, .ref a4, .ref a5, .null, .null, .null, .null])) :: [(a1, .inl (G.cT 3, (5, .inr (.inl (fun _ => 0))))), (a2, .inl (G.cT 0, (5, .inl (fun _ => 0)))), (a3, .inl (G.cT 0, (5, .inl (fun _ => 0)))), (a4, .inl (G.cT 0, (5, .inl (fun _ => 0)))), (a5, .inl (G.cT 3, (5, .inr (.inl (fun _ => 0))))), (a6, .inl (G.cT 0, (4, .inl (fun _ => 0))))]) rfl ?_
  refine K_put cf_X0_28 rfl rfl (Nat.le_of_ble_eq_true rfl) dX0_init_43 ?_
  refine K_world (ws' := (h0, .inr (0, [.int 0, .int 0, .int 0, .int 0, .int 0, .int 0, .int 0, .int 0, .ref a1, .ref a2, .ref a3, .ref a4, .ref a5, .ref a6, .null, .null, .null])) :: [(a1, .inl (G.cT 3, (5, .inr (.inl (fun _ => 0))))), (a2, .inl (G.cT 0, (5, .inl (fun _ => 0)))), (a3, .inl (G.cT 0, (5, .inl (fun _ => 0)))), (a4, .inl (G.cT 0, (5, .inl (fun _ => 0)))), (a5, .inl (G.cT 3, (5, .inr (.inl (fun _ => 0))))), (a6, .inl (G.cT 0, (4, .inl (fun _ => 0))))]) rfl ?_
  refine K_aload_n dX0_init_46 rfl 0 rfl ?_
  refine K_iconst (v := 4) dX0_init_47 rfl ?_
  refine K_newarr (t := 0) (N := 4) (a0 := (4, .inl (fun _ => 0))) wd_220 rfl (fun _ => rfl) (fun _ => rfl) (by decide) rfl (Nat.le_of_ble_eq_true rfl) (Nat.le_of_ble_eq_true rfl) (Nat.le_of_ble_eq_true rfl) dX0_init_48 (fun a7 => ?_)
  refine K_world (ws' := (h0, .inr (0, [.int 0, .int 0, .int 0, .int 0, .int 0, .int 0, .int 0, .int 0, .ref a1, .ref a2, .ref a3, .ref a4, .ref a5, .ref a6, .null, .null, .null])) :: [(a1, .inl (G.cT 3, (5, .inr (.inl (fun _ => 0))))), (a2, .inl (G.cT 0, (5, .inl (fun _ => 0)))), (a3, .inl (G.cT 0, (5, .inl (fun _ => 0)))), (a4, .inl (G.cT 0, (5, .inl (fun _ => 0)))), (a5, .inl (G.cT 3, (5, .inr (.inl (fun _ => 0))))), (a6, .inl (G.cT 0, (4, .inl (fun _ => 0)))), (a7, .inl (G.cT 0, (4, .inl (fun _ => 0))))]) rfl ?_
  refine K_put cf_X0_31 rfl rfl (Nat.le_of_ble_eq_true rfl) dX0_init_50 ?_
  refine K_world (ws' := (h0, .inr (0, [.int 0, .int 0, .int 0, .int 0, .int 0, .int 0, .int 0, .int 0, .ref a1, .ref a2, .ref a3, .ref a4, .ref a5, .ref a6, .ref a7, .null, .null])) :: [(a1, .inl (G.cT 3, (5, .inr (.inl (fun _ => 0))))), (a2, .inl (G.cT 0, (5, .inl (fun _ => 0)))), (a3, .inl (G.cT 0, (5, .inl (fun _ => 0)))), (a4, .inl (G.cT 0, (5, .inl (fun _ => 0)))), (a5, .inl (G.cT 3, (5, .inr (.inl (fun _ => 0))))), (a6, .inl (G.cT 0, (4, .inl (fun _ => 0)))), (a7, .inl (G.cT 0, (4, .inl (fun _ => 0))))]) rfl ?_
  refine K_aload_n dX0_init_53 rfl 0 rfl ?_
  refine K_iconst (v := 4) dX0_init_54 rfl ?_
  refine K_newarr (t := 0) (N := 4) (a0 := (4, .inl (fun _ => 0))) wd_220 rfl (fun _ => rfl) (fun _ => rfl) (by decide) rfl (Nat.le_of_ble_eq_true rfl) (Nat.le_of_ble_eq_true rfl) (Nat.le_of_ble_eq_true rfl) dX0_init_55 (fun a8 => ?_)
  refine K_world (ws' := (h0, .inr (0, [.int 0, .int 0, .int 0, .int 0, .int 0, .int 0, .int 0, .int 0, .ref a1, .ref a2, .ref a3, .ref a4, .ref a5, .ref a6, .ref a7, .null, .null])) :: [(a1, .inl (G.cT 3, (5, .inr (.inl (fun _ => 0))))), (a2, .inl (G.cT 0, (5, .inl (fun _ => 0)))), (a3, .inl (G.cT 0, (5, .inl (fun _ => 0)))), (a4, .inl (G.cT 0, (5, .inl (fun _ => 0)))), (a5, .inl (G.cT 3, (5, .inr (.inl (fun _ => 0))))), (a6, .inl (G.cT 0, (4, .inl (fun _ => 0)))), (a7, .inl (G.cT 0, (4, .inl (fun _ => 0)))), (a8, .inl (G.cT 0, (4, .inl (fun _ => 0))))]) rfl ?_
  refine K_put cf_X0_34 rfl rfl (Nat.le_of_ble_eq_true rfl) dX0_init_57 ?_
  refine K_world (ws' := (h0, .inr (0, [.int 0, .int 0, .int 0, .int 0, .int 0, .int 0, .int 0, .int 0, .ref a1, .ref a2, .ref a3, .ref a4, .ref a5, .ref a6, .ref a7, .ref a8, .null])) :: [(a1, .inl (G.cT 3, (5, .inr (.inl (fun _ => 0))))), (a2, .inl (G.cT 0, (5, .inl (fun _ => 0)))), (a3, .inl (G.cT 0, (5, .inl (fun _ => 0)))), (a4, .inl (G.cT 0, (5, .inl (fun _ => 0)))), (a5, .inl (G.cT 3, (5, .inr (.inl (fun _ => 0))))), (a6, .inl (G.cT 0, (4, .inl (fun _ => 0)))), (a7, .inl (G.cT 0, (4, .inl (fun _ => 0)))), (a8, .inl (G.cT 0, (4, .inl (fun _ => 0))))]) rfl ?_
  refine K_aload_n dX0_init_60 rfl 0 rfl ?_
  refine K_bipush (v := 24) dX0_init_61 rfl ?_
  refine K_newarr (t := 0) (N := 24) (a0 := (24, .inl (fun _ => 0))) wd_220 rfl (fun _ => rfl) (fun _ => rfl) (by decide) rfl (Nat.le_of_ble_eq_true rfl) (Nat.le_of_ble_eq_true rfl) (Nat.le_of_ble_eq_true rfl) dX0_init_63 (fun a9 => ?_)
  refine K_world (ws' := (h0, .inr (0, [.int 0, .int 0, .int 0, .int 0, .int 0, .int 0, .int 0, .int 0, .ref a1, .ref a2, .ref a3, .ref a4, .ref a5, .ref a6, .ref a7, .ref a8, .null])) :: [(a1, .inl (G.cT 3, (5, .inr (.inl (fun _ => 0))))), (a2, .inl (G.cT 0, (5, .inl (fun _ => 0)))), (a3, .inl (G.cT 0, (5, .inl (fun _ => 0)))), (a4, .inl (G.cT 0, (5, .inl (fun _ => 0)))), (a5, .inl (G.cT 3, (5, .inr (.inl (fun _ => 0))))), (a6, .inl (G.cT 0, (4, .inl (fun _ => 0)))), (a7, .inl (G.cT 0, (4, .inl (fun _ => 0)))), (a8, .inl (G.cT 0, (4, .inl (fun _ => 0)))), (a9, .inl (G.cT 0, (24, .inl (fun _ => 0))))]) rfl ?_
  refine K_put cf_X0_37 rfl rfl (Nat.le_of_ble_eq_true rfl) dX0_init_65 ?_
  refine K_world (ws' := (h0, .inr (0, [.int 0, .int 0, .int 0, .int 0, .int 0, .int 0, .int 0, .int 0, .ref a1, .ref a2, .ref a3, .ref a4, .ref a5, .ref a6, .ref a7, .ref a8, .ref a9])) :: [(a1, .inl (G.cT 3, (5, .inr (.inl (fun _ => 0))))), (a2, .inl (G.cT 0, (5, .inl (fun _ => 0)))), (a3, .inl (G.cT 0, (5, .inl (fun _ => 0)))), (a4, .inl (G.cT 0, (5, .inl (fun _ => 0)))), (a5, .inl (G.cT 3, (5, .inr (.inl (fun _ => 0))))), (a6, .inl (G.cT 0, (4, .inl (fun _ => 0)))), (a7, .inl (G.cT 0, (4, .inl (fun _ => 0)))), (a8, .inl (G.cT 0, (4, .inl (fun _ => 0)))), (a9, .inl (G.cT 0, (24, .inl (fun _ => 0))))]) rfl ?_
  exact K_ret ⟨a1, a2, a3, a4, a5, a6, a7, a8, a9, rfl⟩ rfl rfl dX0_init_68
def iX6_init : MI := (yX6_init, cX6_init, 1, none, { frames := 1, cells := 3, slots := 2703, locals := 20 }, 0)
theorem mb_X6 : MBs iX6_init 0 := ⟨wd_109, wd_251, by decide +kernel⟩
def pX6 (G : JG) (h0 : Nat) (w : va_W) : Prop := ∃ a1 a2 a3 : Nat, w = (h0, .inr (5, [.int 0, .ref a1, .ref a2, .ref a3])) :: [(a1, .inl (G.cT 0, (901, .inl (fun _ => 0)))), (a2, .inl (G.cT 0, (901, .inl (fun _ => 0)))), (a3, .inl (G.cT 3, (901, .inr (.inl (fun _ => 0)))))]
set_option maxRecDepth 20000 in
set_option maxHeartbeats 2000000 in
theorem kX6 (G : JG) (h0 : Nat) : CMt G iX6_init h0 (.inr (5, [.int 0, .null, .null, .null])) (pX6 G h0) 3 2703 := by
  refine CMt_of (by decide) rfl rfl (by decide) (fun A => ?_)
  refine K_aload_n dX6_init_0 rfl 0 rfl ?_
  refine K_objinit wd_252 wd_133 wd_134 (Nat.le_of_ble_eq_true rfl) (Nat.le_of_ble_eq_true rfl) dX6_init_1 ?_
  refine K_aload_n dX6_init_4 rfl 0 rfl ?_
  refine K_sipush (v := 901) dX6_init_5 rfl ?_
  refine K_newarr (t := 0) (N := 901) (a0 := (901, .inl (fun _ => 0))) wd_220 rfl (fun _ => rfl) (fun _ => rfl) (by decide) rfl (Nat.le_of_ble_eq_true rfl) (Nat.le_of_ble_eq_true rfl) (Nat.le_of_ble_eq_true rfl) dX6_init_8 (fun a1 => ?_)
  refine K_world (ws' := (h0, .inr (5, [.int 0, .null, .null, .null])) :: [(a1, .inl (G.cT 0, (901, .inl (fun _ => 0))))]) rfl ?_
  refine K_put cf_X6_9 rfl rfl (Nat.le_of_ble_eq_true rfl) dX6_init_10 ?_
  refine K_world (ws' := (h0, .inr (5, [.int 0, .ref a1, .null, .null])) :: [(a1, .inl (G.cT 0, (901, .inl (fun _ => 0))))]) rfl ?_
  refine K_aload_n dX6_init_13 rfl 0 rfl ?_
  refine K_sipush (v := 901) dX6_init_14 rfl ?_
  refine K_newarr (t := 0) (N := 901) (a0 := (901, .inl (fun _ => 0))) wd_220 rfl (fun _ => rfl) (fun _ => rfl) (by decide) rfl (Nat.le_of_ble_eq_true rfl) (Nat.le_of_ble_eq_true rfl) (Nat.le_of_ble_eq_true rfl) dX6_init_17 (fun a2 => ?_)
  refine K_world (ws' := (h0, .inr (5, [.int 0, .ref a1, .null, .null])) :: [(a1, .inl (G.cT 0, (901, .inl (fun _ => 0)))), (a2, .inl (G.cT 0, (901, .inl (fun _ => 0))))]) rfl ?_
  refine K_put cf_X6_15 rfl rfl (Nat.le_of_ble_eq_true rfl) dX6_init_19 ?_
  refine K_world (ws' := (h0, .inr (5, [.int 0, .ref a1, .ref a2, .null])) :: [(a1, .inl (G.cT 0, (901, .inl (fun _ => 0)))), (a2, .inl (G.cT 0, (901, .inl (fun _ => 0))))]) rfl ?_
  refine K_aload_n dX6_init_22 rfl 0 rfl ?_
  refine K_sipush (v := 901) dX6_init_23 rfl ?_
  refine K_newarr (t := 3) (N := 901) (a0 := (901, .inr (.inl (fun _ => 0)))) wd_219 rfl (fun _ => rfl) (fun _ => rfl) (by decide) rfl (Nat.le_of_ble_eq_true rfl) (Nat.le_of_ble_eq_true rfl) (Nat.le_of_ble_eq_true rfl) dX6_init_26 (fun a3 => ?_)
  refine K_world (ws' := (h0, .inr (5, [.int 0, .ref a1, .ref a2, .null])) :: [(a1, .inl (G.cT 0, (901, .inl (fun _ => 0)))), (a2, .inl (G.cT 0, (901, .inl (fun _ => 0)))), (a3, .inl (G.cT 3, (901, .inr (.inl (fun _ => 0)))))]) rfl ?_
  refine K_put cf_X6_18 rfl rfl (Nat.le_of_ble_eq_true rfl) dX6_init_28 ?_
  refine K_world (ws' := (h0, .inr (5, [.int 0, .ref a1, .ref a2, .ref a3])) :: [(a1, .inl (G.cT 0, (901, .inl (fun _ => 0)))), (a2, .inl (G.cT 0, (901, .inl (fun _ => 0)))), (a3, .inl (G.cT 3, (901, .inr (.inl (fun _ => 0)))))]) rfl ?_
  exact K_ret ⟨a1, a2, a3, rfl⟩ rfl rfl dX6_init_31
def iX2_init : MI := (yX2_init, cX2_init, 1, none, { frames := 1, cells := 3, slots := 4120, locals := 20 }, 0)
theorem mb_X2 : MBs iX2_init 0 := ⟨wd_111, wd_320, by decide +kernel⟩
def pX2 (G : JG) (h0 : Nat) (w : va_W) : Prop := ∃ a1 a2 a3 : Nat, w = (h0, .inr (1, [.int 0, .ref a1, .ref a2, .ref a3])) :: [(a1, .inl (G.cT 0, (12, .inl (fun _ => 0)))), (a2, .inl (G.cT 0, (12, .inl (fun _ => 0)))), (a3, .inl (G.cT 3, (4096, .inr (.inl (fun _ => 0)))))]
set_option maxRecDepth 20000 in
set_option maxHeartbeats 2000000 in
theorem kX2 (G : JG) (h0 : Nat) : CMt G iX2_init h0 (.inr (1, [.int 0, .null, .null, .null])) (pX2 G h0) 3 4120 := by
  refine CMt_of (by decide) rfl rfl (by decide) (fun A => ?_)
  refine K_aload_n dX2_init_0 rfl 0 rfl ?_
  refine K_objinit wd_321 wd_133 wd_134 (Nat.le_of_ble_eq_true rfl) (Nat.le_of_ble_eq_true rfl) dX2_init_1 ?_
  refine K_aload_n dX2_init_4 rfl 0 rfl ?_
  refine K_bipush (v := 12) dX2_init_5 rfl ?_
  refine K_newarr (t := 0) (N := 12) (a0 := (12, .inl (fun _ => 0))) wd_220 rfl (fun _ => rfl) (fun _ => rfl) (by decide) rfl (Nat.le_of_ble_eq_true rfl) (Nat.le_of_ble_eq_true rfl) (Nat.le_of_ble_eq_true rfl) dX2_init_7 (fun a1 => ?_)
  refine K_world (ws' := (h0, .inr (1, [.int 0, .null, .null, .null])) :: [(a1, .inl (G.cT 0, (12, .inl (fun _ => 0))))]) rfl ?_
  refine K_put cf_X2_9 rfl rfl (Nat.le_of_ble_eq_true rfl) dX2_init_9 ?_
  refine K_world (ws' := (h0, .inr (1, [.int 0, .ref a1, .null, .null])) :: [(a1, .inl (G.cT 0, (12, .inl (fun _ => 0))))]) rfl ?_
  refine K_aload_n dX2_init_12 rfl 0 rfl ?_
  refine K_bipush (v := 12) dX2_init_13 rfl ?_
  refine K_newarr (t := 0) (N := 12) (a0 := (12, .inl (fun _ => 0))) wd_220 rfl (fun _ => rfl) (fun _ => rfl) (by decide) rfl (Nat.le_of_ble_eq_true rfl) (Nat.le_of_ble_eq_true rfl) (Nat.le_of_ble_eq_true rfl) dX2_init_15 (fun a2 => ?_)
  refine K_world (ws' := (h0, .inr (1, [.int 0, .ref a1, .null, .null])) :: [(a1, .inl (G.cT 0, (12, .inl (fun _ => 0)))), (a2, .inl (G.cT 0, (12, .inl (fun _ => 0))))]) rfl ?_
  refine K_put cf_X2_15 rfl rfl (Nat.le_of_ble_eq_true rfl) dX2_init_17 ?_
  refine K_world (ws' := (h0, .inr (1, [.int 0, .ref a1, .ref a2, .null])) :: [(a1, .inl (G.cT 0, (12, .inl (fun _ => 0)))), (a2, .inl (G.cT 0, (12, .inl (fun _ => 0))))]) rfl ?_
  refine K_aload_n dX2_init_20 rfl 0 rfl ?_
  refine K_sipush (v := 4096) dX2_init_21 rfl ?_
  refine K_newarr (t := 3) (N := 4096) (a0 := (4096, .inr (.inl (fun _ => 0)))) wd_219 rfl (fun _ => rfl) (fun _ => rfl) (by decide) rfl (Nat.le_of_ble_eq_true rfl) (Nat.le_of_ble_eq_true rfl) (Nat.le_of_ble_eq_true rfl) dX2_init_24 (fun a3 => ?_)
  refine K_world (ws' := (h0, .inr (1, [.int 0, .ref a1, .ref a2, .null])) :: [(a1, .inl (G.cT 0, (12, .inl (fun _ => 0)))), (a2, .inl (G.cT 0, (12, .inl (fun _ => 0)))), (a3, .inl (G.cT 3, (4096, .inr (.inl (fun _ => 0)))))]) rfl ?_
  refine K_put cf_X2_18 rfl rfl (Nat.le_of_ble_eq_true rfl) dX2_init_26 ?_
  refine K_world (ws' := (h0, .inr (1, [.int 0, .ref a1, .ref a2, .ref a3])) :: [(a1, .inl (G.cT 0, (12, .inl (fun _ => 0)))), (a2, .inl (G.cT 0, (12, .inl (fun _ => 0)))), (a3, .inl (G.cT 3, (4096, .inr (.inl (fun _ => 0)))))]) rfl ?_
  exact K_ret ⟨a1, a2, a3, rfl⟩ rfl rfl dX2_init_29
def iX4_init : MI := (yX4_init, cX4_init, 1, none, { frames := 1, cells := 3, slots := 12288, locals := 20 }, 0)
theorem mb_X4 : MBs iX4_init 0 := ⟨wd_112, wd_339, by decide +kernel⟩
def pX4 (G : JG) (h0 : Nat) (w : va_W) : Prop := ∃ a1 a2 a3 : Nat, w = (h0, .inr (3, [.ref a1, .int 0, .ref a2, .int (-1), .int (-1), .ref a3, .int 0, .int 0, .int 0, .int 0, .int 0])) :: [(a1, .inl (G.cT 1, (4096, .inl (fun _ => 0)))), (a2, .inl (G.cT 0, (4096, .inl (fun _ => 0)))), (a3, .inl (G.cT 0, (4096, .inl (fun _ => 0))))]
set_option maxRecDepth 20000 in
set_option maxHeartbeats 2000000 in
theorem kX4 (G : JG) (h0 : Nat) : CMt G iX4_init h0 (.inr (3, [.null, .int 0, .null, .int 0, .int 0, .null, .int 0, .int 0, .int 0, .int 0, .int 0])) (pX4 G h0) 3 12288 := by
  refine CMt_of (by decide) rfl rfl (by decide) (fun A => ?_)
  refine K_aload_n dX4_init_0 rfl 0 rfl ?_
  refine K_objinit wd_340 wd_133 wd_134 (Nat.le_of_ble_eq_true rfl) (Nat.le_of_ble_eq_true rfl) dX4_init_1 ?_
  refine K_aload_n dX4_init_4 rfl 0 rfl ?_
  refine K_sipush (v := 4096) dX4_init_5 rfl ?_
  refine K_newarr (t := 1) (N := 4096) (a0 := (4096, .inl (fun _ => 0))) wd_218 rfl (fun _ => rfl) (fun _ => rfl) (by decide) rfl (Nat.le_of_ble_eq_true rfl) (Nat.le_of_ble_eq_true rfl) (Nat.le_of_ble_eq_true rfl) dX4_init_8 (fun a1 => ?_)
  refine K_world (ws' := (h0, .inr (3, [.null, .int 0, .null, .int 0, .int 0, .null, .int 0, .int 0, .int 0, .int 0, .int 0])) :: [(a1, .inl (G.cT 1, (4096, .inl (fun _ => 0))))]) rfl ?_
  refine K_put cf_X4_11 rfl rfl (Nat.le_of_ble_eq_true rfl) dX4_init_10 ?_
  refine K_world (ws' := (h0, .inr (3, [.ref a1, .int 0, .null, .int 0, .int 0, .null, .int 0, .int 0, .int 0, .int 0, .int 0])) :: [(a1, .inl (G.cT 1, (4096, .inl (fun _ => 0))))]) rfl ?_
  refine K_aload_n dX4_init_13 rfl 0 rfl ?_
  refine K_sipush (v := 4096) dX4_init_14 rfl ?_
  refine K_newarr (t := 0) (N := 4096) (a0 := (4096, .inl (fun _ => 0))) wd_220 rfl (fun _ => rfl) (fun _ => rfl) (by decide) rfl (Nat.le_of_ble_eq_true rfl) (Nat.le_of_ble_eq_true rfl) (Nat.le_of_ble_eq_true rfl) dX4_init_17 (fun a2 => ?_)
  refine K_world (ws' := (h0, .inr (3, [.ref a1, .int 0, .null, .int 0, .int 0, .null, .int 0, .int 0, .int 0, .int 0, .int 0])) :: [(a1, .inl (G.cT 1, (4096, .inl (fun _ => 0)))), (a2, .inl (G.cT 0, (4096, .inl (fun _ => 0))))]) rfl ?_
  refine K_put cf_X4_15 rfl rfl (Nat.le_of_ble_eq_true rfl) dX4_init_19 ?_
  refine K_world (ws' := (h0, .inr (3, [.ref a1, .int 0, .ref a2, .int 0, .int 0, .null, .int 0, .int 0, .int 0, .int 0, .int 0])) :: [(a1, .inl (G.cT 1, (4096, .inl (fun _ => 0)))), (a2, .inl (G.cT 0, (4096, .inl (fun _ => 0))))]) rfl ?_
  refine K_aload_n dX4_init_22 rfl 0 rfl ?_
  refine K_iconst (v := (-1)) dX4_init_23 rfl ?_
  refine K_put cf_X4_19 rfl rfl (Nat.le_of_ble_eq_true rfl) dX4_init_24 ?_
  refine K_world (ws' := (h0, .inr (3, [.ref a1, .int 0, .ref a2, .int (-1), .int 0, .null, .int 0, .int 0, .int 0, .int 0, .int 0])) :: [(a1, .inl (G.cT 1, (4096, .inl (fun _ => 0)))), (a2, .inl (G.cT 0, (4096, .inl (fun _ => 0))))]) rfl ?_
  refine K_aload_n dX4_init_27 rfl 0 rfl ?_
  refine K_iconst (v := (-1)) dX4_init_28 rfl ?_
  refine K_put cf_X4_23 rfl rfl (Nat.le_of_ble_eq_true rfl) dX4_init_29 ?_
  refine K_world (ws' := (h0, .inr (3, [.ref a1, .int 0, .ref a2, .int (-1), .int (-1), .null, .int 0, .int 0, .int 0, .int 0, .int 0])) :: [(a1, .inl (G.cT 1, (4096, .inl (fun _ => 0)))), (a2, .inl (G.cT 0, (4096, .inl (fun _ => 0))))]) rfl ?_
  refine K_aload_n dX4_init_32 rfl 0 rfl ?_
  refine K_sipush (v := 4096) dX4_init_33 rfl ?_
  refine K_newarr (t := 0) (N := 4096) (a0 := (4096, .inl (fun _ => 0))) wd_220 rfl (fun _ => rfl) (fun _ => rfl) (by decide) rfl (Nat.le_of_ble_eq_true rfl) (Nat.le_of_ble_eq_true rfl) (Nat.le_of_ble_eq_true rfl) dX4_init_36 (fun a3 => ?_)
  refine K_world (ws' := (h0, .inr (3, [.ref a1, .int 0, .ref a2, .int (-1), .int (-1), .null, .int 0, .int 0, .int 0, .int 0, .int 0])) :: [(a1, .inl (G.cT 1, (4096, .inl (fun _ => 0)))), (a2, .inl (G.cT 0, (4096, .inl (fun _ => 0)))), (a3, .inl (G.cT 0, (4096, .inl (fun _ => 0))))]) rfl ?_
  refine K_put cf_X4_26 rfl rfl (Nat.le_of_ble_eq_true rfl) dX4_init_38 ?_
  refine K_world (ws' := (h0, .inr (3, [.ref a1, .int 0, .ref a2, .int (-1), .int (-1), .ref a3, .int 0, .int 0, .int 0, .int 0, .int 0])) :: [(a1, .inl (G.cT 1, (4096, .inl (fun _ => 0)))), (a2, .inl (G.cT 0, (4096, .inl (fun _ => 0)))), (a3, .inl (G.cT 0, (4096, .inl (fun _ => 0))))]) rfl ?_
  exact K_ret ⟨a1, a2, a3, rfl⟩ rfl rfl dX4_init_41
def iX5_init : MI := (yX5_init, cX5_init, 1, none, { frames := 2, cells := 18, slots := 3102, locals := 40 }, 0)
theorem mb_X5 : MBs iX5_init 0 := ⟨wd_106, wd_139, by decide +kernel⟩
def pX5 (G : JG) (h0 : Nat) (w : va_W) : Prop := ∃ (o1 o3 o2 w2_1 w2_2 w2_3 : Nat) (w1 w3 : va_W), pX0 G o1 w1 ∧ pX6 G o3 w3 ∧ w = (h0, .inr (4, [.int 0, .int (-1), .ref o1, .ref o2, .ref o3, .int 0, .int 0])) :: ((w1 ++ [(o2, .inr (6, [.int 0, .int 0, .ref w2_1, .ref w2_2, .ref w2_3])), (w2_1, .inl (G.cT 0, (12, .inl (fun _ => 0)))), (w2_2, .inl (G.cT 0, (12, .inl (fun _ => 0)))), (w2_3, .inl (G.cT 0, (288, .inl (fun _ => 0))))]) ++ w3)
set_option maxRecDepth 20000 in
set_option maxHeartbeats 2000000 in
theorem kX5 (G : JG) (h0 : Nat) : CMt G iX5_init h0 (.inr (4, [.int 0, .int 0, .null, .null, .null, .int 0, .int 0])) (pX5 G h0) 18 3102 := by
  refine CMt_of (by decide) rfl rfl (by decide) (fun A => ?_)
  refine K_aload_n dX5_init_0 rfl 0 rfl ?_
  refine K_objinit wd_140 wd_133 wd_134 (Nat.le_of_ble_eq_true rfl) (Nat.le_of_ble_eq_true rfl) dX5_init_1 ?_
  refine K_aload_n dX5_init_4 rfl 0 rfl ?_
  refine K_iconst (v := (-1)) dX5_init_5 rfl ?_
  refine K_put cf_X5_9 rfl rfl (Nat.le_of_ble_eq_true rfl) dX5_init_6 ?_
  refine K_world (ws' := (h0, .inr (4, [.int 0, .int (-1), .null, .null, .null, .int 0, .int 0])) :: []) rfl ?_
  refine K_aload_n dX5_init_9 rfl 0 rfl ?_
  refine K_newobj (N := iX0_init) (ci := 0) (fs := [.int 0, .int 0, .int 0, .int 0, .int 0, .int 0, .int 0, .int 0, .null, .null, .null, .null, .null, .null, .null, .null, .null]) (host := "PaintedOve\x72") (mc' := 9) (ms' := 61) (post' := pX0 G) rfl ux_X0 tyX0_ok (fun j hj => by rcases j with _ | _ | _ | _ | _ | _ | _ | _ | _ | _ | _ | _ | _ | _ | _ | _ | _ | j <;> first | rfl | omega) wd_141 wd_142 wd_107 (fun q => kX0 G q) mb_X0 wd_144 rfl rfl (by decide) (by decide) (Nat.le_of_ble_eq_true rfl) (Nat.le_of_ble_eq_true rfl) (Nat.le_of_ble_eq_true rfl) dX5_init_10 dX5_init_13 dX5_init_14 (fun o1 w1 hw1 => ?_)
  refine K_world (ws' := (h0, .inr (4, [.int 0, .int (-1), .null, .null, .null, .int 0, .int 0])) :: w1) rfl ?_
  refine K_put cf_X5_18 rfl rfl (Nat.le_of_ble_eq_true rfl) dX5_init_17 ?_
  refine K_world (ws' := (h0, .inr (4, [.int 0, .int (-1), .ref o1, .null, .null, .int 0, .int 0])) :: w1) rfl ?_
  refine K_aload_n dX5_init_20 rfl 0 rfl ?_
  refine K_newobj (N := iX7_init) (ci := 6) (fs := [.int 0, .int 0, .null, .null, .null]) (host := "PaintedOve\x72") (mc' := 3) (ms' := 312) (post' := pX7 G) rfl ux_X7 tyX7_ok (fun j hj => by rcases j with _ | _ | _ | _ | _ | j <;> first | rfl | omega) wd_221 wd_222 wd_108 (fun q => kX7 G q) mb_X7 wd_224 rfl rfl (by decide) (by decide) (Nat.le_of_ble_eq_true rfl) (Nat.le_of_ble_eq_true rfl) (Nat.le_of_ble_eq_true rfl) dX5_init_21 dX5_init_24 dX5_init_25 (fun o2 w2 hw2 => ?_)
  obtain ⟨w2_1, w2_2, w2_3, rfl⟩ := hw2
  refine K_world (ws' := (h0, .inr (4, [.int 0, .int (-1), .ref o1, .null, .null, .int 0, .int 0])) :: (w1 ++ [(o2, .inr (6, [.int 0, .int 0, .ref w2_1, .ref w2_2, .ref w2_3])), (w2_1, .inl (G.cT 0, (12, .inl (fun _ => 0)))), (w2_2, .inl (G.cT 0, (12, .inl (fun _ => 0)))), (w2_3, .inl (G.cT 0, (288, .inl (fun _ => 0))))])) rfl ?_
  refine K_put cf_X5_25 rfl rfl (Nat.le_of_ble_eq_true rfl) dX5_init_28 ?_
  refine K_world (ws' := (h0, .inr (4, [.int 0, .int (-1), .ref o1, .ref o2, .null, .int 0, .int 0])) :: (w1 ++ [(o2, .inr (6, [.int 0, .int 0, .ref w2_1, .ref w2_2, .ref w2_3])), (w2_1, .inl (G.cT 0, (12, .inl (fun _ => 0)))), (w2_2, .inl (G.cT 0, (12, .inl (fun _ => 0)))), (w2_3, .inl (G.cT 0, (288, .inl (fun _ => 0))))])) rfl ?_
  refine K_aload_n dX5_init_31 rfl 0 rfl ?_
  refine K_newobj (N := iX6_init) (ci := 5) (fs := [.int 0, .null, .null, .null]) (host := "PaintedOve\x72") (mc' := 3) (ms' := 2703) (post' := pX6 G) rfl ux_X6 tyX6_ok (fun j hj => by rcases j with _ | _ | _ | _ | j <;> first | rfl | omega) wd_247 wd_248 wd_109 (fun q => kX6 G q) mb_X6 wd_250 rfl rfl (by decide) (by decide) (Nat.le_of_ble_eq_true rfl) (Nat.le_of_ble_eq_true rfl) (Nat.le_of_ble_eq_true rfl) dX5_init_32 dX5_init_35 dX5_init_36 (fun o3 w3 hw3 => ?_)
  refine K_world (ws' := (h0, .inr (4, [.int 0, .int (-1), .ref o1, .ref o2, .null, .int 0, .int 0])) :: ((w1 ++ [(o2, .inr (6, [.int 0, .int 0, .ref w2_1, .ref w2_2, .ref w2_3])), (w2_1, .inl (G.cT 0, (12, .inl (fun _ => 0)))), (w2_2, .inl (G.cT 0, (12, .inl (fun _ => 0)))), (w2_3, .inl (G.cT 0, (288, .inl (fun _ => 0))))]) ++ w3)) rfl ?_
  refine K_put cf_X5_32 rfl rfl (Nat.le_of_ble_eq_true rfl) dX5_init_39 ?_
  refine K_world (ws' := (h0, .inr (4, [.int 0, .int (-1), .ref o1, .ref o2, .ref o3, .int 0, .int 0])) :: ((w1 ++ [(o2, .inr (6, [.int 0, .int 0, .ref w2_1, .ref w2_2, .ref w2_3])), (w2_1, .inl (G.cT 0, (12, .inl (fun _ => 0)))), (w2_2, .inl (G.cT 0, (12, .inl (fun _ => 0)))), (w2_3, .inl (G.cT 0, (288, .inl (fun _ => 0))))]) ++ w3)) rfl ?_
  exact K_ret ⟨o1, o3, o2, w2_1, w2_2, w2_3, w1, w3, hw1, hw3, rfl⟩ rfl rfl dX5_init_42
def iX3_init : MI := (yX3_init, cX3_init, 2, none, { frames := 2, cells := 33, slots := 2544, locals := 40 }, 0)
theorem mb_X3 : MBs iX3_init 0 := ⟨wd_110, wd_300, by decide +kernel⟩
def pX3 (G : JG) (h0 : Nat) (w : va_W) : Prop := ∃ (a1 o2 w2_1 w2_2 w2_3 o3 w3_1 w3_2 w3_3 o4 w4_1 w4_2 w4_3 o5 w5_1 w5_2 w5_3 o6 w6_1 w6_2 w6_3 o7 w7_1 w7_2 w7_3 o8 w8_1 w8_2 w8_3 o9 w9_1 w9_2 w9_3 : Nat), w = (h0, .inr (2, [.int 0, .int 0, .ref a1])) :: (a1, .inl (G.cT 4, 8, .inr (.inr (.inr (.inr (fun j => ([o2, o3, o4, o5, o6, o7, o8, o9] : List Nat)[j]?)))))) :: ((((((([(o2, .inr (6, [.int 0, .int 0, .ref w2_1, .ref w2_2, .ref w2_3])), (w2_1, .inl (G.cT 0, (12, .inl (fun _ => 0)))), (w2_2, .inl (G.cT 0, (12, .inl (fun _ => 0)))), (w2_3, .inl (G.cT 0, (288, .inl (fun _ => 0))))] ++ [(o3, .inr (6, [.int 0, .int 0, .ref w3_1, .ref w3_2, .ref w3_3])), (w3_1, .inl (G.cT 0, (12, .inl (fun _ => 0)))), (w3_2, .inl (G.cT 0, (12, .inl (fun _ => 0)))), (w3_3, .inl (G.cT 0, (288, .inl (fun _ => 0))))]) ++ [(o4, .inr (6, [.int 0, .int 0, .ref w4_1, .ref w4_2, .ref w4_3])), (w4_1, .inl (G.cT 0, (12, .inl (fun _ => 0)))), (w4_2, .inl (G.cT 0, (12, .inl (fun _ => 0)))), (w4_3, .inl (G.cT 0, (288, .inl (fun _ => 0))))]) ++ [(o5, .inr (6, [.int 0, .int 0, .ref w5_1, .ref w5_2, .ref w5_3])), (w5_1, .inl (G.cT 0, (12, .inl (fun _ => 0)))), (w5_2, .inl (G.cT 0, (12, .inl (fun _ => 0)))), (w5_3, .inl (G.cT 0, (288, .inl (fun _ => 0))))]) ++ [(o6, .inr (6, [.int 0, .int 0, .ref w6_1, .ref w6_2, .ref w6_3])), (w6_1, .inl (G.cT 0, (12, .inl (fun _ => 0)))), (w6_2, .inl (G.cT 0, (12, .inl (fun _ => 0)))), (w6_3, .inl (G.cT 0, (288, .inl (fun _ => 0))))]) ++ [(o7, .inr (6, [.int 0, .int 0, .ref w7_1, .ref w7_2, .ref w7_3])), (w7_1, .inl (G.cT 0, (12, .inl (fun _ => 0)))), (w7_2, .inl (G.cT 0, (12, .inl (fun _ => 0)))), (w7_3, .inl (G.cT 0, (288, .inl (fun _ => 0))))]) ++ [(o8, .inr (6, [.int 0, .int 0, .ref w8_1, .ref w8_2, .ref w8_3])), (w8_1, .inl (G.cT 0, (12, .inl (fun _ => 0)))), (w8_2, .inl (G.cT 0, (12, .inl (fun _ => 0)))), (w8_3, .inl (G.cT 0, (288, .inl (fun _ => 0))))]) ++ [(o9, .inr (6, [.int 0, .int 0, .ref w9_1, .ref w9_2, .ref w9_3])), (w9_1, .inl (G.cT 0, (12, .inl (fun _ => 0)))), (w9_2, .inl (G.cT 0, (12, .inl (fun _ => 0)))), (w9_3, .inl (G.cT 0, (288, .inl (fun _ => 0))))])
set_option maxRecDepth 20000 in
set_option maxHeartbeats 2000000 in
theorem kX3 (G : JG) (h0 : Nat) : CMt G iX3_init h0 (.inr (2, [.int 0, .int 0, .null])) (pX3 G h0) 33 2544 := by
  refine CMt_of (by decide) rfl rfl (by decide) (fun A => ?_)
  refine K_aload_n dX3_init_0 rfl 0 rfl ?_
  refine K_objinit wd_301 wd_133 wd_134 (Nat.le_of_ble_eq_true rfl) (Nat.le_of_ble_eq_true rfl) dX3_init_1 ?_
  refine K_aload_n dX3_init_4 rfl 0 rfl ?_
  refine K_bipush (v := 8) dX3_init_5 rfl ?_
  refine K_anew (N := 8) wd_302 (by decide) rfl (Nat.le_of_ble_eq_true rfl) (Nat.le_of_ble_eq_true rfl) (Nat.le_of_ble_eq_true rfl) dX3_init_7 (fun a1 => ?_)
  refine K_world (ws' := ([(h0, .inr (2, [.int 0, .int 0, .null]))] ++ []) ++ [(a1, .inl (G.cT 4, 8, .inr (.inr (.inr (.inr (fun _ => none))))))]) rfl ?_
  refine K_swap ?_
  refine K_world (ws' := (h0, .inr (2, [.int 0, .int 0, .null])) :: (a1, .inl (G.cT 4, 8, .inr (.inr (.inr (.inr (fun _ => none)))))) :: []) rfl ?_
  refine K_put cf_X3_11 rfl rfl (Nat.le_of_ble_eq_true rfl) dX3_init_10 ?_
  refine K_world (ws' := (h0, .inr (2, [.int 0, .int 0, .ref a1])) :: (a1, .inl (G.cT 4, 8, .inr (.inr (.inr (.inr (fun _ => none)))))) :: []) rfl ?_
  refine K_iconst (v := 0) dX3_init_13 rfl ?_
  refine K_istore_n (ls' := [(1, .int 0), (0, .ref h0)]) dX3_init_14 rfl (Nat.le_of_ble_eq_true rfl) rfl ?_
  refine K_iload_n dX3_init_15 rfl 0 rfl ?_
  refine K_bipush (v := 8) dX3_init_16 rfl ?_
  refine K_ge_f (t := 40) dX3_init_18 rfl (by decide) ?_
  refine K_aload_n dX3_init_21 rfl 1 rfl ?_
  refine K_get cf_X3_11 (v := .ref a1) rfl dX3_init_22 ?_
  refine K_iload_n dX3_init_25 rfl 0 rfl ?_
  refine K_newobj (N := iX7_init) (ci := 6) (fs := [.int 0, .int 0, .null, .null, .null]) (host := "PaintedOve\x72") (mc' := 3) (ms' := 312) (post' := pX7 G) rfl ux_X7 tyX7_ok (fun j hj => by rcases j with _ | _ | _ | _ | _ | j <;> first | rfl | omega) wd_302 wd_222 wd_108 (fun q => kX7 G q) mb_X7 wd_224 rfl rfl (by decide) (by decide) (Nat.le_of_ble_eq_true rfl) (Nat.le_of_ble_eq_true rfl) (Nat.le_of_ble_eq_true rfl) dX3_init_26 dX3_init_29 dX3_init_30 (fun o2 w2 hw2 => ?_)
  obtain ⟨w2_1, w2_2, w2_3, rfl⟩ := hw2
  refine K_world (ws' := (h0, .inr (2, [.int 0, .int 0, .ref a1])) :: (a1, .inl (G.cT 4, 8, .inr (.inr (.inr (.inr (fun _ => none)))))) :: [(o2, .inr (6, [.int 0, .int 0, .ref w2_1, .ref w2_2, .ref w2_3])), (w2_1, .inl (G.cT 0, (12, .inl (fun _ => 0)))), (w2_2, .inl (G.cT 0, (12, .inl (fun _ => 0)))), (w2_3, .inl (G.cT 0, (288, .inl (fun _ => 0))))]) rfl ?_
  refine K_world (ws' := (h0, .inr (2, [.int 0, .int 0, .ref a1])) :: (a1, .inl (G.cT 4, 8, .inr (.inr (.inr (.inr (fun _ => none)))))) :: (([] : va_W) ++ ((o2, .inr (6, [.int 0, .int 0, .ref w2_1, .ref w2_2, .ref w2_3])) :: [(w2_1, .inl (G.cT 0, (12, .inl (fun _ => 0)))), (w2_2, .inl (G.cT 0, (12, .inl (fun _ => 0)))), (w2_3, .inl (G.cT 0, (288, .inl (fun _ => 0))))]))) rfl ?_
  refine K_aast (M := iX3_init) (n := 8) (x := 0) rfl dX3_init_33 ?_
  refine K_world (ws' := (h0, .inr (2, [.int 0, .int 0, .ref a1])) :: (a1, .inl (G.cT 4, 8, .inr (.inr (.inr (.inr (va_up (fun _ => none) (0 : Int32).toNatClampNeg (some o2))))))) :: [(o2, .inr (6, [.int 0, .int 0, .ref w2_1, .ref w2_2, .ref w2_3])), (w2_1, .inl (G.cT 0, (12, .inl (fun _ => 0)))), (w2_2, .inl (G.cT 0, (12, .inl (fun _ => 0)))), (w2_3, .inl (G.cT 0, (288, .inl (fun _ => 0))))]) rfl ?_
  refine K_iinc (q := 0) (v := 1) (ls' := [(1, .int 1), (0, .ref h0)]) dX3_init_34 rfl rfl (Nat.le_of_ble_eq_true rfl) rfl ?_
  refine K_goto (t := 15) dX3_init_37 rfl ?_
  refine K_iload_n dX3_init_15 rfl 0 rfl ?_
  refine K_bipush (v := 8) dX3_init_16 rfl ?_
  refine K_ge_f (t := 40) dX3_init_18 rfl (by decide) ?_
  refine K_aload_n dX3_init_21 rfl 1 rfl ?_
  refine K_get cf_X3_11 (v := .ref a1) rfl dX3_init_22 ?_
  refine K_iload_n dX3_init_25 rfl 0 rfl ?_
  refine K_newobj (N := iX7_init) (ci := 6) (fs := [.int 0, .int 0, .null, .null, .null]) (host := "PaintedOve\x72") (mc' := 3) (ms' := 312) (post' := pX7 G) rfl ux_X7 tyX7_ok (fun j hj => by rcases j with _ | _ | _ | _ | _ | j <;> first | rfl | omega) wd_302 wd_222 wd_108 (fun q => kX7 G q) mb_X7 wd_224 rfl rfl (by decide) (by decide) (Nat.le_of_ble_eq_true rfl) (Nat.le_of_ble_eq_true rfl) (Nat.le_of_ble_eq_true rfl) dX3_init_26 dX3_init_29 dX3_init_30 (fun o3 w3 hw3 => ?_)
  obtain ⟨w3_1, w3_2, w3_3, rfl⟩ := hw3
  refine K_world (ws' := (h0, .inr (2, [.int 0, .int 0, .ref a1])) :: (a1, .inl (G.cT 4, 8, .inr (.inr (.inr (.inr (va_up (fun _ => none) (0 : Int32).toNatClampNeg (some o2))))))) :: ([(o2, .inr (6, [.int 0, .int 0, .ref w2_1, .ref w2_2, .ref w2_3])), (w2_1, .inl (G.cT 0, (12, .inl (fun _ => 0)))), (w2_2, .inl (G.cT 0, (12, .inl (fun _ => 0)))), (w2_3, .inl (G.cT 0, (288, .inl (fun _ => 0))))] ++ [(o3, .inr (6, [.int 0, .int 0, .ref w3_1, .ref w3_2, .ref w3_3])), (w3_1, .inl (G.cT 0, (12, .inl (fun _ => 0)))), (w3_2, .inl (G.cT 0, (12, .inl (fun _ => 0)))), (w3_3, .inl (G.cT 0, (288, .inl (fun _ => 0))))])) rfl ?_
  refine K_world (ws' := (h0, .inr (2, [.int 0, .int 0, .ref a1])) :: (a1, .inl (G.cT 4, 8, .inr (.inr (.inr (.inr (va_up (fun _ => none) (0 : Int32).toNatClampNeg (some o2))))))) :: (([(o2, .inr (6, [.int 0, .int 0, .ref w2_1, .ref w2_2, .ref w2_3])), (w2_1, .inl (G.cT 0, (12, .inl (fun _ => 0)))), (w2_2, .inl (G.cT 0, (12, .inl (fun _ => 0)))), (w2_3, .inl (G.cT 0, (288, .inl (fun _ => 0))))] : va_W) ++ ((o3, .inr (6, [.int 0, .int 0, .ref w3_1, .ref w3_2, .ref w3_3])) :: [(w3_1, .inl (G.cT 0, (12, .inl (fun _ => 0)))), (w3_2, .inl (G.cT 0, (12, .inl (fun _ => 0)))), (w3_3, .inl (G.cT 0, (288, .inl (fun _ => 0))))]))) rfl ?_
  refine K_aast (M := iX3_init) (n := 8) (x := 1) rfl dX3_init_33 ?_
  refine K_world (ws' := (h0, .inr (2, [.int 0, .int 0, .ref a1])) :: (a1, .inl (G.cT 4, 8, .inr (.inr (.inr (.inr (va_up (va_up (fun _ => none) (0 : Int32).toNatClampNeg (some o2)) (1 : Int32).toNatClampNeg (some o3))))))) :: ([(o2, .inr (6, [.int 0, .int 0, .ref w2_1, .ref w2_2, .ref w2_3])), (w2_1, .inl (G.cT 0, (12, .inl (fun _ => 0)))), (w2_2, .inl (G.cT 0, (12, .inl (fun _ => 0)))), (w2_3, .inl (G.cT 0, (288, .inl (fun _ => 0))))] ++ [(o3, .inr (6, [.int 0, .int 0, .ref w3_1, .ref w3_2, .ref w3_3])), (w3_1, .inl (G.cT 0, (12, .inl (fun _ => 0)))), (w3_2, .inl (G.cT 0, (12, .inl (fun _ => 0)))), (w3_3, .inl (G.cT 0, (288, .inl (fun _ => 0))))])) rfl ?_
  refine K_iinc (q := 0) (v := 2) (ls' := [(1, .int 2), (0, .ref h0)]) dX3_init_34 rfl rfl (Nat.le_of_ble_eq_true rfl) rfl ?_
  refine K_goto (t := 15) dX3_init_37 rfl ?_
  refine K_iload_n dX3_init_15 rfl 0 rfl ?_
  refine K_bipush (v := 8) dX3_init_16 rfl ?_
  refine K_ge_f (t := 40) dX3_init_18 rfl (by decide) ?_
  refine K_aload_n dX3_init_21 rfl 1 rfl ?_
  refine K_get cf_X3_11 (v := .ref a1) rfl dX3_init_22 ?_
  refine K_iload_n dX3_init_25 rfl 0 rfl ?_
  refine K_newobj (N := iX7_init) (ci := 6) (fs := [.int 0, .int 0, .null, .null, .null]) (host := "PaintedOve\x72") (mc' := 3) (ms' := 312) (post' := pX7 G) rfl ux_X7 tyX7_ok (fun j hj => by rcases j with _ | _ | _ | _ | _ | j <;> first | rfl | omega) wd_302 wd_222 wd_108 (fun q => kX7 G q) mb_X7 wd_224 rfl rfl (by decide) (by decide) (Nat.le_of_ble_eq_true rfl) (Nat.le_of_ble_eq_true rfl) (Nat.le_of_ble_eq_true rfl) dX3_init_26 dX3_init_29 dX3_init_30 (fun o4 w4 hw4 => ?_)
  obtain ⟨w4_1, w4_2, w4_3, rfl⟩ := hw4
  refine K_world (ws' := (h0, .inr (2, [.int 0, .int 0, .ref a1])) :: (a1, .inl (G.cT 4, 8, .inr (.inr (.inr (.inr (va_up (va_up (fun _ => none) (0 : Int32).toNatClampNeg (some o2)) (1 : Int32).toNatClampNeg (some o3))))))) :: (([(o2, .inr (6, [.int 0, .int 0, .ref w2_1, .ref w2_2, .ref w2_3])), (w2_1, .inl (G.cT 0, (12, .inl (fun _ => 0)))), (w2_2, .inl (G.cT 0, (12, .inl (fun _ => 0)))), (w2_3, .inl (G.cT 0, (288, .inl (fun _ => 0))))] ++ [(o3, .inr (6, [.int 0, .int 0, .ref w3_1, .ref w3_2, .ref w3_3])), (w3_1, .inl (G.cT 0, (12, .inl (fun _ => 0)))), (w3_2, .inl (G.cT 0, (12, .inl (fun _ => 0)))), (w3_3, .inl (G.cT 0, (288, .inl (fun _ => 0))))]) ++ [(o4, .inr (6, [.int 0, .int 0, .ref w4_1, .ref w4_2, .ref w4_3])), (w4_1, .inl (G.cT 0, (12, .inl (fun _ => 0)))), (w4_2, .inl (G.cT 0, (12, .inl (fun _ => 0)))), (w4_3, .inl (G.cT 0, (288, .inl (fun _ => 0))))])) rfl ?_
  refine K_world (ws' := (h0, .inr (2, [.int 0, .int 0, .ref a1])) :: (a1, .inl (G.cT 4, 8, .inr (.inr (.inr (.inr (va_up (va_up (fun _ => none) (0 : Int32).toNatClampNeg (some o2)) (1 : Int32).toNatClampNeg (some o3))))))) :: ((([(o2, .inr (6, [.int 0, .int 0, .ref w2_1, .ref w2_2, .ref w2_3])), (w2_1, .inl (G.cT 0, (12, .inl (fun _ => 0)))), (w2_2, .inl (G.cT 0, (12, .inl (fun _ => 0)))), (w2_3, .inl (G.cT 0, (288, .inl (fun _ => 0))))] ++ [(o3, .inr (6, [.int 0, .int 0, .ref w3_1, .ref w3_2, .ref w3_3])), (w3_1, .inl (G.cT 0, (12, .inl (fun _ => 0)))), (w3_2, .inl (G.cT 0, (12, .inl (fun _ => 0)))), (w3_3, .inl (G.cT 0, (288, .inl (fun _ => 0))))]) : va_W) ++ ((o4, .inr (6, [.int 0, .int 0, .ref w4_1, .ref w4_2, .ref w4_3])) :: [(w4_1, .inl (G.cT 0, (12, .inl (fun _ => 0)))), (w4_2, .inl (G.cT 0, (12, .inl (fun _ => 0)))), (w4_3, .inl (G.cT 0, (288, .inl (fun _ => 0))))]))) rfl ?_
  refine K_aast (M := iX3_init) (n := 8) (x := 2) rfl dX3_init_33 ?_
  refine K_world (ws' := (h0, .inr (2, [.int 0, .int 0, .ref a1])) :: (a1, .inl (G.cT 4, 8, .inr (.inr (.inr (.inr (va_up (va_up (va_up (fun _ => none) (0 : Int32).toNatClampNeg (some o2)) (1 : Int32).toNatClampNeg (some o3)) (2 : Int32).toNatClampNeg (some o4))))))) :: (([(o2, .inr (6, [.int 0, .int 0, .ref w2_1, .ref w2_2, .ref w2_3])), (w2_1, .inl (G.cT 0, (12, .inl (fun _ => 0)))), (w2_2, .inl (G.cT 0, (12, .inl (fun _ => 0)))), (w2_3, .inl (G.cT 0, (288, .inl (fun _ => 0))))] ++ [(o3, .inr (6, [.int 0, .int 0, .ref w3_1, .ref w3_2, .ref w3_3])), (w3_1, .inl (G.cT 0, (12, .inl (fun _ => 0)))), (w3_2, .inl (G.cT 0, (12, .inl (fun _ => 0)))), (w3_3, .inl (G.cT 0, (288, .inl (fun _ => 0))))]) ++ [(o4, .inr (6, [.int 0, .int 0, .ref w4_1, .ref w4_2, .ref w4_3])), (w4_1, .inl (G.cT 0, (12, .inl (fun _ => 0)))), (w4_2, .inl (G.cT 0, (12, .inl (fun _ => 0)))), (w4_3, .inl (G.cT 0, (288, .inl (fun _ => 0))))])) rfl ?_
  refine K_iinc (q := 0) (v := 3) (ls' := [(1, .int 3), (0, .ref h0)]) dX3_init_34 rfl rfl (Nat.le_of_ble_eq_true rfl) rfl ?_
  refine K_goto (t := 15) dX3_init_37 rfl ?_
  refine K_iload_n dX3_init_15 rfl 0 rfl ?_
  refine K_bipush (v := 8) dX3_init_16 rfl ?_
  refine K_ge_f (t := 40) dX3_init_18 rfl (by decide) ?_
  refine K_aload_n dX3_init_21 rfl 1 rfl ?_
  refine K_get cf_X3_11 (v := .ref a1) rfl dX3_init_22 ?_
  refine K_iload_n dX3_init_25 rfl 0 rfl ?_
  refine K_newobj (N := iX7_init) (ci := 6) (fs := [.int 0, .int 0, .null, .null, .null]) (host := "PaintedOve\x72") (mc' := 3) (ms' := 312) (post' := pX7 G) rfl ux_X7 tyX7_ok (fun j hj => by rcases j with _ | _ | _ | _ | _ | j <;> first | rfl | omega) wd_302 wd_222 wd_108 (fun q => kX7 G q) mb_X7 wd_224 rfl rfl (by decide) (by decide) (Nat.le_of_ble_eq_true rfl) (Nat.le_of_ble_eq_true rfl) (Nat.le_of_ble_eq_true rfl) dX3_init_26 dX3_init_29 dX3_init_30 (fun o5 w5 hw5 => ?_)
  obtain ⟨w5_1, w5_2, w5_3, rfl⟩ := hw5
  refine K_world (ws' := (h0, .inr (2, [.int 0, .int 0, .ref a1])) :: (a1, .inl (G.cT 4, 8, .inr (.inr (.inr (.inr (va_up (va_up (va_up (fun _ => none) (0 : Int32).toNatClampNeg (some o2)) (1 : Int32).toNatClampNeg (some o3)) (2 : Int32).toNatClampNeg (some o4))))))) :: ((([(o2, .inr (6, [.int 0, .int 0, .ref w2_1, .ref w2_2, .ref w2_3])), (w2_1, .inl (G.cT 0, (12, .inl (fun _ => 0)))), (w2_2, .inl (G.cT 0, (12, .inl (fun _ => 0)))), (w2_3, .inl (G.cT 0, (288, .inl (fun _ => 0))))] ++ [(o3, .inr (6, [.int 0, .int 0, .ref w3_1, .ref w3_2, .ref w3_3])), (w3_1, .inl (G.cT 0, (12, .inl (fun _ => 0)))), (w3_2, .inl (G.cT 0, (12, .inl (fun _ => 0)))), (w3_3, .inl (G.cT 0, (288, .inl (fun _ => 0))))]) ++ [(o4, .inr (6, [.int 0, .int 0, .ref w4_1, .ref w4_2, .ref w4_3])), (w4_1, .inl (G.cT 0, (12, .inl (fun _ => 0)))), (w4_2, .inl (G.cT 0, (12, .inl (fun _ => 0)))), (w4_3, .inl (G.cT 0, (288, .inl (fun _ => 0))))]) ++ [(o5, .inr (6, [.int 0, .int 0, .ref w5_1, .ref w5_2, .ref w5_3])), (w5_1, .inl (G.cT 0, (12, .inl (fun _ => 0)))), (w5_2, .inl (G.cT 0, (12, .inl (fun _ => 0)))), (w5_3, .inl (G.cT 0, (288, .inl (fun _ => 0))))])) rfl ?_
  refine K_world (ws' := (h0, .inr (2, [.int 0, .int 0, .ref a1])) :: (a1, .inl (G.cT 4, 8, .inr (.inr (.inr (.inr (va_up (va_up (va_up (fun _ => none) (0 : Int32).toNatClampNeg (some o2)) (1 : Int32).toNatClampNeg (some o3)) (2 : Int32).toNatClampNeg (some o4))))))) :: (((([(o2, .inr (6, [.int 0, .int 0, .ref w2_1, .ref w2_2, .ref w2_3])), (w2_1, .inl (G.cT 0, (12, .inl (fun _ => 0)))), (w2_2, .inl (G.cT 0, (12, .inl (fun _ => 0)))), (w2_3, .inl (G.cT 0, (288, .inl (fun _ => 0))))] ++ [(o3, .inr (6, [.int 0, .int 0, .ref w3_1, .ref w3_2, .ref w3_3])), (w3_1, .inl (G.cT 0, (12, .inl (fun _ => 0)))), (w3_2, .inl (G.cT 0, (12, .inl (fun _ => 0)))), (w3_3, .inl (G.cT 0, (288, .inl (fun _ => 0))))]) ++ [(o4, .inr (6, [.int 0, .int 0, .ref w4_1, .ref w4_2, .ref w4_3])), (w4_1, .inl (G.cT 0, (12, .inl (fun _ => 0)))), (w4_2, .inl (G.cT 0, (12, .inl (fun _ => 0)))), (w4_3, .inl (G.cT 0, (288, .inl (fun _ => 0))))]) : va_W) ++ ((o5, .inr (6, [.int 0, .int 0, .ref w5_1, .ref w5_2, .ref w5_3])) :: [(w5_1, .inl (G.cT 0, (12, .inl (fun _ => 0)))), (w5_2, .inl (G.cT 0, (12, .inl (fun _ => 0)))), (w5_3, .inl (G.cT 0, (288, .inl (fun _ => 0))))]))) rfl ?_
  refine K_aast (M := iX3_init) (n := 8) (x := 3) rfl dX3_init_33 ?_
  refine K_world (ws' := (h0, .inr (2, [.int 0, .int 0, .ref a1])) :: (a1, .inl (G.cT 4, 8, .inr (.inr (.inr (.inr (va_up (va_up (va_up (va_up (fun _ => none) (0 : Int32).toNatClampNeg (some o2)) (1 : Int32).toNatClampNeg (some o3)) (2 : Int32).toNatClampNeg (some o4)) (3 : Int32).toNatClampNeg (some o5))))))) :: ((([(o2, .inr (6, [.int 0, .int 0, .ref w2_1, .ref w2_2, .ref w2_3])), (w2_1, .inl (G.cT 0, (12, .inl (fun _ => 0)))), (w2_2, .inl (G.cT 0, (12, .inl (fun _ => 0)))), (w2_3, .inl (G.cT 0, (288, .inl (fun _ => 0))))] ++ [(o3, .inr (6, [.int 0, .int 0, .ref w3_1, .ref w3_2, .ref w3_3])), (w3_1, .inl (G.cT 0, (12, .inl (fun _ => 0)))), (w3_2, .inl (G.cT 0, (12, .inl (fun _ => 0)))), (w3_3, .inl (G.cT 0, (288, .inl (fun _ => 0))))]) ++ [(o4, .inr (6, [.int 0, .int 0, .ref w4_1, .ref w4_2, .ref w4_3])), (w4_1, .inl (G.cT 0, (12, .inl (fun _ => 0)))), (w4_2, .inl (G.cT 0, (12, .inl (fun _ => 0)))), (w4_3, .inl (G.cT 0, (288, .inl (fun _ => 0))))]) ++ [(o5, .inr (6, [.int 0, .int 0, .ref w5_1, .ref w5_2, .ref w5_3])), (w5_1, .inl (G.cT 0, (12, .inl (fun _ => 0)))), (w5_2, .inl (G.cT 0, (12, .inl (fun _ => 0)))), (w5_3, .inl (G.cT 0, (288, .inl (fun _ => 0))))])) rfl ?_
  refine K_iinc (q := 0) (v := 4) (ls' := [(1, .int 4), (0, .ref h0)]) dX3_init_34 rfl rfl (Nat.le_of_ble_eq_true rfl) rfl ?_
  refine K_goto (t := 15) dX3_init_37 rfl ?_
  refine K_iload_n dX3_init_15 rfl 0 rfl ?_
  refine K_bipush (v := 8) dX3_init_16 rfl ?_
  refine K_ge_f (t := 40) dX3_init_18 rfl (by decide) ?_
  refine K_aload_n dX3_init_21 rfl 1 rfl ?_
  refine K_get cf_X3_11 (v := .ref a1) rfl dX3_init_22 ?_
  refine K_iload_n dX3_init_25 rfl 0 rfl ?_
  refine K_newobj (N := iX7_init) (ci := 6) (fs := [.int 0, .int 0, .null, .null, .null]) (host := "PaintedOve\x72") (mc' := 3) (ms' := 312) (post' := pX7 G) rfl ux_X7 tyX7_ok (fun j hj => by rcases j with _ | _ | _ | _ | _ | j <;> first | rfl | omega) wd_302 wd_222 wd_108 (fun q => kX7 G q) mb_X7 wd_224 rfl rfl (by decide) (by decide) (Nat.le_of_ble_eq_true rfl) (Nat.le_of_ble_eq_true rfl) (Nat.le_of_ble_eq_true rfl) dX3_init_26 dX3_init_29 dX3_init_30 (fun o6 w6 hw6 => ?_)
  obtain ⟨w6_1, w6_2, w6_3, rfl⟩ := hw6
  refine K_world (ws' := (h0, .inr (2, [.int 0, .int 0, .ref a1])) :: (a1, .inl (G.cT 4, 8, .inr (.inr (.inr (.inr (va_up (va_up (va_up (va_up (fun _ => none) (0 : Int32).toNatClampNeg (some o2)) (1 : Int32).toNatClampNeg (some o3)) (2 : Int32).toNatClampNeg (some o4)) (3 : Int32).toNatClampNeg (some o5))))))) :: (((([(o2, .inr (6, [.int 0, .int 0, .ref w2_1, .ref w2_2, .ref w2_3])), (w2_1, .inl (G.cT 0, (12, .inl (fun _ => 0)))), (w2_2, .inl (G.cT 0, (12, .inl (fun _ => 0)))), (w2_3, .inl (G.cT 0, (288, .inl (fun _ => 0))))] ++ [(o3, .inr (6, [.int 0, .int 0, .ref w3_1, .ref w3_2, .ref w3_3])), (w3_1, .inl (G.cT 0, (12, .inl (fun _ => 0)))), (w3_2, .inl (G.cT 0, (12, .inl (fun _ => 0)))), (w3_3, .inl (G.cT 0, (288, .inl (fun _ => 0))))]) ++ [(o4, .inr (6, [.int 0, .int 0, .ref w4_1, .ref w4_2, .ref w4_3])), (w4_1, .inl (G.cT 0, (12, .inl (fun _ => 0)))), (w4_2, .inl (G.cT 0, (12, .inl (fun _ => 0)))), (w4_3, .inl (G.cT 0, (288, .inl (fun _ => 0))))]) ++ [(o5, .inr (6, [.int 0, .int 0, .ref w5_1, .ref w5_2, .ref w5_3])), (w5_1, .inl (G.cT 0, (12, .inl (fun _ => 0)))), (w5_2, .inl (G.cT 0, (12, .inl (fun _ => 0)))), (w5_3, .inl (G.cT 0, (288, .inl (fun _ => 0))))]) ++ [(o6, .inr (6, [.int 0, .int 0, .ref w6_1, .ref w6_2, .ref w6_3])), (w6_1, .inl (G.cT 0, (12, .inl (fun _ => 0)))), (w6_2, .inl (G.cT 0, (12, .inl (fun _ => 0)))), (w6_3, .inl (G.cT 0, (288, .inl (fun _ => 0))))])) rfl ?_
  refine K_world (ws' := (h0, .inr (2, [.int 0, .int 0, .ref a1])) :: (a1, .inl (G.cT 4, 8, .inr (.inr (.inr (.inr (va_up (va_up (va_up (va_up (fun _ => none) (0 : Int32).toNatClampNeg (some o2)) (1 : Int32).toNatClampNeg (some o3)) (2 : Int32).toNatClampNeg (some o4)) (3 : Int32).toNatClampNeg (some o5))))))) :: ((((([(o2, .inr (6, [.int 0, .int 0, .ref w2_1, .ref w2_2, .ref w2_3])), (w2_1, .inl (G.cT 0, (12, .inl (fun _ => 0)))), (w2_2, .inl (G.cT 0, (12, .inl (fun _ => 0)))), (w2_3, .inl (G.cT 0, (288, .inl (fun _ => 0))))] ++ [(o3, .inr (6, [.int 0, .int 0, .ref w3_1, .ref w3_2, .ref w3_3])), (w3_1, .inl (G.cT 0, (12, .inl (fun _ => 0)))), (w3_2, .inl (G.cT 0, (12, .inl (fun _ => 0)))), (w3_3, .inl (G.cT 0, (288, .inl (fun _ => 0))))]) ++ [(o4, .inr (6, [.int 0, .int 0, .ref w4_1, .ref w4_2, .ref w4_3])), (w4_1, .inl (G.cT 0, (12, .inl (fun _ => 0)))), (w4_2, .inl (G.cT 0, (12, .inl (fun _ => 0)))), (w4_3, .inl (G.cT 0, (288, .inl (fun _ => 0))))]) ++ [(o5, .inr (6, [.int 0, .int 0, .ref w5_1, .ref w5_2, .ref w5_3])), (w5_1, .inl (G.cT 0, (12, .inl (fun _ => 0)))), (w5_2, .inl (G.cT 0, (12, .inl (fun _ => 0)))), (w5_3, .inl (G.cT 0, (288, .inl (fun _ => 0))))]) : va_W) ++ ((o6, .inr (6, [.int 0, .int 0, .ref w6_1, .ref w6_2, .ref w6_3])) :: [(w6_1, .inl (G.cT 0, (12, .inl (fun _ => 0)))), (w6_2, .inl (G.cT 0, (12, .inl (fun _ => 0)))), (w6_3, .inl (G.cT 0, (288, .inl (fun _ => 0))))]))) rfl ?_
  refine K_aast (M := iX3_init) (n := 8) (x := 4) rfl dX3_init_33 ?_
  refine K_world (ws' := (h0, .inr (2, [.int 0, .int 0, .ref a1])) :: (a1, .inl (G.cT 4, 8, .inr (.inr (.inr (.inr (va_up (va_up (va_up (va_up (va_up (fun _ => none) (0 : Int32).toNatClampNeg (some o2)) (1 : Int32).toNatClampNeg (some o3)) (2 : Int32).toNatClampNeg (some o4)) (3 : Int32).toNatClampNeg (some o5)) (4 : Int32).toNatClampNeg (some o6))))))) :: (((([(o2, .inr (6, [.int 0, .int 0, .ref w2_1, .ref w2_2, .ref w2_3])), (w2_1, .inl (G.cT 0, (12, .inl (fun _ => 0)))), (w2_2, .inl (G.cT 0, (12, .inl (fun _ => 0)))), (w2_3, .inl (G.cT 0, (288, .inl (fun _ => 0))))] ++ [(o3, .inr (6, [.int 0, .int 0, .ref w3_1, .ref w3_2, .ref w3_3])), (w3_1, .inl (G.cT 0, (12, .inl (fun _ => 0)))), (w3_2, .inl (G.cT 0, (12, .inl (fun _ => 0)))), (w3_3, .inl (G.cT 0, (288, .inl (fun _ => 0))))]) ++ [(o4, .inr (6, [.int 0, .int 0, .ref w4_1, .ref w4_2, .ref w4_3])), (w4_1, .inl (G.cT 0, (12, .inl (fun _ => 0)))), (w4_2, .inl (G.cT 0, (12, .inl (fun _ => 0)))), (w4_3, .inl (G.cT 0, (288, .inl (fun _ => 0))))]) ++ [(o5, .inr (6, [.int 0, .int 0, .ref w5_1, .ref w5_2, .ref w5_3])), (w5_1, .inl (G.cT 0, (12, .inl (fun _ => 0)))), (w5_2, .inl (G.cT 0, (12, .inl (fun _ => 0)))), (w5_3, .inl (G.cT 0, (288, .inl (fun _ => 0))))]) ++ [(o6, .inr (6, [.int 0, .int 0, .ref w6_1, .ref w6_2, .ref w6_3])), (w6_1, .inl (G.cT 0, (12, .inl (fun _ => 0)))), (w6_2, .inl (G.cT 0, (12, .inl (fun _ => 0)))), (w6_3, .inl (G.cT 0, (288, .inl (fun _ => 0))))])) rfl ?_
  refine K_iinc (q := 0) (v := 5) (ls' := [(1, .int 5), (0, .ref h0)]) dX3_init_34 rfl rfl (Nat.le_of_ble_eq_true rfl) rfl ?_
  refine K_goto (t := 15) dX3_init_37 rfl ?_
  refine K_iload_n dX3_init_15 rfl 0 rfl ?_
  refine K_bipush (v := 8) dX3_init_16 rfl ?_
  refine K_ge_f (t := 40) dX3_init_18 rfl (by decide) ?_
  refine K_aload_n dX3_init_21 rfl 1 rfl ?_
  refine K_get cf_X3_11 (v := .ref a1) rfl dX3_init_22 ?_
  refine K_iload_n dX3_init_25 rfl 0 rfl ?_
  refine K_newobj (N := iX7_init) (ci := 6) (fs := [.int 0, .int 0, .null, .null, .null]) (host := "PaintedOve\x72") (mc' := 3) (ms' := 312) (post' := pX7 G) rfl ux_X7 tyX7_ok (fun j hj => by rcases j with _ | _ | _ | _ | _ | j <;> first | rfl | omega) wd_302 wd_222 wd_108 (fun q => kX7 G q) mb_X7 wd_224 rfl rfl (by decide) (by decide) (Nat.le_of_ble_eq_true rfl) (Nat.le_of_ble_eq_true rfl) (Nat.le_of_ble_eq_true rfl) dX3_init_26 dX3_init_29 dX3_init_30 (fun o7 w7 hw7 => ?_)
  obtain ⟨w7_1, w7_2, w7_3, rfl⟩ := hw7
  refine K_world (ws' := (h0, .inr (2, [.int 0, .int 0, .ref a1])) :: (a1, .inl (G.cT 4, 8, .inr (.inr (.inr (.inr (va_up (va_up (va_up (va_up (va_up (fun _ => none) (0 : Int32).toNatClampNeg (some o2)) (1 : Int32).toNatClampNeg (some o3)) (2 : Int32).toNatClampNeg (some o4)) (3 : Int32).toNatClampNeg (some o5)) (4 : Int32).toNatClampNeg (some o6))))))) :: ((((([(o2, .inr (6, [.int 0, .int 0, .ref w2_1, .ref w2_2, .ref w2_3])), (w2_1, .inl (G.cT 0, (12, .inl (fun _ => 0)))), (w2_2, .inl (G.cT 0, (12, .inl (fun _ => 0)))), (w2_3, .inl (G.cT 0, (288, .inl (fun _ => 0))))] ++ [(o3, .inr (6, [.int 0, .int 0, .ref w3_1, .ref w3_2, .ref w3_3])), (w3_1, .inl (G.cT 0, (12, .inl (fun _ => 0)))), (w3_2, .inl (G.cT 0, (12, .inl (fun _ => 0)))), (w3_3, .inl (G.cT 0, (288, .inl (fun _ => 0))))]) ++ [(o4, .inr (6, [.int 0, .int 0, .ref w4_1, .ref w4_2, .ref w4_3])), (w4_1, .inl (G.cT 0, (12, .inl (fun _ => 0)))), (w4_2, .inl (G.cT 0, (12, .inl (fun _ => 0)))), (w4_3, .inl (G.cT 0, (288, .inl (fun _ => 0))))]) ++ [(o5, .inr (6, [.int 0, .int 0, .ref w5_1, .ref w5_2, .ref w5_3])), (w5_1, .inl (G.cT 0, (12, .inl (fun _ => 0)))), (w5_2, .inl (G.cT 0, (12, .inl (fun _ => 0)))), (w5_3, .inl (G.cT 0, (288, .inl (fun _ => 0))))]) ++ [(o6, .inr (6, [.int 0, .int 0, .ref w6_1, .ref w6_2, .ref w6_3])), (w6_1, .inl (G.cT 0, (12, .inl (fun _ => 0)))), (w6_2, .inl (G.cT 0, (12, .inl (fun _ => 0)))), (w6_3, .inl (G.cT 0, (288, .inl (fun _ => 0))))]) ++ [(o7, .inr (6, [.int 0, .int 0, .ref w7_1, .ref w7_2, .ref w7_3])), (w7_1, .inl (G.cT 0, (12, .inl (fun _ => 0)))), (w7_2, .inl (G.cT 0, (12, .inl (fun _ => 0)))), (w7_3, .inl (G.cT 0, (288, .inl (fun _ => 0))))])) rfl ?_
  refine K_world (ws' := (h0, .inr (2, [.int 0, .int 0, .ref a1])) :: (a1, .inl (G.cT 4, 8, .inr (.inr (.inr (.inr (va_up (va_up (va_up (va_up (va_up (fun _ => none) (0 : Int32).toNatClampNeg (some o2)) (1 : Int32).toNatClampNeg (some o3)) (2 : Int32).toNatClampNeg (some o4)) (3 : Int32).toNatClampNeg (some o5)) (4 : Int32).toNatClampNeg (some o6))))))) :: (((((([(o2, .inr (6, [.int 0, .int 0, .ref w2_1, .ref w2_2, .ref w2_3])), (w2_1, .inl (G.cT 0, (12, .inl (fun _ => 0)))), (w2_2, .inl (G.cT 0, (12, .inl (fun _ => 0)))), (w2_3, .inl (G.cT 0, (288, .inl (fun _ => 0))))] ++ [(o3, .inr (6, [.int 0, .int 0, .ref w3_1, .ref w3_2, .ref w3_3])), (w3_1, .inl (G.cT 0, (12, .inl (fun _ => 0)))), (w3_2, .inl (G.cT 0, (12, .inl (fun _ => 0)))), (w3_3, .inl (G.cT 0, (288, .inl (fun _ => 0))))]) ++ [(o4, .inr (6, [.int 0, .int 0, .ref w4_1, .ref w4_2, .ref w4_3])), (w4_1, .inl (G.cT 0, (12, .inl (fun _ => 0)))), (w4_2, .inl (G.cT 0, (12, .inl (fun _ => 0)))), (w4_3, .inl (G.cT 0, (288, .inl (fun _ => 0))))]) ++ [(o5, .inr (6, [.int 0, .int 0, .ref w5_1, .ref w5_2, .ref w5_3])), (w5_1, .inl (G.cT 0, (12, .inl (fun _ => 0)))), (w5_2, .inl (G.cT 0, (12, .inl (fun _ => 0)))), (w5_3, .inl (G.cT 0, (288, .inl (fun _ => 0))))]) ++ [(o6, .inr (6, [.int 0, .int 0, .ref w6_1, .ref w6_2, .ref w6_3])), (w6_1, .inl (G.cT 0, (12, .inl (fun _ => 0)))), (w6_2, .inl (G.cT 0, (12, .inl (fun _ => 0)))), (w6_3, .inl (G.cT 0, (288, .inl (fun _ => 0))))]) : va_W) ++ ((o7, .inr (6, [.int 0, .int 0, .ref w7_1, .ref w7_2, .ref w7_3])) :: [(w7_1, .inl (G.cT 0, (12, .inl (fun _ => 0)))), (w7_2, .inl (G.cT 0, (12, .inl (fun _ => 0)))), (w7_3, .inl (G.cT 0, (288, .inl (fun _ => 0))))]))) rfl ?_
  refine K_aast (M := iX3_init) (n := 8) (x := 5) rfl dX3_init_33 ?_
  refine K_world (ws' := (h0, .inr (2, [.int 0, .int 0, .ref a1])) :: (a1, .inl (G.cT 4, 8, .inr (.inr (.inr (.inr (va_up (va_up (va_up (va_up (va_up (va_up (fun _ => none) (0 : Int32).toNatClampNeg (some o2)) (1 : Int32).toNatClampNeg (some o3)) (2 : Int32).toNatClampNeg (some o4)) (3 : Int32).toNatClampNeg (some o5)) (4 : Int32).toNatClampNeg (some o6)) (5 : Int32).toNatClampNeg (some o7))))))) :: ((((([(o2, .inr (6, [.int 0, .int 0, .ref w2_1, .ref w2_2, .ref w2_3])), (w2_1, .inl (G.cT 0, (12, .inl (fun _ => 0)))), (w2_2, .inl (G.cT 0, (12, .inl (fun _ => 0)))), (w2_3, .inl (G.cT 0, (288, .inl (fun _ => 0))))] ++ [(o3, .inr (6, [.int 0, .int 0, .ref w3_1, .ref w3_2, .ref w3_3])), (w3_1, .inl (G.cT 0, (12, .inl (fun _ => 0)))), (w3_2, .inl (G.cT 0, (12, .inl (fun _ => 0)))), (w3_3, .inl (G.cT 0, (288, .inl (fun _ => 0))))]) ++ [(o4, .inr (6, [.int 0, .int 0, .ref w4_1, .ref w4_2, .ref w4_3])), (w4_1, .inl (G.cT 0, (12, .inl (fun _ => 0)))), (w4_2, .inl (G.cT 0, (12, .inl (fun _ => 0)))), (w4_3, .inl (G.cT 0, (288, .inl (fun _ => 0))))]) ++ [(o5, .inr (6, [.int 0, .int 0, .ref w5_1, .ref w5_2, .ref w5_3])), (w5_1, .inl (G.cT 0, (12, .inl (fun _ => 0)))), (w5_2, .inl (G.cT 0, (12, .inl (fun _ => 0)))), (w5_3, .inl (G.cT 0, (288, .inl (fun _ => 0))))]) ++ [(o6, .inr (6, [.int 0, .int 0, .ref w6_1, .ref w6_2, .ref w6_3])), (w6_1, .inl (G.cT 0, (12, .inl (fun _ => 0)))), (w6_2, .inl (G.cT 0, (12, .inl (fun _ => 0)))), (w6_3, .inl (G.cT 0, (288, .inl (fun _ => 0))))]) ++ [(o7, .inr (6, [.int 0, .int 0, .ref w7_1, .ref w7_2, .ref w7_3])), (w7_1, .inl (G.cT 0, (12, .inl (fun _ => 0)))), (w7_2, .inl (G.cT 0, (12, .inl (fun _ => 0)))), (w7_3, .inl (G.cT 0, (288, .inl (fun _ => 0))))])) rfl ?_
  refine K_iinc (q := 0) (v := 6) (ls' := [(1, .int 6), (0, .ref h0)]) dX3_init_34 rfl rfl (Nat.le_of_ble_eq_true rfl) rfl ?_
  refine K_goto (t := 15) dX3_init_37 rfl ?_
  refine K_iload_n dX3_init_15 rfl 0 rfl ?_
  refine K_bipush (v := 8) dX3_init_16 rfl ?_
  refine K_ge_f (t := 40) dX3_init_18 rfl (by decide) ?_
  refine K_aload_n dX3_init_21 rfl 1 rfl ?_
  refine K_get cf_X3_11 (v := .ref a1) rfl dX3_init_22 ?_
  refine K_iload_n dX3_init_25 rfl 0 rfl ?_
  refine K_newobj (N := iX7_init) (ci := 6) (fs := [.int 0, .int 0, .null, .null, .null]) (host := "PaintedOve\x72") (mc' := 3) (ms' := 312) (post' := pX7 G) rfl ux_X7 tyX7_ok (fun j hj => by rcases j with _ | _ | _ | _ | _ | j <;> first | rfl | omega) wd_302 wd_222 wd_108 (fun q => kX7 G q) mb_X7 wd_224 rfl rfl (by decide) (by decide) (Nat.le_of_ble_eq_true rfl) (Nat.le_of_ble_eq_true rfl) (Nat.le_of_ble_eq_true rfl) dX3_init_26 dX3_init_29 dX3_init_30 (fun o8 w8 hw8 => ?_)
  obtain ⟨w8_1, w8_2, w8_3, rfl⟩ := hw8
  refine K_world (ws' := (h0, .inr (2, [.int 0, .int 0, .ref a1])) :: (a1, .inl (G.cT 4, 8, .inr (.inr (.inr (.inr (va_up (va_up (va_up (va_up (va_up (va_up (fun _ => none) (0 : Int32).toNatClampNeg (some o2)) (1 : Int32).toNatClampNeg (some o3)) (2 : Int32).toNatClampNeg (some o4)) (3 : Int32).toNatClampNeg (some o5)) (4 : Int32).toNatClampNeg (some o6)) (5 : Int32).toNatClampNeg (some o7))))))) :: (((((([(o2, .inr (6, [.int 0, .int 0, .ref w2_1, .ref w2_2, .ref w2_3])), (w2_1, .inl (G.cT 0, (12, .inl (fun _ => 0)))), (w2_2, .inl (G.cT 0, (12, .inl (fun _ => 0)))), (w2_3, .inl (G.cT 0, (288, .inl (fun _ => 0))))] ++ [(o3, .inr (6, [.int 0, .int 0, .ref w3_1, .ref w3_2, .ref w3_3])), (w3_1, .inl (G.cT 0, (12, .inl (fun _ => 0)))), (w3_2, .inl (G.cT 0, (12, .inl (fun _ => 0)))), (w3_3, .inl (G.cT 0, (288, .inl (fun _ => 0))))]) ++ [(o4, .inr (6, [.int 0, .int 0, .ref w4_1, .ref w4_2, .ref w4_3])), (w4_1, .inl (G.cT 0, (12, .inl (fun _ => 0)))), (w4_2, .inl (G.cT 0, (12, .inl (fun _ => 0)))), (w4_3, .inl (G.cT 0, (288, .inl (fun _ => 0))))]) ++ [(o5, .inr (6, [.int 0, .int 0, .ref w5_1, .ref w5_2, .ref w5_3])), (w5_1, .inl (G.cT 0, (12, .inl (fun _ => 0)))), (w5_2, .inl (G.cT 0, (12, .inl (fun _ => 0)))), (w5_3, .inl (G.cT 0, (288, .inl (fun _ => 0))))]) ++ [(o6, .inr (6, [.int 0, .int 0, .ref w6_1, .ref w6_2, .ref w6_3])), (w6_1, .inl (G.cT 0, (12, .inl (fun _ => 0)))), (w6_2, .inl (G.cT 0, (12, .inl (fun _ => 0)))), (w6_3, .inl (G.cT 0, (288, .inl (fun _ => 0))))]) ++ [(o7, .inr (6, [.int 0, .int 0, .ref w7_1, .ref w7_2, .ref w7_3])), (w7_1, .inl (G.cT 0, (12, .inl (fun _ => 0)))), (w7_2, .inl (G.cT 0, (12, .inl (fun _ => 0)))), (w7_3, .inl (G.cT 0, (288, .inl (fun _ => 0))))]) ++ [(o8, .inr (6, [.int 0, .int 0, .ref w8_1, .ref w8_2, .ref w8_3])), (w8_1, .inl (G.cT 0, (12, .inl (fun _ => 0)))), (w8_2, .inl (G.cT 0, (12, .inl (fun _ => 0)))), (w8_3, .inl (G.cT 0, (288, .inl (fun _ => 0))))])) rfl ?_
  refine K_world (ws' := (h0, .inr (2, [.int 0, .int 0, .ref a1])) :: (a1, .inl (G.cT 4, 8, .inr (.inr (.inr (.inr (va_up (va_up (va_up (va_up (va_up (va_up (fun _ => none) (0 : Int32).toNatClampNeg (some o2)) (1 : Int32).toNatClampNeg (some o3)) (2 : Int32).toNatClampNeg (some o4)) (3 : Int32).toNatClampNeg (some o5)) (4 : Int32).toNatClampNeg (some o6)) (5 : Int32).toNatClampNeg (some o7))))))) :: ((((((([(o2, .inr (6, [.int 0, .int 0, .ref w2_1, .ref w2_2, .ref w2_3])), (w2_1, .inl (G.cT 0, (12, .inl (fun _ => 0)))), (w2_2, .inl (G.cT 0, (12, .inl (fun _ => 0)))), (w2_3, .inl (G.cT 0, (288, .inl (fun _ => 0))))] ++ [(o3, .inr (6, [.int 0, .int 0, .ref w3_1, .ref w3_2, .ref w3_3])), (w3_1, .inl (G.cT 0, (12, .inl (fun _ => 0)))), (w3_2, .inl (G.cT 0, (12, .inl (fun _ => 0)))), (w3_3, .inl (G.cT 0, (288, .inl (fun _ => 0))))]) ++ [(o4, .inr (6, [.int 0, .int 0, .ref w4_1, .ref w4_2, .ref w4_3])), (w4_1, .inl (G.cT 0, (12, .inl (fun _ => 0)))), (w4_2, .inl (G.cT 0, (12, .inl (fun _ => 0)))), (w4_3, .inl (G.cT 0, (288, .inl (fun _ => 0))))]) ++ [(o5, .inr (6, [.int 0, .int 0, .ref w5_1, .ref w5_2, .ref w5_3])), (w5_1, .inl (G.cT 0, (12, .inl (fun _ => 0)))), (w5_2, .inl (G.cT 0, (12, .inl (fun _ => 0)))), (w5_3, .inl (G.cT 0, (288, .inl (fun _ => 0))))]) ++ [(o6, .inr (6, [.int 0, .int 0, .ref w6_1, .ref w6_2, .ref w6_3])), (w6_1, .inl (G.cT 0, (12, .inl (fun _ => 0)))), (w6_2, .inl (G.cT 0, (12, .inl (fun _ => 0)))), (w6_3, .inl (G.cT 0, (288, .inl (fun _ => 0))))]) ++ [(o7, .inr (6, [.int 0, .int 0, .ref w7_1, .ref w7_2, .ref w7_3])), (w7_1, .inl (G.cT 0, (12, .inl (fun _ => 0)))), (w7_2, .inl (G.cT 0, (12, .inl (fun _ => 0)))), (w7_3, .inl (G.cT 0, (288, .inl (fun _ => 0))))]) : va_W) ++ ((o8, .inr (6, [.int 0, .int 0, .ref w8_1, .ref w8_2, .ref w8_3])) :: [(w8_1, .inl (G.cT 0, (12, .inl (fun _ => 0)))), (w8_2, .inl (G.cT 0, (12, .inl (fun _ => 0)))), (w8_3, .inl (G.cT 0, (288, .inl (fun _ => 0))))]))) rfl ?_
  refine K_aast (M := iX3_init) (n := 8) (x := 6) rfl dX3_init_33 ?_
  refine K_world (ws' := (h0, .inr (2, [.int 0, .int 0, .ref a1])) :: (a1, .inl (G.cT 4, 8, .inr (.inr (.inr (.inr (va_up (va_up (va_up (va_up (va_up (va_up (va_up (fun _ => none) (0 : Int32).toNatClampNeg (some o2)) (1 : Int32).toNatClampNeg (some o3)) (2 : Int32).toNatClampNeg (some o4)) (3 : Int32).toNatClampNeg (some o5)) (4 : Int32).toNatClampNeg (some o6)) (5 : Int32).toNatClampNeg (some o7)) (6 : Int32).toNatClampNeg (some o8))))))) :: (((((([(o2, .inr (6, [.int 0, .int 0, .ref w2_1, .ref w2_2, .ref w2_3])), (w2_1, .inl (G.cT 0, (12, .inl (fun _ => 0)))), (w2_2, .inl (G.cT 0, (12, .inl (fun _ => 0)))), (w2_3, .inl (G.cT 0, (288, .inl (fun _ => 0))))] ++ [(o3, .inr (6, [.int 0, .int 0, .ref w3_1, .ref w3_2, .ref w3_3])), (w3_1, .inl (G.cT 0, (12, .inl (fun _ => 0)))), (w3_2, .inl (G.cT 0, (12, .inl (fun _ => 0)))), (w3_3, .inl (G.cT 0, (288, .inl (fun _ => 0))))]) ++ [(o4, .inr (6, [.int 0, .int 0, .ref w4_1, .ref w4_2, .ref w4_3])), (w4_1, .inl (G.cT 0, (12, .inl (fun _ => 0)))), (w4_2, .inl (G.cT 0, (12, .inl (fun _ => 0)))), (w4_3, .inl (G.cT 0, (288, .inl (fun _ => 0))))]) ++ [(o5, .inr (6, [.int 0, .int 0, .ref w5_1, .ref w5_2, .ref w5_3])), (w5_1, .inl (G.cT 0, (12, .inl (fun _ => 0)))), (w5_2, .inl (G.cT 0, (12, .inl (fun _ => 0)))), (w5_3, .inl (G.cT 0, (288, .inl (fun _ => 0))))]) ++ [(o6, .inr (6, [.int 0, .int 0, .ref w6_1, .ref w6_2, .ref w6_3])), (w6_1, .inl (G.cT 0, (12, .inl (fun _ => 0)))), (w6_2, .inl (G.cT 0, (12, .inl (fun _ => 0)))), (w6_3, .inl (G.cT 0, (288, .inl (fun _ => 0))))]) ++ [(o7, .inr (6, [.int 0, .int 0, .ref w7_1, .ref w7_2, .ref w7_3])), (w7_1, .inl (G.cT 0, (12, .inl (fun _ => 0)))), (w7_2, .inl (G.cT 0, (12, .inl (fun _ => 0)))), (w7_3, .inl (G.cT 0, (288, .inl (fun _ => 0))))]) ++ [(o8, .inr (6, [.int 0, .int 0, .ref w8_1, .ref w8_2, .ref w8_3])), (w8_1, .inl (G.cT 0, (12, .inl (fun _ => 0)))), (w8_2, .inl (G.cT 0, (12, .inl (fun _ => 0)))), (w8_3, .inl (G.cT 0, (288, .inl (fun _ => 0))))])) rfl ?_
  refine K_iinc (q := 0) (v := 7) (ls' := [(1, .int 7), (0, .ref h0)]) dX3_init_34 rfl rfl (Nat.le_of_ble_eq_true rfl) rfl ?_
  refine K_goto (t := 15) dX3_init_37 rfl ?_
  refine K_iload_n dX3_init_15 rfl 0 rfl ?_
  refine K_bipush (v := 8) dX3_init_16 rfl ?_
  refine K_ge_f (t := 40) dX3_init_18 rfl (by decide) ?_
  refine K_aload_n dX3_init_21 rfl 1 rfl ?_
  refine K_get cf_X3_11 (v := .ref a1) rfl dX3_init_22 ?_
  refine K_iload_n dX3_init_25 rfl 0 rfl ?_
  refine K_newobj (N := iX7_init) (ci := 6) (fs := [.int 0, .int 0, .null, .null, .null]) (host := "PaintedOve\x72") (mc' := 3) (ms' := 312) (post' := pX7 G) rfl ux_X7 tyX7_ok (fun j hj => by rcases j with _ | _ | _ | _ | _ | j <;> first | rfl | omega) wd_302 wd_222 wd_108 (fun q => kX7 G q) mb_X7 wd_224 rfl rfl (by decide) (by decide) (Nat.le_of_ble_eq_true rfl) (Nat.le_of_ble_eq_true rfl) (Nat.le_of_ble_eq_true rfl) dX3_init_26 dX3_init_29 dX3_init_30 (fun o9 w9 hw9 => ?_)
  obtain ⟨w9_1, w9_2, w9_3, rfl⟩ := hw9
  refine K_world (ws' := (h0, .inr (2, [.int 0, .int 0, .ref a1])) :: (a1, .inl (G.cT 4, 8, .inr (.inr (.inr (.inr (va_up (va_up (va_up (va_up (va_up (va_up (va_up (fun _ => none) (0 : Int32).toNatClampNeg (some o2)) (1 : Int32).toNatClampNeg (some o3)) (2 : Int32).toNatClampNeg (some o4)) (3 : Int32).toNatClampNeg (some o5)) (4 : Int32).toNatClampNeg (some o6)) (5 : Int32).toNatClampNeg (some o7)) (6 : Int32).toNatClampNeg (some o8))))))) :: ((((((([(o2, .inr (6, [.int 0, .int 0, .ref w2_1, .ref w2_2, .ref w2_3])), (w2_1, .inl (G.cT 0, (12, .inl (fun _ => 0)))), (w2_2, .inl (G.cT 0, (12, .inl (fun _ => 0)))), (w2_3, .inl (G.cT 0, (288, .inl (fun _ => 0))))] ++ [(o3, .inr (6, [.int 0, .int 0, .ref w3_1, .ref w3_2, .ref w3_3])), (w3_1, .inl (G.cT 0, (12, .inl (fun _ => 0)))), (w3_2, .inl (G.cT 0, (12, .inl (fun _ => 0)))), (w3_3, .inl (G.cT 0, (288, .inl (fun _ => 0))))]) ++ [(o4, .inr (6, [.int 0, .int 0, .ref w4_1, .ref w4_2, .ref w4_3])), (w4_1, .inl (G.cT 0, (12, .inl (fun _ => 0)))), (w4_2, .inl (G.cT 0, (12, .inl (fun _ => 0)))), (w4_3, .inl (G.cT 0, (288, .inl (fun _ => 0))))]) ++ [(o5, .inr (6, [.int 0, .int 0, .ref w5_1, .ref w5_2, .ref w5_3])), (w5_1, .inl (G.cT 0, (12, .inl (fun _ => 0)))), (w5_2, .inl (G.cT 0, (12, .inl (fun _ => 0)))), (w5_3, .inl (G.cT 0, (288, .inl (fun _ => 0))))]) ++ [(o6, .inr (6, [.int 0, .int 0, .ref w6_1, .ref w6_2, .ref w6_3])), (w6_1, .inl (G.cT 0, (12, .inl (fun _ => 0)))), (w6_2, .inl (G.cT 0, (12, .inl (fun _ => 0)))), (w6_3, .inl (G.cT 0, (288, .inl (fun _ => 0))))]) ++ [(o7, .inr (6, [.int 0, .int 0, .ref w7_1, .ref w7_2, .ref w7_3])), (w7_1, .inl (G.cT 0, (12, .inl (fun _ => 0)))), (w7_2, .inl (G.cT 0, (12, .inl (fun _ => 0)))), (w7_3, .inl (G.cT 0, (288, .inl (fun _ => 0))))]) ++ [(o8, .inr (6, [.int 0, .int 0, .ref w8_1, .ref w8_2, .ref w8_3])), (w8_1, .inl (G.cT 0, (12, .inl (fun _ => 0)))), (w8_2, .inl (G.cT 0, (12, .inl (fun _ => 0)))), (w8_3, .inl (G.cT 0, (288, .inl (fun _ => 0))))]) ++ [(o9, .inr (6, [.int 0, .int 0, .ref w9_1, .ref w9_2, .ref w9_3])), (w9_1, .inl (G.cT 0, (12, .inl (fun _ => 0)))), (w9_2, .inl (G.cT 0, (12, .inl (fun _ => 0)))), (w9_3, .inl (G.cT 0, (288, .inl (fun _ => 0))))])) rfl ?_
  refine K_world (ws' := (h0, .inr (2, [.int 0, .int 0, .ref a1])) :: (a1, .inl (G.cT 4, 8, .inr (.inr (.inr (.inr (va_up (va_up (va_up (va_up (va_up (va_up (va_up (fun _ => none) (0 : Int32).toNatClampNeg (some o2)) (1 : Int32).toNatClampNeg (some o3)) (2 : Int32).toNatClampNeg (some o4)) (3 : Int32).toNatClampNeg (some o5)) (4 : Int32).toNatClampNeg (some o6)) (5 : Int32).toNatClampNeg (some o7)) (6 : Int32).toNatClampNeg (some o8))))))) :: (((((((([(o2, .inr (6, [.int 0, .int 0, .ref w2_1, .ref w2_2, .ref w2_3])), (w2_1, .inl (G.cT 0, (12, .inl (fun _ => 0)))), (w2_2, .inl (G.cT 0, (12, .inl (fun _ => 0)))), (w2_3, .inl (G.cT 0, (288, .inl (fun _ => 0))))] ++ [(o3, .inr (6, [.int 0, .int 0, .ref w3_1, .ref w3_2, .ref w3_3])), (w3_1, .inl (G.cT 0, (12, .inl (fun _ => 0)))), (w3_2, .inl (G.cT 0, (12, .inl (fun _ => 0)))), (w3_3, .inl (G.cT 0, (288, .inl (fun _ => 0))))]) ++ [(o4, .inr (6, [.int 0, .int 0, .ref w4_1, .ref w4_2, .ref w4_3])), (w4_1, .inl (G.cT 0, (12, .inl (fun _ => 0)))), (w4_2, .inl (G.cT 0, (12, .inl (fun _ => 0)))), (w4_3, .inl (G.cT 0, (288, .inl (fun _ => 0))))]) ++ [(o5, .inr (6, [.int 0, .int 0, .ref w5_1, .ref w5_2, .ref w5_3])), (w5_1, .inl (G.cT 0, (12, .inl (fun _ => 0)))), (w5_2, .inl (G.cT 0, (12, .inl (fun _ => 0)))), (w5_3, .inl (G.cT 0, (288, .inl (fun _ => 0))))]) ++ [(o6, .inr (6, [.int 0, .int 0, .ref w6_1, .ref w6_2, .ref w6_3])), (w6_1, .inl (G.cT 0, (12, .inl (fun _ => 0)))), (w6_2, .inl (G.cT 0, (12, .inl (fun _ => 0)))), (w6_3, .inl (G.cT 0, (288, .inl (fun _ => 0))))]) ++ [(o7, .inr (6, [.int 0, .int 0, .ref w7_1, .ref w7_2, .ref w7_3])), (w7_1, .inl (G.cT 0, (12, .inl (fun _ => 0)))), (w7_2, .inl (G.cT 0, (12, .inl (fun _ => 0)))), (w7_3, .inl (G.cT 0, (288, .inl (fun _ => 0))))]) ++ [(o8, .inr (6, [.int 0, .int 0, .ref w8_1, .ref w8_2, .ref w8_3])), (w8_1, .inl (G.cT 0, (12, .inl (fun _ => 0)))), (w8_2, .inl (G.cT 0, (12, .inl (fun _ => 0)))), (w8_3, .inl (G.cT 0, (288, .inl (fun _ => 0))))]) : va_W) ++ ((o9, .inr (6, [.int 0, .int 0, .ref w9_1, .ref w9_2, .ref w9_3])) :: [(w9_1, .inl (G.cT 0, (12, .inl (fun _ => 0)))), (w9_2, .inl (G.cT 0, (12, .inl (fun _ => 0)))), (w9_3, .inl (G.cT 0, (288, .inl (fun _ => 0))))]))) rfl ?_
  refine K_aast (M := iX3_init) (n := 8) (x := 7) rfl dX3_init_33 ?_
  refine K_world (ws' := (h0, .inr (2, [.int 0, .int 0, .ref a1])) :: (a1, .inl (G.cT 4, 8, .inr (.inr (.inr (.inr (va_up (va_up (va_up (va_up (va_up (va_up (va_up (va_up (fun _ => none) (0 : Int32).toNatClampNeg (some o2)) (1 : Int32).toNatClampNeg (some o3)) (2 : Int32).toNatClampNeg (some o4)) (3 : Int32).toNatClampNeg (some o5)) (4 : Int32).toNatClampNeg (some o6)) (5 : Int32).toNatClampNeg (some o7)) (6 : Int32).toNatClampNeg (some o8)) (7 : Int32).toNatClampNeg (some o9))))))) :: ((((((([(o2, .inr (6, [.int 0, .int 0, .ref w2_1, .ref w2_2, .ref w2_3])), (w2_1, .inl (G.cT 0, (12, .inl (fun _ => 0)))), (w2_2, .inl (G.cT 0, (12, .inl (fun _ => 0)))), (w2_3, .inl (G.cT 0, (288, .inl (fun _ => 0))))] ++ [(o3, .inr (6, [.int 0, .int 0, .ref w3_1, .ref w3_2, .ref w3_3])), (w3_1, .inl (G.cT 0, (12, .inl (fun _ => 0)))), (w3_2, .inl (G.cT 0, (12, .inl (fun _ => 0)))), (w3_3, .inl (G.cT 0, (288, .inl (fun _ => 0))))]) ++ [(o4, .inr (6, [.int 0, .int 0, .ref w4_1, .ref w4_2, .ref w4_3])), (w4_1, .inl (G.cT 0, (12, .inl (fun _ => 0)))), (w4_2, .inl (G.cT 0, (12, .inl (fun _ => 0)))), (w4_3, .inl (G.cT 0, (288, .inl (fun _ => 0))))]) ++ [(o5, .inr (6, [.int 0, .int 0, .ref w5_1, .ref w5_2, .ref w5_3])), (w5_1, .inl (G.cT 0, (12, .inl (fun _ => 0)))), (w5_2, .inl (G.cT 0, (12, .inl (fun _ => 0)))), (w5_3, .inl (G.cT 0, (288, .inl (fun _ => 0))))]) ++ [(o6, .inr (6, [.int 0, .int 0, .ref w6_1, .ref w6_2, .ref w6_3])), (w6_1, .inl (G.cT 0, (12, .inl (fun _ => 0)))), (w6_2, .inl (G.cT 0, (12, .inl (fun _ => 0)))), (w6_3, .inl (G.cT 0, (288, .inl (fun _ => 0))))]) ++ [(o7, .inr (6, [.int 0, .int 0, .ref w7_1, .ref w7_2, .ref w7_3])), (w7_1, .inl (G.cT 0, (12, .inl (fun _ => 0)))), (w7_2, .inl (G.cT 0, (12, .inl (fun _ => 0)))), (w7_3, .inl (G.cT 0, (288, .inl (fun _ => 0))))]) ++ [(o8, .inr (6, [.int 0, .int 0, .ref w8_1, .ref w8_2, .ref w8_3])), (w8_1, .inl (G.cT 0, (12, .inl (fun _ => 0)))), (w8_2, .inl (G.cT 0, (12, .inl (fun _ => 0)))), (w8_3, .inl (G.cT 0, (288, .inl (fun _ => 0))))]) ++ [(o9, .inr (6, [.int 0, .int 0, .ref w9_1, .ref w9_2, .ref w9_3])), (w9_1, .inl (G.cT 0, (12, .inl (fun _ => 0)))), (w9_2, .inl (G.cT 0, (12, .inl (fun _ => 0)))), (w9_3, .inl (G.cT 0, (288, .inl (fun _ => 0))))])) rfl ?_
  refine K_iinc (q := 0) (v := 8) (ls' := [(1, .int 8), (0, .ref h0)]) dX3_init_34 rfl rfl (Nat.le_of_ble_eq_true rfl) rfl ?_
  refine K_goto (t := 15) dX3_init_37 rfl ?_
  refine K_iload_n dX3_init_15 rfl 0 rfl ?_
  refine K_bipush (v := 8) dX3_init_16 rfl ?_
  refine K_ge_t (t := 40) dX3_init_18 rfl (by decide) ?_
  refine K_refs (f' := (fun j => ([o2, o3, o4, o5, o6, o7, o8, o9] : List Nat)[j]?)) (fun j hj => by rcases j with _ | _ | _ | _ | _ | _ | _ | _ | j <;> first | rfl | omega) ?_
  exact K_ret ⟨a1, o2, w2_1, w2_2, w2_3, o3, w3_1, w3_2, w3_3, o4, w4_1, w4_2, w4_3, o5, w5_1, w5_2, w5_3, o6, w6_1, w6_2, w6_3, o7, w7_1, w7_2, w7_3, o8, w8_1, w8_2, w8_3, o9, w9_1, w9_2, w9_3, rfl⟩ rfl rfl dX3_init_40
