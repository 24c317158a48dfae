theorem wd_128 : Cond.instantiable RX8 11 ∈ JT := JT_of (List.mem_of_getElem? (i := 128) (by decide +kernel)) (by decide +kernel)
theorem wd_1219 : Cond.instantiable RX9 34 ∈ JT := JT_of (List.mem_of_getElem? (i := 1219) (by decide +kernel)) (by decide +kernel)
/-! ===== the law's start ===== -/
abbrev stL : List Cond := flatC (Jvm.Cond.and given_1 narrow_1)
theorem st_ex : ∀ i, i < 17 → Cond.exactly (.string RX9 (sIx i)) "java/lang/String" ∈ stL := by decide +kernel
theorem st_co : ∀ i, i < 17 → Cond.eq (.field (.string RX9 (sIx i)) "java/lang/String" "code\x72" "B") (.int 0) ∈ stL := by decide +kernel
theorem st_ar : ∀ i, i < 17 → Cond.arrayOf (.field (.string RX9 (sIx i)) "java/lang/String" "value" "[B") .byte ∈ stL := by decide +kernel
theorem st_le : ∀ i, i < 17 → Cond.eq (.length (.field (.string RX9 (sIx i)) "java/lang/String" "value" "[B")) (.int (Int32.ofNat (sLen.getD i 0))) ∈ stL := by decide +kernel
theorem st_el : ∀ i, i < 17 → ∀ j, j < sLen.getD i 0 → Cond.eq (.elem (.field (.string RX9 (sIx i)) "java/lang/String" "value" "[B") (.int (Int32.ofNat j))) (.int ((sByt.getD i []).getD j 0)) ∈ stL := by decide +kernel
theorem sn_0_1 : Cond.not (Cond.eq (.string RX9 (sIx 0)) (.string RX9 (sIx 1))) ∈ stL := List.mem_of_getElem? (i := 82) (by decide +kernel)
theorem sn_0_2 : Cond.not (Cond.eq (.string RX9 (sIx 0)) (.string RX9 (sIx 2))) ∈ stL := List.mem_of_getElem? (i := 95) (by decide +kernel)
theorem sn_0_3 : Cond.not (Cond.eq (.string RX9 (sIx 0)) (.string RX9 (sIx 3))) ∈ stL := List.mem_of_getElem? (i := 109) (by decide +kernel)
theorem sn_0_4 : Cond.not (Cond.eq (.string RX9 (sIx 0)) (.string RX9 (sIx 4))) ∈ stL := List.mem_of_getElem? (i := 128) (by decide +kernel)
theorem sn_0_5 : Cond.not (Cond.eq (.string RX9 (sIx 0)) (.string RX9 (sIx 5))) ∈ stL := List.mem_of_getElem? (i := 144) (by decide +kernel)
theorem sn_0_6 : Cond.not (Cond.eq (.string RX9 (sIx 0)) (.string RX9 (sIx 6))) ∈ stL := List.mem_of_getElem? (i := 36) (by decide +kernel)
theorem sn_0_7 : Cond.not (Cond.eq (.string RX9 (sIx 0)) (.string RX9 (sIx 7))) ∈ stL := List.mem_of_getElem? (i := 45) (by decide +kernel)
theorem sn_0_8 : Cond.not (Cond.eq (.string RX9 (sIx 0)) (.string RX9 (sIx 8))) ∈ stL := List.mem_of_getElem? (i := 56) (by decide +kernel)
theorem sn_0_9 : Cond.not (Cond.eq (.string RX9 (sIx 0)) (.string RX9 (sIx 9))) ∈ stL := List.mem_of_getElem? (i := 68) (by decide +kernel)
theorem sn_0_10 : Cond.not (Cond.eq (.string RX9 (sIx 0)) (.string RX9 (sIx 10))) ∈ stL := List.mem_of_getElem? (i := 162) (by decide +kernel)
theorem sn_0_11 : Cond.not (Cond.eq (.string RX9 (sIx 0)) (.string RX9 (sIx 11))) ∈ stL := List.mem_of_getElem? (i := 181) (by decide +kernel)
theorem sn_0_12 : Cond.not (Cond.eq (.string RX9 (sIx 0)) (.string RX9 (sIx 12))) ∈ stL := List.mem_of_getElem? (i := 201) (by decide +kernel)
theorem sn_0_13 : Cond.not (Cond.eq (.string RX9 (sIx 0)) (.string RX9 (sIx 13))) ∈ stL := List.mem_of_getElem? (i := 240) (by decide +kernel)
theorem sn_0_14 : Cond.not (Cond.eq (.string RX9 (sIx 0)) (.string RX9 (sIx 14))) ∈ stL := List.mem_of_getElem? (i := 221) (by decide +kernel)
theorem sn_0_15 : Cond.not (Cond.eq (.string RX9 (sIx 0)) (.string RX9 (sIx 15))) ∈ stL := List.mem_of_getElem? (i := 262) (by decide +kernel)
theorem sn_0_16 : Cond.not (Cond.eq (.string RX9 (sIx 0)) (.string RX9 (sIx 16))) ∈ stL := List.mem_of_getElem? (i := 286) (by decide +kernel)
theorem sn_1_2 : Cond.not (Cond.eq (.string RX9 (sIx 1)) (.string RX9 (sIx 2))) ∈ stL := List.mem_of_getElem? (i := 100) (by decide +kernel)
theorem sn_1_3 : Cond.not (Cond.eq (.string RX9 (sIx 1)) (.string RX9 (sIx 3))) ∈ stL := List.mem_of_getElem? (i := 114) (by decide +kernel)
theorem sn_1_4 : Cond.not (Cond.eq (.string RX9 (sIx 1)) (.string RX9 (sIx 4))) ∈ stL := List.mem_of_getElem? (i := 133) (by decide +kernel)
theorem sn_1_5 : Cond.not (Cond.eq (.string RX9 (sIx 1)) (.string RX9 (sIx 5))) ∈ stL := List.mem_of_getElem? (i := 149) (by decide +kernel)
theorem sn_1_10 : Cond.not (Cond.eq (.string RX9 (sIx 1)) (.string RX9 (sIx 10))) ∈ stL := List.mem_of_getElem? (i := 167) (by decide +kernel)
theorem sn_1_11 : Cond.not (Cond.eq (.string RX9 (sIx 1)) (.string RX9 (sIx 11))) ∈ stL := List.mem_of_getElem? (i := 186) (by decide +kernel)
theorem sn_1_12 : Cond.not (Cond.eq (.string RX9 (sIx 1)) (.string RX9 (sIx 12))) ∈ stL := List.mem_of_getElem? (i := 206) (by decide +kernel)
theorem sn_1_13 : Cond.not (Cond.eq (.string RX9 (sIx 1)) (.string RX9 (sIx 13))) ∈ stL := List.mem_of_getElem? (i := 245) (by decide +kernel)
theorem sn_1_14 : Cond.not (Cond.eq (.string RX9 (sIx 1)) (.string RX9 (sIx 14))) ∈ stL := List.mem_of_getElem? (i := 226) (by decide +kernel)
theorem sn_1_15 : Cond.not (Cond.eq (.string RX9 (sIx 1)) (.string RX9 (sIx 15))) ∈ stL := List.mem_of_getElem? (i := 267) (by decide +kernel)
theorem sn_1_16 : Cond.not (Cond.eq (.string RX9 (sIx 1)) (.string RX9 (sIx 16))) ∈ stL := List.mem_of_getElem? (i := 291) (by decide +kernel)
theorem sn_2_3 : Cond.not (Cond.eq (.string RX9 (sIx 2)) (.string RX9 (sIx 3))) ∈ stL := List.mem_of_getElem? (i := 115) (by decide +kernel)
theorem sn_2_4 : Cond.not (Cond.eq (.string RX9 (sIx 2)) (.string RX9 (sIx 4))) ∈ stL := List.mem_of_getElem? (i := 134) (by decide +kernel)
theorem sn_2_5 : Cond.not (Cond.eq (.string RX9 (sIx 2)) (.string RX9 (sIx 5))) ∈ stL := List.mem_of_getElem? (i := 150) (by decide +kernel)
theorem sn_2_10 : Cond.not (Cond.eq (.string RX9 (sIx 2)) (.string RX9 (sIx 10))) ∈ stL := List.mem_of_getElem? (i := 168) (by decide +kernel)
theorem sn_2_11 : Cond.not (Cond.eq (.string RX9 (sIx 2)) (.string RX9 (sIx 11))) ∈ stL := List.mem_of_getElem? (i := 187) (by decide +kernel)
theorem sn_2_12 : Cond.not (Cond.eq (.string RX9 (sIx 2)) (.string RX9 (sIx 12))) ∈ stL := List.mem_of_getElem? (i := 207) (by decide +kernel)
theorem sn_2_13 : Cond.not (Cond.eq (.string RX9 (sIx 2)) (.string RX9 (sIx 13))) ∈ stL := List.mem_of_getElem? (i := 246) (by decide +kernel)
theorem sn_2_14 : Cond.not (Cond.eq (.string RX9 (sIx 2)) (.string RX9 (sIx 14))) ∈ stL := List.mem_of_getElem? (i := 227) (by decide +kernel)
theorem sn_2_15 : Cond.not (Cond.eq (.string RX9 (sIx 2)) (.string RX9 (sIx 15))) ∈ stL := List.mem_of_getElem? (i := 268) (by decide +kernel)
theorem sn_2_16 : Cond.not (Cond.eq (.string RX9 (sIx 2)) (.string RX9 (sIx 16))) ∈ stL := List.mem_of_getElem? (i := 292) (by decide +kernel)
theorem sn_3_4 : Cond.not (Cond.eq (.string RX9 (sIx 3)) (.string RX9 (sIx 4))) ∈ stL := List.mem_of_getElem? (i := 135) (by decide +kernel)
theorem sn_3_5 : Cond.not (Cond.eq (.string RX9 (sIx 3)) (.string RX9 (sIx 5))) ∈ stL := List.mem_of_getElem? (i := 151) (by decide +kernel)
theorem sn_3_10 : Cond.not (Cond.eq (.string RX9 (sIx 3)) (.string RX9 (sIx 10))) ∈ stL := List.mem_of_getElem? (i := 169) (by decide +kernel)
theorem sn_3_11 : Cond.not (Cond.eq (.string RX9 (sIx 3)) (.string RX9 (sIx 11))) ∈ stL := List.mem_of_getElem? (i := 188) (by decide +kernel)
theorem sn_3_12 : Cond.not (Cond.eq (.string RX9 (sIx 3)) (.string RX9 (sIx 12))) ∈ stL := List.mem_of_getElem? (i := 208) (by decide +kernel)
theorem sn_3_13 : Cond.not (Cond.eq (.string RX9 (sIx 3)) (.string RX9 (sIx 13))) ∈ stL := List.mem_of_getElem? (i := 247) (by decide +kernel)
theorem sn_3_14 : Cond.not (Cond.eq (.string RX9 (sIx 3)) (.string RX9 (sIx 14))) ∈ stL := List.mem_of_getElem? (i := 228) (by decide +kernel)
theorem sn_3_15 : Cond.not (Cond.eq (.string RX9 (sIx 3)) (.string RX9 (sIx 15))) ∈ stL := List.mem_of_getElem? (i := 269) (by decide +kernel)
theorem sn_3_16 : Cond.not (Cond.eq (.string RX9 (sIx 3)) (.string RX9 (sIx 16))) ∈ stL := List.mem_of_getElem? (i := 293) (by decide +kernel)
theorem sn_4_5 : Cond.not (Cond.eq (.string RX9 (sIx 4)) (.string RX9 (sIx 5))) ∈ stL := List.mem_of_getElem? (i := 152) (by decide +kernel)
theorem sn_4_10 : Cond.not (Cond.eq (.string RX9 (sIx 4)) (.string RX9 (sIx 10))) ∈ stL := List.mem_of_getElem? (i := 170) (by decide +kernel)
theorem sn_4_11 : Cond.not (Cond.eq (.string RX9 (sIx 4)) (.string RX9 (sIx 11))) ∈ stL := List.mem_of_getElem? (i := 189) (by decide +kernel)
theorem sn_4_12 : Cond.not (Cond.eq (.string RX9 (sIx 4)) (.string RX9 (sIx 12))) ∈ stL := List.mem_of_getElem? (i := 209) (by decide +kernel)
theorem sn_4_13 : Cond.not (Cond.eq (.string RX9 (sIx 4)) (.string RX9 (sIx 13))) ∈ stL := List.mem_of_getElem? (i := 248) (by decide +kernel)
theorem sn_4_14 : Cond.not (Cond.eq (.string RX9 (sIx 4)) (.string RX9 (sIx 14))) ∈ stL := List.mem_of_getElem? (i := 229) (by decide +kernel)
theorem sn_4_15 : Cond.not (Cond.eq (.string RX9 (sIx 4)) (.string RX9 (sIx 15))) ∈ stL := List.mem_of_getElem? (i := 270) (by decide +kernel)
theorem sn_4_16 : Cond.not (Cond.eq (.string RX9 (sIx 4)) (.string RX9 (sIx 16))) ∈ stL := List.mem_of_getElem? (i := 294) (by decide +kernel)
theorem sn_5_10 : Cond.not (Cond.eq (.string RX9 (sIx 5)) (.string RX9 (sIx 10))) ∈ stL := List.mem_of_getElem? (i := 171) (by decide +kernel)
theorem sn_5_11 : Cond.not (Cond.eq (.string RX9 (sIx 5)) (.string RX9 (sIx 11))) ∈ stL := List.mem_of_getElem? (i := 190) (by decide +kernel)
theorem sn_5_12 : Cond.not (Cond.eq (.string RX9 (sIx 5)) (.string RX9 (sIx 12))) ∈ stL := List.mem_of_getElem? (i := 210) (by decide +kernel)
theorem sn_5_13 : Cond.not (Cond.eq (.string RX9 (sIx 5)) (.string RX9 (sIx 13))) ∈ stL := List.mem_of_getElem? (i := 249) (by decide +kernel)
theorem sn_5_14 : Cond.not (Cond.eq (.string RX9 (sIx 5)) (.string RX9 (sIx 14))) ∈ stL := List.mem_of_getElem? (i := 230) (by decide +kernel)
theorem sn_5_15 : Cond.not (Cond.eq (.string RX9 (sIx 5)) (.string RX9 (sIx 15))) ∈ stL := List.mem_of_getElem? (i := 271) (by decide +kernel)
theorem sn_5_16 : Cond.not (Cond.eq (.string RX9 (sIx 5)) (.string RX9 (sIx 16))) ∈ stL := List.mem_of_getElem? (i := 295) (by decide +kernel)
theorem sn_6_1 : Cond.not (Cond.eq (.string RX9 (sIx 6)) (.string RX9 (sIx 1))) ∈ stL := List.mem_of_getElem? (i := 83) (by decide +kernel)
theorem sn_6_2 : Cond.not (Cond.eq (.string RX9 (sIx 6)) (.string RX9 (sIx 2))) ∈ stL := List.mem_of_getElem? (i := 96) (by decide +kernel)
theorem sn_6_3 : Cond.not (Cond.eq (.string RX9 (sIx 6)) (.string RX9 (sIx 3))) ∈ stL := List.mem_of_getElem? (i := 110) (by decide +kernel)
theorem sn_6_4 : Cond.not (Cond.eq (.string RX9 (sIx 6)) (.string RX9 (sIx 4))) ∈ stL := List.mem_of_getElem? (i := 129) (by decide +kernel)
theorem sn_6_5 : Cond.not (Cond.eq (.string RX9 (sIx 6)) (.string RX9 (sIx 5))) ∈ stL := List.mem_of_getElem? (i := 145) (by decide +kernel)
theorem sn_6_7 : Cond.not (Cond.eq (.string RX9 (sIx 6)) (.string RX9 (sIx 7))) ∈ stL := List.mem_of_getElem? (i := 46) (by decide +kernel)
theorem sn_6_8 : Cond.not (Cond.eq (.string RX9 (sIx 6)) (.string RX9 (sIx 8))) ∈ stL := List.mem_of_getElem? (i := 57) (by decide +kernel)
theorem sn_6_9 : Cond.not (Cond.eq (.string RX9 (sIx 6)) (.string RX9 (sIx 9))) ∈ stL := List.mem_of_getElem? (i := 69) (by decide +kernel)
theorem sn_6_10 : Cond.not (Cond.eq (.string RX9 (sIx 6)) (.string RX9 (sIx 10))) ∈ stL := List.mem_of_getElem? (i := 163) (by decide +kernel)
theorem sn_6_11 : Cond.not (Cond.eq (.string RX9 (sIx 6)) (.string RX9 (sIx 11))) ∈ stL := List.mem_of_getElem? (i := 182) (by decide +kernel)
theorem sn_6_12 : Cond.not (Cond.eq (.string RX9 (sIx 6)) (.string RX9 (sIx 12))) ∈ stL := List.mem_of_getElem? (i := 202) (by decide +kernel)
theorem sn_6_13 : Cond.not (Cond.eq (.string RX9 (sIx 6)) (.string RX9 (sIx 13))) ∈ stL := List.mem_of_getElem? (i := 241) (by decide +kernel)
theorem sn_6_14 : Cond.not (Cond.eq (.string RX9 (sIx 6)) (.string RX9 (sIx 14))) ∈ stL := List.mem_of_getElem? (i := 222) (by decide +kernel)
theorem sn_6_15 : Cond.not (Cond.eq (.string RX9 (sIx 6)) (.string RX9 (sIx 15))) ∈ stL := List.mem_of_getElem? (i := 263) (by decide +kernel)
theorem sn_6_16 : Cond.not (Cond.eq (.string RX9 (sIx 6)) (.string RX9 (sIx 16))) ∈ stL := List.mem_of_getElem? (i := 287) (by decide +kernel)
theorem sn_7_1 : Cond.not (Cond.eq (.string RX9 (sIx 7)) (.string RX9 (sIx 1))) ∈ stL := List.mem_of_getElem? (i := 84) (by decide +kernel)
theorem sn_7_2 : Cond.not (Cond.eq (.string RX9 (sIx 7)) (.string RX9 (sIx 2))) ∈ stL := List.mem_of_getElem? (i := 97) (by decide +kernel)
theorem sn_7_3 : Cond.not (Cond.eq (.string RX9 (sIx 7)) (.string RX9 (sIx 3))) ∈ stL := List.mem_of_getElem? (i := 111) (by decide +kernel)
theorem sn_7_4 : Cond.not (Cond.eq (.string RX9 (sIx 7)) (.string RX9 (sIx 4))) ∈ stL := List.mem_of_getElem? (i := 130) (by decide +kernel)
theorem sn_7_5 : Cond.not (Cond.eq (.string RX9 (sIx 7)) (.string RX9 (sIx 5))) ∈ stL := List.mem_of_getElem? (i := 146) (by decide +kernel)
theorem sn_7_8 : Cond.not (Cond.eq (.string RX9 (sIx 7)) (.string RX9 (sIx 8))) ∈ stL := List.mem_of_getElem? (i := 58) (by decide +kernel)
theorem sn_7_9 : Cond.not (Cond.eq (.string RX9 (sIx 7)) (.string RX9 (sIx 9))) ∈ stL := List.mem_of_getElem? (i := 70) (by decide +kernel)
theorem sn_7_10 : Cond.not (Cond.eq (.string RX9 (sIx 7)) (.string RX9 (sIx 10))) ∈ stL := List.mem_of_getElem? (i := 164) (by decide +kernel)
theorem sn_7_11 : Cond.not (Cond.eq (.string RX9 (sIx 7)) (.string RX9 (sIx 11))) ∈ stL := List.mem_of_getElem? (i := 183) (by decide +kernel)
theorem sn_7_12 : Cond.not (Cond.eq (.string RX9 (sIx 7)) (.string RX9 (sIx 12))) ∈ stL := List.mem_of_getElem? (i := 203) (by decide +kernel)
theorem sn_7_13 : Cond.not (Cond.eq (.string RX9 (sIx 7)) (.string RX9 (sIx 13))) ∈ stL := List.mem_of_getElem? (i := 242) (by decide +kernel)
theorem sn_7_14 : Cond.not (Cond.eq (.string RX9 (sIx 7)) (.string RX9 (sIx 14))) ∈ stL := List.mem_of_getElem? (i := 223) (by decide +kernel)
theorem sn_7_15 : Cond.not (Cond.eq (.string RX9 (sIx 7)) (.string RX9 (sIx 15))) ∈ stL := List.mem_of_getElem? (i := 264) (by decide +kernel)
theorem sn_7_16 : Cond.not (Cond.eq (.string RX9 (sIx 7)) (.string RX9 (sIx 16))) ∈ stL := List.mem_of_getElem? (i := 288) (by decide +kernel)
theorem sn_8_1 : Cond.not (Cond.eq (.string RX9 (sIx 8)) (.string RX9 (sIx 1))) ∈ stL := List.mem_of_getElem? (i := 85) (by decide +kernel)
theorem sn_8_2 : Cond.not (Cond.eq (.string RX9 (sIx 8)) (.string RX9 (sIx 2))) ∈ stL := List.mem_of_getElem? (i := 98) (by decide +kernel)
theorem sn_8_3 : Cond.not (Cond.eq (.string RX9 (sIx 8)) (.string RX9 (sIx 3))) ∈ stL := List.mem_of_getElem? (i := 112) (by decide +kernel)
theorem sn_8_4 : Cond.not (Cond.eq (.string RX9 (sIx 8)) (.string RX9 (sIx 4))) ∈ stL := List.mem_of_getElem? (i := 131) (by decide +kernel)
theorem sn_8_5 : Cond.not (Cond.eq (.string RX9 (sIx 8)) (.string RX9 (sIx 5))) ∈ stL := List.mem_of_getElem? (i := 147) (by decide +kernel)
theorem sn_8_9 : Cond.not (Cond.eq (.string RX9 (sIx 8)) (.string RX9 (sIx 9))) ∈ stL := List.mem_of_getElem? (i := 71) (by decide +kernel)
theorem sn_8_10 : Cond.not (Cond.eq (.string RX9 (sIx 8)) (.string RX9 (sIx 10))) ∈ stL := List.mem_of_getElem? (i := 165) (by decide +kernel)
theorem sn_8_11 : Cond.not (Cond.eq (.string RX9 (sIx 8)) (.string RX9 (sIx 11))) ∈ stL := List.mem_of_getElem? (i := 184) (by decide +kernel)
theorem sn_8_12 : Cond.not (Cond.eq (.string RX9 (sIx 8)) (.string RX9 (sIx 12))) ∈ stL := List.mem_of_getElem? (i := 204) (by decide +kernel)
theorem sn_8_13 : Cond.not (Cond.eq (.string RX9 (sIx 8)) (.string RX9 (sIx 13))) ∈ stL := List.mem_of_getElem? (i := 243) (by decide +kernel)
theorem sn_8_14 : Cond.not (Cond.eq (.string RX9 (sIx 8)) (.string RX9 (sIx 14))) ∈ stL := List.mem_of_getElem? (i := 224) (by decide +kernel)
theorem sn_8_15 : Cond.not (Cond.eq (.string RX9 (sIx 8)) (.string RX9 (sIx 15))) ∈ stL := List.mem_of_getElem? (i := 265) (by decide +kernel)
theorem sn_8_16 : Cond.not (Cond.eq (.string RX9 (sIx 8)) (.string RX9 (sIx 16))) ∈ stL := List.mem_of_getElem? (i := 289) (by decide +kernel)
theorem sn_9_1 : Cond.not (Cond.eq (.string RX9 (sIx 9)) (.string RX9 (sIx 1))) ∈ stL := List.mem_of_getElem? (i := 86) (by decide +kernel)
theorem sn_9_2 : Cond.not (Cond.eq (.string RX9 (sIx 9)) (.string RX9 (sIx 2))) ∈ stL := List.mem_of_getElem? (i := 99) (by decide +kernel)
theorem sn_9_3 : Cond.not (Cond.eq (.string RX9 (sIx 9)) (.string RX9 (sIx 3))) ∈ stL := List.mem_of_getElem? (i := 113) (by decide +kernel)
theorem sn_9_4 : Cond.not (Cond.eq (.string RX9 (sIx 9)) (.string RX9 (sIx 4))) ∈ stL := List.mem_of_getElem? (i := 132) (by decide +kernel)
theorem sn_9_5 : Cond.not (Cond.eq (.string RX9 (sIx 9)) (.string RX9 (sIx 5))) ∈ stL := List.mem_of_getElem? (i := 148) (by decide +kernel)
theorem sn_9_10 : Cond.not (Cond.eq (.string RX9 (sIx 9)) (.string RX9 (sIx 10))) ∈ stL := List.mem_of_getElem? (i := 166) (by decide +kernel)
theorem sn_9_11 : Cond.not (Cond.eq (.string RX9 (sIx 9)) (.string RX9 (sIx 11))) ∈ stL := List.mem_of_getElem? (i := 185) (by decide +kernel)
theorem sn_9_12 : Cond.not (Cond.eq (.string RX9 (sIx 9)) (.string RX9 (sIx 12))) ∈ stL := List.mem_of_getElem? (i := 205) (by decide +kernel)
theorem sn_9_13 : Cond.not (Cond.eq (.string RX9 (sIx 9)) (.string RX9 (sIx 13))) ∈ stL := List.mem_of_getElem? (i := 244) (by decide +kernel)
theorem sn_9_14 : Cond.not (Cond.eq (.string RX9 (sIx 9)) (.string RX9 (sIx 14))) ∈ stL := List.mem_of_getElem? (i := 225) (by decide +kernel)
theorem sn_9_15 : Cond.not (Cond.eq (.string RX9 (sIx 9)) (.string RX9 (sIx 15))) ∈ stL := List.mem_of_getElem? (i := 266) (by decide +kernel)
theorem sn_9_16 : Cond.not (Cond.eq (.string RX9 (sIx 9)) (.string RX9 (sIx 16))) ∈ stL := List.mem_of_getElem? (i := 290) (by decide +kernel)
theorem sn_10_11 : Cond.not (Cond.eq (.string RX9 (sIx 10)) (.string RX9 (sIx 11))) ∈ stL := List.mem_of_getElem? (i := 191) (by decide +kernel)
theorem sn_10_12 : Cond.not (Cond.eq (.string RX9 (sIx 10)) (.string RX9 (sIx 12))) ∈ stL := List.mem_of_getElem? (i := 211) (by decide +kernel)
theorem sn_10_13 : Cond.not (Cond.eq (.string RX9 (sIx 10)) (.string RX9 (sIx 13))) ∈ stL := List.mem_of_getElem? (i := 250) (by decide +kernel)
theorem sn_10_14 : Cond.not (Cond.eq (.string RX9 (sIx 10)) (.string RX9 (sIx 14))) ∈ stL := List.mem_of_getElem? (i := 231) (by decide +kernel)
theorem sn_10_15 : Cond.not (Cond.eq (.string RX9 (sIx 10)) (.string RX9 (sIx 15))) ∈ stL := List.mem_of_getElem? (i := 272) (by decide +kernel)
theorem sn_10_16 : Cond.not (Cond.eq (.string RX9 (sIx 10)) (.string RX9 (sIx 16))) ∈ stL := List.mem_of_getElem? (i := 296) (by decide +kernel)
theorem sn_11_12 : Cond.not (Cond.eq (.string RX9 (sIx 11)) (.string RX9 (sIx 12))) ∈ stL := List.mem_of_getElem? (i := 212) (by decide +kernel)
theorem sn_11_13 : Cond.not (Cond.eq (.string RX9 (sIx 11)) (.string RX9 (sIx 13))) ∈ stL := List.mem_of_getElem? (i := 251) (by decide +kernel)
theorem sn_11_14 : Cond.not (Cond.eq (.string RX9 (sIx 11)) (.string RX9 (sIx 14))) ∈ stL := List.mem_of_getElem? (i := 232) (by decide +kernel)
theorem sn_11_15 : Cond.not (Cond.eq (.string RX9 (sIx 11)) (.string RX9 (sIx 15))) ∈ stL := List.mem_of_getElem? (i := 273) (by decide +kernel)
theorem sn_11_16 : Cond.not (Cond.eq (.string RX9 (sIx 11)) (.string RX9 (sIx 16))) ∈ stL := List.mem_of_getElem? (i := 297) (by decide +kernel)
theorem sn_12_13 : Cond.not (Cond.eq (.string RX9 (sIx 12)) (.string RX9 (sIx 13))) ∈ stL := List.mem_of_getElem? (i := 252) (by decide +kernel)
theorem sn_12_14 : Cond.not (Cond.eq (.string RX9 (sIx 12)) (.string RX9 (sIx 14))) ∈ stL := List.mem_of_getElem? (i := 233) (by decide +kernel)
theorem sn_12_15 : Cond.not (Cond.eq (.string RX9 (sIx 12)) (.string RX9 (sIx 15))) ∈ stL := List.mem_of_getElem? (i := 274) (by decide +kernel)
theorem sn_12_16 : Cond.not (Cond.eq (.string RX9 (sIx 12)) (.string RX9 (sIx 16))) ∈ stL := List.mem_of_getElem? (i := 298) (by decide +kernel)
theorem sn_13_15 : Cond.not (Cond.eq (.string RX9 (sIx 13)) (.string RX9 (sIx 15))) ∈ stL := List.mem_of_getElem? (i := 276) (by decide +kernel)
theorem sn_13_16 : Cond.not (Cond.eq (.string RX9 (sIx 13)) (.string RX9 (sIx 16))) ∈ stL := List.mem_of_getElem? (i := 300) (by decide +kernel)
theorem sn_14_13 : Cond.not (Cond.eq (.string RX9 (sIx 14)) (.string RX9 (sIx 13))) ∈ stL := List.mem_of_getElem? (i := 253) (by decide +kernel)
theorem sn_14_15 : Cond.not (Cond.eq (.string RX9 (sIx 14)) (.string RX9 (sIx 15))) ∈ stL := List.mem_of_getElem? (i := 275) (by decide +kernel)
theorem sn_14_16 : Cond.not (Cond.eq (.string RX9 (sIx 14)) (.string RX9 (sIx 16))) ∈ stL := List.mem_of_getElem? (i := 299) (by decide +kernel)
theorem sn_15_16 : Cond.not (Cond.eq (.string RX9 (sIx 15)) (.string RX9 (sIx 16))) ∈ stL := List.mem_of_getElem? (i := 301) (by decide +kernel)
theorem st_ne : ∀ i, i < 17 → ∀ j, j < 17 → i ≠ j → Cond.not (Cond.eq (.string RX9 (sIx i)) (.string RX9 (sIx j))) ∈ stL ∨ Cond.not (Cond.eq (.string RX9 (sIx j)) (.string RX9 (sIx i))) ∈ stL := fun i hi j hj hij => match i, hi, j, hj, hij with
  | 0, _, 0, _, h => absurd rfl h
  | 0, _, 1, _, _ => Or.inl sn_0_1
  | 0, _, 2, _, _ => Or.inl sn_0_2
  | 0, _, 3, _, _ => Or.inl sn_0_3
  | 0, _, 4, _, _ => Or.inl sn_0_4
  | 0, _, 5, _, _ => Or.inl sn_0_5
  | 0, _, 6, _, _ => Or.inl sn_0_6
  | 0, _, 7, _, _ => Or.inl sn_0_7
  | 0, _, 8, _, _ => Or.inl sn_0_8
  | 0, _, 9, _, _ => Or.inl sn_0_9
  | 0, _, 10, _, _ => Or.inl sn_0_10
  | 0, _, 11, _, _ => Or.inl sn_0_11
  | 0, _, 12, _, _ => Or.inl sn_0_12
  | 0, _, 13, _, _ => Or.inl sn_0_13
  | 0, _, 14, _, _ => Or.inl sn_0_14
  | 0, _, 15, _, _ => Or.inl sn_0_15
  | 0, _, 16, _, _ => Or.inl sn_0_16
  | 1, _, 0, _, _ => Or.inr sn_0_1
  | 1, _, 1, _, h => absurd rfl h
  | 1, _, 2, _, _ => Or.inl sn_1_2
  | 1, _, 3, _, _ => Or.inl sn_1_3
  | 1, _, 4, _, _ => Or.inl sn_1_4
  | 1, _, 5, _, _ => Or.inl sn_1_5
  | 1, _, 6, _, _ => Or.inr sn_6_1
  | 1, _, 7, _, _ => Or.inr sn_7_1
  | 1, _, 8, _, _ => Or.inr sn_8_1
  | 1, _, 9, _, _ => Or.inr sn_9_1
  | 1, _, 10, _, _ => Or.inl sn_1_10
  | 1, _, 11, _, _ => Or.inl sn_1_11
  | 1, _, 12, _, _ => Or.inl sn_1_12
  | 1, _, 13, _, _ => Or.inl sn_1_13
  | 1, _, 14, _, _ => Or.inl sn_1_14
  | 1, _, 15, _, _ => Or.inl sn_1_15
  | 1, _, 16, _, _ => Or.inl sn_1_16
  | 2, _, 0, _, _ => Or.inr sn_0_2
  | 2, _, 1, _, _ => Or.inr sn_1_2
  | 2, _, 2, _, h => absurd rfl h
  | 2, _, 3, _, _ => Or.inl sn_2_3
  | 2, _, 4, _, _ => Or.inl sn_2_4
  | 2, _, 5, _, _ => Or.inl sn_2_5
  | 2, _, 6, _, _ => Or.inr sn_6_2
  | 2, _, 7, _, _ => Or.inr sn_7_2
  | 2, _, 8, _, _ => Or.inr sn_8_2
  | 2, _, 9, _, _ => Or.inr sn_9_2
  | 2, _, 10, _, _ => Or.inl sn_2_10
  | 2, _, 11, _, _ => Or.inl sn_2_11
  | 2, _, 12, _, _ => Or.inl sn_2_12
  | 2, _, 13, _, _ => Or.inl sn_2_13
  | 2, _, 14, _, _ => Or.inl sn_2_14
  | 2, _, 15, _, _ => Or.inl sn_2_15
  | 2, _, 16, _, _ => Or.inl sn_2_16
  | 3, _, 0, _, _ => Or.inr sn_0_3
  | 3, _, 1, _, _ => Or.inr sn_1_3
  | 3, _, 2, _, _ => Or.inr sn_2_3
  | 3, _, 3, _, h => absurd rfl h
  | 3, _, 4, _, _ => Or.inl sn_3_4
  | 3, _, 5, _, _ => Or.inl sn_3_5
  | 3, _, 6, _, _ => Or.inr sn_6_3
  | 3, _, 7, _, _ => Or.inr sn_7_3
  | 3, _, 8, _, _ => Or.inr sn_8_3
  | 3, _, 9, _, _ => Or.inr sn_9_3
  | 3, _, 10, _, _ => Or.inl sn_3_10
  | 3, _, 11, _, _ => Or.inl sn_3_11
  | 3, _, 12, _, _ => Or.inl sn_3_12
  | 3, _, 13, _, _ => Or.inl sn_3_13
  | 3, _, 14, _, _ => Or.inl sn_3_14
  | 3, _, 15, _, _ => Or.inl sn_3_15
  | 3, _, 16, _, _ => Or.inl sn_3_16
  | 4, _, 0, _, _ => Or.inr sn_0_4
  | 4, _, 1, _, _ => Or.inr sn_1_4
  | 4, _, 2, _, _ => Or.inr sn_2_4
  | 4, _, 3, _, _ => Or.inr sn_3_4
  | 4, _, 4, _, h => absurd rfl h
  | 4, _, 5, _, _ => Or.inl sn_4_5
  | 4, _, 6, _, _ => Or.inr sn_6_4
  | 4, _, 7, _, _ => Or.inr sn_7_4
  | 4, _, 8, _, _ => Or.inr sn_8_4
  | 4, _, 9, _, _ => Or.inr sn_9_4
  | 4, _, 10, _, _ => Or.inl sn_4_10
  | 4, _, 11, _, _ => Or.inl sn_4_11
  | 4, _, 12, _, _ => Or.inl sn_4_12
  | 4, _, 13, _, _ => Or.inl sn_4_13
  | 4, _, 14, _, _ => Or.inl sn_4_14
  | 4, _, 15, _, _ => Or.inl sn_4_15
  | 4, _, 16, _, _ => Or.inl sn_4_16
  | 5, _, 0, _, _ => Or.inr sn_0_5
  | 5, _, 1, _, _ => Or.inr sn_1_5
  | 5, _, 2, _, _ => Or.inr sn_2_5
  | 5, _, 3, _, _ => Or.inr sn_3_5
  | 5, _, 4, _, _ => Or.inr sn_4_5
  | 5, _, 5, _, h => absurd rfl h
  | 5, _, 6, _, _ => Or.inr sn_6_5
  | 5, _, 7, _, _ => Or.inr sn_7_5
  | 5, _, 8, _, _ => Or.inr sn_8_5
  | 5, _, 9, _, _ => Or.inr sn_9_5
  | 5, _, 10, _, _ => Or.inl sn_5_10
  | 5, _, 11, _, _ => Or.inl sn_5_11
  | 5, _, 12, _, _ => Or.inl sn_5_12
  | 5, _, 13, _, _ => Or.inl sn_5_13
  | 5, _, 14, _, _ => Or.inl sn_5_14
  | 5, _, 15, _, _ => Or.inl sn_5_15
  | 5, _, 16, _, _ => Or.inl sn_5_16
  | 6, _, 0, _, _ => Or.inr sn_0_6
  | 6, _, 1, _, _ => Or.inl sn_6_1
  | 6, _, 2, _, _ => Or.inl sn_6_2
  | 6, _, 3, _, _ => Or.inl sn_6_3
  | 6, _, 4, _, _ => Or.inl sn_6_4
  | 6, _, 5, _, _ => Or.inl sn_6_5
  | 6, _, 6, _, h => absurd rfl h
  | 6, _, 7, _, _ => Or.inl sn_6_7
  | 6, _, 8, _, _ => Or.inl sn_6_8
  | 6, _, 9, _, _ => Or.inl sn_6_9
  | 6, _, 10, _, _ => Or.inl sn_6_10
  | 6, _, 11, _, _ => Or.inl sn_6_11
  | 6, _, 12, _, _ => Or.inl sn_6_12
  | 6, _, 13, _, _ => Or.inl sn_6_13
  | 6, _, 14, _, _ => Or.inl sn_6_14
  | 6, _, 15, _, _ => Or.inl sn_6_15
  | 6, _, 16, _, _ => Or.inl sn_6_16
  | 7, _, 0, _, _ => Or.inr sn_0_7
  | 7, _, 1, _, _ => Or.inl sn_7_1
  | 7, _, 2, _, _ => Or.inl sn_7_2
  | 7, _, 3, _, _ => Or.inl sn_7_3
  | 7, _, 4, _, _ => Or.inl sn_7_4
  | 7, _, 5, _, _ => Or.inl sn_7_5
  | 7, _, 6, _, _ => Or.inr sn_6_7
  | 7, _, 7, _, h => absurd rfl h
  | 7, _, 8, _, _ => Or.inl sn_7_8
  | 7, _, 9, _, _ => Or.inl sn_7_9
  | 7, _, 10, _, _ => Or.inl sn_7_10
  | 7, _, 11, _, _ => Or.inl sn_7_11
  | 7, _, 12, _, _ => Or.inl sn_7_12
  | 7, _, 13, _, _ => Or.inl sn_7_13
  | 7, _, 14, _, _ => Or.inl sn_7_14
  | 7, _, 15, _, _ => Or.inl sn_7_15
  | 7, _, 16, _, _ => Or.inl sn_7_16
  | 8, _, 0, _, _ => Or.inr sn_0_8
  | 8, _, 1, _, _ => Or.inl sn_8_1
  | 8, _, 2, _, _ => Or.inl sn_8_2
  | 8, _, 3, _, _ => Or.inl sn_8_3
  | 8, _, 4, _, _ => Or.inl sn_8_4
  | 8, _, 5, _, _ => Or.inl sn_8_5
  | 8, _, 6, _, _ => Or.inr sn_6_8
  | 8, _, 7, _, _ => Or.inr sn_7_8
  | 8, _, 8, _, h => absurd rfl h
  | 8, _, 9, _, _ => Or.inl sn_8_9
  | 8, _, 10, _, _ => Or.inl sn_8_10
  | 8, _, 11, _, _ => Or.inl sn_8_11
  | 8, _, 12, _, _ => Or.inl sn_8_12
  | 8, _, 13, _, _ => Or.inl sn_8_13
  | 8, _, 14, _, _ => Or.inl sn_8_14
  | 8, _, 15, _, _ => Or.inl sn_8_15
  | 8, _, 16, _, _ => Or.inl sn_8_16
  | 9, _, 0, _, _ => Or.inr sn_0_9
  | 9, _, 1, _, _ => Or.inl sn_9_1
  | 9, _, 2, _, _ => Or.inl sn_9_2
  | 9, _, 3, _, _ => Or.inl sn_9_3
  | 9, _, 4, _, _ => Or.inl sn_9_4
  | 9, _, 5, _, _ => Or.inl sn_9_5
  | 9, _, 6, _, _ => Or.inr sn_6_9
  | 9, _, 7, _, _ => Or.inr sn_7_9
  | 9, _, 8, _, _ => Or.inr sn_8_9
  | 9, _, 9, _, h => absurd rfl h
  | 9, _, 10, _, _ => Or.inl sn_9_10
  | 9, _, 11, _, _ => Or.inl sn_9_11
  | 9, _, 12, _, _ => Or.inl sn_9_12
  | 9, _, 13, _, _ => Or.inl sn_9_13
  | 9, _, 14, _, _ => Or.inl sn_9_14
  | 9, _, 15, _, _ => Or.inl sn_9_15
  | 9, _, 16, _, _ => Or.inl sn_9_16
  | 10, _, 0, _, _ => Or.inr sn_0_10
  | 10, _, 1, _, _ => Or.inr sn_1_10
  | 10, _, 2, _, _ => Or.inr sn_2_10
  | 10, _, 3, _, _ => Or.inr sn_3_10
  | 10, _, 4, _, _ => Or.inr sn_4_10
  | 10, _, 5, _, _ => Or.inr sn_5_10
  | 10, _, 6, _, _ => Or.inr sn_6_10
  | 10, _, 7, _, _ => Or.inr sn_7_10
  | 10, _, 8, _, _ => Or.inr sn_8_10
  | 10, _, 9, _, _ => Or.inr sn_9_10
  | 10, _, 10, _, h => absurd rfl h
  | 10, _, 11, _, _ => Or.inl sn_10_11
  | 10, _, 12, _, _ => Or.inl sn_10_12
  | 10, _, 13, _, _ => Or.inl sn_10_13
  | 10, _, 14, _, _ => Or.inl sn_10_14
  | 10, _, 15, _, _ => Or.inl sn_10_15
  | 10, _, 16, _, _ => Or.inl sn_10_16
  | 11, _, 0, _, _ => Or.inr sn_0_11
  | 11, _, 1, _, _ => Or.inr sn_1_11
  | 11, _, 2, _, _ => Or.inr sn_2_11
  | 11, _, 3, _, _ => Or.inr sn_3_11
  | 11, _, 4, _, _ => Or.inr sn_4_11
  | 11, _, 5, _, _ => Or.inr sn_5_11
  | 11, _, 6, _, _ => Or.inr sn_6_11
  | 11, _, 7, _, _ => Or.inr sn_7_11
  | 11, _, 8, _, _ => Or.inr sn_8_11
  | 11, _, 9, _, _ => Or.inr sn_9_11
  | 11, _, 10, _, _ => Or.inr sn_10_11
  | 11, _, 11, _, h => absurd rfl h
  | 11, _, 12, _, _ => Or.inl sn_11_12
  | 11, _, 13, _, _ => Or.inl sn_11_13
  | 11, _, 14, _, _ => Or.inl sn_11_14
  | 11, _, 15, _, _ => Or.inl sn_11_15
  | 11, _, 16, _, _ => Or.inl sn_11_16
  | 12, _, 0, _, _ => Or.inr sn_0_12
  | 12, _, 1, _, _ => Or.inr sn_1_12
  | 12, _, 2, _, _ => Or.inr sn_2_12
  | 12, _, 3, _, _ => Or.inr sn_3_12
  | 12, _, 4, _, _ => Or.inr sn_4_12
  | 12, _, 5, _, _ => Or.inr sn_5_12
  | 12, _, 6, _, _ => Or.inr sn_6_12
  | 12, _, 7, _, _ => Or.inr sn_7_12
  | 12, _, 8, _, _ => Or.inr sn_8_12
  | 12, _, 9, _, _ => Or.inr sn_9_12
  | 12, _, 10, _, _ => Or.inr sn_10_12
  | 12, _, 11, _, _ => Or.inr sn_11_12
  | 12, _, 12, _, h => absurd rfl h
  | 12, _, 13, _, _ => Or.inl sn_12_13
  | 12, _, 14, _, _ => Or.inl sn_12_14
  | 12, _, 15, _, _ => Or.inl sn_12_15
  | 12, _, 16, _, _ => Or.inl sn_12_16
  | 13, _, 0, _, _ => Or.inr sn_0_13
  | 13, _, 1, _, _ => Or.inr sn_1_13
  | 13, _, 2, _, _ => Or.inr sn_2_13
  | 13, _, 3, _, _ => Or.inr sn_3_13
  | 13, _, 4, _, _ => Or.inr sn_4_13
  | 13, _, 5, _, _ => Or.inr sn_5_13
  | 13, _, 6, _, _ => Or.inr sn_6_13
  | 13, _, 7, _, _ => Or.inr sn_7_13
  | 13, _, 8, _, _ => Or.inr sn_8_13
  | 13, _, 9, _, _ => Or.inr sn_9_13
  | 13, _, 10, _, _ => Or.inr sn_10_13
  | 13, _, 11, _, _ => Or.inr sn_11_13
  | 13, _, 12, _, _ => Or.inr sn_12_13
  | 13, _, 13, _, h => absurd rfl h
  | 13, _, 14, _, _ => Or.inr sn_14_13
  | 13, _, 15, _, _ => Or.inl sn_13_15
  | 13, _, 16, _, _ => Or.inl sn_13_16
  | 14, _, 0, _, _ => Or.inr sn_0_14
  | 14, _, 1, _, _ => Or.inr sn_1_14
  | 14, _, 2, _, _ => Or.inr sn_2_14
  | 14, _, 3, _, _ => Or.inr sn_3_14
  | 14, _, 4, _, _ => Or.inr sn_4_14
  | 14, _, 5, _, _ => Or.inr sn_5_14
  | 14, _, 6, _, _ => Or.inr sn_6_14
  | 14, _, 7, _, _ => Or.inr sn_7_14
  | 14, _, 8, _, _ => Or.inr sn_8_14
  | 14, _, 9, _, _ => Or.inr sn_9_14
  | 14, _, 10, _, _ => Or.inr sn_10_14
  | 14, _, 11, _, _ => Or.inr sn_11_14
  | 14, _, 12, _, _ => Or.inr sn_12_14
  | 14, _, 13, _, _ => Or.inl sn_14_13
  | 14, _, 14, _, h => absurd rfl h
  | 14, _, 15, _, _ => Or.inl sn_14_15
  | 14, _, 16, _, _ => Or.inl sn_14_16
  | 15, _, 0, _, _ => Or.inr sn_0_15
  | 15, _, 1, _, _ => Or.inr sn_1_15
  | 15, _, 2, _, _ => Or.inr sn_2_15
  | 15, _, 3, _, _ => Or.inr sn_3_15
  | 15, _, 4, _, _ => Or.inr sn_4_15
  | 15, _, 5, _, _ => Or.inr sn_5_15
  | 15, _, 6, _, _ => Or.inr sn_6_15
  | 15, _, 7, _, _ => Or.inr sn_7_15
  | 15, _, 8, _, _ => Or.inr sn_8_15
  | 15, _, 9, _, _ => Or.inr sn_9_15
  | 15, _, 10, _, _ => Or.inr sn_10_15
  | 15, _, 11, _, _ => Or.inr sn_11_15
  | 15, _, 12, _, _ => Or.inr sn_12_15
  | 15, _, 13, _, _ => Or.inr sn_13_15
  | 15, _, 14, _, _ => Or.inr sn_14_15
  | 15, _, 15, _, h => absurd rfl h
  | 15, _, 16, _, _ => Or.inl sn_15_16
  | 16, _, 0, _, _ => Or.inr sn_0_16
  | 16, _, 1, _, _ => Or.inr sn_1_16
  | 16, _, 2, _, _ => Or.inr sn_2_16
  | 16, _, 3, _, _ => Or.inr sn_3_16
  | 16, _, 4, _, _ => Or.inr sn_4_16
  | 16, _, 5, _, _ => Or.inr sn_5_16
  | 16, _, 6, _, _ => Or.inr sn_6_16
  | 16, _, 7, _, _ => Or.inr sn_7_16
  | 16, _, 8, _, _ => Or.inr sn_8_16
  | 16, _, 9, _, _ => Or.inr sn_9_16
  | 16, _, 10, _, _ => Or.inr sn_10_16
  | 16, _, 11, _, _ => Or.inr sn_11_16
  | 16, _, 12, _, _ => Or.inr sn_12_16
  | 16, _, 13, _, _ => Or.inr sn_13_16
  | 16, _, 14, _, _ => Or.inr sn_14_16
  | 16, _, 15, _, _ => Or.inr sn_15_16
  | 16, _, 16, _, h => absurd rfl h
  | i + 17, hi, _, _, _ => absurd hi (by omega)
  | _, _, j + 17, hj, _ => absurd hj (by omega)
theorem st_sr : ∀ i, i < 17 → Cond.stringRef RX9 (sIx i) (sTx i) ∈ lw_tbl := by decide +kernel
theorem st_K {s : State} {b : Nat} (hts : ∀ w ∈ lw_tbl, w.before #[Value.ref b] s = true) : ∃ (D : va_G) (cT : Nat → ClassId), va_K D vwCl (tysJ cT) s := by
  have hjt : ∀ w ∈ JT, w.before #[Value.ref b] s = true := fun w hw => hts w (JT_sub hw)
  obtain ⟨c0, i0, h0⟩ := u_known hjt ux_X0 (hjt _ wd_142)
  obtain ⟨c1, i1, h1⟩ := u_known hjt ux_X2 (hjt _ wd_317)
  obtain ⟨c2, i2, h2⟩ := u_known hjt ux_X3 (hjt _ wd_297)
  obtain ⟨c3, i3, h3⟩ := u_known hjt ux_X4 (hjt _ wd_336)
  obtain ⟨c4, i4, h4⟩ := u_known hjt ux_X5 (hjt _ wd_136)
  obtain ⟨c5, i5, h5⟩ := u_known hjt ux_X6 (hjt _ wd_248)
  obtain ⟨c6, i6, h6⟩ := u_known hjt ux_X7 (hjt _ wd_222)
  obtain ⟨c7, i7, h7⟩ := u_known hjt ux_X8 (hjt _ wd_128)
  obtain ⟨c8, i8, h8⟩ := u_known hjt ux_X9 (hjt _ wd_1219)
  obtain ⟨t0, k0, m0, ha0, hb0, hc0⟩ := Cond.arrayClass_spec (hjt _ wd_220)
  obtain ⟨t1, k1, m1, ha1, hb1, hc1⟩ := Cond.arrayClass_spec (hjt _ wd_218)
  obtain ⟨t2, k2, m2, ha2, hb2, hc2⟩ := Cond.arrayClass_spec (hjt _ wd_1327)
  obtain ⟨t3, k3, m3, ha3, hb3, hc3⟩ := Cond.arrayClass_spec (hjt _ wd_219)
  obtain ⟨m4, t4, k4, hd4, -, hb4, hc4, ha4⟩ := Cond.arrayOver_spec (hts (Cond.arrayOver (.object "PaintedOver$Works")) (List.mem_of_getElem? (i := 303) (by decide +kernel)))
  refine ⟨(fun q => ([c0, c1, c2, c3, c4, c5, c6, c7, c8] : List ClassId).getD q c0, fun q => ([i0, i1, i2, i3, i4, i5, i6, i7, i8] : List (Nat → Nat)).getD q i0), fun q => ([t0, t1, t2, t3, t4] : List ClassId).getD q t0, fun q r hq => ?_, fun q r hq => ?_⟩
  · have hl : q < 9 := (List.getElem?_eq_some_iff.mp hq).1
    match q, hl with
    | 0, _ => cases hq; exact h0
    | 1, _ => cases hq; exact h1
    | 2, _ => cases hq; exact h2
    | 3, _ => cases hq; exact h3
    | 4, _ => cases hq; exact h4
    | 5, _ => cases hq; exact h5
    | 6, _ => cases hq; exact h6
    | 7, _ => cases hq; exact h7
    | 8, _ => cases hq; exact h8
    | q + 9, hl => exact absurd hl (by omega)
  · have hl : q < 5 := (List.getElem?_eq_some_iff.mp hq).1
    match q, hl with
    | 0, _ => cases hq; exact ⟨fun n z => ⟨fun k h => (by cases h), k0, hb0, m0, hc0⟩, ha0⟩
    | 1, _ => cases hq; exact ⟨fun n z => ⟨fun k h => (by cases h), k1, hb1, m1, hc1⟩, ha1⟩
    | 2, _ => cases hq; exact ⟨fun n z => ⟨fun k h => (by cases h), k2, hb2, m2, hc2⟩, ha2⟩
    | 3, _ => cases hq; exact ⟨fun n z => ⟨fun k h => (by cases h), k3, hb3, m3, hc3⟩, ha3⟩
    | 4, _ => cases hq; exact ⟨fun n z => ⟨fun k h => (by cases h), k4, hb4, m4, hc4⟩, k4, m4, hb4, hc4, hd4, ha4⟩
    | q + 5, hl => exact absurd hl (by omega)
theorem st_S {s : State} {b : Nat} (hgv : (Jvm.Cond.and given_1 narrow_1).before #[Value.ref b] s = true) (hts : ∀ w ∈ lw_tbl, w.before #[Value.ref b] s = true) : ∃ aK aV : Nat → Nat, (∀ i : Nat, i < 17 → vk_R RX9 (sIx i) (sTx i) (aK i) s) ∧ vk_S 17 sLen sByt aK aV (fun q => s.heap.size ≤ q) s s.heap := by
  have hf := flat_of_before _ hgv
  have hA : ∀ a : Nat, a < s.heap.size → ¬ s.heap.size ≤ a := fun a h => Nat.not_le.mpr h
  obtain ⟨aK, aV, h1, h2⟩ := vk_Sof (args := #[Value.ref b]) (s := s) (N := 17) (tm := fun i => .string RX9 (sIx i)) (len := sLen) (byt := sByt) (A := fun q => s.heap.size ≤ q) (by decide +kernel)
    (fun i hi => hf _ (st_ex i hi)) (fun i hi => hf _ (st_co i hi)) (fun i hi => hf _ (st_ar i hi)) (fun i hi => hf _ (st_le i hi)) (fun i hi j hj => hf _ (st_el i hi j hj)) (fun i j hi hj hij => (st_ne i hi j hj hij).imp (hf _) (hf _)) hA
  exact ⟨aK, aV, fun i hi => vk_R.of (hts _ (st_sr i hi)) (h2 i hi), h1⟩
