theorem dX0_init_0 : decode cX0_init 0 = .ok (.aload_n 0, 1) := by decide +kernel
theorem dX0_init_1 : decode cX0_init 1 = .ok (.invokespecial 3, 3) := by decide +kernel
theorem dX0_init_4 : decode cX0_init 4 = .ok (.aload_n 0, 1) := by decide +kernel
theorem dX0_init_5 : decode cX0_init 5 = .ok (.iconst 5, 1) := by decide +kernel
theorem dX0_init_6 : decode cX0_init 6 = .ok (.newarray .long, 2) := by decide +kernel
theorem dX0_init_8 : decode cX0_init 8 = .ok (.putfield 9, 3) := by decide +kernel
theorem dX0_init_11 : decode cX0_init 11 = .ok (.aload_n 0, 1) := by decide +kernel
theorem dX0_init_12 : decode cX0_init 12 = .ok (.iconst 5, 1) := by decide +kernel
theorem dX0_init_13 : decode cX0_init 13 = .ok (.newarray .int, 2) := by decide +kernel
theorem dX0_init_15 : decode cX0_init 15 = .ok (.putfield 15, 3) := by decide +kernel
theorem dX0_init_18 : decode cX0_init 18 = .ok (.aload_n 0, 1) := by decide +kernel
theorem dX0_init_19 : decode cX0_init 19 = .ok (.iconst 5, 1) := by decide +kernel
theorem dX0_init_20 : decode cX0_init 20 = .ok (.newarray .int, 2) := by decide +kernel
theorem dX0_init_22 : decode cX0_init 22 = .ok (.putfield 19, 3) := by decide +kernel
theorem dX0_init_25 : decode cX0_init 25 = .ok (.aload_n 0, 1) := by decide +kernel
theorem dX0_init_26 : decode cX0_init 26 = .ok (.iconst 5, 1) := by decide +kernel
theorem dX0_init_27 : decode cX0_init 27 = .ok (.newarray .int, 2) := by decide +kernel
theorem dX0_init_29 : decode cX0_init 29 = .ok (.putfield 22, 3) := by decide +kernel
theorem dX0_init_32 : decode cX0_init 32 = .ok (.aload_n 0, 1) := by decide +kernel
theorem dX0_init_33 : decode cX0_init 33 = .ok (.iconst 5, 1) := by decide +kernel
theorem dX0_init_34 : decode cX0_init 34 = .ok (.newarray .long, 2) := by decide +kernel
theorem dX0_init_36 : decode cX0_init 36 = .ok (.putfield 25, 3) := by decide +kernel
theorem dX0_init_39 : decode cX0_init 39 = .ok (.aload_n 0, 1) := by decide +kernel
theorem dX0_init_40 : decode cX0_init 40 = .ok (.iconst 4, 1) := by decide +kernel
theorem dX0_init_41 : decode cX0_init 41 = .ok (.newarray .int, 2) := by decide +kernel
theorem dX0_init_43 : decode cX0_init 43 = .ok (.putfield 28, 3) := by decide +kernel
theorem dX0_init_46 : decode cX0_init 46 = .ok (.aload_n 0, 1) := by decide +kernel
theorem dX0_init_47 : decode cX0_init 47 = .ok (.iconst 4, 1) := by decide +kernel
theorem dX0_init_48 : decode cX0_init 48 = .ok (.newarray .int, 2) := by decide +kernel
theorem dX0_init_50 : decode cX0_init 50 = .ok (.putfield 31, 3) := by decide +kernel
theorem dX0_init_53 : decode cX0_init 53 = .ok (.aload_n 0, 1) := by decide +kernel
theorem dX0_init_54 : decode cX0_init 54 = .ok (.iconst 4, 1) := by decide +kernel
theorem dX0_init_55 : decode cX0_init 55 = .ok (.newarray .int, 2) := by decide +kernel
theorem dX0_init_57 : decode cX0_init 57 = .ok (.putfield 34, 3) := by decide +kernel
theorem dX0_init_60 : decode cX0_init 60 = .ok (.aload_n 0, 1) := by decide +kernel
theorem dX0_init_61 : decode cX0_init 61 = .ok (.bipush 24, 2) := by decide +kernel
theorem dX0_init_63 : decode cX0_init 63 = .ok (.newarray .int, 2) := by decide +kernel
theorem dX0_init_65 : decode cX0_init 65 = .ok (.putfield 37, 3) := by decide +kernel
theorem dX0_init_68 : decode cX0_init 68 = .ok (.return_, 1) := by decide +kernel
theorem dX0_clear_0 : decode cX0_clear 0 = .ok (.aload_n 0, 1) := by decide +kernel
theorem dX0_clear_1 : decode cX0_clear 1 = .ok (.iconst 0, 1) := by decide +kernel
theorem dX0_clear_2 : decode cX0_clear 2 = .ok (.putfield 40, 3) := by decide +kernel
theorem dX0_clear_5 : decode cX0_clear 5 = .ok (.aload_n 0, 1) := by decide +kernel
theorem dX0_clear_6 : decode cX0_clear 6 = .ok (.iconst 0, 1) := by decide +kernel
theorem dX0_clear_7 : decode cX0_clear 7 = .ok (.putfield 44, 3) := by decide +kernel
theorem dX0_clear_10 : decode cX0_clear 10 = .ok (.aload_n 0, 1) := by decide +kernel
theorem dX0_clear_11 : decode cX0_clear 11 = .ok (.iconst 0, 1) := by decide +kernel
theorem dX0_clear_12 : decode cX0_clear 12 = .ok (.putfield 47, 3) := by decide +kernel
theorem dX0_clear_15 : decode cX0_clear 15 = .ok (.aload_n 0, 1) := by decide +kernel
theorem dX0_clear_16 : decode cX0_clear 16 = .ok (.iconst 0, 1) := by decide +kernel
theorem dX0_clear_17 : decode cX0_clear 17 = .ok (.putfield 50, 3) := by decide +kernel
theorem dX0_clear_20 : decode cX0_clear 20 = .ok (.aload_n 0, 1) := by decide +kernel
theorem dX0_clear_21 : decode cX0_clear 21 = .ok (.iconst 0, 1) := by decide +kernel
theorem dX0_clear_22 : decode cX0_clear 22 = .ok (.putfield 53, 3) := by decide +kernel
theorem dX0_clear_25 : decode cX0_clear 25 = .ok (.aload_n 0, 1) := by decide +kernel
theorem dX0_clear_26 : decode cX0_clear 26 = .ok (.iconst 0, 1) := by decide +kernel
theorem dX0_clear_27 : decode cX0_clear 27 = .ok (.putfield 56, 3) := by decide +kernel
theorem dX0_clear_30 : decode cX0_clear 30 = .ok (.aload_n 0, 1) := by decide +kernel
theorem dX0_clear_31 : decode cX0_clear 31 = .ok (.iconst 0, 1) := by decide +kernel
theorem dX0_clear_32 : decode cX0_clear 32 = .ok (.putfield 59, 3) := by decide +kernel
theorem dX0_clear_35 : decode cX0_clear 35 = .ok (.aload_n 0, 1) := by decide +kernel
theorem dX0_clear_36 : decode cX0_clear 36 = .ok (.iconst 0, 1) := by decide +kernel
theorem dX0_clear_37 : decode cX0_clear 37 = .ok (.putfield 62, 3) := by decide +kernel
theorem dX0_clear_40 : decode cX0_clear 40 = .ok (.aload_n 0, 1) := by decide +kernel
theorem dX0_clear_41 : decode cX0_clear 41 = .ok (.getfield 37, 3) := by decide +kernel
theorem dX0_clear_44 : decode cX0_clear 44 = .ok (.bipush (-2), 2) := by decide +kernel
theorem dX0_clear_46 : decode cX0_clear 46 = .ok (.invokestatic 66, 3) := by decide +kernel
theorem dX0_clear_49 : decode cX0_clear 49 = .ok (.return_, 1) := by decide +kernel
theorem dX0_isTold_0 : decode cX0_isTold 0 = .ok (.aload_n 0, 1) := by decide +kernel
theorem dX0_isTold_1 : decode cX0_isTold 1 = .ok (.getfield 40, 3) := by decide +kernel
theorem dX0_isTold_4 : decode cX0_isTold 4 = .ok (.ifCond .le 7, 3) := by decide +kernel
theorem dX0_isTold_7 : decode cX0_isTold 7 = .ok (.iconst 1, 1) := by decide +kernel
theorem dX0_isTold_8 : decode cX0_isTold 8 = .ok (.goto 4, 3) := by decide +kernel
theorem dX0_isTold_11 : decode cX0_isTold 11 = .ok (.iconst 0, 1) := by decide +kernel
theorem dX0_isTold_12 : decode cX0_isTold 12 = .ok (.ireturn, 1) := by decide +kernel
theorem dX0_cells_0 : decode cX0_cells 0 = .ok (.aload_n 0, 1) := by decide +kernel
theorem dX0_cells_1 : decode cX0_cells 1 = .ok (.getfield 40, 3) := by decide +kernel
theorem dX0_cells_4 : decode cX0_cells 4 = .ok (.aload_n 0, 1) := by decide +kernel
theorem dX0_cells_5 : decode cX0_cells 5 = .ok (.getfield 44, 3) := by decide +kernel
theorem dX0_cells_8 : decode cX0_cells 8 = .ok (.imul, 1) := by decide +kernel
theorem dX0_cells_9 : decode cX0_cells 9 = .ok (.ireturn, 1) := by decide +kernel
theorem dX0_allCells_0 : decode cX0_allCells 0 = .ok (.iconst 1, 1) := by decide +kernel
theorem dX0_allCells_1 : decode cX0_allCells 1 = .ok (.aload_n 0, 1) := by decide +kernel
theorem dX0_allCells_2 : decode cX0_allCells 2 = .ok (.invokevirtual 72, 3) := by decide +kernel
theorem dX0_allCells_5 : decode cX0_allCells 5 = .ok (.ishl, 1) := by decide +kernel
theorem dX0_allCells_6 : decode cX0_allCells 6 = .ok (.iconst 1, 1) := by decide +kernel
theorem dX0_allCells_7 : decode cX0_allCells 7 = .ok (.isub, 1) := by decide +kernel
theorem dX0_allCells_8 : decode cX0_allCells 8 = .ok (.ireturn, 1) := by decide +kernel
theorem dX0_hasCell_0 : decode cX0_hasCell 0 = .ok (.iload_n 1, 1) := by decide +kernel
theorem dX0_hasCell_1 : decode cX0_hasCell 1 = .ok (.ifCond .lt 27, 3) := by decide +kernel
theorem dX0_hasCell_4 : decode cX0_hasCell 4 = .ok (.iload_n 1, 1) := by decide +kernel
theorem dX0_hasCell_5 : decode cX0_hasCell 5 = .ok (.aload_n 0, 1) := by decide +kernel
theorem dX0_hasCell_6 : decode cX0_hasCell 6 = .ok (.getfield 40, 3) := by decide +kernel
theorem dX0_hasCell_9 : decode cX0_hasCell 9 = .ok (.if_icmp .ge 19, 3) := by decide +kernel
theorem dX0_hasCell_12 : decode cX0_hasCell 12 = .ok (.iload_n 2, 1) := by decide +kernel
theorem dX0_hasCell_13 : decode cX0_hasCell 13 = .ok (.ifCond .lt 15, 3) := by decide +kernel
theorem dX0_hasCell_16 : decode cX0_hasCell 16 = .ok (.iload_n 2, 1) := by decide +kernel
theorem dX0_hasCell_17 : decode cX0_hasCell 17 = .ok (.aload_n 0, 1) := by decide +kernel
theorem dX0_hasCell_18 : decode cX0_hasCell 18 = .ok (.getfield 44, 3) := by decide +kernel
theorem dX0_hasCell_21 : decode cX0_hasCell 21 = .ok (.if_icmp .ge 7, 3) := by decide +kernel
theorem dX0_hasCell_24 : decode cX0_hasCell 24 = .ok (.iconst 1, 1) := by decide +kernel
theorem dX0_hasCell_25 : decode cX0_hasCell 25 = .ok (.goto 4, 3) := by decide +kernel
theorem dX0_hasCell_28 : decode cX0_hasCell 28 = .ok (.iconst 0, 1) := by decide +kernel
theorem dX0_hasCell_29 : decode cX0_hasCell 29 = .ok (.ireturn, 1) := by decide +kernel
theorem dX0_cellAt_0 : decode cX0_cellAt 0 = .ok (.aload_n 0, 1) := by decide +kernel
theorem dX0_cellAt_1 : decode cX0_cellAt 1 = .ok (.getfield 40, 3) := by decide +kernel
theorem dX0_cellAt_4 : decode cX0_cellAt 4 = .ok (.iload_n 2, 1) := by decide +kernel
theorem dX0_cellAt_5 : decode cX0_cellAt 5 = .ok (.imul, 1) := by decide +kernel
theorem dX0_cellAt_6 : decode cX0_cellAt 6 = .ok (.iload_n 1, 1) := by decide +kernel
theorem dX0_cellAt_7 : decode cX0_cellAt 7 = .ok (.iadd, 1) := by decide +kernel
theorem dX0_cellAt_8 : decode cX0_cellAt 8 = .ok (.ireturn, 1) := by decide +kernel
theorem dX0_hasPatch_0 : decode cX0_hasPatch 0 = .ok (.aload_n 0, 1) := by decide +kernel
theorem dX0_hasPatch_1 : decode cX0_hasPatch 1 = .ok (.iload_n 1, 1) := by decide +kernel
theorem dX0_hasPatch_2 : decode cX0_hasPatch 2 = .ok (.iload_n 2, 1) := by decide +kernel
theorem dX0_hasPatch_3 : decode cX0_hasPatch 3 = .ok (.invokevirtual 76, 3) := by decide +kernel
theorem dX0_hasPatch_6 : decode cX0_hasPatch 6 = .ok (.ifCond .eq 28, 3) := by decide +kernel
theorem dX0_hasPatch_9 : decode cX0_hasPatch 9 = .ok (.aload_n 0, 1) := by decide +kernel
theorem dX0_hasPatch_10 : decode cX0_hasPatch 10 = .ok (.iload_n 3, 1) := by decide +kernel
theorem dX0_hasPatch_11 : decode cX0_hasPatch 11 = .ok (.iload 4, 2) := by decide +kernel
theorem dX0_hasPatch_13 : decode cX0_hasPatch 13 = .ok (.invokevirtual 76, 3) := by decide +kernel
theorem dX0_hasPatch_16 : decode cX0_hasPatch 16 = .ok (.ifCond .eq 18, 3) := by decide +kernel
theorem dX0_hasPatch_19 : decode cX0_hasPatch 19 = .ok (.iload_n 3, 1) := by decide +kernel
theorem dX0_hasPatch_20 : decode cX0_hasPatch 20 = .ok (.iload_n 1, 1) := by decide +kernel
theorem dX0_hasPatch_21 : decode cX0_hasPatch 21 = .ok (.if_icmp .lt 13, 3) := by decide +kernel
theorem dX0_hasPatch_24 : decode cX0_hasPatch 24 = .ok (.iload 4, 2) := by decide +kernel
theorem dX0_hasPatch_26 : decode cX0_hasPatch 26 = .ok (.iload_n 2, 1) := by decide +kernel
theorem dX0_hasPatch_27 : decode cX0_hasPatch 27 = .ok (.if_icmp .lt 7, 3) := by decide +kernel
theorem dX0_hasPatch_30 : decode cX0_hasPatch 30 = .ok (.iconst 1, 1) := by decide +kernel
theorem dX0_hasPatch_31 : decode cX0_hasPatch 31 = .ok (.goto 4, 3) := by decide +kernel
theorem dX0_hasPatch_34 : decode cX0_hasPatch 34 = .ok (.iconst 0, 1) := by decide +kernel
theorem dX0_hasPatch_35 : decode cX0_hasPatch 35 = .ok (.ireturn, 1) := by decide +kernel
theorem dX0_patchCells_0 : decode cX0_patchCells 0 = .ok (.iconst 0, 1) := by decide +kernel
theorem dX0_patchCells_1 : decode cX0_patchCells 1 = .ok (.istore 5, 2) := by decide +kernel
theorem dX0_patchCells_3 : decode cX0_patchCells 3 = .ok (.iload_n 2, 1) := by decide +kernel
theorem dX0_patchCells_4 : decode cX0_patchCells 4 = .ok (.istore 6, 2) := by decide +kernel
theorem dX0_patchCells_6 : decode cX0_patchCells 6 = .ok (.iload 6, 2) := by decide +kernel
theorem dX0_patchCells_8 : decode cX0_patchCells 8 = .ok (.iload 4, 2) := by decide +kernel
theorem dX0_patchCells_10 : decode cX0_patchCells 10 = .ok (.if_icmp .gt 57, 3) := by decide +kernel
theorem dX0_patchCells_13 : decode cX0_patchCells 13 = .ok (.iload 6, 2) := by decide +kernel
theorem dX0_patchCells_15 : decode cX0_patchCells 15 = .ok (.aload_n 0, 1) := by decide +kernel
theorem dX0_patchCells_16 : decode cX0_patchCells 16 = .ok (.getfield 44, 3) := by decide +kernel
theorem dX0_patchCells_19 : decode cX0_patchCells 19 = .ok (.if_icmp .ge 48, 3) := by decide +kernel
theorem dX0_patchCells_22 : decode cX0_patchCells 22 = .ok (.iload_n 1, 1) := by decide +kernel
theorem dX0_patchCells_23 : decode cX0_patchCells 23 = .ok (.istore 7, 2) := by decide +kernel
theorem dX0_patchCells_25 : decode cX0_patchCells 25 = .ok (.iload 7, 2) := by decide +kernel
theorem dX0_patchCells_27 : decode cX0_patchCells 27 = .ok (.iload_n 3, 1) := by decide +kernel
theorem dX0_patchCells_28 : decode cX0_patchCells 28 = .ok (.if_icmp .gt 33, 3) := by decide +kernel
theorem dX0_patchCells_31 : decode cX0_patchCells 31 = .ok (.iload 7, 2) := by decide +kernel
theorem dX0_patchCells_33 : decode cX0_patchCells 33 = .ok (.aload_n 0, 1) := by decide +kernel
theorem dX0_patchCells_34 : decode cX0_patchCells 34 = .ok (.getfield 40, 3) := by decide +kernel
theorem dX0_patchCells_37 : decode cX0_patchCells 37 = .ok (.if_icmp .ge 24, 3) := by decide +kernel
theorem dX0_patchCells_40 : decode cX0_patchCells 40 = .ok (.iload 5, 2) := by decide +kernel
theorem dX0_patchCells_42 : decode cX0_patchCells 42 = .ok (.iconst 1, 1) := by decide +kernel
theorem dX0_patchCells_43 : decode cX0_patchCells 43 = .ok (.aload_n 0, 1) := by decide +kernel
theorem dX0_patchCells_44 : decode cX0_patchCells 44 = .ok (.iload 7, 2) := by decide +kernel
theorem dX0_patchCells_46 : decode cX0_patchCells 46 = .ok (.iload 6, 2) := by decide +kernel
theorem dX0_patchCells_48 : decode cX0_patchCells 48 = .ok (.invokevirtual 80, 3) := by decide +kernel
theorem dX0_patchCells_51 : decode cX0_patchCells 51 = .ok (.ishl, 1) := by decide +kernel
theorem dX0_patchCells_52 : decode cX0_patchCells 52 = .ok (.ior, 1) := by decide +kernel
theorem dX0_patchCells_53 : decode cX0_patchCells 53 = .ok (.istore 5, 2) := by decide +kernel
theorem dX0_patchCells_55 : decode cX0_patchCells 55 = .ok (.iinc 7 1, 3) := by decide +kernel
theorem dX0_patchCells_58 : decode cX0_patchCells 58 = .ok (.goto (-33), 3) := by decide +kernel
theorem dX0_patchCells_61 : decode cX0_patchCells 61 = .ok (.iinc 6 1, 3) := by decide +kernel
theorem dX0_patchCells_64 : decode cX0_patchCells 64 = .ok (.goto (-58), 3) := by decide +kernel
theorem dX0_patchCells_67 : decode cX0_patchCells 67 = .ok (.iload 5, 2) := by decide +kernel
theorem dX0_patchCells_69 : decode cX0_patchCells 69 = .ok (.ireturn, 1) := by decide +kernel
theorem dX0_hasColour_0 : decode cX0_hasColour 0 = .ok (.iload_n 1, 1) := by decide +kernel
theorem dX0_hasColour_1 : decode cX0_hasColour 1 = .ok (.ifCond .lt 15, 3) := by decide +kernel
theorem dX0_hasColour_4 : decode cX0_hasColour 4 = .ok (.iload_n 1, 1) := by decide +kernel
theorem dX0_hasColour_5 : decode cX0_hasColour 5 = .ok (.aload_n 0, 1) := by decide +kernel
theorem dX0_hasColour_6 : decode cX0_hasColour 6 = .ok (.getfield 53, 3) := by decide +kernel
theorem dX0_hasColour_9 : decode cX0_hasColour 9 = .ok (.if_icmp .ge 7, 3) := by decide +kernel
theorem dX0_hasColour_12 : decode cX0_hasColour 12 = .ok (.iconst 1, 1) := by decide +kernel
theorem dX0_hasColour_13 : decode cX0_hasColour 13 = .ok (.goto 4, 3) := by decide +kernel
theorem dX0_hasColour_16 : decode cX0_hasColour 16 = .ok (.iconst 0, 1) := by decide +kernel
theorem dX0_hasColour_17 : decode cX0_hasColour 17 = .ok (.ireturn, 1) := by decide +kernel
theorem dX0_hasHand_0 : decode cX0_hasHand 0 = .ok (.iload_n 1, 1) := by decide +kernel
theorem dX0_hasHand_1 : decode cX0_hasHand 1 = .ok (.ifCond .lt 15, 3) := by decide +kernel
theorem dX0_hasHand_4 : decode cX0_hasHand 4 = .ok (.iload_n 1, 1) := by decide +kernel
theorem dX0_hasHand_5 : decode cX0_hasHand 5 = .ok (.aload_n 0, 1) := by decide +kernel
theorem dX0_hasHand_6 : decode cX0_hasHand 6 = .ok (.getfield 56, 3) := by decide +kernel
theorem dX0_hasHand_9 : decode cX0_hasHand 9 = .ok (.if_icmp .ge 7, 3) := by decide +kernel
theorem dX0_hasHand_12 : decode cX0_hasHand 12 = .ok (.iconst 1, 1) := by decide +kernel
theorem dX0_hasHand_13 : decode cX0_hasHand 13 = .ok (.goto 4, 3) := by decide +kernel
theorem dX0_hasHand_16 : decode cX0_hasHand 16 = .ok (.iconst 0, 1) := by decide +kernel
theorem dX0_hasHand_17 : decode cX0_hasHand 17 = .ok (.ireturn, 1) := by decide +kernel
theorem dX0_colourNamed_0 : decode cX0_colourNamed 0 = .ok (.iconst 0, 1) := by decide +kernel
theorem dX0_colourNamed_1 : decode cX0_colourNamed 1 = .ok (.istore_n 3, 1) := by decide +kernel
theorem dX0_colourNamed_2 : decode cX0_colourNamed 2 = .ok (.iload_n 3, 1) := by decide +kernel
theorem dX0_colourNamed_3 : decode cX0_colourNamed 3 = .ok (.aload_n 0, 1) := by decide +kernel
theorem dX0_colourNamed_4 : decode cX0_colourNamed 4 = .ok (.getfield 53, 3) := by decide +kernel
theorem dX0_colourNamed_7 : decode cX0_colourNamed 7 = .ok (.if_icmp .ge 22, 3) := by decide +kernel
theorem dX0_colourNamed_10 : decode cX0_colourNamed 10 = .ok (.aload_n 0, 1) := by decide +kernel
theorem dX0_colourNamed_11 : decode cX0_colourNamed 11 = .ok (.getfield 9, 3) := by decide +kernel
theorem dX0_colourNamed_14 : decode cX0_colourNamed 14 = .ok (.iload_n 3, 1) := by decide +kernel
theorem dX0_colourNamed_15 : decode cX0_colourNamed 15 = .ok (.laload, 1) := by decide +kernel
theorem dX0_colourNamed_16 : decode cX0_colourNamed 16 = .ok (.lload_n 1, 1) := by decide +kernel
theorem dX0_colourNamed_17 : decode cX0_colourNamed 17 = .ok (.lcmp, 1) := by decide +kernel
theorem dX0_colourNamed_18 : decode cX0_colourNamed 18 = .ok (.ifCond .ne 5, 3) := by decide +kernel
theorem dX0_colourNamed_21 : decode cX0_colourNamed 21 = .ok (.iload_n 3, 1) := by decide +kernel
theorem dX0_colourNamed_22 : decode cX0_colourNamed 22 = .ok (.ireturn, 1) := by decide +kernel
theorem dX0_colourNamed_23 : decode cX0_colourNamed 23 = .ok (.iinc 3 1, 3) := by decide +kernel
theorem dX0_colourNamed_26 : decode cX0_colourNamed 26 = .ok (.goto (-24), 3) := by decide +kernel
theorem dX0_colourNamed_29 : decode cX0_colourNamed 29 = .ok (.iconst (-1), 1) := by decide +kernel
theorem dX0_colourNamed_30 : decode cX0_colourNamed 30 = .ok (.ireturn, 1) := by decide +kernel
theorem dX0_handNamed_0 : decode cX0_handNamed 0 = .ok (.iconst 0, 1) := by decide +kernel
theorem dX0_handNamed_1 : decode cX0_handNamed 1 = .ok (.istore_n 3, 1) := by decide +kernel
theorem dX0_handNamed_2 : decode cX0_handNamed 2 = .ok (.iload_n 3, 1) := by decide +kernel
theorem dX0_handNamed_3 : decode cX0_handNamed 3 = .ok (.aload_n 0, 1) := by decide +kernel
theorem dX0_handNamed_4 : decode cX0_handNamed 4 = .ok (.getfield 56, 3) := by decide +kernel
theorem dX0_handNamed_7 : decode cX0_handNamed 7 = .ok (.if_icmp .ge 22, 3) := by decide +kernel
theorem dX0_handNamed_10 : decode cX0_handNamed 10 = .ok (.aload_n 0, 1) := by decide +kernel
theorem dX0_handNamed_11 : decode cX0_handNamed 11 = .ok (.getfield 25, 3) := by decide +kernel
theorem dX0_handNamed_14 : decode cX0_handNamed 14 = .ok (.iload_n 3, 1) := by decide +kernel
theorem dX0_handNamed_15 : decode cX0_handNamed 15 = .ok (.laload, 1) := by decide +kernel
theorem dX0_handNamed_16 : decode cX0_handNamed 16 = .ok (.lload_n 1, 1) := by decide +kernel
theorem dX0_handNamed_17 : decode cX0_handNamed 17 = .ok (.lcmp, 1) := by decide +kernel
theorem dX0_handNamed_18 : decode cX0_handNamed 18 = .ok (.ifCond .ne 5, 3) := by decide +kernel
theorem dX0_handNamed_21 : decode cX0_handNamed 21 = .ok (.iload_n 3, 1) := by decide +kernel
theorem dX0_handNamed_22 : decode cX0_handNamed 22 = .ok (.ireturn, 1) := by decide +kernel
theorem dX0_handNamed_23 : decode cX0_handNamed 23 = .ok (.iinc 3 1, 3) := by decide +kernel
theorem dX0_handNamed_26 : decode cX0_handNamed 26 = .ok (.goto (-24), 3) := by decide +kernel
theorem dX0_handNamed_29 : decode cX0_handNamed 29 = .ok (.iconst (-1), 1) := by decide +kernel
theorem dX0_handNamed_30 : decode cX0_handNamed 30 = .ok (.ireturn, 1) := by decide +kernel
theorem dX0_addColour_0 : decode cX0_addColour 0 = .ok (.aload_n 0, 1) := by decide +kernel
theorem dX0_addColour_1 : decode cX0_addColour 1 = .ok (.getfield 53, 3) := by decide +kernel
theorem dX0_addColour_4 : decode cX0_addColour 4 = .ok (.iconst 5, 1) := by decide +kernel
theorem dX0_addColour_5 : decode cX0_addColour 5 = .ok (.if_icmp .ge 55, 3) := by decide +kernel
theorem dX0_addColour_8 : decode cX0_addColour 8 = .ok (.aload_n 0, 1) := by decide +kernel
theorem dX0_addColour_9 : decode cX0_addColour 9 = .ok (.getfield 9, 3) := by decide +kernel
theorem dX0_addColour_12 : decode cX0_addColour 12 = .ok (.aload_n 0, 1) := by decide +kernel
theorem dX0_addColour_13 : decode cX0_addColour 13 = .ok (.getfield 53, 3) := by decide +kernel
theorem dX0_addColour_16 : decode cX0_addColour 16 = .ok (.lload_n 1, 1) := by decide +kernel
theorem dX0_addColour_17 : decode cX0_addColour 17 = .ok (.lastore, 1) := by decide +kernel
theorem dX0_addColour_18 : decode cX0_addColour 18 = .ok (.aload_n 0, 1) := by decide +kernel
theorem dX0_addColour_19 : decode cX0_addColour 19 = .ok (.getfield 15, 3) := by decide +kernel
theorem dX0_addColour_22 : decode cX0_addColour 22 = .ok (.aload_n 0, 1) := by decide +kernel
theorem dX0_addColour_23 : decode cX0_addColour 23 = .ok (.getfield 53, 3) := by decide +kernel
theorem dX0_addColour_26 : decode cX0_addColour 26 = .ok (.iload_n 3, 1) := by decide +kernel
theorem dX0_addColour_27 : decode cX0_addColour 27 = .ok (.iastore, 1) := by decide +kernel
theorem dX0_addColour_28 : decode cX0_addColour 28 = .ok (.aload_n 0, 1) := by decide +kernel
theorem dX0_addColour_29 : decode cX0_addColour 29 = .ok (.getfield 19, 3) := by decide +kernel
theorem dX0_addColour_32 : decode cX0_addColour 32 = .ok (.aload_n 0, 1) := by decide +kernel
theorem dX0_addColour_33 : decode cX0_addColour 33 = .ok (.getfield 53, 3) := by decide +kernel
theorem dX0_addColour_36 : decode cX0_addColour 36 = .ok (.iload 4, 2) := by decide +kernel
theorem dX0_addColour_38 : decode cX0_addColour 38 = .ok (.iastore, 1) := by decide +kernel
theorem dX0_addColour_39 : decode cX0_addColour 39 = .ok (.aload_n 0, 1) := by decide +kernel
theorem dX0_addColour_40 : decode cX0_addColour 40 = .ok (.getfield 22, 3) := by decide +kernel
theorem dX0_addColour_43 : decode cX0_addColour 43 = .ok (.aload_n 0, 1) := by decide +kernel
theorem dX0_addColour_44 : decode cX0_addColour 44 = .ok (.getfield 53, 3) := by decide +kernel
theorem dX0_addColour_47 : decode cX0_addColour 47 = .ok (.iload 5, 2) := by decide +kernel
theorem dX0_addColour_49 : decode cX0_addColour 49 = .ok (.iastore, 1) := by decide +kernel
theorem dX0_addColour_50 : decode cX0_addColour 50 = .ok (.aload_n 0, 1) := by decide +kernel
theorem dX0_addColour_51 : decode cX0_addColour 51 = .ok (.dup, 1) := by decide +kernel
theorem dX0_addColour_52 : decode cX0_addColour 52 = .ok (.getfield 53, 3) := by decide +kernel
theorem dX0_addColour_55 : decode cX0_addColour 55 = .ok (.iconst 1, 1) := by decide +kernel
theorem dX0_addColour_56 : decode cX0_addColour 56 = .ok (.iadd, 1) := by decide +kernel
theorem dX0_addColour_57 : decode cX0_addColour 57 = .ok (.putfield 53, 3) := by decide +kernel
theorem dX0_addColour_60 : decode cX0_addColour 60 = .ok (.return_, 1) := by decide +kernel
theorem dX0_addHand_0 : decode cX0_addHand 0 = .ok (.aload_n 0, 1) := by decide +kernel
theorem dX0_addHand_1 : decode cX0_addHand 1 = .ok (.getfield 56, 3) := by decide +kernel
theorem dX0_addHand_4 : decode cX0_addHand 4 = .ok (.iconst 5, 1) := by decide +kernel
theorem dX0_addHand_5 : decode cX0_addHand 5 = .ok (.if_icmp .ge 23, 3) := by decide +kernel
theorem dX0_addHand_8 : decode cX0_addHand 8 = .ok (.aload_n 0, 1) := by decide +kernel
theorem dX0_addHand_9 : decode cX0_addHand 9 = .ok (.getfield 25, 3) := by decide +kernel
theorem dX0_addHand_12 : decode cX0_addHand 12 = .ok (.aload_n 0, 1) := by decide +kernel
theorem dX0_addHand_13 : decode cX0_addHand 13 = .ok (.getfield 56, 3) := by decide +kernel
theorem dX0_addHand_16 : decode cX0_addHand 16 = .ok (.lload_n 1, 1) := by decide +kernel
theorem dX0_addHand_17 : decode cX0_addHand 17 = .ok (.lastore, 1) := by decide +kernel
theorem dX0_addHand_18 : decode cX0_addHand 18 = .ok (.aload_n 0, 1) := by decide +kernel
theorem dX0_addHand_19 : decode cX0_addHand 19 = .ok (.dup, 1) := by decide +kernel
theorem dX0_addHand_20 : decode cX0_addHand 20 = .ok (.getfield 56, 3) := by decide +kernel
theorem dX0_addHand_23 : decode cX0_addHand 23 = .ok (.iconst 1, 1) := by decide +kernel
theorem dX0_addHand_24 : decode cX0_addHand 24 = .ok (.iadd, 1) := by decide +kernel
theorem dX0_addHand_25 : decode cX0_addHand 25 = .ok (.putfield 56, 3) := by decide +kernel
theorem dX0_addHand_28 : decode cX0_addHand 28 = .ok (.return_, 1) := by decide +kernel
theorem dX0_addContract_0 : decode cX0_addContract 0 = .ok (.aload_n 0, 1) := by decide +kernel
theorem dX0_addContract_1 : decode cX0_addContract 1 = .ok (.getfield 59, 3) := by decide +kernel
theorem dX0_addContract_4 : decode cX0_addContract 4 = .ok (.iconst 4, 1) := by decide +kernel
theorem dX0_addContract_5 : decode cX0_addContract 5 = .ok (.if_icmp .ge 43, 3) := by decide +kernel
theorem dX0_addContract_8 : decode cX0_addContract 8 = .ok (.aload_n 0, 1) := by decide +kernel
theorem dX0_addContract_9 : decode cX0_addContract 9 = .ok (.getfield 28, 3) := by decide +kernel
theorem dX0_addContract_12 : decode cX0_addContract 12 = .ok (.aload_n 0, 1) := by decide +kernel
theorem dX0_addContract_13 : decode cX0_addContract 13 = .ok (.getfield 59, 3) := by decide +kernel
theorem dX0_addContract_16 : decode cX0_addContract 16 = .ok (.iload_n 1, 1) := by decide +kernel
theorem dX0_addContract_17 : decode cX0_addContract 17 = .ok (.iastore, 1) := by decide +kernel
theorem dX0_addContract_18 : decode cX0_addContract 18 = .ok (.aload_n 0, 1) := by decide +kernel
theorem dX0_addContract_19 : decode cX0_addContract 19 = .ok (.getfield 31, 3) := by decide +kernel
theorem dX0_addContract_22 : decode cX0_addContract 22 = .ok (.aload_n 0, 1) := by decide +kernel
theorem dX0_addContract_23 : decode cX0_addContract 23 = .ok (.getfield 59, 3) := by decide +kernel
theorem dX0_addContract_26 : decode cX0_addContract 26 = .ok (.iload_n 2, 1) := by decide +kernel
theorem dX0_addContract_27 : decode cX0_addContract 27 = .ok (.iastore, 1) := by decide +kernel
theorem dX0_addContract_28 : decode cX0_addContract 28 = .ok (.aload_n 0, 1) := by decide +kernel
theorem dX0_addContract_29 : decode cX0_addContract 29 = .ok (.getfield 34, 3) := by decide +kernel
theorem dX0_addContract_32 : decode cX0_addContract 32 = .ok (.aload_n 0, 1) := by decide +kernel
theorem dX0_addContract_33 : decode cX0_addContract 33 = .ok (.getfield 59, 3) := by decide +kernel
theorem dX0_addContract_36 : decode cX0_addContract 36 = .ok (.iload_n 3, 1) := by decide +kernel
theorem dX0_addContract_37 : decode cX0_addContract 37 = .ok (.iastore, 1) := by decide +kernel
theorem dX0_addContract_38 : decode cX0_addContract 38 = .ok (.aload_n 0, 1) := by decide +kernel
theorem dX0_addContract_39 : decode cX0_addContract 39 = .ok (.dup, 1) := by decide +kernel
theorem dX0_addContract_40 : decode cX0_addContract 40 = .ok (.getfield 59, 3) := by decide +kernel
theorem dX0_addContract_43 : decode cX0_addContract 43 = .ok (.iconst 1, 1) := by decide +kernel
theorem dX0_addContract_44 : decode cX0_addContract 44 = .ok (.iadd, 1) := by decide +kernel
theorem dX0_addContract_45 : decode cX0_addContract 45 = .ok (.putfield 59, 3) := by decide +kernel
theorem dX0_addContract_48 : decode cX0_addContract 48 = .ok (.return_, 1) := by decide +kernel
theorem dX0_want_0 : decode cX0_want 0 = .ok (.iconst 0, 1) := by decide +kernel
theorem dX0_want_1 : decode cX0_want 1 = .ok (.istore_n 3, 1) := by decide +kernel
theorem dX0_want_2 : decode cX0_want 2 = .ok (.iload_n 3, 1) := by decide +kernel
theorem dX0_want_3 : decode cX0_want 3 = .ok (.bipush 24, 2) := by decide +kernel
theorem dX0_want_5 : decode cX0_want 5 = .ok (.if_icmp .ge 24, 3) := by decide +kernel
theorem dX0_want_8 : decode cX0_want 8 = .ok (.iload_n 2, 1) := by decide +kernel
theorem dX0_want_9 : decode cX0_want 9 = .ok (.iload_n 3, 1) := by decide +kernel
theorem dX0_want_10 : decode cX0_want 10 = .ok (.ishr, 1) := by decide +kernel
theorem dX0_want_11 : decode cX0_want 11 = .ok (.iconst 1, 1) := by decide +kernel
theorem dX0_want_12 : decode cX0_want 12 = .ok (.iand, 1) := by decide +kernel
theorem dX0_want_13 : decode cX0_want 13 = .ok (.ifCond .eq 10, 3) := by decide +kernel
theorem dX0_want_16 : decode cX0_want 16 = .ok (.aload_n 0, 1) := by decide +kernel
theorem dX0_want_17 : decode cX0_want 17 = .ok (.getfield 37, 3) := by decide +kernel
theorem dX0_want_20 : decode cX0_want 20 = .ok (.iload_n 3, 1) := by decide +kernel
theorem dX0_want_21 : decode cX0_want 21 = .ok (.iload_n 1, 1) := by decide +kernel
theorem dX0_want_22 : decode cX0_want 22 = .ok (.iastore, 1) := by decide +kernel
theorem dX0_want_23 : decode cX0_want 23 = .ok (.iinc 3 1, 3) := by decide +kernel
theorem dX0_want_26 : decode cX0_want 26 = .ok (.goto (-24), 3) := by decide +kernel
theorem dX0_want_29 : decode cX0_want 29 = .ok (.return_, 1) := by decide +kernel
theorem dX0_thickOf_0 : decode cX0_thickOf 0 = .ok (.aload_n 0, 1) := by decide +kernel
theorem dX0_thickOf_1 : decode cX0_thickOf 1 = .ok (.iload_n 1, 1) := by decide +kernel
theorem dX0_thickOf_2 : decode cX0_thickOf 2 = .ok (.invokevirtual 84, 3) := by decide +kernel
theorem dX0_thickOf_5 : decode cX0_thickOf 5 = .ok (.ifCond .eq 12, 3) := by decide +kernel
theorem dX0_thickOf_8 : decode cX0_thickOf 8 = .ok (.aload_n 0, 1) := by decide +kernel
theorem dX0_thickOf_9 : decode cX0_thickOf 9 = .ok (.getfield 15, 3) := by decide +kernel
theorem dX0_thickOf_12 : decode cX0_thickOf 12 = .ok (.iload_n 1, 1) := by decide +kernel
theorem dX0_thickOf_13 : decode cX0_thickOf 13 = .ok (.iaload, 1) := by decide +kernel
theorem dX0_thickOf_14 : decode cX0_thickOf 14 = .ok (.goto 4, 3) := by decide +kernel
theorem dX0_thickOf_17 : decode cX0_thickOf 17 = .ok (.iconst 0, 1) := by decide +kernel
theorem dX0_thickOf_18 : decode cX0_thickOf 18 = .ok (.ireturn, 1) := by decide +kernel
theorem dX0_isFaded_0 : decode cX0_isFaded 0 = .ok (.aload_n 0, 1) := by decide +kernel
theorem dX0_isFaded_1 : decode cX0_isFaded 1 = .ok (.iload_n 1, 1) := by decide +kernel
theorem dX0_isFaded_2 : decode cX0_isFaded 2 = .ok (.invokevirtual 84, 3) := by decide +kernel
theorem dX0_isFaded_5 : decode cX0_isFaded 5 = .ok (.ifCond .eq 26, 3) := by decide +kernel
theorem dX0_isFaded_8 : decode cX0_isFaded 8 = .ok (.aload_n 0, 1) := by decide +kernel
theorem dX0_isFaded_9 : decode cX0_isFaded 9 = .ok (.getfield 19, 3) := by decide +kernel
theorem dX0_isFaded_12 : decode cX0_isFaded 12 = .ok (.iload_n 1, 1) := by decide +kernel
theorem dX0_isFaded_13 : decode cX0_isFaded 13 = .ok (.iaload, 1) := by decide +kernel
theorem dX0_isFaded_14 : decode cX0_isFaded 14 = .ok (.ifCond .eq 17, 3) := by decide +kernel
theorem dX0_isFaded_17 : decode cX0_isFaded 17 = .ok (.iload_n 2, 1) := by decide +kernel
theorem dX0_isFaded_18 : decode cX0_isFaded 18 = .ok (.aload_n 0, 1) := by decide +kernel
theorem dX0_isFaded_19 : decode cX0_isFaded 19 = .ok (.getfield 19, 3) := by decide +kernel
theorem dX0_isFaded_22 : decode cX0_isFaded 22 = .ok (.iload_n 1, 1) := by decide +kernel
theorem dX0_isFaded_23 : decode cX0_isFaded 23 = .ok (.iaload, 1) := by decide +kernel
theorem dX0_isFaded_24 : decode cX0_isFaded 24 = .ok (.if_icmp .lt 7, 3) := by decide +kernel
theorem dX0_isFaded_27 : decode cX0_isFaded 27 = .ok (.iconst 1, 1) := by decide +kernel
theorem dX0_isFaded_28 : decode cX0_isFaded 28 = .ok (.goto 4, 3) := by decide +kernel
theorem dX0_isFaded_31 : decode cX0_isFaded 31 = .ok (.iconst 0, 1) := by decide +kernel
theorem dX0_isFaded_32 : decode cX0_isFaded 32 = .ok (.ireturn, 1) := by decide +kernel
theorem dX0_hadComeUp_0 : decode cX0_hadComeUp 0 = .ok (.aload_n 0, 1) := by decide +kernel
theorem dX0_hadComeUp_1 : decode cX0_hadComeUp 1 = .ok (.iload_n 1, 1) := by decide +kernel
theorem dX0_hadComeUp_2 : decode cX0_hadComeUp 2 = .ok (.invokevirtual 84, 3) := by decide +kernel
theorem dX0_hadComeUp_5 : decode cX0_hadComeUp 5 = .ok (.ifCond .eq 17, 3) := by decide +kernel
theorem dX0_hadComeUp_8 : decode cX0_hadComeUp 8 = .ok (.aload_n 0, 1) := by decide +kernel
theorem dX0_hadComeUp_9 : decode cX0_hadComeUp 9 = .ok (.getfield 22, 3) := by decide +kernel
theorem dX0_hadComeUp_12 : decode cX0_hadComeUp 12 = .ok (.iload_n 1, 1) := by decide +kernel
theorem dX0_hadComeUp_13 : decode cX0_hadComeUp 13 = .ok (.iaload, 1) := by decide +kernel
theorem dX0_hadComeUp_14 : decode cX0_hadComeUp 14 = .ok (.iload_n 2, 1) := by decide +kernel
theorem dX0_hadComeUp_15 : decode cX0_hadComeUp 15 = .ok (.if_icmp .gt 7, 3) := by decide +kernel
theorem dX0_hadComeUp_18 : decode cX0_hadComeUp 18 = .ok (.iconst 1, 1) := by decide +kernel
theorem dX0_hadComeUp_19 : decode cX0_hadComeUp 19 = .ok (.goto 4, 3) := by decide +kernel
theorem dX0_hadComeUp_22 : decode cX0_hadComeUp 22 = .ok (.iconst 0, 1) := by decide +kernel
theorem dX0_hadComeUp_23 : decode cX0_hadComeUp 23 = .ok (.ireturn, 1) := by decide +kernel
theorem dX0_hadAnyComeUp_0 : decode cX0_hadAnyComeUp 0 = .ok (.iconst 0, 1) := by decide +kernel
theorem dX0_hadAnyComeUp_1 : decode cX0_hadAnyComeUp 1 = .ok (.istore_n 2, 1) := by decide +kernel
theorem dX0_hadAnyComeUp_2 : decode cX0_hadAnyComeUp 2 = .ok (.iload_n 2, 1) := by decide +kernel
theorem dX0_hadAnyComeUp_3 : decode cX0_hadAnyComeUp 3 = .ok (.aload_n 0, 1) := by decide +kernel
theorem dX0_hadAnyComeUp_4 : decode cX0_hadAnyComeUp 4 = .ok (.getfield 53, 3) := by decide +kernel
theorem dX0_hadAnyComeUp_7 : decode cX0_hadAnyComeUp 7 = .ok (.if_icmp .ge 20, 3) := by decide +kernel
theorem dX0_hadAnyComeUp_10 : decode cX0_hadAnyComeUp 10 = .ok (.aload_n 0, 1) := by decide +kernel
theorem dX0_hadAnyComeUp_11 : decode cX0_hadAnyComeUp 11 = .ok (.iload_n 2, 1) := by decide +kernel
theorem dX0_hadAnyComeUp_12 : decode cX0_hadAnyComeUp 12 = .ok (.iload_n 1, 1) := by decide +kernel
theorem dX0_hadAnyComeUp_13 : decode cX0_hadAnyComeUp 13 = .ok (.invokevirtual 88, 3) := by decide +kernel
theorem dX0_hadAnyComeUp_16 : decode cX0_hadAnyComeUp 16 = .ok (.ifCond .eq 5, 3) := by decide +kernel
theorem dX0_hadAnyComeUp_19 : decode cX0_hadAnyComeUp 19 = .ok (.iconst 1, 1) := by decide +kernel
theorem dX0_hadAnyComeUp_20 : decode cX0_hadAnyComeUp 20 = .ok (.ireturn, 1) := by decide +kernel
theorem dX0_hadAnyComeUp_21 : decode cX0_hadAnyComeUp 21 = .ok (.iinc 2 1, 3) := by decide +kernel
theorem dX0_hadAnyComeUp_24 : decode cX0_hadAnyComeUp 24 = .ok (.goto (-22), 3) := by decide +kernel
theorem dX0_hadAnyComeUp_27 : decode cX0_hadAnyComeUp 27 = .ok (.iconst 0, 1) := by decide +kernel
theorem dX0_hadAnyComeUp_28 : decode cX0_hadAnyComeUp 28 = .ok (.ireturn, 1) := by decide +kernel
theorem dX0_wantedAt_0 : decode cX0_wantedAt 0 = .ok (.iload_n 1, 1) := by decide +kernel
theorem dX0_wantedAt_1 : decode cX0_wantedAt 1 = .ok (.ifCond .lt 26, 3) := by decide +kernel
theorem dX0_wantedAt_4 : decode cX0_wantedAt 4 = .ok (.iload_n 1, 1) := by decide +kernel
theorem dX0_wantedAt_5 : decode cX0_wantedAt 5 = .ok (.aload_n 0, 1) := by decide +kernel
theorem dX0_wantedAt_6 : decode cX0_wantedAt 6 = .ok (.invokevirtual 72, 3) := by decide +kernel
theorem dX0_wantedAt_9 : decode cX0_wantedAt 9 = .ok (.if_icmp .ge 18, 3) := by decide +kernel
theorem dX0_wantedAt_12 : decode cX0_wantedAt 12 = .ok (.iload_n 1, 1) := by decide +kernel
theorem dX0_wantedAt_13 : decode cX0_wantedAt 13 = .ok (.bipush 24, 2) := by decide +kernel
theorem dX0_wantedAt_15 : decode cX0_wantedAt 15 = .ok (.if_icmp .ge 12, 3) := by decide +kernel
theorem dX0_wantedAt_18 : decode cX0_wantedAt 18 = .ok (.aload_n 0, 1) := by decide +kernel
theorem dX0_wantedAt_19 : decode cX0_wantedAt 19 = .ok (.getfield 37, 3) := by decide +kernel
theorem dX0_wantedAt_22 : decode cX0_wantedAt 22 = .ok (.iload_n 1, 1) := by decide +kernel
theorem dX0_wantedAt_23 : decode cX0_wantedAt 23 = .ok (.iaload, 1) := by decide +kernel
theorem dX0_wantedAt_24 : decode cX0_wantedAt 24 = .ok (.goto 5, 3) := by decide +kernel
theorem dX0_wantedAt_27 : decode cX0_wantedAt 27 = .ok (.bipush (-2), 2) := by decide +kernel
theorem dX0_wantedAt_29 : decode cX0_wantedAt 29 = .ok (.ireturn, 1) := by decide +kernel
theorem dX0_wantedCells_0 : decode cX0_wantedCells 0 = .ok (.iconst 0, 1) := by decide +kernel
theorem dX0_wantedCells_1 : decode cX0_wantedCells 1 = .ok (.istore_n 1, 1) := by decide +kernel
theorem dX0_wantedCells_2 : decode cX0_wantedCells 2 = .ok (.iconst 0, 1) := by decide +kernel
theorem dX0_wantedCells_3 : decode cX0_wantedCells 3 = .ok (.istore_n 2, 1) := by decide +kernel
theorem dX0_wantedCells_4 : decode cX0_wantedCells 4 = .ok (.iload_n 2, 1) := by decide +kernel
theorem dX0_wantedCells_5 : decode cX0_wantedCells 5 = .ok (.aload_n 0, 1) := by decide +kernel
theorem dX0_wantedCells_6 : decode cX0_wantedCells 6 = .ok (.invokevirtual 72, 3) := by decide +kernel
theorem dX0_wantedCells_9 : decode cX0_wantedCells 9 = .ok (.if_icmp .ge 25, 3) := by decide +kernel
theorem dX0_wantedCells_12 : decode cX0_wantedCells 12 = .ok (.aload_n 0, 1) := by decide +kernel
theorem dX0_wantedCells_13 : decode cX0_wantedCells 13 = .ok (.iload_n 2, 1) := by decide +kernel
theorem dX0_wantedCells_14 : decode cX0_wantedCells 14 = .ok (.invokevirtual 91, 3) := by decide +kernel
theorem dX0_wantedCells_17 : decode cX0_wantedCells 17 = .ok (.bipush (-2), 2) := by decide +kernel
theorem dX0_wantedCells_19 : decode cX0_wantedCells 19 = .ok (.if_icmp .eq 9, 3) := by decide +kernel
theorem dX0_wantedCells_22 : decode cX0_wantedCells 22 = .ok (.iload_n 1, 1) := by decide +kernel
theorem dX0_wantedCells_23 : decode cX0_wantedCells 23 = .ok (.iconst 1, 1) := by decide +kernel
theorem dX0_wantedCells_24 : decode cX0_wantedCells 24 = .ok (.iload_n 2, 1) := by decide +kernel
theorem dX0_wantedCells_25 : decode cX0_wantedCells 25 = .ok (.ishl, 1) := by decide +kernel
theorem dX0_wantedCells_26 : decode cX0_wantedCells 26 = .ok (.ior, 1) := by decide +kernel
theorem dX0_wantedCells_27 : decode cX0_wantedCells 27 = .ok (.istore_n 1, 1) := by decide +kernel
theorem dX0_wantedCells_28 : decode cX0_wantedCells 28 = .ok (.iinc 2 1, 3) := by decide +kernel
theorem dX0_wantedCells_31 : decode cX0_wantedCells 31 = .ok (.goto (-27), 3) := by decide +kernel
theorem dX0_wantedCells_34 : decode cX0_wantedCells 34 = .ok (.iload_n 1, 1) := by decide +kernel
theorem dX0_wantedCells_35 : decode cX0_wantedCells 35 = .ok (.ireturn, 1) := by decide +kernel
theorem dX0_guardedIn_0 : decode cX0_guardedIn 0 = .ok (.iconst 0, 1) := by decide +kernel
theorem dX0_guardedIn_1 : decode cX0_guardedIn 1 = .ok (.istore_n 3, 1) := by decide +kernel
theorem dX0_guardedIn_2 : decode cX0_guardedIn 2 = .ok (.iconst 0, 1) := by decide +kernel
theorem dX0_guardedIn_3 : decode cX0_guardedIn 3 = .ok (.istore 4, 2) := by decide +kernel
theorem dX0_guardedIn_5 : decode cX0_guardedIn 5 = .ok (.iload 4, 2) := by decide +kernel
theorem dX0_guardedIn_7 : decode cX0_guardedIn 7 = .ok (.aload_n 0, 1) := by decide +kernel
theorem dX0_guardedIn_8 : decode cX0_guardedIn 8 = .ok (.getfield 59, 3) := by decide +kernel
theorem dX0_guardedIn_11 : decode cX0_guardedIn 11 = .ok (.if_icmp .ge 47, 3) := by decide +kernel
theorem dX0_guardedIn_14 : decode cX0_guardedIn 14 = .ok (.iload 4, 2) := by decide +kernel
theorem dX0_guardedIn_16 : decode cX0_guardedIn 16 = .ok (.iload_n 2, 1) := by decide +kernel
theorem dX0_guardedIn_17 : decode cX0_guardedIn 17 = .ok (.if_icmp .eq 35, 3) := by decide +kernel
theorem dX0_guardedIn_20 : decode cX0_guardedIn 20 = .ok (.aload_n 0, 1) := by decide +kernel
theorem dX0_guardedIn_21 : decode cX0_guardedIn 21 = .ok (.getfield 31, 3) := by decide +kernel
theorem dX0_guardedIn_24 : decode cX0_guardedIn 24 = .ok (.iload 4, 2) := by decide +kernel
theorem dX0_guardedIn_26 : decode cX0_guardedIn 26 = .ok (.iaload, 1) := by decide +kernel
theorem dX0_guardedIn_27 : decode cX0_guardedIn 27 = .ok (.iload_n 1, 1) := by decide +kernel
theorem dX0_guardedIn_28 : decode cX0_guardedIn 28 = .ok (.if_icmp .gt 24, 3) := by decide +kernel
theorem dX0_guardedIn_31 : decode cX0_guardedIn 31 = .ok (.iload_n 1, 1) := by decide +kernel
theorem dX0_guardedIn_32 : decode cX0_guardedIn 32 = .ok (.aload_n 0, 1) := by decide +kernel
theorem dX0_guardedIn_33 : decode cX0_guardedIn 33 = .ok (.getfield 34, 3) := by decide +kernel
theorem dX0_guardedIn_36 : decode cX0_guardedIn 36 = .ok (.iload 4, 2) := by decide +kernel
theorem dX0_guardedIn_38 : decode cX0_guardedIn 38 = .ok (.iaload, 1) := by decide +kernel
theorem dX0_guardedIn_39 : decode cX0_guardedIn 39 = .ok (.if_icmp .gt 13, 3) := by decide +kernel
theorem dX0_guardedIn_42 : decode cX0_guardedIn 42 = .ok (.iload_n 3, 1) := by decide +kernel
theorem dX0_guardedIn_43 : decode cX0_guardedIn 43 = .ok (.aload_n 0, 1) := by decide +kernel
theorem dX0_guardedIn_44 : decode cX0_guardedIn 44 = .ok (.getfield 28, 3) := by decide +kernel
theorem dX0_guardedIn_47 : decode cX0_guardedIn 47 = .ok (.iload 4, 2) := by decide +kernel
theorem dX0_guardedIn_49 : decode cX0_guardedIn 49 = .ok (.iaload, 1) := by decide +kernel
theorem dX0_guardedIn_50 : decode cX0_guardedIn 50 = .ok (.ior, 1) := by decide +kernel
theorem dX0_guardedIn_51 : decode cX0_guardedIn 51 = .ok (.istore_n 3, 1) := by decide +kernel
theorem dX0_guardedIn_52 : decode cX0_guardedIn 52 = .ok (.iinc 4 1, 3) := by decide +kernel
theorem dX0_guardedIn_55 : decode cX0_guardedIn 55 = .ok (.goto (-50), 3) := by decide +kernel
theorem dX0_guardedIn_58 : decode cX0_guardedIn 58 = .ok (.iload_n 3, 1) := by decide +kernel
theorem dX0_guardedIn_59 : decode cX0_guardedIn 59 = .ok (.ireturn, 1) := by decide +kernel
theorem dX0_partsOf_0 : decode cX0_partsOf 0 = .ok (.iload_n 1, 1) := by decide +kernel
theorem dX0_partsOf_1 : decode cX0_partsOf 1 = .ok (.istore_n 2, 1) := by decide +kernel
theorem dX0_partsOf_2 : decode cX0_partsOf 2 = .ok (.iconst 0, 1) := by decide +kernel
theorem dX0_partsOf_3 : decode cX0_partsOf 3 = .ok (.istore_n 3, 1) := by decide +kernel
theorem dX0_partsOf_4 : decode cX0_partsOf 4 = .ok (.iconst 0, 1) := by decide +kernel
theorem dX0_partsOf_5 : decode cX0_partsOf 5 = .ok (.istore 4, 2) := by decide +kernel
theorem dX0_partsOf_7 : decode cX0_partsOf 7 = .ok (.iload 4, 2) := by decide +kernel
theorem dX0_partsOf_9 : decode cX0_partsOf 9 = .ok (.bipush 24, 2) := by decide +kernel
theorem dX0_partsOf_11 : decode cX0_partsOf 11 = .ok (.if_icmp .ge 26, 3) := by decide +kernel
theorem dX0_partsOf_14 : decode cX0_partsOf 14 = .ok (.iload_n 2, 1) := by decide +kernel
theorem dX0_partsOf_15 : decode cX0_partsOf 15 = .ok (.ifCond .eq 22, 3) := by decide +kernel
theorem dX0_partsOf_18 : decode cX0_partsOf 18 = .ok (.iload_n 2, 1) := by decide +kernel
theorem dX0_partsOf_19 : decode cX0_partsOf 19 = .ok (.aload_n 0, 1) := by decide +kernel
theorem dX0_partsOf_20 : decode cX0_partsOf 20 = .ok (.iload_n 2, 1) := by decide +kernel
theorem dX0_partsOf_21 : decode cX0_partsOf 21 = .ok (.invokevirtual 95, 3) := by decide +kernel
theorem dX0_partsOf_24 : decode cX0_partsOf 24 = .ok (.iconst (-1), 1) := by decide +kernel
theorem dX0_partsOf_25 : decode cX0_partsOf 25 = .ok (.ixor, 1) := by decide +kernel
theorem dX0_partsOf_26 : decode cX0_partsOf 26 = .ok (.iand, 1) := by decide +kernel
theorem dX0_partsOf_27 : decode cX0_partsOf 27 = .ok (.istore_n 2, 1) := by decide +kernel
theorem dX0_partsOf_28 : decode cX0_partsOf 28 = .ok (.iinc 3 1, 3) := by decide +kernel
theorem dX0_partsOf_31 : decode cX0_partsOf 31 = .ok (.iinc 4 1, 3) := by decide +kernel
theorem dX0_partsOf_34 : decode cX0_partsOf 34 = .ok (.goto (-27), 3) := by decide +kernel
theorem dX0_partsOf_37 : decode cX0_partsOf 37 = .ok (.iload_n 3, 1) := by decide +kernel
theorem dX0_partsOf_38 : decode cX0_partsOf 38 = .ok (.ireturn, 1) := by decide +kernel
theorem dX0_partStart_0 : decode cX0_partStart 0 = .ok (.iload_n 1, 1) := by decide +kernel
theorem dX0_partStart_1 : decode cX0_partStart 1 = .ok (.istore_n 3, 1) := by decide +kernel
theorem dX0_partStart_2 : decode cX0_partStart 2 = .ok (.iconst 0, 1) := by decide +kernel
theorem dX0_partStart_3 : decode cX0_partStart 3 = .ok (.istore 4, 2) := by decide +kernel
theorem dX0_partStart_5 : decode cX0_partStart 5 = .ok (.iload 4, 2) := by decide +kernel
theorem dX0_partStart_7 : decode cX0_partStart 7 = .ok (.iload_n 2, 1) := by decide +kernel
theorem dX0_partStart_8 : decode cX0_partStart 8 = .ok (.if_icmp .ge 19, 3) := by decide +kernel
theorem dX0_partStart_11 : decode cX0_partStart 11 = .ok (.iload_n 3, 1) := by decide +kernel
theorem dX0_partStart_12 : decode cX0_partStart 12 = .ok (.aload_n 0, 1) := by decide +kernel
theorem dX0_partStart_13 : decode cX0_partStart 13 = .ok (.iload_n 3, 1) := by decide +kernel
theorem dX0_partStart_14 : decode cX0_partStart 14 = .ok (.invokevirtual 95, 3) := by decide +kernel
theorem dX0_partStart_17 : decode cX0_partStart 17 = .ok (.iconst (-1), 1) := by decide +kernel
theorem dX0_partStart_18 : decode cX0_partStart 18 = .ok (.ixor, 1) := by decide +kernel
theorem dX0_partStart_19 : decode cX0_partStart 19 = .ok (.iand, 1) := by decide +kernel
theorem dX0_partStart_20 : decode cX0_partStart 20 = .ok (.istore_n 3, 1) := by decide +kernel
theorem dX0_partStart_21 : decode cX0_partStart 21 = .ok (.iinc 4 1, 3) := by decide +kernel
theorem dX0_partStart_24 : decode cX0_partStart 24 = .ok (.goto (-19), 3) := by decide +kernel
theorem dX0_partStart_27 : decode cX0_partStart 27 = .ok (.iload_n 3, 1) := by decide +kernel
theorem dX0_partStart_28 : decode cX0_partStart 28 = .ok (.invokestatic 98, 3) := by decide +kernel
theorem dX0_partStart_31 : decode cX0_partStart 31 = .ok (.ireturn, 1) := by decide +kernel
theorem dX0_firstPart_0 : decode cX0_firstPart 0 = .ok (.iload_n 1, 1) := by decide +kernel
theorem dX0_firstPart_1 : decode cX0_firstPart 1 = .ok (.iload_n 1, 1) := by decide +kernel
theorem dX0_firstPart_2 : decode cX0_firstPart 2 = .ok (.ineg, 1) := by decide +kernel
theorem dX0_firstPart_3 : decode cX0_firstPart 3 = .ok (.iand, 1) := by decide +kernel
theorem dX0_firstPart_4 : decode cX0_firstPart 4 = .ok (.istore_n 2, 1) := by decide +kernel
theorem dX0_firstPart_5 : decode cX0_firstPart 5 = .ok (.iconst 0, 1) := by decide +kernel
theorem dX0_firstPart_6 : decode cX0_firstPart 6 = .ok (.istore_n 3, 1) := by decide +kernel
theorem dX0_firstPart_7 : decode cX0_firstPart 7 = .ok (.iload_n 3, 1) := by decide +kernel
theorem dX0_firstPart_8 : decode cX0_firstPart 8 = .ok (.bipush 24, 2) := by decide +kernel
theorem dX0_firstPart_10 : decode cX0_firstPart 10 = .ok (.if_icmp .ge 32, 3) := by decide +kernel
theorem dX0_firstPart_13 : decode cX0_firstPart 13 = .ok (.iload_n 2, 1) := by decide +kernel
theorem dX0_firstPart_14 : decode cX0_firstPart 14 = .ok (.aload_n 0, 1) := by decide +kernel
theorem dX0_firstPart_15 : decode cX0_firstPart 15 = .ok (.iload_n 2, 1) := by decide +kernel
theorem dX0_firstPart_16 : decode cX0_firstPart 16 = .ok (.invokevirtual 101, 3) := by decide +kernel
theorem dX0_firstPart_19 : decode cX0_firstPart 19 = .ok (.iload_n 1, 1) := by decide +kernel
theorem dX0_firstPart_20 : decode cX0_firstPart 20 = .ok (.iand, 1) := by decide +kernel
theorem dX0_firstPart_21 : decode cX0_firstPart 21 = .ok (.ior, 1) := by decide +kernel
theorem dX0_firstPart_22 : decode cX0_firstPart 22 = .ok (.istore 4, 2) := by decide +kernel
theorem dX0_firstPart_24 : decode cX0_firstPart 24 = .ok (.iload 4, 2) := by decide +kernel
theorem dX0_firstPart_26 : decode cX0_firstPart 26 = .ok (.iload_n 2, 1) := by decide +kernel
theorem dX0_firstPart_27 : decode cX0_firstPart 27 = .ok (.if_icmp .ne 6, 3) := by decide +kernel
theorem dX0_firstPart_30 : decode cX0_firstPart 30 = .ok (.goto 12, 3) := by decide +kernel
theorem dX0_firstPart_33 : decode cX0_firstPart 33 = .ok (.iload 4, 2) := by decide +kernel
theorem dX0_firstPart_35 : decode cX0_firstPart 35 = .ok (.istore_n 2, 1) := by decide +kernel
theorem dX0_firstPart_36 : decode cX0_firstPart 36 = .ok (.iinc 3 1, 3) := by decide +kernel
theorem dX0_firstPart_39 : decode cX0_firstPart 39 = .ok (.goto (-32), 3) := by decide +kernel
theorem dX0_firstPart_42 : decode cX0_firstPart 42 = .ok (.iload_n 2, 1) := by decide +kernel
theorem dX0_firstPart_43 : decode cX0_firstPart 43 = .ok (.ireturn, 1) := by decide +kernel
theorem dX0_besides_0 : decode cX0_besides 0 = .ok (.iconst 0, 1) := by decide +kernel
theorem dX0_besides_1 : decode cX0_besides 1 = .ok (.istore_n 2, 1) := by decide +kernel
theorem dX0_besides_2 : decode cX0_besides 2 = .ok (.iconst 0, 1) := by decide +kernel
theorem dX0_besides_3 : decode cX0_besides 3 = .ok (.istore_n 3, 1) := by decide +kernel
theorem dX0_besides_4 : decode cX0_besides 4 = .ok (.iload_n 3, 1) := by decide +kernel
theorem dX0_besides_5 : decode cX0_besides 5 = .ok (.aload_n 0, 1) := by decide +kernel
theorem dX0_besides_6 : decode cX0_besides 6 = .ok (.getfield 44, 3) := by decide +kernel
theorem dX0_besides_9 : decode cX0_besides 9 = .ok (.if_icmp .ge 20, 3) := by decide +kernel
theorem dX0_besides_12 : decode cX0_besides 12 = .ok (.iload_n 2, 1) := by decide +kernel
theorem dX0_besides_13 : decode cX0_besides 13 = .ok (.iconst 1, 1) := by decide +kernel
theorem dX0_besides_14 : decode cX0_besides 14 = .ok (.iload_n 3, 1) := by decide +kernel
theorem dX0_besides_15 : decode cX0_besides 15 = .ok (.aload_n 0, 1) := by decide +kernel
theorem dX0_besides_16 : decode cX0_besides 16 = .ok (.getfield 40, 3) := by decide +kernel
theorem dX0_besides_19 : decode cX0_besides 19 = .ok (.imul, 1) := by decide +kernel
theorem dX0_besides_20 : decode cX0_besides 20 = .ok (.ishl, 1) := by decide +kernel
theorem dX0_besides_21 : decode cX0_besides 21 = .ok (.ior, 1) := by decide +kernel
theorem dX0_besides_22 : decode cX0_besides 22 = .ok (.istore_n 2, 1) := by decide +kernel
theorem dX0_besides_23 : decode cX0_besides 23 = .ok (.iinc 3 1, 3) := by decide +kernel
theorem dX0_besides_26 : decode cX0_besides 26 = .ok (.goto (-22), 3) := by decide +kernel
theorem dX0_besides_29 : decode cX0_besides 29 = .ok (.iload_n 1, 1) := by decide +kernel
theorem dX0_besides_30 : decode cX0_besides 30 = .ok (.iconst 1, 1) := by decide +kernel
theorem dX0_besides_31 : decode cX0_besides 31 = .ok (.ishl, 1) := by decide +kernel
theorem dX0_besides_32 : decode cX0_besides 32 = .ok (.iload_n 2, 1) := by decide +kernel
theorem dX0_besides_33 : decode cX0_besides 33 = .ok (.iconst (-1), 1) := by decide +kernel
theorem dX0_besides_34 : decode cX0_besides 34 = .ok (.ixor, 1) := by decide +kernel
theorem dX0_besides_35 : decode cX0_besides 35 = .ok (.iand, 1) := by decide +kernel
theorem dX0_besides_36 : decode cX0_besides 36 = .ok (.iload_n 1, 1) := by decide +kernel
theorem dX0_besides_37 : decode cX0_besides 37 = .ok (.iload_n 2, 1) := by decide +kernel
theorem dX0_besides_38 : decode cX0_besides 38 = .ok (.iconst (-1), 1) := by decide +kernel
theorem dX0_besides_39 : decode cX0_besides 39 = .ok (.ixor, 1) := by decide +kernel
theorem dX0_besides_40 : decode cX0_besides 40 = .ok (.iand, 1) := by decide +kernel
theorem dX0_besides_41 : decode cX0_besides 41 = .ok (.iconst 1, 1) := by decide +kernel
theorem dX0_besides_42 : decode cX0_besides 42 = .ok (.ishr, 1) := by decide +kernel
theorem dX0_besides_43 : decode cX0_besides 43 = .ok (.ior, 1) := by decide +kernel
theorem dX0_besides_44 : decode cX0_besides 44 = .ok (.istore_n 3, 1) := by decide +kernel
theorem dX0_besides_45 : decode cX0_besides 45 = .ok (.iload_n 3, 1) := by decide +kernel
theorem dX0_besides_46 : decode cX0_besides 46 = .ok (.iload_n 1, 1) := by decide +kernel
theorem dX0_besides_47 : decode cX0_besides 47 = .ok (.aload_n 0, 1) := by decide +kernel
theorem dX0_besides_48 : decode cX0_besides 48 = .ok (.getfield 40, 3) := by decide +kernel
theorem dX0_besides_51 : decode cX0_besides 51 = .ok (.ishl, 1) := by decide +kernel
theorem dX0_besides_52 : decode cX0_besides 52 = .ok (.ior, 1) := by decide +kernel
theorem dX0_besides_53 : decode cX0_besides 53 = .ok (.iload_n 1, 1) := by decide +kernel
theorem dX0_besides_54 : decode cX0_besides 54 = .ok (.aload_n 0, 1) := by decide +kernel
theorem dX0_besides_55 : decode cX0_besides 55 = .ok (.getfield 40, 3) := by decide +kernel
theorem dX0_besides_58 : decode cX0_besides 58 = .ok (.ishr, 1) := by decide +kernel
theorem dX0_besides_59 : decode cX0_besides 59 = .ok (.ior, 1) := by decide +kernel
theorem dX0_besides_60 : decode cX0_besides 60 = .ok (.ireturn, 1) := by decide +kernel
theorem dX1_verdict_0 : decode cX1_verdict 0 = .ok (.aload_n 1, 1) := by decide +kernel
theorem dX1_verdict_1 : decode cX1_verdict 1 = .ok (.iload_n 2, 1) := by decide +kernel
theorem dX1_verdict_2 : decode cX1_verdict 2 = .ok (.invokevirtual 9, 3) := by decide +kernel
theorem dX1_verdict_5 : decode cX1_verdict 5 = .ok (.istore_n 3, 1) := by decide +kernel
theorem dX1_verdict_6 : decode cX1_verdict 6 = .ok (.aload_n 0, 1) := by decide +kernel
theorem dX1_verdict_7 : decode cX1_verdict 7 = .ok (.invokevirtual 15, 3) := by decide +kernel
theorem dX1_verdict_10 : decode cX1_verdict 10 = .ok (.iload_n 3, 1) := by decide +kernel
theorem dX1_verdict_11 : decode cX1_verdict 11 = .ok (.iconst (-1), 1) := by decide +kernel
theorem dX1_verdict_12 : decode cX1_verdict 12 = .ok (.ixor, 1) := by decide +kernel
theorem dX1_verdict_13 : decode cX1_verdict 13 = .ok (.iand, 1) := by decide +kernel
theorem dX1_verdict_14 : decode cX1_verdict 14 = .ok (.istore 4, 2) := by decide +kernel
theorem dX1_verdict_16 : decode cX1_verdict 16 = .ok (.iload 4, 2) := by decide +kernel
theorem dX1_verdict_18 : decode cX1_verdict 18 = .ok (.invokestatic 21, 3) := by decide +kernel
theorem dX1_verdict_21 : decode cX1_verdict 21 = .ok (.aload_n 0, 1) := by decide +kernel
theorem dX1_verdict_22 : decode cX1_verdict 22 = .ok (.getfield 26, 3) := by decide +kernel
theorem dX1_verdict_25 : decode cX1_verdict 25 = .ok (.if_icmp .ge 5, 3) := by decide +kernel
theorem dX1_verdict_28 : decode cX1_verdict 28 = .ok (.iconst 1, 1) := by decide +kernel
theorem dX1_verdict_29 : decode cX1_verdict 29 = .ok (.ireturn, 1) := by decide +kernel
theorem dX1_verdict_30 : decode cX1_verdict 30 = .ok (.aload_n 0, 1) := by decide +kernel
theorem dX1_verdict_31 : decode cX1_verdict 31 = .ok (.getfield 32, 3) := by decide +kernel
theorem dX1_verdict_34 : decode cX1_verdict 34 = .ok (.ifCond .eq 18, 3) := by decide +kernel
theorem dX1_verdict_37 : decode cX1_verdict 37 = .ok (.aload_n 0, 1) := by decide +kernel
theorem dX1_verdict_38 : decode cX1_verdict 38 = .ok (.iload 4, 2) := by decide +kernel
theorem dX1_verdict_40 : decode cX1_verdict 40 = .ok (.invokevirtual 35, 3) := by decide +kernel
theorem dX1_verdict_43 : decode cX1_verdict 43 = .ok (.aload_n 0, 1) := by decide +kernel
theorem dX1_verdict_44 : decode cX1_verdict 44 = .ok (.getfield 32, 3) := by decide +kernel
theorem dX1_verdict_47 : decode cX1_verdict 47 = .ok (.if_icmp .le 5, 3) := by decide +kernel
theorem dX1_verdict_50 : decode cX1_verdict 50 = .ok (.iconst 2, 1) := by decide +kernel
theorem dX1_verdict_51 : decode cX1_verdict 51 = .ok (.ireturn, 1) := by decide +kernel
theorem dX1_verdict_52 : decode cX1_verdict 52 = .ok (.iload_n 3, 1) := by decide +kernel
theorem dX1_verdict_53 : decode cX1_verdict 53 = .ok (.aload_n 0, 1) := by decide +kernel
theorem dX1_verdict_54 : decode cX1_verdict 54 = .ok (.aload_n 1, 1) := by decide +kernel
theorem dX1_verdict_55 : decode cX1_verdict 55 = .ok (.iload_n 2, 1) := by decide +kernel
theorem dX1_verdict_56 : decode cX1_verdict 56 = .ok (.invokevirtual 38, 3) := by decide +kernel
theorem dX1_verdict_59 : decode cX1_verdict 59 = .ok (.iconst (-1), 1) := by decide +kernel
theorem dX1_verdict_60 : decode cX1_verdict 60 = .ok (.invokevirtual 41, 3) := by decide +kernel
theorem dX1_verdict_63 : decode cX1_verdict 63 = .ok (.iand, 1) := by decide +kernel
theorem dX1_verdict_64 : decode cX1_verdict 64 = .ok (.ifCond .eq 5, 3) := by decide +kernel
theorem dX1_verdict_67 : decode cX1_verdict 67 = .ok (.iconst 3, 1) := by decide +kernel
theorem dX1_verdict_68 : decode cX1_verdict 68 = .ok (.ireturn, 1) := by decide +kernel
theorem dX1_verdict_69 : decode cX1_verdict 69 = .ok (.aload_n 0, 1) := by decide +kernel
theorem dX1_verdict_70 : decode cX1_verdict 70 = .ok (.aload_n 1, 1) := by decide +kernel
theorem dX1_verdict_71 : decode cX1_verdict 71 = .ok (.iload_n 2, 1) := by decide +kernel
theorem dX1_verdict_72 : decode cX1_verdict 72 = .ok (.invokestatic 45, 3) := by decide +kernel
theorem dX1_verdict_75 : decode cX1_verdict 75 = .ok (.ifCond .eq 7, 3) := by decide +kernel
theorem dX1_verdict_78 : decode cX1_verdict 78 = .ok (.iconst 4, 1) := by decide +kernel
theorem dX1_verdict_79 : decode cX1_verdict 79 = .ok (.goto 4, 3) := by decide +kernel
theorem dX1_verdict_82 : decode cX1_verdict 82 = .ok (.iconst 0, 1) := by decide +kernel
theorem dX1_verdict_83 : decode cX1_verdict 83 = .ok (.ireturn, 1) := by decide +kernel
theorem dX1_breach_0 : decode cX1_breach 0 = .ok (.aload_n 1, 1) := by decide +kernel
theorem dX1_breach_1 : decode cX1_breach 1 = .ok (.iload_n 2, 1) := by decide +kernel
theorem dX1_breach_2 : decode cX1_breach 2 = .ok (.invokevirtual 9, 3) := by decide +kernel
theorem dX1_breach_5 : decode cX1_breach 5 = .ok (.istore_n 3, 1) := by decide +kernel
theorem dX1_breach_6 : decode cX1_breach 6 = .ok (.aload_n 0, 1) := by decide +kernel
theorem dX1_breach_7 : decode cX1_breach 7 = .ok (.aload_n 1, 1) := by decide +kernel
theorem dX1_breach_8 : decode cX1_breach 8 = .ok (.iload_n 2, 1) := by decide +kernel
theorem dX1_breach_9 : decode cX1_breach 9 = .ok (.invokestatic 49, 3) := by decide +kernel
theorem dX1_breach_12 : decode cX1_breach 12 = .ok (.tableswitch 89 1 4 #[32, 46, 63, 79], 32) := by decide +kernel
theorem dX1_breach_44 : decode cX1_breach 44 = .ok (.iload_n 3, 1) := by decide +kernel
theorem dX1_breach_45 : decode cX1_breach 45 = .ok (.aload_n 0, 1) := by decide +kernel
theorem dX1_breach_46 : decode cX1_breach 46 = .ok (.invokevirtual 52, 3) := by decide +kernel
theorem dX1_breach_49 : decode cX1_breach 49 = .ok (.aload_n 0, 1) := by decide +kernel
theorem dX1_breach_50 : decode cX1_breach 50 = .ok (.getfield 26, 3) := by decide +kernel
theorem dX1_breach_53 : decode cX1_breach 53 = .ok (.isub, 1) := by decide +kernel
theorem dX1_breach_54 : decode cX1_breach 54 = .ok (.invokestatic 55, 3) := by decide +kernel
theorem dX1_breach_57 : decode cX1_breach 57 = .ok (.ireturn, 1) := by decide +kernel
theorem dX1_breach_58 : decode cX1_breach 58 = .ok (.aload_n 0, 1) := by decide +kernel
theorem dX1_breach_59 : decode cX1_breach 59 = .ok (.aload_n 0, 1) := by decide +kernel
theorem dX1_breach_60 : decode cX1_breach 60 = .ok (.invokevirtual 15, 3) := by decide +kernel
theorem dX1_breach_63 : decode cX1_breach 63 = .ok (.iload_n 3, 1) := by decide +kernel
theorem dX1_breach_64 : decode cX1_breach 64 = .ok (.iconst (-1), 1) := by decide +kernel
theorem dX1_breach_65 : decode cX1_breach 65 = .ok (.ixor, 1) := by decide +kernel
theorem dX1_breach_66 : decode cX1_breach 66 = .ok (.iand, 1) := by decide +kernel
theorem dX1_breach_67 : decode cX1_breach 67 = .ok (.aload_n 0, 1) := by decide +kernel
theorem dX1_breach_68 : decode cX1_breach 68 = .ok (.getfield 32, 3) := by decide +kernel
theorem dX1_breach_71 : decode cX1_breach 71 = .ok (.invokevirtual 58, 3) := by decide +kernel
theorem dX1_breach_74 : decode cX1_breach 74 = .ok (.ireturn, 1) := by decide +kernel
theorem dX1_breach_75 : decode cX1_breach 75 = .ok (.iload_n 3, 1) := by decide +kernel
theorem dX1_breach_76 : decode cX1_breach 76 = .ok (.aload_n 0, 1) := by decide +kernel
theorem dX1_breach_77 : decode cX1_breach 77 = .ok (.aload_n 1, 1) := by decide +kernel
theorem dX1_breach_78 : decode cX1_breach 78 = .ok (.iload_n 2, 1) := by decide +kernel
theorem dX1_breach_79 : decode cX1_breach 79 = .ok (.invokevirtual 38, 3) := by decide +kernel
theorem dX1_breach_82 : decode cX1_breach 82 = .ok (.iconst (-1), 1) := by decide +kernel
theorem dX1_breach_83 : decode cX1_breach 83 = .ok (.invokevirtual 41, 3) := by decide +kernel
theorem dX1_breach_86 : decode cX1_breach 86 = .ok (.iand, 1) := by decide +kernel
theorem dX1_breach_87 : decode cX1_breach 87 = .ok (.invokestatic 61, 3) := by decide +kernel
theorem dX1_breach_90 : decode cX1_breach 90 = .ok (.ireturn, 1) := by decide +kernel
theorem dX1_breach_91 : decode cX1_breach 91 = .ok (.aload_n 0, 1) := by decide +kernel
theorem dX1_breach_92 : decode cX1_breach 92 = .ok (.aload_n 1, 1) := by decide +kernel
theorem dX1_breach_93 : decode cX1_breach 93 = .ok (.iload_n 2, 1) := by decide +kernel
theorem dX1_breach_94 : decode cX1_breach 94 = .ok (.invokestatic 45, 3) := by decide +kernel
theorem dX1_breach_97 : decode cX1_breach 97 = .ok (.invokestatic 61, 3) := by decide +kernel
theorem dX1_breach_100 : decode cX1_breach 100 = .ok (.ireturn, 1) := by decide +kernel
theorem dX1_breach_101 : decode cX1_breach 101 = .ok (.bipush (-2), 2) := by decide +kernel
theorem dX1_breach_103 : decode cX1_breach 103 = .ok (.ireturn, 1) := by decide +kernel
theorem dX1_untimelyCells_0 : decode cX1_untimelyCells 0 = .ok (.iconst 0, 1) := by decide +kernel
theorem dX1_untimelyCells_1 : decode cX1_untimelyCells 1 = .ok (.istore_n 3, 1) := by decide +kernel
theorem dX1_untimelyCells_2 : decode cX1_untimelyCells 2 = .ok (.iconst 0, 1) := by decide +kernel
theorem dX1_untimelyCells_3 : decode cX1_untimelyCells 3 = .ok (.istore 4, 2) := by decide +kernel
theorem dX1_untimelyCells_5 : decode cX1_untimelyCells 5 = .ok (.iload 4, 2) := by decide +kernel
theorem dX1_untimelyCells_7 : decode cX1_untimelyCells 7 = .ok (.aload_n 0, 1) := by decide +kernel
theorem dX1_untimelyCells_8 : decode cX1_untimelyCells 8 = .ok (.invokevirtual 52, 3) := by decide +kernel
theorem dX1_untimelyCells_11 : decode cX1_untimelyCells 11 = .ok (.if_icmp .ge 46, 3) := by decide +kernel
theorem dX1_untimelyCells_14 : decode cX1_untimelyCells 14 = .ok (.aload_n 1, 1) := by decide +kernel
theorem dX1_untimelyCells_15 : decode cX1_untimelyCells 15 = .ok (.iload_n 2, 1) := by decide +kernel
theorem dX1_untimelyCells_16 : decode cX1_untimelyCells 16 = .ok (.iload 4, 2) := by decide +kernel
theorem dX1_untimelyCells_18 : decode cX1_untimelyCells 18 = .ok (.invokevirtual 64, 3) := by decide +kernel
theorem dX1_untimelyCells_21 : decode cX1_untimelyCells 21 = .ok (.istore 5, 2) := by decide +kernel
theorem dX1_untimelyCells_23 : decode cX1_untimelyCells 23 = .ok (.iload 5, 2) := by decide +kernel
theorem dX1_untimelyCells_25 : decode cX1_untimelyCells 25 = .ok (.bipush (-2), 2) := by decide +kernel
theorem dX1_untimelyCells_27 : decode cX1_untimelyCells 27 = .ok (.if_icmp .eq 24, 3) := by decide +kernel
theorem dX1_untimelyCells_30 : decode cX1_untimelyCells 30 = .ok (.aload_n 0, 1) := by decide +kernel
theorem dX1_untimelyCells_31 : decode cX1_untimelyCells 31 = .ok (.iload 5, 2) := by decide +kernel
theorem dX1_untimelyCells_33 : decode cX1_untimelyCells 33 = .ok (.aload_n 1, 1) := by decide +kernel
theorem dX1_untimelyCells_34 : decode cX1_untimelyCells 34 = .ok (.iload_n 2, 1) := by decide +kernel
theorem dX1_untimelyCells_35 : decode cX1_untimelyCells 35 = .ok (.invokevirtual 38, 3) := by decide +kernel
theorem dX1_untimelyCells_38 : decode cX1_untimelyCells 38 = .ok (.invokevirtual 67, 3) := by decide +kernel
theorem dX1_untimelyCells_41 : decode cX1_untimelyCells 41 = .ok (.ifCond .ne 10, 3) := by decide +kernel
theorem dX1_untimelyCells_44 : decode cX1_untimelyCells 44 = .ok (.iload_n 3, 1) := by decide +kernel
theorem dX1_untimelyCells_45 : decode cX1_untimelyCells 45 = .ok (.iconst 1, 1) := by decide +kernel
theorem dX1_untimelyCells_46 : decode cX1_untimelyCells 46 = .ok (.iload 4, 2) := by decide +kernel
theorem dX1_untimelyCells_48 : decode cX1_untimelyCells 48 = .ok (.ishl, 1) := by decide +kernel
theorem dX1_untimelyCells_49 : decode cX1_untimelyCells 49 = .ok (.ior, 1) := by decide +kernel
theorem dX1_untimelyCells_50 : decode cX1_untimelyCells 50 = .ok (.istore_n 3, 1) := by decide +kernel
theorem dX1_untimelyCells_51 : decode cX1_untimelyCells 51 = .ok (.iinc 4 1, 3) := by decide +kernel
theorem dX1_untimelyCells_54 : decode cX1_untimelyCells 54 = .ok (.goto (-49), 3) := by decide +kernel
theorem dX1_untimelyCells_57 : decode cX1_untimelyCells 57 = .ok (.iload_n 3, 1) := by decide +kernel
theorem dX1_untimelyCells_58 : decode cX1_untimelyCells 58 = .ok (.ireturn, 1) := by decide +kernel
theorem dX1_cellBehind_0 : decode cX1_cellBehind 0 = .ok (.iload_n 0, 1) := by decide +kernel
theorem dX1_cellBehind_1 : decode cX1_cellBehind 1 = .ok (.istore_n 2, 1) := by decide +kernel
theorem dX1_cellBehind_2 : decode cX1_cellBehind 2 = .ok (.iconst 0, 1) := by decide +kernel
theorem dX1_cellBehind_3 : decode cX1_cellBehind 3 = .ok (.istore_n 3, 1) := by decide +kernel
theorem dX1_cellBehind_4 : decode cX1_cellBehind 4 = .ok (.iload_n 3, 1) := by decide +kernel
theorem dX1_cellBehind_5 : decode cX1_cellBehind 5 = .ok (.iload_n 1, 1) := by decide +kernel
theorem dX1_cellBehind_6 : decode cX1_cellBehind 6 = .ok (.if_icmp .ge 15, 3) := by decide +kernel
theorem dX1_cellBehind_9 : decode cX1_cellBehind 9 = .ok (.iload_n 2, 1) := by decide +kernel
theorem dX1_cellBehind_10 : decode cX1_cellBehind 10 = .ok (.iload_n 2, 1) := by decide +kernel
theorem dX1_cellBehind_11 : decode cX1_cellBehind 11 = .ok (.iconst 1, 1) := by decide +kernel
theorem dX1_cellBehind_12 : decode cX1_cellBehind 12 = .ok (.isub, 1) := by decide +kernel
theorem dX1_cellBehind_13 : decode cX1_cellBehind 13 = .ok (.iand, 1) := by decide +kernel
theorem dX1_cellBehind_14 : decode cX1_cellBehind 14 = .ok (.istore_n 2, 1) := by decide +kernel
theorem dX1_cellBehind_15 : decode cX1_cellBehind 15 = .ok (.iinc 3 1, 3) := by decide +kernel
theorem dX1_cellBehind_18 : decode cX1_cellBehind 18 = .ok (.goto (-14), 3) := by decide +kernel
theorem dX1_cellBehind_21 : decode cX1_cellBehind 21 = .ok (.iload_n 2, 1) := by decide +kernel
theorem dX1_cellBehind_22 : decode cX1_cellBehind 22 = .ok (.invokestatic 61, 3) := by decide +kernel
theorem dX1_cellBehind_25 : decode cX1_cellBehind 25 = .ok (.ireturn, 1) := by decide +kernel
theorem dX2_init_0 : decode cX2_init 0 = .ok (.aload_n 0, 1) := by decide +kernel
theorem dX2_init_1 : decode cX2_init 1 = .ok (.invokespecial 3, 3) := by decide +kernel
theorem dX2_init_4 : decode cX2_init 4 = .ok (.aload_n 0, 1) := by decide +kernel
theorem dX2_init_5 : decode cX2_init 5 = .ok (.bipush 12, 2) := by decide +kernel
theorem dX2_init_7 : decode cX2_init 7 = .ok (.newarray .int, 2) := by decide +kernel
theorem dX2_init_9 : decode cX2_init 9 = .ok (.putfield 9, 3) := by decide +kernel
theorem dX2_init_12 : decode cX2_init 12 = .ok (.aload_n 0, 1) := by decide +kernel
theorem dX2_init_13 : decode cX2_init 13 = .ok (.bipush 12, 2) := by decide +kernel
theorem dX2_init_15 : decode cX2_init 15 = .ok (.newarray .int, 2) := by decide +kernel
theorem dX2_init_17 : decode cX2_init 17 = .ok (.putfield 15, 3) := by decide +kernel
theorem dX2_init_20 : decode cX2_init 20 = .ok (.aload_n 0, 1) := by decide +kernel
theorem dX2_init_21 : decode cX2_init 21 = .ok (.sipush 4096, 3) := by decide +kernel
theorem dX2_init_24 : decode cX2_init 24 = .ok (.newarray .long, 2) := by decide +kernel
theorem dX2_init_26 : decode cX2_init 26 = .ok (.putfield 18, 3) := by decide +kernel
theorem dX2_init_29 : decode cX2_init 29 = .ok (.return_, 1) := by decide +kernel
theorem dX2_learn_0 : decode cX2_learn 0 = .ok (.aload_n 0, 1) := by decide +kernel
theorem dX2_learn_1 : decode cX2_learn 1 = .ok (.aload_n 1, 1) := by decide +kernel
theorem dX2_learn_2 : decode cX2_learn 2 = .ok (.getfield 22, 3) := by decide +kernel
theorem dX2_learn_5 : decode cX2_learn 5 = .ok (.bipush 12, 2) := by decide +kernel
theorem dX2_learn_7 : decode cX2_learn 7 = .ok (.invokestatic 28, 3) := by decide +kernel
theorem dX2_learn_10 : decode cX2_learn 10 = .ok (.putfield 34, 3) := by decide +kernel
theorem dX2_learn_13 : decode cX2_learn 13 = .ok (.iconst 0, 1) := by decide +kernel
theorem dX2_learn_14 : decode cX2_learn 14 = .ok (.istore_n 2, 1) := by decide +kernel
theorem dX2_learn_15 : decode cX2_learn 15 = .ok (.iload_n 2, 1) := by decide +kernel
theorem dX2_learn_16 : decode cX2_learn 16 = .ok (.aload_n 0, 1) := by decide +kernel
theorem dX2_learn_17 : decode cX2_learn 17 = .ok (.getfield 34, 3) := by decide +kernel
theorem dX2_learn_20 : decode cX2_learn 20 = .ok (.if_icmp .ge 75, 3) := by decide +kernel
theorem dX2_learn_23 : decode cX2_learn 23 = .ok (.aload_n 0, 1) := by decide +kernel
theorem dX2_learn_24 : decode cX2_learn 24 = .ok (.getfield 9, 3) := by decide +kernel
theorem dX2_learn_27 : decode cX2_learn 27 = .ok (.iload_n 2, 1) := by decide +kernel
theorem dX2_learn_28 : decode cX2_learn 28 = .ok (.aload_n 1, 1) := by decide +kernel
theorem dX2_learn_29 : decode cX2_learn 29 = .ok (.iload_n 2, 1) := by decide +kernel
theorem dX2_learn_30 : decode cX2_learn 30 = .ok (.invokevirtual 35, 3) := by decide +kernel
theorem dX2_learn_33 : decode cX2_learn 33 = .ok (.iastore, 1) := by decide +kernel
theorem dX2_learn_34 : decode cX2_learn 34 = .ok (.aload_n 0, 1) := by decide +kernel
theorem dX2_learn_35 : decode cX2_learn 35 = .ok (.getfield 15, 3) := by decide +kernel
theorem dX2_learn_38 : decode cX2_learn 38 = .ok (.iload_n 2, 1) := by decide +kernel
theorem dX2_learn_39 : decode cX2_learn 39 = .ok (.iconst 0, 1) := by decide +kernel
theorem dX2_learn_40 : decode cX2_learn 40 = .ok (.iastore, 1) := by decide +kernel
theorem dX2_learn_41 : decode cX2_learn 41 = .ok (.iconst 0, 1) := by decide +kernel
theorem dX2_learn_42 : decode cX2_learn 42 = .ok (.istore_n 3, 1) := by decide +kernel
theorem dX2_learn_43 : decode cX2_learn 43 = .ok (.iload_n 3, 1) := by decide +kernel
theorem dX2_learn_44 : decode cX2_learn 44 = .ok (.iload_n 2, 1) := by decide +kernel
theorem dX2_learn_45 : decode cX2_learn 45 = .ok (.if_icmp .ge 44, 3) := by decide +kernel
theorem dX2_learn_48 : decode cX2_learn 48 = .ok (.aload_n 0, 1) := by decide +kernel
theorem dX2_learn_49 : decode cX2_learn 49 = .ok (.getfield 9, 3) := by decide +kernel
theorem dX2_learn_52 : decode cX2_learn 52 = .ok (.iload_n 3, 1) := by decide +kernel
theorem dX2_learn_53 : decode cX2_learn 53 = .ok (.iaload, 1) := by decide +kernel
theorem dX2_learn_54 : decode cX2_learn 54 = .ok (.aload_n 0, 1) := by decide +kernel
theorem dX2_learn_55 : decode cX2_learn 55 = .ok (.getfield 9, 3) := by decide +kernel
theorem dX2_learn_58 : decode cX2_learn 58 = .ok (.iload_n 2, 1) := by decide +kernel
theorem dX2_learn_59 : decode cX2_learn 59 = .ok (.iaload, 1) := by decide +kernel
theorem dX2_learn_60 : decode cX2_learn 60 = .ok (.iand, 1) := by decide +kernel
theorem dX2_learn_61 : decode cX2_learn 61 = .ok (.ifCond .eq 22, 3) := by decide +kernel
theorem dX2_learn_64 : decode cX2_learn 64 = .ok (.aload_n 0, 1) := by decide +kernel
theorem dX2_learn_65 : decode cX2_learn 65 = .ok (.getfield 15, 3) := by decide +kernel
theorem dX2_learn_68 : decode cX2_learn 68 = .ok (.iload_n 2, 1) := by decide +kernel
theorem dX2_learn_69 : decode cX2_learn 69 = .ok (.dup2, 1) := by decide +kernel
theorem dX2_learn_70 : decode cX2_learn 70 = .ok (.iaload, 1) := by decide +kernel
theorem dX2_learn_71 : decode cX2_learn 71 = .ok (.aload_n 0, 1) := by decide +kernel
theorem dX2_learn_72 : decode cX2_learn 72 = .ok (.getfield 15, 3) := by decide +kernel
theorem dX2_learn_75 : decode cX2_learn 75 = .ok (.iload_n 3, 1) := by decide +kernel
theorem dX2_learn_76 : decode cX2_learn 76 = .ok (.iaload, 1) := by decide +kernel
theorem dX2_learn_77 : decode cX2_learn 77 = .ok (.iconst 1, 1) := by decide +kernel
theorem dX2_learn_78 : decode cX2_learn 78 = .ok (.iload_n 3, 1) := by decide +kernel
theorem dX2_learn_79 : decode cX2_learn 79 = .ok (.ishl, 1) := by decide +kernel
theorem dX2_learn_80 : decode cX2_learn 80 = .ok (.ior, 1) := by decide +kernel
theorem dX2_learn_81 : decode cX2_learn 81 = .ok (.ior, 1) := by decide +kernel
theorem dX2_learn_82 : decode cX2_learn 82 = .ok (.iastore, 1) := by decide +kernel
theorem dX2_learn_83 : decode cX2_learn 83 = .ok (.iinc 3 1, 3) := by decide +kernel
theorem dX2_learn_86 : decode cX2_learn 86 = .ok (.goto (-43), 3) := by decide +kernel
theorem dX2_learn_89 : decode cX2_learn 89 = .ok (.iinc 2 1, 3) := by decide +kernel
theorem dX2_learn_92 : decode cX2_learn 92 = .ok (.goto (-77), 3) := by decide +kernel
theorem dX2_learn_95 : decode cX2_learn 95 = .ok (.return_, 1) := by decide +kernel
theorem dX2_isSure_0 : decode cX2_isSure 0 = .ok (.iload_n 2, 1) := by decide +kernel
theorem dX2_isSure_1 : decode cX2_isSure 1 = .ok (.ifCond .lt 28, 3) := by decide +kernel
theorem dX2_isSure_4 : decode cX2_isSure 4 = .ok (.iload_n 2, 1) := by decide +kernel
theorem dX2_isSure_5 : decode cX2_isSure 5 = .ok (.aload_n 0, 1) := by decide +kernel
theorem dX2_isSure_6 : decode cX2_isSure 6 = .ok (.getfield 34, 3) := by decide +kernel
theorem dX2_isSure_9 : decode cX2_isSure 9 = .ok (.if_icmp .ge 20, 3) := by decide +kernel
theorem dX2_isSure_12 : decode cX2_isSure 12 = .ok (.aload_n 0, 1) := by decide +kernel
theorem dX2_isSure_13 : decode cX2_isSure 13 = .ok (.getfield 15, 3) := by decide +kernel
theorem dX2_isSure_16 : decode cX2_isSure 16 = .ok (.iload_n 2, 1) := by decide +kernel
theorem dX2_isSure_17 : decode cX2_isSure 17 = .ok (.iaload, 1) := by decide +kernel
theorem dX2_isSure_18 : decode cX2_isSure 18 = .ok (.iload_n 1, 1) := by decide +kernel
theorem dX2_isSure_19 : decode cX2_isSure 19 = .ok (.ishr, 1) := by decide +kernel
theorem dX2_isSure_20 : decode cX2_isSure 20 = .ok (.iconst 1, 1) := by decide +kernel
theorem dX2_isSure_21 : decode cX2_isSure 21 = .ok (.iand, 1) := by decide +kernel
theorem dX2_isSure_22 : decode cX2_isSure 22 = .ok (.ifCond .eq 7, 3) := by decide +kernel
theorem dX2_isSure_25 : decode cX2_isSure 25 = .ok (.iconst 1, 1) := by decide +kernel
theorem dX2_isSure_26 : decode cX2_isSure 26 = .ok (.goto 4, 3) := by decide +kernel
theorem dX2_isSure_29 : decode cX2_isSure 29 = .ok (.iconst 0, 1) := by decide +kernel
theorem dX2_isSure_30 : decode cX2_isSure 30 = .ok (.ireturn, 1) := by decide +kernel
theorem dX2_openPairs_0 : decode cX2_openPairs 0 = .ok (.aload_n 0, 1) := by decide +kernel
theorem dX2_openPairs_1 : decode cX2_openPairs 1 = .ok (.getfield 34, 3) := by decide +kernel
theorem dX2_openPairs_4 : decode cX2_openPairs 4 = .ok (.aload_n 0, 1) := by decide +kernel
theorem dX2_openPairs_5 : decode cX2_openPairs 5 = .ok (.getfield 34, 3) := by decide +kernel
theorem dX2_openPairs_8 : decode cX2_openPairs 8 = .ok (.iconst 1, 1) := by decide +kernel
theorem dX2_openPairs_9 : decode cX2_openPairs 9 = .ok (.isub, 1) := by decide +kernel
theorem dX2_openPairs_10 : decode cX2_openPairs 10 = .ok (.imul, 1) := by decide +kernel
theorem dX2_openPairs_11 : decode cX2_openPairs 11 = .ok (.iconst 2, 1) := by decide +kernel
theorem dX2_openPairs_12 : decode cX2_openPairs 12 = .ok (.idiv, 1) := by decide +kernel
theorem dX2_openPairs_13 : decode cX2_openPairs 13 = .ok (.istore_n 1, 1) := by decide +kernel
theorem dX2_openPairs_14 : decode cX2_openPairs 14 = .ok (.iconst 0, 1) := by decide +kernel
theorem dX2_openPairs_15 : decode cX2_openPairs 15 = .ok (.istore_n 2, 1) := by decide +kernel
theorem dX2_openPairs_16 : decode cX2_openPairs 16 = .ok (.iload_n 2, 1) := by decide +kernel
theorem dX2_openPairs_17 : decode cX2_openPairs 17 = .ok (.aload_n 0, 1) := by decide +kernel
theorem dX2_openPairs_18 : decode cX2_openPairs 18 = .ok (.getfield 34, 3) := by decide +kernel
theorem dX2_openPairs_21 : decode cX2_openPairs 21 = .ok (.if_icmp .ge 21, 3) := by decide +kernel
theorem dX2_openPairs_24 : decode cX2_openPairs 24 = .ok (.iload_n 1, 1) := by decide +kernel
theorem dX2_openPairs_25 : decode cX2_openPairs 25 = .ok (.aload_n 0, 1) := by decide +kernel
theorem dX2_openPairs_26 : decode cX2_openPairs 26 = .ok (.getfield 15, 3) := by decide +kernel
theorem dX2_openPairs_29 : decode cX2_openPairs 29 = .ok (.iload_n 2, 1) := by decide +kernel
theorem dX2_openPairs_30 : decode cX2_openPairs 30 = .ok (.iaload, 1) := by decide +kernel
theorem dX2_openPairs_31 : decode cX2_openPairs 31 = .ok (.invokestatic 39, 3) := by decide +kernel
theorem dX2_openPairs_34 : decode cX2_openPairs 34 = .ok (.isub, 1) := by decide +kernel
theorem dX2_openPairs_35 : decode cX2_openPairs 35 = .ok (.istore_n 1, 1) := by decide +kernel
theorem dX2_openPairs_36 : decode cX2_openPairs 36 = .ok (.iinc 2 1, 3) := by decide +kernel
theorem dX2_openPairs_39 : decode cX2_openPairs 39 = .ok (.goto (-23), 3) := by decide +kernel
theorem dX2_openPairs_42 : decode cX2_openPairs 42 = .ok (.iload_n 1, 1) := by decide +kernel
theorem dX2_openPairs_43 : decode cX2_openPairs 43 = .ok (.ireturn, 1) := by decide +kernel
theorem dX2_earliestPlace_0 : decode cX2_earliestPlace 0 = .ok (.iconst 0, 1) := by decide +kernel
theorem dX2_earliestPlace_1 : decode cX2_earliestPlace 1 = .ok (.istore_n 2, 1) := by decide +kernel
theorem dX2_earliestPlace_2 : decode cX2_earliestPlace 2 = .ok (.iconst 0, 1) := by decide +kernel
theorem dX2_earliestPlace_3 : decode cX2_earliestPlace 3 = .ok (.istore_n 3, 1) := by decide +kernel
theorem dX2_earliestPlace_4 : decode cX2_earliestPlace 4 = .ok (.iload_n 3, 1) := by decide +kernel
theorem dX2_earliestPlace_5 : decode cX2_earliestPlace 5 = .ok (.aload_n 0, 1) := by decide +kernel
theorem dX2_earliestPlace_6 : decode cX2_earliestPlace 6 = .ok (.getfield 34, 3) := by decide +kernel
theorem dX2_earliestPlace_9 : decode cX2_earliestPlace 9 = .ok (.if_icmp .ge 21, 3) := by decide +kernel
theorem dX2_earliestPlace_12 : decode cX2_earliestPlace 12 = .ok (.aload_n 0, 1) := by decide +kernel
theorem dX2_earliestPlace_13 : decode cX2_earliestPlace 13 = .ok (.iload_n 3, 1) := by decide +kernel
theorem dX2_earliestPlace_14 : decode cX2_earliestPlace 14 = .ok (.iload_n 1, 1) := by decide +kernel
theorem dX2_earliestPlace_15 : decode cX2_earliestPlace 15 = .ok (.invokevirtual 44, 3) := by decide +kernel
theorem dX2_earliestPlace_18 : decode cX2_earliestPlace 18 = .ok (.ifCond .eq 6, 3) := by decide +kernel
theorem dX2_earliestPlace_21 : decode cX2_earliestPlace 21 = .ok (.iinc 2 1, 3) := by decide +kernel
theorem dX2_earliestPlace_24 : decode cX2_earliestPlace 24 = .ok (.iinc 3 1, 3) := by decide +kernel
theorem dX2_earliestPlace_27 : decode cX2_earliestPlace 27 = .ok (.goto (-23), 3) := by decide +kernel
theorem dX2_earliestPlace_30 : decode cX2_earliestPlace 30 = .ok (.iload_n 2, 1) := by decide +kernel
theorem dX2_earliestPlace_31 : decode cX2_earliestPlace 31 = .ok (.ireturn, 1) := by decide +kernel
theorem dX2_latestPlace_0 : decode cX2_latestPlace 0 = .ok (.aload_n 0, 1) := by decide +kernel
theorem dX2_latestPlace_1 : decode cX2_latestPlace 1 = .ok (.getfield 34, 3) := by decide +kernel
theorem dX2_latestPlace_4 : decode cX2_latestPlace 4 = .ok (.iconst 1, 1) := by decide +kernel
theorem dX2_latestPlace_5 : decode cX2_latestPlace 5 = .ok (.isub, 1) := by decide +kernel
theorem dX2_latestPlace_6 : decode cX2_latestPlace 6 = .ok (.istore_n 2, 1) := by decide +kernel
theorem dX2_latestPlace_7 : decode cX2_latestPlace 7 = .ok (.iconst 0, 1) := by decide +kernel
theorem dX2_latestPlace_8 : decode cX2_latestPlace 8 = .ok (.istore_n 3, 1) := by decide +kernel
theorem dX2_latestPlace_9 : decode cX2_latestPlace 9 = .ok (.iload_n 3, 1) := by decide +kernel
theorem dX2_latestPlace_10 : decode cX2_latestPlace 10 = .ok (.aload_n 0, 1) := by decide +kernel
theorem dX2_latestPlace_11 : decode cX2_latestPlace 11 = .ok (.getfield 34, 3) := by decide +kernel
theorem dX2_latestPlace_14 : decode cX2_latestPlace 14 = .ok (.if_icmp .ge 21, 3) := by decide +kernel
theorem dX2_latestPlace_17 : decode cX2_latestPlace 17 = .ok (.aload_n 0, 1) := by decide +kernel
theorem dX2_latestPlace_18 : decode cX2_latestPlace 18 = .ok (.iload_n 1, 1) := by decide +kernel
theorem dX2_latestPlace_19 : decode cX2_latestPlace 19 = .ok (.iload_n 3, 1) := by decide +kernel
theorem dX2_latestPlace_20 : decode cX2_latestPlace 20 = .ok (.invokevirtual 44, 3) := by decide +kernel
theorem dX2_latestPlace_23 : decode cX2_latestPlace 23 = .ok (.ifCond .eq 6, 3) := by decide +kernel
theorem dX2_latestPlace_26 : decode cX2_latestPlace 26 = .ok (.iinc 2 (-1), 3) := by decide +kernel
theorem dX2_latestPlace_29 : decode cX2_latestPlace 29 = .ok (.iinc 3 1, 3) := by decide +kernel
theorem dX2_latestPlace_32 : decode cX2_latestPlace 32 = .ok (.goto (-23), 3) := by decide +kernel
theorem dX2_latestPlace_35 : decode cX2_latestPlace 35 = .ok (.iload_n 2, 1) := by decide +kernel
theorem dX2_latestPlace_36 : decode cX2_latestPlace 36 = .ok (.ireturn, 1) := by decide +kernel
theorem dX2_countAll_0 : decode cX2_countAll 0 = .ok (.iconst 1, 1) := by decide +kernel
theorem dX2_countAll_1 : decode cX2_countAll 1 = .ok (.aload_n 0, 1) := by decide +kernel
theorem dX2_countAll_2 : decode cX2_countAll 2 = .ok (.getfield 34, 3) := by decide +kernel
theorem dX2_countAll_5 : decode cX2_countAll 5 = .ok (.ishl, 1) := by decide +kernel
theorem dX2_countAll_6 : decode cX2_countAll 6 = .ok (.istore_n 3, 1) := by decide +kernel
theorem dX2_countAll_7 : decode cX2_countAll 7 = .ok (.iconst 0, 1) := by decide +kernel
theorem dX2_countAll_8 : decode cX2_countAll 8 = .ok (.istore 4, 2) := by decide +kernel
theorem dX2_countAll_10 : decode cX2_countAll 10 = .ok (.iload 4, 2) := by decide +kernel
theorem dX2_countAll_12 : decode cX2_countAll 12 = .ok (.iload_n 3, 1) := by decide +kernel
theorem dX2_countAll_13 : decode cX2_countAll 13 = .ok (.if_icmp .ge 17, 3) := by decide +kernel
theorem dX2_countAll_16 : decode cX2_countAll 16 = .ok (.aload_n 0, 1) := by decide +kernel
theorem dX2_countAll_17 : decode cX2_countAll 17 = .ok (.getfield 18, 3) := by decide +kernel
theorem dX2_countAll_20 : decode cX2_countAll 20 = .ok (.iload 4, 2) := by decide +kernel
theorem dX2_countAll_22 : decode cX2_countAll 22 = .ok (.lconst 0, 1) := by decide +kernel
theorem dX2_countAll_23 : decode cX2_countAll 23 = .ok (.lastore, 1) := by decide +kernel
theorem dX2_countAll_24 : decode cX2_countAll 24 = .ok (.iinc 4 1, 3) := by decide +kernel
theorem dX2_countAll_27 : decode cX2_countAll 27 = .ok (.goto (-17), 3) := by decide +kernel
theorem dX2_countAll_30 : decode cX2_countAll 30 = .ok (.aload_n 0, 1) := by decide +kernel
theorem dX2_countAll_31 : decode cX2_countAll 31 = .ok (.getfield 18, 3) := by decide +kernel
theorem dX2_countAll_34 : decode cX2_countAll 34 = .ok (.iconst 0, 1) := by decide +kernel
theorem dX2_countAll_35 : decode cX2_countAll 35 = .ok (.lconst 1, 1) := by decide +kernel
theorem dX2_countAll_36 : decode cX2_countAll 36 = .ok (.lastore, 1) := by decide +kernel
theorem dX2_countAll_37 : decode cX2_countAll 37 = .ok (.iconst 0, 1) := by decide +kernel
theorem dX2_countAll_38 : decode cX2_countAll 38 = .ok (.istore 4, 2) := by decide +kernel
theorem dX2_countAll_40 : decode cX2_countAll 40 = .ok (.iload 4, 2) := by decide +kernel
theorem dX2_countAll_42 : decode cX2_countAll 42 = .ok (.iload_n 3, 1) := by decide +kernel
theorem dX2_countAll_43 : decode cX2_countAll 43 = .ok (.if_icmp .ge 110, 3) := by decide +kernel
theorem dX2_countAll_46 : decode cX2_countAll 46 = .ok (.iconst 0, 1) := by decide +kernel
theorem dX2_countAll_47 : decode cX2_countAll 47 = .ok (.istore 5, 2) := by decide +kernel
theorem dX2_countAll_49 : decode cX2_countAll 49 = .ok (.iload 5, 2) := by decide +kernel
theorem dX2_countAll_51 : decode cX2_countAll 51 = .ok (.aload_n 0, 1) := by decide +kernel
theorem dX2_countAll_52 : decode cX2_countAll 52 = .ok (.getfield 34, 3) := by decide +kernel
theorem dX2_countAll_55 : decode cX2_countAll 55 = .ok (.if_icmp .ge 92, 3) := by decide +kernel
theorem dX2_countAll_58 : decode cX2_countAll 58 = .ok (.aload_n 0, 1) := by decide +kernel
theorem dX2_countAll_59 : decode cX2_countAll 59 = .ok (.getfield 18, 3) := by decide +kernel
theorem dX2_countAll_62 : decode cX2_countAll 62 = .ok (.iload 4, 2) := by decide +kernel
theorem dX2_countAll_64 : decode cX2_countAll 64 = .ok (.laload, 1) := by decide +kernel
theorem dX2_countAll_65 : decode cX2_countAll 65 = .ok (.lconst 0, 1) := by decide +kernel
theorem dX2_countAll_66 : decode cX2_countAll 66 = .ok (.lcmp, 1) := by decide +kernel
theorem dX2_countAll_67 : decode cX2_countAll 67 = .ok (.ifCond .eq 80, 3) := by decide +kernel
theorem dX2_countAll_70 : decode cX2_countAll 70 = .ok (.iload 5, 2) := by decide +kernel
theorem dX2_countAll_72 : decode cX2_countAll 72 = .ok (.iload_n 2, 1) := by decide +kernel
theorem dX2_countAll_73 : decode cX2_countAll 73 = .ok (.if_icmp .ne 17, 3) := by decide +kernel
theorem dX2_countAll_76 : decode cX2_countAll 76 = .ok (.aload_n 0, 1) := by decide +kernel
theorem dX2_countAll_77 : decode cX2_countAll 77 = .ok (.getfield 15, 3) := by decide +kernel
theorem dX2_countAll_80 : decode cX2_countAll 80 = .ok (.iload 5, 2) := by decide +kernel
theorem dX2_countAll_82 : decode cX2_countAll 82 = .ok (.iaload, 1) := by decide +kernel
theorem dX2_countAll_83 : decode cX2_countAll 83 = .ok (.iconst 1, 1) := by decide +kernel
theorem dX2_countAll_84 : decode cX2_countAll 84 = .ok (.iload_n 1, 1) := by decide +kernel
theorem dX2_countAll_85 : decode cX2_countAll 85 = .ok (.ishl, 1) := by decide +kernel
theorem dX2_countAll_86 : decode cX2_countAll 86 = .ok (.ior, 1) := by decide +kernel
theorem dX2_countAll_87 : decode cX2_countAll 87 = .ok (.goto 10, 3) := by decide +kernel
theorem dX2_countAll_90 : decode cX2_countAll 90 = .ok (.aload_n 0, 1) := by decide +kernel
theorem dX2_countAll_91 : decode cX2_countAll 91 = .ok (.getfield 15, 3) := by decide +kernel
theorem dX2_countAll_94 : decode cX2_countAll 94 = .ok (.iload 5, 2) := by decide +kernel
theorem dX2_countAll_96 : decode cX2_countAll 96 = .ok (.iaload, 1) := by decide +kernel
theorem dX2_countAll_97 : decode cX2_countAll 97 = .ok (.istore 6, 2) := by decide +kernel
theorem dX2_countAll_99 : decode cX2_countAll 99 = .ok (.iload 4, 2) := by decide +kernel
theorem dX2_countAll_101 : decode cX2_countAll 101 = .ok (.iload 5, 2) := by decide +kernel
theorem dX2_countAll_103 : decode cX2_countAll 103 = .ok (.ishr, 1) := by decide +kernel
theorem dX2_countAll_104 : decode cX2_countAll 104 = .ok (.iconst 1, 1) := by decide +kernel
theorem dX2_countAll_105 : decode cX2_countAll 105 = .ok (.iand, 1) := by decide +kernel
theorem dX2_countAll_106 : decode cX2_countAll 106 = .ok (.ifCond .ne 35, 3) := by decide +kernel
theorem dX2_countAll_109 : decode cX2_countAll 109 = .ok (.iload 6, 2) := by decide +kernel
theorem dX2_countAll_111 : decode cX2_countAll 111 = .ok (.iload 4, 2) := by decide +kernel
theorem dX2_countAll_113 : decode cX2_countAll 113 = .ok (.iconst (-1), 1) := by decide +kernel
theorem dX2_countAll_114 : decode cX2_countAll 114 = .ok (.ixor, 1) := by decide +kernel
theorem dX2_countAll_115 : decode cX2_countAll 115 = .ok (.iand, 1) := by decide +kernel
theorem dX2_countAll_116 : decode cX2_countAll 116 = .ok (.ifCond .ne 25, 3) := by decide +kernel
theorem dX2_countAll_119 : decode cX2_countAll 119 = .ok (.aload_n 0, 1) := by decide +kernel
theorem dX2_countAll_120 : decode cX2_countAll 120 = .ok (.getfield 18, 3) := by decide +kernel
theorem dX2_countAll_123 : decode cX2_countAll 123 = .ok (.iload 4, 2) := by decide +kernel
theorem dX2_countAll_125 : decode cX2_countAll 125 = .ok (.iconst 1, 1) := by decide +kernel
theorem dX2_countAll_126 : decode cX2_countAll 126 = .ok (.iload 5, 2) := by decide +kernel
theorem dX2_countAll_128 : decode cX2_countAll 128 = .ok (.ishl, 1) := by decide +kernel
theorem dX2_countAll_129 : decode cX2_countAll 129 = .ok (.ior, 1) := by decide +kernel
theorem dX2_countAll_130 : decode cX2_countAll 130 = .ok (.dup2, 1) := by decide +kernel
theorem dX2_countAll_131 : decode cX2_countAll 131 = .ok (.laload, 1) := by decide +kernel
theorem dX2_countAll_132 : decode cX2_countAll 132 = .ok (.aload_n 0, 1) := by decide +kernel
theorem dX2_countAll_133 : decode cX2_countAll 133 = .ok (.getfield 18, 3) := by decide +kernel
theorem dX2_countAll_136 : decode cX2_countAll 136 = .ok (.iload 4, 2) := by decide +kernel
theorem dX2_countAll_138 : decode cX2_countAll 138 = .ok (.laload, 1) := by decide +kernel
theorem dX2_countAll_139 : decode cX2_countAll 139 = .ok (.ladd, 1) := by decide +kernel
theorem dX2_countAll_140 : decode cX2_countAll 140 = .ok (.lastore, 1) := by decide +kernel
theorem dX2_countAll_141 : decode cX2_countAll 141 = .ok (.iinc 5 1, 3) := by decide +kernel
theorem dX2_countAll_144 : decode cX2_countAll 144 = .ok (.goto (-95), 3) := by decide +kernel
theorem dX2_countAll_147 : decode cX2_countAll 147 = .ok (.iinc 4 1, 3) := by decide +kernel
theorem dX2_countAll_150 : decode cX2_countAll 150 = .ok (.goto (-110), 3) := by decide +kernel
theorem dX2_countAll_153 : decode cX2_countAll 153 = .ok (.aload_n 0, 1) := by decide +kernel
theorem dX2_countAll_154 : decode cX2_countAll 154 = .ok (.getfield 18, 3) := by decide +kernel
theorem dX2_countAll_157 : decode cX2_countAll 157 = .ok (.iload_n 3, 1) := by decide +kernel
theorem dX2_countAll_158 : decode cX2_countAll 158 = .ok (.iconst 1, 1) := by decide +kernel
theorem dX2_countAll_159 : decode cX2_countAll 159 = .ok (.isub, 1) := by decide +kernel
theorem dX2_countAll_160 : decode cX2_countAll 160 = .ok (.laload, 1) := by decide +kernel
theorem dX2_countAll_161 : decode cX2_countAll 161 = .ok (.lreturn, 1) := by decide +kernel
theorem dX3_init_0 : decode cX3_init 0 = .ok (.aload_n 0, 1) := by decide +kernel
theorem dX3_init_1 : decode cX3_init 1 = .ok (.invokespecial 3, 3) := by decide +kernel
theorem dX3_init_4 : decode cX3_init 4 = .ok (.aload_n 0, 1) := by decide +kernel
theorem dX3_init_5 : decode cX3_init 5 = .ok (.bipush 8, 2) := by decide +kernel
theorem dX3_init_7 : decode cX3_init 7 = .ok (.anewarray 9, 3) := by decide +kernel
theorem dX3_init_10 : decode cX3_init 10 = .ok (.putfield 11, 3) := by decide +kernel
theorem dX3_init_13 : decode cX3_init 13 = .ok (.iconst 0, 1) := by decide +kernel
theorem dX3_init_14 : decode cX3_init 14 = .ok (.istore_n 1, 1) := by decide +kernel
theorem dX3_init_15 : decode cX3_init 15 = .ok (.iload_n 1, 1) := by decide +kernel
theorem dX3_init_16 : decode cX3_init 16 = .ok (.bipush 8, 2) := by decide +kernel
theorem dX3_init_18 : decode cX3_init 18 = .ok (.if_icmp .ge 22, 3) := by decide +kernel
theorem dX3_init_21 : decode cX3_init 21 = .ok (.aload_n 0, 1) := by decide +kernel
theorem dX3_init_22 : decode cX3_init 22 = .ok (.getfield 11, 3) := by decide +kernel
theorem dX3_init_25 : decode cX3_init 25 = .ok (.iload_n 1, 1) := by decide +kernel
theorem dX3_init_26 : decode cX3_init 26 = .ok (.new 9, 3) := by decide +kernel
theorem dX3_init_29 : decode cX3_init 29 = .ok (.dup, 1) := by decide +kernel
theorem dX3_init_30 : decode cX3_init 30 = .ok (.invokespecial 17, 3) := by decide +kernel
theorem dX3_init_33 : decode cX3_init 33 = .ok (.aastore, 1) := by decide +kernel
theorem dX3_init_34 : decode cX3_init 34 = .ok (.iinc 1 1, 3) := by decide +kernel
theorem dX3_init_37 : decode cX3_init 37 = .ok (.goto (-22), 3) := by decide +kernel
theorem dX3_init_40 : decode cX3_init 40 = .ok (.return_, 1) := by decide +kernel
theorem dX3_forget_0 : decode cX3_forget 0 = .ok (.aload_n 0, 1) := by decide +kernel
theorem dX3_forget_1 : decode cX3_forget 1 = .ok (.iconst 0, 1) := by decide +kernel
theorem dX3_forget_2 : decode cX3_forget 2 = .ok (.putfield 18, 3) := by decide +kernel
theorem dX3_forget_5 : decode cX3_forget 5 = .ok (.return_, 1) := by decide +kernel
theorem dX3_keep_0 : decode cX3_keep 0 = .ok (.aload_n 0, 1) := by decide +kernel
theorem dX3_keep_1 : decode cX3_keep 1 = .ok (.getfield 11, 3) := by decide +kernel
theorem dX3_keep_4 : decode cX3_keep 4 = .ok (.aload_n 0, 1) := by decide +kernel
theorem dX3_keep_5 : decode cX3_keep 5 = .ok (.getfield 22, 3) := by decide +kernel
theorem dX3_keep_8 : decode cX3_keep 8 = .ok (.aaload, 1) := by decide +kernel
theorem dX3_keep_9 : decode cX3_keep 9 = .ok (.aload_n 1, 1) := by decide +kernel
theorem dX3_keep_10 : decode cX3_keep 10 = .ok (.invokevirtual 25, 3) := by decide +kernel
theorem dX3_keep_13 : decode cX3_keep 13 = .ok (.aload_n 0, 1) := by decide +kernel
theorem dX3_keep_14 : decode cX3_keep 14 = .ok (.aload_n 0, 1) := by decide +kernel
theorem dX3_keep_15 : decode cX3_keep 15 = .ok (.getfield 22, 3) := by decide +kernel
theorem dX3_keep_18 : decode cX3_keep 18 = .ok (.iconst 1, 1) := by decide +kernel
theorem dX3_keep_19 : decode cX3_keep 19 = .ok (.iadd, 1) := by decide +kernel
theorem dX3_keep_20 : decode cX3_keep 20 = .ok (.bipush 8, 2) := by decide +kernel
theorem dX3_keep_22 : decode cX3_keep 22 = .ok (.irem, 1) := by decide +kernel
theorem dX3_keep_23 : decode cX3_keep 23 = .ok (.putfield 22, 3) := by decide +kernel
theorem dX3_keep_26 : decode cX3_keep 26 = .ok (.aload_n 0, 1) := by decide +kernel
theorem dX3_keep_27 : decode cX3_keep 27 = .ok (.aload_n 0, 1) := by decide +kernel
theorem dX3_keep_28 : decode cX3_keep 28 = .ok (.getfield 18, 3) := by decide +kernel
theorem dX3_keep_31 : decode cX3_keep 31 = .ok (.iconst 1, 1) := by decide +kernel
theorem dX3_keep_32 : decode cX3_keep 32 = .ok (.iadd, 1) := by decide +kernel
theorem dX3_keep_33 : decode cX3_keep 33 = .ok (.bipush 8, 2) := by decide +kernel
theorem dX3_keep_35 : decode cX3_keep 35 = .ok (.invokestatic 29, 3) := by decide +kernel
theorem dX3_keep_38 : decode cX3_keep 38 = .ok (.putfield 18, 3) := by decide +kernel
theorem dX3_keep_41 : decode cX3_keep 41 = .ok (.return_, 1) := by decide +kernel
theorem dX3_giveBack_0 : decode cX3_giveBack 0 = .ok (.aload_n 0, 1) := by decide +kernel
theorem dX3_giveBack_1 : decode cX3_giveBack 1 = .ok (.getfield 18, 3) := by decide +kernel
theorem dX3_giveBack_4 : decode cX3_giveBack 4 = .ok (.ifCond .ne 5, 3) := by decide +kernel
theorem dX3_giveBack_7 : decode cX3_giveBack 7 = .ok (.iconst 0, 1) := by decide +kernel
theorem dX3_giveBack_8 : decode cX3_giveBack 8 = .ok (.ireturn, 1) := by decide +kernel
theorem dX3_giveBack_9 : decode cX3_giveBack 9 = .ok (.aload_n 0, 1) := by decide +kernel
theorem dX3_giveBack_10 : decode cX3_giveBack 10 = .ok (.dup, 1) := by decide +kernel
theorem dX3_giveBack_11 : decode cX3_giveBack 11 = .ok (.getfield 18, 3) := by decide +kernel
theorem dX3_giveBack_14 : decode cX3_giveBack 14 = .ok (.iconst 1, 1) := by decide +kernel
theorem dX3_giveBack_15 : decode cX3_giveBack 15 = .ok (.isub, 1) := by decide +kernel
theorem dX3_giveBack_16 : decode cX3_giveBack 16 = .ok (.putfield 18, 3) := by decide +kernel
theorem dX3_giveBack_19 : decode cX3_giveBack 19 = .ok (.aload_n 0, 1) := by decide +kernel
theorem dX3_giveBack_20 : decode cX3_giveBack 20 = .ok (.aload_n 0, 1) := by decide +kernel
theorem dX3_giveBack_21 : decode cX3_giveBack 21 = .ok (.getfield 22, 3) := by decide +kernel
theorem dX3_giveBack_24 : decode cX3_giveBack 24 = .ok (.bipush 8, 2) := by decide +kernel
theorem dX3_giveBack_26 : decode cX3_giveBack 26 = .ok (.iadd, 1) := by decide +kernel
theorem dX3_giveBack_27 : decode cX3_giveBack 27 = .ok (.iconst 1, 1) := by decide +kernel
theorem dX3_giveBack_28 : decode cX3_giveBack 28 = .ok (.isub, 1) := by decide +kernel
theorem dX3_giveBack_29 : decode cX3_giveBack 29 = .ok (.bipush 8, 2) := by decide +kernel
theorem dX3_giveBack_31 : decode cX3_giveBack 31 = .ok (.irem, 1) := by decide +kernel
theorem dX3_giveBack_32 : decode cX3_giveBack 32 = .ok (.putfield 22, 3) := by decide +kernel
theorem dX3_giveBack_35 : decode cX3_giveBack 35 = .ok (.aload_n 1, 1) := by decide +kernel
theorem dX3_giveBack_36 : decode cX3_giveBack 36 = .ok (.aload_n 0, 1) := by decide +kernel
theorem dX3_giveBack_37 : decode cX3_giveBack 37 = .ok (.getfield 11, 3) := by decide +kernel
theorem dX3_giveBack_40 : decode cX3_giveBack 40 = .ok (.aload_n 0, 1) := by decide +kernel
theorem dX3_giveBack_41 : decode cX3_giveBack 41 = .ok (.getfield 22, 3) := by decide +kernel
theorem dX3_giveBack_44 : decode cX3_giveBack 44 = .ok (.aaload, 1) := by decide +kernel
theorem dX3_giveBack_45 : decode cX3_giveBack 45 = .ok (.invokevirtual 25, 3) := by decide +kernel
theorem dX3_giveBack_48 : decode cX3_giveBack 48 = .ok (.iconst 1, 1) := by decide +kernel
theorem dX3_giveBack_49 : decode cX3_giveBack 49 = .ok (.ireturn, 1) := by decide +kernel
theorem dX4_init_0 : decode cX4_init 0 = .ok (.aload_n 0, 1) := by decide +kernel
theorem dX4_init_1 : decode cX4_init 1 = .ok (.invokespecial 3, 3) := by decide +kernel
theorem dX4_init_4 : decode cX4_init 4 = .ok (.aload_n 0, 1) := by decide +kernel
theorem dX4_init_5 : decode cX4_init 5 = .ok (.sipush 4096, 3) := by decide +kernel
theorem dX4_init_8 : decode cX4_init 8 = .ok (.newarray .byte, 2) := by decide +kernel
theorem dX4_init_10 : decode cX4_init 10 = .ok (.putfield 11, 3) := by decide +kernel
theorem dX4_init_13 : decode cX4_init 13 = .ok (.aload_n 0, 1) := by decide +kernel
theorem dX4_init_14 : decode cX4_init 14 = .ok (.sipush 4096, 3) := by decide +kernel
theorem dX4_init_17 : decode cX4_init 17 = .ok (.newarray .int, 2) := by decide +kernel
theorem dX4_init_19 : decode cX4_init 19 = .ok (.putfield 15, 3) := by decide +kernel
theorem dX4_init_22 : decode cX4_init 22 = .ok (.aload_n 0, 1) := by decide +kernel
theorem dX4_init_23 : decode cX4_init 23 = .ok (.iconst (-1), 1) := by decide +kernel
theorem dX4_init_24 : decode cX4_init 24 = .ok (.putfield 19, 3) := by decide +kernel
theorem dX4_init_27 : decode cX4_init 27 = .ok (.aload_n 0, 1) := by decide +kernel
theorem dX4_init_28 : decode cX4_init 28 = .ok (.iconst (-1), 1) := by decide +kernel
theorem dX4_init_29 : decode cX4_init 29 = .ok (.putfield 23, 3) := by decide +kernel
theorem dX4_init_32 : decode cX4_init 32 = .ok (.aload_n 0, 1) := by decide +kernel
theorem dX4_init_33 : decode cX4_init 33 = .ok (.sipush 4096, 3) := by decide +kernel
theorem dX4_init_36 : decode cX4_init 36 = .ok (.newarray .int, 2) := by decide +kernel
theorem dX4_init_38 : decode cX4_init 38 = .ok (.putfield 26, 3) := by decide +kernel
theorem dX4_init_41 : decode cX4_init 41 = .ok (.return_, 1) := by decide +kernel
theorem dX4_forget_0 : decode cX4_forget 0 = .ok (.aload_n 0, 1) := by decide +kernel
theorem dX4_forget_1 : decode cX4_forget 1 = .ok (.iconst 0, 1) := by decide +kernel
theorem dX4_forget_2 : decode cX4_forget 2 = .ok (.putfield 29, 3) := by decide +kernel
theorem dX4_forget_5 : decode cX4_forget 5 = .ok (.aload_n 0, 1) := by decide +kernel
theorem dX4_forget_6 : decode cX4_forget 6 = .ok (.iconst (-1), 1) := by decide +kernel
theorem dX4_forget_7 : decode cX4_forget 7 = .ok (.putfield 19, 3) := by decide +kernel
theorem dX4_forget_10 : decode cX4_forget 10 = .ok (.aload_n 0, 1) := by decide +kernel
theorem dX4_forget_11 : decode cX4_forget 11 = .ok (.iconst (-1), 1) := by decide +kernel
theorem dX4_forget_12 : decode cX4_forget 12 = .ok (.putfield 23, 3) := by decide +kernel
theorem dX4_forget_15 : decode cX4_forget 15 = .ok (.return_, 1) := by decide +kernel
theorem dX4_look_0 : decode cX4_look 0 = .ok (.aload_n 0, 1) := by decide +kernel
theorem dX4_look_1 : decode cX4_look 1 = .ok (.aload_n 1, 1) := by decide +kernel
theorem dX4_look_2 : decode cX4_look 2 = .ok (.invokevirtual 33, 3) := by decide +kernel
theorem dX4_look_5 : decode cX4_look 5 = .ok (.iconst 1, 1) := by decide +kernel
theorem dX4_look_6 : decode cX4_look 6 = .ok (.iadd, 1) := by decide +kernel
theorem dX4_look_7 : decode cX4_look 7 = .ok (.sipush 4096, 3) := by decide +kernel
theorem dX4_look_10 : decode cX4_look 10 = .ok (.invokestatic 39, 3) := by decide +kernel
theorem dX4_look_13 : decode cX4_look 13 = .ok (.putfield 45, 3) := by decide +kernel
theorem dX4_look_16 : decode cX4_look 16 = .ok (.aload_n 0, 1) := by decide +kernel
theorem dX4_look_17 : decode cX4_look 17 = .ok (.aload_n 1, 1) := by decide +kernel
theorem dX4_look_18 : decode cX4_look 18 = .ok (.invokevirtual 48, 3) := by decide +kernel
theorem dX4_look_21 : decode cX4_look 21 = .ok (.aload_n 0, 1) := by decide +kernel
theorem dX4_look_22 : decode cX4_look 22 = .ok (.aload_n 1, 1) := by decide +kernel
theorem dX4_look_23 : decode cX4_look 23 = .ok (.aload_n 2, 1) := by decide +kernel
theorem dX4_look_24 : decode cX4_look 24 = .ok (.invokestatic 52, 3) := by decide +kernel
theorem dX4_look_27 : decode cX4_look 27 = .ok (.putfield 56, 3) := by decide +kernel
theorem dX4_look_30 : decode cX4_look 30 = .ok (.aload_n 0, 1) := by decide +kernel
theorem dX4_look_31 : decode cX4_look 31 = .ok (.iconst 0, 1) := by decide +kernel
theorem dX4_look_32 : decode cX4_look 32 = .ok (.putfield 59, 3) := by decide +kernel
theorem dX4_look_35 : decode cX4_look 35 = .ok (.iconst 0, 1) := by decide +kernel
theorem dX4_look_36 : decode cX4_look 36 = .ok (.istore 5, 2) := by decide +kernel
theorem dX4_look_38 : decode cX4_look 38 = .ok (.iload 5, 2) := by decide +kernel
theorem dX4_look_40 : decode cX4_look 40 = .ok (.aload_n 1, 1) := by decide +kernel
theorem dX4_look_41 : decode cX4_look 41 = .ok (.invokevirtual 62, 3) := by decide +kernel
theorem dX4_look_44 : decode cX4_look 44 = .ok (.if_icmp .ge 36, 3) := by decide +kernel
theorem dX4_look_47 : decode cX4_look 47 = .ok (.aload_n 1, 1) := by decide +kernel
theorem dX4_look_48 : decode cX4_look 48 = .ok (.aload_n 1, 1) := by decide +kernel
theorem dX4_look_49 : decode cX4_look 49 = .ok (.iload 5, 2) := by decide +kernel
theorem dX4_look_51 : decode cX4_look 51 = .ok (.invokevirtual 65, 3) := by decide +kernel
theorem dX4_look_54 : decode cX4_look 54 = .ok (.iload_n 3, 1) := by decide +kernel
theorem dX4_look_55 : decode cX4_look 55 = .ok (.invokevirtual 69, 3) := by decide +kernel
theorem dX4_look_58 : decode cX4_look 58 = .ok (.ifCond .eq 16, 3) := by decide +kernel
theorem dX4_look_61 : decode cX4_look 61 = .ok (.aload_n 0, 1) := by decide +kernel
theorem dX4_look_62 : decode cX4_look 62 = .ok (.dup, 1) := by decide +kernel
theorem dX4_look_63 : decode cX4_look 63 = .ok (.getfield 59, 3) := by decide +kernel
theorem dX4_look_66 : decode cX4_look 66 = .ok (.iconst 1, 1) := by decide +kernel
theorem dX4_look_67 : decode cX4_look 67 = .ok (.iload 5, 2) := by decide +kernel
theorem dX4_look_69 : decode cX4_look 69 = .ok (.ishl, 1) := by decide +kernel
theorem dX4_look_70 : decode cX4_look 70 = .ok (.ior, 1) := by decide +kernel
theorem dX4_look_71 : decode cX4_look 71 = .ok (.putfield 59, 3) := by decide +kernel
theorem dX4_look_74 : decode cX4_look 74 = .ok (.iinc 5 1, 3) := by decide +kernel
theorem dX4_look_77 : decode cX4_look 77 = .ok (.goto (-39), 3) := by decide +kernel
theorem dX4_look_80 : decode cX4_look 80 = .ok (.aload_n 0, 1) := by decide +kernel
theorem dX4_look_81 : decode cX4_look 81 = .ok (.aload_n 1, 1) := by decide +kernel
theorem dX4_look_82 : decode cX4_look 82 = .ok (.invokevirtual 73, 3) := by decide +kernel
theorem dX4_look_85 : decode cX4_look 85 = .ok (.aload_n 0, 1) := by decide +kernel
theorem dX4_look_86 : decode cX4_look 86 = .ok (.getfield 59, 3) := by decide +kernel
theorem dX4_look_89 : decode cX4_look 89 = .ok (.iconst (-1), 1) := by decide +kernel
theorem dX4_look_90 : decode cX4_look 90 = .ok (.ixor, 1) := by decide +kernel
theorem dX4_look_91 : decode cX4_look 91 = .ok (.iand, 1) := by decide +kernel
theorem dX4_look_92 : decode cX4_look 92 = .ok (.putfield 76, 3) := by decide +kernel
theorem dX4_look_95 : decode cX4_look 95 = .ok (.aload_n 0, 1) := by decide +kernel
theorem dX4_look_96 : decode cX4_look 96 = .ok (.aload_n 1, 1) := by decide +kernel
theorem dX4_look_97 : decode cX4_look 97 = .ok (.iload_n 3, 1) := by decide +kernel
theorem dX4_look_98 : decode cX4_look 98 = .ok (.invokevirtual 79, 3) := by decide +kernel
theorem dX4_look_101 : decode cX4_look 101 = .ok (.ifCond .eq 13, 3) := by decide +kernel
theorem dX4_look_104 : decode cX4_look 104 = .ok (.aload_n 1, 1) := by decide +kernel
theorem dX4_look_105 : decode cX4_look 105 = .ok (.iload_n 3, 1) := by decide +kernel
theorem dX4_look_106 : decode cX4_look 106 = .ok (.iload 4, 2) := by decide +kernel
theorem dX4_look_108 : decode cX4_look 108 = .ok (.invokevirtual 83, 3) := by decide +kernel
theorem dX4_look_111 : decode cX4_look 111 = .ok (.goto 7, 3) := by decide +kernel
theorem dX4_look_114 : decode cX4_look 114 = .ok (.aload_n 1, 1) := by decide +kernel
theorem dX4_look_115 : decode cX4_look 115 = .ok (.invokevirtual 33, 3) := by decide +kernel
theorem dX4_look_118 : decode cX4_look 118 = .ok (.putfield 86, 3) := by decide +kernel
theorem dX4_look_121 : decode cX4_look 121 = .ok (.return_, 1) := by decide +kernel
theorem dX4_alikeCells_0 : decode cX4_alikeCells 0 = .ok (.iconst 0, 1) := by decide +kernel
theorem dX4_alikeCells_1 : decode cX4_alikeCells 1 = .ok (.istore_n 2, 1) := by decide +kernel
theorem dX4_alikeCells_2 : decode cX4_alikeCells 2 = .ok (.iconst 0, 1) := by decide +kernel
theorem dX4_alikeCells_3 : decode cX4_alikeCells 3 = .ok (.istore_n 3, 1) := by decide +kernel
theorem dX4_alikeCells_4 : decode cX4_alikeCells 4 = .ok (.iload_n 3, 1) := by decide +kernel
theorem dX4_alikeCells_5 : decode cX4_alikeCells 5 = .ok (.aload_n 0, 1) := by decide +kernel
theorem dX4_alikeCells_6 : decode cX4_alikeCells 6 = .ok (.invokevirtual 62, 3) := by decide +kernel
theorem dX4_alikeCells_9 : decode cX4_alikeCells 9 = .ok (.if_icmp .ge 39, 3) := by decide +kernel
theorem dX4_alikeCells_12 : decode cX4_alikeCells 12 = .ok (.aload_n 0, 1) := by decide +kernel
theorem dX4_alikeCells_13 : decode cX4_alikeCells 13 = .ok (.iload_n 3, 1) := by decide +kernel
theorem dX4_alikeCells_14 : decode cX4_alikeCells 14 = .ok (.invokevirtual 65, 3) := by decide +kernel
theorem dX4_alikeCells_17 : decode cX4_alikeCells 17 = .ok (.istore 4, 2) := by decide +kernel
theorem dX4_alikeCells_19 : decode cX4_alikeCells 19 = .ok (.iload 4, 2) := by decide +kernel
theorem dX4_alikeCells_21 : decode cX4_alikeCells 21 = .ok (.bipush (-2), 2) := by decide +kernel
theorem dX4_alikeCells_23 : decode cX4_alikeCells 23 = .ok (.if_icmp .eq 19, 3) := by decide +kernel
theorem dX4_alikeCells_26 : decode cX4_alikeCells 26 = .ok (.aload_n 1, 1) := by decide +kernel
theorem dX4_alikeCells_27 : decode cX4_alikeCells 27 = .ok (.iload_n 3, 1) := by decide +kernel
theorem dX4_alikeCells_28 : decode cX4_alikeCells 28 = .ok (.invokevirtual 89, 3) := by decide +kernel
theorem dX4_alikeCells_31 : decode cX4_alikeCells 31 = .ok (.iload 4, 2) := by decide +kernel
theorem dX4_alikeCells_33 : decode cX4_alikeCells 33 = .ok (.if_icmp .ne 9, 3) := by decide +kernel
theorem dX4_alikeCells_36 : decode cX4_alikeCells 36 = .ok (.iload_n 2, 1) := by decide +kernel
theorem dX4_alikeCells_37 : decode cX4_alikeCells 37 = .ok (.iconst 1, 1) := by decide +kernel
theorem dX4_alikeCells_38 : decode cX4_alikeCells 38 = .ok (.iload_n 3, 1) := by decide +kernel
theorem dX4_alikeCells_39 : decode cX4_alikeCells 39 = .ok (.ishl, 1) := by decide +kernel
theorem dX4_alikeCells_40 : decode cX4_alikeCells 40 = .ok (.ior, 1) := by decide +kernel
theorem dX4_alikeCells_41 : decode cX4_alikeCells 41 = .ok (.istore_n 2, 1) := by decide +kernel
theorem dX4_alikeCells_42 : decode cX4_alikeCells 42 = .ok (.iinc 3 1, 3) := by decide +kernel
theorem dX4_alikeCells_45 : decode cX4_alikeCells 45 = .ok (.goto (-41), 3) := by decide +kernel
theorem dX4_alikeCells_48 : decode cX4_alikeCells 48 = .ok (.iload_n 2, 1) := by decide +kernel
theorem dX4_alikeCells_49 : decode cX4_alikeCells 49 = .ok (.ireturn, 1) := by decide +kernel
theorem dX4_learnLaw_0 : decode cX4_learnLaw 0 = .ok (.aload_n 0, 1) := by decide +kernel
theorem dX4_learnLaw_1 : decode cX4_learnLaw 1 = .ok (.getfield 29, 3) := by decide +kernel
theorem dX4_learnLaw_4 : decode cX4_learnLaw 4 = .ok (.ifCond .eq 4, 3) := by decide +kernel
theorem dX4_learnLaw_7 : decode cX4_learnLaw 7 = .ok (.return_, 1) := by decide +kernel
theorem dX4_learnLaw_8 : decode cX4_learnLaw 8 = .ok (.iconst 0, 1) := by decide +kernel
theorem dX4_learnLaw_9 : decode cX4_learnLaw 9 = .ok (.istore_n 2, 1) := by decide +kernel
theorem dX4_learnLaw_10 : decode cX4_learnLaw 10 = .ok (.iload_n 2, 1) := by decide +kernel
theorem dX4_learnLaw_11 : decode cX4_learnLaw 11 = .ok (.aload_n 0, 1) := by decide +kernel
theorem dX4_learnLaw_12 : decode cX4_learnLaw 12 = .ok (.getfield 45, 3) := by decide +kernel
theorem dX4_learnLaw_15 : decode cX4_learnLaw 15 = .ok (.if_icmp .ge 84, 3) := by decide +kernel
theorem dX4_learnLaw_18 : decode cX4_learnLaw 18 = .ok (.aload_n 1, 1) := by decide +kernel
theorem dX4_learnLaw_19 : decode cX4_learnLaw 19 = .ok (.invokevirtual 33, 3) := by decide +kernel
theorem dX4_learnLaw_22 : decode cX4_learnLaw 22 = .ok (.iload_n 2, 1) := by decide +kernel
theorem dX4_learnLaw_23 : decode cX4_learnLaw 23 = .ok (.iconst (-1), 1) := by decide +kernel
theorem dX4_learnLaw_24 : decode cX4_learnLaw 24 = .ok (.ixor, 1) := by decide +kernel
theorem dX4_learnLaw_25 : decode cX4_learnLaw 25 = .ok (.iand, 1) := by decide +kernel
theorem dX4_learnLaw_26 : decode cX4_learnLaw 26 = .ok (.istore_n 3, 1) := by decide +kernel
theorem dX4_learnLaw_27 : decode cX4_learnLaw 27 = .ok (.iload_n 3, 1) := by decide +kernel
theorem dX4_learnLaw_28 : decode cX4_learnLaw 28 = .ok (.invokestatic 94, 3) := by decide +kernel
theorem dX4_learnLaw_31 : decode cX4_learnLaw 31 = .ok (.aload_n 1, 1) := by decide +kernel
theorem dX4_learnLaw_32 : decode cX4_learnLaw 32 = .ok (.getfield 99, 3) := by decide +kernel
theorem dX4_learnLaw_35 : decode cX4_learnLaw 35 = .ok (.if_icmp .lt 7, 3) := by decide +kernel
theorem dX4_learnLaw_38 : decode cX4_learnLaw 38 = .ok (.iconst 1, 1) := by decide +kernel
theorem dX4_learnLaw_39 : decode cX4_learnLaw 39 = .ok (.goto 4, 3) := by decide +kernel
theorem dX4_learnLaw_42 : decode cX4_learnLaw 42 = .ok (.iconst 0, 1) := by decide +kernel
theorem dX4_learnLaw_43 : decode cX4_learnLaw 43 = .ok (.istore 4, 2) := by decide +kernel
theorem dX4_learnLaw_45 : decode cX4_learnLaw 45 = .ok (.iload 4, 2) := by decide +kernel
theorem dX4_learnLaw_47 : decode cX4_learnLaw 47 = .ok (.ifCond .eq 26, 3) := by decide +kernel
theorem dX4_learnLaw_50 : decode cX4_learnLaw 50 = .ok (.aload_n 1, 1) := by decide +kernel
theorem dX4_learnLaw_51 : decode cX4_learnLaw 51 = .ok (.getfield 102, 3) := by decide +kernel
theorem dX4_learnLaw_54 : decode cX4_learnLaw 54 = .ok (.ifCond .eq 15, 3) := by decide +kernel
theorem dX4_learnLaw_57 : decode cX4_learnLaw 57 = .ok (.aload_n 1, 1) := by decide +kernel
theorem dX4_learnLaw_58 : decode cX4_learnLaw 58 = .ok (.iload_n 3, 1) := by decide +kernel
theorem dX4_learnLaw_59 : decode cX4_learnLaw 59 = .ok (.invokevirtual 105, 3) := by decide +kernel
theorem dX4_learnLaw_62 : decode cX4_learnLaw 62 = .ok (.aload_n 1, 1) := by decide +kernel
theorem dX4_learnLaw_63 : decode cX4_learnLaw 63 = .ok (.getfield 102, 3) := by decide +kernel
theorem dX4_learnLaw_66 : decode cX4_learnLaw 66 = .ok (.if_icmp .gt 7, 3) := by decide +kernel
theorem dX4_learnLaw_69 : decode cX4_learnLaw 69 = .ok (.iconst 1, 1) := by decide +kernel
theorem dX4_learnLaw_70 : decode cX4_learnLaw 70 = .ok (.goto 4, 3) := by decide +kernel
theorem dX4_learnLaw_73 : decode cX4_learnLaw 73 = .ok (.iconst 0, 1) := by decide +kernel
theorem dX4_learnLaw_74 : decode cX4_learnLaw 74 = .ok (.istore 5, 2) := by decide +kernel
theorem dX4_learnLaw_76 : decode cX4_learnLaw 76 = .ok (.aload_n 0, 1) := by decide +kernel
theorem dX4_learnLaw_77 : decode cX4_learnLaw 77 = .ok (.getfield 11, 3) := by decide +kernel
theorem dX4_learnLaw_80 : decode cX4_learnLaw 80 = .ok (.iload_n 2, 1) := by decide +kernel
theorem dX4_learnLaw_81 : decode cX4_learnLaw 81 = .ok (.iload 5, 2) := by decide +kernel
theorem dX4_learnLaw_83 : decode cX4_learnLaw 83 = .ok (.ifCond .eq 7, 3) := by decide +kernel
theorem dX4_learnLaw_86 : decode cX4_learnLaw 86 = .ok (.iconst 1, 1) := by decide +kernel
theorem dX4_learnLaw_87 : decode cX4_learnLaw 87 = .ok (.goto 4, 3) := by decide +kernel
theorem dX4_learnLaw_90 : decode cX4_learnLaw 90 = .ok (.iconst 0, 1) := by decide +kernel
theorem dX4_learnLaw_91 : decode cX4_learnLaw 91 = .ok (.i2b, 1) := by decide +kernel
theorem dX4_learnLaw_92 : decode cX4_learnLaw 92 = .ok (.bastore, 1) := by decide +kernel
theorem dX4_learnLaw_93 : decode cX4_learnLaw 93 = .ok (.iinc 2 1, 3) := by decide +kernel
theorem dX4_learnLaw_96 : decode cX4_learnLaw 96 = .ok (.goto (-86), 3) := by decide +kernel
theorem dX4_learnLaw_99 : decode cX4_learnLaw 99 = .ok (.aload_n 0, 1) := by decide +kernel
theorem dX4_learnLaw_100 : decode cX4_learnLaw 100 = .ok (.iconst 1, 1) := by decide +kernel
theorem dX4_learnLaw_101 : decode cX4_learnLaw 101 = .ok (.putfield 29, 3) := by decide +kernel
theorem dX4_learnLaw_104 : decode cX4_learnLaw 104 = .ok (.return_, 1) := by decide +kernel
theorem dX4_mayPaint_0 : decode cX4_mayPaint 0 = .ok (.iload_n 1, 1) := by decide +kernel
theorem dX4_mayPaint_1 : decode cX4_mayPaint 1 = .ok (.iload_n 2, 1) := by decide +kernel
theorem dX4_mayPaint_2 : decode cX4_mayPaint 2 = .ok (.iand, 1) := by decide +kernel
theorem dX4_mayPaint_3 : decode cX4_mayPaint 3 = .ok (.ifCond .ne 16, 3) := by decide +kernel
theorem dX4_mayPaint_6 : decode cX4_mayPaint 6 = .ok (.aload_n 0, 1) := by decide +kernel
theorem dX4_mayPaint_7 : decode cX4_mayPaint 7 = .ok (.getfield 11, 3) := by decide +kernel
theorem dX4_mayPaint_10 : decode cX4_mayPaint 10 = .ok (.iload_n 1, 1) := by decide +kernel
theorem dX4_mayPaint_11 : decode cX4_mayPaint 11 = .ok (.baload, 1) := by decide +kernel
theorem dX4_mayPaint_12 : decode cX4_mayPaint 12 = .ok (.ifCond .eq 7, 3) := by decide +kernel
theorem dX4_mayPaint_15 : decode cX4_mayPaint 15 = .ok (.iconst 1, 1) := by decide +kernel
theorem dX4_mayPaint_16 : decode cX4_mayPaint 16 = .ok (.goto 4, 3) := by decide +kernel
theorem dX4_mayPaint_19 : decode cX4_mayPaint 19 = .ok (.iconst 0, 1) := by decide +kernel
theorem dX4_mayPaint_20 : decode cX4_mayPaint 20 = .ok (.ireturn, 1) := by decide +kernel
theorem dX4_alikeBehind_0 : decode cX4_alikeBehind 0 = .ok (.aload_n 0, 1) := by decide +kernel
theorem dX4_alikeBehind_1 : decode cX4_alikeBehind 1 = .ok (.getfield 56, 3) := by decide +kernel
theorem dX4_alikeBehind_4 : decode cX4_alikeBehind 4 = .ok (.iload_n 1, 1) := by decide +kernel
theorem dX4_alikeBehind_5 : decode cX4_alikeBehind 5 = .ok (.iconst (-1), 1) := by decide +kernel
theorem dX4_alikeBehind_6 : decode cX4_alikeBehind 6 = .ok (.ixor, 1) := by decide +kernel
theorem dX4_alikeBehind_7 : decode cX4_alikeBehind 7 = .ok (.iand, 1) := by decide +kernel
theorem dX4_alikeBehind_8 : decode cX4_alikeBehind 8 = .ok (.aload_n 0, 1) := by decide +kernel
theorem dX4_alikeBehind_9 : decode cX4_alikeBehind 9 = .ok (.getfield 59, 3) := by decide +kernel
theorem dX4_alikeBehind_12 : decode cX4_alikeBehind 12 = .ok (.iload_n 1, 1) := by decide +kernel
theorem dX4_alikeBehind_13 : decode cX4_alikeBehind 13 = .ok (.iand, 1) := by decide +kernel
theorem dX4_alikeBehind_14 : decode cX4_alikeBehind 14 = .ok (.ior, 1) := by decide +kernel
theorem dX4_alikeBehind_15 : decode cX4_alikeBehind 15 = .ok (.invokestatic 94, 3) := by decide +kernel
theorem dX4_alikeBehind_18 : decode cX4_alikeBehind 18 = .ok (.ireturn, 1) := by decide +kernel
theorem dX4_bestCells_0 : decode cX4_bestCells 0 = .ok (.iconst 0, 1) := by decide +kernel
theorem dX4_bestCells_1 : decode cX4_bestCells 1 = .ok (.istore_n 1, 1) := by decide +kernel
theorem dX4_bestCells_2 : decode cX4_bestCells 2 = .ok (.aload_n 0, 1) := by decide +kernel
theorem dX4_bestCells_3 : decode cX4_bestCells 3 = .ok (.iconst 0, 1) := by decide +kernel
theorem dX4_bestCells_4 : decode cX4_bestCells 4 = .ok (.invokevirtual 108, 3) := by decide +kernel
theorem dX4_bestCells_7 : decode cX4_bestCells 7 = .ok (.istore_n 2, 1) := by decide +kernel
theorem dX4_bestCells_8 : decode cX4_bestCells 8 = .ok (.iconst 1, 1) := by decide +kernel
theorem dX4_bestCells_9 : decode cX4_bestCells 9 = .ok (.istore_n 3, 1) := by decide +kernel
theorem dX4_bestCells_10 : decode cX4_bestCells 10 = .ok (.iload_n 3, 1) := by decide +kernel
theorem dX4_bestCells_11 : decode cX4_bestCells 11 = .ok (.aload_n 0, 1) := by decide +kernel
theorem dX4_bestCells_12 : decode cX4_bestCells 12 = .ok (.getfield 45, 3) := by decide +kernel
theorem dX4_bestCells_15 : decode cX4_bestCells 15 = .ok (.if_icmp .ge 68, 3) := by decide +kernel
theorem dX4_bestCells_18 : decode cX4_bestCells 18 = .ok (.aload_n 0, 1) := by decide +kernel
theorem dX4_bestCells_19 : decode cX4_bestCells 19 = .ok (.iload_n 3, 1) := by decide +kernel
theorem dX4_bestCells_20 : decode cX4_bestCells 20 = .ok (.invokevirtual 108, 3) := by decide +kernel
theorem dX4_bestCells_23 : decode cX4_bestCells 23 = .ok (.istore 4, 2) := by decide +kernel
theorem dX4_bestCells_25 : decode cX4_bestCells 25 = .ok (.iload 4, 2) := by decide +kernel
theorem dX4_bestCells_27 : decode cX4_bestCells 27 = .ok (.iload_n 2, 1) := by decide +kernel
theorem dX4_bestCells_28 : decode cX4_bestCells 28 = .ok (.if_icmp .gt 20, 3) := by decide +kernel
theorem dX4_bestCells_31 : decode cX4_bestCells 31 = .ok (.iload 4, 2) := by decide +kernel
theorem dX4_bestCells_33 : decode cX4_bestCells 33 = .ok (.iload_n 2, 1) := by decide +kernel
theorem dX4_bestCells_34 : decode cX4_bestCells 34 = .ok (.if_icmp .ne 18, 3) := by decide +kernel
theorem dX4_bestCells_37 : decode cX4_bestCells 37 = .ok (.iload_n 3, 1) := by decide +kernel
theorem dX4_bestCells_38 : decode cX4_bestCells 38 = .ok (.invokestatic 94, 3) := by decide +kernel
theorem dX4_bestCells_41 : decode cX4_bestCells 41 = .ok (.iload_n 1, 1) := by decide +kernel
theorem dX4_bestCells_42 : decode cX4_bestCells 42 = .ok (.invokestatic 94, 3) := by decide +kernel
theorem dX4_bestCells_45 : decode cX4_bestCells 45 = .ok (.if_icmp .ge 7, 3) := by decide +kernel
theorem dX4_bestCells_48 : decode cX4_bestCells 48 = .ok (.iconst 1, 1) := by decide +kernel
theorem dX4_bestCells_49 : decode cX4_bestCells 49 = .ok (.goto 4, 3) := by decide +kernel
theorem dX4_bestCells_52 : decode cX4_bestCells 52 = .ok (.iconst 0, 1) := by decide +kernel
theorem dX4_bestCells_53 : decode cX4_bestCells 53 = .ok (.istore 5, 2) := by decide +kernel
theorem dX4_bestCells_55 : decode cX4_bestCells 55 = .ok (.iload 5, 2) := by decide +kernel
theorem dX4_bestCells_57 : decode cX4_bestCells 57 = .ok (.ifCond .eq 20, 3) := by decide +kernel
theorem dX4_bestCells_60 : decode cX4_bestCells 60 = .ok (.aload_n 0, 1) := by decide +kernel
theorem dX4_bestCells_61 : decode cX4_bestCells 61 = .ok (.iload_n 3, 1) := by decide +kernel
theorem dX4_bestCells_62 : decode cX4_bestCells 62 = .ok (.aload_n 0, 1) := by decide +kernel
theorem dX4_bestCells_63 : decode cX4_bestCells 63 = .ok (.getfield 86, 3) := by decide +kernel
theorem dX4_bestCells_66 : decode cX4_bestCells 66 = .ok (.invokevirtual 111, 3) := by decide +kernel
theorem dX4_bestCells_69 : decode cX4_bestCells 69 = .ok (.ifCond .eq 8, 3) := by decide +kernel
theorem dX4_bestCells_72 : decode cX4_bestCells 72 = .ok (.iload_n 3, 1) := by decide +kernel
theorem dX4_bestCells_73 : decode cX4_bestCells 73 = .ok (.istore_n 1, 1) := by decide +kernel
theorem dX4_bestCells_74 : decode cX4_bestCells 74 = .ok (.iload 4, 2) := by decide +kernel
theorem dX4_bestCells_76 : decode cX4_bestCells 76 = .ok (.istore_n 2, 1) := by decide +kernel
theorem dX4_bestCells_77 : decode cX4_bestCells 77 = .ok (.iinc 3 1, 3) := by decide +kernel
theorem dX4_bestCells_80 : decode cX4_bestCells 80 = .ok (.goto (-70), 3) := by decide +kernel
theorem dX4_bestCells_83 : decode cX4_bestCells 83 = .ok (.iload_n 1, 1) := by decide +kernel
theorem dX4_bestCells_84 : decode cX4_bestCells 84 = .ok (.ireturn, 1) := by decide +kernel
theorem dX4_fewestWorks_0 : decode cX4_fewestWorks 0 = .ok (.aload_n 0, 1) := by decide +kernel
theorem dX4_fewestWorks_1 : decode cX4_fewestWorks 1 = .ok (.getfield 76, 3) := by decide +kernel
theorem dX4_fewestWorks_4 : decode cX4_fewestWorks 4 = .ok (.aload_n 0, 1) := by decide +kernel
theorem dX4_fewestWorks_5 : decode cX4_fewestWorks 5 = .ok (.getfield 56, 3) := by decide +kernel
theorem dX4_fewestWorks_8 : decode cX4_fewestWorks 8 = .ok (.iconst (-1), 1) := by decide +kernel
theorem dX4_fewestWorks_9 : decode cX4_fewestWorks 9 = .ok (.ixor, 1) := by decide +kernel
theorem dX4_fewestWorks_10 : decode cX4_fewestWorks 10 = .ok (.iand, 1) := by decide +kernel
theorem dX4_fewestWorks_11 : decode cX4_fewestWorks 11 = .ok (.ifCond .eq 6, 3) := by decide +kernel
theorem dX4_fewestWorks_14 : decode cX4_fewestWorks 14 = .ok (.bipush (-2), 2) := by decide +kernel
theorem dX4_fewestWorks_16 : decode cX4_fewestWorks 16 = .ok (.ireturn, 1) := by decide +kernel
theorem dX4_fewestWorks_17 : decode cX4_fewestWorks 17 = .ok (.aload_n 0, 1) := by decide +kernel
theorem dX4_fewestWorks_18 : decode cX4_fewestWorks 18 = .ok (.getfield 59, 3) := by decide +kernel
theorem dX4_fewestWorks_21 : decode cX4_fewestWorks 21 = .ok (.aload_n 0, 1) := by decide +kernel
theorem dX4_fewestWorks_22 : decode cX4_fewestWorks 22 = .ok (.getfield 56, 3) := by decide +kernel
theorem dX4_fewestWorks_25 : decode cX4_fewestWorks 25 = .ok (.iconst (-1), 1) := by decide +kernel
theorem dX4_fewestWorks_26 : decode cX4_fewestWorks 26 = .ok (.ixor, 1) := by decide +kernel
theorem dX4_fewestWorks_27 : decode cX4_fewestWorks 27 = .ok (.iand, 1) := by decide +kernel
theorem dX4_fewestWorks_28 : decode cX4_fewestWorks 28 = .ok (.istore_n 1, 1) := by decide +kernel
theorem dX4_fewestWorks_29 : decode cX4_fewestWorks 29 = .ok (.aload_n 0, 1) := by decide +kernel
theorem dX4_fewestWorks_30 : decode cX4_fewestWorks 30 = .ok (.iload_n 1, 1) := by decide +kernel
theorem dX4_fewestWorks_31 : decode cX4_fewestWorks 31 = .ok (.aload_n 0, 1) := by decide +kernel
theorem dX4_fewestWorks_32 : decode cX4_fewestWorks 32 = .ok (.getfield 86, 3) := by decide +kernel
theorem dX4_fewestWorks_35 : decode cX4_fewestWorks 35 = .ok (.aload_n 0, 1) := by decide +kernel
theorem dX4_fewestWorks_36 : decode cX4_fewestWorks 36 = .ok (.getfield 76, 3) := by decide +kernel
theorem dX4_fewestWorks_39 : decode cX4_fewestWorks 39 = .ok (.ior, 1) := by decide +kernel
theorem dX4_fewestWorks_40 : decode cX4_fewestWorks 40 = .ok (.invokevirtual 114, 3) := by decide +kernel
theorem dX4_fewestWorks_43 : decode cX4_fewestWorks 43 = .ok (.aload_n 0, 1) := by decide +kernel
theorem dX4_fewestWorks_44 : decode cX4_fewestWorks 44 = .ok (.getfield 15, 3) := by decide +kernel
theorem dX4_fewestWorks_47 : decode cX4_fewestWorks 47 = .ok (.iload_n 1, 1) := by decide +kernel
theorem dX4_fewestWorks_48 : decode cX4_fewestWorks 48 = .ok (.iaload, 1) := by decide +kernel
theorem dX4_fewestWorks_49 : decode cX4_fewestWorks 49 = .ok (.bipush 100, 2) := by decide +kernel
theorem dX4_fewestWorks_51 : decode cX4_fewestWorks 51 = .ok (.if_icmp .ge 12, 3) := by decide +kernel
theorem dX4_fewestWorks_54 : decode cX4_fewestWorks 54 = .ok (.aload_n 0, 1) := by decide +kernel
theorem dX4_fewestWorks_55 : decode cX4_fewestWorks 55 = .ok (.getfield 15, 3) := by decide +kernel
theorem dX4_fewestWorks_58 : decode cX4_fewestWorks 58 = .ok (.iload_n 1, 1) := by decide +kernel
theorem dX4_fewestWorks_59 : decode cX4_fewestWorks 59 = .ok (.iaload, 1) := by decide +kernel
theorem dX4_fewestWorks_60 : decode cX4_fewestWorks 60 = .ok (.goto 5, 3) := by decide +kernel
theorem dX4_fewestWorks_63 : decode cX4_fewestWorks 63 = .ok (.bipush (-2), 2) := by decide +kernel
theorem dX4_fewestWorks_65 : decode cX4_fewestWorks 65 = .ok (.ireturn, 1) := by decide +kernel
theorem dX4_learnFewest_0 : decode cX4_learnFewest 0 = .ok (.aload_n 0, 1) := by decide +kernel
theorem dX4_learnFewest_1 : decode cX4_learnFewest 1 = .ok (.getfield 19, 3) := by decide +kernel
theorem dX4_learnFewest_4 : decode cX4_learnFewest 4 = .ok (.iload_n 2, 1) := by decide +kernel
theorem dX4_learnFewest_5 : decode cX4_learnFewest 5 = .ok (.if_icmp .ne 12, 3) := by decide +kernel
theorem dX4_learnFewest_8 : decode cX4_learnFewest 8 = .ok (.aload_n 0, 1) := by decide +kernel
theorem dX4_learnFewest_9 : decode cX4_learnFewest 9 = .ok (.getfield 23, 3) := by decide +kernel
theorem dX4_learnFewest_12 : decode cX4_learnFewest 12 = .ok (.iload_n 1, 1) := by decide +kernel
theorem dX4_learnFewest_13 : decode cX4_learnFewest 13 = .ok (.if_icmp .ne 4, 3) := by decide +kernel
theorem dX4_learnFewest_16 : decode cX4_learnFewest 16 = .ok (.return_, 1) := by decide +kernel
theorem dX4_learnFewest_17 : decode cX4_learnFewest 17 = .ok (.aload_n 0, 1) := by decide +kernel
theorem dX4_learnFewest_18 : decode cX4_learnFewest 18 = .ok (.iload_n 2, 1) := by decide +kernel
theorem dX4_learnFewest_19 : decode cX4_learnFewest 19 = .ok (.invokevirtual 118, 3) := by decide +kernel
theorem dX4_learnFewest_22 : decode cX4_learnFewest 22 = .ok (.aload_n 0, 1) := by decide +kernel
theorem dX4_learnFewest_23 : decode cX4_learnFewest 23 = .ok (.getfield 15, 3) := by decide +kernel
theorem dX4_learnFewest_26 : decode cX4_learnFewest 26 = .ok (.iconst 0, 1) := by decide +kernel
theorem dX4_learnFewest_27 : decode cX4_learnFewest 27 = .ok (.iconst 0, 1) := by decide +kernel
theorem dX4_learnFewest_28 : decode cX4_learnFewest 28 = .ok (.iastore, 1) := by decide +kernel
theorem dX4_learnFewest_29 : decode cX4_learnFewest 29 = .ok (.iconst 1, 1) := by decide +kernel
theorem dX4_learnFewest_30 : decode cX4_learnFewest 30 = .ok (.istore_n 3, 1) := by decide +kernel
theorem dX4_learnFewest_31 : decode cX4_learnFewest 31 = .ok (.iload_n 3, 1) := by decide +kernel
theorem dX4_learnFewest_32 : decode cX4_learnFewest 32 = .ok (.iload_n 1, 1) := by decide +kernel
theorem dX4_learnFewest_33 : decode cX4_learnFewest 33 = .ok (.if_icmp .gt 38, 3) := by decide +kernel
theorem dX4_learnFewest_36 : decode cX4_learnFewest 36 = .ok (.iload_n 3, 1) := by decide +kernel
theorem dX4_learnFewest_37 : decode cX4_learnFewest 37 = .ok (.iload_n 1, 1) := by decide +kernel
theorem dX4_learnFewest_38 : decode cX4_learnFewest 38 = .ok (.iconst (-1), 1) := by decide +kernel
theorem dX4_learnFewest_39 : decode cX4_learnFewest 39 = .ok (.ixor, 1) := by decide +kernel
theorem dX4_learnFewest_40 : decode cX4_learnFewest 40 = .ok (.iand, 1) := by decide +kernel
theorem dX4_learnFewest_41 : decode cX4_learnFewest 41 = .ok (.ifCond .ne 24, 3) := by decide +kernel
theorem dX4_learnFewest_44 : decode cX4_learnFewest 44 = .ok (.aload_n 0, 1) := by decide +kernel
theorem dX4_learnFewest_45 : decode cX4_learnFewest 45 = .ok (.getfield 15, 3) := by decide +kernel
theorem dX4_learnFewest_48 : decode cX4_learnFewest 48 = .ok (.iload_n 3, 1) := by decide +kernel
theorem dX4_learnFewest_49 : decode cX4_learnFewest 49 = .ok (.iaload, 1) := by decide +kernel
theorem dX4_learnFewest_50 : decode cX4_learnFewest 50 = .ok (.iconst 1, 1) := by decide +kernel
theorem dX4_learnFewest_51 : decode cX4_learnFewest 51 = .ok (.if_icmp .eq 14, 3) := by decide +kernel
theorem dX4_learnFewest_54 : decode cX4_learnFewest 54 = .ok (.aload_n 0, 1) := by decide +kernel
theorem dX4_learnFewest_55 : decode cX4_learnFewest 55 = .ok (.getfield 15, 3) := by decide +kernel
theorem dX4_learnFewest_58 : decode cX4_learnFewest 58 = .ok (.iload_n 3, 1) := by decide +kernel
theorem dX4_learnFewest_59 : decode cX4_learnFewest 59 = .ok (.aload_n 0, 1) := by decide +kernel
theorem dX4_learnFewest_60 : decode cX4_learnFewest 60 = .ok (.iload_n 3, 1) := by decide +kernel
theorem dX4_learnFewest_61 : decode cX4_learnFewest 61 = .ok (.invokevirtual 122, 3) := by decide +kernel
theorem dX4_learnFewest_64 : decode cX4_learnFewest 64 = .ok (.iastore, 1) := by decide +kernel
theorem dX4_learnFewest_65 : decode cX4_learnFewest 65 = .ok (.iinc 3 1, 3) := by decide +kernel
theorem dX4_learnFewest_68 : decode cX4_learnFewest 68 = .ok (.goto (-37), 3) := by decide +kernel
theorem dX4_learnFewest_71 : decode cX4_learnFewest 71 = .ok (.aload_n 0, 1) := by decide +kernel
theorem dX4_learnFewest_72 : decode cX4_learnFewest 72 = .ok (.iload_n 2, 1) := by decide +kernel
theorem dX4_learnFewest_73 : decode cX4_learnFewest 73 = .ok (.putfield 19, 3) := by decide +kernel
theorem dX4_learnFewest_76 : decode cX4_learnFewest 76 = .ok (.aload_n 0, 1) := by decide +kernel
theorem dX4_learnFewest_77 : decode cX4_learnFewest 77 = .ok (.iload_n 1, 1) := by decide +kernel
theorem dX4_learnFewest_78 : decode cX4_learnFewest 78 = .ok (.putfield 23, 3) := by decide +kernel
theorem dX4_learnFewest_81 : decode cX4_learnFewest 81 = .ok (.return_, 1) := by decide +kernel
theorem dX4_learnOneWork_0 : decode cX4_learnOneWork 0 = .ok (.aload_n 0, 1) := by decide +kernel
theorem dX4_learnOneWork_1 : decode cX4_learnOneWork 1 = .ok (.getfield 45, 3) := by decide +kernel
theorem dX4_learnOneWork_4 : decode cX4_learnOneWork 4 = .ok (.iconst 1, 1) := by decide +kernel
theorem dX4_learnOneWork_5 : decode cX4_learnOneWork 5 = .ok (.isub, 1) := by decide +kernel
theorem dX4_learnOneWork_6 : decode cX4_learnOneWork 6 = .ok (.istore_n 2, 1) := by decide +kernel
theorem dX4_learnOneWork_7 : decode cX4_learnOneWork 7 = .ok (.iload_n 2, 1) := by decide +kernel
theorem dX4_learnOneWork_8 : decode cX4_learnOneWork 8 = .ok (.ifCond .lt 83, 3) := by decide +kernel
theorem dX4_learnOneWork_11 : decode cX4_learnOneWork 11 = .ok (.aload_n 0, 1) := by decide +kernel
theorem dX4_learnOneWork_12 : decode cX4_learnOneWork 12 = .ok (.iload_n 2, 1) := by decide +kernel
theorem dX4_learnOneWork_13 : decode cX4_learnOneWork 13 = .ok (.iload_n 1, 1) := by decide +kernel
theorem dX4_learnOneWork_14 : decode cX4_learnOneWork 14 = .ok (.invokevirtual 111, 3) := by decide +kernel
theorem dX4_learnOneWork_17 : decode cX4_learnOneWork 17 = .ok (.istore_n 3, 1) := by decide +kernel
theorem dX4_learnOneWork_18 : decode cX4_learnOneWork 18 = .ok (.iconst 1, 1) := by decide +kernel
theorem dX4_learnOneWork_19 : decode cX4_learnOneWork 19 = .ok (.istore 4, 2) := by decide +kernel
theorem dX4_learnOneWork_21 : decode cX4_learnOneWork 21 = .ok (.iload 4, 2) := by decide +kernel
theorem dX4_learnOneWork_23 : decode cX4_learnOneWork 23 = .ok (.aload_n 0, 1) := by decide +kernel
theorem dX4_learnOneWork_24 : decode cX4_learnOneWork 24 = .ok (.getfield 45, 3) := by decide +kernel
theorem dX4_learnOneWork_27 : decode cX4_learnOneWork 27 = .ok (.if_icmp .ge 42, 3) := by decide +kernel
theorem dX4_learnOneWork_30 : decode cX4_learnOneWork 30 = .ok (.iload_n 3, 1) := by decide +kernel
theorem dX4_learnOneWork_31 : decode cX4_learnOneWork 31 = .ok (.ifCond .ne 38, 3) := by decide +kernel
theorem dX4_learnOneWork_34 : decode cX4_learnOneWork 34 = .ok (.iload_n 2, 1) := by decide +kernel
theorem dX4_learnOneWork_35 : decode cX4_learnOneWork 35 = .ok (.iload 4, 2) := by decide +kernel
theorem dX4_learnOneWork_37 : decode cX4_learnOneWork 37 = .ok (.iand, 1) := by decide +kernel
theorem dX4_learnOneWork_38 : decode cX4_learnOneWork 38 = .ok (.ifCond .ne 20, 3) := by decide +kernel
theorem dX4_learnOneWork_41 : decode cX4_learnOneWork 41 = .ok (.aload_n 0, 1) := by decide +kernel
theorem dX4_learnOneWork_42 : decode cX4_learnOneWork 42 = .ok (.getfield 15, 3) := by decide +kernel
theorem dX4_learnOneWork_45 : decode cX4_learnOneWork 45 = .ok (.iload_n 2, 1) := by decide +kernel
theorem dX4_learnOneWork_46 : decode cX4_learnOneWork 46 = .ok (.iload 4, 2) := by decide +kernel
theorem dX4_learnOneWork_48 : decode cX4_learnOneWork 48 = .ok (.ior, 1) := by decide +kernel
theorem dX4_learnOneWork_49 : decode cX4_learnOneWork 49 = .ok (.iaload, 1) := by decide +kernel
theorem dX4_learnOneWork_50 : decode cX4_learnOneWork 50 = .ok (.iconst 1, 1) := by decide +kernel
theorem dX4_learnOneWork_51 : decode cX4_learnOneWork 51 = .ok (.if_icmp .ne 7, 3) := by decide +kernel
theorem dX4_learnOneWork_54 : decode cX4_learnOneWork 54 = .ok (.iconst 1, 1) := by decide +kernel
theorem dX4_learnOneWork_55 : decode cX4_learnOneWork 55 = .ok (.goto 4, 3) := by decide +kernel
theorem dX4_learnOneWork_58 : decode cX4_learnOneWork 58 = .ok (.iconst 0, 1) := by decide +kernel
theorem dX4_learnOneWork_59 : decode cX4_learnOneWork 59 = .ok (.istore_n 3, 1) := by decide +kernel
theorem dX4_learnOneWork_60 : decode cX4_learnOneWork 60 = .ok (.iload 4, 2) := by decide +kernel
theorem dX4_learnOneWork_62 : decode cX4_learnOneWork 62 = .ok (.iconst 1, 1) := by decide +kernel
theorem dX4_learnOneWork_63 : decode cX4_learnOneWork 63 = .ok (.ishl, 1) := by decide +kernel
theorem dX4_learnOneWork_64 : decode cX4_learnOneWork 64 = .ok (.istore 4, 2) := by decide +kernel
theorem dX4_learnOneWork_66 : decode cX4_learnOneWork 66 = .ok (.goto (-45), 3) := by decide +kernel
theorem dX4_learnOneWork_69 : decode cX4_learnOneWork 69 = .ok (.aload_n 0, 1) := by decide +kernel
theorem dX4_learnOneWork_70 : decode cX4_learnOneWork 70 = .ok (.getfield 15, 3) := by decide +kernel
theorem dX4_learnOneWork_73 : decode cX4_learnOneWork 73 = .ok (.iload_n 2, 1) := by decide +kernel
theorem dX4_learnOneWork_74 : decode cX4_learnOneWork 74 = .ok (.iload_n 3, 1) := by decide +kernel
theorem dX4_learnOneWork_75 : decode cX4_learnOneWork 75 = .ok (.ifCond .eq 7, 3) := by decide +kernel
theorem dX4_learnOneWork_78 : decode cX4_learnOneWork 78 = .ok (.iconst 1, 1) := by decide +kernel
theorem dX4_learnOneWork_79 : decode cX4_learnOneWork 79 = .ok (.goto 5, 3) := by decide +kernel
theorem dX4_learnOneWork_82 : decode cX4_learnOneWork 82 = .ok (.bipush 100, 2) := by decide +kernel
theorem dX4_learnOneWork_84 : decode cX4_learnOneWork 84 = .ok (.iastore, 1) := by decide +kernel
theorem dX4_learnOneWork_85 : decode cX4_learnOneWork 85 = .ok (.iinc 2 (-1), 3) := by decide +kernel
theorem dX4_learnOneWork_88 : decode cX4_learnOneWork 88 = .ok (.goto (-81), 3) := by decide +kernel
theorem dX4_learnOneWork_91 : decode cX4_learnOneWork 91 = .ok (.return_, 1) := by decide +kernel
theorem dX4_fewestInTurn_0 : decode cX4_fewestInTurn 0 = .ok (.iload_n 1, 1) := by decide +kernel
theorem dX4_fewestInTurn_1 : decode cX4_fewestInTurn 1 = .ok (.iload_n 1, 1) := by decide +kernel
theorem dX4_fewestInTurn_2 : decode cX4_fewestInTurn 2 = .ok (.ineg, 1) := by decide +kernel
theorem dX4_fewestInTurn_3 : decode cX4_fewestInTurn 3 = .ok (.iand, 1) := by decide +kernel
theorem dX4_fewestInTurn_4 : decode cX4_fewestInTurn 4 = .ok (.istore_n 2, 1) := by decide +kernel
theorem dX4_fewestInTurn_5 : decode cX4_fewestInTurn 5 = .ok (.iload_n 1, 1) := by decide +kernel
theorem dX4_fewestInTurn_6 : decode cX4_fewestInTurn 6 = .ok (.iload_n 2, 1) := by decide +kernel
theorem dX4_fewestInTurn_7 : decode cX4_fewestInTurn 7 = .ok (.iconst (-1), 1) := by decide +kernel
theorem dX4_fewestInTurn_8 : decode cX4_fewestInTurn 8 = .ok (.ixor, 1) := by decide +kernel
theorem dX4_fewestInTurn_9 : decode cX4_fewestInTurn 9 = .ok (.iand, 1) := by decide +kernel
theorem dX4_fewestInTurn_10 : decode cX4_fewestInTurn 10 = .ok (.istore_n 3, 1) := by decide +kernel
theorem dX4_fewestInTurn_11 : decode cX4_fewestInTurn 11 = .ok (.iconst 1, 1) := by decide +kernel
theorem dX4_fewestInTurn_12 : decode cX4_fewestInTurn 12 = .ok (.iload_n 3, 1) := by decide +kernel
theorem dX4_fewestInTurn_13 : decode cX4_fewestInTurn 13 = .ok (.invokestatic 94, 3) := by decide +kernel
theorem dX4_fewestInTurn_16 : decode cX4_fewestInTurn 16 = .ok (.ishl, 1) := by decide +kernel
theorem dX4_fewestInTurn_17 : decode cX4_fewestInTurn 17 = .ok (.istore 4, 2) := by decide +kernel
theorem dX4_fewestInTurn_19 : decode cX4_fewestInTurn 19 = .ok (.bipush 100, 2) := by decide +kernel
theorem dX4_fewestInTurn_21 : decode cX4_fewestInTurn 21 = .ok (.istore 5, 2) := by decide +kernel
theorem dX4_fewestInTurn_23 : decode cX4_fewestInTurn 23 = .ok (.iload_n 3, 1) := by decide +kernel
theorem dX4_fewestInTurn_24 : decode cX4_fewestInTurn 24 = .ok (.istore 6, 2) := by decide +kernel
theorem dX4_fewestInTurn_26 : decode cX4_fewestInTurn 26 = .ok (.iconst 0, 1) := by decide +kernel
theorem dX4_fewestInTurn_27 : decode cX4_fewestInTurn 27 = .ok (.istore 7, 2) := by decide +kernel
theorem dX4_fewestInTurn_29 : decode cX4_fewestInTurn 29 = .ok (.iload 7, 2) := by decide +kernel
theorem dX4_fewestInTurn_31 : decode cX4_fewestInTurn 31 = .ok (.iload 4, 2) := by decide +kernel
theorem dX4_fewestInTurn_33 : decode cX4_fewestInTurn 33 = .ok (.if_icmp .ge 56, 3) := by decide +kernel
theorem dX4_fewestInTurn_36 : decode cX4_fewestInTurn 36 = .ok (.iload 5, 2) := by decide +kernel
theorem dX4_fewestInTurn_38 : decode cX4_fewestInTurn 38 = .ok (.iconst 2, 1) := by decide +kernel
theorem dX4_fewestInTurn_39 : decode cX4_fewestInTurn 39 = .ok (.if_icmp .le 50, 3) := by decide +kernel
theorem dX4_fewestInTurn_42 : decode cX4_fewestInTurn 42 = .ok (.aload_n 0, 1) := by decide +kernel
theorem dX4_fewestInTurn_43 : decode cX4_fewestInTurn 43 = .ok (.getfield 15, 3) := by decide +kernel
theorem dX4_fewestInTurn_46 : decode cX4_fewestInTurn 46 = .ok (.iload 6, 2) := by decide +kernel
theorem dX4_fewestInTurn_48 : decode cX4_fewestInTurn 48 = .ok (.iload_n 2, 1) := by decide +kernel
theorem dX4_fewestInTurn_49 : decode cX4_fewestInTurn 49 = .ok (.ior, 1) := by decide +kernel
theorem dX4_fewestInTurn_50 : decode cX4_fewestInTurn 50 = .ok (.iaload, 1) := by decide +kernel
theorem dX4_fewestInTurn_51 : decode cX4_fewestInTurn 51 = .ok (.iconst 1, 1) := by decide +kernel
theorem dX4_fewestInTurn_52 : decode cX4_fewestInTurn 52 = .ok (.if_icmp .ne 23, 3) := by decide +kernel
theorem dX4_fewestInTurn_55 : decode cX4_fewestInTurn 55 = .ok (.iload 5, 2) := by decide +kernel
theorem dX4_fewestInTurn_57 : decode cX4_fewestInTurn 57 = .ok (.aload_n 0, 1) := by decide +kernel
theorem dX4_fewestInTurn_58 : decode cX4_fewestInTurn 58 = .ok (.getfield 15, 3) := by decide +kernel
theorem dX4_fewestInTurn_61 : decode cX4_fewestInTurn 61 = .ok (.iload_n 3, 1) := by decide +kernel
theorem dX4_fewestInTurn_62 : decode cX4_fewestInTurn 62 = .ok (.iload 6, 2) := by decide +kernel
theorem dX4_fewestInTurn_64 : decode cX4_fewestInTurn 64 = .ok (.iconst (-1), 1) := by decide +kernel
theorem dX4_fewestInTurn_65 : decode cX4_fewestInTurn 65 = .ok (.ixor, 1) := by decide +kernel
theorem dX4_fewestInTurn_66 : decode cX4_fewestInTurn 66 = .ok (.iand, 1) := by decide +kernel
theorem dX4_fewestInTurn_67 : decode cX4_fewestInTurn 67 = .ok (.iaload, 1) := by decide +kernel
theorem dX4_fewestInTurn_68 : decode cX4_fewestInTurn 68 = .ok (.iconst 1, 1) := by decide +kernel
theorem dX4_fewestInTurn_69 : decode cX4_fewestInTurn 69 = .ok (.iadd, 1) := by decide +kernel
theorem dX4_fewestInTurn_70 : decode cX4_fewestInTurn 70 = .ok (.invokestatic 39, 3) := by decide +kernel
theorem dX4_fewestInTurn_73 : decode cX4_fewestInTurn 73 = .ok (.istore 5, 2) := by decide +kernel
theorem dX4_fewestInTurn_75 : decode cX4_fewestInTurn 75 = .ok (.iload 6, 2) := by decide +kernel
theorem dX4_fewestInTurn_77 : decode cX4_fewestInTurn 77 = .ok (.iconst 1, 1) := by decide +kernel
theorem dX4_fewestInTurn_78 : decode cX4_fewestInTurn 78 = .ok (.isub, 1) := by decide +kernel
theorem dX4_fewestInTurn_79 : decode cX4_fewestInTurn 79 = .ok (.iload_n 3, 1) := by decide +kernel
theorem dX4_fewestInTurn_80 : decode cX4_fewestInTurn 80 = .ok (.iand, 1) := by decide +kernel
theorem dX4_fewestInTurn_81 : decode cX4_fewestInTurn 81 = .ok (.istore 6, 2) := by decide +kernel
theorem dX4_fewestInTurn_83 : decode cX4_fewestInTurn 83 = .ok (.iinc 7 1, 3) := by decide +kernel
theorem dX4_fewestInTurn_86 : decode cX4_fewestInTurn 86 = .ok (.goto (-57), 3) := by decide +kernel
theorem dX4_fewestInTurn_89 : decode cX4_fewestInTurn 89 = .ok (.iload 5, 2) := by decide +kernel
theorem dX4_fewestInTurn_91 : decode cX4_fewestInTurn 91 = .ok (.ireturn, 1) := by decide +kernel
theorem dX4_stepCells_0 : decode cX4_stepCells 0 = .ok (.aload_n 0, 1) := by decide +kernel
theorem dX4_stepCells_1 : decode cX4_stepCells 1 = .ok (.getfield 59, 3) := by decide +kernel
theorem dX4_stepCells_4 : decode cX4_stepCells 4 = .ok (.aload_n 0, 1) := by decide +kernel
theorem dX4_stepCells_5 : decode cX4_stepCells 5 = .ok (.getfield 56, 3) := by decide +kernel
theorem dX4_stepCells_8 : decode cX4_stepCells 8 = .ok (.iconst (-1), 1) := by decide +kernel
theorem dX4_stepCells_9 : decode cX4_stepCells 9 = .ok (.ixor, 1) := by decide +kernel
theorem dX4_stepCells_10 : decode cX4_stepCells 10 = .ok (.iand, 1) := by decide +kernel
theorem dX4_stepCells_11 : decode cX4_stepCells 11 = .ok (.istore_n 2, 1) := by decide +kernel
theorem dX4_stepCells_12 : decode cX4_stepCells 12 = .ok (.iconst 0, 1) := by decide +kernel
theorem dX4_stepCells_13 : decode cX4_stepCells 13 = .ok (.istore_n 3, 1) := by decide +kernel
theorem dX4_stepCells_14 : decode cX4_stepCells 14 = .ok (.iconst 0, 1) := by decide +kernel
theorem dX4_stepCells_15 : decode cX4_stepCells 15 = .ok (.istore 4, 2) := by decide +kernel
theorem dX4_stepCells_17 : decode cX4_stepCells 17 = .ok (.iload 4, 2) := by decide +kernel
theorem dX4_stepCells_19 : decode cX4_stepCells 19 = .ok (.iload_n 1, 1) := by decide +kernel
theorem dX4_stepCells_20 : decode cX4_stepCells 20 = .ok (.if_icmp .gt 28, 3) := by decide +kernel
theorem dX4_stepCells_23 : decode cX4_stepCells 23 = .ok (.iload 4, 2) := by decide +kernel
theorem dX4_stepCells_25 : decode cX4_stepCells 25 = .ok (.bipush 12, 2) := by decide +kernel
theorem dX4_stepCells_27 : decode cX4_stepCells 27 = .ok (.if_icmp .ge 21, 3) := by decide +kernel
theorem dX4_stepCells_30 : decode cX4_stepCells 30 = .ok (.aload_n 0, 1) := by decide +kernel
theorem dX4_stepCells_31 : decode cX4_stepCells 31 = .ok (.iload_n 2, 1) := by decide +kernel
theorem dX4_stepCells_32 : decode cX4_stepCells 32 = .ok (.invokevirtual 125, 3) := by decide +kernel
theorem dX4_stepCells_35 : decode cX4_stepCells 35 = .ok (.istore_n 3, 1) := by decide +kernel
theorem dX4_stepCells_36 : decode cX4_stepCells 36 = .ok (.iload_n 2, 1) := by decide +kernel
theorem dX4_stepCells_37 : decode cX4_stepCells 37 = .ok (.iload_n 3, 1) := by decide +kernel
theorem dX4_stepCells_38 : decode cX4_stepCells 38 = .ok (.iconst (-1), 1) := by decide +kernel
theorem dX4_stepCells_39 : decode cX4_stepCells 39 = .ok (.ixor, 1) := by decide +kernel
theorem dX4_stepCells_40 : decode cX4_stepCells 40 = .ok (.iand, 1) := by decide +kernel
theorem dX4_stepCells_41 : decode cX4_stepCells 41 = .ok (.istore_n 2, 1) := by decide +kernel
theorem dX4_stepCells_42 : decode cX4_stepCells 42 = .ok (.iinc 4 1, 3) := by decide +kernel
theorem dX4_stepCells_45 : decode cX4_stepCells 45 = .ok (.goto (-28), 3) := by decide +kernel
theorem dX4_stepCells_48 : decode cX4_stepCells 48 = .ok (.iload_n 3, 1) := by decide +kernel
theorem dX4_stepCells_49 : decode cX4_stepCells 49 = .ok (.ireturn, 1) := by decide +kernel
theorem dX4_leastNext_0 : decode cX4_leastNext 0 = .ok (.iconst 1, 1) := by decide +kernel
theorem dX4_leastNext_1 : decode cX4_leastNext 1 = .ok (.istore_n 2, 1) := by decide +kernel
theorem dX4_leastNext_2 : decode cX4_leastNext 2 = .ok (.iload_n 2, 1) := by decide +kernel
theorem dX4_leastNext_3 : decode cX4_leastNext 3 = .ok (.aload_n 0, 1) := by decide +kernel
theorem dX4_leastNext_4 : decode cX4_leastNext 4 = .ok (.getfield 45, 3) := by decide +kernel
theorem dX4_leastNext_7 : decode cX4_leastNext 7 = .ok (.if_icmp .ge 49, 3) := by decide +kernel
theorem dX4_leastNext_10 : decode cX4_leastNext 10 = .ok (.aload_n 0, 1) := by decide +kernel
theorem dX4_leastNext_11 : decode cX4_leastNext 11 = .ok (.getfield 15, 3) := by decide +kernel
theorem dX4_leastNext_14 : decode cX4_leastNext 14 = .ok (.iload_n 1, 1) := by decide +kernel
theorem dX4_leastNext_15 : decode cX4_leastNext 15 = .ok (.iload_n 2, 1) := by decide +kernel
theorem dX4_leastNext_16 : decode cX4_leastNext 16 = .ok (.iconst (-1), 1) := by decide +kernel
theorem dX4_leastNext_17 : decode cX4_leastNext 17 = .ok (.ixor, 1) := by decide +kernel
theorem dX4_leastNext_18 : decode cX4_leastNext 18 = .ok (.iand, 1) := by decide +kernel
theorem dX4_leastNext_19 : decode cX4_leastNext 19 = .ok (.iaload, 1) := by decide +kernel
theorem dX4_leastNext_20 : decode cX4_leastNext 20 = .ok (.aload_n 0, 1) := by decide +kernel
theorem dX4_leastNext_21 : decode cX4_leastNext 21 = .ok (.getfield 15, 3) := by decide +kernel
theorem dX4_leastNext_24 : decode cX4_leastNext 24 = .ok (.iload_n 1, 1) := by decide +kernel
theorem dX4_leastNext_25 : decode cX4_leastNext 25 = .ok (.iaload, 1) := by decide +kernel
theorem dX4_leastNext_26 : decode cX4_leastNext 26 = .ok (.iconst 1, 1) := by decide +kernel
theorem dX4_leastNext_27 : decode cX4_leastNext 27 = .ok (.isub, 1) := by decide +kernel
theorem dX4_leastNext_28 : decode cX4_leastNext 28 = .ok (.if_icmp .ne 22, 3) := by decide +kernel
theorem dX4_leastNext_31 : decode cX4_leastNext 31 = .ok (.aload_n 0, 1) := by decide +kernel
theorem dX4_leastNext_32 : decode cX4_leastNext 32 = .ok (.iload_n 2, 1) := by decide +kernel
theorem dX4_leastNext_33 : decode cX4_leastNext 33 = .ok (.aload_n 0, 1) := by decide +kernel
theorem dX4_leastNext_34 : decode cX4_leastNext 34 = .ok (.getfield 86, 3) := by decide +kernel
theorem dX4_leastNext_37 : decode cX4_leastNext 37 = .ok (.aload_n 0, 1) := by decide +kernel
theorem dX4_leastNext_38 : decode cX4_leastNext 38 = .ok (.getfield 76, 3) := by decide +kernel
theorem dX4_leastNext_41 : decode cX4_leastNext 41 = .ok (.ior, 1) := by decide +kernel
theorem dX4_leastNext_42 : decode cX4_leastNext 42 = .ok (.invokevirtual 111, 3) := by decide +kernel
theorem dX4_leastNext_45 : decode cX4_leastNext 45 = .ok (.ifCond .eq 5, 3) := by decide +kernel
theorem dX4_leastNext_48 : decode cX4_leastNext 48 = .ok (.iload_n 2, 1) := by decide +kernel
theorem dX4_leastNext_49 : decode cX4_leastNext 49 = .ok (.ireturn, 1) := by decide +kernel
theorem dX4_leastNext_50 : decode cX4_leastNext 50 = .ok (.iinc 2 1, 3) := by decide +kernel
theorem dX4_leastNext_53 : decode cX4_leastNext 53 = .ok (.goto (-51), 3) := by decide +kernel
theorem dX4_leastNext_56 : decode cX4_leastNext 56 = .ok (.iconst 0, 1) := by decide +kernel
theorem dX4_leastNext_57 : decode cX4_leastNext 57 = .ok (.ireturn, 1) := by decide +kernel
theorem dX4_mostAlike_0 : decode cX4_mostAlike 0 = .ok (.iconst 0, 1) := by decide +kernel
theorem dX4_mostAlike_1 : decode cX4_mostAlike 1 = .ok (.istore_n 1, 1) := by decide +kernel
theorem dX4_mostAlike_2 : decode cX4_mostAlike 2 = .ok (.iconst 0, 1) := by decide +kernel
theorem dX4_mostAlike_3 : decode cX4_mostAlike 3 = .ok (.istore_n 2, 1) := by decide +kernel
theorem dX4_mostAlike_4 : decode cX4_mostAlike 4 = .ok (.iload_n 2, 1) := by decide +kernel
theorem dX4_mostAlike_5 : decode cX4_mostAlike 5 = .ok (.aload_n 0, 1) := by decide +kernel
theorem dX4_mostAlike_6 : decode cX4_mostAlike 6 = .ok (.getfield 45, 3) := by decide +kernel
theorem dX4_mostAlike_9 : decode cX4_mostAlike 9 = .ok (.if_icmp .ge 56, 3) := by decide +kernel
theorem dX4_mostAlike_12 : decode cX4_mostAlike 12 = .ok (.aload_n 0, 1) := by decide +kernel
theorem dX4_mostAlike_13 : decode cX4_mostAlike 13 = .ok (.getfield 26, 3) := by decide +kernel
theorem dX4_mostAlike_16 : decode cX4_mostAlike 16 = .ok (.iload_n 2, 1) := by decide +kernel
theorem dX4_mostAlike_17 : decode cX4_mostAlike 17 = .ok (.aload_n 0, 1) := by decide +kernel
theorem dX4_mostAlike_18 : decode cX4_mostAlike 18 = .ok (.iload_n 2, 1) := by decide +kernel
theorem dX4_mostAlike_19 : decode cX4_mostAlike 19 = .ok (.aload_n 0, 1) := by decide +kernel
theorem dX4_mostAlike_20 : decode cX4_mostAlike 20 = .ok (.getfield 86, 3) := by decide +kernel
theorem dX4_mostAlike_23 : decode cX4_mostAlike 23 = .ok (.invokevirtual 111, 3) := by decide +kernel
theorem dX4_mostAlike_26 : decode cX4_mostAlike 26 = .ok (.ifCond .eq 7, 3) := by decide +kernel
theorem dX4_mostAlike_29 : decode cX4_mostAlike 29 = .ok (.iload_n 2, 1) := by decide +kernel
theorem dX4_mostAlike_30 : decode cX4_mostAlike 30 = .ok (.goto 8, 3) := by decide +kernel
theorem dX4_mostAlike_33 : decode cX4_mostAlike 33 = .ok (.aload_n 0, 1) := by decide +kernel
theorem dX4_mostAlike_34 : decode cX4_mostAlike 34 = .ok (.iload_n 2, 1) := by decide +kernel
theorem dX4_mostAlike_35 : decode cX4_mostAlike 35 = .ok (.invokevirtual 128, 3) := by decide +kernel
theorem dX4_mostAlike_38 : decode cX4_mostAlike 38 = .ok (.iastore, 1) := by decide +kernel
theorem dX4_mostAlike_39 : decode cX4_mostAlike 39 = .ok (.aload_n 0, 1) := by decide +kernel
theorem dX4_mostAlike_40 : decode cX4_mostAlike 40 = .ok (.getfield 26, 3) := by decide +kernel
theorem dX4_mostAlike_43 : decode cX4_mostAlike 43 = .ok (.iload_n 2, 1) := by decide +kernel
theorem dX4_mostAlike_44 : decode cX4_mostAlike 44 = .ok (.iaload, 1) := by decide +kernel
theorem dX4_mostAlike_45 : decode cX4_mostAlike 45 = .ok (.iload_n 2, 1) := by decide +kernel
theorem dX4_mostAlike_46 : decode cX4_mostAlike 46 = .ok (.if_icmp .ne 13, 3) := by decide +kernel
theorem dX4_mostAlike_49 : decode cX4_mostAlike 49 = .ok (.iload_n 1, 1) := by decide +kernel
theorem dX4_mostAlike_50 : decode cX4_mostAlike 50 = .ok (.aload_n 0, 1) := by decide +kernel
theorem dX4_mostAlike_51 : decode cX4_mostAlike 51 = .ok (.iload_n 2, 1) := by decide +kernel
theorem dX4_mostAlike_52 : decode cX4_mostAlike 52 = .ok (.invokevirtual 108, 3) := by decide +kernel
theorem dX4_mostAlike_55 : decode cX4_mostAlike 55 = .ok (.invokestatic 131, 3) := by decide +kernel
theorem dX4_mostAlike_58 : decode cX4_mostAlike 58 = .ok (.istore_n 1, 1) := by decide +kernel
theorem dX4_mostAlike_59 : decode cX4_mostAlike 59 = .ok (.iinc 2 1, 3) := by decide +kernel
theorem dX4_mostAlike_62 : decode cX4_mostAlike 62 = .ok (.goto (-58), 3) := by decide +kernel
theorem dX4_mostAlike_65 : decode cX4_mostAlike 65 = .ok (.iload_n 1, 1) := by decide +kernel
theorem dX4_mostAlike_66 : decode cX4_mostAlike 66 = .ok (.ireturn, 1) := by decide +kernel
theorem dX4_paintedWithin_0 : decode cX4_paintedWithin 0 = .ok (.iconst 0, 1) := by decide +kernel
theorem dX4_paintedWithin_1 : decode cX4_paintedWithin 1 = .ok (.istore_n 2, 1) := by decide +kernel
theorem dX4_paintedWithin_2 : decode cX4_paintedWithin 2 = .ok (.iload_n 1, 1) := by decide +kernel
theorem dX4_paintedWithin_3 : decode cX4_paintedWithin 3 = .ok (.istore_n 3, 1) := by decide +kernel
theorem dX4_paintedWithin_4 : decode cX4_paintedWithin 4 = .ok (.iconst 0, 1) := by decide +kernel
theorem dX4_paintedWithin_5 : decode cX4_paintedWithin 5 = .ok (.istore 4, 2) := by decide +kernel
theorem dX4_paintedWithin_7 : decode cX4_paintedWithin 7 = .ok (.iload 4, 2) := by decide +kernel
theorem dX4_paintedWithin_9 : decode cX4_paintedWithin 9 = .ok (.bipush 12, 2) := by decide +kernel
theorem dX4_paintedWithin_11 : decode cX4_paintedWithin 11 = .ok (.if_icmp .ge 35, 3) := by decide +kernel
theorem dX4_paintedWithin_14 : decode cX4_paintedWithin 14 = .ok (.iload_n 3, 1) := by decide +kernel
theorem dX4_paintedWithin_15 : decode cX4_paintedWithin 15 = .ok (.ifCond .eq 31, 3) := by decide +kernel
theorem dX4_paintedWithin_18 : decode cX4_paintedWithin 18 = .ok (.iload_n 2, 1) := by decide +kernel
theorem dX4_paintedWithin_19 : decode cX4_paintedWithin 19 = .ok (.aload_n 0, 1) := by decide +kernel
theorem dX4_paintedWithin_20 : decode cX4_paintedWithin 20 = .ok (.getfield 26, 3) := by decide +kernel
theorem dX4_paintedWithin_23 : decode cX4_paintedWithin 23 = .ok (.iload_n 1, 1) := by decide +kernel
theorem dX4_paintedWithin_24 : decode cX4_paintedWithin 24 = .ok (.iload_n 3, 1) := by decide +kernel
theorem dX4_paintedWithin_25 : decode cX4_paintedWithin 25 = .ok (.iload_n 3, 1) := by decide +kernel
theorem dX4_paintedWithin_26 : decode cX4_paintedWithin 26 = .ok (.ineg, 1) := by decide +kernel
theorem dX4_paintedWithin_27 : decode cX4_paintedWithin 27 = .ok (.iand, 1) := by decide +kernel
theorem dX4_paintedWithin_28 : decode cX4_paintedWithin 28 = .ok (.iconst (-1), 1) := by decide +kernel
theorem dX4_paintedWithin_29 : decode cX4_paintedWithin 29 = .ok (.ixor, 1) := by decide +kernel
theorem dX4_paintedWithin_30 : decode cX4_paintedWithin 30 = .ok (.iand, 1) := by decide +kernel
theorem dX4_paintedWithin_31 : decode cX4_paintedWithin 31 = .ok (.iaload, 1) := by decide +kernel
theorem dX4_paintedWithin_32 : decode cX4_paintedWithin 32 = .ok (.ior, 1) := by decide +kernel
theorem dX4_paintedWithin_33 : decode cX4_paintedWithin 33 = .ok (.istore_n 2, 1) := by decide +kernel
theorem dX4_paintedWithin_34 : decode cX4_paintedWithin 34 = .ok (.iload_n 3, 1) := by decide +kernel
theorem dX4_paintedWithin_35 : decode cX4_paintedWithin 35 = .ok (.iload_n 3, 1) := by decide +kernel
theorem dX4_paintedWithin_36 : decode cX4_paintedWithin 36 = .ok (.iconst 1, 1) := by decide +kernel
theorem dX4_paintedWithin_37 : decode cX4_paintedWithin 37 = .ok (.isub, 1) := by decide +kernel
theorem dX4_paintedWithin_38 : decode cX4_paintedWithin 38 = .ok (.iand, 1) := by decide +kernel
theorem dX4_paintedWithin_39 : decode cX4_paintedWithin 39 = .ok (.istore_n 3, 1) := by decide +kernel
theorem dX4_paintedWithin_40 : decode cX4_paintedWithin 40 = .ok (.iinc 4 1, 3) := by decide +kernel
theorem dX4_paintedWithin_43 : decode cX4_paintedWithin 43 = .ok (.goto (-36), 3) := by decide +kernel
theorem dX4_paintedWithin_46 : decode cX4_paintedWithin 46 = .ok (.iload_n 2, 1) := by decide +kernel
theorem dX4_paintedWithin_47 : decode cX4_paintedWithin 47 = .ok (.ireturn, 1) := by decide +kernel
theorem dX4_fewestLeft_0 : decode cX4_fewestLeft 0 = .ok (.iload_n 1, 1) := by decide +kernel
theorem dX4_fewestLeft_1 : decode cX4_fewestLeft 1 = .ok (.invokestatic 94, 3) := by decide +kernel
theorem dX4_fewestLeft_4 : decode cX4_fewestLeft 4 = .ok (.istore_n 2, 1) := by decide +kernel
theorem dX4_fewestLeft_5 : decode cX4_fewestLeft 5 = .ok (.iconst 1, 1) := by decide +kernel
theorem dX4_fewestLeft_6 : decode cX4_fewestLeft 6 = .ok (.istore_n 3, 1) := by decide +kernel
theorem dX4_fewestLeft_7 : decode cX4_fewestLeft 7 = .ok (.iload_n 3, 1) := by decide +kernel
theorem dX4_fewestLeft_8 : decode cX4_fewestLeft 8 = .ok (.aload_n 0, 1) := by decide +kernel
theorem dX4_fewestLeft_9 : decode cX4_fewestLeft 9 = .ok (.getfield 45, 3) := by decide +kernel
theorem dX4_fewestLeft_12 : decode cX4_fewestLeft 12 = .ok (.if_icmp .ge 40, 3) := by decide +kernel
theorem dX4_fewestLeft_15 : decode cX4_fewestLeft 15 = .ok (.iload_n 1, 1) := by decide +kernel
theorem dX4_fewestLeft_16 : decode cX4_fewestLeft 16 = .ok (.iload_n 3, 1) := by decide +kernel
theorem dX4_fewestLeft_17 : decode cX4_fewestLeft 17 = .ok (.iconst (-1), 1) := by decide +kernel
theorem dX4_fewestLeft_18 : decode cX4_fewestLeft 18 = .ok (.ixor, 1) := by decide +kernel
theorem dX4_fewestLeft_19 : decode cX4_fewestLeft 19 = .ok (.iand, 1) := by decide +kernel
theorem dX4_fewestLeft_20 : decode cX4_fewestLeft 20 = .ok (.invokestatic 94, 3) := by decide +kernel
theorem dX4_fewestLeft_23 : decode cX4_fewestLeft 23 = .ok (.istore 4, 2) := by decide +kernel
theorem dX4_fewestLeft_25 : decode cX4_fewestLeft 25 = .ok (.iload 4, 2) := by decide +kernel
theorem dX4_fewestLeft_27 : decode cX4_fewestLeft 27 = .ok (.iload_n 2, 1) := by decide +kernel
theorem dX4_fewestLeft_28 : decode cX4_fewestLeft 28 = .ok (.if_icmp .ge 18, 3) := by decide +kernel
theorem dX4_fewestLeft_31 : decode cX4_fewestLeft 31 = .ok (.aload_n 0, 1) := by decide +kernel
theorem dX4_fewestLeft_32 : decode cX4_fewestLeft 32 = .ok (.iload_n 3, 1) := by decide +kernel
theorem dX4_fewestLeft_33 : decode cX4_fewestLeft 33 = .ok (.aload_n 0, 1) := by decide +kernel
theorem dX4_fewestLeft_34 : decode cX4_fewestLeft 34 = .ok (.getfield 86, 3) := by decide +kernel
theorem dX4_fewestLeft_37 : decode cX4_fewestLeft 37 = .ok (.invokevirtual 111, 3) := by decide +kernel
theorem dX4_fewestLeft_40 : decode cX4_fewestLeft 40 = .ok (.ifCond .eq 6, 3) := by decide +kernel
theorem dX4_fewestLeft_43 : decode cX4_fewestLeft 43 = .ok (.iload 4, 2) := by decide +kernel
theorem dX4_fewestLeft_45 : decode cX4_fewestLeft 45 = .ok (.istore_n 2, 1) := by decide +kernel
theorem dX4_fewestLeft_46 : decode cX4_fewestLeft 46 = .ok (.iinc 3 1, 3) := by decide +kernel
theorem dX4_fewestLeft_49 : decode cX4_fewestLeft 49 = .ok (.goto (-42), 3) := by decide +kernel
theorem dX4_fewestLeft_52 : decode cX4_fewestLeft 52 = .ok (.iload_n 2, 1) := by decide +kernel
theorem dX4_fewestLeft_53 : decode cX4_fewestLeft 53 = .ok (.ireturn, 1) := by decide +kernel
theorem dX5_init_0 : decode cX5_init 0 = .ok (.aload_n 0, 1) := by decide +kernel
theorem dX5_init_1 : decode cX5_init 1 = .ok (.invokespecial 3, 3) := by decide +kernel
theorem dX5_init_4 : decode cX5_init 4 = .ok (.aload_n 0, 1) := by decide +kernel
theorem dX5_init_5 : decode cX5_init 5 = .ok (.iconst (-1), 1) := by decide +kernel
theorem dX5_init_6 : decode cX5_init 6 = .ok (.putfield 9, 3) := by decide +kernel
theorem dX5_init_9 : decode cX5_init 9 = .ok (.aload_n 0, 1) := by decide +kernel
theorem dX5_init_10 : decode cX5_init 10 = .ok (.new 15, 3) := by decide +kernel
theorem dX5_init_13 : decode cX5_init 13 = .ok (.dup, 1) := by decide +kernel
theorem dX5_init_14 : decode cX5_init 14 = .ok (.invokespecial 17, 3) := by decide +kernel
theorem dX5_init_17 : decode cX5_init 17 = .ok (.putfield 18, 3) := by decide +kernel
theorem dX5_init_20 : decode cX5_init 20 = .ok (.aload_n 0, 1) := by decide +kernel
theorem dX5_init_21 : decode cX5_init 21 = .ok (.new 22, 3) := by decide +kernel
theorem dX5_init_24 : decode cX5_init 24 = .ok (.dup, 1) := by decide +kernel
theorem dX5_init_25 : decode cX5_init 25 = .ok (.invokespecial 24, 3) := by decide +kernel
theorem dX5_init_28 : decode cX5_init 28 = .ok (.putfield 25, 3) := by decide +kernel
theorem dX5_init_31 : decode cX5_init 31 = .ok (.aload_n 0, 1) := by decide +kernel
theorem dX5_init_32 : decode cX5_init 32 = .ok (.new 29, 3) := by decide +kernel
theorem dX5_init_35 : decode cX5_init 35 = .ok (.dup, 1) := by decide +kernel
theorem dX5_init_36 : decode cX5_init 36 = .ok (.invokespecial 31, 3) := by decide +kernel
theorem dX5_init_39 : decode cX5_init 39 = .ok (.putfield 32, 3) := by decide +kernel
theorem dX5_init_42 : decode cX5_init 42 = .ok (.return_, 1) := by decide +kernel
theorem dX5_readBook_0 : decode cX5_readBook 0 = .ok (.iload_n 2, 1) := by decide +kernel
theorem dX5_readBook_1 : decode cX5_readBook 1 = .ok (.aload_n 1, 1) := by decide +kernel
theorem dX5_readBook_2 : decode cX5_readBook 2 = .ok (.arraylength, 1) := by decide +kernel
theorem dX5_readBook_3 : decode cX5_readBook 3 = .ok (.invokestatic 36, 3) := by decide +kernel
theorem dX5_readBook_6 : decode cX5_readBook 6 = .ok (.istore_n 3, 1) := by decide +kernel
theorem dX5_readBook_7 : decode cX5_readBook 7 = .ok (.aload_n 0, 1) := by decide +kernel
theorem dX5_readBook_8 : decode cX5_readBook 8 = .ok (.getfield 32, 3) := by decide +kernel
theorem dX5_readBook_11 : decode cX5_readBook 11 = .ok (.aload_n 1, 1) := by decide +kernel
theorem dX5_readBook_12 : decode cX5_readBook 12 = .ok (.iload_n 3, 1) := by decide +kernel
theorem dX5_readBook_13 : decode cX5_readBook 13 = .ok (.invokevirtual 42, 3) := by decide +kernel
theorem dX5_readBook_16 : decode cX5_readBook 16 = .ok (.aload_n 0, 1) := by decide +kernel
theorem dX5_readBook_17 : decode cX5_readBook 17 = .ok (.getfield 18, 3) := by decide +kernel
theorem dX5_readBook_20 : decode cX5_readBook 20 = .ok (.invokevirtual 46, 3) := by decide +kernel
theorem dX5_readBook_23 : decode cX5_readBook 23 = .ok (.aload_n 0, 1) := by decide +kernel
theorem dX5_readBook_24 : decode cX5_readBook 24 = .ok (.getfield 25, 3) := by decide +kernel
theorem dX5_readBook_27 : decode cX5_readBook 27 = .ok (.invokevirtual 49, 3) := by decide +kernel
theorem dX5_readBook_30 : decode cX5_readBook 30 = .ok (.aload_n 0, 1) := by decide +kernel
theorem dX5_readBook_31 : decode cX5_readBook 31 = .ok (.iconst 0, 1) := by decide +kernel
theorem dX5_readBook_32 : decode cX5_readBook 32 = .ok (.putfield 50, 3) := by decide +kernel
theorem dX5_readBook_35 : decode cX5_readBook 35 = .ok (.aload_n 0, 1) := by decide +kernel
theorem dX5_readBook_36 : decode cX5_readBook 36 = .ok (.iconst 0, 1) := by decide +kernel
theorem dX5_readBook_37 : decode cX5_readBook 37 = .ok (.putfield 53, 3) := by decide +kernel
theorem dX5_readBook_40 : decode cX5_readBook 40 = .ok (.iconst 1, 1) := by decide +kernel
theorem dX5_readBook_41 : decode cX5_readBook 41 = .ok (.istore 4, 2) := by decide +kernel
theorem dX5_readBook_43 : decode cX5_readBook 43 = .ok (.iconst 0, 1) := by decide +kernel
theorem dX5_readBook_44 : decode cX5_readBook 44 = .ok (.istore 5, 2) := by decide +kernel
theorem dX5_readBook_46 : decode cX5_readBook 46 = .ok (.iload 5, 2) := by decide +kernel
theorem dX5_readBook_48 : decode cX5_readBook 48 = .ok (.iload_n 3, 1) := by decide +kernel
theorem dX5_readBook_49 : decode cX5_readBook 49 = .ok (.if_icmp .gt 169, 3) := by decide +kernel
theorem dX5_readBook_52 : decode cX5_readBook 52 = .ok (.iload 4, 2) := by decide +kernel
theorem dX5_readBook_54 : decode cX5_readBook 54 = .ok (.ifCond .eq 164, 3) := by decide +kernel
theorem dX5_readBook_57 : decode cX5_readBook 57 = .ok (.aload_n 0, 1) := by decide +kernel
theorem dX5_readBook_58 : decode cX5_readBook 58 = .ok (.getfield 32, 3) := by decide +kernel
theorem dX5_readBook_61 : decode cX5_readBook 61 = .ok (.aload_n 0, 1) := by decide +kernel
theorem dX5_readBook_62 : decode cX5_readBook 62 = .ok (.getfield 53, 3) := by decide +kernel
theorem dX5_readBook_65 : decode cX5_readBook 65 = .ok (.ldc2_w 56, 3) := by decide +kernel
theorem dX5_readBook_68 : decode cX5_readBook 68 = .ok (.invokevirtual 58, 3) := by decide +kernel
theorem dX5_readBook_71 : decode cX5_readBook 71 = .ok (.ifCond .eq 10, 3) := by decide +kernel
theorem dX5_readBook_74 : decode cX5_readBook 74 = .ok (.aload_n 0, 1) := by decide +kernel
theorem dX5_readBook_75 : decode cX5_readBook 75 = .ok (.invokevirtual 62, 3) := by decide +kernel
theorem dX5_readBook_78 : decode cX5_readBook 78 = .ok (.goto 128, 3) := by decide +kernel
theorem dX5_readBook_81 : decode cX5_readBook 81 = .ok (.aload_n 0, 1) := by decide +kernel
theorem dX5_readBook_82 : decode cX5_readBook 82 = .ok (.getfield 32, 3) := by decide +kernel
theorem dX5_readBook_85 : decode cX5_readBook 85 = .ok (.aload_n 0, 1) := by decide +kernel
theorem dX5_readBook_86 : decode cX5_readBook 86 = .ok (.getfield 53, 3) := by decide +kernel
theorem dX5_readBook_89 : decode cX5_readBook 89 = .ok (.ldc2_w 65, 3) := by decide +kernel
theorem dX5_readBook_92 : decode cX5_readBook 92 = .ok (.invokevirtual 58, 3) := by decide +kernel
theorem dX5_readBook_95 : decode cX5_readBook 95 = .ok (.ifCond .eq 10, 3) := by decide +kernel
theorem dX5_readBook_98 : decode cX5_readBook 98 = .ok (.aload_n 0, 1) := by decide +kernel
theorem dX5_readBook_99 : decode cX5_readBook 99 = .ok (.invokevirtual 67, 3) := by decide +kernel
theorem dX5_readBook_102 : decode cX5_readBook 102 = .ok (.goto 104, 3) := by decide +kernel
theorem dX5_readBook_105 : decode cX5_readBook 105 = .ok (.aload_n 0, 1) := by decide +kernel
theorem dX5_readBook_106 : decode cX5_readBook 106 = .ok (.getfield 32, 3) := by decide +kernel
theorem dX5_readBook_109 : decode cX5_readBook 109 = .ok (.aload_n 0, 1) := by decide +kernel
theorem dX5_readBook_110 : decode cX5_readBook 110 = .ok (.getfield 53, 3) := by decide +kernel
theorem dX5_readBook_113 : decode cX5_readBook 113 = .ok (.ldc2_w 70, 3) := by decide +kernel
theorem dX5_readBook_116 : decode cX5_readBook 116 = .ok (.invokevirtual 58, 3) := by decide +kernel
theorem dX5_readBook_119 : decode cX5_readBook 119 = .ok (.ifCond .eq 10, 3) := by decide +kernel
theorem dX5_readBook_122 : decode cX5_readBook 122 = .ok (.aload_n 0, 1) := by decide +kernel
theorem dX5_readBook_123 : decode cX5_readBook 123 = .ok (.invokevirtual 72, 3) := by decide +kernel
theorem dX5_readBook_126 : decode cX5_readBook 126 = .ok (.goto 80, 3) := by decide +kernel
theorem dX5_readBook_129 : decode cX5_readBook 129 = .ok (.aload_n 0, 1) := by decide +kernel
theorem dX5_readBook_130 : decode cX5_readBook 130 = .ok (.getfield 32, 3) := by decide +kernel
theorem dX5_readBook_133 : decode cX5_readBook 133 = .ok (.aload_n 0, 1) := by decide +kernel
theorem dX5_readBook_134 : decode cX5_readBook 134 = .ok (.getfield 53, 3) := by decide +kernel
theorem dX5_readBook_137 : decode cX5_readBook 137 = .ok (.ldc2_w 75, 3) := by decide +kernel
theorem dX5_readBook_140 : decode cX5_readBook 140 = .ok (.invokevirtual 58, 3) := by decide +kernel
theorem dX5_readBook_143 : decode cX5_readBook 143 = .ok (.ifCond .eq 10, 3) := by decide +kernel
theorem dX5_readBook_146 : decode cX5_readBook 146 = .ok (.aload_n 0, 1) := by decide +kernel
theorem dX5_readBook_147 : decode cX5_readBook 147 = .ok (.invokevirtual 77, 3) := by decide +kernel
theorem dX5_readBook_150 : decode cX5_readBook 150 = .ok (.goto 56, 3) := by decide +kernel
theorem dX5_readBook_153 : decode cX5_readBook 153 = .ok (.aload_n 0, 1) := by decide +kernel
theorem dX5_readBook_154 : decode cX5_readBook 154 = .ok (.getfield 32, 3) := by decide +kernel
theorem dX5_readBook_157 : decode cX5_readBook 157 = .ok (.aload_n 0, 1) := by decide +kernel
theorem dX5_readBook_158 : decode cX5_readBook 158 = .ok (.getfield 53, 3) := by decide +kernel
theorem dX5_readBook_161 : decode cX5_readBook 161 = .ok (.ldc2_w 80, 3) := by decide +kernel
theorem dX5_readBook_164 : decode cX5_readBook 164 = .ok (.invokevirtual 58, 3) := by decide +kernel
theorem dX5_readBook_167 : decode cX5_readBook 167 = .ok (.ifCond .eq 10, 3) := by decide +kernel
theorem dX5_readBook_170 : decode cX5_readBook 170 = .ok (.aload_n 0, 1) := by decide +kernel
theorem dX5_readBook_171 : decode cX5_readBook 171 = .ok (.invokevirtual 82, 3) := by decide +kernel
theorem dX5_readBook_174 : decode cX5_readBook 174 = .ok (.goto 32, 3) := by decide +kernel
theorem dX5_readBook_177 : decode cX5_readBook 177 = .ok (.aload_n 0, 1) := by decide +kernel
theorem dX5_readBook_178 : decode cX5_readBook 178 = .ok (.getfield 32, 3) := by decide +kernel
theorem dX5_readBook_181 : decode cX5_readBook 181 = .ok (.aload_n 0, 1) := by decide +kernel
theorem dX5_readBook_182 : decode cX5_readBook 182 = .ok (.getfield 53, 3) := by decide +kernel
theorem dX5_readBook_185 : decode cX5_readBook 185 = .ok (.ldc2_w 85, 3) := by decide +kernel
theorem dX5_readBook_188 : decode cX5_readBook 188 = .ok (.invokevirtual 58, 3) := by decide +kernel
theorem dX5_readBook_191 : decode cX5_readBook 191 = .ok (.ifCond .eq 10, 3) := by decide +kernel
theorem dX5_readBook_194 : decode cX5_readBook 194 = .ok (.aload_n 0, 1) := by decide +kernel
theorem dX5_readBook_195 : decode cX5_readBook 195 = .ok (.invokevirtual 87, 3) := by decide +kernel
theorem dX5_readBook_198 : decode cX5_readBook 198 = .ok (.goto 8, 3) := by decide +kernel
theorem dX5_readBook_201 : decode cX5_readBook 201 = .ok (.aload_n 0, 1) := by decide +kernel
theorem dX5_readBook_202 : decode cX5_readBook 202 = .ok (.iconst 1, 1) := by decide +kernel
theorem dX5_readBook_203 : decode cX5_readBook 203 = .ok (.invokevirtual 90, 3) := by decide +kernel
theorem dX5_readBook_206 : decode cX5_readBook 206 = .ok (.aload_n 0, 1) := by decide +kernel
theorem dX5_readBook_207 : decode cX5_readBook 207 = .ok (.invokevirtual 94, 3) := by decide +kernel
theorem dX5_readBook_210 : decode cX5_readBook 210 = .ok (.istore 4, 2) := by decide +kernel
theorem dX5_readBook_212 : decode cX5_readBook 212 = .ok (.iinc 5 1, 3) := by decide +kernel
theorem dX5_readBook_215 : decode cX5_readBook 215 = .ok (.goto (-169), 3) := by decide +kernel
theorem dX5_readBook_218 : decode cX5_readBook 218 = .ok (.aload_n 0, 1) := by decide +kernel
theorem dX5_readBook_219 : decode cX5_readBook 219 = .ok (.aload_n 0, 1) := by decide +kernel
theorem dX5_readBook_220 : decode cX5_readBook 220 = .ok (.getfield 50, 3) := by decide +kernel
theorem dX5_readBook_223 : decode cX5_readBook 223 = .ok (.ifCond .ne 7, 3) := by decide +kernel
theorem dX5_readBook_226 : decode cX5_readBook 226 = .ok (.iconst (-1), 1) := by decide +kernel
theorem dX5_readBook_227 : decode cX5_readBook 227 = .ok (.goto 14, 3) := by decide +kernel
theorem dX5_readBook_230 : decode cX5_readBook 230 = .ok (.aload_n 0, 1) := by decide +kernel
theorem dX5_readBook_231 : decode cX5_readBook 231 = .ok (.getfield 32, 3) := by decide +kernel
theorem dX5_readBook_234 : decode cX5_readBook 234 = .ok (.aload_n 0, 1) := by decide +kernel
theorem dX5_readBook_235 : decode cX5_readBook 235 = .ok (.getfield 98, 3) := by decide +kernel
theorem dX5_readBook_238 : decode cX5_readBook 238 = .ok (.invokevirtual 101, 3) := by decide +kernel
theorem dX5_readBook_241 : decode cX5_readBook 241 = .ok (.putfield 9, 3) := by decide +kernel
theorem dX5_readBook_244 : decode cX5_readBook 244 = .ok (.return_, 1) := by decide +kernel
theorem dX5_isLineToCome_0 : decode cX5_isLineToCome 0 = .ok (.aload_n 0, 1) := by decide +kernel
theorem dX5_isLineToCome_1 : decode cX5_isLineToCome 1 = .ok (.getfield 32, 3) := by decide +kernel
theorem dX5_isLineToCome_4 : decode cX5_isLineToCome 4 = .ok (.aload_n 0, 1) := by decide +kernel
theorem dX5_isLineToCome_5 : decode cX5_isLineToCome 5 = .ok (.getfield 53, 3) := by decide +kernel
theorem dX5_isLineToCome_8 : decode cX5_isLineToCome 8 = .ok (.iconst 4, 1) := by decide +kernel
theorem dX5_isLineToCome_9 : decode cX5_isLineToCome 9 = .ok (.invokevirtual 105, 3) := by decide +kernel
theorem dX5_isLineToCome_12 : decode cX5_isLineToCome 12 = .ok (.istore_n 1, 1) := by decide +kernel
theorem dX5_isLineToCome_13 : decode cX5_isLineToCome 13 = .ok (.iload_n 1, 1) := by decide +kernel
theorem dX5_isLineToCome_14 : decode cX5_isLineToCome 14 = .ok (.ifCond .ne 23, 3) := by decide +kernel
theorem dX5_isLineToCome_17 : decode cX5_isLineToCome 17 = .ok (.aload_n 0, 1) := by decide +kernel
theorem dX5_isLineToCome_18 : decode cX5_isLineToCome 18 = .ok (.getfield 32, 3) := by decide +kernel
theorem dX5_isLineToCome_21 : decode cX5_isLineToCome 21 = .ok (.aload_n 0, 1) := by decide +kernel
theorem dX5_isLineToCome_22 : decode cX5_isLineToCome 22 = .ok (.getfield 53, 3) := by decide +kernel
theorem dX5_isLineToCome_25 : decode cX5_isLineToCome 25 = .ok (.iconst 1, 1) := by decide +kernel
theorem dX5_isLineToCome_26 : decode cX5_isLineToCome 26 = .ok (.invokevirtual 105, 3) := by decide +kernel
theorem dX5_isLineToCome_29 : decode cX5_isLineToCome 29 = .ok (.ifCond .ne 8, 3) := by decide +kernel
theorem dX5_isLineToCome_32 : decode cX5_isLineToCome 32 = .ok (.aload_n 0, 1) := by decide +kernel
theorem dX5_isLineToCome_33 : decode cX5_isLineToCome 33 = .ok (.iconst 1, 1) := by decide +kernel
theorem dX5_isLineToCome_34 : decode cX5_isLineToCome 34 = .ok (.invokevirtual 90, 3) := by decide +kernel
theorem dX5_isLineToCome_37 : decode cX5_isLineToCome 37 = .ok (.iload_n 1, 1) := by decide +kernel
theorem dX5_isLineToCome_38 : decode cX5_isLineToCome 38 = .ok (.ifCond .ne 19, 3) := by decide +kernel
theorem dX5_isLineToCome_41 : decode cX5_isLineToCome 41 = .ok (.aload_n 0, 1) := by decide +kernel
theorem dX5_isLineToCome_42 : decode cX5_isLineToCome 42 = .ok (.getfield 18, 3) := by decide +kernel
theorem dX5_isLineToCome_45 : decode cX5_isLineToCome 45 = .ok (.invokevirtual 109, 3) := by decide +kernel
theorem dX5_isLineToCome_48 : decode cX5_isLineToCome 48 = .ok (.ifCond .ne 9, 3) := by decide +kernel
theorem dX5_isLineToCome_51 : decode cX5_isLineToCome 51 = .ok (.aload_n 0, 1) := by decide +kernel
theorem dX5_isLineToCome_52 : decode cX5_isLineToCome 52 = .ok (.bipush 6, 2) := by decide +kernel
theorem dX5_isLineToCome_54 : decode cX5_isLineToCome 54 = .ok (.invokevirtual 90, 3) := by decide +kernel
theorem dX5_isLineToCome_57 : decode cX5_isLineToCome 57 = .ok (.aload_n 0, 1) := by decide +kernel
theorem dX5_isLineToCome_58 : decode cX5_isLineToCome 58 = .ok (.dup, 1) := by decide +kernel
theorem dX5_isLineToCome_59 : decode cX5_isLineToCome 59 = .ok (.getfield 53, 3) := by decide +kernel
theorem dX5_isLineToCome_62 : decode cX5_isLineToCome 62 = .ok (.iconst 1, 1) := by decide +kernel
theorem dX5_isLineToCome_63 : decode cX5_isLineToCome 63 = .ok (.iadd, 1) := by decide +kernel
theorem dX5_isLineToCome_64 : decode cX5_isLineToCome 64 = .ok (.putfield 53, 3) := by decide +kernel
theorem dX5_isLineToCome_67 : decode cX5_isLineToCome 67 = .ok (.iload_n 1, 1) := by decide +kernel
theorem dX5_isLineToCome_68 : decode cX5_isLineToCome 68 = .ok (.ifCond .eq 14, 3) := by decide +kernel
theorem dX5_isLineToCome_71 : decode cX5_isLineToCome 71 = .ok (.aload_n 0, 1) := by decide +kernel
theorem dX5_isLineToCome_72 : decode cX5_isLineToCome 72 = .ok (.getfield 50, 3) := by decide +kernel
theorem dX5_isLineToCome_75 : decode cX5_isLineToCome 75 = .ok (.ifCond .ne 7, 3) := by decide +kernel
theorem dX5_isLineToCome_78 : decode cX5_isLineToCome 78 = .ok (.iconst 1, 1) := by decide +kernel
theorem dX5_isLineToCome_79 : decode cX5_isLineToCome 79 = .ok (.goto 4, 3) := by decide +kernel
theorem dX5_isLineToCome_82 : decode cX5_isLineToCome 82 = .ok (.iconst 0, 1) := by decide +kernel
theorem dX5_isLineToCome_83 : decode cX5_isLineToCome 83 = .ok (.ireturn, 1) := by decide +kernel
theorem dX5_wallLine_0 : decode cX5_wallLine 0 = .ok (.aload_n 0, 1) := by decide +kernel
theorem dX5_wallLine_1 : decode cX5_wallLine 1 = .ok (.getfield 18, 3) := by decide +kernel
theorem dX5_wallLine_4 : decode cX5_wallLine 4 = .ok (.invokevirtual 109, 3) := by decide +kernel
theorem dX5_wallLine_7 : decode cX5_wallLine 7 = .ok (.ifCond .eq 8, 3) := by decide +kernel
theorem dX5_wallLine_10 : decode cX5_wallLine 10 = .ok (.aload_n 0, 1) := by decide +kernel
theorem dX5_wallLine_11 : decode cX5_wallLine 11 = .ok (.iconst 3, 1) := by decide +kernel
theorem dX5_wallLine_12 : decode cX5_wallLine 12 = .ok (.invokevirtual 90, 3) := by decide +kernel
theorem dX5_wallLine_15 : decode cX5_wallLine 15 = .ok (.aload_n 0, 1) := by decide +kernel
theorem dX5_wallLine_16 : decode cX5_wallLine 16 = .ok (.dup, 1) := by decide +kernel
theorem dX5_wallLine_17 : decode cX5_wallLine 17 = .ok (.getfield 53, 3) := by decide +kernel
theorem dX5_wallLine_20 : decode cX5_wallLine 20 = .ok (.iconst 1, 1) := by decide +kernel
theorem dX5_wallLine_21 : decode cX5_wallLine 21 = .ok (.iadd, 1) := by decide +kernel
theorem dX5_wallLine_22 : decode cX5_wallLine 22 = .ok (.putfield 53, 3) := by decide +kernel
theorem dX5_wallLine_25 : decode cX5_wallLine 25 = .ok (.aload_n 0, 1) := by decide +kernel
theorem dX5_wallLine_26 : decode cX5_wallLine 26 = .ok (.ldc2_w 112, 3) := by decide +kernel
theorem dX5_wallLine_29 : decode cX5_wallLine 29 = .ok (.invokevirtual 114, 3) := by decide +kernel
theorem dX5_wallLine_32 : decode cX5_wallLine 32 = .ok (.aload_n 0, 1) := by decide +kernel
theorem dX5_wallLine_33 : decode cX5_wallLine 33 = .ok (.getfield 18, 3) := by decide +kernel
theorem dX5_wallLine_36 : decode cX5_wallLine 36 = .ok (.aload_n 0, 1) := by decide +kernel
theorem dX5_wallLine_37 : decode cX5_wallLine 37 = .ok (.iconst 1, 1) := by decide +kernel
theorem dX5_wallLine_38 : decode cX5_wallLine 38 = .ok (.bipush 6, 2) := by decide +kernel
theorem dX5_wallLine_40 : decode cX5_wallLine 40 = .ok (.invokevirtual 118, 3) := by decide +kernel
theorem dX5_wallLine_43 : decode cX5_wallLine 43 = .ok (.putfield 121, 3) := by decide +kernel
theorem dX5_wallLine_46 : decode cX5_wallLine 46 = .ok (.aload_n 0, 1) := by decide +kernel
theorem dX5_wallLine_47 : decode cX5_wallLine 47 = .ok (.ldc2_w 124, 3) := by decide +kernel
theorem dX5_wallLine_50 : decode cX5_wallLine 50 = .ok (.invokevirtual 114, 3) := by decide +kernel
theorem dX5_wallLine_53 : decode cX5_wallLine 53 = .ok (.aload_n 0, 1) := by decide +kernel
theorem dX5_wallLine_54 : decode cX5_wallLine 54 = .ok (.getfield 18, 3) := by decide +kernel
theorem dX5_wallLine_57 : decode cX5_wallLine 57 = .ok (.aload_n 0, 1) := by decide +kernel
theorem dX5_wallLine_58 : decode cX5_wallLine 58 = .ok (.iconst 1, 1) := by decide +kernel
theorem dX5_wallLine_59 : decode cX5_wallLine 59 = .ok (.iconst 4, 1) := by decide +kernel
theorem dX5_wallLine_60 : decode cX5_wallLine 60 = .ok (.invokevirtual 118, 3) := by decide +kernel
theorem dX5_wallLine_63 : decode cX5_wallLine 63 = .ok (.putfield 126, 3) := by decide +kernel
theorem dX5_wallLine_66 : decode cX5_wallLine 66 = .ok (.aload_n 0, 1) := by decide +kernel
theorem dX5_wallLine_67 : decode cX5_wallLine 67 = .ok (.ldc2_w 129, 3) := by decide +kernel
theorem dX5_wallLine_70 : decode cX5_wallLine 70 = .ok (.invokevirtual 114, 3) := by decide +kernel
theorem dX5_wallLine_73 : decode cX5_wallLine 73 = .ok (.aload_n 0, 1) := by decide +kernel
theorem dX5_wallLine_74 : decode cX5_wallLine 74 = .ok (.getfield 18, 3) := by decide +kernel
theorem dX5_wallLine_77 : decode cX5_wallLine 77 = .ok (.aload_n 0, 1) := by decide +kernel
theorem dX5_wallLine_78 : decode cX5_wallLine 78 = .ok (.iconst 0, 1) := by decide +kernel
theorem dX5_wallLine_79 : decode cX5_wallLine 79 = .ok (.aload_n 0, 1) := by decide +kernel
theorem dX5_wallLine_80 : decode cX5_wallLine 80 = .ok (.getfield 18, 3) := by decide +kernel
theorem dX5_wallLine_83 : decode cX5_wallLine 83 = .ok (.invokevirtual 131, 3) := by decide +kernel
theorem dX5_wallLine_86 : decode cX5_wallLine 86 = .ok (.invokevirtual 118, 3) := by decide +kernel
theorem dX5_wallLine_89 : decode cX5_wallLine 89 = .ok (.putfield 135, 3) := by decide +kernel
theorem dX5_wallLine_92 : decode cX5_wallLine 92 = .ok (.aload_n 0, 1) := by decide +kernel
theorem dX5_wallLine_93 : decode cX5_wallLine 93 = .ok (.ldc2_w 138, 3) := by decide +kernel
theorem dX5_wallLine_96 : decode cX5_wallLine 96 = .ok (.invokevirtual 114, 3) := by decide +kernel
theorem dX5_wallLine_99 : decode cX5_wallLine 99 = .ok (.aload_n 0, 1) := by decide +kernel
theorem dX5_wallLine_100 : decode cX5_wallLine 100 = .ok (.getfield 18, 3) := by decide +kernel
theorem dX5_wallLine_103 : decode cX5_wallLine 103 = .ok (.aload_n 0, 1) := by decide +kernel
theorem dX5_wallLine_104 : decode cX5_wallLine 104 = .ok (.iconst 0, 1) := by decide +kernel
theorem dX5_wallLine_105 : decode cX5_wallLine 105 = .ok (.bipush 9, 2) := by decide +kernel
theorem dX5_wallLine_107 : decode cX5_wallLine 107 = .ok (.invokevirtual 118, 3) := by decide +kernel
theorem dX5_wallLine_110 : decode cX5_wallLine 110 = .ok (.putfield 140, 3) := by decide +kernel
theorem dX5_wallLine_113 : decode cX5_wallLine 113 = .ok (.return_, 1) := by decide +kernel
theorem dX5_colourLine_0 : decode cX5_colourLine 0 = .ok (.aload_n 0, 1) := by decide +kernel
theorem dX5_colourLine_1 : decode cX5_colourLine 1 = .ok (.getfield 18, 3) := by decide +kernel
theorem dX5_colourLine_4 : decode cX5_colourLine 4 = .ok (.getfield 143, 3) := by decide +kernel
theorem dX5_colourLine_7 : decode cX5_colourLine 7 = .ok (.iconst 5, 1) := by decide +kernel
theorem dX5_colourLine_8 : decode cX5_colourLine 8 = .ok (.if_icmp .lt 8, 3) := by decide +kernel
theorem dX5_colourLine_11 : decode cX5_colourLine 11 = .ok (.aload_n 0, 1) := by decide +kernel
theorem dX5_colourLine_12 : decode cX5_colourLine 12 = .ok (.iconst 5, 1) := by decide +kernel
theorem dX5_colourLine_13 : decode cX5_colourLine 13 = .ok (.invokevirtual 90, 3) := by decide +kernel
theorem dX5_colourLine_16 : decode cX5_colourLine 16 = .ok (.aload_n 0, 1) := by decide +kernel
theorem dX5_colourLine_17 : decode cX5_colourLine 17 = .ok (.dup, 1) := by decide +kernel
theorem dX5_colourLine_18 : decode cX5_colourLine 18 = .ok (.getfield 53, 3) := by decide +kernel
theorem dX5_colourLine_21 : decode cX5_colourLine 21 = .ok (.iconst 1, 1) := by decide +kernel
theorem dX5_colourLine_22 : decode cX5_colourLine 22 = .ok (.iadd, 1) := by decide +kernel
theorem dX5_colourLine_23 : decode cX5_colourLine 23 = .ok (.putfield 53, 3) := by decide +kernel
theorem dX5_colourLine_26 : decode cX5_colourLine 26 = .ok (.aload_n 0, 1) := by decide +kernel
theorem dX5_colourLine_27 : decode cX5_colourLine 27 = .ok (.iconst 0, 1) := by decide +kernel
theorem dX5_colourLine_28 : decode cX5_colourLine 28 = .ok (.invokevirtual 146, 3) := by decide +kernel
theorem dX5_colourLine_31 : decode cX5_colourLine 31 = .ok (.lstore_n 1, 1) := by decide +kernel
theorem dX5_colourLine_32 : decode cX5_colourLine 32 = .ok (.aload_n 0, 1) := by decide +kernel
theorem dX5_colourLine_33 : decode cX5_colourLine 33 = .ok (.ldc2_w 150, 3) := by decide +kernel
theorem dX5_colourLine_36 : decode cX5_colourLine 36 = .ok (.invokevirtual 114, 3) := by decide +kernel
theorem dX5_colourLine_39 : decode cX5_colourLine 39 = .ok (.aload_n 0, 1) := by decide +kernel
theorem dX5_colourLine_40 : decode cX5_colourLine 40 = .ok (.iconst 0, 1) := by decide +kernel
theorem dX5_colourLine_41 : decode cX5_colourLine 41 = .ok (.bipush 9, 2) := by decide +kernel
theorem dX5_colourLine_43 : decode cX5_colourLine 43 = .ok (.invokevirtual 118, 3) := by decide +kernel
theorem dX5_colourLine_46 : decode cX5_colourLine 46 = .ok (.istore_n 3, 1) := by decide +kernel
theorem dX5_colourLine_47 : decode cX5_colourLine 47 = .ok (.aload_n 0, 1) := by decide +kernel
theorem dX5_colourLine_48 : decode cX5_colourLine 48 = .ok (.ldc2_w 152, 3) := by decide +kernel
theorem dX5_colourLine_51 : decode cX5_colourLine 51 = .ok (.invokevirtual 114, 3) := by decide +kernel
theorem dX5_colourLine_54 : decode cX5_colourLine 54 = .ok (.aload_n 0, 1) := by decide +kernel
theorem dX5_colourLine_55 : decode cX5_colourLine 55 = .ok (.iconst 0, 1) := by decide +kernel
theorem dX5_colourLine_56 : decode cX5_colourLine 56 = .ok (.sipush 999, 3) := by decide +kernel
theorem dX5_colourLine_59 : decode cX5_colourLine 59 = .ok (.invokevirtual 118, 3) := by decide +kernel
theorem dX5_colourLine_62 : decode cX5_colourLine 62 = .ok (.istore 4, 2) := by decide +kernel
theorem dX5_colourLine_64 : decode cX5_colourLine 64 = .ok (.aload_n 0, 1) := by decide +kernel
theorem dX5_colourLine_65 : decode cX5_colourLine 65 = .ok (.ldc2_w 154, 3) := by decide +kernel
theorem dX5_colourLine_68 : decode cX5_colourLine 68 = .ok (.invokevirtual 114, 3) := by decide +kernel
theorem dX5_colourLine_71 : decode cX5_colourLine 71 = .ok (.aload_n 0, 1) := by decide +kernel
theorem dX5_colourLine_72 : decode cX5_colourLine 72 = .ok (.iconst 0, 1) := by decide +kernel
theorem dX5_colourLine_73 : decode cX5_colourLine 73 = .ok (.sipush 999, 3) := by decide +kernel
theorem dX5_colourLine_76 : decode cX5_colourLine 76 = .ok (.invokevirtual 118, 3) := by decide +kernel
theorem dX5_colourLine_79 : decode cX5_colourLine 79 = .ok (.istore 5, 2) := by decide +kernel
theorem dX5_colourLine_81 : decode cX5_colourLine 81 = .ok (.aload_n 0, 1) := by decide +kernel
theorem dX5_colourLine_82 : decode cX5_colourLine 82 = .ok (.getfield 50, 3) := by decide +kernel
theorem dX5_colourLine_85 : decode cX5_colourLine 85 = .ok (.ifCond .ne 16, 3) := by decide +kernel
theorem dX5_colourLine_88 : decode cX5_colourLine 88 = .ok (.aload_n 0, 1) := by decide +kernel
theorem dX5_colourLine_89 : decode cX5_colourLine 89 = .ok (.getfield 18, 3) := by decide +kernel
theorem dX5_colourLine_92 : decode cX5_colourLine 92 = .ok (.lload_n 1, 1) := by decide +kernel
theorem dX5_colourLine_93 : decode cX5_colourLine 93 = .ok (.iload_n 3, 1) := by decide +kernel
theorem dX5_colourLine_94 : decode cX5_colourLine 94 = .ok (.iload 4, 2) := by decide +kernel
theorem dX5_colourLine_96 : decode cX5_colourLine 96 = .ok (.iload 5, 2) := by decide +kernel
theorem dX5_colourLine_98 : decode cX5_colourLine 98 = .ok (.invokevirtual 156, 3) := by decide +kernel
theorem dX5_colourLine_101 : decode cX5_colourLine 101 = .ok (.return_, 1) := by decide +kernel
theorem dX5_handLine_0 : decode cX5_handLine 0 = .ok (.iconst 1, 1) := by decide +kernel
theorem dX5_handLine_1 : decode cX5_handLine 1 = .ok (.istore_n 1, 1) := by decide +kernel
theorem dX5_handLine_2 : decode cX5_handLine 2 = .ok (.iconst 0, 1) := by decide +kernel
theorem dX5_handLine_3 : decode cX5_handLine 3 = .ok (.istore_n 2, 1) := by decide +kernel
theorem dX5_handLine_4 : decode cX5_handLine 4 = .ok (.iload_n 2, 1) := by decide +kernel
theorem dX5_handLine_5 : decode cX5_handLine 5 = .ok (.iconst 5, 1) := by decide +kernel
theorem dX5_handLine_6 : decode cX5_handLine 6 = .ok (.if_icmp .gt 87, 3) := by decide +kernel
theorem dX5_handLine_9 : decode cX5_handLine 9 = .ok (.iload_n 1, 1) := by decide +kernel
theorem dX5_handLine_10 : decode cX5_handLine 10 = .ok (.ifCond .eq 83, 3) := by decide +kernel
theorem dX5_handLine_13 : decode cX5_handLine 13 = .ok (.aload_n 0, 1) := by decide +kernel
theorem dX5_handLine_14 : decode cX5_handLine 14 = .ok (.dup, 1) := by decide +kernel
theorem dX5_handLine_15 : decode cX5_handLine 15 = .ok (.getfield 53, 3) := by decide +kernel
theorem dX5_handLine_18 : decode cX5_handLine 18 = .ok (.iconst 1, 1) := by decide +kernel
theorem dX5_handLine_19 : decode cX5_handLine 19 = .ok (.iadd, 1) := by decide +kernel
theorem dX5_handLine_20 : decode cX5_handLine 20 = .ok (.putfield 53, 3) := by decide +kernel
theorem dX5_handLine_23 : decode cX5_handLine 23 = .ok (.aload_n 0, 1) := by decide +kernel
theorem dX5_handLine_24 : decode cX5_handLine 24 = .ok (.aload_n 0, 1) := by decide +kernel
theorem dX5_handLine_25 : decode cX5_handLine 25 = .ok (.getfield 18, 3) := by decide +kernel
theorem dX5_handLine_28 : decode cX5_handLine 28 = .ok (.getfield 160, 3) := by decide +kernel
theorem dX5_handLine_31 : decode cX5_handLine 31 = .ok (.iconst 5, 1) := by decide +kernel
theorem dX5_handLine_32 : decode cX5_handLine 32 = .ok (.if_icmp .lt 7, 3) := by decide +kernel
theorem dX5_handLine_35 : decode cX5_handLine 35 = .ok (.iconst 1, 1) := by decide +kernel
theorem dX5_handLine_36 : decode cX5_handLine 36 = .ok (.goto 4, 3) := by decide +kernel
theorem dX5_handLine_39 : decode cX5_handLine 39 = .ok (.iconst 0, 1) := by decide +kernel
theorem dX5_handLine_40 : decode cX5_handLine 40 = .ok (.invokevirtual 146, 3) := by decide +kernel
theorem dX5_handLine_43 : decode cX5_handLine 43 = .ok (.lstore_n 3, 1) := by decide +kernel
theorem dX5_handLine_44 : decode cX5_handLine 44 = .ok (.aload_n 0, 1) := by decide +kernel
theorem dX5_handLine_45 : decode cX5_handLine 45 = .ok (.getfield 50, 3) := by decide +kernel
theorem dX5_handLine_48 : decode cX5_handLine 48 = .ok (.ifCond .ne 11, 3) := by decide +kernel
theorem dX5_handLine_51 : decode cX5_handLine 51 = .ok (.aload_n 0, 1) := by decide +kernel
theorem dX5_handLine_52 : decode cX5_handLine 52 = .ok (.getfield 18, 3) := by decide +kernel
theorem dX5_handLine_55 : decode cX5_handLine 55 = .ok (.lload_n 3, 1) := by decide +kernel
theorem dX5_handLine_56 : decode cX5_handLine 56 = .ok (.invokevirtual 163, 3) := by decide +kernel
theorem dX5_handLine_59 : decode cX5_handLine 59 = .ok (.aload_n 0, 1) := by decide +kernel
theorem dX5_handLine_60 : decode cX5_handLine 60 = .ok (.getfield 50, 3) := by decide +kernel
theorem dX5_handLine_63 : decode cX5_handLine 63 = .ok (.ifCond .ne 22, 3) := by decide +kernel
theorem dX5_handLine_66 : decode cX5_handLine 66 = .ok (.aload_n 0, 1) := by decide +kernel
theorem dX5_handLine_67 : decode cX5_handLine 67 = .ok (.getfield 32, 3) := by decide +kernel
theorem dX5_handLine_70 : decode cX5_handLine 70 = .ok (.aload_n 0, 1) := by decide +kernel
theorem dX5_handLine_71 : decode cX5_handLine 71 = .ok (.getfield 53, 3) := by decide +kernel
theorem dX5_handLine_74 : decode cX5_handLine 74 = .ok (.iconst 5, 1) := by decide +kernel
theorem dX5_handLine_75 : decode cX5_handLine 75 = .ok (.invokevirtual 105, 3) := by decide +kernel
theorem dX5_handLine_78 : decode cX5_handLine 78 = .ok (.ifCond .eq 7, 3) := by decide +kernel
theorem dX5_handLine_81 : decode cX5_handLine 81 = .ok (.iconst 1, 1) := by decide +kernel
theorem dX5_handLine_82 : decode cX5_handLine 82 = .ok (.goto 4, 3) := by decide +kernel
theorem dX5_handLine_85 : decode cX5_handLine 85 = .ok (.iconst 0, 1) := by decide +kernel
theorem dX5_handLine_86 : decode cX5_handLine 86 = .ok (.istore_n 1, 1) := by decide +kernel
theorem dX5_handLine_87 : decode cX5_handLine 87 = .ok (.iinc 2 1, 3) := by decide +kernel
theorem dX5_handLine_90 : decode cX5_handLine 90 = .ok (.goto (-86), 3) := by decide +kernel
theorem dX5_handLine_93 : decode cX5_handLine 93 = .ok (.return_, 1) := by decide +kernel
theorem dX5_workLine_0 : decode cX5_workLine 0 = .ok (.aload_n 0, 1) := by decide +kernel
theorem dX5_workLine_1 : decode cX5_workLine 1 = .ok (.getfield 25, 3) := by decide +kernel
theorem dX5_workLine_4 : decode cX5_workLine 4 = .ok (.getfield 166, 3) := by decide +kernel
theorem dX5_workLine_7 : decode cX5_workLine 7 = .ok (.bipush 9, 2) := by decide +kernel
theorem dX5_workLine_9 : decode cX5_workLine 9 = .ok (.if_icmp .lt 8, 3) := by decide +kernel
theorem dX5_workLine_12 : decode cX5_workLine 12 = .ok (.aload_n 0, 1) := by decide +kernel
theorem dX5_workLine_13 : decode cX5_workLine 13 = .ok (.iconst 5, 1) := by decide +kernel
theorem dX5_workLine_14 : decode cX5_workLine 14 = .ok (.invokevirtual 90, 3) := by decide +kernel
theorem dX5_workLine_17 : decode cX5_workLine 17 = .ok (.aload_n 0, 1) := by decide +kernel
theorem dX5_workLine_18 : decode cX5_workLine 18 = .ok (.getfield 18, 3) := by decide +kernel
theorem dX5_workLine_21 : decode cX5_workLine 21 = .ok (.invokevirtual 109, 3) := by decide +kernel
theorem dX5_workLine_24 : decode cX5_workLine 24 = .ok (.ifCond .ne 9, 3) := by decide +kernel
theorem dX5_workLine_27 : decode cX5_workLine 27 = .ok (.aload_n 0, 1) := by decide +kernel
theorem dX5_workLine_28 : decode cX5_workLine 28 = .ok (.bipush 6, 2) := by decide +kernel
theorem dX5_workLine_30 : decode cX5_workLine 30 = .ok (.invokevirtual 90, 3) := by decide +kernel
theorem dX5_workLine_33 : decode cX5_workLine 33 = .ok (.aload_n 0, 1) := by decide +kernel
theorem dX5_workLine_34 : decode cX5_workLine 34 = .ok (.dup, 1) := by decide +kernel
theorem dX5_workLine_35 : decode cX5_workLine 35 = .ok (.getfield 53, 3) := by decide +kernel
theorem dX5_workLine_38 : decode cX5_workLine 38 = .ok (.iconst 1, 1) := by decide +kernel
theorem dX5_workLine_39 : decode cX5_workLine 39 = .ok (.iadd, 1) := by decide +kernel
theorem dX5_workLine_40 : decode cX5_workLine 40 = .ok (.putfield 53, 3) := by decide +kernel
theorem dX5_workLine_43 : decode cX5_workLine 43 = .ok (.aload_n 0, 1) := by decide +kernel
theorem dX5_workLine_44 : decode cX5_workLine 44 = .ok (.invokevirtual 169, 3) := by decide +kernel
theorem dX5_workLine_47 : decode cX5_workLine 47 = .ok (.istore_n 1, 1) := by decide +kernel
theorem dX5_workLine_48 : decode cX5_workLine 48 = .ok (.aload_n 0, 1) := by decide +kernel
theorem dX5_workLine_49 : decode cX5_workLine 49 = .ok (.ldc2_w 172, 3) := by decide +kernel
theorem dX5_workLine_52 : decode cX5_workLine 52 = .ok (.invokevirtual 114, 3) := by decide +kernel
theorem dX5_workLine_55 : decode cX5_workLine 55 = .ok (.aload_n 0, 1) := by decide +kernel
theorem dX5_workLine_56 : decode cX5_workLine 56 = .ok (.getfield 25, 3) := by decide +kernel
theorem dX5_workLine_59 : decode cX5_workLine 59 = .ok (.iload_n 1, 1) := by decide +kernel
theorem dX5_workLine_60 : decode cX5_workLine 60 = .ok (.aload_n 0, 1) := by decide +kernel
theorem dX5_workLine_61 : decode cX5_workLine 61 = .ok (.aload_n 0, 1) := by decide +kernel
theorem dX5_workLine_62 : decode cX5_workLine 62 = .ok (.getfield 25, 3) := by decide +kernel
theorem dX5_workLine_65 : decode cX5_workLine 65 = .ok (.invokevirtual 174, 3) := by decide +kernel
theorem dX5_workLine_68 : decode cX5_workLine 68 = .ok (.sipush 999, 3) := by decide +kernel
theorem dX5_workLine_71 : decode cX5_workLine 71 = .ok (.invokevirtual 118, 3) := by decide +kernel
theorem dX5_workLine_74 : decode cX5_workLine 74 = .ok (.invokevirtual 177, 3) := by decide +kernel
theorem dX5_workLine_77 : decode cX5_workLine 77 = .ok (.aload_n 0, 1) := by decide +kernel
theorem dX5_workLine_78 : decode cX5_workLine 78 = .ok (.aload_n 0, 1) := by decide +kernel
theorem dX5_workLine_79 : decode cX5_workLine 79 = .ok (.getfield 25, 3) := by decide +kernel
theorem dX5_workLine_82 : decode cX5_workLine 82 = .ok (.getfield 166, 3) := by decide +kernel
theorem dX5_workLine_85 : decode cX5_workLine 85 = .ok (.invokevirtual 181, 3) := by decide +kernel
theorem dX5_workLine_88 : decode cX5_workLine 88 = .ok (.aload_n 0, 1) := by decide +kernel
theorem dX5_workLine_89 : decode cX5_workLine 89 = .ok (.getfield 50, 3) := by decide +kernel
theorem dX5_workLine_92 : decode cX5_workLine 92 = .ok (.ifCond .ne 16, 3) := by decide +kernel
theorem dX5_workLine_95 : decode cX5_workLine 95 = .ok (.aload_n 0, 1) := by decide +kernel
theorem dX5_workLine_96 : decode cX5_workLine 96 = .ok (.getfield 25, 3) := by decide +kernel
theorem dX5_workLine_99 : decode cX5_workLine 99 = .ok (.dup, 1) := by decide +kernel
theorem dX5_workLine_100 : decode cX5_workLine 100 = .ok (.getfield 166, 3) := by decide +kernel
theorem dX5_workLine_103 : decode cX5_workLine 103 = .ok (.iconst 1, 1) := by decide +kernel
theorem dX5_workLine_104 : decode cX5_workLine 104 = .ok (.iadd, 1) := by decide +kernel
theorem dX5_workLine_105 : decode cX5_workLine 105 = .ok (.putfield 166, 3) := by decide +kernel
theorem dX5_workLine_108 : decode cX5_workLine 108 = .ok (.return_, 1) := by decide +kernel
theorem dX5_contractLine_0 : decode cX5_contractLine 0 = .ok (.aload_n 0, 1) := by decide +kernel
theorem dX5_contractLine_1 : decode cX5_contractLine 1 = .ok (.getfield 18, 3) := by decide +kernel
theorem dX5_contractLine_4 : decode cX5_contractLine 4 = .ok (.getfield 184, 3) := by decide +kernel
theorem dX5_contractLine_7 : decode cX5_contractLine 7 = .ok (.iconst 4, 1) := by decide +kernel
theorem dX5_contractLine_8 : decode cX5_contractLine 8 = .ok (.if_icmp .lt 8, 3) := by decide +kernel
theorem dX5_contractLine_11 : decode cX5_contractLine 11 = .ok (.aload_n 0, 1) := by decide +kernel
theorem dX5_contractLine_12 : decode cX5_contractLine 12 = .ok (.iconst 5, 1) := by decide +kernel
theorem dX5_contractLine_13 : decode cX5_contractLine 13 = .ok (.invokevirtual 90, 3) := by decide +kernel
theorem dX5_contractLine_16 : decode cX5_contractLine 16 = .ok (.aload_n 0, 1) := by decide +kernel
theorem dX5_contractLine_17 : decode cX5_contractLine 17 = .ok (.getfield 18, 3) := by decide +kernel
theorem dX5_contractLine_20 : decode cX5_contractLine 20 = .ok (.invokevirtual 109, 3) := by decide +kernel
theorem dX5_contractLine_23 : decode cX5_contractLine 23 = .ok (.ifCond .ne 9, 3) := by decide +kernel
theorem dX5_contractLine_26 : decode cX5_contractLine 26 = .ok (.aload_n 0, 1) := by decide +kernel
theorem dX5_contractLine_27 : decode cX5_contractLine 27 = .ok (.bipush 6, 2) := by decide +kernel
theorem dX5_contractLine_29 : decode cX5_contractLine 29 = .ok (.invokevirtual 90, 3) := by decide +kernel
theorem dX5_contractLine_32 : decode cX5_contractLine 32 = .ok (.aload_n 0, 1) := by decide +kernel
theorem dX5_contractLine_33 : decode cX5_contractLine 33 = .ok (.dup, 1) := by decide +kernel
theorem dX5_contractLine_34 : decode cX5_contractLine 34 = .ok (.getfield 53, 3) := by decide +kernel
theorem dX5_contractLine_37 : decode cX5_contractLine 37 = .ok (.iconst 1, 1) := by decide +kernel
theorem dX5_contractLine_38 : decode cX5_contractLine 38 = .ok (.iadd, 1) := by decide +kernel
theorem dX5_contractLine_39 : decode cX5_contractLine 39 = .ok (.putfield 53, 3) := by decide +kernel
theorem dX5_contractLine_42 : decode cX5_contractLine 42 = .ok (.aload_n 0, 1) := by decide +kernel
theorem dX5_contractLine_43 : decode cX5_contractLine 43 = .ok (.invokevirtual 187, 3) := by decide +kernel
theorem dX5_contractLine_46 : decode cX5_contractLine 46 = .ok (.istore_n 1, 1) := by decide +kernel
theorem dX5_contractLine_47 : decode cX5_contractLine 47 = .ok (.aload_n 0, 1) := by decide +kernel
theorem dX5_contractLine_48 : decode cX5_contractLine 48 = .ok (.ldc2_w 190, 3) := by decide +kernel
theorem dX5_contractLine_51 : decode cX5_contractLine 51 = .ok (.invokevirtual 114, 3) := by decide +kernel
theorem dX5_contractLine_54 : decode cX5_contractLine 54 = .ok (.aload_n 0, 1) := by decide +kernel
theorem dX5_contractLine_55 : decode cX5_contractLine 55 = .ok (.iconst 0, 1) := by decide +kernel
theorem dX5_contractLine_56 : decode cX5_contractLine 56 = .ok (.sipush 999, 3) := by decide +kernel
theorem dX5_contractLine_59 : decode cX5_contractLine 59 = .ok (.invokevirtual 118, 3) := by decide +kernel
theorem dX5_contractLine_62 : decode cX5_contractLine 62 = .ok (.istore_n 2, 1) := by decide +kernel
theorem dX5_contractLine_63 : decode cX5_contractLine 63 = .ok (.aload_n 0, 1) := by decide +kernel
theorem dX5_contractLine_64 : decode cX5_contractLine 64 = .ok (.ldc2_w 192, 3) := by decide +kernel
theorem dX5_contractLine_67 : decode cX5_contractLine 67 = .ok (.invokevirtual 114, 3) := by decide +kernel
theorem dX5_contractLine_70 : decode cX5_contractLine 70 = .ok (.aload_n 0, 1) := by decide +kernel
theorem dX5_contractLine_71 : decode cX5_contractLine 71 = .ok (.iload_n 2, 1) := by decide +kernel
theorem dX5_contractLine_72 : decode cX5_contractLine 72 = .ok (.sipush 999, 3) := by decide +kernel
theorem dX5_contractLine_75 : decode cX5_contractLine 75 = .ok (.invokevirtual 118, 3) := by decide +kernel
theorem dX5_contractLine_78 : decode cX5_contractLine 78 = .ok (.istore_n 3, 1) := by decide +kernel
theorem dX5_contractLine_79 : decode cX5_contractLine 79 = .ok (.aload_n 0, 1) := by decide +kernel
theorem dX5_contractLine_80 : decode cX5_contractLine 80 = .ok (.getfield 50, 3) := by decide +kernel
theorem dX5_contractLine_83 : decode cX5_contractLine 83 = .ok (.ifCond .ne 13, 3) := by decide +kernel
theorem dX5_contractLine_86 : decode cX5_contractLine 86 = .ok (.aload_n 0, 1) := by decide +kernel
theorem dX5_contractLine_87 : decode cX5_contractLine 87 = .ok (.getfield 18, 3) := by decide +kernel
theorem dX5_contractLine_90 : decode cX5_contractLine 90 = .ok (.iload_n 1, 1) := by decide +kernel
theorem dX5_contractLine_91 : decode cX5_contractLine 91 = .ok (.iload_n 2, 1) := by decide +kernel
theorem dX5_contractLine_92 : decode cX5_contractLine 92 = .ok (.iload_n 3, 1) := by decide +kernel
theorem dX5_contractLine_93 : decode cX5_contractLine 93 = .ok (.invokevirtual 194, 3) := by decide +kernel
theorem dX5_contractLine_96 : decode cX5_contractLine 96 = .ok (.return_, 1) := by decide +kernel
theorem dX5_wantLine_0 : decode cX5_wantLine 0 = .ok (.aload_n 0, 1) := by decide +kernel
theorem dX5_wantLine_1 : decode cX5_wantLine 1 = .ok (.getfield 18, 3) := by decide +kernel
theorem dX5_wantLine_4 : decode cX5_wantLine 4 = .ok (.getfield 198, 3) := by decide +kernel
theorem dX5_wantLine_7 : decode cX5_wantLine 7 = .ok (.ifCond .eq 8, 3) := by decide +kernel
theorem dX5_wantLine_10 : decode cX5_wantLine 10 = .ok (.aload_n 0, 1) := by decide +kernel
theorem dX5_wantLine_11 : decode cX5_wantLine 11 = .ok (.iconst 3, 1) := by decide +kernel
theorem dX5_wantLine_12 : decode cX5_wantLine 12 = .ok (.invokevirtual 90, 3) := by decide +kernel
theorem dX5_wantLine_15 : decode cX5_wantLine 15 = .ok (.aload_n 0, 1) := by decide +kernel
theorem dX5_wantLine_16 : decode cX5_wantLine 16 = .ok (.getfield 18, 3) := by decide +kernel
theorem dX5_wantLine_19 : decode cX5_wantLine 19 = .ok (.invokevirtual 109, 3) := by decide +kernel
theorem dX5_wantLine_22 : decode cX5_wantLine 22 = .ok (.ifCond .ne 9, 3) := by decide +kernel
theorem dX5_wantLine_25 : decode cX5_wantLine 25 = .ok (.aload_n 0, 1) := by decide +kernel
theorem dX5_wantLine_26 : decode cX5_wantLine 26 = .ok (.bipush 6, 2) := by decide +kernel
theorem dX5_wantLine_28 : decode cX5_wantLine 28 = .ok (.invokevirtual 90, 3) := by decide +kernel
theorem dX5_wantLine_31 : decode cX5_wantLine 31 = .ok (.aload_n 0, 1) := by decide +kernel
theorem dX5_wantLine_32 : decode cX5_wantLine 32 = .ok (.getfield 18, 3) := by decide +kernel
theorem dX5_wantLine_35 : decode cX5_wantLine 35 = .ok (.iconst 1, 1) := by decide +kernel
theorem dX5_wantLine_36 : decode cX5_wantLine 36 = .ok (.putfield 198, 3) := by decide +kernel
theorem dX5_wantLine_39 : decode cX5_wantLine 39 = .ok (.aload_n 0, 1) := by decide +kernel
theorem dX5_wantLine_40 : decode cX5_wantLine 40 = .ok (.dup, 1) := by decide +kernel
theorem dX5_wantLine_41 : decode cX5_wantLine 41 = .ok (.getfield 53, 3) := by decide +kernel
theorem dX5_wantLine_44 : decode cX5_wantLine 44 = .ok (.iconst 1, 1) := by decide +kernel
theorem dX5_wantLine_45 : decode cX5_wantLine 45 = .ok (.iadd, 1) := by decide +kernel
theorem dX5_wantLine_46 : decode cX5_wantLine 46 = .ok (.putfield 53, 3) := by decide +kernel
theorem dX5_wantLine_49 : decode cX5_wantLine 49 = .ok (.aload_n 0, 1) := by decide +kernel
theorem dX5_wantLine_50 : decode cX5_wantLine 50 = .ok (.iconst (-1), 1) := by decide +kernel
theorem dX5_wantLine_51 : decode cX5_wantLine 51 = .ok (.invokevirtual 181, 3) := by decide +kernel
theorem dX5_wantLine_54 : decode cX5_wantLine 54 = .ok (.return_, 1) := by decide +kernel
theorem dX5_readPatches_0 : decode cX5_readPatches 0 = .ok (.iconst 1, 1) := by decide +kernel
theorem dX5_readPatches_1 : decode cX5_readPatches 1 = .ok (.istore_n 2, 1) := by decide +kernel
theorem dX5_readPatches_2 : decode cX5_readPatches 2 = .ok (.iconst 0, 1) := by decide +kernel
theorem dX5_readPatches_3 : decode cX5_readPatches 3 = .ok (.istore_n 3, 1) := by decide +kernel
theorem dX5_readPatches_4 : decode cX5_readPatches 4 = .ok (.iload_n 3, 1) := by decide +kernel
theorem dX5_readPatches_5 : decode cX5_readPatches 5 = .ok (.iconst 4, 1) := by decide +kernel
theorem dX5_readPatches_6 : decode cX5_readPatches 6 = .ok (.if_icmp .gt 122, 3) := by decide +kernel
theorem dX5_readPatches_9 : decode cX5_readPatches 9 = .ok (.iload_n 2, 1) := by decide +kernel
theorem dX5_readPatches_10 : decode cX5_readPatches 10 = .ok (.ifCond .eq 118, 3) := by decide +kernel
theorem dX5_readPatches_13 : decode cX5_readPatches 13 = .ok (.aload_n 0, 1) := by decide +kernel
theorem dX5_readPatches_14 : decode cX5_readPatches 14 = .ok (.iload_n 3, 1) := by decide +kernel
theorem dX5_readPatches_15 : decode cX5_readPatches 15 = .ok (.iconst 4, 1) := by decide +kernel
theorem dX5_readPatches_16 : decode cX5_readPatches 16 = .ok (.if_icmp .lt 7, 3) := by decide +kernel
theorem dX5_readPatches_19 : decode cX5_readPatches 19 = .ok (.iconst 1, 1) := by decide +kernel
theorem dX5_readPatches_20 : decode cX5_readPatches 20 = .ok (.goto 4, 3) := by decide +kernel
theorem dX5_readPatches_23 : decode cX5_readPatches 23 = .ok (.iconst 0, 1) := by decide +kernel
theorem dX5_readPatches_24 : decode cX5_readPatches 24 = .ok (.invokevirtual 202, 3) := by decide +kernel
theorem dX5_readPatches_27 : decode cX5_readPatches 27 = .ok (.istore 4, 2) := by decide +kernel
theorem dX5_readPatches_29 : decode cX5_readPatches 29 = .ok (.aload_n 0, 1) := by decide +kernel
theorem dX5_readPatches_30 : decode cX5_readPatches 30 = .ok (.invokevirtual 187, 3) := by decide +kernel
theorem dX5_readPatches_33 : decode cX5_readPatches 33 = .ok (.istore 5, 2) := by decide +kernel
theorem dX5_readPatches_35 : decode cX5_readPatches 35 = .ok (.aload_n 0, 1) := by decide +kernel
theorem dX5_readPatches_36 : decode cX5_readPatches 36 = .ok (.getfield 50, 3) := by decide +kernel
theorem dX5_readPatches_39 : decode cX5_readPatches 39 = .ok (.ifCond .ne 22, 3) := by decide +kernel
theorem dX5_readPatches_42 : decode cX5_readPatches 42 = .ok (.iload_n 1, 1) := by decide +kernel
theorem dX5_readPatches_43 : decode cX5_readPatches 43 = .ok (.iconst (-1), 1) := by decide +kernel
theorem dX5_readPatches_44 : decode cX5_readPatches 44 = .ok (.if_icmp .ne 17, 3) := by decide +kernel
theorem dX5_readPatches_47 : decode cX5_readPatches 47 = .ok (.aload_n 0, 1) := by decide +kernel
theorem dX5_readPatches_48 : decode cX5_readPatches 48 = .ok (.getfield 18, 3) := by decide +kernel
theorem dX5_readPatches_51 : decode cX5_readPatches 51 = .ok (.iload 4, 2) := by decide +kernel
theorem dX5_readPatches_53 : decode cX5_readPatches 53 = .ok (.iload 5, 2) := by decide +kernel
theorem dX5_readPatches_55 : decode cX5_readPatches 55 = .ok (.invokevirtual 206, 3) := by decide +kernel
theorem dX5_readPatches_58 : decode cX5_readPatches 58 = .ok (.goto 22, 3) := by decide +kernel
theorem dX5_readPatches_61 : decode cX5_readPatches 61 = .ok (.aload_n 0, 1) := by decide +kernel
theorem dX5_readPatches_62 : decode cX5_readPatches 62 = .ok (.getfield 50, 3) := by decide +kernel
theorem dX5_readPatches_65 : decode cX5_readPatches 65 = .ok (.ifCond .ne 15, 3) := by decide +kernel
theorem dX5_readPatches_68 : decode cX5_readPatches 68 = .ok (.aload_n 0, 1) := by decide +kernel
theorem dX5_readPatches_69 : decode cX5_readPatches 69 = .ok (.getfield 25, 3) := by decide +kernel
theorem dX5_readPatches_72 : decode cX5_readPatches 72 = .ok (.iload_n 1, 1) := by decide +kernel
theorem dX5_readPatches_73 : decode cX5_readPatches 73 = .ok (.iload 4, 2) := by decide +kernel
theorem dX5_readPatches_75 : decode cX5_readPatches 75 = .ok (.iload 5, 2) := by decide +kernel
theorem dX5_readPatches_77 : decode cX5_readPatches 77 = .ok (.invokevirtual 209, 3) := by decide +kernel
theorem dX5_readPatches_80 : decode cX5_readPatches 80 = .ok (.aload_n 0, 1) := by decide +kernel
theorem dX5_readPatches_81 : decode cX5_readPatches 81 = .ok (.getfield 50, 3) := by decide +kernel
theorem dX5_readPatches_84 : decode cX5_readPatches 84 = .ok (.ifCond .ne 22, 3) := by decide +kernel
theorem dX5_readPatches_87 : decode cX5_readPatches 87 = .ok (.aload_n 0, 1) := by decide +kernel
theorem dX5_readPatches_88 : decode cX5_readPatches 88 = .ok (.getfield 32, 3) := by decide +kernel
theorem dX5_readPatches_91 : decode cX5_readPatches 91 = .ok (.aload_n 0, 1) := by decide +kernel
theorem dX5_readPatches_92 : decode cX5_readPatches 92 = .ok (.getfield 53, 3) := by decide +kernel
theorem dX5_readPatches_95 : decode cX5_readPatches 95 = .ok (.iconst 5, 1) := by decide +kernel
theorem dX5_readPatches_96 : decode cX5_readPatches 96 = .ok (.invokevirtual 105, 3) := by decide +kernel
theorem dX5_readPatches_99 : decode cX5_readPatches 99 = .ok (.ifCond .eq 7, 3) := by decide +kernel
theorem dX5_readPatches_102 : decode cX5_readPatches 102 = .ok (.iconst 1, 1) := by decide +kernel
theorem dX5_readPatches_103 : decode cX5_readPatches 103 = .ok (.goto 4, 3) := by decide +kernel
theorem dX5_readPatches_106 : decode cX5_readPatches 106 = .ok (.iconst 0, 1) := by decide +kernel
theorem dX5_readPatches_107 : decode cX5_readPatches 107 = .ok (.istore_n 2, 1) := by decide +kernel
theorem dX5_readPatches_108 : decode cX5_readPatches 108 = .ok (.iload_n 2, 1) := by decide +kernel
theorem dX5_readPatches_109 : decode cX5_readPatches 109 = .ok (.ifCond .eq 13, 3) := by decide +kernel
theorem dX5_readPatches_112 : decode cX5_readPatches 112 = .ok (.aload_n 0, 1) := by decide +kernel
theorem dX5_readPatches_113 : decode cX5_readPatches 113 = .ok (.dup, 1) := by decide +kernel
theorem dX5_readPatches_114 : decode cX5_readPatches 114 = .ok (.getfield 53, 3) := by decide +kernel
theorem dX5_readPatches_117 : decode cX5_readPatches 117 = .ok (.iconst 1, 1) := by decide +kernel
theorem dX5_readPatches_118 : decode cX5_readPatches 118 = .ok (.iadd, 1) := by decide +kernel
theorem dX5_readPatches_119 : decode cX5_readPatches 119 = .ok (.putfield 53, 3) := by decide +kernel
theorem dX5_readPatches_122 : decode cX5_readPatches 122 = .ok (.iinc 3 1, 3) := by decide +kernel
theorem dX5_readPatches_125 : decode cX5_readPatches 125 = .ok (.goto (-121), 3) := by decide +kernel
theorem dX5_readPatches_128 : decode cX5_readPatches 128 = .ok (.return_, 1) := by decide +kernel
theorem dX5_readCorners_0 : decode cX5_readCorners 0 = .ok (.aload_n 0, 1) := by decide +kernel
theorem dX5_readCorners_1 : decode cX5_readCorners 1 = .ok (.iconst 0, 1) := by decide +kernel
theorem dX5_readCorners_2 : decode cX5_readCorners 2 = .ok (.aload_n 0, 1) := by decide +kernel
theorem dX5_readCorners_3 : decode cX5_readCorners 3 = .ok (.getfield 18, 3) := by decide +kernel
theorem dX5_readCorners_6 : decode cX5_readCorners 6 = .ok (.getfield 121, 3) := by decide +kernel
theorem dX5_readCorners_9 : decode cX5_readCorners 9 = .ok (.iconst 1, 1) := by decide +kernel
theorem dX5_readCorners_10 : decode cX5_readCorners 10 = .ok (.isub, 1) := by decide +kernel
theorem dX5_readCorners_11 : decode cX5_readCorners 11 = .ok (.invokevirtual 118, 3) := by decide +kernel
theorem dX5_readCorners_14 : decode cX5_readCorners 14 = .ok (.istore_n 1, 1) := by decide +kernel
theorem dX5_readCorners_15 : decode cX5_readCorners 15 = .ok (.aload_n 0, 1) := by decide +kernel
theorem dX5_readCorners_16 : decode cX5_readCorners 16 = .ok (.invokevirtual 212, 3) := by decide +kernel
theorem dX5_readCorners_19 : decode cX5_readCorners 19 = .ok (.aload_n 0, 1) := by decide +kernel
theorem dX5_readCorners_20 : decode cX5_readCorners 20 = .ok (.iconst 0, 1) := by decide +kernel
theorem dX5_readCorners_21 : decode cX5_readCorners 21 = .ok (.aload_n 0, 1) := by decide +kernel
theorem dX5_readCorners_22 : decode cX5_readCorners 22 = .ok (.getfield 18, 3) := by decide +kernel
theorem dX5_readCorners_25 : decode cX5_readCorners 25 = .ok (.getfield 126, 3) := by decide +kernel
theorem dX5_readCorners_28 : decode cX5_readCorners 28 = .ok (.iconst 1, 1) := by decide +kernel
theorem dX5_readCorners_29 : decode cX5_readCorners 29 = .ok (.isub, 1) := by decide +kernel
theorem dX5_readCorners_30 : decode cX5_readCorners 30 = .ok (.invokevirtual 118, 3) := by decide +kernel
theorem dX5_readCorners_33 : decode cX5_readCorners 33 = .ok (.istore_n 2, 1) := by decide +kernel
theorem dX5_readCorners_34 : decode cX5_readCorners 34 = .ok (.aload_n 0, 1) := by decide +kernel
theorem dX5_readCorners_35 : decode cX5_readCorners 35 = .ok (.ldc2_w 215, 3) := by decide +kernel
theorem dX5_readCorners_38 : decode cX5_readCorners 38 = .ok (.invokevirtual 114, 3) := by decide +kernel
theorem dX5_readCorners_41 : decode cX5_readCorners 41 = .ok (.aload_n 0, 1) := by decide +kernel
theorem dX5_readCorners_42 : decode cX5_readCorners 42 = .ok (.iload_n 1, 1) := by decide +kernel
theorem dX5_readCorners_43 : decode cX5_readCorners 43 = .ok (.aload_n 0, 1) := by decide +kernel
theorem dX5_readCorners_44 : decode cX5_readCorners 44 = .ok (.getfield 18, 3) := by decide +kernel
theorem dX5_readCorners_47 : decode cX5_readCorners 47 = .ok (.getfield 121, 3) := by decide +kernel
theorem dX5_readCorners_50 : decode cX5_readCorners 50 = .ok (.iconst 1, 1) := by decide +kernel
theorem dX5_readCorners_51 : decode cX5_readCorners 51 = .ok (.isub, 1) := by decide +kernel
theorem dX5_readCorners_52 : decode cX5_readCorners 52 = .ok (.invokevirtual 118, 3) := by decide +kernel
theorem dX5_readCorners_55 : decode cX5_readCorners 55 = .ok (.istore_n 3, 1) := by decide +kernel
theorem dX5_readCorners_56 : decode cX5_readCorners 56 = .ok (.aload_n 0, 1) := by decide +kernel
theorem dX5_readCorners_57 : decode cX5_readCorners 57 = .ok (.invokevirtual 212, 3) := by decide +kernel
theorem dX5_readCorners_60 : decode cX5_readCorners 60 = .ok (.aload_n 0, 1) := by decide +kernel
theorem dX5_readCorners_61 : decode cX5_readCorners 61 = .ok (.iload_n 2, 1) := by decide +kernel
theorem dX5_readCorners_62 : decode cX5_readCorners 62 = .ok (.aload_n 0, 1) := by decide +kernel
theorem dX5_readCorners_63 : decode cX5_readCorners 63 = .ok (.getfield 18, 3) := by decide +kernel
theorem dX5_readCorners_66 : decode cX5_readCorners 66 = .ok (.getfield 126, 3) := by decide +kernel
theorem dX5_readCorners_69 : decode cX5_readCorners 69 = .ok (.iconst 1, 1) := by decide +kernel
theorem dX5_readCorners_70 : decode cX5_readCorners 70 = .ok (.isub, 1) := by decide +kernel
theorem dX5_readCorners_71 : decode cX5_readCorners 71 = .ok (.invokevirtual 118, 3) := by decide +kernel
theorem dX5_readCorners_74 : decode cX5_readCorners 74 = .ok (.istore 4, 2) := by decide +kernel
theorem dX5_readCorners_76 : decode cX5_readCorners 76 = .ok (.aload_n 0, 1) := by decide +kernel
theorem dX5_readCorners_77 : decode cX5_readCorners 77 = .ok (.getfield 18, 3) := by decide +kernel
theorem dX5_readCorners_80 : decode cX5_readCorners 80 = .ok (.iload_n 1, 1) := by decide +kernel
theorem dX5_readCorners_81 : decode cX5_readCorners 81 = .ok (.iload_n 2, 1) := by decide +kernel
theorem dX5_readCorners_82 : decode cX5_readCorners 82 = .ok (.iload_n 3, 1) := by decide +kernel
theorem dX5_readCorners_83 : decode cX5_readCorners 83 = .ok (.iload 4, 2) := by decide +kernel
theorem dX5_readCorners_85 : decode cX5_readCorners 85 = .ok (.invokevirtual 217, 3) := by decide +kernel
theorem dX5_readCorners_88 : decode cX5_readCorners 88 = .ok (.ireturn, 1) := by decide +kernel
theorem dX5_readWord_0 : decode cX5_readWord 0 = .ok (.aload_n 0, 1) := by decide +kernel
theorem dX5_readWord_1 : decode cX5_readWord 1 = .ok (.getfield 32, 3) := by decide +kernel
theorem dX5_readWord_4 : decode cX5_readWord 4 = .ok (.aload_n 0, 1) := by decide +kernel
theorem dX5_readWord_5 : decode cX5_readWord 5 = .ok (.getfield 53, 3) := by decide +kernel
theorem dX5_readWord_8 : decode cX5_readWord 8 = .ok (.lload_n 1, 1) := by decide +kernel
theorem dX5_readWord_9 : decode cX5_readWord 9 = .ok (.invokevirtual 58, 3) := by decide +kernel
theorem dX5_readWord_12 : decode cX5_readWord 12 = .ok (.ifCond .ne 8, 3) := by decide +kernel
theorem dX5_readWord_15 : decode cX5_readWord 15 = .ok (.aload_n 0, 1) := by decide +kernel
theorem dX5_readWord_16 : decode cX5_readWord 16 = .ok (.iconst 1, 1) := by decide +kernel
theorem dX5_readWord_17 : decode cX5_readWord 17 = .ok (.invokevirtual 90, 3) := by decide +kernel
theorem dX5_readWord_20 : decode cX5_readWord 20 = .ok (.aload_n 0, 1) := by decide +kernel
theorem dX5_readWord_21 : decode cX5_readWord 21 = .ok (.dup, 1) := by decide +kernel
theorem dX5_readWord_22 : decode cX5_readWord 22 = .ok (.getfield 53, 3) := by decide +kernel
theorem dX5_readWord_25 : decode cX5_readWord 25 = .ok (.iconst 1, 1) := by decide +kernel
theorem dX5_readWord_26 : decode cX5_readWord 26 = .ok (.iadd, 1) := by decide +kernel
theorem dX5_readWord_27 : decode cX5_readWord 27 = .ok (.putfield 53, 3) := by decide +kernel
theorem dX5_readWord_30 : decode cX5_readWord 30 = .ok (.return_, 1) := by decide +kernel
theorem dX5_readComma_0 : decode cX5_readComma 0 = .ok (.aload_n 0, 1) := by decide +kernel
theorem dX5_readComma_1 : decode cX5_readComma 1 = .ok (.getfield 32, 3) := by decide +kernel
theorem dX5_readComma_4 : decode cX5_readComma 4 = .ok (.aload_n 0, 1) := by decide +kernel
theorem dX5_readComma_5 : decode cX5_readComma 5 = .ok (.getfield 53, 3) := by decide +kernel
theorem dX5_readComma_8 : decode cX5_readComma 8 = .ok (.iconst 5, 1) := by decide +kernel
theorem dX5_readComma_9 : decode cX5_readComma 9 = .ok (.invokevirtual 105, 3) := by decide +kernel
theorem dX5_readComma_12 : decode cX5_readComma 12 = .ok (.ifCond .ne 8, 3) := by decide +kernel
theorem dX5_readComma_15 : decode cX5_readComma 15 = .ok (.aload_n 0, 1) := by decide +kernel
theorem dX5_readComma_16 : decode cX5_readComma 16 = .ok (.iconst 1, 1) := by decide +kernel
theorem dX5_readComma_17 : decode cX5_readComma 17 = .ok (.invokevirtual 90, 3) := by decide +kernel
theorem dX5_readComma_20 : decode cX5_readComma 20 = .ok (.aload_n 0, 1) := by decide +kernel
theorem dX5_readComma_21 : decode cX5_readComma 21 = .ok (.dup, 1) := by decide +kernel
theorem dX5_readComma_22 : decode cX5_readComma 22 = .ok (.getfield 53, 3) := by decide +kernel
theorem dX5_readComma_25 : decode cX5_readComma 25 = .ok (.iconst 1, 1) := by decide +kernel
theorem dX5_readComma_26 : decode cX5_readComma 26 = .ok (.iadd, 1) := by decide +kernel
theorem dX5_readComma_27 : decode cX5_readComma 27 = .ok (.putfield 53, 3) := by decide +kernel
theorem dX5_readComma_30 : decode cX5_readComma 30 = .ok (.return_, 1) := by decide +kernel
theorem dX5_readWhole_0 : decode cX5_readWhole 0 = .ok (.aload_n 0, 1) := by decide +kernel
theorem dX5_readWhole_1 : decode cX5_readWhole 1 = .ok (.getfield 32, 3) := by decide +kernel
theorem dX5_readWhole_4 : decode cX5_readWhole 4 = .ok (.aload_n 0, 1) := by decide +kernel
theorem dX5_readWhole_5 : decode cX5_readWhole 5 = .ok (.getfield 53, 3) := by decide +kernel
theorem dX5_readWhole_8 : decode cX5_readWhole 8 = .ok (.invokevirtual 221, 3) := by decide +kernel
theorem dX5_readWhole_11 : decode cX5_readWhole 11 = .ok (.lstore_n 3, 1) := by decide +kernel
theorem dX5_readWhole_12 : decode cX5_readWhole 12 = .ok (.aload_n 0, 1) := by decide +kernel
theorem dX5_readWhole_13 : decode cX5_readWhole 13 = .ok (.getfield 32, 3) := by decide +kernel
theorem dX5_readWhole_16 : decode cX5_readWhole 16 = .ok (.aload_n 0, 1) := by decide +kernel
theorem dX5_readWhole_17 : decode cX5_readWhole 17 = .ok (.getfield 53, 3) := by decide +kernel
theorem dX5_readWhole_20 : decode cX5_readWhole 20 = .ok (.iconst 3, 1) := by decide +kernel
theorem dX5_readWhole_21 : decode cX5_readWhole 21 = .ok (.invokevirtual 105, 3) := by decide +kernel
theorem dX5_readWhole_24 : decode cX5_readWhole 24 = .ok (.ifCond .ne 8, 3) := by decide +kernel
theorem dX5_readWhole_27 : decode cX5_readWhole 27 = .ok (.aload_n 0, 1) := by decide +kernel
theorem dX5_readWhole_28 : decode cX5_readWhole 28 = .ok (.iconst 1, 1) := by decide +kernel
theorem dX5_readWhole_29 : decode cX5_readWhole 29 = .ok (.invokevirtual 90, 3) := by decide +kernel
theorem dX5_readWhole_32 : decode cX5_readWhole 32 = .ok (.lload_n 3, 1) := by decide +kernel
theorem dX5_readWhole_33 : decode cX5_readWhole 33 = .ok (.iload_n 1, 1) := by decide +kernel
theorem dX5_readWhole_34 : decode cX5_readWhole 34 = .ok (.i2l, 1) := by decide +kernel
theorem dX5_readWhole_35 : decode cX5_readWhole 35 = .ok (.lcmp, 1) := by decide +kernel
theorem dX5_readWhole_36 : decode cX5_readWhole 36 = .ok (.ifCond .lt 10, 3) := by decide +kernel
theorem dX5_readWhole_39 : decode cX5_readWhole 39 = .ok (.lload_n 3, 1) := by decide +kernel
theorem dX5_readWhole_40 : decode cX5_readWhole 40 = .ok (.iload_n 2, 1) := by decide +kernel
theorem dX5_readWhole_41 : decode cX5_readWhole 41 = .ok (.i2l, 1) := by decide +kernel
theorem dX5_readWhole_42 : decode cX5_readWhole 42 = .ok (.lcmp, 1) := by decide +kernel
theorem dX5_readWhole_43 : decode cX5_readWhole 43 = .ok (.ifCond .le 8, 3) := by decide +kernel
theorem dX5_readWhole_46 : decode cX5_readWhole 46 = .ok (.aload_n 0, 1) := by decide +kernel
theorem dX5_readWhole_47 : decode cX5_readWhole 47 = .ok (.iconst 4, 1) := by decide +kernel
theorem dX5_readWhole_48 : decode cX5_readWhole 48 = .ok (.invokevirtual 90, 3) := by decide +kernel
theorem dX5_readWhole_51 : decode cX5_readWhole 51 = .ok (.aload_n 0, 1) := by decide +kernel
theorem dX5_readWhole_52 : decode cX5_readWhole 52 = .ok (.dup, 1) := by decide +kernel
theorem dX5_readWhole_53 : decode cX5_readWhole 53 = .ok (.getfield 53, 3) := by decide +kernel
theorem dX5_readWhole_56 : decode cX5_readWhole 56 = .ok (.iconst 1, 1) := by decide +kernel
theorem dX5_readWhole_57 : decode cX5_readWhole 57 = .ok (.iadd, 1) := by decide +kernel
theorem dX5_readWhole_58 : decode cX5_readWhole 58 = .ok (.putfield 53, 3) := by decide +kernel
theorem dX5_readWhole_61 : decode cX5_readWhole 61 = .ok (.aload_n 0, 1) := by decide +kernel
theorem dX5_readWhole_62 : decode cX5_readWhole 62 = .ok (.getfield 50, 3) := by decide +kernel
theorem dX5_readWhole_65 : decode cX5_readWhole 65 = .ok (.ifCond .ne 8, 3) := by decide +kernel
theorem dX5_readWhole_68 : decode cX5_readWhole 68 = .ok (.lload_n 3, 1) := by decide +kernel
theorem dX5_readWhole_69 : decode cX5_readWhole 69 = .ok (.l2i, 1) := by decide +kernel
theorem dX5_readWhole_70 : decode cX5_readWhole 70 = .ok (.goto 4, 3) := by decide +kernel
theorem dX5_readWhole_73 : decode cX5_readWhole 73 = .ok (.iconst 0, 1) := by decide +kernel
theorem dX5_readWhole_74 : decode cX5_readWhole 74 = .ok (.ireturn, 1) := by decide +kernel
theorem dX5_readNewName_0 : decode cX5_readNewName 0 = .ok (.aload_n 0, 1) := by decide +kernel
theorem dX5_readNewName_1 : decode cX5_readNewName 1 = .ok (.getfield 32, 3) := by decide +kernel
theorem dX5_readNewName_4 : decode cX5_readNewName 4 = .ok (.aload_n 0, 1) := by decide +kernel
theorem dX5_readNewName_5 : decode cX5_readNewName 5 = .ok (.getfield 53, 3) := by decide +kernel
theorem dX5_readNewName_8 : decode cX5_readNewName 8 = .ok (.invokevirtual 221, 3) := by decide +kernel
theorem dX5_readNewName_11 : decode cX5_readNewName 11 = .ok (.lstore_n 2, 1) := by decide +kernel
theorem dX5_readNewName_12 : decode cX5_readNewName 12 = .ok (.aload_n 0, 1) := by decide +kernel
theorem dX5_readNewName_13 : decode cX5_readNewName 13 = .ok (.getfield 32, 3) := by decide +kernel
theorem dX5_readNewName_16 : decode cX5_readNewName 16 = .ok (.aload_n 0, 1) := by decide +kernel
theorem dX5_readNewName_17 : decode cX5_readNewName 17 = .ok (.getfield 53, 3) := by decide +kernel
theorem dX5_readNewName_20 : decode cX5_readNewName 20 = .ok (.invokevirtual 225, 3) := by decide +kernel
theorem dX5_readNewName_23 : decode cX5_readNewName 23 = .ok (.ifCond .ne 8, 3) := by decide +kernel
theorem dX5_readNewName_26 : decode cX5_readNewName 26 = .ok (.aload_n 0, 1) := by decide +kernel
theorem dX5_readNewName_27 : decode cX5_readNewName 27 = .ok (.iconst 1, 1) := by decide +kernel
theorem dX5_readNewName_28 : decode cX5_readNewName 28 = .ok (.invokevirtual 90, 3) := by decide +kernel
theorem dX5_readNewName_31 : decode cX5_readNewName 31 = .ok (.aload_n 0, 1) := by decide +kernel
theorem dX5_readNewName_32 : decode cX5_readNewName 32 = .ok (.getfield 18, 3) := by decide +kernel
theorem dX5_readNewName_35 : decode cX5_readNewName 35 = .ok (.lload_n 2, 1) := by decide +kernel
theorem dX5_readNewName_36 : decode cX5_readNewName 36 = .ok (.invokevirtual 229, 3) := by decide +kernel
theorem dX5_readNewName_39 : decode cX5_readNewName 39 = .ok (.iconst (-1), 1) := by decide +kernel
theorem dX5_readNewName_40 : decode cX5_readNewName 40 = .ok (.if_icmp .ne 15, 3) := by decide +kernel
theorem dX5_readNewName_43 : decode cX5_readNewName 43 = .ok (.aload_n 0, 1) := by decide +kernel
theorem dX5_readNewName_44 : decode cX5_readNewName 44 = .ok (.getfield 18, 3) := by decide +kernel
theorem dX5_readNewName_47 : decode cX5_readNewName 47 = .ok (.lload_n 2, 1) := by decide +kernel
theorem dX5_readNewName_48 : decode cX5_readNewName 48 = .ok (.invokevirtual 233, 3) := by decide +kernel
theorem dX5_readNewName_51 : decode cX5_readNewName 51 = .ok (.iconst (-1), 1) := by decide +kernel
theorem dX5_readNewName_52 : decode cX5_readNewName 52 = .ok (.if_icmp .eq 8, 3) := by decide +kernel
theorem dX5_readNewName_55 : decode cX5_readNewName 55 = .ok (.aload_n 0, 1) := by decide +kernel
theorem dX5_readNewName_56 : decode cX5_readNewName 56 = .ok (.iconst 3, 1) := by decide +kernel
theorem dX5_readNewName_57 : decode cX5_readNewName 57 = .ok (.invokevirtual 90, 3) := by decide +kernel
theorem dX5_readNewName_60 : decode cX5_readNewName 60 = .ok (.iload_n 1, 1) := by decide +kernel
theorem dX5_readNewName_61 : decode cX5_readNewName 61 = .ok (.ifCond .eq 8, 3) := by decide +kernel
theorem dX5_readNewName_64 : decode cX5_readNewName 64 = .ok (.aload_n 0, 1) := by decide +kernel
theorem dX5_readNewName_65 : decode cX5_readNewName 65 = .ok (.iconst 5, 1) := by decide +kernel
theorem dX5_readNewName_66 : decode cX5_readNewName 66 = .ok (.invokevirtual 90, 3) := by decide +kernel
theorem dX5_readNewName_69 : decode cX5_readNewName 69 = .ok (.aload_n 0, 1) := by decide +kernel
theorem dX5_readNewName_70 : decode cX5_readNewName 70 = .ok (.dup, 1) := by decide +kernel
theorem dX5_readNewName_71 : decode cX5_readNewName 71 = .ok (.getfield 53, 3) := by decide +kernel
theorem dX5_readNewName_74 : decode cX5_readNewName 74 = .ok (.iconst 1, 1) := by decide +kernel
theorem dX5_readNewName_75 : decode cX5_readNewName 75 = .ok (.iadd, 1) := by decide +kernel
theorem dX5_readNewName_76 : decode cX5_readNewName 76 = .ok (.putfield 53, 3) := by decide +kernel
theorem dX5_readNewName_79 : decode cX5_readNewName 79 = .ok (.lload_n 2, 1) := by decide +kernel
theorem dX5_readNewName_80 : decode cX5_readNewName 80 = .ok (.lreturn, 1) := by decide +kernel
theorem dX5_readColour_0 : decode cX5_readColour 0 = .ok (.aload_n 0, 1) := by decide +kernel
theorem dX5_readColour_1 : decode cX5_readColour 1 = .ok (.getfield 18, 3) := by decide +kernel
theorem dX5_readColour_4 : decode cX5_readColour 4 = .ok (.aload_n 0, 1) := by decide +kernel
theorem dX5_readColour_5 : decode cX5_readColour 5 = .ok (.getfield 32, 3) := by decide +kernel
theorem dX5_readColour_8 : decode cX5_readColour 8 = .ok (.aload_n 0, 1) := by decide +kernel
theorem dX5_readColour_9 : decode cX5_readColour 9 = .ok (.getfield 53, 3) := by decide +kernel
theorem dX5_readColour_12 : decode cX5_readColour 12 = .ok (.invokevirtual 221, 3) := by decide +kernel
theorem dX5_readColour_15 : decode cX5_readColour 15 = .ok (.invokevirtual 229, 3) := by decide +kernel
theorem dX5_readColour_18 : decode cX5_readColour 18 = .ok (.istore_n 2, 1) := by decide +kernel
theorem dX5_readColour_19 : decode cX5_readColour 19 = .ok (.aload_n 0, 1) := by decide +kernel
theorem dX5_readColour_20 : decode cX5_readColour 20 = .ok (.getfield 32, 3) := by decide +kernel
theorem dX5_readColour_23 : decode cX5_readColour 23 = .ok (.aload_n 0, 1) := by decide +kernel
theorem dX5_readColour_24 : decode cX5_readColour 24 = .ok (.getfield 53, 3) := by decide +kernel
theorem dX5_readColour_27 : decode cX5_readColour 27 = .ok (.invokevirtual 225, 3) := by decide +kernel
theorem dX5_readColour_30 : decode cX5_readColour 30 = .ok (.ifCond .ne 8, 3) := by decide +kernel
theorem dX5_readColour_33 : decode cX5_readColour 33 = .ok (.aload_n 0, 1) := by decide +kernel
theorem dX5_readColour_34 : decode cX5_readColour 34 = .ok (.iconst 1, 1) := by decide +kernel
theorem dX5_readColour_35 : decode cX5_readColour 35 = .ok (.invokevirtual 90, 3) := by decide +kernel
theorem dX5_readColour_38 : decode cX5_readColour 38 = .ok (.iload_n 2, 1) := by decide +kernel
theorem dX5_readColour_39 : decode cX5_readColour 39 = .ok (.iconst (-1), 1) := by decide +kernel
theorem dX5_readColour_40 : decode cX5_readColour 40 = .ok (.if_icmp .ne 8, 3) := by decide +kernel
theorem dX5_readColour_43 : decode cX5_readColour 43 = .ok (.aload_n 0, 1) := by decide +kernel
theorem dX5_readColour_44 : decode cX5_readColour 44 = .ok (.iconst 2, 1) := by decide +kernel
theorem dX5_readColour_45 : decode cX5_readColour 45 = .ok (.invokevirtual 90, 3) := by decide +kernel
theorem dX5_readColour_48 : decode cX5_readColour 48 = .ok (.iload_n 1, 1) := by decide +kernel
theorem dX5_readColour_49 : decode cX5_readColour 49 = .ok (.ifCond .eq 8, 3) := by decide +kernel
theorem dX5_readColour_52 : decode cX5_readColour 52 = .ok (.aload_n 0, 1) := by decide +kernel
theorem dX5_readColour_53 : decode cX5_readColour 53 = .ok (.iconst 5, 1) := by decide +kernel
theorem dX5_readColour_54 : decode cX5_readColour 54 = .ok (.invokevirtual 90, 3) := by decide +kernel
theorem dX5_readColour_57 : decode cX5_readColour 57 = .ok (.aload_n 0, 1) := by decide +kernel
theorem dX5_readColour_58 : decode cX5_readColour 58 = .ok (.dup, 1) := by decide +kernel
theorem dX5_readColour_59 : decode cX5_readColour 59 = .ok (.getfield 53, 3) := by decide +kernel
theorem dX5_readColour_62 : decode cX5_readColour 62 = .ok (.iconst 1, 1) := by decide +kernel
theorem dX5_readColour_63 : decode cX5_readColour 63 = .ok (.iadd, 1) := by decide +kernel
theorem dX5_readColour_64 : decode cX5_readColour 64 = .ok (.putfield 53, 3) := by decide +kernel
theorem dX5_readColour_67 : decode cX5_readColour 67 = .ok (.iload_n 2, 1) := by decide +kernel
theorem dX5_readColour_68 : decode cX5_readColour 68 = .ok (.ireturn, 1) := by decide +kernel
theorem dX5_readHand_0 : decode cX5_readHand 0 = .ok (.aload_n 0, 1) := by decide +kernel
theorem dX5_readHand_1 : decode cX5_readHand 1 = .ok (.getfield 18, 3) := by decide +kernel
theorem dX5_readHand_4 : decode cX5_readHand 4 = .ok (.aload_n 0, 1) := by decide +kernel
theorem dX5_readHand_5 : decode cX5_readHand 5 = .ok (.getfield 32, 3) := by decide +kernel
theorem dX5_readHand_8 : decode cX5_readHand 8 = .ok (.aload_n 0, 1) := by decide +kernel
theorem dX5_readHand_9 : decode cX5_readHand 9 = .ok (.getfield 53, 3) := by decide +kernel
theorem dX5_readHand_12 : decode cX5_readHand 12 = .ok (.invokevirtual 221, 3) := by decide +kernel
theorem dX5_readHand_15 : decode cX5_readHand 15 = .ok (.invokevirtual 233, 3) := by decide +kernel
theorem dX5_readHand_18 : decode cX5_readHand 18 = .ok (.istore_n 1, 1) := by decide +kernel
theorem dX5_readHand_19 : decode cX5_readHand 19 = .ok (.aload_n 0, 1) := by decide +kernel
theorem dX5_readHand_20 : decode cX5_readHand 20 = .ok (.getfield 32, 3) := by decide +kernel
theorem dX5_readHand_23 : decode cX5_readHand 23 = .ok (.aload_n 0, 1) := by decide +kernel
theorem dX5_readHand_24 : decode cX5_readHand 24 = .ok (.getfield 53, 3) := by decide +kernel
theorem dX5_readHand_27 : decode cX5_readHand 27 = .ok (.invokevirtual 225, 3) := by decide +kernel
theorem dX5_readHand_30 : decode cX5_readHand 30 = .ok (.ifCond .ne 8, 3) := by decide +kernel
theorem dX5_readHand_33 : decode cX5_readHand 33 = .ok (.aload_n 0, 1) := by decide +kernel
theorem dX5_readHand_34 : decode cX5_readHand 34 = .ok (.iconst 1, 1) := by decide +kernel
theorem dX5_readHand_35 : decode cX5_readHand 35 = .ok (.invokevirtual 90, 3) := by decide +kernel
theorem dX5_readHand_38 : decode cX5_readHand 38 = .ok (.iload_n 1, 1) := by decide +kernel
theorem dX5_readHand_39 : decode cX5_readHand 39 = .ok (.iconst (-1), 1) := by decide +kernel
theorem dX5_readHand_40 : decode cX5_readHand 40 = .ok (.if_icmp .ne 8, 3) := by decide +kernel
theorem dX5_readHand_43 : decode cX5_readHand 43 = .ok (.aload_n 0, 1) := by decide +kernel
theorem dX5_readHand_44 : decode cX5_readHand 44 = .ok (.iconst 2, 1) := by decide +kernel
theorem dX5_readHand_45 : decode cX5_readHand 45 = .ok (.invokevirtual 90, 3) := by decide +kernel
theorem dX5_readHand_48 : decode cX5_readHand 48 = .ok (.aload_n 0, 1) := by decide +kernel
theorem dX5_readHand_49 : decode cX5_readHand 49 = .ok (.dup, 1) := by decide +kernel
theorem dX5_readHand_50 : decode cX5_readHand 50 = .ok (.getfield 53, 3) := by decide +kernel
theorem dX5_readHand_53 : decode cX5_readHand 53 = .ok (.iconst 1, 1) := by decide +kernel
theorem dX5_readHand_54 : decode cX5_readHand 54 = .ok (.iadd, 1) := by decide +kernel
theorem dX5_readHand_55 : decode cX5_readHand 55 = .ok (.putfield 53, 3) := by decide +kernel
theorem dX5_readHand_58 : decode cX5_readHand 58 = .ok (.iload_n 1, 1) := by decide +kernel
theorem dX5_readHand_59 : decode cX5_readHand 59 = .ok (.ireturn, 1) := by decide +kernel
theorem dX5_fail_0 : decode cX5_fail 0 = .ok (.aload_n 0, 1) := by decide +kernel
theorem dX5_fail_1 : decode cX5_fail 1 = .ok (.getfield 50, 3) := by decide +kernel
theorem dX5_fail_4 : decode cX5_fail 4 = .ok (.ifCond .ne 16, 3) := by decide +kernel
theorem dX5_fail_7 : decode cX5_fail 7 = .ok (.aload_n 0, 1) := by decide +kernel
theorem dX5_fail_8 : decode cX5_fail 8 = .ok (.iload_n 1, 1) := by decide +kernel
theorem dX5_fail_9 : decode cX5_fail 9 = .ok (.putfield 50, 3) := by decide +kernel
theorem dX5_fail_12 : decode cX5_fail 12 = .ok (.aload_n 0, 1) := by decide +kernel
theorem dX5_fail_13 : decode cX5_fail 13 = .ok (.aload_n 0, 1) := by decide +kernel
theorem dX5_fail_14 : decode cX5_fail 14 = .ok (.getfield 53, 3) := by decide +kernel
theorem dX5_fail_17 : decode cX5_fail 17 = .ok (.putfield 98, 3) := by decide +kernel
theorem dX5_fail_20 : decode cX5_fail 20 = .ok (.return_, 1) := by decide +kernel
theorem dX6_init_0 : decode cX6_init 0 = .ok (.aload_n 0, 1) := by decide +kernel
theorem dX6_init_1 : decode cX6_init 1 = .ok (.invokespecial 3, 3) := by decide +kernel
theorem dX6_init_4 : decode cX6_init 4 = .ok (.aload_n 0, 1) := by decide +kernel
theorem dX6_init_5 : decode cX6_init 5 = .ok (.sipush 901, 3) := by decide +kernel
theorem dX6_init_8 : decode cX6_init 8 = .ok (.newarray .int, 2) := by decide +kernel
theorem dX6_init_10 : decode cX6_init 10 = .ok (.putfield 9, 3) := by decide +kernel
theorem dX6_init_13 : decode cX6_init 13 = .ok (.aload_n 0, 1) := by decide +kernel
theorem dX6_init_14 : decode cX6_init 14 = .ok (.sipush 901, 3) := by decide +kernel
theorem dX6_init_17 : decode cX6_init 17 = .ok (.newarray .int, 2) := by decide +kernel
theorem dX6_init_19 : decode cX6_init 19 = .ok (.putfield 15, 3) := by decide +kernel
theorem dX6_init_22 : decode cX6_init 22 = .ok (.aload_n 0, 1) := by decide +kernel
theorem dX6_init_23 : decode cX6_init 23 = .ok (.sipush 901, 3) := by decide +kernel
theorem dX6_init_26 : decode cX6_init 26 = .ok (.newarray .long, 2) := by decide +kernel
theorem dX6_init_28 : decode cX6_init 28 = .ok (.putfield 18, 3) := by decide +kernel
theorem dX6_init_31 : decode cX6_init 31 = .ok (.return_, 1) := by decide +kernel
theorem dX6_cut_0 : decode cX6_cut 0 = .ok (.aload_n 0, 1) := by decide +kernel
theorem dX6_cut_1 : decode cX6_cut 1 = .ok (.iconst 0, 1) := by decide +kernel
theorem dX6_cut_2 : decode cX6_cut 2 = .ok (.putfield 22, 3) := by decide +kernel
theorem dX6_cut_5 : decode cX6_cut 5 = .ok (.iconst 0, 1) := by decide +kernel
theorem dX6_cut_6 : decode cX6_cut 6 = .ok (.istore_n 3, 1) := by decide +kernel
theorem dX6_cut_7 : decode cX6_cut 7 = .ok (.iconst 0, 1) := by decide +kernel
theorem dX6_cut_8 : decode cX6_cut 8 = .ok (.istore 4, 2) := by decide +kernel
theorem dX6_cut_10 : decode cX6_cut 10 = .ok (.iload 4, 2) := by decide +kernel
theorem dX6_cut_12 : decode cX6_cut 12 = .ok (.iload_n 2, 1) := by decide +kernel
theorem dX6_cut_13 : decode cX6_cut 13 = .ok (.if_icmp .ge 75, 3) := by decide +kernel
theorem dX6_cut_16 : decode cX6_cut 16 = .ok (.iload_n 3, 1) := by decide +kernel
theorem dX6_cut_17 : decode cX6_cut 17 = .ok (.iload_n 2, 1) := by decide +kernel
theorem dX6_cut_18 : decode cX6_cut 18 = .ok (.if_icmp .ge 70, 3) := by decide +kernel
theorem dX6_cut_21 : decode cX6_cut 21 = .ok (.aload_n 1, 1) := by decide +kernel
theorem dX6_cut_22 : decode cX6_cut 22 = .ok (.iload_n 3, 1) := by decide +kernel
theorem dX6_cut_23 : decode cX6_cut 23 = .ok (.iload_n 2, 1) := by decide +kernel
theorem dX6_cut_24 : decode cX6_cut 24 = .ok (.invokestatic 26, 3) := by decide +kernel
theorem dX6_cut_27 : decode cX6_cut 27 = .ok (.istore 5, 2) := by decide +kernel
theorem dX6_cut_29 : decode cX6_cut 29 = .ok (.aload_n 1, 1) := by decide +kernel
theorem dX6_cut_30 : decode cX6_cut 30 = .ok (.iload_n 3, 1) := by decide +kernel
theorem dX6_cut_31 : decode cX6_cut 31 = .ok (.baload, 1) := by decide +kernel
theorem dX6_cut_32 : decode cX6_cut 32 = .ok (.iload 5, 2) := by decide +kernel
theorem dX6_cut_34 : decode cX6_cut 34 = .ok (.iload_n 3, 1) := by decide +kernel
theorem dX6_cut_35 : decode cX6_cut 35 = .ok (.isub, 1) := by decide +kernel
theorem dX6_cut_36 : decode cX6_cut 36 = .ok (.invokestatic 30, 3) := by decide +kernel
theorem dX6_cut_39 : decode cX6_cut 39 = .ok (.istore 6, 2) := by decide +kernel
theorem dX6_cut_41 : decode cX6_cut 41 = .ok (.aload_n 1, 1) := by decide +kernel
theorem dX6_cut_42 : decode cX6_cut 42 = .ok (.iload_n 3, 1) := by decide +kernel
theorem dX6_cut_43 : decode cX6_cut 43 = .ok (.baload, 1) := by decide +kernel
theorem dX6_cut_44 : decode cX6_cut 44 = .ok (.bipush 32, 2) := by decide +kernel
theorem dX6_cut_46 : decode cX6_cut 46 = .ok (.if_icmp .eq 33, 3) := by decide +kernel
theorem dX6_cut_49 : decode cX6_cut 49 = .ok (.aload_n 0, 1) := by decide +kernel
theorem dX6_cut_50 : decode cX6_cut 50 = .ok (.iload 6, 2) := by decide +kernel
theorem dX6_cut_52 : decode cX6_cut 52 = .ok (.iload_n 3, 1) := by decide +kernel
theorem dX6_cut_53 : decode cX6_cut 53 = .ok (.iload 6, 2) := by decide +kernel
theorem dX6_cut_55 : decode cX6_cut 55 = .ok (.iconst 3, 1) := by decide +kernel
theorem dX6_cut_56 : decode cX6_cut 56 = .ok (.if_icmp .ne 13, 3) := by decide +kernel
theorem dX6_cut_59 : decode cX6_cut 59 = .ok (.aload_n 1, 1) := by decide +kernel
theorem dX6_cut_60 : decode cX6_cut 60 = .ok (.iload_n 3, 1) := by decide +kernel
theorem dX6_cut_61 : decode cX6_cut 61 = .ok (.iload 5, 2) := by decide +kernel
theorem dX6_cut_63 : decode cX6_cut 63 = .ok (.invokestatic 34, 3) := by decide +kernel
theorem dX6_cut_66 : decode cX6_cut 66 = .ok (.goto 10, 3) := by decide +kernel
theorem dX6_cut_69 : decode cX6_cut 69 = .ok (.aload_n 1, 1) := by decide +kernel
theorem dX6_cut_70 : decode cX6_cut 70 = .ok (.iload_n 3, 1) := by decide +kernel
theorem dX6_cut_71 : decode cX6_cut 71 = .ok (.iload 5, 2) := by decide +kernel
theorem dX6_cut_73 : decode cX6_cut 73 = .ok (.invokestatic 38, 3) := by decide +kernel
theorem dX6_cut_76 : decode cX6_cut 76 = .ok (.invokevirtual 41, 3) := by decide +kernel
theorem dX6_cut_79 : decode cX6_cut 79 = .ok (.iload 5, 2) := by decide +kernel
theorem dX6_cut_81 : decode cX6_cut 81 = .ok (.istore_n 3, 1) := by decide +kernel
theorem dX6_cut_82 : decode cX6_cut 82 = .ok (.iinc 4 1, 3) := by decide +kernel
theorem dX6_cut_85 : decode cX6_cut 85 = .ok (.goto (-75), 3) := by decide +kernel
theorem dX6_cut_88 : decode cX6_cut 88 = .ok (.aload_n 0, 1) := by decide +kernel
theorem dX6_cut_89 : decode cX6_cut 89 = .ok (.iconst 1, 1) := by decide +kernel
theorem dX6_cut_90 : decode cX6_cut 90 = .ok (.iload_n 2, 1) := by decide +kernel
theorem dX6_cut_91 : decode cX6_cut 91 = .ok (.lconst 0, 1) := by decide +kernel
theorem dX6_cut_92 : decode cX6_cut 92 = .ok (.invokevirtual 41, 3) := by decide +kernel
theorem dX6_cut_95 : decode cX6_cut 95 = .ok (.return_, 1) := by decide +kernel
theorem dX6_put_0 : decode cX6_put 0 = .ok (.aload_n 0, 1) := by decide +kernel
theorem dX6_put_1 : decode cX6_put 1 = .ok (.getfield 22, 3) := by decide +kernel
theorem dX6_put_4 : decode cX6_put 4 = .ok (.aload_n 0, 1) := by decide +kernel
theorem dX6_put_5 : decode cX6_put 5 = .ok (.getfield 9, 3) := by decide +kernel
theorem dX6_put_8 : decode cX6_put 8 = .ok (.arraylength, 1) := by decide +kernel
theorem dX6_put_9 : decode cX6_put 9 = .ok (.if_icmp .ge 43, 3) := by decide +kernel
theorem dX6_put_12 : decode cX6_put 12 = .ok (.aload_n 0, 1) := by decide +kernel
theorem dX6_put_13 : decode cX6_put 13 = .ok (.getfield 9, 3) := by decide +kernel
theorem dX6_put_16 : decode cX6_put 16 = .ok (.aload_n 0, 1) := by decide +kernel
theorem dX6_put_17 : decode cX6_put 17 = .ok (.getfield 22, 3) := by decide +kernel
theorem dX6_put_20 : decode cX6_put 20 = .ok (.iload_n 1, 1) := by decide +kernel
theorem dX6_put_21 : decode cX6_put 21 = .ok (.iastore, 1) := by decide +kernel
theorem dX6_put_22 : decode cX6_put 22 = .ok (.aload_n 0, 1) := by decide +kernel
theorem dX6_put_23 : decode cX6_put 23 = .ok (.getfield 15, 3) := by decide +kernel
theorem dX6_put_26 : decode cX6_put 26 = .ok (.aload_n 0, 1) := by decide +kernel
theorem dX6_put_27 : decode cX6_put 27 = .ok (.getfield 22, 3) := by decide +kernel
theorem dX6_put_30 : decode cX6_put 30 = .ok (.iload_n 2, 1) := by decide +kernel
theorem dX6_put_31 : decode cX6_put 31 = .ok (.iastore, 1) := by decide +kernel
theorem dX6_put_32 : decode cX6_put 32 = .ok (.aload_n 0, 1) := by decide +kernel
theorem dX6_put_33 : decode cX6_put 33 = .ok (.getfield 18, 3) := by decide +kernel
theorem dX6_put_36 : decode cX6_put 36 = .ok (.aload_n 0, 1) := by decide +kernel
theorem dX6_put_37 : decode cX6_put 37 = .ok (.getfield 22, 3) := by decide +kernel
theorem dX6_put_40 : decode cX6_put 40 = .ok (.lload_n 3, 1) := by decide +kernel
theorem dX6_put_41 : decode cX6_put 41 = .ok (.lastore, 1) := by decide +kernel
theorem dX6_put_42 : decode cX6_put 42 = .ok (.aload_n 0, 1) := by decide +kernel
theorem dX6_put_43 : decode cX6_put 43 = .ok (.dup, 1) := by decide +kernel
theorem dX6_put_44 : decode cX6_put 44 = .ok (.getfield 22, 3) := by decide +kernel
theorem dX6_put_47 : decode cX6_put 47 = .ok (.iconst 1, 1) := by decide +kernel
theorem dX6_put_48 : decode cX6_put 48 = .ok (.iadd, 1) := by decide +kernel
theorem dX6_put_49 : decode cX6_put 49 = .ok (.putfield 22, 3) := by decide +kernel
theorem dX6_put_52 : decode cX6_put 52 = .ok (.return_, 1) := by decide +kernel
theorem dX6_endOf_0 : decode cX6_endOf 0 = .ok (.iload_n 1, 1) := by decide +kernel
theorem dX6_endOf_1 : decode cX6_endOf 1 = .ok (.iconst 1, 1) := by decide +kernel
theorem dX6_endOf_2 : decode cX6_endOf 2 = .ok (.iadd, 1) := by decide +kernel
theorem dX6_endOf_3 : decode cX6_endOf 3 = .ok (.istore_n 3, 1) := by decide +kernel
theorem dX6_endOf_4 : decode cX6_endOf 4 = .ok (.iload_n 3, 1) := by decide +kernel
theorem dX6_endOf_5 : decode cX6_endOf 5 = .ok (.iload_n 2, 1) := by decide +kernel
theorem dX6_endOf_6 : decode cX6_endOf 6 = .ok (.if_icmp .ge 33, 3) := by decide +kernel
theorem dX6_endOf_9 : decode cX6_endOf 9 = .ok (.aload_n 0, 1) := by decide +kernel
theorem dX6_endOf_10 : decode cX6_endOf 10 = .ok (.iload_n 1, 1) := by decide +kernel
theorem dX6_endOf_11 : decode cX6_endOf 11 = .ok (.baload, 1) := by decide +kernel
theorem dX6_endOf_12 : decode cX6_endOf 12 = .ok (.aload_n 0, 1) := by decide +kernel
theorem dX6_endOf_13 : decode cX6_endOf 13 = .ok (.iload_n 3, 1) := by decide +kernel
theorem dX6_endOf_14 : decode cX6_endOf 14 = .ok (.baload, 1) := by decide +kernel
theorem dX6_endOf_15 : decode cX6_endOf 15 = .ok (.invokestatic 45, 3) := by decide +kernel
theorem dX6_endOf_18 : decode cX6_endOf 18 = .ok (.ifCond .ne 15, 3) := by decide +kernel
theorem dX6_endOf_21 : decode cX6_endOf 21 = .ok (.aload_n 0, 1) := by decide +kernel
theorem dX6_endOf_22 : decode cX6_endOf 22 = .ok (.iload_n 1, 1) := by decide +kernel
theorem dX6_endOf_23 : decode cX6_endOf 23 = .ok (.baload, 1) := by decide +kernel
theorem dX6_endOf_24 : decode cX6_endOf 24 = .ok (.aload_n 0, 1) := by decide +kernel
theorem dX6_endOf_25 : decode cX6_endOf 25 = .ok (.iload_n 3, 1) := by decide +kernel
theorem dX6_endOf_26 : decode cX6_endOf 26 = .ok (.baload, 1) := by decide +kernel
theorem dX6_endOf_27 : decode cX6_endOf 27 = .ok (.invokestatic 49, 3) := by decide +kernel
theorem dX6_endOf_30 : decode cX6_endOf 30 = .ok (.ifCond .eq 9, 3) := by decide +kernel
theorem dX6_endOf_33 : decode cX6_endOf 33 = .ok (.iinc 3 1, 3) := by decide +kernel
theorem dX6_endOf_36 : decode cX6_endOf 36 = .ok (.goto (-32), 3) := by decide +kernel
theorem dX6_endOf_39 : decode cX6_endOf 39 = .ok (.iload_n 3, 1) := by decide +kernel
theorem dX6_endOf_40 : decode cX6_endOf 40 = .ok (.ireturn, 1) := by decide +kernel
theorem dX6_kindOf_0 : decode cX6_kindOf 0 = .ok (.iload_n 0, 1) := by decide +kernel
theorem dX6_kindOf_1 : decode cX6_kindOf 1 = .ok (.iload_n 0, 1) := by decide +kernel
theorem dX6_kindOf_2 : decode cX6_kindOf 2 = .ok (.invokestatic 45, 3) := by decide +kernel
theorem dX6_kindOf_5 : decode cX6_kindOf 5 = .ok (.ifCond .eq 15, 3) := by decide +kernel
theorem dX6_kindOf_8 : decode cX6_kindOf 8 = .ok (.iload_n 1, 1) := by decide +kernel
theorem dX6_kindOf_9 : decode cX6_kindOf 9 = .ok (.bipush 8, 2) := by decide +kernel
theorem dX6_kindOf_11 : decode cX6_kindOf 11 = .ok (.if_icmp .le 7, 3) := by decide +kernel
theorem dX6_kindOf_14 : decode cX6_kindOf 14 = .ok (.iconst 0, 1) := by decide +kernel
theorem dX6_kindOf_15 : decode cX6_kindOf 15 = .ok (.goto 4, 3) := by decide +kernel
theorem dX6_kindOf_18 : decode cX6_kindOf 18 = .ok (.iconst 2, 1) := by decide +kernel
theorem dX6_kindOf_19 : decode cX6_kindOf 19 = .ok (.ireturn, 1) := by decide +kernel
theorem dX6_kindOf_20 : decode cX6_kindOf 20 = .ok (.iload_n 0, 1) := by decide +kernel
theorem dX6_kindOf_21 : decode cX6_kindOf 21 = .ok (.iload_n 0, 1) := by decide +kernel
theorem dX6_kindOf_22 : decode cX6_kindOf 22 = .ok (.invokestatic 49, 3) := by decide +kernel
theorem dX6_kindOf_25 : decode cX6_kindOf 25 = .ok (.ifCond .eq 14, 3) := by decide +kernel
theorem dX6_kindOf_28 : decode cX6_kindOf 28 = .ok (.iload_n 1, 1) := by decide +kernel
theorem dX6_kindOf_29 : decode cX6_kindOf 29 = .ok (.iconst 3, 1) := by decide +kernel
theorem dX6_kindOf_30 : decode cX6_kindOf 30 = .ok (.if_icmp .le 7, 3) := by decide +kernel
theorem dX6_kindOf_33 : decode cX6_kindOf 33 = .ok (.iconst 0, 1) := by decide +kernel
theorem dX6_kindOf_34 : decode cX6_kindOf 34 = .ok (.goto 4, 3) := by decide +kernel
theorem dX6_kindOf_37 : decode cX6_kindOf 37 = .ok (.iconst 3, 1) := by decide +kernel
theorem dX6_kindOf_38 : decode cX6_kindOf 38 = .ok (.ireturn, 1) := by decide +kernel
theorem dX6_kindOf_39 : decode cX6_kindOf 39 = .ok (.iload_n 0, 1) := by decide +kernel
theorem dX6_kindOf_40 : decode cX6_kindOf 40 = .ok (.bipush 59, 2) := by decide +kernel
theorem dX6_kindOf_42 : decode cX6_kindOf 42 = .ok (.if_icmp .ne 7, 3) := by decide +kernel
theorem dX6_kindOf_45 : decode cX6_kindOf 45 = .ok (.iconst 4, 1) := by decide +kernel
theorem dX6_kindOf_46 : decode cX6_kindOf 46 = .ok (.goto 14, 3) := by decide +kernel
theorem dX6_kindOf_49 : decode cX6_kindOf 49 = .ok (.iload_n 0, 1) := by decide +kernel
theorem dX6_kindOf_50 : decode cX6_kindOf 50 = .ok (.bipush 44, 2) := by decide +kernel
theorem dX6_kindOf_52 : decode cX6_kindOf 52 = .ok (.if_icmp .ne 7, 3) := by decide +kernel
theorem dX6_kindOf_55 : decode cX6_kindOf 55 = .ok (.iconst 5, 1) := by decide +kernel
theorem dX6_kindOf_56 : decode cX6_kindOf 56 = .ok (.goto 4, 3) := by decide +kernel
theorem dX6_kindOf_59 : decode cX6_kindOf 59 = .ok (.iconst 0, 1) := by decide +kernel
theorem dX6_kindOf_60 : decode cX6_kindOf 60 = .ok (.ireturn, 1) := by decide +kernel
theorem dX6_areLetters_0 : decode cX6_areLetters 0 = .ok (.iload_n 0, 1) := by decide +kernel
theorem dX6_areLetters_1 : decode cX6_areLetters 1 = .ok (.bipush 97, 2) := by decide +kernel
theorem dX6_areLetters_3 : decode cX6_areLetters 3 = .ok (.if_icmp .lt 25, 3) := by decide +kernel
theorem dX6_areLetters_6 : decode cX6_areLetters 6 = .ok (.iload_n 0, 1) := by decide +kernel
theorem dX6_areLetters_7 : decode cX6_areLetters 7 = .ok (.bipush 122, 2) := by decide +kernel
theorem dX6_areLetters_9 : decode cX6_areLetters 9 = .ok (.if_icmp .gt 19, 3) := by decide +kernel
theorem dX6_areLetters_12 : decode cX6_areLetters 12 = .ok (.iload_n 1, 1) := by decide +kernel
theorem dX6_areLetters_13 : decode cX6_areLetters 13 = .ok (.bipush 97, 2) := by decide +kernel
theorem dX6_areLetters_15 : decode cX6_areLetters 15 = .ok (.if_icmp .lt 13, 3) := by decide +kernel
theorem dX6_areLetters_18 : decode cX6_areLetters 18 = .ok (.iload_n 1, 1) := by decide +kernel
theorem dX6_areLetters_19 : decode cX6_areLetters 19 = .ok (.bipush 122, 2) := by decide +kernel
theorem dX6_areLetters_21 : decode cX6_areLetters 21 = .ok (.if_icmp .gt 7, 3) := by decide +kernel
theorem dX6_areLetters_24 : decode cX6_areLetters 24 = .ok (.iconst 1, 1) := by decide +kernel
theorem dX6_areLetters_25 : decode cX6_areLetters 25 = .ok (.goto 4, 3) := by decide +kernel
theorem dX6_areLetters_28 : decode cX6_areLetters 28 = .ok (.iconst 0, 1) := by decide +kernel
theorem dX6_areLetters_29 : decode cX6_areLetters 29 = .ok (.ireturn, 1) := by decide +kernel
theorem dX6_areDigits_0 : decode cX6_areDigits 0 = .ok (.iload_n 0, 1) := by decide +kernel
theorem dX6_areDigits_1 : decode cX6_areDigits 1 = .ok (.bipush 48, 2) := by decide +kernel
theorem dX6_areDigits_3 : decode cX6_areDigits 3 = .ok (.if_icmp .lt 25, 3) := by decide +kernel
theorem dX6_areDigits_6 : decode cX6_areDigits 6 = .ok (.iload_n 0, 1) := by decide +kernel
theorem dX6_areDigits_7 : decode cX6_areDigits 7 = .ok (.bipush 57, 2) := by decide +kernel
theorem dX6_areDigits_9 : decode cX6_areDigits 9 = .ok (.if_icmp .gt 19, 3) := by decide +kernel
theorem dX6_areDigits_12 : decode cX6_areDigits 12 = .ok (.iload_n 1, 1) := by decide +kernel
theorem dX6_areDigits_13 : decode cX6_areDigits 13 = .ok (.bipush 48, 2) := by decide +kernel
theorem dX6_areDigits_15 : decode cX6_areDigits 15 = .ok (.if_icmp .lt 13, 3) := by decide +kernel
theorem dX6_areDigits_18 : decode cX6_areDigits 18 = .ok (.iload_n 1, 1) := by decide +kernel
theorem dX6_areDigits_19 : decode cX6_areDigits 19 = .ok (.bipush 57, 2) := by decide +kernel
theorem dX6_areDigits_21 : decode cX6_areDigits 21 = .ok (.if_icmp .gt 7, 3) := by decide +kernel
theorem dX6_areDigits_24 : decode cX6_areDigits 24 = .ok (.iconst 1, 1) := by decide +kernel
theorem dX6_areDigits_25 : decode cX6_areDigits 25 = .ok (.goto 4, 3) := by decide +kernel
theorem dX6_areDigits_28 : decode cX6_areDigits 28 = .ok (.iconst 0, 1) := by decide +kernel
theorem dX6_areDigits_29 : decode cX6_areDigits 29 = .ok (.ireturn, 1) := by decide +kernel
theorem dX6_numberOf_0 : decode cX6_numberOf 0 = .ok (.lconst 0, 1) := by decide +kernel
theorem dX6_numberOf_1 : decode cX6_numberOf 1 = .ok (.lstore_n 3, 1) := by decide +kernel
theorem dX6_numberOf_2 : decode cX6_numberOf 2 = .ok (.iload_n 1, 1) := by decide +kernel
theorem dX6_numberOf_3 : decode cX6_numberOf 3 = .ok (.istore 5, 2) := by decide +kernel
theorem dX6_numberOf_5 : decode cX6_numberOf 5 = .ok (.iload 5, 2) := by decide +kernel
theorem dX6_numberOf_7 : decode cX6_numberOf 7 = .ok (.iload_n 2, 1) := by decide +kernel
theorem dX6_numberOf_8 : decode cX6_numberOf 8 = .ok (.if_icmp .ge 24, 3) := by decide +kernel
theorem dX6_numberOf_11 : decode cX6_numberOf 11 = .ok (.lload_n 3, 1) := by decide +kernel
theorem dX6_numberOf_12 : decode cX6_numberOf 12 = .ok (.ldc2_w 52, 3) := by decide +kernel
theorem dX6_numberOf_15 : decode cX6_numberOf 15 = .ok (.lmul, 1) := by decide +kernel
theorem dX6_numberOf_16 : decode cX6_numberOf 16 = .ok (.aload_n 0, 1) := by decide +kernel
theorem dX6_numberOf_17 : decode cX6_numberOf 17 = .ok (.iload 5, 2) := by decide +kernel
theorem dX6_numberOf_19 : decode cX6_numberOf 19 = .ok (.baload, 1) := by decide +kernel
theorem dX6_numberOf_20 : decode cX6_numberOf 20 = .ok (.bipush 48, 2) := by decide +kernel
theorem dX6_numberOf_22 : decode cX6_numberOf 22 = .ok (.isub, 1) := by decide +kernel
theorem dX6_numberOf_23 : decode cX6_numberOf 23 = .ok (.i2l, 1) := by decide +kernel
theorem dX6_numberOf_24 : decode cX6_numberOf 24 = .ok (.ladd, 1) := by decide +kernel
theorem dX6_numberOf_25 : decode cX6_numberOf 25 = .ok (.lstore_n 3, 1) := by decide +kernel
theorem dX6_numberOf_26 : decode cX6_numberOf 26 = .ok (.iinc 5 1, 3) := by decide +kernel
theorem dX6_numberOf_29 : decode cX6_numberOf 29 = .ok (.goto (-24), 3) := by decide +kernel
theorem dX6_numberOf_32 : decode cX6_numberOf 32 = .ok (.lload_n 3, 1) := by decide +kernel
theorem dX6_numberOf_33 : decode cX6_numberOf 33 = .ok (.lreturn, 1) := by decide +kernel
theorem dX6_lettersOf_0 : decode cX6_lettersOf 0 = .ok (.lconst 0, 1) := by decide +kernel
theorem dX6_lettersOf_1 : decode cX6_lettersOf 1 = .ok (.lstore_n 3, 1) := by decide +kernel
theorem dX6_lettersOf_2 : decode cX6_lettersOf 2 = .ok (.iload_n 1, 1) := by decide +kernel
theorem dX6_lettersOf_3 : decode cX6_lettersOf 3 = .ok (.istore 5, 2) := by decide +kernel
theorem dX6_lettersOf_5 : decode cX6_lettersOf 5 = .ok (.iload 5, 2) := by decide +kernel
theorem dX6_lettersOf_7 : decode cX6_lettersOf 7 = .ok (.iload_n 2, 1) := by decide +kernel
theorem dX6_lettersOf_8 : decode cX6_lettersOf 8 = .ok (.if_icmp .ge 20, 3) := by decide +kernel
theorem dX6_lettersOf_11 : decode cX6_lettersOf 11 = .ok (.lload_n 3, 1) := by decide +kernel
theorem dX6_lettersOf_12 : decode cX6_lettersOf 12 = .ok (.bipush 8, 2) := by decide +kernel
theorem dX6_lettersOf_14 : decode cX6_lettersOf 14 = .ok (.lshl, 1) := by decide +kernel
theorem dX6_lettersOf_15 : decode cX6_lettersOf 15 = .ok (.aload_n 0, 1) := by decide +kernel
theorem dX6_lettersOf_16 : decode cX6_lettersOf 16 = .ok (.iload 5, 2) := by decide +kernel
theorem dX6_lettersOf_18 : decode cX6_lettersOf 18 = .ok (.baload, 1) := by decide +kernel
theorem dX6_lettersOf_19 : decode cX6_lettersOf 19 = .ok (.i2l, 1) := by decide +kernel
theorem dX6_lettersOf_20 : decode cX6_lettersOf 20 = .ok (.lor, 1) := by decide +kernel
theorem dX6_lettersOf_21 : decode cX6_lettersOf 21 = .ok (.lstore_n 3, 1) := by decide +kernel
theorem dX6_lettersOf_22 : decode cX6_lettersOf 22 = .ok (.iinc 5 1, 3) := by decide +kernel
theorem dX6_lettersOf_25 : decode cX6_lettersOf 25 = .ok (.goto (-20), 3) := by decide +kernel
theorem dX6_lettersOf_28 : decode cX6_lettersOf 28 = .ok (.lload_n 3, 1) := by decide +kernel
theorem dX6_lettersOf_29 : decode cX6_lettersOf 29 = .ok (.lreturn, 1) := by decide +kernel
theorem dX6_isKind_0 : decode cX6_isKind 0 = .ok (.iload_n 1, 1) := by decide +kernel
theorem dX6_isKind_1 : decode cX6_isKind 1 = .ok (.ifCond .lt 25, 3) := by decide +kernel
theorem dX6_isKind_4 : decode cX6_isKind 4 = .ok (.iload_n 1, 1) := by decide +kernel
theorem dX6_isKind_5 : decode cX6_isKind 5 = .ok (.aload_n 0, 1) := by decide +kernel
theorem dX6_isKind_6 : decode cX6_isKind 6 = .ok (.getfield 22, 3) := by decide +kernel
theorem dX6_isKind_9 : decode cX6_isKind 9 = .ok (.if_icmp .ge 17, 3) := by decide +kernel
theorem dX6_isKind_12 : decode cX6_isKind 12 = .ok (.aload_n 0, 1) := by decide +kernel
theorem dX6_isKind_13 : decode cX6_isKind 13 = .ok (.getfield 9, 3) := by decide +kernel
theorem dX6_isKind_16 : decode cX6_isKind 16 = .ok (.iload_n 1, 1) := by decide +kernel
theorem dX6_isKind_17 : decode cX6_isKind 17 = .ok (.iaload, 1) := by decide +kernel
theorem dX6_isKind_18 : decode cX6_isKind 18 = .ok (.iload_n 2, 1) := by decide +kernel
theorem dX6_isKind_19 : decode cX6_isKind 19 = .ok (.if_icmp .ne 7, 3) := by decide +kernel
theorem dX6_isKind_22 : decode cX6_isKind 22 = .ok (.iconst 1, 1) := by decide +kernel
theorem dX6_isKind_23 : decode cX6_isKind 23 = .ok (.goto 4, 3) := by decide +kernel
theorem dX6_isKind_26 : decode cX6_isKind 26 = .ok (.iconst 0, 1) := by decide +kernel
theorem dX6_isKind_27 : decode cX6_isKind 27 = .ok (.ireturn, 1) := by decide +kernel
theorem dX6_isWord_0 : decode cX6_isWord 0 = .ok (.iload_n 1, 1) := by decide +kernel
theorem dX6_isWord_1 : decode cX6_isWord 1 = .ok (.ifCond .lt 36, 3) := by decide +kernel
theorem dX6_isWord_4 : decode cX6_isWord 4 = .ok (.iload_n 1, 1) := by decide +kernel
theorem dX6_isWord_5 : decode cX6_isWord 5 = .ok (.aload_n 0, 1) := by decide +kernel
theorem dX6_isWord_6 : decode cX6_isWord 6 = .ok (.getfield 22, 3) := by decide +kernel
theorem dX6_isWord_9 : decode cX6_isWord 9 = .ok (.if_icmp .ge 28, 3) := by decide +kernel
theorem dX6_isWord_12 : decode cX6_isWord 12 = .ok (.aload_n 0, 1) := by decide +kernel
theorem dX6_isWord_13 : decode cX6_isWord 13 = .ok (.getfield 9, 3) := by decide +kernel
theorem dX6_isWord_16 : decode cX6_isWord 16 = .ok (.iload_n 1, 1) := by decide +kernel
theorem dX6_isWord_17 : decode cX6_isWord 17 = .ok (.iaload, 1) := by decide +kernel
theorem dX6_isWord_18 : decode cX6_isWord 18 = .ok (.iconst 2, 1) := by decide +kernel
theorem dX6_isWord_19 : decode cX6_isWord 19 = .ok (.if_icmp .ne 18, 3) := by decide +kernel
theorem dX6_isWord_22 : decode cX6_isWord 22 = .ok (.aload_n 0, 1) := by decide +kernel
theorem dX6_isWord_23 : decode cX6_isWord 23 = .ok (.getfield 18, 3) := by decide +kernel
theorem dX6_isWord_26 : decode cX6_isWord 26 = .ok (.iload_n 1, 1) := by decide +kernel
theorem dX6_isWord_27 : decode cX6_isWord 27 = .ok (.laload, 1) := by decide +kernel
theorem dX6_isWord_28 : decode cX6_isWord 28 = .ok (.lload_n 2, 1) := by decide +kernel
theorem dX6_isWord_29 : decode cX6_isWord 29 = .ok (.lcmp, 1) := by decide +kernel
theorem dX6_isWord_30 : decode cX6_isWord 30 = .ok (.ifCond .ne 7, 3) := by decide +kernel
theorem dX6_isWord_33 : decode cX6_isWord 33 = .ok (.iconst 1, 1) := by decide +kernel
theorem dX6_isWord_34 : decode cX6_isWord 34 = .ok (.goto 4, 3) := by decide +kernel
theorem dX6_isWord_37 : decode cX6_isWord 37 = .ok (.iconst 0, 1) := by decide +kernel
theorem dX6_isWord_38 : decode cX6_isWord 38 = .ok (.ireturn, 1) := by decide +kernel
theorem dX6_isName_0 : decode cX6_isName 0 = .ok (.aload_n 0, 1) := by decide +kernel
theorem dX6_isName_1 : decode cX6_isName 1 = .ok (.iload_n 1, 1) := by decide +kernel
theorem dX6_isName_2 : decode cX6_isName 2 = .ok (.ldc2_w 54, 3) := by decide +kernel
theorem dX6_isName_5 : decode cX6_isName 5 = .ok (.invokevirtual 56, 3) := by decide +kernel
theorem dX6_isName_8 : decode cX6_isName 8 = .ok (.ifCond .ne 58, 3) := by decide +kernel
theorem dX6_isName_11 : decode cX6_isName 11 = .ok (.aload_n 0, 1) := by decide +kernel
theorem dX6_isName_12 : decode cX6_isName 12 = .ok (.iload_n 1, 1) := by decide +kernel
theorem dX6_isName_13 : decode cX6_isName 13 = .ok (.ldc2_w 60, 3) := by decide +kernel
theorem dX6_isName_16 : decode cX6_isName 16 = .ok (.invokevirtual 56, 3) := by decide +kernel
theorem dX6_isName_19 : decode cX6_isName 19 = .ok (.ifCond .ne 47, 3) := by decide +kernel
theorem dX6_isName_22 : decode cX6_isName 22 = .ok (.aload_n 0, 1) := by decide +kernel
theorem dX6_isName_23 : decode cX6_isName 23 = .ok (.iload_n 1, 1) := by decide +kernel
theorem dX6_isName_24 : decode cX6_isName 24 = .ok (.ldc2_w 62, 3) := by decide +kernel
theorem dX6_isName_27 : decode cX6_isName 27 = .ok (.invokevirtual 56, 3) := by decide +kernel
theorem dX6_isName_30 : decode cX6_isName 30 = .ok (.ifCond .ne 36, 3) := by decide +kernel
theorem dX6_isName_33 : decode cX6_isName 33 = .ok (.aload_n 0, 1) := by decide +kernel
theorem dX6_isName_34 : decode cX6_isName 34 = .ok (.iload_n 1, 1) := by decide +kernel
theorem dX6_isName_35 : decode cX6_isName 35 = .ok (.ldc2_w 64, 3) := by decide +kernel
theorem dX6_isName_38 : decode cX6_isName 38 = .ok (.invokevirtual 56, 3) := by decide +kernel
theorem dX6_isName_41 : decode cX6_isName 41 = .ok (.ifCond .ne 25, 3) := by decide +kernel
theorem dX6_isName_44 : decode cX6_isName 44 = .ok (.aload_n 0, 1) := by decide +kernel
theorem dX6_isName_45 : decode cX6_isName 45 = .ok (.iload_n 1, 1) := by decide +kernel
theorem dX6_isName_46 : decode cX6_isName 46 = .ok (.ldc2_w 66, 3) := by decide +kernel
theorem dX6_isName_49 : decode cX6_isName 49 = .ok (.invokevirtual 56, 3) := by decide +kernel
theorem dX6_isName_52 : decode cX6_isName 52 = .ok (.ifCond .ne 14, 3) := by decide +kernel
theorem dX6_isName_55 : decode cX6_isName 55 = .ok (.aload_n 0, 1) := by decide +kernel
theorem dX6_isName_56 : decode cX6_isName 56 = .ok (.iload_n 1, 1) := by decide +kernel
theorem dX6_isName_57 : decode cX6_isName 57 = .ok (.ldc2_w 68, 3) := by decide +kernel
theorem dX6_isName_60 : decode cX6_isName 60 = .ok (.invokevirtual 56, 3) := by decide +kernel
theorem dX6_isName_63 : decode cX6_isName 63 = .ok (.ifCond .eq 7, 3) := by decide +kernel
theorem dX6_isName_66 : decode cX6_isName 66 = .ok (.iconst 1, 1) := by decide +kernel
theorem dX6_isName_67 : decode cX6_isName 67 = .ok (.goto 4, 3) := by decide +kernel
theorem dX6_isName_70 : decode cX6_isName 70 = .ok (.iconst 0, 1) := by decide +kernel
theorem dX6_isName_71 : decode cX6_isName 71 = .ok (.istore_n 2, 1) := by decide +kernel
theorem dX6_isName_72 : decode cX6_isName 72 = .ok (.aload_n 0, 1) := by decide +kernel
theorem dX6_isName_73 : decode cX6_isName 73 = .ok (.iload_n 1, 1) := by decide +kernel
theorem dX6_isName_74 : decode cX6_isName 74 = .ok (.iconst 2, 1) := by decide +kernel
theorem dX6_isName_75 : decode cX6_isName 75 = .ok (.invokevirtual 70, 3) := by decide +kernel
theorem dX6_isName_78 : decode cX6_isName 78 = .ok (.ifCond .eq 11, 3) := by decide +kernel
theorem dX6_isName_81 : decode cX6_isName 81 = .ok (.iload_n 2, 1) := by decide +kernel
theorem dX6_isName_82 : decode cX6_isName 82 = .ok (.ifCond .ne 7, 3) := by decide +kernel
theorem dX6_isName_85 : decode cX6_isName 85 = .ok (.iconst 1, 1) := by decide +kernel
theorem dX6_isName_86 : decode cX6_isName 86 = .ok (.goto 4, 3) := by decide +kernel
theorem dX6_isName_89 : decode cX6_isName 89 = .ok (.iconst 0, 1) := by decide +kernel
theorem dX6_isName_90 : decode cX6_isName 90 = .ok (.ireturn, 1) := by decide +kernel
theorem dX6_valueOf_0 : decode cX6_valueOf 0 = .ok (.iload_n 1, 1) := by decide +kernel
theorem dX6_valueOf_1 : decode cX6_valueOf 1 = .ok (.ifCond .lt 20, 3) := by decide +kernel
theorem dX6_valueOf_4 : decode cX6_valueOf 4 = .ok (.iload_n 1, 1) := by decide +kernel
theorem dX6_valueOf_5 : decode cX6_valueOf 5 = .ok (.aload_n 0, 1) := by decide +kernel
theorem dX6_valueOf_6 : decode cX6_valueOf 6 = .ok (.getfield 22, 3) := by decide +kernel
theorem dX6_valueOf_9 : decode cX6_valueOf 9 = .ok (.if_icmp .ge 12, 3) := by decide +kernel
theorem dX6_valueOf_12 : decode cX6_valueOf 12 = .ok (.aload_n 0, 1) := by decide +kernel
theorem dX6_valueOf_13 : decode cX6_valueOf 13 = .ok (.getfield 18, 3) := by decide +kernel
theorem dX6_valueOf_16 : decode cX6_valueOf 16 = .ok (.iload_n 1, 1) := by decide +kernel
theorem dX6_valueOf_17 : decode cX6_valueOf 17 = .ok (.laload, 1) := by decide +kernel
theorem dX6_valueOf_18 : decode cX6_valueOf 18 = .ok (.goto 4, 3) := by decide +kernel
theorem dX6_valueOf_21 : decode cX6_valueOf 21 = .ok (.lconst 0, 1) := by decide +kernel
theorem dX6_valueOf_22 : decode cX6_valueOf 22 = .ok (.lreturn, 1) := by decide +kernel
theorem dX6_startOf_0 : decode cX6_startOf 0 = .ok (.iload_n 1, 1) := by decide +kernel
theorem dX6_startOf_1 : decode cX6_startOf 1 = .ok (.ifCond .lt 20, 3) := by decide +kernel
theorem dX6_startOf_4 : decode cX6_startOf 4 = .ok (.iload_n 1, 1) := by decide +kernel
theorem dX6_startOf_5 : decode cX6_startOf 5 = .ok (.aload_n 0, 1) := by decide +kernel
theorem dX6_startOf_6 : decode cX6_startOf 6 = .ok (.getfield 22, 3) := by decide +kernel
theorem dX6_startOf_9 : decode cX6_startOf 9 = .ok (.if_icmp .ge 12, 3) := by decide +kernel
theorem dX6_startOf_12 : decode cX6_startOf 12 = .ok (.aload_n 0, 1) := by decide +kernel
theorem dX6_startOf_13 : decode cX6_startOf 13 = .ok (.getfield 15, 3) := by decide +kernel
theorem dX6_startOf_16 : decode cX6_startOf 16 = .ok (.iload_n 1, 1) := by decide +kernel
theorem dX6_startOf_17 : decode cX6_startOf 17 = .ok (.iaload, 1) := by decide +kernel
theorem dX6_startOf_18 : decode cX6_startOf 18 = .ok (.goto 4, 3) := by decide +kernel
theorem dX6_startOf_21 : decode cX6_startOf 21 = .ok (.iconst (-1), 1) := by decide +kernel
theorem dX6_startOf_22 : decode cX6_startOf 22 = .ok (.ireturn, 1) := by decide +kernel
theorem dX7_init_0 : decode cX7_init 0 = .ok (.aload_n 0, 1) := by decide +kernel
theorem dX7_init_1 : decode cX7_init 1 = .ok (.invokespecial 3, 3) := by decide +kernel
theorem dX7_init_4 : decode cX7_init 4 = .ok (.aload_n 0, 1) := by decide +kernel
theorem dX7_init_5 : decode cX7_init 5 = .ok (.bipush 12, 2) := by decide +kernel
theorem dX7_init_7 : decode cX7_init 7 = .ok (.newarray .int, 2) := by decide +kernel
theorem dX7_init_9 : decode cX7_init 9 = .ok (.putfield 9, 3) := by decide +kernel
theorem dX7_init_12 : decode cX7_init 12 = .ok (.aload_n 0, 1) := by decide +kernel
theorem dX7_init_13 : decode cX7_init 13 = .ok (.bipush 12, 2) := by decide +kernel
theorem dX7_init_15 : decode cX7_init 15 = .ok (.newarray .int, 2) := by decide +kernel
theorem dX7_init_17 : decode cX7_init 17 = .ok (.putfield 15, 3) := by decide +kernel
theorem dX7_init_20 : decode cX7_init 20 = .ok (.aload_n 0, 1) := by decide +kernel
theorem dX7_init_21 : decode cX7_init 21 = .ok (.sipush 288, 3) := by decide +kernel
theorem dX7_init_24 : decode cX7_init 24 = .ok (.newarray .int, 2) := by decide +kernel
theorem dX7_init_26 : decode cX7_init 26 = .ok (.putfield 18, 3) := by decide +kernel
theorem dX7_init_29 : decode cX7_init 29 = .ok (.return_, 1) := by decide +kernel
theorem dX7_clear_0 : decode cX7_clear 0 = .ok (.aload_n 0, 1) := by decide +kernel
theorem dX7_clear_1 : decode cX7_clear 1 = .ok (.iconst 0, 1) := by decide +kernel
theorem dX7_clear_2 : decode cX7_clear 2 = .ok (.putfield 21, 3) := by decide +kernel
theorem dX7_clear_5 : decode cX7_clear 5 = .ok (.aload_n 0, 1) := by decide +kernel
theorem dX7_clear_6 : decode cX7_clear 6 = .ok (.iconst 0, 1) := by decide +kernel
theorem dX7_clear_7 : decode cX7_clear 7 = .ok (.putfield 25, 3) := by decide +kernel
theorem dX7_clear_10 : decode cX7_clear 10 = .ok (.return_, 1) := by decide +kernel
theorem dX7_become_0 : decode cX7_become 0 = .ok (.aload_n 0, 1) := by decide +kernel
theorem dX7_become_1 : decode cX7_become 1 = .ok (.aload_n 1, 1) := by decide +kernel
theorem dX7_become_2 : decode cX7_become 2 = .ok (.getfield 21, 3) := by decide +kernel
theorem dX7_become_5 : decode cX7_become 5 = .ok (.putfield 21, 3) := by decide +kernel
theorem dX7_become_8 : decode cX7_become 8 = .ok (.aload_n 0, 1) := by decide +kernel
theorem dX7_become_9 : decode cX7_become 9 = .ok (.aload_n 1, 1) := by decide +kernel
theorem dX7_become_10 : decode cX7_become 10 = .ok (.getfield 25, 3) := by decide +kernel
theorem dX7_become_13 : decode cX7_become 13 = .ok (.putfield 25, 3) := by decide +kernel
theorem dX7_become_16 : decode cX7_become 16 = .ok (.aload_n 1, 1) := by decide +kernel
theorem dX7_become_17 : decode cX7_become 17 = .ok (.getfield 9, 3) := by decide +kernel
theorem dX7_become_20 : decode cX7_become 20 = .ok (.iconst 0, 1) := by decide +kernel
theorem dX7_become_21 : decode cX7_become 21 = .ok (.aload_n 0, 1) := by decide +kernel
theorem dX7_become_22 : decode cX7_become 22 = .ok (.getfield 9, 3) := by decide +kernel
theorem dX7_become_25 : decode cX7_become 25 = .ok (.iconst 0, 1) := by decide +kernel
theorem dX7_become_26 : decode cX7_become 26 = .ok (.bipush 12, 2) := by decide +kernel
theorem dX7_become_28 : decode cX7_become 28 = .ok (.invokestatic 29, 3) := by decide +kernel
theorem dX7_become_31 : decode cX7_become 31 = .ok (.aload_n 1, 1) := by decide +kernel
theorem dX7_become_32 : decode cX7_become 32 = .ok (.getfield 15, 3) := by decide +kernel
theorem dX7_become_35 : decode cX7_become 35 = .ok (.iconst 0, 1) := by decide +kernel
theorem dX7_become_36 : decode cX7_become 36 = .ok (.aload_n 0, 1) := by decide +kernel
theorem dX7_become_37 : decode cX7_become 37 = .ok (.getfield 15, 3) := by decide +kernel
theorem dX7_become_40 : decode cX7_become 40 = .ok (.iconst 0, 1) := by decide +kernel
theorem dX7_become_41 : decode cX7_become 41 = .ok (.bipush 12, 2) := by decide +kernel
theorem dX7_become_43 : decode cX7_become 43 = .ok (.invokestatic 29, 3) := by decide +kernel
theorem dX7_become_46 : decode cX7_become 46 = .ok (.aload_n 1, 1) := by decide +kernel
theorem dX7_become_47 : decode cX7_become 47 = .ok (.getfield 18, 3) := by decide +kernel
theorem dX7_become_50 : decode cX7_become 50 = .ok (.iconst 0, 1) := by decide +kernel
theorem dX7_become_51 : decode cX7_become 51 = .ok (.aload_n 0, 1) := by decide +kernel
theorem dX7_become_52 : decode cX7_become 52 = .ok (.getfield 18, 3) := by decide +kernel
theorem dX7_become_55 : decode cX7_become 55 = .ok (.iconst 0, 1) := by decide +kernel
theorem dX7_become_56 : decode cX7_become 56 = .ok (.sipush 288, 3) := by decide +kernel
theorem dX7_become_59 : decode cX7_become 59 = .ok (.invokestatic 29, 3) := by decide +kernel
theorem dX7_become_62 : decode cX7_become 62 = .ok (.return_, 1) := by decide +kernel
theorem dX7_has_0 : decode cX7_has 0 = .ok (.iload_n 1, 1) := by decide +kernel
theorem dX7_has_1 : decode cX7_has 1 = .ok (.ifCond .lt 15, 3) := by decide +kernel
theorem dX7_has_4 : decode cX7_has 4 = .ok (.iload_n 1, 1) := by decide +kernel
theorem dX7_has_5 : decode cX7_has 5 = .ok (.aload_n 0, 1) := by decide +kernel
theorem dX7_has_6 : decode cX7_has 6 = .ok (.getfield 21, 3) := by decide +kernel
theorem dX7_has_9 : decode cX7_has 9 = .ok (.if_icmp .ge 7, 3) := by decide +kernel
theorem dX7_has_12 : decode cX7_has 12 = .ok (.iconst 1, 1) := by decide +kernel
theorem dX7_has_13 : decode cX7_has 13 = .ok (.goto 4, 3) := by decide +kernel
theorem dX7_has_16 : decode cX7_has 16 = .ok (.iconst 0, 1) := by decide +kernel
theorem dX7_has_17 : decode cX7_has 17 = .ok (.ireturn, 1) := by decide +kernel
theorem dX7_start_0 : decode cX7_start 0 = .ok (.aload_n 0, 1) := by decide +kernel
theorem dX7_start_1 : decode cX7_start 1 = .ok (.getfield 21, 3) := by decide +kernel
theorem dX7_start_4 : decode cX7_start 4 = .ok (.ifCond .lt 62, 3) := by decide +kernel
theorem dX7_start_7 : decode cX7_start 7 = .ok (.aload_n 0, 1) := by decide +kernel
theorem dX7_start_8 : decode cX7_start 8 = .ok (.getfield 21, 3) := by decide +kernel
theorem dX7_start_11 : decode cX7_start 11 = .ok (.bipush 12, 2) := by decide +kernel
theorem dX7_start_13 : decode cX7_start 13 = .ok (.if_icmp .ge 53, 3) := by decide +kernel
theorem dX7_start_16 : decode cX7_start 16 = .ok (.aload_n 0, 1) := by decide +kernel
theorem dX7_start_17 : decode cX7_start 17 = .ok (.getfield 9, 3) := by decide +kernel
theorem dX7_start_20 : decode cX7_start 20 = .ok (.aload_n 0, 1) := by decide +kernel
theorem dX7_start_21 : decode cX7_start 21 = .ok (.getfield 21, 3) := by decide +kernel
theorem dX7_start_24 : decode cX7_start 24 = .ok (.iload_n 1, 1) := by decide +kernel
theorem dX7_start_25 : decode cX7_start 25 = .ok (.iastore, 1) := by decide +kernel
theorem dX7_start_26 : decode cX7_start 26 = .ok (.aload_n 0, 1) := by decide +kernel
theorem dX7_start_27 : decode cX7_start 27 = .ok (.getfield 15, 3) := by decide +kernel
theorem dX7_start_30 : decode cX7_start 30 = .ok (.aload_n 0, 1) := by decide +kernel
theorem dX7_start_31 : decode cX7_start 31 = .ok (.getfield 21, 3) := by decide +kernel
theorem dX7_start_34 : decode cX7_start 34 = .ok (.iload_n 2, 1) := by decide +kernel
theorem dX7_start_35 : decode cX7_start 35 = .ok (.iastore, 1) := by decide +kernel
theorem dX7_start_36 : decode cX7_start 36 = .ok (.iconst 0, 1) := by decide +kernel
theorem dX7_start_37 : decode cX7_start 37 = .ok (.istore_n 3, 1) := by decide +kernel
theorem dX7_start_38 : decode cX7_start 38 = .ok (.iload_n 3, 1) := by decide +kernel
theorem dX7_start_39 : decode cX7_start 39 = .ok (.bipush 24, 2) := by decide +kernel
theorem dX7_start_41 : decode cX7_start 41 = .ok (.if_icmp .ge 25, 3) := by decide +kernel
theorem dX7_start_44 : decode cX7_start 44 = .ok (.aload_n 0, 1) := by decide +kernel
theorem dX7_start_45 : decode cX7_start 45 = .ok (.getfield 18, 3) := by decide +kernel
theorem dX7_start_48 : decode cX7_start 48 = .ok (.aload_n 0, 1) := by decide +kernel
theorem dX7_start_49 : decode cX7_start 49 = .ok (.getfield 21, 3) := by decide +kernel
theorem dX7_start_52 : decode cX7_start 52 = .ok (.bipush 24, 2) := by decide +kernel
theorem dX7_start_54 : decode cX7_start 54 = .ok (.imul, 1) := by decide +kernel
theorem dX7_start_55 : decode cX7_start 55 = .ok (.iload_n 3, 1) := by decide +kernel
theorem dX7_start_56 : decode cX7_start 56 = .ok (.iadd, 1) := by decide +kernel
theorem dX7_start_57 : decode cX7_start 57 = .ok (.bipush (-2), 2) := by decide +kernel
theorem dX7_start_59 : decode cX7_start 59 = .ok (.iastore, 1) := by decide +kernel
theorem dX7_start_60 : decode cX7_start 60 = .ok (.iinc 3 1, 3) := by decide +kernel
theorem dX7_start_63 : decode cX7_start 63 = .ok (.goto (-25), 3) := by decide +kernel
theorem dX7_start_66 : decode cX7_start 66 = .ok (.return_, 1) := by decide +kernel
theorem dX7_lay_0 : decode cX7_lay 0 = .ok (.iconst 0, 1) := by decide +kernel
theorem dX7_lay_1 : decode cX7_lay 1 = .ok (.istore 4, 2) := by decide +kernel
theorem dX7_lay_3 : decode cX7_lay 3 = .ok (.iload 4, 2) := by decide +kernel
theorem dX7_lay_5 : decode cX7_lay 5 = .ok (.bipush 24, 2) := by decide +kernel
theorem dX7_lay_7 : decode cX7_lay 7 = .ok (.if_icmp .ge 38, 3) := by decide +kernel
theorem dX7_lay_10 : decode cX7_lay 10 = .ok (.iload_n 1, 1) := by decide +kernel
theorem dX7_lay_11 : decode cX7_lay 11 = .ok (.invokestatic 35, 3) := by decide +kernel
theorem dX7_lay_14 : decode cX7_lay 14 = .ok (.ifCond .eq 31, 3) := by decide +kernel
theorem dX7_lay_17 : decode cX7_lay 17 = .ok (.iload_n 3, 1) := by decide +kernel
theorem dX7_lay_18 : decode cX7_lay 18 = .ok (.iload 4, 2) := by decide +kernel
theorem dX7_lay_20 : decode cX7_lay 20 = .ok (.ishr, 1) := by decide +kernel
theorem dX7_lay_21 : decode cX7_lay 21 = .ok (.iconst 1, 1) := by decide +kernel
theorem dX7_lay_22 : decode cX7_lay 22 = .ok (.iand, 1) := by decide +kernel
theorem dX7_lay_23 : decode cX7_lay 23 = .ok (.ifCond .eq 16, 3) := by decide +kernel
theorem dX7_lay_26 : decode cX7_lay 26 = .ok (.aload_n 0, 1) := by decide +kernel
theorem dX7_lay_27 : decode cX7_lay 27 = .ok (.getfield 18, 3) := by decide +kernel
theorem dX7_lay_30 : decode cX7_lay 30 = .ok (.iload_n 1, 1) := by decide +kernel
theorem dX7_lay_31 : decode cX7_lay 31 = .ok (.bipush 24, 2) := by decide +kernel
theorem dX7_lay_33 : decode cX7_lay 33 = .ok (.imul, 1) := by decide +kernel
theorem dX7_lay_34 : decode cX7_lay 34 = .ok (.iload 4, 2) := by decide +kernel
theorem dX7_lay_36 : decode cX7_lay 36 = .ok (.iadd, 1) := by decide +kernel
theorem dX7_lay_37 : decode cX7_lay 37 = .ok (.iload_n 2, 1) := by decide +kernel
theorem dX7_lay_38 : decode cX7_lay 38 = .ok (.iastore, 1) := by decide +kernel
theorem dX7_lay_39 : decode cX7_lay 39 = .ok (.iinc 4 1, 3) := by decide +kernel
theorem dX7_lay_42 : decode cX7_lay 42 = .ok (.goto (-39), 3) := by decide +kernel
theorem dX7_lay_45 : decode cX7_lay 45 = .ok (.return_, 1) := by decide +kernel
theorem dX7_handOf_0 : decode cX7_handOf 0 = .ok (.iload_n 1, 1) := by decide +kernel
theorem dX7_handOf_1 : decode cX7_handOf 1 = .ok (.invokestatic 35, 3) := by decide +kernel
theorem dX7_handOf_4 : decode cX7_handOf 4 = .ok (.ifCond .eq 12, 3) := by decide +kernel
theorem dX7_handOf_7 : decode cX7_handOf 7 = .ok (.aload_n 0, 1) := by decide +kernel
theorem dX7_handOf_8 : decode cX7_handOf 8 = .ok (.getfield 9, 3) := by decide +kernel
theorem dX7_handOf_11 : decode cX7_handOf 11 = .ok (.iload_n 1, 1) := by decide +kernel
theorem dX7_handOf_12 : decode cX7_handOf 12 = .ok (.iaload, 1) := by decide +kernel
theorem dX7_handOf_13 : decode cX7_handOf 13 = .ok (.goto 5, 3) := by decide +kernel
theorem dX7_handOf_16 : decode cX7_handOf 16 = .ok (.bipush (-2), 2) := by decide +kernel
theorem dX7_handOf_18 : decode cX7_handOf 18 = .ok (.ireturn, 1) := by decide +kernel
theorem dX7_yearOf_0 : decode cX7_yearOf 0 = .ok (.iload_n 1, 1) := by decide +kernel
theorem dX7_yearOf_1 : decode cX7_yearOf 1 = .ok (.invokestatic 35, 3) := by decide +kernel
theorem dX7_yearOf_4 : decode cX7_yearOf 4 = .ok (.ifCond .eq 12, 3) := by decide +kernel
theorem dX7_yearOf_7 : decode cX7_yearOf 7 = .ok (.aload_n 0, 1) := by decide +kernel
theorem dX7_yearOf_8 : decode cX7_yearOf 8 = .ok (.getfield 15, 3) := by decide +kernel
theorem dX7_yearOf_11 : decode cX7_yearOf 11 = .ok (.iload_n 1, 1) := by decide +kernel
theorem dX7_yearOf_12 : decode cX7_yearOf 12 = .ok (.iaload, 1) := by decide +kernel
theorem dX7_yearOf_13 : decode cX7_yearOf 13 = .ok (.goto 4, 3) := by decide +kernel
theorem dX7_yearOf_16 : decode cX7_yearOf 16 = .ok (.iconst 0, 1) := by decide +kernel
theorem dX7_yearOf_17 : decode cX7_yearOf 17 = .ok (.ireturn, 1) := by decide +kernel
theorem dX7_colourAt_0 : decode cX7_colourAt 0 = .ok (.iload_n 1, 1) := by decide +kernel
theorem dX7_colourAt_1 : decode cX7_colourAt 1 = .ok (.ifCond .lt 23, 3) := by decide +kernel
theorem dX7_colourAt_4 : decode cX7_colourAt 4 = .ok (.iload_n 1, 1) := by decide +kernel
theorem dX7_colourAt_5 : decode cX7_colourAt 5 = .ok (.bipush 12, 2) := by decide +kernel
theorem dX7_colourAt_7 : decode cX7_colourAt 7 = .ok (.if_icmp .ge 17, 3) := by decide +kernel
theorem dX7_colourAt_10 : decode cX7_colourAt 10 = .ok (.iload_n 2, 1) := by decide +kernel
theorem dX7_colourAt_11 : decode cX7_colourAt 11 = .ok (.ifCond .lt 13, 3) := by decide +kernel
theorem dX7_colourAt_14 : decode cX7_colourAt 14 = .ok (.iload_n 2, 1) := by decide +kernel
theorem dX7_colourAt_15 : decode cX7_colourAt 15 = .ok (.bipush 24, 2) := by decide +kernel
theorem dX7_colourAt_17 : decode cX7_colourAt 17 = .ok (.if_icmp .ge 7, 3) := by decide +kernel
theorem dX7_colourAt_20 : decode cX7_colourAt 20 = .ok (.iconst 1, 1) := by decide +kernel
theorem dX7_colourAt_21 : decode cX7_colourAt 21 = .ok (.goto 4, 3) := by decide +kernel
theorem dX7_colourAt_24 : decode cX7_colourAt 24 = .ok (.iconst 0, 1) := by decide +kernel
theorem dX7_colourAt_25 : decode cX7_colourAt 25 = .ok (.istore_n 3, 1) := by decide +kernel
theorem dX7_colourAt_26 : decode cX7_colourAt 26 = .ok (.iload_n 3, 1) := by decide +kernel
theorem dX7_colourAt_27 : decode cX7_colourAt 27 = .ok (.ifCond .eq 17, 3) := by decide +kernel
theorem dX7_colourAt_30 : decode cX7_colourAt 30 = .ok (.aload_n 0, 1) := by decide +kernel
theorem dX7_colourAt_31 : decode cX7_colourAt 31 = .ok (.getfield 18, 3) := by decide +kernel
theorem dX7_colourAt_34 : decode cX7_colourAt 34 = .ok (.iload_n 1, 1) := by decide +kernel
theorem dX7_colourAt_35 : decode cX7_colourAt 35 = .ok (.bipush 24, 2) := by decide +kernel
theorem dX7_colourAt_37 : decode cX7_colourAt 37 = .ok (.imul, 1) := by decide +kernel
theorem dX7_colourAt_38 : decode cX7_colourAt 38 = .ok (.iload_n 2, 1) := by decide +kernel
theorem dX7_colourAt_39 : decode cX7_colourAt 39 = .ok (.iadd, 1) := by decide +kernel
theorem dX7_colourAt_40 : decode cX7_colourAt 40 = .ok (.iaload, 1) := by decide +kernel
theorem dX7_colourAt_41 : decode cX7_colourAt 41 = .ok (.goto 5, 3) := by decide +kernel
theorem dX7_colourAt_44 : decode cX7_colourAt 44 = .ok (.bipush (-2), 2) := by decide +kernel
theorem dX7_colourAt_46 : decode cX7_colourAt 46 = .ok (.ireturn, 1) := by decide +kernel
theorem dX7_isRow_0 : decode cX7_isRow 0 = .ok (.iload_n 0, 1) := by decide +kernel
theorem dX7_isRow_1 : decode cX7_isRow 1 = .ok (.ifCond .lt 13, 3) := by decide +kernel
theorem dX7_isRow_4 : decode cX7_isRow 4 = .ok (.iload_n 0, 1) := by decide +kernel
theorem dX7_isRow_5 : decode cX7_isRow 5 = .ok (.bipush 12, 2) := by decide +kernel
theorem dX7_isRow_7 : decode cX7_isRow 7 = .ok (.if_icmp .ge 7, 3) := by decide +kernel
theorem dX7_isRow_10 : decode cX7_isRow 10 = .ok (.iconst 1, 1) := by decide +kernel
theorem dX7_isRow_11 : decode cX7_isRow 11 = .ok (.goto 4, 3) := by decide +kernel
theorem dX7_isRow_14 : decode cX7_isRow 14 = .ok (.iconst 0, 1) := by decide +kernel
theorem dX7_isRow_15 : decode cX7_isRow 15 = .ok (.ireturn, 1) := by decide +kernel
theorem dX7_latestYear_0 : decode cX7_latestYear 0 = .ok (.aload_n 0, 1) := by decide +kernel
theorem dX7_latestYear_1 : decode cX7_latestYear 1 = .ok (.aload_n 0, 1) := by decide +kernel
theorem dX7_latestYear_2 : decode cX7_latestYear 2 = .ok (.getfield 21, 3) := by decide +kernel
theorem dX7_latestYear_5 : decode cX7_latestYear 5 = .ok (.iconst 1, 1) := by decide +kernel
theorem dX7_latestYear_6 : decode cX7_latestYear 6 = .ok (.isub, 1) := by decide +kernel
theorem dX7_latestYear_7 : decode cX7_latestYear 7 = .ok (.invokevirtual 39, 3) := by decide +kernel
theorem dX7_latestYear_10 : decode cX7_latestYear 10 = .ok (.ireturn, 1) := by decide +kernel
theorem dX7_cellsOf_0 : decode cX7_cellsOf 0 = .ok (.iconst 0, 1) := by decide +kernel
theorem dX7_cellsOf_1 : decode cX7_cellsOf 1 = .ok (.istore_n 2, 1) := by decide +kernel
theorem dX7_cellsOf_2 : decode cX7_cellsOf 2 = .ok (.iconst 0, 1) := by decide +kernel
theorem dX7_cellsOf_3 : decode cX7_cellsOf 3 = .ok (.istore_n 3, 1) := by decide +kernel
theorem dX7_cellsOf_4 : decode cX7_cellsOf 4 = .ok (.iload_n 3, 1) := by decide +kernel
theorem dX7_cellsOf_5 : decode cX7_cellsOf 5 = .ok (.bipush 24, 2) := by decide +kernel
theorem dX7_cellsOf_7 : decode cX7_cellsOf 7 = .ok (.if_icmp .ge 26, 3) := by decide +kernel
theorem dX7_cellsOf_10 : decode cX7_cellsOf 10 = .ok (.aload_n 0, 1) := by decide +kernel
theorem dX7_cellsOf_11 : decode cX7_cellsOf 11 = .ok (.iload_n 1, 1) := by decide +kernel
theorem dX7_cellsOf_12 : decode cX7_cellsOf 12 = .ok (.iload_n 3, 1) := by decide +kernel
theorem dX7_cellsOf_13 : decode cX7_cellsOf 13 = .ok (.invokevirtual 43, 3) := by decide +kernel
theorem dX7_cellsOf_16 : decode cX7_cellsOf 16 = .ok (.bipush (-2), 2) := by decide +kernel
theorem dX7_cellsOf_18 : decode cX7_cellsOf 18 = .ok (.if_icmp .eq 9, 3) := by decide +kernel
theorem dX7_cellsOf_21 : decode cX7_cellsOf 21 = .ok (.iload_n 2, 1) := by decide +kernel
theorem dX7_cellsOf_22 : decode cX7_cellsOf 22 = .ok (.iconst 1, 1) := by decide +kernel
theorem dX7_cellsOf_23 : decode cX7_cellsOf 23 = .ok (.iload_n 3, 1) := by decide +kernel
theorem dX7_cellsOf_24 : decode cX7_cellsOf 24 = .ok (.ishl, 1) := by decide +kernel
theorem dX7_cellsOf_25 : decode cX7_cellsOf 25 = .ok (.ior, 1) := by decide +kernel
theorem dX7_cellsOf_26 : decode cX7_cellsOf 26 = .ok (.istore_n 2, 1) := by decide +kernel
theorem dX7_cellsOf_27 : decode cX7_cellsOf 27 = .ok (.iinc 3 1, 3) := by decide +kernel
theorem dX7_cellsOf_30 : decode cX7_cellsOf 30 = .ok (.goto (-26), 3) := by decide +kernel
theorem dX7_cellsOf_33 : decode cX7_cellsOf 33 = .ok (.iload_n 2, 1) := by decide +kernel
theorem dX7_cellsOf_34 : decode cX7_cellsOf 34 = .ok (.ireturn, 1) := by decide +kernel
theorem dX7_below_0 : decode cX7_below 0 = .ok (.iconst 0, 1) := by decide +kernel
theorem dX7_below_1 : decode cX7_below 1 = .ok (.istore_n 3, 1) := by decide +kernel
theorem dX7_below_2 : decode cX7_below 2 = .ok (.aload_n 0, 1) := by decide +kernel
theorem dX7_below_3 : decode cX7_below 3 = .ok (.getfield 21, 3) := by decide +kernel
theorem dX7_below_6 : decode cX7_below 6 = .ok (.iconst 1, 1) := by decide +kernel
theorem dX7_below_7 : decode cX7_below 7 = .ok (.isub, 1) := by decide +kernel
theorem dX7_below_8 : decode cX7_below 8 = .ok (.istore 4, 2) := by decide +kernel
theorem dX7_below_10 : decode cX7_below 10 = .ok (.iload 4, 2) := by decide +kernel
theorem dX7_below_12 : decode cX7_below 12 = .ok (.ifCond .lt 32, 3) := by decide +kernel
theorem dX7_below_15 : decode cX7_below 15 = .ok (.aload_n 0, 1) := by decide +kernel
theorem dX7_below_16 : decode cX7_below 16 = .ok (.iload 4, 2) := by decide +kernel
theorem dX7_below_18 : decode cX7_below 18 = .ok (.iload_n 1, 1) := by decide +kernel
theorem dX7_below_19 : decode cX7_below 19 = .ok (.invokevirtual 43, 3) := by decide +kernel
theorem dX7_below_22 : decode cX7_below 22 = .ok (.bipush (-2), 2) := by decide +kernel
theorem dX7_below_24 : decode cX7_below 24 = .ok (.if_icmp .eq 14, 3) := by decide +kernel
theorem dX7_below_27 : decode cX7_below 27 = .ok (.iload_n 3, 1) := by decide +kernel
theorem dX7_below_28 : decode cX7_below 28 = .ok (.iload_n 2, 1) := by decide +kernel
theorem dX7_below_29 : decode cX7_below 29 = .ok (.if_icmp .ne 6, 3) := by decide +kernel
theorem dX7_below_32 : decode cX7_below 32 = .ok (.iload 4, 2) := by decide +kernel
theorem dX7_below_34 : decode cX7_below 34 = .ok (.ireturn, 1) := by decide +kernel
theorem dX7_below_35 : decode cX7_below 35 = .ok (.iinc 3 1, 3) := by decide +kernel
theorem dX7_below_38 : decode cX7_below 38 = .ok (.iinc 4 (-1), 3) := by decide +kernel
theorem dX7_below_41 : decode cX7_below 41 = .ok (.goto (-31), 3) := by decide +kernel
theorem dX7_below_44 : decode cX7_below 44 = .ok (.bipush (-2), 2) := by decide +kernel
theorem dX7_below_46 : decode cX7_below 46 = .ok (.ireturn, 1) := by decide +kernel
theorem dX7_layersAt_0 : decode cX7_layersAt 0 = .ok (.iconst 0, 1) := by decide +kernel
theorem dX7_layersAt_1 : decode cX7_layersAt 1 = .ok (.istore_n 2, 1) := by decide +kernel
theorem dX7_layersAt_2 : decode cX7_layersAt 2 = .ok (.iconst 0, 1) := by decide +kernel
theorem dX7_layersAt_3 : decode cX7_layersAt 3 = .ok (.istore_n 3, 1) := by decide +kernel
theorem dX7_layersAt_4 : decode cX7_layersAt 4 = .ok (.iload_n 3, 1) := by decide +kernel
theorem dX7_layersAt_5 : decode cX7_layersAt 5 = .ok (.aload_n 0, 1) := by decide +kernel
theorem dX7_layersAt_6 : decode cX7_layersAt 6 = .ok (.getfield 21, 3) := by decide +kernel
theorem dX7_layersAt_9 : decode cX7_layersAt 9 = .ok (.if_icmp .ge 23, 3) := by decide +kernel
theorem dX7_layersAt_12 : decode cX7_layersAt 12 = .ok (.aload_n 0, 1) := by decide +kernel
theorem dX7_layersAt_13 : decode cX7_layersAt 13 = .ok (.iload_n 3, 1) := by decide +kernel
theorem dX7_layersAt_14 : decode cX7_layersAt 14 = .ok (.iload_n 1, 1) := by decide +kernel
theorem dX7_layersAt_15 : decode cX7_layersAt 15 = .ok (.invokevirtual 43, 3) := by decide +kernel
theorem dX7_layersAt_18 : decode cX7_layersAt 18 = .ok (.bipush (-2), 2) := by decide +kernel
theorem dX7_layersAt_20 : decode cX7_layersAt 20 = .ok (.if_icmp .eq 6, 3) := by decide +kernel
theorem dX7_layersAt_23 : decode cX7_layersAt 23 = .ok (.iinc 2 1, 3) := by decide +kernel
theorem dX7_layersAt_26 : decode cX7_layersAt 26 = .ok (.iinc 3 1, 3) := by decide +kernel
theorem dX7_layersAt_29 : decode cX7_layersAt 29 = .ok (.goto (-25), 3) := by decide +kernel
theorem dX7_layersAt_32 : decode cX7_layersAt 32 = .ok (.iload_n 2, 1) := by decide +kernel
theorem dX7_layersAt_33 : decode cX7_layersAt 33 = .ok (.ireturn, 1) := by decide +kernel
theorem dX7_shownAt_0 : decode cX7_shownAt 0 = .ok (.aload_n 0, 1) := by decide +kernel
theorem dX7_shownAt_1 : decode cX7_shownAt 1 = .ok (.aload_n 0, 1) := by decide +kernel
theorem dX7_shownAt_2 : decode cX7_shownAt 2 = .ok (.iload_n 1, 1) := by decide +kernel
theorem dX7_shownAt_3 : decode cX7_shownAt 3 = .ok (.iconst 0, 1) := by decide +kernel
theorem dX7_shownAt_4 : decode cX7_shownAt 4 = .ok (.invokevirtual 47, 3) := by decide +kernel
theorem dX7_shownAt_7 : decode cX7_shownAt 7 = .ok (.iload_n 1, 1) := by decide +kernel
theorem dX7_shownAt_8 : decode cX7_shownAt 8 = .ok (.invokevirtual 43, 3) := by decide +kernel
theorem dX7_shownAt_11 : decode cX7_shownAt 11 = .ok (.ireturn, 1) := by decide +kernel
theorem dX7_shownHandAt_0 : decode cX7_shownHandAt 0 = .ok (.aload_n 0, 1) := by decide +kernel
theorem dX7_shownHandAt_1 : decode cX7_shownHandAt 1 = .ok (.aload_n 0, 1) := by decide +kernel
theorem dX7_shownHandAt_2 : decode cX7_shownHandAt 2 = .ok (.iload_n 1, 1) := by decide +kernel
theorem dX7_shownHandAt_3 : decode cX7_shownHandAt 3 = .ok (.iconst 0, 1) := by decide +kernel
theorem dX7_shownHandAt_4 : decode cX7_shownHandAt 4 = .ok (.invokevirtual 47, 3) := by decide +kernel
theorem dX7_shownHandAt_7 : decode cX7_shownHandAt 7 = .ok (.invokevirtual 50, 3) := by decide +kernel
theorem dX7_shownHandAt_10 : decode cX7_shownHandAt 10 = .ok (.ireturn, 1) := by decide +kernel
theorem dX7_shownCells_0 : decode cX7_shownCells 0 = .ok (.aload_n 0, 1) := by decide +kernel
theorem dX7_shownCells_1 : decode cX7_shownCells 1 = .ok (.iload_n 1, 1) := by decide +kernel
theorem dX7_shownCells_2 : decode cX7_shownCells 2 = .ok (.invokevirtual 53, 3) := by decide +kernel
theorem dX7_shownCells_5 : decode cX7_shownCells 5 = .ok (.istore_n 2, 1) := by decide +kernel
theorem dX7_shownCells_6 : decode cX7_shownCells 6 = .ok (.iload_n 1, 1) := by decide +kernel
theorem dX7_shownCells_7 : decode cX7_shownCells 7 = .ok (.iconst 1, 1) := by decide +kernel
theorem dX7_shownCells_8 : decode cX7_shownCells 8 = .ok (.iadd, 1) := by decide +kernel
theorem dX7_shownCells_9 : decode cX7_shownCells 9 = .ok (.istore_n 3, 1) := by decide +kernel
theorem dX7_shownCells_10 : decode cX7_shownCells 10 = .ok (.iload_n 3, 1) := by decide +kernel
theorem dX7_shownCells_11 : decode cX7_shownCells 11 = .ok (.aload_n 0, 1) := by decide +kernel
theorem dX7_shownCells_12 : decode cX7_shownCells 12 = .ok (.getfield 21, 3) := by decide +kernel
theorem dX7_shownCells_15 : decode cX7_shownCells 15 = .ok (.if_icmp .ge 19, 3) := by decide +kernel
theorem dX7_shownCells_18 : decode cX7_shownCells 18 = .ok (.iload_n 2, 1) := by decide +kernel
theorem dX7_shownCells_19 : decode cX7_shownCells 19 = .ok (.aload_n 0, 1) := by decide +kernel
theorem dX7_shownCells_20 : decode cX7_shownCells 20 = .ok (.iload_n 3, 1) := by decide +kernel
theorem dX7_shownCells_21 : decode cX7_shownCells 21 = .ok (.invokevirtual 53, 3) := by decide +kernel
theorem dX7_shownCells_24 : decode cX7_shownCells 24 = .ok (.iconst (-1), 1) := by decide +kernel
theorem dX7_shownCells_25 : decode cX7_shownCells 25 = .ok (.ixor, 1) := by decide +kernel
theorem dX7_shownCells_26 : decode cX7_shownCells 26 = .ok (.iand, 1) := by decide +kernel
theorem dX7_shownCells_27 : decode cX7_shownCells 27 = .ok (.istore_n 2, 1) := by decide +kernel
theorem dX7_shownCells_28 : decode cX7_shownCells 28 = .ok (.iinc 3 1, 3) := by decide +kernel
theorem dX7_shownCells_31 : decode cX7_shownCells 31 = .ok (.goto (-21), 3) := by decide +kernel
theorem dX7_shownCells_34 : decode cX7_shownCells 34 = .ok (.iload_n 2, 1) := by decide +kernel
theorem dX7_shownCells_35 : decode cX7_shownCells 35 = .ok (.ireturn, 1) := by decide +kernel
theorem dX7_cellsLaterThan_0 : decode cX7_cellsLaterThan 0 = .ok (.iconst 0, 1) := by decide +kernel
theorem dX7_cellsLaterThan_1 : decode cX7_cellsLaterThan 1 = .ok (.istore_n 2, 1) := by decide +kernel
theorem dX7_cellsLaterThan_2 : decode cX7_cellsLaterThan 2 = .ok (.iconst 0, 1) := by decide +kernel
theorem dX7_cellsLaterThan_3 : decode cX7_cellsLaterThan 3 = .ok (.istore_n 3, 1) := by decide +kernel
theorem dX7_cellsLaterThan_4 : decode cX7_cellsLaterThan 4 = .ok (.iload_n 3, 1) := by decide +kernel
theorem dX7_cellsLaterThan_5 : decode cX7_cellsLaterThan 5 = .ok (.aload_n 0, 1) := by decide +kernel
theorem dX7_cellsLaterThan_6 : decode cX7_cellsLaterThan 6 = .ok (.getfield 21, 3) := by decide +kernel
theorem dX7_cellsLaterThan_9 : decode cX7_cellsLaterThan 9 = .ok (.if_icmp .ge 26, 3) := by decide +kernel
theorem dX7_cellsLaterThan_12 : decode cX7_cellsLaterThan 12 = .ok (.aload_n 0, 1) := by decide +kernel
theorem dX7_cellsLaterThan_13 : decode cX7_cellsLaterThan 13 = .ok (.iload_n 3, 1) := by decide +kernel
theorem dX7_cellsLaterThan_14 : decode cX7_cellsLaterThan 14 = .ok (.invokevirtual 39, 3) := by decide +kernel
theorem dX7_cellsLaterThan_17 : decode cX7_cellsLaterThan 17 = .ok (.iload_n 1, 1) := by decide +kernel
theorem dX7_cellsLaterThan_18 : decode cX7_cellsLaterThan 18 = .ok (.if_icmp .le 11, 3) := by decide +kernel
theorem dX7_cellsLaterThan_21 : decode cX7_cellsLaterThan 21 = .ok (.iload_n 2, 1) := by decide +kernel
theorem dX7_cellsLaterThan_22 : decode cX7_cellsLaterThan 22 = .ok (.aload_n 0, 1) := by decide +kernel
theorem dX7_cellsLaterThan_23 : decode cX7_cellsLaterThan 23 = .ok (.iload_n 3, 1) := by decide +kernel
theorem dX7_cellsLaterThan_24 : decode cX7_cellsLaterThan 24 = .ok (.invokevirtual 53, 3) := by decide +kernel
theorem dX7_cellsLaterThan_27 : decode cX7_cellsLaterThan 27 = .ok (.ior, 1) := by decide +kernel
theorem dX7_cellsLaterThan_28 : decode cX7_cellsLaterThan 28 = .ok (.istore_n 2, 1) := by decide +kernel
theorem dX7_cellsLaterThan_29 : decode cX7_cellsLaterThan 29 = .ok (.iinc 3 1, 3) := by decide +kernel
theorem dX7_cellsLaterThan_32 : decode cX7_cellsLaterThan 32 = .ok (.goto (-28), 3) := by decide +kernel
theorem dX7_cellsLaterThan_35 : decode cX7_cellsLaterThan 35 = .ok (.iload_n 2, 1) := by decide +kernel
theorem dX7_cellsLaterThan_36 : decode cX7_cellsLaterThan 36 = .ok (.ireturn, 1) := by decide +kernel
theorem dX7_stripLaterThan_0 : decode cX7_stripLaterThan 0 = .ok (.iconst 0, 1) := by decide +kernel
theorem dX7_stripLaterThan_1 : decode cX7_stripLaterThan 1 = .ok (.istore_n 2, 1) := by decide +kernel
theorem dX7_stripLaterThan_2 : decode cX7_stripLaterThan 2 = .ok (.iload_n 2, 1) := by decide +kernel
theorem dX7_stripLaterThan_3 : decode cX7_stripLaterThan 3 = .ok (.aload_n 0, 1) := by decide +kernel
theorem dX7_stripLaterThan_4 : decode cX7_stripLaterThan 4 = .ok (.getfield 21, 3) := by decide +kernel
theorem dX7_stripLaterThan_7 : decode cX7_stripLaterThan 7 = .ok (.if_icmp .ge 30, 3) := by decide +kernel
theorem dX7_stripLaterThan_10 : decode cX7_stripLaterThan 10 = .ok (.aload_n 0, 1) := by decide +kernel
theorem dX7_stripLaterThan_11 : decode cX7_stripLaterThan 11 = .ok (.iload_n 2, 1) := by decide +kernel
theorem dX7_stripLaterThan_12 : decode cX7_stripLaterThan 12 = .ok (.invokevirtual 39, 3) := by decide +kernel
theorem dX7_stripLaterThan_15 : decode cX7_stripLaterThan 15 = .ok (.iload_n 1, 1) := by decide +kernel
theorem dX7_stripLaterThan_16 : decode cX7_stripLaterThan 16 = .ok (.if_icmp .le 15, 3) := by decide +kernel
theorem dX7_stripLaterThan_19 : decode cX7_stripLaterThan 19 = .ok (.aload_n 0, 1) := by decide +kernel
theorem dX7_stripLaterThan_20 : decode cX7_stripLaterThan 20 = .ok (.iload_n 2, 1) := by decide +kernel
theorem dX7_stripLaterThan_21 : decode cX7_stripLaterThan 21 = .ok (.bipush (-2), 2) := by decide +kernel
theorem dX7_stripLaterThan_23 : decode cX7_stripLaterThan 23 = .ok (.aload_n 0, 1) := by decide +kernel
theorem dX7_stripLaterThan_24 : decode cX7_stripLaterThan 24 = .ok (.iload_n 2, 1) := by decide +kernel
theorem dX7_stripLaterThan_25 : decode cX7_stripLaterThan 25 = .ok (.invokevirtual 53, 3) := by decide +kernel
theorem dX7_stripLaterThan_28 : decode cX7_stripLaterThan 28 = .ok (.invokevirtual 56, 3) := by decide +kernel
theorem dX7_stripLaterThan_31 : decode cX7_stripLaterThan 31 = .ok (.iinc 2 1, 3) := by decide +kernel
theorem dX7_stripLaterThan_34 : decode cX7_stripLaterThan 34 = .ok (.goto (-32), 3) := by decide +kernel
theorem dX7_stripLaterThan_37 : decode cX7_stripLaterThan 37 = .ok (.return_, 1) := by decide +kernel
theorem dX8_init_0 : decode cX8_init 0 = .ok (.aload_n 0, 1) := by decide +kernel
theorem dX8_init_1 : decode cX8_init 1 = .ok (.invokespecial 1, 3) := by decide +kernel
theorem dX8_init_4 : decode cX8_init 4 = .ok (.aload_n 0, 1) := by decide +kernel
theorem dX8_init_5 : decode cX8_init 5 = .ok (.sipush 900, 3) := by decide +kernel
theorem dX8_init_8 : decode cX8_init 8 = .ok (.newarray .byte, 2) := by decide +kernel
theorem dX8_init_10 : decode cX8_init 10 = .ok (.putfield 9, 3) := by decide +kernel
theorem dX8_init_13 : decode cX8_init 13 = .ok (.aload_n 0, 1) := by decide +kernel
theorem dX8_init_14 : decode cX8_init 14 = .ok (.new 13, 3) := by decide +kernel
theorem dX8_init_17 : decode cX8_init 17 = .ok (.dup, 1) := by decide +kernel
theorem dX8_init_18 : decode cX8_init 18 = .ok (.invokespecial 15, 3) := by decide +kernel
theorem dX8_init_21 : decode cX8_init 21 = .ok (.putfield 16, 3) := by decide +kernel
theorem dX8_init_24 : decode cX8_init 24 = .ok (.aload_n 0, 1) := by decide +kernel
theorem dX8_init_25 : decode cX8_init 25 = .ok (.new 20, 3) := by decide +kernel
theorem dX8_init_28 : decode cX8_init 28 = .ok (.dup, 1) := by decide +kernel
theorem dX8_init_29 : decode cX8_init 29 = .ok (.invokespecial 22, 3) := by decide +kernel
theorem dX8_init_32 : decode cX8_init 32 = .ok (.putfield 23, 3) := by decide +kernel
theorem dX8_init_35 : decode cX8_init 35 = .ok (.aload_n 0, 1) := by decide +kernel
theorem dX8_init_36 : decode cX8_init 36 = .ok (.new 27, 3) := by decide +kernel
theorem dX8_init_39 : decode cX8_init 39 = .ok (.dup, 1) := by decide +kernel
theorem dX8_init_40 : decode cX8_init 40 = .ok (.invokespecial 29, 3) := by decide +kernel
theorem dX8_init_43 : decode cX8_init 43 = .ok (.putfield 30, 3) := by decide +kernel
theorem dX8_init_46 : decode cX8_init 46 = .ok (.aload_n 0, 1) := by decide +kernel
theorem dX8_init_47 : decode cX8_init 47 = .ok (.new 34, 3) := by decide +kernel
theorem dX8_init_50 : decode cX8_init 50 = .ok (.dup, 1) := by decide +kernel
theorem dX8_init_51 : decode cX8_init 51 = .ok (.invokespecial 36, 3) := by decide +kernel
theorem dX8_init_54 : decode cX8_init 54 = .ok (.putfield 37, 3) := by decide +kernel
theorem dX8_init_57 : decode cX8_init 57 = .ok (.aload_n 0, 1) := by decide +kernel
theorem dX8_init_58 : decode cX8_init 58 = .ok (.iconst 3, 1) := by decide +kernel
theorem dX8_init_59 : decode cX8_init 59 = .ok (.anewarray 27, 3) := by decide +kernel
theorem dX8_init_62 : decode cX8_init 62 = .ok (.putfield 41, 3) := by decide +kernel
theorem dX8_init_65 : decode cX8_init 65 = .ok (.aload_n 0, 1) := by decide +kernel
theorem dX8_init_66 : decode cX8_init 66 = .ok (.new 45, 3) := by decide +kernel
theorem dX8_init_69 : decode cX8_init 69 = .ok (.dup, 1) := by decide +kernel
theorem dX8_init_70 : decode cX8_init 70 = .ok (.invokespecial 47, 3) := by decide +kernel
theorem dX8_init_73 : decode cX8_init 73 = .ok (.putfield 48, 3) := by decide +kernel
theorem dX8_init_76 : decode cX8_init 76 = .ok (.aload_n 0, 1) := by decide +kernel
theorem dX8_init_77 : decode cX8_init 77 = .ok (.new 52, 3) := by decide +kernel
theorem dX8_init_80 : decode cX8_init 80 = .ok (.dup, 1) := by decide +kernel
theorem dX8_init_81 : decode cX8_init 81 = .ok (.invokespecial 54, 3) := by decide +kernel
theorem dX8_init_84 : decode cX8_init 84 = .ok (.putfield 55, 3) := by decide +kernel
theorem dX8_init_87 : decode cX8_init 87 = .ok (.iconst 0, 1) := by decide +kernel
theorem dX8_init_88 : decode cX8_init 88 = .ok (.istore_n 1, 1) := by decide +kernel
theorem dX8_init_89 : decode cX8_init 89 = .ok (.iload_n 1, 1) := by decide +kernel
theorem dX8_init_90 : decode cX8_init 90 = .ok (.iconst 3, 1) := by decide +kernel
theorem dX8_init_91 : decode cX8_init 91 = .ok (.if_icmp .ge 22, 3) := by decide +kernel
theorem dX8_init_94 : decode cX8_init 94 = .ok (.aload_n 0, 1) := by decide +kernel
theorem dX8_init_95 : decode cX8_init 95 = .ok (.getfield 41, 3) := by decide +kernel
theorem dX8_init_98 : decode cX8_init 98 = .ok (.iload_n 1, 1) := by decide +kernel
theorem dX8_init_99 : decode cX8_init 99 = .ok (.new 27, 3) := by decide +kernel
theorem dX8_init_102 : decode cX8_init 102 = .ok (.dup, 1) := by decide +kernel
theorem dX8_init_103 : decode cX8_init 103 = .ok (.invokespecial 29, 3) := by decide +kernel
theorem dX8_init_106 : decode cX8_init 106 = .ok (.aastore, 1) := by decide +kernel
theorem dX8_init_107 : decode cX8_init 107 = .ok (.iinc 1 1, 3) := by decide +kernel
theorem dX8_init_110 : decode cX8_init 110 = .ok (.goto (-21), 3) := by decide +kernel
theorem dX8_init_113 : decode cX8_init 113 = .ok (.return_, 1) := by decide +kernel
theorem dX8_feed_0 : decode cX8_feed 0 = .ok (.aload_n 0, 1) := by decide +kernel
theorem dX8_feed_1 : decode cX8_feed 1 = .ok (.getfield 59, 3) := by decide +kernel
theorem dX8_feed_4 : decode cX8_feed 4 = .ok (.sipush 880, 3) := by decide +kernel
theorem dX8_feed_7 : decode cX8_feed 7 = .ok (.if_icmp .le 5, 3) := by decide +kernel
theorem dX8_feed_10 : decode cX8_feed 10 = .ok (.iconst (-1), 1) := by decide +kernel
theorem dX8_feed_11 : decode cX8_feed 11 = .ok (.ireturn, 1) := by decide +kernel
theorem dX8_feed_12 : decode cX8_feed 12 = .ok (.aload_n 0, 1) := by decide +kernel
theorem dX8_feed_13 : decode cX8_feed 13 = .ok (.iload_n 1, 1) := by decide +kernel
theorem dX8_feed_14 : decode cX8_feed 14 = .ok (.invokevirtual 63, 3) := by decide +kernel
theorem dX8_feed_17 : decode cX8_feed 17 = .ok (.aload_n 0, 1) := by decide +kernel
theorem dX8_feed_18 : decode cX8_feed 18 = .ok (.iload_n 2, 1) := by decide +kernel
theorem dX8_feed_19 : decode cX8_feed 19 = .ok (.invokevirtual 63, 3) := by decide +kernel
theorem dX8_feed_22 : decode cX8_feed 22 = .ok (.aload_n 0, 1) := by decide +kernel
theorem dX8_feed_23 : decode cX8_feed 23 = .ok (.iload_n 3, 1) := by decide +kernel
theorem dX8_feed_24 : decode cX8_feed 24 = .ok (.invokevirtual 63, 3) := by decide +kernel
theorem dX8_feed_27 : decode cX8_feed 27 = .ok (.aload_n 0, 1) := by decide +kernel
theorem dX8_feed_28 : decode cX8_feed 28 = .ok (.iload 4, 2) := by decide +kernel
theorem dX8_feed_30 : decode cX8_feed 30 = .ok (.invokevirtual 63, 3) := by decide +kernel
theorem dX8_feed_33 : decode cX8_feed 33 = .ok (.aload_n 0, 1) := by decide +kernel
theorem dX8_feed_34 : decode cX8_feed 34 = .ok (.iload 5, 2) := by decide +kernel
theorem dX8_feed_36 : decode cX8_feed 36 = .ok (.invokevirtual 63, 3) := by decide +kernel
theorem dX8_feed_39 : decode cX8_feed 39 = .ok (.aload_n 0, 1) := by decide +kernel
theorem dX8_feed_40 : decode cX8_feed 40 = .ok (.getfield 59, 3) := by decide +kernel
theorem dX8_feed_43 : decode cX8_feed 43 = .ok (.ireturn, 1) := by decide +kernel
theorem dX8_book_0 : decode cX8_book 0 = .ok (.iload_n 1, 1) := by decide +kernel
theorem dX8_book_1 : decode cX8_book 1 = .ok (.ifCond .lt 11, 3) := by decide +kernel
theorem dX8_book_4 : decode cX8_book 4 = .ok (.iload_n 1, 1) := by decide +kernel
theorem dX8_book_5 : decode cX8_book 5 = .ok (.aload_n 0, 1) := by decide +kernel
theorem dX8_book_6 : decode cX8_book 6 = .ok (.getfield 59, 3) := by decide +kernel
theorem dX8_book_9 : decode cX8_book 9 = .ok (.if_icmp .le 9, 3) := by decide +kernel
theorem dX8_book_12 : decode cX8_book 12 = .ok (.aload_n 0, 1) := by decide +kernel
theorem dX8_book_13 : decode cX8_book 13 = .ok (.iconst 2, 1) := by decide +kernel
theorem dX8_book_14 : decode cX8_book 14 = .ok (.invokevirtual 67, 3) := by decide +kernel
theorem dX8_book_17 : decode cX8_book 17 = .ok (.ireturn, 1) := by decide +kernel
theorem dX8_book_18 : decode cX8_book 18 = .ok (.aload_n 0, 1) := by decide +kernel
theorem dX8_book_19 : decode cX8_book 19 = .ok (.iconst 0, 1) := by decide +kernel
theorem dX8_book_20 : decode cX8_book 20 = .ok (.putfield 59, 3) := by decide +kernel
theorem dX8_book_23 : decode cX8_book 23 = .ok (.aload_n 0, 1) := by decide +kernel
theorem dX8_book_24 : decode cX8_book 24 = .ok (.getfield 16, 3) := by decide +kernel
theorem dX8_book_27 : decode cX8_book 27 = .ok (.aload_n 0, 1) := by decide +kernel
theorem dX8_book_28 : decode cX8_book 28 = .ok (.getfield 9, 3) := by decide +kernel
theorem dX8_book_31 : decode cX8_book 31 = .ok (.iload_n 1, 1) := by decide +kernel
theorem dX8_book_32 : decode cX8_book 32 = .ok (.invokevirtual 71, 3) := by decide +kernel
theorem dX8_book_35 : decode cX8_book 35 = .ok (.aload_n 0, 1) := by decide +kernel
theorem dX8_book_36 : decode cX8_book 36 = .ok (.getfield 16, 3) := by decide +kernel
theorem dX8_book_39 : decode cX8_book 39 = .ok (.getfield 75, 3) := by decide +kernel
theorem dX8_book_42 : decode cX8_book 42 = .ok (.ifCond .eq 9, 3) := by decide +kernel
theorem dX8_book_45 : decode cX8_book 45 = .ok (.aload_n 0, 1) := by decide +kernel
theorem dX8_book_46 : decode cX8_book 46 = .ok (.iconst 4, 1) := by decide +kernel
theorem dX8_book_47 : decode cX8_book 47 = .ok (.invokevirtual 67, 3) := by decide +kernel
theorem dX8_book_50 : decode cX8_book 50 = .ok (.ireturn, 1) := by decide +kernel
theorem dX8_book_51 : decode cX8_book 51 = .ok (.aload_n 0, 1) := by decide +kernel
theorem dX8_book_52 : decode cX8_book 52 = .ok (.invokevirtual 78, 3) := by decide +kernel
theorem dX8_book_55 : decode cX8_book 55 = .ok (.aload_n 0, 1) := by decide +kernel
theorem dX8_book_56 : decode cX8_book 56 = .ok (.aload_n 0, 1) := by decide +kernel
theorem dX8_book_57 : decode cX8_book 57 = .ok (.getfield 30, 3) := by decide +kernel
theorem dX8_book_60 : decode cX8_book 60 = .ok (.getfield 81, 3) := by decide +kernel
theorem dX8_book_63 : decode cX8_book 63 = .ok (.invokevirtual 84, 3) := by decide +kernel
theorem dX8_book_66 : decode cX8_book 66 = .ok (.ireturn, 1) := by decide +kernel
theorem dX8_fault_0 : decode cX8_fault 0 = .ok (.aload_n 0, 1) := by decide +kernel
theorem dX8_fault_1 : decode cX8_fault 1 = .ok (.getfield 16, 3) := by decide +kernel
theorem dX8_fault_4 : decode cX8_fault 4 = .ok (.getfield 75, 3) := by decide +kernel
theorem dX8_fault_7 : decode cX8_fault 7 = .ok (.ireturn, 1) := by decide +kernel
theorem dX8_where_0 : decode cX8_where 0 = .ok (.aload_n 0, 1) := by decide +kernel
theorem dX8_where_1 : decode cX8_where 1 = .ok (.getfield 87, 3) := by decide +kernel
theorem dX8_where_4 : decode cX8_where 4 = .ok (.iconst 4, 1) := by decide +kernel
theorem dX8_where_5 : decode cX8_where 5 = .ok (.if_icmp .ne 13, 3) := by decide +kernel
theorem dX8_where_8 : decode cX8_where 8 = .ok (.aload_n 0, 1) := by decide +kernel
theorem dX8_where_9 : decode cX8_where 9 = .ok (.getfield 16, 3) := by decide +kernel
theorem dX8_where_12 : decode cX8_where 12 = .ok (.getfield 90, 3) := by decide +kernel
theorem dX8_where_15 : decode cX8_where 15 = .ok (.goto 4, 3) := by decide +kernel
theorem dX8_where_18 : decode cX8_where 18 = .ok (.iconst (-1), 1) := by decide +kernel
theorem dX8_where_19 : decode cX8_where 19 = .ok (.ireturn, 1) := by decide +kernel
theorem dX8_shows_0 : decode cX8_shows 0 = .ok (.aload_n 0, 1) := by decide +kernel
theorem dX8_shows_1 : decode cX8_shows 1 = .ok (.getfield 23, 3) := by decide +kernel
theorem dX8_shows_4 : decode cX8_shows 4 = .ok (.iload_n 1, 1) := by decide +kernel
theorem dX8_shows_5 : decode cX8_shows 5 = .ok (.iload_n 2, 1) := by decide +kernel
theorem dX8_shows_6 : decode cX8_shows 6 = .ok (.invokevirtual 93, 3) := by decide +kernel
theorem dX8_shows_9 : decode cX8_shows 9 = .ok (.ifCond .ne 9, 3) := by decide +kernel
theorem dX8_shows_12 : decode cX8_shows 12 = .ok (.aload_n 0, 1) := by decide +kernel
theorem dX8_shows_13 : decode cX8_shows 13 = .ok (.iconst 1, 1) := by decide +kernel
theorem dX8_shows_14 : decode cX8_shows 14 = .ok (.invokevirtual 67, 3) := by decide +kernel
theorem dX8_shows_17 : decode cX8_shows 17 = .ok (.ireturn, 1) := by decide +kernel
theorem dX8_shows_18 : decode cX8_shows 18 = .ok (.aload_n 0, 1) := by decide +kernel
theorem dX8_shows_19 : decode cX8_shows 19 = .ok (.aload_n 0, 1) := by decide +kernel
theorem dX8_shows_20 : decode cX8_shows 20 = .ok (.getfield 30, 3) := by decide +kernel
theorem dX8_shows_23 : decode cX8_shows 23 = .ok (.aload_n 0, 1) := by decide +kernel
theorem dX8_shows_24 : decode cX8_shows 24 = .ok (.getfield 23, 3) := by decide +kernel
theorem dX8_shows_27 : decode cX8_shows 27 = .ok (.iload_n 1, 1) := by decide +kernel
theorem dX8_shows_28 : decode cX8_shows 28 = .ok (.iload_n 2, 1) := by decide +kernel
theorem dX8_shows_29 : decode cX8_shows 29 = .ok (.invokevirtual 97, 3) := by decide +kernel
theorem dX8_shows_32 : decode cX8_shows 32 = .ok (.invokevirtual 101, 3) := by decide +kernel
theorem dX8_shows_35 : decode cX8_shows 35 = .ok (.invokevirtual 84, 3) := by decide +kernel
theorem dX8_shows_38 : decode cX8_shows 38 = .ok (.ireturn, 1) := by decide +kernel
theorem dX8_whose_0 : decode cX8_whose 0 = .ok (.aload_n 0, 1) := by decide +kernel
theorem dX8_whose_1 : decode cX8_whose 1 = .ok (.getfield 23, 3) := by decide +kernel
theorem dX8_whose_4 : decode cX8_whose 4 = .ok (.iload_n 1, 1) := by decide +kernel
theorem dX8_whose_5 : decode cX8_whose 5 = .ok (.iload_n 2, 1) := by decide +kernel
theorem dX8_whose_6 : decode cX8_whose 6 = .ok (.invokevirtual 93, 3) := by decide +kernel
theorem dX8_whose_9 : decode cX8_whose 9 = .ok (.ifCond .ne 9, 3) := by decide +kernel
theorem dX8_whose_12 : decode cX8_whose 12 = .ok (.aload_n 0, 1) := by decide +kernel
theorem dX8_whose_13 : decode cX8_whose 13 = .ok (.iconst 1, 1) := by decide +kernel
theorem dX8_whose_14 : decode cX8_whose 14 = .ok (.invokevirtual 67, 3) := by decide +kernel
theorem dX8_whose_17 : decode cX8_whose 17 = .ok (.ireturn, 1) := by decide +kernel
theorem dX8_whose_18 : decode cX8_whose 18 = .ok (.aload_n 0, 1) := by decide +kernel
theorem dX8_whose_19 : decode cX8_whose 19 = .ok (.aload_n 0, 1) := by decide +kernel
theorem dX8_whose_20 : decode cX8_whose 20 = .ok (.getfield 30, 3) := by decide +kernel
theorem dX8_whose_23 : decode cX8_whose 23 = .ok (.aload_n 0, 1) := by decide +kernel
theorem dX8_whose_24 : decode cX8_whose 24 = .ok (.getfield 23, 3) := by decide +kernel
theorem dX8_whose_27 : decode cX8_whose 27 = .ok (.iload_n 1, 1) := by decide +kernel
theorem dX8_whose_28 : decode cX8_whose 28 = .ok (.iload_n 2, 1) := by decide +kernel
theorem dX8_whose_29 : decode cX8_whose 29 = .ok (.invokevirtual 97, 3) := by decide +kernel
theorem dX8_whose_32 : decode cX8_whose 32 = .ok (.invokevirtual 104, 3) := by decide +kernel
theorem dX8_whose_35 : decode cX8_whose 35 = .ok (.invokevirtual 84, 3) := by decide +kernel
theorem dX8_whose_38 : decode cX8_whose 38 = .ok (.ireturn, 1) := by decide +kernel
theorem dX8_was_0 : decode cX8_was 0 = .ok (.aload_n 0, 1) := by decide +kernel
theorem dX8_was_1 : decode cX8_was 1 = .ok (.getfield 23, 3) := by decide +kernel
theorem dX8_was_4 : decode cX8_was 4 = .ok (.iload_n 1, 1) := by decide +kernel
theorem dX8_was_5 : decode cX8_was 5 = .ok (.iload_n 2, 1) := by decide +kernel
theorem dX8_was_6 : decode cX8_was 6 = .ok (.invokevirtual 93, 3) := by decide +kernel
theorem dX8_was_9 : decode cX8_was 9 = .ok (.ifCond .ne 9, 3) := by decide +kernel
theorem dX8_was_12 : decode cX8_was 12 = .ok (.aload_n 0, 1) := by decide +kernel
theorem dX8_was_13 : decode cX8_was 13 = .ok (.iconst 1, 1) := by decide +kernel
theorem dX8_was_14 : decode cX8_was 14 = .ok (.invokevirtual 67, 3) := by decide +kernel
theorem dX8_was_17 : decode cX8_was 17 = .ok (.ireturn, 1) := by decide +kernel
theorem dX8_was_18 : decode cX8_was 18 = .ok (.iload_n 3, 1) := by decide +kernel
theorem dX8_was_19 : decode cX8_was 19 = .ok (.invokestatic 107, 3) := by decide +kernel
theorem dX8_was_22 : decode cX8_was 22 = .ok (.ifCond .ne 9, 3) := by decide +kernel
theorem dX8_was_25 : decode cX8_was 25 = .ok (.aload_n 0, 1) := by decide +kernel
theorem dX8_was_26 : decode cX8_was 26 = .ok (.iconst 2, 1) := by decide +kernel
theorem dX8_was_27 : decode cX8_was 27 = .ok (.invokevirtual 67, 3) := by decide +kernel
theorem dX8_was_30 : decode cX8_was 30 = .ok (.ireturn, 1) := by decide +kernel
theorem dX8_was_31 : decode cX8_was 31 = .ok (.aload_n 0, 1) := by decide +kernel
theorem dX8_was_32 : decode cX8_was 32 = .ok (.aload_n 0, 1) := by decide +kernel
theorem dX8_was_33 : decode cX8_was 33 = .ok (.aload_n 0, 1) := by decide +kernel
theorem dX8_was_34 : decode cX8_was 34 = .ok (.getfield 23, 3) := by decide +kernel
theorem dX8_was_37 : decode cX8_was 37 = .ok (.iload_n 1, 1) := by decide +kernel
theorem dX8_was_38 : decode cX8_was 38 = .ok (.iload_n 2, 1) := by decide +kernel
theorem dX8_was_39 : decode cX8_was 39 = .ok (.invokevirtual 97, 3) := by decide +kernel
theorem dX8_was_42 : decode cX8_was 42 = .ok (.iload_n 3, 1) := by decide +kernel
theorem dX8_was_43 : decode cX8_was 43 = .ok (.invokevirtual 111, 3) := by decide +kernel
theorem dX8_was_46 : decode cX8_was 46 = .ok (.invokevirtual 84, 3) := by decide +kernel
theorem dX8_was_49 : decode cX8_was 49 = .ok (.ireturn, 1) := by decide +kernel
theorem dX8_scraped_0 : decode cX8_scraped 0 = .ok (.aload_n 0, 1) := by decide +kernel
theorem dX8_scraped_1 : decode cX8_scraped 1 = .ok (.getfield 23, 3) := by decide +kernel
theorem dX8_scraped_4 : decode cX8_scraped 4 = .ok (.iload_n 1, 1) := by decide +kernel
theorem dX8_scraped_5 : decode cX8_scraped 5 = .ok (.iload_n 2, 1) := by decide +kernel
theorem dX8_scraped_6 : decode cX8_scraped 6 = .ok (.invokevirtual 93, 3) := by decide +kernel
theorem dX8_scraped_9 : decode cX8_scraped 9 = .ok (.ifCond .ne 9, 3) := by decide +kernel
theorem dX8_scraped_12 : decode cX8_scraped 12 = .ok (.aload_n 0, 1) := by decide +kernel
theorem dX8_scraped_13 : decode cX8_scraped 13 = .ok (.iconst 1, 1) := by decide +kernel
theorem dX8_scraped_14 : decode cX8_scraped 14 = .ok (.invokevirtual 67, 3) := by decide +kernel
theorem dX8_scraped_17 : decode cX8_scraped 17 = .ok (.ireturn, 1) := by decide +kernel
theorem dX8_scraped_18 : decode cX8_scraped 18 = .ok (.iload_n 3, 1) := by decide +kernel
theorem dX8_scraped_19 : decode cX8_scraped 19 = .ok (.ifCond .ge 9, 3) := by decide +kernel
theorem dX8_scraped_22 : decode cX8_scraped 22 = .ok (.aload_n 0, 1) := by decide +kernel
theorem dX8_scraped_23 : decode cX8_scraped 23 = .ok (.iconst 2, 1) := by decide +kernel
theorem dX8_scraped_24 : decode cX8_scraped 24 = .ok (.invokevirtual 67, 3) := by decide +kernel
theorem dX8_scraped_27 : decode cX8_scraped 27 = .ok (.ireturn, 1) := by decide +kernel
theorem dX8_scraped_28 : decode cX8_scraped 28 = .ok (.aload_n 0, 1) := by decide +kernel
theorem dX8_scraped_29 : decode cX8_scraped 29 = .ok (.aload_n 0, 1) := by decide +kernel
theorem dX8_scraped_30 : decode cX8_scraped 30 = .ok (.getfield 30, 3) := by decide +kernel
theorem dX8_scraped_33 : decode cX8_scraped 33 = .ok (.aload_n 0, 1) := by decide +kernel
theorem dX8_scraped_34 : decode cX8_scraped 34 = .ok (.getfield 23, 3) := by decide +kernel
theorem dX8_scraped_37 : decode cX8_scraped 37 = .ok (.iload_n 1, 1) := by decide +kernel
theorem dX8_scraped_38 : decode cX8_scraped 38 = .ok (.iload_n 2, 1) := by decide +kernel
theorem dX8_scraped_39 : decode cX8_scraped 39 = .ok (.invokevirtual 97, 3) := by decide +kernel
theorem dX8_scraped_42 : decode cX8_scraped 42 = .ok (.iload_n 3, 1) := by decide +kernel
theorem dX8_scraped_43 : decode cX8_scraped 43 = .ok (.invokevirtual 114, 3) := by decide +kernel
theorem dX8_scraped_46 : decode cX8_scraped 46 = .ok (.invokevirtual 84, 3) := by decide +kernel
theorem dX8_scraped_49 : decode cX8_scraped 49 = .ok (.ireturn, 1) := by decide +kernel
theorem dX8_deep_0 : decode cX8_deep 0 = .ok (.aload_n 0, 1) := by decide +kernel
theorem dX8_deep_1 : decode cX8_deep 1 = .ok (.getfield 23, 3) := by decide +kernel
theorem dX8_deep_4 : decode cX8_deep 4 = .ok (.iload_n 1, 1) := by decide +kernel
theorem dX8_deep_5 : decode cX8_deep 5 = .ok (.iload_n 2, 1) := by decide +kernel
theorem dX8_deep_6 : decode cX8_deep 6 = .ok (.invokevirtual 93, 3) := by decide +kernel
theorem dX8_deep_9 : decode cX8_deep 9 = .ok (.ifCond .ne 9, 3) := by decide +kernel
theorem dX8_deep_12 : decode cX8_deep 12 = .ok (.aload_n 0, 1) := by decide +kernel
theorem dX8_deep_13 : decode cX8_deep 13 = .ok (.iconst 1, 1) := by decide +kernel
theorem dX8_deep_14 : decode cX8_deep 14 = .ok (.invokevirtual 67, 3) := by decide +kernel
theorem dX8_deep_17 : decode cX8_deep 17 = .ok (.ireturn, 1) := by decide +kernel
theorem dX8_deep_18 : decode cX8_deep 18 = .ok (.aload_n 0, 1) := by decide +kernel
theorem dX8_deep_19 : decode cX8_deep 19 = .ok (.aload_n 0, 1) := by decide +kernel
theorem dX8_deep_20 : decode cX8_deep 20 = .ok (.getfield 30, 3) := by decide +kernel
theorem dX8_deep_23 : decode cX8_deep 23 = .ok (.aload_n 0, 1) := by decide +kernel
theorem dX8_deep_24 : decode cX8_deep 24 = .ok (.getfield 23, 3) := by decide +kernel
theorem dX8_deep_27 : decode cX8_deep 27 = .ok (.iload_n 1, 1) := by decide +kernel
theorem dX8_deep_28 : decode cX8_deep 28 = .ok (.iload_n 2, 1) := by decide +kernel
theorem dX8_deep_29 : decode cX8_deep 29 = .ok (.invokevirtual 97, 3) := by decide +kernel
theorem dX8_deep_32 : decode cX8_deep 32 = .ok (.invokevirtual 117, 3) := by decide +kernel
theorem dX8_deep_35 : decode cX8_deep 35 = .ok (.invokevirtual 84, 3) := by decide +kernel
theorem dX8_deep_38 : decode cX8_deep 38 = .ok (.ireturn, 1) := by decide +kernel
theorem dX8_relief_0 : decode cX8_relief 0 = .ok (.aload_n 0, 1) := by decide +kernel
theorem dX8_relief_1 : decode cX8_relief 1 = .ok (.getfield 23, 3) := by decide +kernel
theorem dX8_relief_4 : decode cX8_relief 4 = .ok (.iload_n 1, 1) := by decide +kernel
theorem dX8_relief_5 : decode cX8_relief 5 = .ok (.iload_n 2, 1) := by decide +kernel
theorem dX8_relief_6 : decode cX8_relief 6 = .ok (.invokevirtual 93, 3) := by decide +kernel
theorem dX8_relief_9 : decode cX8_relief 9 = .ok (.ifCond .ne 9, 3) := by decide +kernel
theorem dX8_relief_12 : decode cX8_relief 12 = .ok (.aload_n 0, 1) := by decide +kernel
theorem dX8_relief_13 : decode cX8_relief 13 = .ok (.iconst 1, 1) := by decide +kernel
theorem dX8_relief_14 : decode cX8_relief 14 = .ok (.invokevirtual 67, 3) := by decide +kernel
theorem dX8_relief_17 : decode cX8_relief 17 = .ok (.ireturn, 1) := by decide +kernel
theorem dX8_relief_18 : decode cX8_relief 18 = .ok (.aload_n 0, 1) := by decide +kernel
theorem dX8_relief_19 : decode cX8_relief 19 = .ok (.aload_n 0, 1) := by decide +kernel
theorem dX8_relief_20 : decode cX8_relief 20 = .ok (.iload_n 1, 1) := by decide +kernel
theorem dX8_relief_21 : decode cX8_relief 21 = .ok (.iload_n 2, 1) := by decide +kernel
theorem dX8_relief_22 : decode cX8_relief 22 = .ok (.invokevirtual 120, 3) := by decide +kernel
theorem dX8_relief_25 : decode cX8_relief 25 = .ok (.invokevirtual 84, 3) := by decide +kernel
theorem dX8_relief_28 : decode cX8_relief 28 = .ok (.ireturn, 1) := by decide +kernel
theorem dX8_light_0 : decode cX8_light 0 = .ok (.aload_n 0, 1) := by decide +kernel
theorem dX8_light_1 : decode cX8_light 1 = .ok (.getfield 23, 3) := by decide +kernel
theorem dX8_light_4 : decode cX8_light 4 = .ok (.iload_n 1, 1) := by decide +kernel
theorem dX8_light_5 : decode cX8_light 5 = .ok (.iload_n 2, 1) := by decide +kernel
theorem dX8_light_6 : decode cX8_light 6 = .ok (.invokevirtual 93, 3) := by decide +kernel
theorem dX8_light_9 : decode cX8_light 9 = .ok (.ifCond .ne 9, 3) := by decide +kernel
theorem dX8_light_12 : decode cX8_light 12 = .ok (.aload_n 0, 1) := by decide +kernel
theorem dX8_light_13 : decode cX8_light 13 = .ok (.iconst 1, 1) := by decide +kernel
theorem dX8_light_14 : decode cX8_light 14 = .ok (.invokevirtual 67, 3) := by decide +kernel
theorem dX8_light_17 : decode cX8_light 17 = .ok (.ireturn, 1) := by decide +kernel
theorem dX8_light_18 : decode cX8_light 18 = .ok (.aload_n 0, 1) := by decide +kernel
theorem dX8_light_19 : decode cX8_light 19 = .ok (.aload_n 0, 1) := by decide +kernel
theorem dX8_light_20 : decode cX8_light 20 = .ok (.iload_n 1, 1) := by decide +kernel
theorem dX8_light_21 : decode cX8_light 21 = .ok (.iload_n 2, 1) := by decide +kernel
theorem dX8_light_22 : decode cX8_light 22 = .ok (.invokevirtual 120, 3) := by decide +kernel
theorem dX8_light_25 : decode cX8_light 25 = .ok (.aload_n 0, 1) := by decide +kernel
theorem dX8_light_26 : decode cX8_light 26 = .ok (.iload_n 1, 1) := by decide +kernel
theorem dX8_light_27 : decode cX8_light 27 = .ok (.iconst 1, 1) := by decide +kernel
theorem dX8_light_28 : decode cX8_light 28 = .ok (.isub, 1) := by decide +kernel
theorem dX8_light_29 : decode cX8_light 29 = .ok (.iload_n 2, 1) := by decide +kernel
theorem dX8_light_30 : decode cX8_light 30 = .ok (.invokevirtual 120, 3) := by decide +kernel
theorem dX8_light_33 : decode cX8_light 33 = .ok (.if_icmp .le 7, 3) := by decide +kernel
theorem dX8_light_36 : decode cX8_light 36 = .ok (.iconst 1, 1) := by decide +kernel
theorem dX8_light_37 : decode cX8_light 37 = .ok (.goto 4, 3) := by decide +kernel
theorem dX8_light_40 : decode cX8_light 40 = .ok (.iconst 0, 1) := by decide +kernel
theorem dX8_light_41 : decode cX8_light 41 = .ok (.invokevirtual 84, 3) := by decide +kernel
theorem dX8_light_44 : decode cX8_light 44 = .ok (.ireturn, 1) := by decide +kernel
theorem dX8_area_0 : decode cX8_area 0 = .ok (.aload_n 0, 1) := by decide +kernel
theorem dX8_area_1 : decode cX8_area 1 = .ok (.getfield 23, 3) := by decide +kernel
theorem dX8_area_4 : decode cX8_area 4 = .ok (.iload_n 1, 1) := by decide +kernel
theorem dX8_area_5 : decode cX8_area 5 = .ok (.invokevirtual 123, 3) := by decide +kernel
theorem dX8_area_8 : decode cX8_area 8 = .ok (.ifCond .ne 9, 3) := by decide +kernel
theorem dX8_area_11 : decode cX8_area 11 = .ok (.aload_n 0, 1) := by decide +kernel
theorem dX8_area_12 : decode cX8_area 12 = .ok (.iconst 1, 1) := by decide +kernel
theorem dX8_area_13 : decode cX8_area 13 = .ok (.invokevirtual 67, 3) := by decide +kernel
theorem dX8_area_16 : decode cX8_area 16 = .ok (.ireturn, 1) := by decide +kernel
theorem dX8_area_17 : decode cX8_area 17 = .ok (.iconst 0, 1) := by decide +kernel
theorem dX8_area_18 : decode cX8_area 18 = .ok (.istore_n 2, 1) := by decide +kernel
theorem dX8_area_19 : decode cX8_area 19 = .ok (.iconst 0, 1) := by decide +kernel
theorem dX8_area_20 : decode cX8_area 20 = .ok (.istore_n 3, 1) := by decide +kernel
theorem dX8_area_21 : decode cX8_area 21 = .ok (.iload_n 3, 1) := by decide +kernel
theorem dX8_area_22 : decode cX8_area 22 = .ok (.aload_n 0, 1) := by decide +kernel
theorem dX8_area_23 : decode cX8_area 23 = .ok (.getfield 23, 3) := by decide +kernel
theorem dX8_area_26 : decode cX8_area 26 = .ok (.invokevirtual 126, 3) := by decide +kernel
theorem dX8_area_29 : decode cX8_area 29 = .ok (.if_icmp .ge 24, 3) := by decide +kernel
theorem dX8_area_32 : decode cX8_area 32 = .ok (.aload_n 0, 1) := by decide +kernel
theorem dX8_area_33 : decode cX8_area 33 = .ok (.getfield 30, 3) := by decide +kernel
theorem dX8_area_36 : decode cX8_area 36 = .ok (.iload_n 3, 1) := by decide +kernel
theorem dX8_area_37 : decode cX8_area 37 = .ok (.invokevirtual 101, 3) := by decide +kernel
theorem dX8_area_40 : decode cX8_area 40 = .ok (.iload_n 1, 1) := by decide +kernel
theorem dX8_area_41 : decode cX8_area 41 = .ok (.if_icmp .ne 6, 3) := by decide +kernel
theorem dX8_area_44 : decode cX8_area 44 = .ok (.iinc 2 1, 3) := by decide +kernel
theorem dX8_area_47 : decode cX8_area 47 = .ok (.iinc 3 1, 3) := by decide +kernel
theorem dX8_area_50 : decode cX8_area 50 = .ok (.goto (-29), 3) := by decide +kernel
theorem dX8_area_53 : decode cX8_area 53 = .ok (.aload_n 0, 1) := by decide +kernel
theorem dX8_area_54 : decode cX8_area 54 = .ok (.iload_n 2, 1) := by decide +kernel
theorem dX8_area_55 : decode cX8_area 55 = .ok (.invokevirtual 84, 3) := by decide +kernel
theorem dX8_area_58 : decode cX8_area 58 = .ok (.ireturn, 1) := by decide +kernel
theorem dX8_share_0 : decode cX8_share 0 = .ok (.aload_n 0, 1) := by decide +kernel
theorem dX8_share_1 : decode cX8_share 1 = .ok (.getfield 23, 3) := by decide +kernel
theorem dX8_share_4 : decode cX8_share 4 = .ok (.iload_n 1, 1) := by decide +kernel
theorem dX8_share_5 : decode cX8_share 5 = .ok (.invokevirtual 130, 3) := by decide +kernel
theorem dX8_share_8 : decode cX8_share 8 = .ok (.ifCond .ne 9, 3) := by decide +kernel
theorem dX8_share_11 : decode cX8_share 11 = .ok (.aload_n 0, 1) := by decide +kernel
theorem dX8_share_12 : decode cX8_share 12 = .ok (.iconst 1, 1) := by decide +kernel
theorem dX8_share_13 : decode cX8_share 13 = .ok (.invokevirtual 67, 3) := by decide +kernel
theorem dX8_share_16 : decode cX8_share 16 = .ok (.ireturn, 1) := by decide +kernel
theorem dX8_share_17 : decode cX8_share 17 = .ok (.iconst 0, 1) := by decide +kernel
theorem dX8_share_18 : decode cX8_share 18 = .ok (.istore_n 2, 1) := by decide +kernel
theorem dX8_share_19 : decode cX8_share 19 = .ok (.iconst 0, 1) := by decide +kernel
theorem dX8_share_20 : decode cX8_share 20 = .ok (.istore_n 3, 1) := by decide +kernel
theorem dX8_share_21 : decode cX8_share 21 = .ok (.iload_n 3, 1) := by decide +kernel
theorem dX8_share_22 : decode cX8_share 22 = .ok (.aload_n 0, 1) := by decide +kernel
theorem dX8_share_23 : decode cX8_share 23 = .ok (.getfield 23, 3) := by decide +kernel
theorem dX8_share_26 : decode cX8_share 26 = .ok (.invokevirtual 126, 3) := by decide +kernel
theorem dX8_share_29 : decode cX8_share 29 = .ok (.if_icmp .ge 24, 3) := by decide +kernel
