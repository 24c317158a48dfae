theorem dX9_partOf_87 : decode cX9_partOf 87 = .ok (.iand, 1) := by decide +kernel
theorem dX9_partOf_88 : decode cX9_partOf 88 = .ok (.ior, 1) := by decide +kernel
theorem dX9_partOf_89 : decode cX9_partOf 89 = .ok (.istore_n 3, 1) := by decide +kernel
theorem dX9_partOf_90 : decode cX9_partOf 90 = .ok (.iload 6, 2) := by decide +kernel
theorem dX9_partOf_92 : decode cX9_partOf 92 = .ok (.iload 5, 2) := by decide +kernel
theorem dX9_partOf_94 : decode cX9_partOf 94 = .ok (.if_icmp .lt 15, 3) := by decide +kernel
theorem dX9_partOf_97 : decode cX9_partOf 97 = .ok (.iload_n 3, 1) := by decide +kernel
theorem dX9_partOf_98 : decode cX9_partOf 98 = .ok (.iload_n 1, 1) := by decide +kernel
theorem dX9_partOf_99 : decode cX9_partOf 99 = .ok (.iconst 1, 1) := by decide +kernel
theorem dX9_partOf_100 : decode cX9_partOf 100 = .ok (.iload 6, 2) := by decide +kernel
theorem dX9_partOf_102 : decode cX9_partOf 102 = .ok (.iload 5, 2) := by decide +kernel
theorem dX9_partOf_104 : decode cX9_partOf 104 = .ok (.isub, 1) := by decide +kernel
theorem dX9_partOf_105 : decode cX9_partOf 105 = .ok (.ishl, 1) := by decide +kernel
theorem dX9_partOf_106 : decode cX9_partOf 106 = .ok (.iand, 1) := by decide +kernel
theorem dX9_partOf_107 : decode cX9_partOf 107 = .ok (.ior, 1) := by decide +kernel
theorem dX9_partOf_108 : decode cX9_partOf 108 = .ok (.istore_n 3, 1) := by decide +kernel
theorem dX9_partOf_109 : decode cX9_partOf 109 = .ok (.iload 6, 2) := by decide +kernel
theorem dX9_partOf_111 : decode cX9_partOf 111 = .ok (.iload 5, 2) := by decide +kernel
theorem dX9_partOf_113 : decode cX9_partOf 113 = .ok (.iadd, 1) := by decide +kernel
theorem dX9_partOf_114 : decode cX9_partOf 114 = .ok (.aload_n 0, 1) := by decide +kernel
theorem dX9_partOf_115 : decode cX9_partOf 115 = .ok (.invokevirtual 287, 3) := by decide +kernel
theorem dX9_partOf_118 : decode cX9_partOf 118 = .ok (.if_icmp .ge 15, 3) := by decide +kernel
theorem dX9_partOf_121 : decode cX9_partOf 121 = .ok (.iload_n 3, 1) := by decide +kernel
theorem dX9_partOf_122 : decode cX9_partOf 122 = .ok (.iload_n 1, 1) := by decide +kernel
theorem dX9_partOf_123 : decode cX9_partOf 123 = .ok (.iconst 1, 1) := by decide +kernel
theorem dX9_partOf_124 : decode cX9_partOf 124 = .ok (.iload 6, 2) := by decide +kernel
theorem dX9_partOf_126 : decode cX9_partOf 126 = .ok (.iload 5, 2) := by decide +kernel
theorem dX9_partOf_128 : decode cX9_partOf 128 = .ok (.iadd, 1) := by decide +kernel
theorem dX9_partOf_129 : decode cX9_partOf 129 = .ok (.ishl, 1) := by decide +kernel
theorem dX9_partOf_130 : decode cX9_partOf 130 = .ok (.iand, 1) := by decide +kernel
theorem dX9_partOf_131 : decode cX9_partOf 131 = .ok (.ior, 1) := by decide +kernel
theorem dX9_partOf_132 : decode cX9_partOf 132 = .ok (.istore_n 3, 1) := by decide +kernel
theorem dX9_partOf_133 : decode cX9_partOf 133 = .ok (.iinc 6 1, 3) := by decide +kernel
theorem dX9_partOf_136 : decode cX9_partOf 136 = .ok (.goto (-109), 3) := by decide +kernel
theorem dX9_partOf_139 : decode cX9_partOf 139 = .ok (.goto (-124), 3) := by decide +kernel
theorem dX9_partOf_142 : decode cX9_partOf 142 = .ok (.iload_n 3, 1) := by decide +kernel
theorem dX9_partOf_143 : decode cX9_partOf 143 = .ok (.ireturn, 1) := by decide +kernel
theorem dX9_partAt_0 : decode cX9_partAt 0 = .ok (.iload_n 1, 1) := by decide +kernel
theorem dX9_partAt_1 : decode cX9_partAt 1 = .ok (.istore_n 3, 1) := by decide +kernel
theorem dX9_partAt_2 : decode cX9_partAt 2 = .ok (.iconst 0, 1) := by decide +kernel
theorem dX9_partAt_3 : decode cX9_partAt 3 = .ok (.istore 4, 2) := by decide +kernel
theorem dX9_partAt_5 : decode cX9_partAt 5 = .ok (.iconst 0, 1) := by decide +kernel
theorem dX9_partAt_6 : decode cX9_partAt 6 = .ok (.istore 5, 2) := by decide +kernel
theorem dX9_partAt_8 : decode cX9_partAt 8 = .ok (.iload 5, 2) := by decide +kernel
theorem dX9_partAt_10 : decode cX9_partAt 10 = .ok (.aload_n 0, 1) := by decide +kernel
theorem dX9_partAt_11 : decode cX9_partAt 11 = .ok (.invokevirtual 287, 3) := by decide +kernel
theorem dX9_partAt_14 : decode cX9_partAt 14 = .ok (.if_icmp .ge 45, 3) := by decide +kernel
theorem dX9_partAt_17 : decode cX9_partAt 17 = .ok (.iload_n 3, 1) := by decide +kernel
theorem dX9_partAt_18 : decode cX9_partAt 18 = .ok (.iload 5, 2) := by decide +kernel
theorem dX9_partAt_20 : decode cX9_partAt 20 = .ok (.invokestatic 290, 3) := by decide +kernel
theorem dX9_partAt_23 : decode cX9_partAt 23 = .ok (.ifCond .ne 6, 3) := by decide +kernel
theorem dX9_partAt_26 : decode cX9_partAt 26 = .ok (.goto 27, 3) := by decide +kernel
theorem dX9_partAt_29 : decode cX9_partAt 29 = .ok (.iload 4, 2) := by decide +kernel
theorem dX9_partAt_31 : decode cX9_partAt 31 = .ok (.iload_n 2, 1) := by decide +kernel
theorem dX9_partAt_32 : decode cX9_partAt 32 = .ok (.if_icmp .ne 6, 3) := by decide +kernel
theorem dX9_partAt_35 : decode cX9_partAt 35 = .ok (.iload 5, 2) := by decide +kernel
theorem dX9_partAt_37 : decode cX9_partAt 37 = .ok (.ireturn, 1) := by decide +kernel
theorem dX9_partAt_38 : decode cX9_partAt 38 = .ok (.iload_n 3, 1) := by decide +kernel
theorem dX9_partAt_39 : decode cX9_partAt 39 = .ok (.aload_n 0, 1) := by decide +kernel
theorem dX9_partAt_40 : decode cX9_partAt 40 = .ok (.iload_n 1, 1) := by decide +kernel
theorem dX9_partAt_41 : decode cX9_partAt 41 = .ok (.iload 5, 2) := by decide +kernel
theorem dX9_partAt_43 : decode cX9_partAt 43 = .ok (.invokevirtual 293, 3) := by decide +kernel
theorem dX9_partAt_46 : decode cX9_partAt 46 = .ok (.iconst (-1), 1) := by decide +kernel
theorem dX9_partAt_47 : decode cX9_partAt 47 = .ok (.ixor, 1) := by decide +kernel
theorem dX9_partAt_48 : decode cX9_partAt 48 = .ok (.iand, 1) := by decide +kernel
theorem dX9_partAt_49 : decode cX9_partAt 49 = .ok (.istore_n 3, 1) := by decide +kernel
theorem dX9_partAt_50 : decode cX9_partAt 50 = .ok (.iinc 4 1, 3) := by decide +kernel
theorem dX9_partAt_53 : decode cX9_partAt 53 = .ok (.iinc 5 1, 3) := by decide +kernel
theorem dX9_partAt_56 : decode cX9_partAt 56 = .ok (.goto (-48), 3) := by decide +kernel
theorem dX9_partAt_59 : decode cX9_partAt 59 = .ok (.bipush (-2), 2) := by decide +kernel
theorem dX9_partAt_61 : decode cX9_partAt 61 = .ok (.ireturn, 1) := by decide +kernel
theorem dX9_partsOf_0 : decode cX9_partsOf 0 = .ok (.iconst 0, 1) := by decide +kernel
theorem dX9_partsOf_1 : decode cX9_partsOf 1 = .ok (.istore_n 2, 1) := by decide +kernel
theorem dX9_partsOf_2 : decode cX9_partsOf 2 = .ok (.aload_n 0, 1) := by decide +kernel
theorem dX9_partsOf_3 : decode cX9_partsOf 3 = .ok (.iload_n 1, 1) := by decide +kernel
theorem dX9_partsOf_4 : decode cX9_partsOf 4 = .ok (.iload_n 2, 1) := by decide +kernel
theorem dX9_partsOf_5 : decode cX9_partsOf 5 = .ok (.invokevirtual 296, 3) := by decide +kernel
theorem dX9_partsOf_8 : decode cX9_partsOf 8 = .ok (.bipush (-2), 2) := by decide +kernel
theorem dX9_partsOf_10 : decode cX9_partsOf 10 = .ok (.if_icmp .eq 9, 3) := by decide +kernel
theorem dX9_partsOf_13 : decode cX9_partsOf 13 = .ok (.iinc 2 1, 3) := by decide +kernel
theorem dX9_partsOf_16 : decode cX9_partsOf 16 = .ok (.goto (-14), 3) := by decide +kernel
theorem dX9_partsOf_19 : decode cX9_partsOf 19 = .ok (.iload_n 2, 1) := by decide +kernel
theorem dX9_partsOf_20 : decode cX9_partsOf 20 = .ok (.ireturn, 1) := by decide +kernel
theorem dX9_barred_0 : decode cX9_barred 0 = .ok (.iconst 0, 1) := by decide +kernel
theorem dX9_barred_1 : decode cX9_barred 1 = .ok (.istore_n 2, 1) := by decide +kernel
theorem dX9_barred_2 : decode cX9_barred 2 = .ok (.iconst 0, 1) := by decide +kernel
theorem dX9_barred_3 : decode cX9_barred 3 = .ok (.istore_n 3, 1) := by decide +kernel
theorem dX9_barred_4 : decode cX9_barred 4 = .ok (.iload_n 3, 1) := by decide +kernel
theorem dX9_barred_5 : decode cX9_barred 5 = .ok (.aload_n 0, 1) := by decide +kernel
theorem dX9_barred_6 : decode cX9_barred 6 = .ok (.getfield 20, 3) := by decide +kernel
theorem dX9_barred_9 : decode cX9_barred 9 = .ok (.bipush 6, 2) := by decide +kernel
theorem dX9_barred_11 : decode cX9_barred 11 = .ok (.iaload, 1) := by decide +kernel
theorem dX9_barred_12 : decode cX9_barred 12 = .ok (.if_icmp .ge 119, 3) := by decide +kernel
theorem dX9_barred_15 : decode cX9_barred 15 = .ok (.bipush 22, 2) := by decide +kernel
theorem dX9_barred_17 : decode cX9_barred 17 = .ok (.bipush 6, 2) := by decide +kernel
theorem dX9_barred_19 : decode cX9_barred 19 = .ok (.iload_n 3, 1) := by decide +kernel
theorem dX9_barred_20 : decode cX9_barred 20 = .ok (.imul, 1) := by decide +kernel
theorem dX9_barred_21 : decode cX9_barred 21 = .ok (.iadd, 1) := by decide +kernel
theorem dX9_barred_22 : decode cX9_barred 22 = .ok (.istore 4, 2) := by decide +kernel
theorem dX9_barred_24 : decode cX9_barred 24 = .ok (.iload_n 1, 1) := by decide +kernel
theorem dX9_barred_25 : decode cX9_barred 25 = .ok (.aload_n 0, 1) := by decide +kernel
theorem dX9_barred_26 : decode cX9_barred 26 = .ok (.getfield 20, 3) := by decide +kernel
theorem dX9_barred_29 : decode cX9_barred 29 = .ok (.iload 4, 2) := by decide +kernel
theorem dX9_barred_31 : decode cX9_barred 31 = .ok (.iconst 4, 1) := by decide +kernel
theorem dX9_barred_32 : decode cX9_barred 32 = .ok (.iadd, 1) := by decide +kernel
theorem dX9_barred_33 : decode cX9_barred 33 = .ok (.iaload, 1) := by decide +kernel
theorem dX9_barred_34 : decode cX9_barred 34 = .ok (.aload_n 0, 1) := by decide +kernel
theorem dX9_barred_35 : decode cX9_barred 35 = .ok (.getfield 20, 3) := by decide +kernel
theorem dX9_barred_38 : decode cX9_barred 38 = .ok (.iload 4, 2) := by decide +kernel
theorem dX9_barred_40 : decode cX9_barred 40 = .ok (.iconst 5, 1) := by decide +kernel
theorem dX9_barred_41 : decode cX9_barred 41 = .ok (.iadd, 1) := by decide +kernel
theorem dX9_barred_42 : decode cX9_barred 42 = .ok (.iaload, 1) := by decide +kernel
theorem dX9_barred_43 : decode cX9_barred 43 = .ok (.invokestatic 139, 3) := by decide +kernel
theorem dX9_barred_46 : decode cX9_barred 46 = .ok (.ifCond .ne 6, 3) := by decide +kernel
theorem dX9_barred_49 : decode cX9_barred 49 = .ok (.goto 76, 3) := by decide +kernel
theorem dX9_barred_52 : decode cX9_barred 52 = .ok (.aload_n 0, 1) := by decide +kernel
theorem dX9_barred_53 : decode cX9_barred 53 = .ok (.getfield 20, 3) := by decide +kernel
theorem dX9_barred_56 : decode cX9_barred 56 = .ok (.iload 4, 2) := by decide +kernel
theorem dX9_barred_58 : decode cX9_barred 58 = .ok (.iconst 1, 1) := by decide +kernel
theorem dX9_barred_59 : decode cX9_barred 59 = .ok (.iadd, 1) := by decide +kernel
theorem dX9_barred_60 : decode cX9_barred 60 = .ok (.iaload, 1) := by decide +kernel
theorem dX9_barred_61 : decode cX9_barred 61 = .ok (.istore 5, 2) := by decide +kernel
theorem dX9_barred_63 : decode cX9_barred 63 = .ok (.iload 5, 2) := by decide +kernel
theorem dX9_barred_65 : decode cX9_barred 65 = .ok (.aload_n 0, 1) := by decide +kernel
theorem dX9_barred_66 : decode cX9_barred 66 = .ok (.getfield 20, 3) := by decide +kernel
theorem dX9_barred_69 : decode cX9_barred 69 = .ok (.iload 4, 2) := by decide +kernel
theorem dX9_barred_71 : decode cX9_barred 71 = .ok (.iconst 3, 1) := by decide +kernel
theorem dX9_barred_72 : decode cX9_barred 72 = .ok (.iadd, 1) := by decide +kernel
theorem dX9_barred_73 : decode cX9_barred 73 = .ok (.iaload, 1) := by decide +kernel
theorem dX9_barred_74 : decode cX9_barred 74 = .ok (.if_icmp .gt 51, 3) := by decide +kernel
theorem dX9_barred_77 : decode cX9_barred 77 = .ok (.aload_n 0, 1) := by decide +kernel
theorem dX9_barred_78 : decode cX9_barred 78 = .ok (.getfield 20, 3) := by decide +kernel
theorem dX9_barred_81 : decode cX9_barred 81 = .ok (.iload 4, 2) := by decide +kernel
theorem dX9_barred_83 : decode cX9_barred 83 = .ok (.iaload, 1) := by decide +kernel
theorem dX9_barred_84 : decode cX9_barred 84 = .ok (.istore 6, 2) := by decide +kernel
theorem dX9_barred_86 : decode cX9_barred 86 = .ok (.iload 6, 2) := by decide +kernel
theorem dX9_barred_88 : decode cX9_barred 88 = .ok (.aload_n 0, 1) := by decide +kernel
theorem dX9_barred_89 : decode cX9_barred 89 = .ok (.getfield 20, 3) := by decide +kernel
theorem dX9_barred_92 : decode cX9_barred 92 = .ok (.iload 4, 2) := by decide +kernel
theorem dX9_barred_94 : decode cX9_barred 94 = .ok (.iconst 2, 1) := by decide +kernel
theorem dX9_barred_95 : decode cX9_barred 95 = .ok (.iadd, 1) := by decide +kernel
theorem dX9_barred_96 : decode cX9_barred 96 = .ok (.iaload, 1) := by decide +kernel
theorem dX9_barred_97 : decode cX9_barred 97 = .ok (.if_icmp .gt 22, 3) := by decide +kernel
theorem dX9_barred_100 : decode cX9_barred 100 = .ok (.iload_n 2, 1) := by decide +kernel
theorem dX9_barred_101 : decode cX9_barred 101 = .ok (.iconst 1, 1) := by decide +kernel
theorem dX9_barred_102 : decode cX9_barred 102 = .ok (.aload_n 0, 1) := by decide +kernel
theorem dX9_barred_103 : decode cX9_barred 103 = .ok (.iload 6, 2) := by decide +kernel
theorem dX9_barred_105 : decode cX9_barred 105 = .ok (.iload 5, 2) := by decide +kernel
theorem dX9_barred_107 : decode cX9_barred 107 = .ok (.invokevirtual 272, 3) := by decide +kernel
theorem dX9_barred_110 : decode cX9_barred 110 = .ok (.ishl, 1) := by decide +kernel
theorem dX9_barred_111 : decode cX9_barred 111 = .ok (.ior, 1) := by decide +kernel
theorem dX9_barred_112 : decode cX9_barred 112 = .ok (.istore_n 2, 1) := by decide +kernel
theorem dX9_barred_113 : decode cX9_barred 113 = .ok (.iinc 6 1, 3) := by decide +kernel
theorem dX9_barred_116 : decode cX9_barred 116 = .ok (.goto (-30), 3) := by decide +kernel
theorem dX9_barred_119 : decode cX9_barred 119 = .ok (.iinc 5 1, 3) := by decide +kernel
theorem dX9_barred_122 : decode cX9_barred 122 = .ok (.goto (-59), 3) := by decide +kernel
theorem dX9_barred_125 : decode cX9_barred 125 = .ok (.iinc 3 1, 3) := by decide +kernel
theorem dX9_barred_128 : decode cX9_barred 128 = .ok (.goto (-124), 3) := by decide +kernel
theorem dX9_barred_131 : decode cX9_barred 131 = .ok (.iload_n 2, 1) := by decide +kernel
theorem dX9_barred_132 : decode cX9_barred 132 = .ok (.ireturn, 1) := by decide +kernel
theorem dX9_judgedCells_0 : decode cX9_judgedCells 0 = .ok (.aload_n 0, 1) := by decide +kernel
theorem dX9_judgedCells_1 : decode cX9_judgedCells 1 = .ok (.invokevirtual 299, 3) := by decide +kernel
theorem dX9_judgedCells_4 : decode cX9_judgedCells 4 = .ok (.iload_n 1, 1) := by decide +kernel
theorem dX9_judgedCells_5 : decode cX9_judgedCells 5 = .ok (.iconst (-1), 1) := by decide +kernel
theorem dX9_judgedCells_6 : decode cX9_judgedCells 6 = .ok (.ixor, 1) := by decide +kernel
theorem dX9_judgedCells_7 : decode cX9_judgedCells 7 = .ok (.iand, 1) := by decide +kernel
theorem dX9_judgedCells_8 : decode cX9_judgedCells 8 = .ok (.istore_n 3, 1) := by decide +kernel
theorem dX9_judgedCells_9 : decode cX9_judgedCells 9 = .ok (.iload_n 3, 1) := by decide +kernel
theorem dX9_judgedCells_10 : decode cX9_judgedCells 10 = .ok (.invokestatic 302, 3) := by decide +kernel
theorem dX9_judgedCells_13 : decode cX9_judgedCells 13 = .ok (.aload_n 0, 1) := by decide +kernel
theorem dX9_judgedCells_14 : decode cX9_judgedCells 14 = .ok (.getfield 20, 3) := by decide +kernel
theorem dX9_judgedCells_17 : decode cX9_judgedCells 17 = .ok (.iconst 2, 1) := by decide +kernel
theorem dX9_judgedCells_18 : decode cX9_judgedCells 18 = .ok (.iaload, 1) := by decide +kernel
theorem dX9_judgedCells_19 : decode cX9_judgedCells 19 = .ok (.if_icmp .ge 5, 3) := by decide +kernel
theorem dX9_judgedCells_22 : decode cX9_judgedCells 22 = .ok (.iconst 1, 1) := by decide +kernel
theorem dX9_judgedCells_23 : decode cX9_judgedCells 23 = .ok (.ireturn, 1) := by decide +kernel
theorem dX9_judgedCells_24 : decode cX9_judgedCells 24 = .ok (.aload_n 0, 1) := by decide +kernel
theorem dX9_judgedCells_25 : decode cX9_judgedCells 25 = .ok (.getfield 20, 3) := by decide +kernel
theorem dX9_judgedCells_28 : decode cX9_judgedCells 28 = .ok (.iconst 3, 1) := by decide +kernel
theorem dX9_judgedCells_29 : decode cX9_judgedCells 29 = .ok (.iaload, 1) := by decide +kernel
theorem dX9_judgedCells_30 : decode cX9_judgedCells 30 = .ok (.ifCond .le 19, 3) := by decide +kernel
theorem dX9_judgedCells_33 : decode cX9_judgedCells 33 = .ok (.aload_n 0, 1) := by decide +kernel
theorem dX9_judgedCells_34 : decode cX9_judgedCells 34 = .ok (.iload_n 3, 1) := by decide +kernel
theorem dX9_judgedCells_35 : decode cX9_judgedCells 35 = .ok (.invokevirtual 305, 3) := by decide +kernel
theorem dX9_judgedCells_38 : decode cX9_judgedCells 38 = .ok (.aload_n 0, 1) := by decide +kernel
theorem dX9_judgedCells_39 : decode cX9_judgedCells 39 = .ok (.getfield 20, 3) := by decide +kernel
theorem dX9_judgedCells_42 : decode cX9_judgedCells 42 = .ok (.iconst 3, 1) := by decide +kernel
theorem dX9_judgedCells_43 : decode cX9_judgedCells 43 = .ok (.iaload, 1) := by decide +kernel
theorem dX9_judgedCells_44 : decode cX9_judgedCells 44 = .ok (.if_icmp .le 5, 3) := by decide +kernel
theorem dX9_judgedCells_47 : decode cX9_judgedCells 47 = .ok (.iconst 2, 1) := by decide +kernel
theorem dX9_judgedCells_48 : decode cX9_judgedCells 48 = .ok (.ireturn, 1) := by decide +kernel
theorem dX9_judgedCells_49 : decode cX9_judgedCells 49 = .ok (.iload_n 1, 1) := by decide +kernel
theorem dX9_judgedCells_50 : decode cX9_judgedCells 50 = .ok (.aload_n 0, 1) := by decide +kernel
theorem dX9_judgedCells_51 : decode cX9_judgedCells 51 = .ok (.iload_n 2, 1) := by decide +kernel
theorem dX9_judgedCells_52 : decode cX9_judgedCells 52 = .ok (.invokevirtual 308, 3) := by decide +kernel
theorem dX9_judgedCells_55 : decode cX9_judgedCells 55 = .ok (.iand, 1) := by decide +kernel
theorem dX9_judgedCells_56 : decode cX9_judgedCells 56 = .ok (.ifCond .eq 7, 3) := by decide +kernel
theorem dX9_judgedCells_59 : decode cX9_judgedCells 59 = .ok (.iconst 3, 1) := by decide +kernel
theorem dX9_judgedCells_60 : decode cX9_judgedCells 60 = .ok (.goto 4, 3) := by decide +kernel
theorem dX9_judgedCells_63 : decode cX9_judgedCells 63 = .ok (.iconst 0, 1) := by decide +kernel
theorem dX9_judgedCells_64 : decode cX9_judgedCells 64 = .ok (.ireturn, 1) := by decide +kernel
theorem dX9_tooNew_0 : decode cX9_tooNew 0 = .ok (.iconst 0, 1) := by decide +kernel
theorem dX9_tooNew_1 : decode cX9_tooNew 1 = .ok (.istore_n 2, 1) := by decide +kernel
theorem dX9_tooNew_2 : decode cX9_tooNew 2 = .ok (.iload_n 2, 1) := by decide +kernel
theorem dX9_tooNew_3 : decode cX9_tooNew 3 = .ok (.aload_n 0, 1) := by decide +kernel
theorem dX9_tooNew_4 : decode cX9_tooNew 4 = .ok (.invokevirtual 287, 3) := by decide +kernel
theorem dX9_tooNew_7 : decode cX9_tooNew 7 = .ok (.if_icmp .ge 44, 3) := by decide +kernel
theorem dX9_tooNew_10 : decode cX9_tooNew 10 = .ok (.aload_n 0, 1) := by decide +kernel
theorem dX9_tooNew_11 : decode cX9_tooNew 11 = .ok (.iload_n 1, 1) := by decide +kernel
theorem dX9_tooNew_12 : decode cX9_tooNew 12 = .ok (.iload_n 2, 1) := by decide +kernel
theorem dX9_tooNew_13 : decode cX9_tooNew 13 = .ok (.invokevirtual 262, 3) := by decide +kernel
theorem dX9_tooNew_16 : decode cX9_tooNew 16 = .ok (.bipush (-2), 2) := by decide +kernel
theorem dX9_tooNew_18 : decode cX9_tooNew 18 = .ok (.if_icmp .eq 27, 3) := by decide +kernel
theorem dX9_tooNew_21 : decode cX9_tooNew 21 = .ok (.aload_n 0, 1) := by decide +kernel
theorem dX9_tooNew_22 : decode cX9_tooNew 22 = .ok (.getfield 20, 3) := by decide +kernel
theorem dX9_tooNew_25 : decode cX9_tooNew 25 = .ok (.bipush 17, 2) := by decide +kernel
theorem dX9_tooNew_27 : decode cX9_tooNew 27 = .ok (.aload_n 0, 1) := by decide +kernel
theorem dX9_tooNew_28 : decode cX9_tooNew 28 = .ok (.iload_n 1, 1) := by decide +kernel
theorem dX9_tooNew_29 : decode cX9_tooNew 29 = .ok (.iload_n 2, 1) := by decide +kernel
theorem dX9_tooNew_30 : decode cX9_tooNew 30 = .ok (.invokevirtual 262, 3) := by decide +kernel
theorem dX9_tooNew_33 : decode cX9_tooNew 33 = .ok (.iadd, 1) := by decide +kernel
theorem dX9_tooNew_34 : decode cX9_tooNew 34 = .ok (.iaload, 1) := by decide +kernel
theorem dX9_tooNew_35 : decode cX9_tooNew 35 = .ok (.aload_n 0, 1) := by decide +kernel
theorem dX9_tooNew_36 : decode cX9_tooNew 36 = .ok (.iload_n 1, 1) := by decide +kernel
theorem dX9_tooNew_37 : decode cX9_tooNew 37 = .ok (.invokevirtual 278, 3) := by decide +kernel
theorem dX9_tooNew_40 : decode cX9_tooNew 40 = .ok (.if_icmp .le 5, 3) := by decide +kernel
theorem dX9_tooNew_43 : decode cX9_tooNew 43 = .ok (.iload_n 2, 1) := by decide +kernel
theorem dX9_tooNew_44 : decode cX9_tooNew 44 = .ok (.ireturn, 1) := by decide +kernel
theorem dX9_tooNew_45 : decode cX9_tooNew 45 = .ok (.iinc 2 1, 3) := by decide +kernel
theorem dX9_tooNew_48 : decode cX9_tooNew 48 = .ok (.goto (-46), 3) := by decide +kernel
theorem dX9_tooNew_51 : decode cX9_tooNew 51 = .ok (.bipush (-2), 2) := by decide +kernel
theorem dX9_tooNew_53 : decode cX9_tooNew 53 = .ok (.ireturn, 1) := by decide +kernel
theorem dX9_judgedOf_0 : decode cX9_judgedOf 0 = .ok (.aload_n 0, 1) := by decide +kernel
theorem dX9_judgedOf_1 : decode cX9_judgedOf 1 = .ok (.aload_n 0, 1) := by decide +kernel
theorem dX9_judgedOf_2 : decode cX9_judgedOf 2 = .ok (.iload_n 1, 1) := by decide +kernel
theorem dX9_judgedOf_3 : decode cX9_judgedOf 3 = .ok (.invokevirtual 311, 3) := by decide +kernel
theorem dX9_judgedOf_6 : decode cX9_judgedOf 6 = .ok (.aload_n 0, 1) := by decide +kernel
theorem dX9_judgedOf_7 : decode cX9_judgedOf 7 = .ok (.iload_n 1, 1) := by decide +kernel
theorem dX9_judgedOf_8 : decode cX9_judgedOf 8 = .ok (.invokevirtual 278, 3) := by decide +kernel
theorem dX9_judgedOf_11 : decode cX9_judgedOf 11 = .ok (.invokevirtual 314, 3) := by decide +kernel
theorem dX9_judgedOf_14 : decode cX9_judgedOf 14 = .ok (.istore_n 2, 1) := by decide +kernel
theorem dX9_judgedOf_15 : decode cX9_judgedOf 15 = .ok (.iload_n 2, 1) := by decide +kernel
theorem dX9_judgedOf_16 : decode cX9_judgedOf 16 = .ok (.ifCond .eq 7, 3) := by decide +kernel
theorem dX9_judgedOf_19 : decode cX9_judgedOf 19 = .ok (.iload_n 2, 1) := by decide +kernel
theorem dX9_judgedOf_20 : decode cX9_judgedOf 20 = .ok (.goto 18, 3) := by decide +kernel
theorem dX9_judgedOf_23 : decode cX9_judgedOf 23 = .ok (.aload_n 0, 1) := by decide +kernel
theorem dX9_judgedOf_24 : decode cX9_judgedOf 24 = .ok (.iload_n 1, 1) := by decide +kernel
theorem dX9_judgedOf_25 : decode cX9_judgedOf 25 = .ok (.invokevirtual 317, 3) := by decide +kernel
theorem dX9_judgedOf_28 : decode cX9_judgedOf 28 = .ok (.bipush (-2), 2) := by decide +kernel
theorem dX9_judgedOf_30 : decode cX9_judgedOf 30 = .ok (.if_icmp .ne 7, 3) := by decide +kernel
theorem dX9_judgedOf_33 : decode cX9_judgedOf 33 = .ok (.iconst 0, 1) := by decide +kernel
theorem dX9_judgedOf_34 : decode cX9_judgedOf 34 = .ok (.goto 4, 3) := by decide +kernel
theorem dX9_judgedOf_37 : decode cX9_judgedOf 37 = .ok (.iconst 4, 1) := by decide +kernel
theorem dX9_judgedOf_38 : decode cX9_judgedOf 38 = .ok (.ireturn, 1) := by decide +kernel
theorem dX9_lowest_0 : decode cX9_lowest 0 = .ok (.iconst 0, 1) := by decide +kernel
theorem dX9_lowest_1 : decode cX9_lowest 1 = .ok (.istore_n 1, 1) := by decide +kernel
theorem dX9_lowest_2 : decode cX9_lowest 2 = .ok (.iload_n 1, 1) := by decide +kernel
theorem dX9_lowest_3 : decode cX9_lowest 3 = .ok (.bipush 24, 2) := by decide +kernel
theorem dX9_lowest_5 : decode cX9_lowest 5 = .ok (.if_icmp .ge 19, 3) := by decide +kernel
theorem dX9_lowest_8 : decode cX9_lowest 8 = .ok (.iload_n 0, 1) := by decide +kernel
theorem dX9_lowest_9 : decode cX9_lowest 9 = .ok (.iload_n 1, 1) := by decide +kernel
theorem dX9_lowest_10 : decode cX9_lowest 10 = .ok (.invokestatic 290, 3) := by decide +kernel
theorem dX9_lowest_13 : decode cX9_lowest 13 = .ok (.ifCond .eq 5, 3) := by decide +kernel
theorem dX9_lowest_16 : decode cX9_lowest 16 = .ok (.iload_n 1, 1) := by decide +kernel
theorem dX9_lowest_17 : decode cX9_lowest 17 = .ok (.ireturn, 1) := by decide +kernel
theorem dX9_lowest_18 : decode cX9_lowest 18 = .ok (.iinc 1 1, 3) := by decide +kernel
theorem dX9_lowest_21 : decode cX9_lowest 21 = .ok (.goto (-19), 3) := by decide +kernel
theorem dX9_lowest_24 : decode cX9_lowest 24 = .ok (.bipush (-2), 2) := by decide +kernel
theorem dX9_lowest_26 : decode cX9_lowest 26 = .ok (.ireturn, 1) := by decide +kernel
theorem dX9_breaksAt_0 : decode cX9_breaksAt 0 = .ok (.aload_n 0, 1) := by decide +kernel
theorem dX9_breaksAt_1 : decode cX9_breaksAt 1 = .ok (.iload_n 1, 1) := by decide +kernel
theorem dX9_breaksAt_2 : decode cX9_breaksAt 2 = .ok (.invokevirtual 311, 3) := by decide +kernel
theorem dX9_breaksAt_5 : decode cX9_breaksAt 5 = .ok (.istore_n 2, 1) := by decide +kernel
theorem dX9_breaksAt_6 : decode cX9_breaksAt 6 = .ok (.aload_n 0, 1) := by decide +kernel
theorem dX9_breaksAt_7 : decode cX9_breaksAt 7 = .ok (.iload_n 1, 1) := by decide +kernel
theorem dX9_breaksAt_8 : decode cX9_breaksAt 8 = .ok (.invokevirtual 320, 3) := by decide +kernel
theorem dX9_breaksAt_11 : decode cX9_breaksAt 11 = .ok (.tableswitch 125 1 4 #[29, 85, 104, 119], 29) := by decide +kernel
theorem dX9_breaksAt_40 : decode cX9_breaksAt 40 = .ok (.aload_n 0, 1) := by decide +kernel
theorem dX9_breaksAt_41 : decode cX9_breaksAt 41 = .ok (.invokevirtual 287, 3) := by decide +kernel
theorem dX9_breaksAt_44 : decode cX9_breaksAt 44 = .ok (.istore_n 3, 1) := by decide +kernel
theorem dX9_breaksAt_45 : decode cX9_breaksAt 45 = .ok (.iconst 0, 1) := by decide +kernel
theorem dX9_breaksAt_46 : decode cX9_breaksAt 46 = .ok (.istore 4, 2) := by decide +kernel
theorem dX9_breaksAt_48 : decode cX9_breaksAt 48 = .ok (.iload 4, 2) := by decide +kernel
theorem dX9_breaksAt_50 : decode cX9_breaksAt 50 = .ok (.aload_n 0, 1) := by decide +kernel
theorem dX9_breaksAt_51 : decode cX9_breaksAt 51 = .ok (.invokevirtual 287, 3) := by decide +kernel
theorem dX9_breaksAt_54 : decode cX9_breaksAt 54 = .ok (.if_icmp .ge 39, 3) := by decide +kernel
theorem dX9_breaksAt_57 : decode cX9_breaksAt 57 = .ok (.iload_n 3, 1) := by decide +kernel
theorem dX9_breaksAt_58 : decode cX9_breaksAt 58 = .ok (.iload_n 2, 1) := by decide +kernel
theorem dX9_breaksAt_59 : decode cX9_breaksAt 59 = .ok (.iload 4, 2) := by decide +kernel
theorem dX9_breaksAt_61 : decode cX9_breaksAt 61 = .ok (.invokestatic 290, 3) := by decide +kernel
theorem dX9_breaksAt_64 : decode cX9_breaksAt 64 = .ok (.ifCond .eq 7, 3) := by decide +kernel
theorem dX9_breaksAt_67 : decode cX9_breaksAt 67 = .ok (.iconst 1, 1) := by decide +kernel
theorem dX9_breaksAt_68 : decode cX9_breaksAt 68 = .ok (.goto 4, 3) := by decide +kernel
theorem dX9_breaksAt_71 : decode cX9_breaksAt 71 = .ok (.iconst 0, 1) := by decide +kernel
theorem dX9_breaksAt_72 : decode cX9_breaksAt 72 = .ok (.isub, 1) := by decide +kernel
theorem dX9_breaksAt_73 : decode cX9_breaksAt 73 = .ok (.istore_n 3, 1) := by decide +kernel
theorem dX9_breaksAt_74 : decode cX9_breaksAt 74 = .ok (.iload_n 3, 1) := by decide +kernel
theorem dX9_breaksAt_75 : decode cX9_breaksAt 75 = .ok (.aload_n 0, 1) := by decide +kernel
theorem dX9_breaksAt_76 : decode cX9_breaksAt 76 = .ok (.getfield 20, 3) := by decide +kernel
theorem dX9_breaksAt_79 : decode cX9_breaksAt 79 = .ok (.iconst 2, 1) := by decide +kernel
theorem dX9_breaksAt_80 : decode cX9_breaksAt 80 = .ok (.iaload, 1) := by decide +kernel
theorem dX9_breaksAt_81 : decode cX9_breaksAt 81 = .ok (.if_icmp .ge 6, 3) := by decide +kernel
theorem dX9_breaksAt_84 : decode cX9_breaksAt 84 = .ok (.iload 4, 2) := by decide +kernel
theorem dX9_breaksAt_86 : decode cX9_breaksAt 86 = .ok (.ireturn, 1) := by decide +kernel
theorem dX9_breaksAt_87 : decode cX9_breaksAt 87 = .ok (.iinc 4 1, 3) := by decide +kernel
theorem dX9_breaksAt_90 : decode cX9_breaksAt 90 = .ok (.goto (-42), 3) := by decide +kernel
theorem dX9_breaksAt_93 : decode cX9_breaksAt 93 = .ok (.bipush (-2), 2) := by decide +kernel
theorem dX9_breaksAt_95 : decode cX9_breaksAt 95 = .ok (.ireturn, 1) := by decide +kernel
theorem dX9_breaksAt_96 : decode cX9_breaksAt 96 = .ok (.aload_n 0, 1) := by decide +kernel
theorem dX9_breaksAt_97 : decode cX9_breaksAt 97 = .ok (.aload_n 0, 1) := by decide +kernel
theorem dX9_breaksAt_98 : decode cX9_breaksAt 98 = .ok (.invokevirtual 299, 3) := by decide +kernel
theorem dX9_breaksAt_101 : decode cX9_breaksAt 101 = .ok (.iload_n 2, 1) := by decide +kernel
theorem dX9_breaksAt_102 : decode cX9_breaksAt 102 = .ok (.iconst (-1), 1) := by decide +kernel
theorem dX9_breaksAt_103 : decode cX9_breaksAt 103 = .ok (.ixor, 1) := by decide +kernel
theorem dX9_breaksAt_104 : decode cX9_breaksAt 104 = .ok (.iand, 1) := by decide +kernel
theorem dX9_breaksAt_105 : decode cX9_breaksAt 105 = .ok (.aload_n 0, 1) := by decide +kernel
theorem dX9_breaksAt_106 : decode cX9_breaksAt 106 = .ok (.getfield 20, 3) := by decide +kernel
theorem dX9_breaksAt_109 : decode cX9_breaksAt 109 = .ok (.iconst 3, 1) := by decide +kernel
theorem dX9_breaksAt_110 : decode cX9_breaksAt 110 = .ok (.iaload, 1) := by decide +kernel
theorem dX9_breaksAt_111 : decode cX9_breaksAt 111 = .ok (.invokevirtual 296, 3) := by decide +kernel
theorem dX9_breaksAt_114 : decode cX9_breaksAt 114 = .ok (.ireturn, 1) := by decide +kernel
theorem dX9_breaksAt_115 : decode cX9_breaksAt 115 = .ok (.iload_n 2, 1) := by decide +kernel
theorem dX9_breaksAt_116 : decode cX9_breaksAt 116 = .ok (.aload_n 0, 1) := by decide +kernel
theorem dX9_breaksAt_117 : decode cX9_breaksAt 117 = .ok (.aload_n 0, 1) := by decide +kernel
theorem dX9_breaksAt_118 : decode cX9_breaksAt 118 = .ok (.iload_n 1, 1) := by decide +kernel
theorem dX9_breaksAt_119 : decode cX9_breaksAt 119 = .ok (.invokevirtual 278, 3) := by decide +kernel
theorem dX9_breaksAt_122 : decode cX9_breaksAt 122 = .ok (.invokevirtual 308, 3) := by decide +kernel
theorem dX9_breaksAt_125 : decode cX9_breaksAt 125 = .ok (.iand, 1) := by decide +kernel
theorem dX9_breaksAt_126 : decode cX9_breaksAt 126 = .ok (.invokestatic 323, 3) := by decide +kernel
theorem dX9_breaksAt_129 : decode cX9_breaksAt 129 = .ok (.ireturn, 1) := by decide +kernel
theorem dX9_breaksAt_130 : decode cX9_breaksAt 130 = .ok (.aload_n 0, 1) := by decide +kernel
theorem dX9_breaksAt_131 : decode cX9_breaksAt 131 = .ok (.iload_n 1, 1) := by decide +kernel
theorem dX9_breaksAt_132 : decode cX9_breaksAt 132 = .ok (.invokevirtual 317, 3) := by decide +kernel
theorem dX9_breaksAt_135 : decode cX9_breaksAt 135 = .ok (.ireturn, 1) := by decide +kernel
theorem dX9_breaksAt_136 : decode cX9_breaksAt 136 = .ok (.bipush (-2), 2) := by decide +kernel
theorem dX9_breaksAt_138 : decode cX9_breaksAt 138 = .ok (.ireturn, 1) := by decide +kernel
theorem dX9_work_0 : decode cX9_work 0 = .ok (.aload_n 0, 1) := by decide +kernel
theorem dX9_work_1 : decode cX9_work 1 = .ok (.invokevirtual 155, 3) := by decide +kernel
theorem dX9_work_4 : decode cX9_work 4 = .ok (.aload_n 0, 1) := by decide +kernel
theorem dX9_work_5 : decode cX9_work 5 = .ok (.iload_n 1, 1) := by decide +kernel
theorem dX9_work_6 : decode cX9_work 6 = .ok (.invokevirtual 326, 3) := by decide +kernel
theorem dX9_work_9 : decode cX9_work 9 = .ok (.ifCond .ne 9, 3) := by decide +kernel
theorem dX9_work_12 : decode cX9_work 12 = .ok (.aload_n 0, 1) := by decide +kernel
theorem dX9_work_13 : decode cX9_work 13 = .ok (.iconst 1, 1) := by decide +kernel
theorem dX9_work_14 : decode cX9_work 14 = .ok (.invokevirtual 158, 3) := by decide +kernel
theorem dX9_work_17 : decode cX9_work 17 = .ok (.ireturn, 1) := by decide +kernel
theorem dX9_work_18 : decode cX9_work 18 = .ok (.iload_n 2, 1) := by decide +kernel
theorem dX9_work_19 : decode cX9_work 19 = .ok (.tableswitch 93 0 4 #[33, 47, 53, 62, 76], 33) := by decide +kernel
theorem dX9_work_52 : decode cX9_work 52 = .ok (.aload_n 0, 1) := by decide +kernel
theorem dX9_work_53 : decode cX9_work 53 = .ok (.getfield 26, 3) := by decide +kernel
theorem dX9_work_56 : decode cX9_work 56 = .ok (.iconst 2, 1) := by decide +kernel
theorem dX9_work_57 : decode cX9_work 57 = .ok (.bipush 26, 2) := by decide +kernel
theorem dX9_work_59 : decode cX9_work 59 = .ok (.iload_n 1, 1) := by decide +kernel
theorem dX9_work_60 : decode cX9_work 60 = .ok (.imul, 1) := by decide +kernel
theorem dX9_work_61 : decode cX9_work 61 = .ok (.iadd, 1) := by decide +kernel
theorem dX9_work_62 : decode cX9_work 62 = .ok (.iconst 0, 1) := by decide +kernel
theorem dX9_work_63 : decode cX9_work 63 = .ok (.iadd, 1) := by decide +kernel
theorem dX9_work_64 : decode cX9_work 64 = .ok (.iaload, 1) := by decide +kernel
theorem dX9_work_65 : decode cX9_work 65 = .ok (.ireturn, 1) := by decide +kernel
theorem dX9_work_66 : decode cX9_work 66 = .ok (.aload_n 0, 1) := by decide +kernel
theorem dX9_work_67 : decode cX9_work 67 = .ok (.iload_n 1, 1) := by decide +kernel
theorem dX9_work_68 : decode cX9_work 68 = .ok (.invokevirtual 278, 3) := by decide +kernel
theorem dX9_work_71 : decode cX9_work 71 = .ok (.ireturn, 1) := by decide +kernel
theorem dX9_work_72 : decode cX9_work 72 = .ok (.aload_n 0, 1) := by decide +kernel
theorem dX9_work_73 : decode cX9_work 73 = .ok (.iload_n 1, 1) := by decide +kernel
theorem dX9_work_74 : decode cX9_work 74 = .ok (.invokevirtual 311, 3) := by decide +kernel
theorem dX9_work_77 : decode cX9_work 77 = .ok (.invokestatic 302, 3) := by decide +kernel
theorem dX9_work_80 : decode cX9_work 80 = .ok (.ireturn, 1) := by decide +kernel
theorem dX9_work_81 : decode cX9_work 81 = .ok (.aload_n 0, 1) := by decide +kernel
theorem dX9_work_82 : decode cX9_work 82 = .ok (.invokevirtual 287, 3) := by decide +kernel
theorem dX9_work_85 : decode cX9_work 85 = .ok (.aload_n 0, 1) := by decide +kernel
theorem dX9_work_86 : decode cX9_work 86 = .ok (.iload_n 1, 1) := by decide +kernel
theorem dX9_work_87 : decode cX9_work 87 = .ok (.invokevirtual 311, 3) := by decide +kernel
theorem dX9_work_90 : decode cX9_work 90 = .ok (.invokestatic 302, 3) := by decide +kernel
theorem dX9_work_93 : decode cX9_work 93 = .ok (.isub, 1) := by decide +kernel
theorem dX9_work_94 : decode cX9_work 94 = .ok (.ireturn, 1) := by decide +kernel
theorem dX9_work_95 : decode cX9_work 95 = .ok (.aload_n 0, 1) := by decide +kernel
theorem dX9_work_96 : decode cX9_work 96 = .ok (.aload_n 0, 1) := by decide +kernel
theorem dX9_work_97 : decode cX9_work 97 = .ok (.invokevirtual 299, 3) := by decide +kernel
theorem dX9_work_100 : decode cX9_work 100 = .ok (.aload_n 0, 1) := by decide +kernel
theorem dX9_work_101 : decode cX9_work 101 = .ok (.iload_n 1, 1) := by decide +kernel
theorem dX9_work_102 : decode cX9_work 102 = .ok (.invokevirtual 311, 3) := by decide +kernel
theorem dX9_work_105 : decode cX9_work 105 = .ok (.iconst (-1), 1) := by decide +kernel
theorem dX9_work_106 : decode cX9_work 106 = .ok (.ixor, 1) := by decide +kernel
theorem dX9_work_107 : decode cX9_work 107 = .ok (.iand, 1) := by decide +kernel
theorem dX9_work_108 : decode cX9_work 108 = .ok (.invokevirtual 305, 3) := by decide +kernel
theorem dX9_work_111 : decode cX9_work 111 = .ok (.ireturn, 1) := by decide +kernel
theorem dX9_work_112 : decode cX9_work 112 = .ok (.aload_n 0, 1) := by decide +kernel
theorem dX9_work_113 : decode cX9_work 113 = .ok (.iconst 1, 1) := by decide +kernel
theorem dX9_work_114 : decode cX9_work 114 = .ok (.invokevirtual 158, 3) := by decide +kernel
theorem dX9_work_117 : decode cX9_work 117 = .ok (.ireturn, 1) := by decide +kernel
theorem dX9_paint_0 : decode cX9_paint 0 = .ok (.aload_n 0, 1) := by decide +kernel
theorem dX9_paint_1 : decode cX9_paint 1 = .ok (.invokevirtual 155, 3) := by decide +kernel
theorem dX9_paint_4 : decode cX9_paint 4 = .ok (.aload_n 0, 1) := by decide +kernel
theorem dX9_paint_5 : decode cX9_paint 5 = .ok (.iload_n 1, 1) := by decide +kernel
theorem dX9_paint_6 : decode cX9_paint 6 = .ok (.invokevirtual 326, 3) := by decide +kernel
theorem dX9_paint_9 : decode cX9_paint 9 = .ok (.ifCond .eq 26, 3) := by decide +kernel
theorem dX9_paint_12 : decode cX9_paint 12 = .ok (.aload_n 0, 1) := by decide +kernel
theorem dX9_paint_13 : decode cX9_paint 13 = .ok (.iload_n 2, 1) := by decide +kernel
theorem dX9_paint_14 : decode cX9_paint 14 = .ok (.iload_n 3, 1) := by decide +kernel
theorem dX9_paint_15 : decode cX9_paint 15 = .ok (.invokevirtual 268, 3) := by decide +kernel
theorem dX9_paint_18 : decode cX9_paint 18 = .ok (.ifCond .eq 17, 3) := by decide +kernel
theorem dX9_paint_21 : decode cX9_paint 21 = .ok (.aload_n 0, 1) := by decide +kernel
theorem dX9_paint_22 : decode cX9_paint 22 = .ok (.iload_n 1, 1) := by decide +kernel
theorem dX9_paint_23 : decode cX9_paint 23 = .ok (.aload_n 0, 1) := by decide +kernel
theorem dX9_paint_24 : decode cX9_paint 24 = .ok (.iload_n 2, 1) := by decide +kernel
theorem dX9_paint_25 : decode cX9_paint 25 = .ok (.iload_n 3, 1) := by decide +kernel
theorem dX9_paint_26 : decode cX9_paint 26 = .ok (.invokevirtual 272, 3) := by decide +kernel
theorem dX9_paint_29 : decode cX9_paint 29 = .ok (.invokevirtual 262, 3) := by decide +kernel
theorem dX9_paint_32 : decode cX9_paint 32 = .ok (.goto 8, 3) := by decide +kernel
theorem dX9_paint_35 : decode cX9_paint 35 = .ok (.aload_n 0, 1) := by decide +kernel
theorem dX9_paint_36 : decode cX9_paint 36 = .ok (.iconst 1, 1) := by decide +kernel
theorem dX9_paint_37 : decode cX9_paint 37 = .ok (.invokevirtual 158, 3) := by decide +kernel
theorem dX9_paint_40 : decode cX9_paint 40 = .ok (.ireturn, 1) := by decide +kernel
theorem dX9_judged_0 : decode cX9_judged 0 = .ok (.aload_n 0, 1) := by decide +kernel
theorem dX9_judged_1 : decode cX9_judged 1 = .ok (.invokevirtual 155, 3) := by decide +kernel
theorem dX9_judged_4 : decode cX9_judged 4 = .ok (.aload_n 0, 1) := by decide +kernel
theorem dX9_judged_5 : decode cX9_judged 5 = .ok (.iload_n 1, 1) := by decide +kernel
theorem dX9_judged_6 : decode cX9_judged 6 = .ok (.invokevirtual 326, 3) := by decide +kernel
theorem dX9_judged_9 : decode cX9_judged 9 = .ok (.ifCond .eq 11, 3) := by decide +kernel
theorem dX9_judged_12 : decode cX9_judged 12 = .ok (.aload_n 0, 1) := by decide +kernel
theorem dX9_judged_13 : decode cX9_judged 13 = .ok (.iload_n 1, 1) := by decide +kernel
theorem dX9_judged_14 : decode cX9_judged 14 = .ok (.invokevirtual 320, 3) := by decide +kernel
theorem dX9_judged_17 : decode cX9_judged 17 = .ok (.goto 8, 3) := by decide +kernel
theorem dX9_judged_20 : decode cX9_judged 20 = .ok (.aload_n 0, 1) := by decide +kernel
theorem dX9_judged_21 : decode cX9_judged 21 = .ok (.iconst 1, 1) := by decide +kernel
theorem dX9_judged_22 : decode cX9_judged 22 = .ok (.invokevirtual 158, 3) := by decide +kernel
theorem dX9_judged_25 : decode cX9_judged 25 = .ok (.ireturn, 1) := by decide +kernel
theorem dX9_breaks_0 : decode cX9_breaks 0 = .ok (.aload_n 0, 1) := by decide +kernel
theorem dX9_breaks_1 : decode cX9_breaks 1 = .ok (.invokevirtual 155, 3) := by decide +kernel
theorem dX9_breaks_4 : decode cX9_breaks 4 = .ok (.aload_n 0, 1) := by decide +kernel
theorem dX9_breaks_5 : decode cX9_breaks 5 = .ok (.iload_n 1, 1) := by decide +kernel
theorem dX9_breaks_6 : decode cX9_breaks 6 = .ok (.invokevirtual 326, 3) := by decide +kernel
theorem dX9_breaks_9 : decode cX9_breaks 9 = .ok (.ifCond .eq 11, 3) := by decide +kernel
theorem dX9_breaks_12 : decode cX9_breaks 12 = .ok (.aload_n 0, 1) := by decide +kernel
theorem dX9_breaks_13 : decode cX9_breaks 13 = .ok (.iload_n 1, 1) := by decide +kernel
theorem dX9_breaks_14 : decode cX9_breaks 14 = .ok (.invokevirtual 329, 3) := by decide +kernel
theorem dX9_breaks_17 : decode cX9_breaks 17 = .ok (.goto 8, 3) := by decide +kernel
theorem dX9_breaks_20 : decode cX9_breaks 20 = .ok (.aload_n 0, 1) := by decide +kernel
theorem dX9_breaks_21 : decode cX9_breaks 21 = .ok (.iconst 1, 1) := by decide +kernel
theorem dX9_breaks_22 : decode cX9_breaks 22 = .ok (.invokevirtual 158, 3) := by decide +kernel
theorem dX9_breaks_25 : decode cX9_breaks 25 = .ok (.ireturn, 1) := by decide +kernel
theorem dX9_forged_0 : decode cX9_forged 0 = .ok (.aload_n 0, 1) := by decide +kernel
theorem dX9_forged_1 : decode cX9_forged 1 = .ok (.invokevirtual 155, 3) := by decide +kernel
theorem dX9_forged_4 : decode cX9_forged 4 = .ok (.aload_n 0, 1) := by decide +kernel
theorem dX9_forged_5 : decode cX9_forged 5 = .ok (.getfield 168, 3) := by decide +kernel
theorem dX9_forged_8 : decode cX9_forged 8 = .ok (.ifCond .ne 9, 3) := by decide +kernel
theorem dX9_forged_11 : decode cX9_forged 11 = .ok (.aload_n 0, 1) := by decide +kernel
theorem dX9_forged_12 : decode cX9_forged 12 = .ok (.iconst 1, 1) := by decide +kernel
theorem dX9_forged_13 : decode cX9_forged 13 = .ok (.invokevirtual 158, 3) := by decide +kernel
theorem dX9_forged_16 : decode cX9_forged 16 = .ok (.ireturn, 1) := by decide +kernel
theorem dX9_forged_17 : decode cX9_forged 17 = .ok (.iconst 0, 1) := by decide +kernel
theorem dX9_forged_18 : decode cX9_forged 18 = .ok (.istore_n 1, 1) := by decide +kernel
theorem dX9_forged_19 : decode cX9_forged 19 = .ok (.iload_n 1, 1) := by decide +kernel
theorem dX9_forged_20 : decode cX9_forged 20 = .ok (.aload_n 0, 1) := by decide +kernel
theorem dX9_forged_21 : decode cX9_forged 21 = .ok (.getfield 26, 3) := by decide +kernel
theorem dX9_forged_24 : decode cX9_forged 24 = .ok (.iconst 0, 1) := by decide +kernel
theorem dX9_forged_25 : decode cX9_forged 25 = .ok (.iaload, 1) := by decide +kernel
theorem dX9_forged_26 : decode cX9_forged 26 = .ok (.if_icmp .ge 21, 3) := by decide +kernel
theorem dX9_forged_29 : decode cX9_forged 29 = .ok (.aload_n 0, 1) := by decide +kernel
theorem dX9_forged_30 : decode cX9_forged 30 = .ok (.iload_n 1, 1) := by decide +kernel
theorem dX9_forged_31 : decode cX9_forged 31 = .ok (.invokevirtual 317, 3) := by decide +kernel
theorem dX9_forged_34 : decode cX9_forged 34 = .ok (.bipush (-2), 2) := by decide +kernel
theorem dX9_forged_36 : decode cX9_forged 36 = .ok (.if_icmp .eq 5, 3) := by decide +kernel
theorem dX9_forged_39 : decode cX9_forged 39 = .ok (.iload_n 1, 1) := by decide +kernel
theorem dX9_forged_40 : decode cX9_forged 40 = .ok (.ireturn, 1) := by decide +kernel
theorem dX9_forged_41 : decode cX9_forged 41 = .ok (.iinc 1 1, 3) := by decide +kernel
theorem dX9_forged_44 : decode cX9_forged 44 = .ok (.goto (-25), 3) := by decide +kernel
theorem dX9_forged_47 : decode cX9_forged 47 = .ok (.bipush (-2), 2) := by decide +kernel
theorem dX9_forged_49 : decode cX9_forged 49 = .ok (.ireturn, 1) := by decide +kernel
theorem dX9_left_0 : decode cX9_left 0 = .ok (.aload_n 0, 1) := by decide +kernel
theorem dX9_left_1 : decode cX9_left 1 = .ok (.invokevirtual 155, 3) := by decide +kernel
theorem dX9_left_4 : decode cX9_left 4 = .ok (.aload_n 0, 1) := by decide +kernel
theorem dX9_left_5 : decode cX9_left 5 = .ok (.iload_n 1, 1) := by decide +kernel
theorem dX9_left_6 : decode cX9_left 6 = .ok (.invokevirtual 326, 3) := by decide +kernel
theorem dX9_left_9 : decode cX9_left 9 = .ok (.ifCond .ne 9, 3) := by decide +kernel
theorem dX9_left_12 : decode cX9_left 12 = .ok (.aload_n 0, 1) := by decide +kernel
theorem dX9_left_13 : decode cX9_left 13 = .ok (.iconst 1, 1) := by decide +kernel
theorem dX9_left_14 : decode cX9_left 14 = .ok (.invokevirtual 158, 3) := by decide +kernel
theorem dX9_left_17 : decode cX9_left 17 = .ok (.ireturn, 1) := by decide +kernel
theorem dX9_left_18 : decode cX9_left 18 = .ok (.iconst 0, 1) := by decide +kernel
theorem dX9_left_19 : decode cX9_left 19 = .ok (.istore_n 2, 1) := by decide +kernel
theorem dX9_left_20 : decode cX9_left 20 = .ok (.iconst 0, 1) := by decide +kernel
theorem dX9_left_21 : decode cX9_left 21 = .ok (.istore_n 3, 1) := by decide +kernel
theorem dX9_left_22 : decode cX9_left 22 = .ok (.iload_n 3, 1) := by decide +kernel
theorem dX9_left_23 : decode cX9_left 23 = .ok (.aload_n 0, 1) := by decide +kernel
theorem dX9_left_24 : decode cX9_left 24 = .ok (.invokevirtual 287, 3) := by decide +kernel
theorem dX9_left_27 : decode cX9_left 27 = .ok (.if_icmp .ge 27, 3) := by decide +kernel
theorem dX9_left_30 : decode cX9_left 30 = .ok (.iload_n 2, 1) := by decide +kernel
theorem dX9_left_31 : decode cX9_left 31 = .ok (.aload_n 0, 1) := by decide +kernel
theorem dX9_left_32 : decode cX9_left 32 = .ok (.iload_n 3, 1) := by decide +kernel
theorem dX9_left_33 : decode cX9_left 33 = .ok (.iconst 0, 1) := by decide +kernel
theorem dX9_left_34 : decode cX9_left 34 = .ok (.invokevirtual 265, 3) := by decide +kernel
theorem dX9_left_37 : decode cX9_left 37 = .ok (.iload_n 1, 1) := by decide +kernel
theorem dX9_left_38 : decode cX9_left 38 = .ok (.if_icmp .ne 7, 3) := by decide +kernel
theorem dX9_left_41 : decode cX9_left 41 = .ok (.iconst 1, 1) := by decide +kernel
theorem dX9_left_42 : decode cX9_left 42 = .ok (.goto 4, 3) := by decide +kernel
theorem dX9_left_45 : decode cX9_left 45 = .ok (.iconst 0, 1) := by decide +kernel
theorem dX9_left_46 : decode cX9_left 46 = .ok (.iadd, 1) := by decide +kernel
theorem dX9_left_47 : decode cX9_left 47 = .ok (.istore_n 2, 1) := by decide +kernel
theorem dX9_left_48 : decode cX9_left 48 = .ok (.iinc 3 1, 3) := by decide +kernel
theorem dX9_left_51 : decode cX9_left 51 = .ok (.goto (-29), 3) := by decide +kernel
theorem dX9_left_54 : decode cX9_left 54 = .ok (.iload_n 2, 1) := by decide +kernel
theorem dX9_left_55 : decode cX9_left 55 = .ok (.ireturn, 1) := by decide +kernel
theorem dX9_laySure_0 : decode cX9_laySure 0 = .ok (.iconst 0, 1) := by decide +kernel
theorem dX9_laySure_1 : decode cX9_laySure 1 = .ok (.istore_n 1, 1) := by decide +kernel
theorem dX9_laySure_2 : decode cX9_laySure 2 = .ok (.iload_n 1, 1) := by decide +kernel
theorem dX9_laySure_3 : decode cX9_laySure 3 = .ok (.aload_n 0, 1) := by decide +kernel
theorem dX9_laySure_4 : decode cX9_laySure 4 = .ok (.getfield 26, 3) := by decide +kernel
theorem dX9_laySure_7 : decode cX9_laySure 7 = .ok (.iconst 0, 1) := by decide +kernel
theorem dX9_laySure_8 : decode cX9_laySure 8 = .ok (.iaload, 1) := by decide +kernel
theorem dX9_laySure_9 : decode cX9_laySure 9 = .ok (.if_icmp .ge 62, 3) := by decide +kernel
theorem dX9_laySure_12 : decode cX9_laySure 12 = .ok (.aload_n 0, 1) := by decide +kernel
theorem dX9_laySure_13 : decode cX9_laySure 13 = .ok (.getfield 41, 3) := by decide +kernel
theorem dX9_laySure_16 : decode cX9_laySure 16 = .ok (.iload_n 1, 1) := by decide +kernel
theorem dX9_laySure_17 : decode cX9_laySure 17 = .ok (.iconst 0, 1) := by decide +kernel
theorem dX9_laySure_18 : decode cX9_laySure 18 = .ok (.iastore, 1) := by decide +kernel
theorem dX9_laySure_19 : decode cX9_laySure 19 = .ok (.iconst 0, 1) := by decide +kernel
theorem dX9_laySure_20 : decode cX9_laySure 20 = .ok (.istore_n 2, 1) := by decide +kernel
theorem dX9_laySure_21 : decode cX9_laySure 21 = .ok (.iload_n 2, 1) := by decide +kernel
theorem dX9_laySure_22 : decode cX9_laySure 22 = .ok (.iload_n 1, 1) := by decide +kernel
theorem dX9_laySure_23 : decode cX9_laySure 23 = .ok (.if_icmp .ge 42, 3) := by decide +kernel
theorem dX9_laySure_26 : decode cX9_laySure 26 = .ok (.aload_n 0, 1) := by decide +kernel
theorem dX9_laySure_27 : decode cX9_laySure 27 = .ok (.iload_n 2, 1) := by decide +kernel
theorem dX9_laySure_28 : decode cX9_laySure 28 = .ok (.invokevirtual 311, 3) := by decide +kernel
theorem dX9_laySure_31 : decode cX9_laySure 31 = .ok (.aload_n 0, 1) := by decide +kernel
theorem dX9_laySure_32 : decode cX9_laySure 32 = .ok (.iload_n 1, 1) := by decide +kernel
theorem dX9_laySure_33 : decode cX9_laySure 33 = .ok (.invokevirtual 311, 3) := by decide +kernel
theorem dX9_laySure_36 : decode cX9_laySure 36 = .ok (.iand, 1) := by decide +kernel
theorem dX9_laySure_37 : decode cX9_laySure 37 = .ok (.ifCond .eq 22, 3) := by decide +kernel
theorem dX9_laySure_40 : decode cX9_laySure 40 = .ok (.aload_n 0, 1) := by decide +kernel
theorem dX9_laySure_41 : decode cX9_laySure 41 = .ok (.getfield 41, 3) := by decide +kernel
theorem dX9_laySure_44 : decode cX9_laySure 44 = .ok (.iload_n 1, 1) := by decide +kernel
theorem dX9_laySure_45 : decode cX9_laySure 45 = .ok (.dup2, 1) := by decide +kernel
theorem dX9_laySure_46 : decode cX9_laySure 46 = .ok (.iaload, 1) := by decide +kernel
theorem dX9_laySure_47 : decode cX9_laySure 47 = .ok (.iconst 1, 1) := by decide +kernel
theorem dX9_laySure_48 : decode cX9_laySure 48 = .ok (.iload_n 2, 1) := by decide +kernel
theorem dX9_laySure_49 : decode cX9_laySure 49 = .ok (.ishl, 1) := by decide +kernel
theorem dX9_laySure_50 : decode cX9_laySure 50 = .ok (.aload_n 0, 1) := by decide +kernel
theorem dX9_laySure_51 : decode cX9_laySure 51 = .ok (.getfield 41, 3) := by decide +kernel
theorem dX9_laySure_54 : decode cX9_laySure 54 = .ok (.iload_n 2, 1) := by decide +kernel
theorem dX9_laySure_55 : decode cX9_laySure 55 = .ok (.iaload, 1) := by decide +kernel
theorem dX9_laySure_56 : decode cX9_laySure 56 = .ok (.ior, 1) := by decide +kernel
theorem dX9_laySure_57 : decode cX9_laySure 57 = .ok (.ior, 1) := by decide +kernel
theorem dX9_laySure_58 : decode cX9_laySure 58 = .ok (.iastore, 1) := by decide +kernel
theorem dX9_laySure_59 : decode cX9_laySure 59 = .ok (.iinc 2 1, 3) := by decide +kernel
theorem dX9_laySure_62 : decode cX9_laySure 62 = .ok (.goto (-41), 3) := by decide +kernel
theorem dX9_laySure_65 : decode cX9_laySure 65 = .ok (.iinc 1 1, 3) := by decide +kernel
theorem dX9_laySure_68 : decode cX9_laySure 68 = .ok (.goto (-66), 3) := by decide +kernel
theorem dX9_laySure_71 : decode cX9_laySure 71 = .ok (.return_, 1) := by decide +kernel
theorem dX9_before_0 : decode cX9_before 0 = .ok (.aload_n 0, 1) := by decide +kernel
theorem dX9_before_1 : decode cX9_before 1 = .ok (.invokevirtual 155, 3) := by decide +kernel
theorem dX9_before_4 : decode cX9_before 4 = .ok (.aload_n 0, 1) := by decide +kernel
theorem dX9_before_5 : decode cX9_before 5 = .ok (.iload_n 1, 1) := by decide +kernel
theorem dX9_before_6 : decode cX9_before 6 = .ok (.invokevirtual 326, 3) := by decide +kernel
theorem dX9_before_9 : decode cX9_before 9 = .ok (.ifCond .eq 16, 3) := by decide +kernel
theorem dX9_before_12 : decode cX9_before 12 = .ok (.aload_n 0, 1) := by decide +kernel
theorem dX9_before_13 : decode cX9_before 13 = .ok (.iload_n 2, 1) := by decide +kernel
theorem dX9_before_14 : decode cX9_before 14 = .ok (.invokevirtual 326, 3) := by decide +kernel
theorem dX9_before_17 : decode cX9_before 17 = .ok (.ifCond .eq 8, 3) := by decide +kernel
theorem dX9_before_20 : decode cX9_before 20 = .ok (.iload_n 1, 1) := by decide +kernel
theorem dX9_before_21 : decode cX9_before 21 = .ok (.iload_n 2, 1) := by decide +kernel
theorem dX9_before_22 : decode cX9_before 22 = .ok (.if_icmp .ne 9, 3) := by decide +kernel
theorem dX9_before_25 : decode cX9_before 25 = .ok (.aload_n 0, 1) := by decide +kernel
theorem dX9_before_26 : decode cX9_before 26 = .ok (.iconst 1, 1) := by decide +kernel
theorem dX9_before_27 : decode cX9_before 27 = .ok (.invokevirtual 158, 3) := by decide +kernel
theorem dX9_before_30 : decode cX9_before 30 = .ok (.ireturn, 1) := by decide +kernel
theorem dX9_before_31 : decode cX9_before 31 = .ok (.aload_n 0, 1) := by decide +kernel
theorem dX9_before_32 : decode cX9_before 32 = .ok (.invokevirtual 332, 3) := by decide +kernel
theorem dX9_before_35 : decode cX9_before 35 = .ok (.aload_n 0, 1) := by decide +kernel
theorem dX9_before_36 : decode cX9_before 36 = .ok (.getfield 41, 3) := by decide +kernel
theorem dX9_before_39 : decode cX9_before 39 = .ok (.iload_n 2, 1) := by decide +kernel
theorem dX9_before_40 : decode cX9_before 40 = .ok (.iaload, 1) := by decide +kernel
theorem dX9_before_41 : decode cX9_before 41 = .ok (.iload_n 1, 1) := by decide +kernel
theorem dX9_before_42 : decode cX9_before 42 = .ok (.invokestatic 290, 3) := by decide +kernel
theorem dX9_before_45 : decode cX9_before 45 = .ok (.ifCond .eq 7, 3) := by decide +kernel
theorem dX9_before_48 : decode cX9_before 48 = .ok (.iconst 1, 1) := by decide +kernel
theorem dX9_before_49 : decode cX9_before 49 = .ok (.goto 4, 3) := by decide +kernel
theorem dX9_before_52 : decode cX9_before 52 = .ok (.iconst 0, 1) := by decide +kernel
theorem dX9_before_53 : decode cX9_before 53 = .ok (.ireturn, 1) := by decide +kernel
theorem dX9_untold_0 : decode cX9_untold 0 = .ok (.aload_n 0, 1) := by decide +kernel
theorem dX9_untold_1 : decode cX9_untold 1 = .ok (.invokevirtual 155, 3) := by decide +kernel
theorem dX9_untold_4 : decode cX9_untold 4 = .ok (.aload_n 0, 1) := by decide +kernel
theorem dX9_untold_5 : decode cX9_untold 5 = .ok (.getfield 168, 3) := by decide +kernel
theorem dX9_untold_8 : decode cX9_untold 8 = .ok (.ifCond .ne 9, 3) := by decide +kernel
theorem dX9_untold_11 : decode cX9_untold 11 = .ok (.aload_n 0, 1) := by decide +kernel
theorem dX9_untold_12 : decode cX9_untold 12 = .ok (.iconst 1, 1) := by decide +kernel
theorem dX9_untold_13 : decode cX9_untold 13 = .ok (.invokevirtual 158, 3) := by decide +kernel
theorem dX9_untold_16 : decode cX9_untold 16 = .ok (.ireturn, 1) := by decide +kernel
theorem dX9_untold_17 : decode cX9_untold 17 = .ok (.aload_n 0, 1) := by decide +kernel
theorem dX9_untold_18 : decode cX9_untold 18 = .ok (.invokevirtual 332, 3) := by decide +kernel
theorem dX9_untold_21 : decode cX9_untold 21 = .ok (.iconst 0, 1) := by decide +kernel
theorem dX9_untold_22 : decode cX9_untold 22 = .ok (.istore_n 1, 1) := by decide +kernel
theorem dX9_untold_23 : decode cX9_untold 23 = .ok (.iconst 0, 1) := by decide +kernel
theorem dX9_untold_24 : decode cX9_untold 24 = .ok (.istore_n 2, 1) := by decide +kernel
theorem dX9_untold_25 : decode cX9_untold 25 = .ok (.iload_n 2, 1) := by decide +kernel
theorem dX9_untold_26 : decode cX9_untold 26 = .ok (.aload_n 0, 1) := by decide +kernel
theorem dX9_untold_27 : decode cX9_untold 27 = .ok (.getfield 26, 3) := by decide +kernel
theorem dX9_untold_30 : decode cX9_untold 30 = .ok (.iconst 0, 1) := by decide +kernel
theorem dX9_untold_31 : decode cX9_untold 31 = .ok (.iaload, 1) := by decide +kernel
theorem dX9_untold_32 : decode cX9_untold 32 = .ok (.if_icmp .ge 23, 3) := by decide +kernel
theorem dX9_untold_35 : decode cX9_untold 35 = .ok (.iload_n 1, 1) := by decide +kernel
theorem dX9_untold_36 : decode cX9_untold 36 = .ok (.iload_n 2, 1) := by decide +kernel
theorem dX9_untold_37 : decode cX9_untold 37 = .ok (.aload_n 0, 1) := by decide +kernel
theorem dX9_untold_38 : decode cX9_untold 38 = .ok (.getfield 41, 3) := by decide +kernel
theorem dX9_untold_41 : decode cX9_untold 41 = .ok (.iload_n 2, 1) := by decide +kernel
theorem dX9_untold_42 : decode cX9_untold 42 = .ok (.iaload, 1) := by decide +kernel
theorem dX9_untold_43 : decode cX9_untold 43 = .ok (.invokestatic 302, 3) := by decide +kernel
theorem dX9_untold_46 : decode cX9_untold 46 = .ok (.isub, 1) := by decide +kernel
theorem dX9_untold_47 : decode cX9_untold 47 = .ok (.iadd, 1) := by decide +kernel
theorem dX9_untold_48 : decode cX9_untold 48 = .ok (.istore_n 1, 1) := by decide +kernel
theorem dX9_untold_49 : decode cX9_untold 49 = .ok (.iinc 2 1, 3) := by decide +kernel
theorem dX9_untold_52 : decode cX9_untold 52 = .ok (.goto (-27), 3) := by decide +kernel
theorem dX9_untold_55 : decode cX9_untold 55 = .ok (.iload_n 1, 1) := by decide +kernel
theorem dX9_untold_56 : decode cX9_untold 56 = .ok (.ireturn, 1) := by decide +kernel
theorem dX9_orders_0 : decode cX9_orders 0 = .ok (.aload_n 0, 1) := by decide +kernel
theorem dX9_orders_1 : decode cX9_orders 1 = .ok (.invokevirtual 155, 3) := by decide +kernel
theorem dX9_orders_4 : decode cX9_orders 4 = .ok (.aload_n 0, 1) := by decide +kernel
theorem dX9_orders_5 : decode cX9_orders 5 = .ok (.getfield 168, 3) := by decide +kernel
theorem dX9_orders_8 : decode cX9_orders 8 = .ok (.ifCond .ne 10, 3) := by decide +kernel
theorem dX9_orders_11 : decode cX9_orders 11 = .ok (.aload_n 0, 1) := by decide +kernel
theorem dX9_orders_12 : decode cX9_orders 12 = .ok (.iconst 1, 1) := by decide +kernel
theorem dX9_orders_13 : decode cX9_orders 13 = .ok (.invokevirtual 158, 3) := by decide +kernel
theorem dX9_orders_16 : decode cX9_orders 16 = .ok (.i2l, 1) := by decide +kernel
theorem dX9_orders_17 : decode cX9_orders 17 = .ok (.lreturn, 1) := by decide +kernel
theorem dX9_orders_18 : decode cX9_orders 18 = .ok (.aload_n 0, 1) := by decide +kernel
theorem dX9_orders_19 : decode cX9_orders 19 = .ok (.invokevirtual 332, 3) := by decide +kernel
theorem dX9_orders_22 : decode cX9_orders 22 = .ok (.aload_n 0, 1) := by decide +kernel
theorem dX9_orders_23 : decode cX9_orders 23 = .ok (.getfield 44, 3) := by decide +kernel
theorem dX9_orders_26 : decode cX9_orders 26 = .ok (.iconst 0, 1) := by decide +kernel
theorem dX9_orders_27 : decode cX9_orders 27 = .ok (.lconst 1, 1) := by decide +kernel
theorem dX9_orders_28 : decode cX9_orders 28 = .ok (.lastore, 1) := by decide +kernel
theorem dX9_orders_29 : decode cX9_orders 29 = .ok (.iconst 1, 1) := by decide +kernel
theorem dX9_orders_30 : decode cX9_orders 30 = .ok (.aload_n 0, 1) := by decide +kernel
theorem dX9_orders_31 : decode cX9_orders 31 = .ok (.getfield 26, 3) := by decide +kernel
theorem dX9_orders_34 : decode cX9_orders 34 = .ok (.iconst 0, 1) := by decide +kernel
theorem dX9_orders_35 : decode cX9_orders 35 = .ok (.iaload, 1) := by decide +kernel
theorem dX9_orders_36 : decode cX9_orders 36 = .ok (.ishl, 1) := by decide +kernel
theorem dX9_orders_37 : decode cX9_orders 37 = .ok (.iconst 1, 1) := by decide +kernel
theorem dX9_orders_38 : decode cX9_orders 38 = .ok (.isub, 1) := by decide +kernel
theorem dX9_orders_39 : decode cX9_orders 39 = .ok (.istore_n 1, 1) := by decide +kernel
theorem dX9_orders_40 : decode cX9_orders 40 = .ok (.iconst 1, 1) := by decide +kernel
theorem dX9_orders_41 : decode cX9_orders 41 = .ok (.istore_n 2, 1) := by decide +kernel
theorem dX9_orders_42 : decode cX9_orders 42 = .ok (.iload_n 2, 1) := by decide +kernel
theorem dX9_orders_43 : decode cX9_orders 43 = .ok (.iload_n 1, 1) := by decide +kernel
theorem dX9_orders_44 : decode cX9_orders 44 = .ok (.if_icmp .gt 81, 3) := by decide +kernel
theorem dX9_orders_47 : decode cX9_orders 47 = .ok (.aload_n 0, 1) := by decide +kernel
theorem dX9_orders_48 : decode cX9_orders 48 = .ok (.getfield 44, 3) := by decide +kernel
theorem dX9_orders_51 : decode cX9_orders 51 = .ok (.iload_n 2, 1) := by decide +kernel
theorem dX9_orders_52 : decode cX9_orders 52 = .ok (.lconst 0, 1) := by decide +kernel
theorem dX9_orders_53 : decode cX9_orders 53 = .ok (.lastore, 1) := by decide +kernel
theorem dX9_orders_54 : decode cX9_orders 54 = .ok (.iconst 0, 1) := by decide +kernel
theorem dX9_orders_55 : decode cX9_orders 55 = .ok (.istore_n 3, 1) := by decide +kernel
theorem dX9_orders_56 : decode cX9_orders 56 = .ok (.iload_n 3, 1) := by decide +kernel
theorem dX9_orders_57 : decode cX9_orders 57 = .ok (.aload_n 0, 1) := by decide +kernel
theorem dX9_orders_58 : decode cX9_orders 58 = .ok (.getfield 26, 3) := by decide +kernel
theorem dX9_orders_61 : decode cX9_orders 61 = .ok (.iconst 0, 1) := by decide +kernel
theorem dX9_orders_62 : decode cX9_orders 62 = .ok (.iaload, 1) := by decide +kernel
theorem dX9_orders_63 : decode cX9_orders 63 = .ok (.if_icmp .ge 56, 3) := by decide +kernel
theorem dX9_orders_66 : decode cX9_orders 66 = .ok (.iload_n 2, 1) := by decide +kernel
theorem dX9_orders_67 : decode cX9_orders 67 = .ok (.iconst 1, 1) := by decide +kernel
theorem dX9_orders_68 : decode cX9_orders 68 = .ok (.iload_n 3, 1) := by decide +kernel
theorem dX9_orders_69 : decode cX9_orders 69 = .ok (.ishl, 1) := by decide +kernel
theorem dX9_orders_70 : decode cX9_orders 70 = .ok (.iconst (-1), 1) := by decide +kernel
theorem dX9_orders_71 : decode cX9_orders 71 = .ok (.ixor, 1) := by decide +kernel
theorem dX9_orders_72 : decode cX9_orders 72 = .ok (.iand, 1) := by decide +kernel
theorem dX9_orders_73 : decode cX9_orders 73 = .ok (.istore 4, 2) := by decide +kernel
theorem dX9_orders_75 : decode cX9_orders 75 = .ok (.iload_n 2, 1) := by decide +kernel
theorem dX9_orders_76 : decode cX9_orders 76 = .ok (.iload_n 3, 1) := by decide +kernel
theorem dX9_orders_77 : decode cX9_orders 77 = .ok (.invokestatic 290, 3) := by decide +kernel
theorem dX9_orders_80 : decode cX9_orders 80 = .ok (.ifCond .eq 33, 3) := by decide +kernel
theorem dX9_orders_83 : decode cX9_orders 83 = .ok (.aload_n 0, 1) := by decide +kernel
theorem dX9_orders_84 : decode cX9_orders 84 = .ok (.getfield 41, 3) := by decide +kernel
theorem dX9_orders_87 : decode cX9_orders 87 = .ok (.iload_n 3, 1) := by decide +kernel
theorem dX9_orders_88 : decode cX9_orders 88 = .ok (.iaload, 1) := by decide +kernel
theorem dX9_orders_89 : decode cX9_orders 89 = .ok (.iload 4, 2) := by decide +kernel
theorem dX9_orders_91 : decode cX9_orders 91 = .ok (.iconst (-1), 1) := by decide +kernel
theorem dX9_orders_92 : decode cX9_orders 92 = .ok (.ixor, 1) := by decide +kernel
theorem dX9_orders_93 : decode cX9_orders 93 = .ok (.iand, 1) := by decide +kernel
theorem dX9_orders_94 : decode cX9_orders 94 = .ok (.ifCond .ne 19, 3) := by decide +kernel
theorem dX9_orders_97 : decode cX9_orders 97 = .ok (.aload_n 0, 1) := by decide +kernel
theorem dX9_orders_98 : decode cX9_orders 98 = .ok (.getfield 44, 3) := by decide +kernel
theorem dX9_orders_101 : decode cX9_orders 101 = .ok (.iload_n 2, 1) := by decide +kernel
theorem dX9_orders_102 : decode cX9_orders 102 = .ok (.dup2, 1) := by decide +kernel
theorem dX9_orders_103 : decode cX9_orders 103 = .ok (.laload, 1) := by decide +kernel
theorem dX9_orders_104 : decode cX9_orders 104 = .ok (.aload_n 0, 1) := by decide +kernel
theorem dX9_orders_105 : decode cX9_orders 105 = .ok (.getfield 44, 3) := by decide +kernel
theorem dX9_orders_108 : decode cX9_orders 108 = .ok (.iload 4, 2) := by decide +kernel
theorem dX9_orders_110 : decode cX9_orders 110 = .ok (.laload, 1) := by decide +kernel
theorem dX9_orders_111 : decode cX9_orders 111 = .ok (.ladd, 1) := by decide +kernel
theorem dX9_orders_112 : decode cX9_orders 112 = .ok (.lastore, 1) := by decide +kernel
theorem dX9_orders_113 : decode cX9_orders 113 = .ok (.iinc 3 1, 3) := by decide +kernel
theorem dX9_orders_116 : decode cX9_orders 116 = .ok (.goto (-60), 3) := by decide +kernel
theorem dX9_orders_119 : decode cX9_orders 119 = .ok (.iinc 2 1, 3) := by decide +kernel
theorem dX9_orders_122 : decode cX9_orders 122 = .ok (.goto (-80), 3) := by decide +kernel
theorem dX9_orders_125 : decode cX9_orders 125 = .ok (.aload_n 0, 1) := by decide +kernel
theorem dX9_orders_126 : decode cX9_orders 126 = .ok (.getfield 44, 3) := by decide +kernel
theorem dX9_orders_129 : decode cX9_orders 129 = .ok (.iload_n 1, 1) := by decide +kernel
theorem dX9_orders_130 : decode cX9_orders 130 = .ok (.laload, 1) := by decide +kernel
theorem dX9_orders_131 : decode cX9_orders 131 = .ok (.lreturn, 1) := by decide +kernel
theorem dX9_ahead_0 : decode cX9_ahead 0 = .ok (.aload_n 0, 1) := by decide +kernel
theorem dX9_ahead_1 : decode cX9_ahead 1 = .ok (.invokevirtual 155, 3) := by decide +kernel
theorem dX9_ahead_4 : decode cX9_ahead 4 = .ok (.aload_n 0, 1) := by decide +kernel
theorem dX9_ahead_5 : decode cX9_ahead 5 = .ok (.iload_n 1, 1) := by decide +kernel
theorem dX9_ahead_6 : decode cX9_ahead 6 = .ok (.invokevirtual 326, 3) := by decide +kernel
theorem dX9_ahead_9 : decode cX9_ahead 9 = .ok (.ifCond .eq 16, 3) := by decide +kernel
theorem dX9_ahead_12 : decode cX9_ahead 12 = .ok (.aload_n 0, 1) := by decide +kernel
theorem dX9_ahead_13 : decode cX9_ahead 13 = .ok (.iload_n 2, 1) := by decide +kernel
theorem dX9_ahead_14 : decode cX9_ahead 14 = .ok (.invokevirtual 326, 3) := by decide +kernel
theorem dX9_ahead_17 : decode cX9_ahead 17 = .ok (.ifCond .eq 8, 3) := by decide +kernel
theorem dX9_ahead_20 : decode cX9_ahead 20 = .ok (.iload_n 1, 1) := by decide +kernel
theorem dX9_ahead_21 : decode cX9_ahead 21 = .ok (.iload_n 2, 1) := by decide +kernel
theorem dX9_ahead_22 : decode cX9_ahead 22 = .ok (.if_icmp .ne 10, 3) := by decide +kernel
theorem dX9_ahead_25 : decode cX9_ahead 25 = .ok (.aload_n 0, 1) := by decide +kernel
theorem dX9_ahead_26 : decode cX9_ahead 26 = .ok (.iconst 1, 1) := by decide +kernel
theorem dX9_ahead_27 : decode cX9_ahead 27 = .ok (.invokevirtual 158, 3) := by decide +kernel
theorem dX9_ahead_30 : decode cX9_ahead 30 = .ok (.i2l, 1) := by decide +kernel
theorem dX9_ahead_31 : decode cX9_ahead 31 = .ok (.lreturn, 1) := by decide +kernel
theorem dX9_ahead_32 : decode cX9_ahead 32 = .ok (.aload_n 0, 1) := by decide +kernel
theorem dX9_ahead_33 : decode cX9_ahead 33 = .ok (.invokevirtual 332, 3) := by decide +kernel
theorem dX9_ahead_36 : decode cX9_ahead 36 = .ok (.aload_n 0, 1) := by decide +kernel
theorem dX9_ahead_37 : decode cX9_ahead 37 = .ok (.getfield 44, 3) := by decide +kernel
theorem dX9_ahead_40 : decode cX9_ahead 40 = .ok (.iconst 0, 1) := by decide +kernel
theorem dX9_ahead_41 : decode cX9_ahead 41 = .ok (.lconst 1, 1) := by decide +kernel
theorem dX9_ahead_42 : decode cX9_ahead 42 = .ok (.lastore, 1) := by decide +kernel
theorem dX9_ahead_43 : decode cX9_ahead 43 = .ok (.iconst 1, 1) := by decide +kernel
theorem dX9_ahead_44 : decode cX9_ahead 44 = .ok (.aload_n 0, 1) := by decide +kernel
theorem dX9_ahead_45 : decode cX9_ahead 45 = .ok (.getfield 26, 3) := by decide +kernel
theorem dX9_ahead_48 : decode cX9_ahead 48 = .ok (.iconst 0, 1) := by decide +kernel
theorem dX9_ahead_49 : decode cX9_ahead 49 = .ok (.iaload, 1) := by decide +kernel
theorem dX9_ahead_50 : decode cX9_ahead 50 = .ok (.ishl, 1) := by decide +kernel
theorem dX9_ahead_51 : decode cX9_ahead 51 = .ok (.iconst 1, 1) := by decide +kernel
theorem dX9_ahead_52 : decode cX9_ahead 52 = .ok (.isub, 1) := by decide +kernel
theorem dX9_ahead_53 : decode cX9_ahead 53 = .ok (.istore_n 3, 1) := by decide +kernel
theorem dX9_ahead_54 : decode cX9_ahead 54 = .ok (.iconst 1, 1) := by decide +kernel
theorem dX9_ahead_55 : decode cX9_ahead 55 = .ok (.istore 4, 2) := by decide +kernel
theorem dX9_ahead_57 : decode cX9_ahead 57 = .ok (.iload 4, 2) := by decide +kernel
theorem dX9_ahead_59 : decode cX9_ahead 59 = .ok (.iload_n 3, 1) := by decide +kernel
theorem dX9_ahead_60 : decode cX9_ahead 60 = .ok (.if_icmp .gt 105, 3) := by decide +kernel
theorem dX9_ahead_63 : decode cX9_ahead 63 = .ok (.aload_n 0, 1) := by decide +kernel
theorem dX9_ahead_64 : decode cX9_ahead 64 = .ok (.getfield 44, 3) := by decide +kernel
theorem dX9_ahead_67 : decode cX9_ahead 67 = .ok (.iload 4, 2) := by decide +kernel
theorem dX9_ahead_69 : decode cX9_ahead 69 = .ok (.lconst 0, 1) := by decide +kernel
theorem dX9_ahead_70 : decode cX9_ahead 70 = .ok (.lastore, 1) := by decide +kernel
theorem dX9_ahead_71 : decode cX9_ahead 71 = .ok (.iconst 0, 1) := by decide +kernel
theorem dX9_ahead_72 : decode cX9_ahead 72 = .ok (.istore 5, 2) := by decide +kernel
theorem dX9_ahead_74 : decode cX9_ahead 74 = .ok (.iload 5, 2) := by decide +kernel
theorem dX9_ahead_76 : decode cX9_ahead 76 = .ok (.aload_n 0, 1) := by decide +kernel
theorem dX9_ahead_77 : decode cX9_ahead 77 = .ok (.getfield 26, 3) := by decide +kernel
theorem dX9_ahead_80 : decode cX9_ahead 80 = .ok (.iconst 0, 1) := by decide +kernel
theorem dX9_ahead_81 : decode cX9_ahead 81 = .ok (.iaload, 1) := by decide +kernel
theorem dX9_ahead_82 : decode cX9_ahead 82 = .ok (.if_icmp .ge 77, 3) := by decide +kernel
theorem dX9_ahead_85 : decode cX9_ahead 85 = .ok (.iload 4, 2) := by decide +kernel
theorem dX9_ahead_87 : decode cX9_ahead 87 = .ok (.iconst 1, 1) := by decide +kernel
theorem dX9_ahead_88 : decode cX9_ahead 88 = .ok (.iload 5, 2) := by decide +kernel
theorem dX9_ahead_90 : decode cX9_ahead 90 = .ok (.ishl, 1) := by decide +kernel
theorem dX9_ahead_91 : decode cX9_ahead 91 = .ok (.iconst (-1), 1) := by decide +kernel
theorem dX9_ahead_92 : decode cX9_ahead 92 = .ok (.ixor, 1) := by decide +kernel
theorem dX9_ahead_93 : decode cX9_ahead 93 = .ok (.iand, 1) := by decide +kernel
theorem dX9_ahead_94 : decode cX9_ahead 94 = .ok (.istore 6, 2) := by decide +kernel
theorem dX9_ahead_96 : decode cX9_ahead 96 = .ok (.iload 4, 2) := by decide +kernel
theorem dX9_ahead_98 : decode cX9_ahead 98 = .ok (.iload 5, 2) := by decide +kernel
theorem dX9_ahead_100 : decode cX9_ahead 100 = .ok (.invokestatic 290, 3) := by decide +kernel
theorem dX9_ahead_103 : decode cX9_ahead 103 = .ok (.ifCond .eq 50, 3) := by decide +kernel
theorem dX9_ahead_106 : decode cX9_ahead 106 = .ok (.aload_n 0, 1) := by decide +kernel
theorem dX9_ahead_107 : decode cX9_ahead 107 = .ok (.getfield 41, 3) := by decide +kernel
theorem dX9_ahead_110 : decode cX9_ahead 110 = .ok (.iload 5, 2) := by decide +kernel
theorem dX9_ahead_112 : decode cX9_ahead 112 = .ok (.iaload, 1) := by decide +kernel
theorem dX9_ahead_113 : decode cX9_ahead 113 = .ok (.iload 6, 2) := by decide +kernel
theorem dX9_ahead_115 : decode cX9_ahead 115 = .ok (.iconst (-1), 1) := by decide +kernel
theorem dX9_ahead_116 : decode cX9_ahead 116 = .ok (.ixor, 1) := by decide +kernel
theorem dX9_ahead_117 : decode cX9_ahead 117 = .ok (.iand, 1) := by decide +kernel
theorem dX9_ahead_118 : decode cX9_ahead 118 = .ok (.ifCond .ne 35, 3) := by decide +kernel
theorem dX9_ahead_121 : decode cX9_ahead 121 = .ok (.iload 5, 2) := by decide +kernel
theorem dX9_ahead_123 : decode cX9_ahead 123 = .ok (.iload_n 2, 1) := by decide +kernel
theorem dX9_ahead_124 : decode cX9_ahead 124 = .ok (.if_icmp .ne 12, 3) := by decide +kernel
theorem dX9_ahead_127 : decode cX9_ahead 127 = .ok (.iload 6, 2) := by decide +kernel
theorem dX9_ahead_129 : decode cX9_ahead 129 = .ok (.iload_n 1, 1) := by decide +kernel
theorem dX9_ahead_130 : decode cX9_ahead 130 = .ok (.invokestatic 290, 3) := by decide +kernel
theorem dX9_ahead_133 : decode cX9_ahead 133 = .ok (.ifCond .eq 20, 3) := by decide +kernel
theorem dX9_ahead_136 : decode cX9_ahead 136 = .ok (.aload_n 0, 1) := by decide +kernel
theorem dX9_ahead_137 : decode cX9_ahead 137 = .ok (.getfield 44, 3) := by decide +kernel
theorem dX9_ahead_140 : decode cX9_ahead 140 = .ok (.iload 4, 2) := by decide +kernel
theorem dX9_ahead_142 : decode cX9_ahead 142 = .ok (.dup2, 1) := by decide +kernel
theorem dX9_ahead_143 : decode cX9_ahead 143 = .ok (.laload, 1) := by decide +kernel
theorem dX9_ahead_144 : decode cX9_ahead 144 = .ok (.aload_n 0, 1) := by decide +kernel
theorem dX9_ahead_145 : decode cX9_ahead 145 = .ok (.getfield 44, 3) := by decide +kernel
theorem dX9_ahead_148 : decode cX9_ahead 148 = .ok (.iload 6, 2) := by decide +kernel
theorem dX9_ahead_150 : decode cX9_ahead 150 = .ok (.laload, 1) := by decide +kernel
theorem dX9_ahead_151 : decode cX9_ahead 151 = .ok (.ladd, 1) := by decide +kernel
theorem dX9_ahead_152 : decode cX9_ahead 152 = .ok (.lastore, 1) := by decide +kernel
theorem dX9_ahead_153 : decode cX9_ahead 153 = .ok (.iinc 5 1, 3) := by decide +kernel
theorem dX9_ahead_156 : decode cX9_ahead 156 = .ok (.goto (-82), 3) := by decide +kernel
theorem dX9_ahead_159 : decode cX9_ahead 159 = .ok (.iinc 4 1, 3) := by decide +kernel
theorem dX9_ahead_162 : decode cX9_ahead 162 = .ok (.goto (-105), 3) := by decide +kernel
theorem dX9_ahead_165 : decode cX9_ahead 165 = .ok (.aload_n 0, 1) := by decide +kernel
theorem dX9_ahead_166 : decode cX9_ahead 166 = .ok (.getfield 44, 3) := by decide +kernel
theorem dX9_ahead_169 : decode cX9_ahead 169 = .ok (.iload_n 3, 1) := by decide +kernel
theorem dX9_ahead_170 : decode cX9_ahead 170 = .ok (.laload, 1) := by decide +kernel
theorem dX9_ahead_171 : decode cX9_ahead 171 = .ok (.lreturn, 1) := by decide +kernel
theorem dX9_placed_0 : decode cX9_placed 0 = .ok (.aload_n 0, 1) := by decide +kernel
theorem dX9_placed_1 : decode cX9_placed 1 = .ok (.invokevirtual 155, 3) := by decide +kernel
theorem dX9_placed_4 : decode cX9_placed 4 = .ok (.aload_n 0, 1) := by decide +kernel
theorem dX9_placed_5 : decode cX9_placed 5 = .ok (.iload_n 1, 1) := by decide +kernel
theorem dX9_placed_6 : decode cX9_placed 6 = .ok (.invokevirtual 326, 3) := by decide +kernel
theorem dX9_placed_9 : decode cX9_placed 9 = .ok (.ifCond .ne 9, 3) := by decide +kernel
theorem dX9_placed_12 : decode cX9_placed 12 = .ok (.aload_n 0, 1) := by decide +kernel
theorem dX9_placed_13 : decode cX9_placed 13 = .ok (.iconst 1, 1) := by decide +kernel
theorem dX9_placed_14 : decode cX9_placed 14 = .ok (.invokevirtual 158, 3) := by decide +kernel
theorem dX9_placed_17 : decode cX9_placed 17 = .ok (.ireturn, 1) := by decide +kernel
theorem dX9_placed_18 : decode cX9_placed 18 = .ok (.aload_n 0, 1) := by decide +kernel
theorem dX9_placed_19 : decode cX9_placed 19 = .ok (.invokevirtual 332, 3) := by decide +kernel
theorem dX9_placed_22 : decode cX9_placed 22 = .ok (.iload_n 2, 1) := by decide +kernel
theorem dX9_placed_23 : decode cX9_placed 23 = .ok (.ifCond .ne 13, 3) := by decide +kernel
theorem dX9_placed_26 : decode cX9_placed 26 = .ok (.aload_n 0, 1) := by decide +kernel
theorem dX9_placed_27 : decode cX9_placed 27 = .ok (.getfield 41, 3) := by decide +kernel
theorem dX9_placed_30 : decode cX9_placed 30 = .ok (.iload_n 1, 1) := by decide +kernel
theorem dX9_placed_31 : decode cX9_placed 31 = .ok (.iaload, 1) := by decide +kernel
theorem dX9_placed_32 : decode cX9_placed 32 = .ok (.invokestatic 302, 3) := by decide +kernel
theorem dX9_placed_35 : decode cX9_placed 35 = .ok (.ireturn, 1) := by decide +kernel
theorem dX9_placed_36 : decode cX9_placed 36 = .ok (.iconst 0, 1) := by decide +kernel
theorem dX9_placed_37 : decode cX9_placed 37 = .ok (.istore_n 3, 1) := by decide +kernel
theorem dX9_placed_38 : decode cX9_placed 38 = .ok (.iconst 0, 1) := by decide +kernel
theorem dX9_placed_39 : decode cX9_placed 39 = .ok (.istore 4, 2) := by decide +kernel
theorem dX9_placed_41 : decode cX9_placed 41 = .ok (.iload 4, 2) := by decide +kernel
theorem dX9_placed_43 : decode cX9_placed 43 = .ok (.aload_n 0, 1) := by decide +kernel
theorem dX9_placed_44 : decode cX9_placed 44 = .ok (.getfield 26, 3) := by decide +kernel
theorem dX9_placed_47 : decode cX9_placed 47 = .ok (.iconst 0, 1) := by decide +kernel
theorem dX9_placed_48 : decode cX9_placed 48 = .ok (.iaload, 1) := by decide +kernel
theorem dX9_placed_49 : decode cX9_placed 49 = .ok (.if_icmp .ge 31, 3) := by decide +kernel
theorem dX9_placed_52 : decode cX9_placed 52 = .ok (.iload_n 3, 1) := by decide +kernel
theorem dX9_placed_53 : decode cX9_placed 53 = .ok (.aload_n 0, 1) := by decide +kernel
theorem dX9_placed_54 : decode cX9_placed 54 = .ok (.getfield 41, 3) := by decide +kernel
theorem dX9_placed_57 : decode cX9_placed 57 = .ok (.iload 4, 2) := by decide +kernel
theorem dX9_placed_59 : decode cX9_placed 59 = .ok (.iaload, 1) := by decide +kernel
theorem dX9_placed_60 : decode cX9_placed 60 = .ok (.iload_n 1, 1) := by decide +kernel
theorem dX9_placed_61 : decode cX9_placed 61 = .ok (.invokestatic 290, 3) := by decide +kernel
theorem dX9_placed_64 : decode cX9_placed 64 = .ok (.ifCond .eq 7, 3) := by decide +kernel
theorem dX9_placed_67 : decode cX9_placed 67 = .ok (.iconst 1, 1) := by decide +kernel
theorem dX9_placed_68 : decode cX9_placed 68 = .ok (.goto 4, 3) := by decide +kernel
theorem dX9_placed_71 : decode cX9_placed 71 = .ok (.iconst 0, 1) := by decide +kernel
theorem dX9_placed_72 : decode cX9_placed 72 = .ok (.iadd, 1) := by decide +kernel
theorem dX9_placed_73 : decode cX9_placed 73 = .ok (.istore_n 3, 1) := by decide +kernel
theorem dX9_placed_74 : decode cX9_placed 74 = .ok (.iinc 4 1, 3) := by decide +kernel
theorem dX9_placed_77 : decode cX9_placed 77 = .ok (.goto (-36), 3) := by decide +kernel
theorem dX9_placed_80 : decode cX9_placed 80 = .ok (.aload_n 0, 1) := by decide +kernel
theorem dX9_placed_81 : decode cX9_placed 81 = .ok (.getfield 26, 3) := by decide +kernel
theorem dX9_placed_84 : decode cX9_placed 84 = .ok (.iconst 0, 1) := by decide +kernel
theorem dX9_placed_85 : decode cX9_placed 85 = .ok (.iaload, 1) := by decide +kernel
theorem dX9_placed_86 : decode cX9_placed 86 = .ok (.iconst 1, 1) := by decide +kernel
theorem dX9_placed_87 : decode cX9_placed 87 = .ok (.isub, 1) := by decide +kernel
theorem dX9_placed_88 : decode cX9_placed 88 = .ok (.iload_n 3, 1) := by decide +kernel
theorem dX9_placed_89 : decode cX9_placed 89 = .ok (.isub, 1) := by decide +kernel
theorem dX9_placed_90 : decode cX9_placed 90 = .ok (.ireturn, 1) := by decide +kernel
theorem dX9_wantedAt_0 : decode cX9_wantedAt 0 = .ok (.aload_n 0, 1) := by decide +kernel
theorem dX9_wantedAt_1 : decode cX9_wantedAt 1 = .ok (.getfield 20, 3) := by decide +kernel
theorem dX9_wantedAt_4 : decode cX9_wantedAt 4 = .ok (.bipush 46, 2) := by decide +kernel
theorem dX9_wantedAt_6 : decode cX9_wantedAt 6 = .ok (.iload_n 1, 1) := by decide +kernel
theorem dX9_wantedAt_7 : decode cX9_wantedAt 7 = .ok (.iadd, 1) := by decide +kernel
theorem dX9_wantedAt_8 : decode cX9_wantedAt 8 = .ok (.iaload, 1) := by decide +kernel
theorem dX9_wantedAt_9 : decode cX9_wantedAt 9 = .ok (.ifCond .ne 8, 3) := by decide +kernel
theorem dX9_wantedAt_12 : decode cX9_wantedAt 12 = .ok (.bipush (-2), 2) := by decide +kernel
theorem dX9_wantedAt_14 : decode cX9_wantedAt 14 = .ok (.goto 14, 3) := by decide +kernel
theorem dX9_wantedAt_17 : decode cX9_wantedAt 17 = .ok (.aload_n 0, 1) := by decide +kernel
theorem dX9_wantedAt_18 : decode cX9_wantedAt 18 = .ok (.getfield 20, 3) := by decide +kernel
theorem dX9_wantedAt_21 : decode cX9_wantedAt 21 = .ok (.bipush 46, 2) := by decide +kernel
theorem dX9_wantedAt_23 : decode cX9_wantedAt 23 = .ok (.iload_n 1, 1) := by decide +kernel
theorem dX9_wantedAt_24 : decode cX9_wantedAt 24 = .ok (.iadd, 1) := by decide +kernel
theorem dX9_wantedAt_25 : decode cX9_wantedAt 25 = .ok (.iaload, 1) := by decide +kernel
theorem dX9_wantedAt_26 : decode cX9_wantedAt 26 = .ok (.iconst 1, 1) := by decide +kernel
theorem dX9_wantedAt_27 : decode cX9_wantedAt 27 = .ok (.isub, 1) := by decide +kernel
theorem dX9_wantedAt_28 : decode cX9_wantedAt 28 = .ok (.ireturn, 1) := by decide +kernel
theorem dX9_isAlike_0 : decode cX9_isAlike 0 = .ok (.aload_n 0, 1) := by decide +kernel
theorem dX9_isAlike_1 : decode cX9_isAlike 1 = .ok (.iload_n 1, 1) := by decide +kernel
theorem dX9_isAlike_2 : decode cX9_isAlike 2 = .ok (.invokevirtual 335, 3) := by decide +kernel
theorem dX9_isAlike_5 : decode cX9_isAlike 5 = .ok (.bipush (-2), 2) := by decide +kernel
theorem dX9_isAlike_7 : decode cX9_isAlike 7 = .ok (.if_icmp .eq 20, 3) := by decide +kernel
theorem dX9_isAlike_10 : decode cX9_isAlike 10 = .ok (.aload_n 0, 1) := by decide +kernel
theorem dX9_isAlike_11 : decode cX9_isAlike 11 = .ok (.iload_n 1, 1) := by decide +kernel
theorem dX9_isAlike_12 : decode cX9_isAlike 12 = .ok (.invokevirtual 275, 3) := by decide +kernel
theorem dX9_isAlike_15 : decode cX9_isAlike 15 = .ok (.aload_n 0, 1) := by decide +kernel
theorem dX9_isAlike_16 : decode cX9_isAlike 16 = .ok (.iload_n 1, 1) := by decide +kernel
theorem dX9_isAlike_17 : decode cX9_isAlike 17 = .ok (.invokevirtual 335, 3) := by decide +kernel
theorem dX9_isAlike_20 : decode cX9_isAlike 20 = .ok (.if_icmp .ne 7, 3) := by decide +kernel
theorem dX9_isAlike_23 : decode cX9_isAlike 23 = .ok (.iconst 1, 1) := by decide +kernel
theorem dX9_isAlike_24 : decode cX9_isAlike 24 = .ok (.goto 4, 3) := by decide +kernel
theorem dX9_isAlike_27 : decode cX9_isAlike 27 = .ok (.iconst 0, 1) := by decide +kernel
theorem dX9_isAlike_28 : decode cX9_isAlike 28 = .ok (.ireturn, 1) := by decide +kernel
theorem dX9_alikeCells_0 : decode cX9_alikeCells 0 = .ok (.iconst 0, 1) := by decide +kernel
theorem dX9_alikeCells_1 : decode cX9_alikeCells 1 = .ok (.istore_n 1, 1) := by decide +kernel
theorem dX9_alikeCells_2 : decode cX9_alikeCells 2 = .ok (.iconst 0, 1) := by decide +kernel
theorem dX9_alikeCells_3 : decode cX9_alikeCells 3 = .ok (.istore_n 2, 1) := by decide +kernel
theorem dX9_alikeCells_4 : decode cX9_alikeCells 4 = .ok (.iload_n 2, 1) := by decide +kernel
theorem dX9_alikeCells_5 : decode cX9_alikeCells 5 = .ok (.aload_n 0, 1) := by decide +kernel
theorem dX9_alikeCells_6 : decode cX9_alikeCells 6 = .ok (.invokevirtual 287, 3) := by decide +kernel
theorem dX9_alikeCells_9 : decode cX9_alikeCells 9 = .ok (.if_icmp .ge 27, 3) := by decide +kernel
theorem dX9_alikeCells_12 : decode cX9_alikeCells 12 = .ok (.iload_n 1, 1) := by decide +kernel
theorem dX9_alikeCells_13 : decode cX9_alikeCells 13 = .ok (.aload_n 0, 1) := by decide +kernel
theorem dX9_alikeCells_14 : decode cX9_alikeCells 14 = .ok (.iload_n 2, 1) := by decide +kernel
theorem dX9_alikeCells_15 : decode cX9_alikeCells 15 = .ok (.invokevirtual 338, 3) := by decide +kernel
theorem dX9_alikeCells_18 : decode cX9_alikeCells 18 = .ok (.ifCond .eq 9, 3) := by decide +kernel
theorem dX9_alikeCells_21 : decode cX9_alikeCells 21 = .ok (.iconst 1, 1) := by decide +kernel
theorem dX9_alikeCells_22 : decode cX9_alikeCells 22 = .ok (.iload_n 2, 1) := by decide +kernel
theorem dX9_alikeCells_23 : decode cX9_alikeCells 23 = .ok (.ishl, 1) := by decide +kernel
theorem dX9_alikeCells_24 : decode cX9_alikeCells 24 = .ok (.goto 4, 3) := by decide +kernel
theorem dX9_alikeCells_27 : decode cX9_alikeCells 27 = .ok (.iconst 0, 1) := by decide +kernel
theorem dX9_alikeCells_28 : decode cX9_alikeCells 28 = .ok (.ior, 1) := by decide +kernel
theorem dX9_alikeCells_29 : decode cX9_alikeCells 29 = .ok (.istore_n 1, 1) := by decide +kernel
theorem dX9_alikeCells_30 : decode cX9_alikeCells 30 = .ok (.iinc 2 1, 3) := by decide +kernel
theorem dX9_alikeCells_33 : decode cX9_alikeCells 33 = .ok (.goto (-29), 3) := by decide +kernel
theorem dX9_alikeCells_36 : decode cX9_alikeCells 36 = .ok (.iload_n 1, 1) := by decide +kernel
theorem dX9_alikeCells_37 : decode cX9_alikeCells 37 = .ok (.ireturn, 1) := by decide +kernel
theorem dX9_wantedCells_0 : decode cX9_wantedCells 0 = .ok (.iconst 0, 1) := by decide +kernel
theorem dX9_wantedCells_1 : decode cX9_wantedCells 1 = .ok (.istore_n 1, 1) := by decide +kernel
theorem dX9_wantedCells_2 : decode cX9_wantedCells 2 = .ok (.iconst 0, 1) := by decide +kernel
theorem dX9_wantedCells_3 : decode cX9_wantedCells 3 = .ok (.istore_n 2, 1) := by decide +kernel
theorem dX9_wantedCells_4 : decode cX9_wantedCells 4 = .ok (.iload_n 2, 1) := by decide +kernel
theorem dX9_wantedCells_5 : decode cX9_wantedCells 5 = .ok (.aload_n 0, 1) := by decide +kernel
theorem dX9_wantedCells_6 : decode cX9_wantedCells 6 = .ok (.invokevirtual 287, 3) := by decide +kernel
theorem dX9_wantedCells_9 : decode cX9_wantedCells 9 = .ok (.if_icmp .ge 29, 3) := by decide +kernel
theorem dX9_wantedCells_12 : decode cX9_wantedCells 12 = .ok (.iload_n 1, 1) := by decide +kernel
theorem dX9_wantedCells_13 : decode cX9_wantedCells 13 = .ok (.aload_n 0, 1) := by decide +kernel
theorem dX9_wantedCells_14 : decode cX9_wantedCells 14 = .ok (.iload_n 2, 1) := by decide +kernel
theorem dX9_wantedCells_15 : decode cX9_wantedCells 15 = .ok (.invokevirtual 335, 3) := by decide +kernel
theorem dX9_wantedCells_18 : decode cX9_wantedCells 18 = .ok (.bipush (-2), 2) := by decide +kernel
theorem dX9_wantedCells_20 : decode cX9_wantedCells 20 = .ok (.if_icmp .ne 7, 3) := by decide +kernel
theorem dX9_wantedCells_23 : decode cX9_wantedCells 23 = .ok (.iconst 0, 1) := by decide +kernel
theorem dX9_wantedCells_24 : decode cX9_wantedCells 24 = .ok (.goto 6, 3) := by decide +kernel
theorem dX9_wantedCells_27 : decode cX9_wantedCells 27 = .ok (.iconst 1, 1) := by decide +kernel
theorem dX9_wantedCells_28 : decode cX9_wantedCells 28 = .ok (.iload_n 2, 1) := by decide +kernel
theorem dX9_wantedCells_29 : decode cX9_wantedCells 29 = .ok (.ishl, 1) := by decide +kernel
theorem dX9_wantedCells_30 : decode cX9_wantedCells 30 = .ok (.ior, 1) := by decide +kernel
theorem dX9_wantedCells_31 : decode cX9_wantedCells 31 = .ok (.istore_n 1, 1) := by decide +kernel
theorem dX9_wantedCells_32 : decode cX9_wantedCells 32 = .ok (.iinc 2 1, 3) := by decide +kernel
theorem dX9_wantedCells_35 : decode cX9_wantedCells 35 = .ok (.goto (-31), 3) := by decide +kernel
theorem dX9_wantedCells_38 : decode cX9_wantedCells 38 = .ok (.iload_n 1, 1) := by decide +kernel
theorem dX9_wantedCells_39 : decode cX9_wantedCells 39 = .ok (.ireturn, 1) := by decide +kernel
theorem dX9_payable_0 : decode cX9_payable 0 = .ok (.iconst 0, 1) := by decide +kernel
theorem dX9_payable_1 : decode cX9_payable 1 = .ok (.istore_n 2, 1) := by decide +kernel
theorem dX9_payable_2 : decode cX9_payable 2 = .ok (.iconst 0, 1) := by decide +kernel
theorem dX9_payable_3 : decode cX9_payable 3 = .ok (.istore_n 3, 1) := by decide +kernel
theorem dX9_payable_4 : decode cX9_payable 4 = .ok (.iload_n 3, 1) := by decide +kernel
theorem dX9_payable_5 : decode cX9_payable 5 = .ok (.aload_n 0, 1) := by decide +kernel
theorem dX9_payable_6 : decode cX9_payable 6 = .ok (.invokevirtual 287, 3) := by decide +kernel
theorem dX9_payable_9 : decode cX9_payable 9 = .ok (.if_icmp .ge 46, 3) := by decide +kernel
theorem dX9_payable_12 : decode cX9_payable 12 = .ok (.iload_n 2, 1) := by decide +kernel
theorem dX9_payable_13 : decode cX9_payable 13 = .ok (.aload_n 0, 1) := by decide +kernel
theorem dX9_payable_14 : decode cX9_payable 14 = .ok (.iload_n 3, 1) := by decide +kernel
theorem dX9_payable_15 : decode cX9_payable 15 = .ok (.invokevirtual 335, 3) := by decide +kernel
theorem dX9_payable_18 : decode cX9_payable 18 = .ok (.bipush (-2), 2) := by decide +kernel
theorem dX9_payable_20 : decode cX9_payable 20 = .ok (.if_icmp .eq 26, 3) := by decide +kernel
theorem dX9_payable_23 : decode cX9_payable 23 = .ok (.aload_n 0, 1) := by decide +kernel
theorem dX9_payable_24 : decode cX9_payable 24 = .ok (.getfield 20, 3) := by decide +kernel
theorem dX9_payable_27 : decode cX9_payable 27 = .ok (.bipush 17, 2) := by decide +kernel
theorem dX9_payable_29 : decode cX9_payable 29 = .ok (.aload_n 0, 1) := by decide +kernel
theorem dX9_payable_30 : decode cX9_payable 30 = .ok (.iload_n 3, 1) := by decide +kernel
theorem dX9_payable_31 : decode cX9_payable 31 = .ok (.invokevirtual 335, 3) := by decide +kernel
theorem dX9_payable_34 : decode cX9_payable 34 = .ok (.iadd, 1) := by decide +kernel
theorem dX9_payable_35 : decode cX9_payable 35 = .ok (.iaload, 1) := by decide +kernel
theorem dX9_payable_36 : decode cX9_payable 36 = .ok (.iload_n 1, 1) := by decide +kernel
theorem dX9_payable_37 : decode cX9_payable 37 = .ok (.if_icmp .gt 9, 3) := by decide +kernel
theorem dX9_payable_40 : decode cX9_payable 40 = .ok (.iconst 1, 1) := by decide +kernel
theorem dX9_payable_41 : decode cX9_payable 41 = .ok (.iload_n 3, 1) := by decide +kernel
theorem dX9_payable_42 : decode cX9_payable 42 = .ok (.ishl, 1) := by decide +kernel
theorem dX9_payable_43 : decode cX9_payable 43 = .ok (.goto 4, 3) := by decide +kernel
theorem dX9_payable_46 : decode cX9_payable 46 = .ok (.iconst 0, 1) := by decide +kernel
theorem dX9_payable_47 : decode cX9_payable 47 = .ok (.ior, 1) := by decide +kernel
theorem dX9_payable_48 : decode cX9_payable 48 = .ok (.istore_n 2, 1) := by decide +kernel
theorem dX9_payable_49 : decode cX9_payable 49 = .ok (.iinc 3 1, 3) := by decide +kernel
theorem dX9_payable_52 : decode cX9_payable 52 = .ok (.goto (-48), 3) := by decide +kernel
theorem dX9_payable_55 : decode cX9_payable 55 = .ok (.iload_n 2, 1) := by decide +kernel
theorem dX9_payable_56 : decode cX9_payable 56 = .ok (.ireturn, 1) := by decide +kernel
theorem dX9_hasColours_0 : decode cX9_hasColours 0 = .ok (.iconst 0, 1) := by decide +kernel
theorem dX9_hasColours_1 : decode cX9_hasColours 1 = .ok (.istore_n 2, 1) := by decide +kernel
theorem dX9_hasColours_2 : decode cX9_hasColours 2 = .ok (.iconst 0, 1) := by decide +kernel
theorem dX9_hasColours_3 : decode cX9_hasColours 3 = .ok (.istore_n 3, 1) := by decide +kernel
theorem dX9_hasColours_4 : decode cX9_hasColours 4 = .ok (.iload_n 3, 1) := by decide +kernel
theorem dX9_hasColours_5 : decode cX9_hasColours 5 = .ok (.aload_n 0, 1) := by decide +kernel
theorem dX9_hasColours_6 : decode cX9_hasColours 6 = .ok (.getfield 20, 3) := by decide +kernel
theorem dX9_hasColours_9 : decode cX9_hasColours 9 = .ok (.iconst 4, 1) := by decide +kernel
theorem dX9_hasColours_10 : decode cX9_hasColours 10 = .ok (.iaload, 1) := by decide +kernel
theorem dX9_hasColours_11 : decode cX9_hasColours 11 = .ok (.if_icmp .ge 32, 3) := by decide +kernel
theorem dX9_hasColours_14 : decode cX9_hasColours 14 = .ok (.iload_n 2, 1) := by decide +kernel
theorem dX9_hasColours_15 : decode cX9_hasColours 15 = .ok (.ifCond .ne 16, 3) := by decide +kernel
theorem dX9_hasColours_18 : decode cX9_hasColours 18 = .ok (.aload_n 0, 1) := by decide +kernel
theorem dX9_hasColours_19 : decode cX9_hasColours 19 = .ok (.getfield 20, 3) := by decide +kernel
theorem dX9_hasColours_22 : decode cX9_hasColours 22 = .ok (.bipush 17, 2) := by decide +kernel
theorem dX9_hasColours_24 : decode cX9_hasColours 24 = .ok (.iload_n 3, 1) := by decide +kernel
theorem dX9_hasColours_25 : decode cX9_hasColours 25 = .ok (.iadd, 1) := by decide +kernel
theorem dX9_hasColours_26 : decode cX9_hasColours 26 = .ok (.iaload, 1) := by decide +kernel
theorem dX9_hasColours_27 : decode cX9_hasColours 27 = .ok (.iload_n 1, 1) := by decide +kernel
theorem dX9_hasColours_28 : decode cX9_hasColours 28 = .ok (.if_icmp .gt 7, 3) := by decide +kernel
theorem dX9_hasColours_31 : decode cX9_hasColours 31 = .ok (.iconst 1, 1) := by decide +kernel
theorem dX9_hasColours_32 : decode cX9_hasColours 32 = .ok (.goto 4, 3) := by decide +kernel
theorem dX9_hasColours_35 : decode cX9_hasColours 35 = .ok (.iconst 0, 1) := by decide +kernel
theorem dX9_hasColours_36 : decode cX9_hasColours 36 = .ok (.istore_n 2, 1) := by decide +kernel
theorem dX9_hasColours_37 : decode cX9_hasColours 37 = .ok (.iinc 3 1, 3) := by decide +kernel
theorem dX9_hasColours_40 : decode cX9_hasColours 40 = .ok (.goto (-36), 3) := by decide +kernel
theorem dX9_hasColours_43 : decode cX9_hasColours 43 = .ok (.iload_n 2, 1) := by decide +kernel
theorem dX9_hasColours_44 : decode cX9_hasColours 44 = .ok (.ireturn, 1) := by decide +kernel
theorem dX9_wanted_0 : decode cX9_wanted 0 = .ok (.aload_n 0, 1) := by decide +kernel
theorem dX9_wanted_1 : decode cX9_wanted 1 = .ok (.invokevirtual 155, 3) := by decide +kernel
theorem dX9_wanted_4 : decode cX9_wanted 4 = .ok (.aload_n 0, 1) := by decide +kernel
theorem dX9_wanted_5 : decode cX9_wanted 5 = .ok (.iload_n 1, 1) := by decide +kernel
theorem dX9_wanted_6 : decode cX9_wanted 6 = .ok (.iload_n 2, 1) := by decide +kernel
theorem dX9_wanted_7 : decode cX9_wanted 7 = .ok (.invokevirtual 268, 3) := by decide +kernel
theorem dX9_wanted_10 : decode cX9_wanted 10 = .ok (.ifCond .eq 16, 3) := by decide +kernel
theorem dX9_wanted_13 : decode cX9_wanted 13 = .ok (.aload_n 0, 1) := by decide +kernel
theorem dX9_wanted_14 : decode cX9_wanted 14 = .ok (.aload_n 0, 1) := by decide +kernel
theorem dX9_wanted_15 : decode cX9_wanted 15 = .ok (.iload_n 1, 1) := by decide +kernel
theorem dX9_wanted_16 : decode cX9_wanted 16 = .ok (.iload_n 2, 1) := by decide +kernel
theorem dX9_wanted_17 : decode cX9_wanted 17 = .ok (.invokevirtual 272, 3) := by decide +kernel
theorem dX9_wanted_20 : decode cX9_wanted 20 = .ok (.invokevirtual 335, 3) := by decide +kernel
theorem dX9_wanted_23 : decode cX9_wanted 23 = .ok (.goto 8, 3) := by decide +kernel
theorem dX9_wanted_26 : decode cX9_wanted 26 = .ok (.aload_n 0, 1) := by decide +kernel
theorem dX9_wanted_27 : decode cX9_wanted 27 = .ok (.iconst 1, 1) := by decide +kernel
theorem dX9_wanted_28 : decode cX9_wanted 28 = .ok (.invokevirtual 158, 3) := by decide +kernel
theorem dX9_wanted_31 : decode cX9_wanted 31 = .ok (.ireturn, 1) := by decide +kernel
theorem dX9_alike_0 : decode cX9_alike 0 = .ok (.aload_n 0, 1) := by decide +kernel
theorem dX9_alike_1 : decode cX9_alike 1 = .ok (.invokevirtual 155, 3) := by decide +kernel
theorem dX9_alike_4 : decode cX9_alike 4 = .ok (.aload_n 0, 1) := by decide +kernel
theorem dX9_alike_5 : decode cX9_alike 5 = .ok (.getfield 168, 3) := by decide +kernel
theorem dX9_alike_8 : decode cX9_alike 8 = .ok (.ifCond .eq 13, 3) := by decide +kernel
theorem dX9_alike_11 : decode cX9_alike 11 = .ok (.aload_n 0, 1) := by decide +kernel
theorem dX9_alike_12 : decode cX9_alike 12 = .ok (.invokevirtual 341, 3) := by decide +kernel
theorem dX9_alike_15 : decode cX9_alike 15 = .ok (.invokestatic 302, 3) := by decide +kernel
theorem dX9_alike_18 : decode cX9_alike 18 = .ok (.goto 8, 3) := by decide +kernel
theorem dX9_alike_21 : decode cX9_alike 21 = .ok (.aload_n 0, 1) := by decide +kernel
theorem dX9_alike_22 : decode cX9_alike 22 = .ok (.iconst 1, 1) := by decide +kernel
theorem dX9_alike_23 : decode cX9_alike 23 = .ok (.invokevirtual 158, 3) := by decide +kernel
theorem dX9_alike_26 : decode cX9_alike 26 = .ok (.ireturn, 1) := by decide +kernel
theorem dX9_yearWhy_0 : decode cX9_yearWhy 0 = .ok (.aload_n 0, 1) := by decide +kernel
theorem dX9_yearWhy_1 : decode cX9_yearWhy 1 = .ok (.getfield 168, 3) := by decide +kernel
theorem dX9_yearWhy_4 : decode cX9_yearWhy 4 = .ok (.ifCond .ne 7, 3) := by decide +kernel
theorem dX9_yearWhy_7 : decode cX9_yearWhy 7 = .ok (.iconst 1, 1) := by decide +kernel
theorem dX9_yearWhy_8 : decode cX9_yearWhy 8 = .ok (.goto 32, 3) := by decide +kernel
theorem dX9_yearWhy_11 : decode cX9_yearWhy 11 = .ok (.iload_n 1, 1) := by decide +kernel
theorem dX9_yearWhy_12 : decode cX9_yearWhy 12 = .ok (.iconst 0, 1) := by decide +kernel
theorem dX9_yearWhy_13 : decode cX9_yearWhy 13 = .ok (.sipush 999, 3) := by decide +kernel
theorem dX9_yearWhy_16 : decode cX9_yearWhy 16 = .ok (.invokestatic 139, 3) := by decide +kernel
theorem dX9_yearWhy_19 : decode cX9_yearWhy 19 = .ok (.ifCond .ne 7, 3) := by decide +kernel
theorem dX9_yearWhy_22 : decode cX9_yearWhy 22 = .ok (.iconst 2, 1) := by decide +kernel
theorem dX9_yearWhy_23 : decode cX9_yearWhy 23 = .ok (.goto 17, 3) := by decide +kernel
theorem dX9_yearWhy_26 : decode cX9_yearWhy 26 = .ok (.aload_n 0, 1) := by decide +kernel
theorem dX9_yearWhy_27 : decode cX9_yearWhy 27 = .ok (.invokevirtual 287, 3) := by decide +kernel
theorem dX9_yearWhy_30 : decode cX9_yearWhy 30 = .ok (.bipush 12, 2) := by decide +kernel
theorem dX9_yearWhy_32 : decode cX9_yearWhy 32 = .ok (.if_icmp .le 7, 3) := by decide +kernel
theorem dX9_yearWhy_35 : decode cX9_yearWhy 35 = .ok (.iconst 3, 1) := by decide +kernel
theorem dX9_yearWhy_36 : decode cX9_yearWhy 36 = .ok (.goto 4, 3) := by decide +kernel
theorem dX9_yearWhy_39 : decode cX9_yearWhy 39 = .ok (.iconst 0, 1) := by decide +kernel
theorem dX9_yearWhy_40 : decode cX9_yearWhy 40 = .ok (.ireturn, 1) := by decide +kernel
theorem dX9_layBest_0 : decode cX9_layBest 0 = .ok (.aload_n 0, 1) := by decide +kernel
theorem dX9_layBest_1 : decode cX9_layBest 1 = .ok (.invokevirtual 341, 3) := by decide +kernel
theorem dX9_layBest_4 : decode cX9_layBest 4 = .ok (.istore_n 2, 1) := by decide +kernel
theorem dX9_layBest_5 : decode cX9_layBest 5 = .ok (.aload_n 0, 1) := by decide +kernel
theorem dX9_layBest_6 : decode cX9_layBest 6 = .ok (.iload_n 1, 1) := by decide +kernel
theorem dX9_layBest_7 : decode cX9_layBest 7 = .ok (.invokevirtual 344, 3) := by decide +kernel
theorem dX9_layBest_10 : decode cX9_layBest 10 = .ok (.istore_n 3, 1) := by decide +kernel
theorem dX9_layBest_11 : decode cX9_layBest 11 = .ok (.aload_n 0, 1) := by decide +kernel
theorem dX9_layBest_12 : decode cX9_layBest 12 = .ok (.iload_n 1, 1) := by decide +kernel
theorem dX9_layBest_13 : decode cX9_layBest 13 = .ok (.invokevirtual 347, 3) := by decide +kernel
theorem dX9_layBest_16 : decode cX9_layBest 16 = .ok (.ifCond .eq 10, 3) := by decide +kernel
theorem dX9_layBest_19 : decode cX9_layBest 19 = .ok (.aload_n 0, 1) := by decide +kernel
theorem dX9_layBest_20 : decode cX9_layBest 20 = .ok (.invokevirtual 299, 3) := by decide +kernel
theorem dX9_layBest_23 : decode cX9_layBest 23 = .ok (.goto 4, 3) := by decide +kernel
theorem dX9_layBest_26 : decode cX9_layBest 26 = .ok (.iconst 0, 1) := by decide +kernel
theorem dX9_layBest_27 : decode cX9_layBest 27 = .ok (.istore 4, 2) := by decide +kernel
theorem dX9_layBest_29 : decode cX9_layBest 29 = .ok (.aload_n 0, 1) := by decide +kernel
theorem dX9_layBest_30 : decode cX9_layBest 30 = .ok (.iconst (-1), 1) := by decide +kernel
theorem dX9_layBest_31 : decode cX9_layBest 31 = .ok (.putfield 350, 3) := by decide +kernel
theorem dX9_layBest_34 : decode cX9_layBest 34 = .ok (.aload_n 0, 1) := by decide +kernel
theorem dX9_layBest_35 : decode cX9_layBest 35 = .ok (.iconst 0, 1) := by decide +kernel
theorem dX9_layBest_36 : decode cX9_layBest 36 = .ok (.putfield 353, 3) := by decide +kernel
theorem dX9_layBest_39 : decode cX9_layBest 39 = .ok (.iconst 0, 1) := by decide +kernel
theorem dX9_layBest_40 : decode cX9_layBest 40 = .ok (.istore 5, 2) := by decide +kernel
theorem dX9_layBest_42 : decode cX9_layBest 42 = .ok (.iload 5, 2) := by decide +kernel
theorem dX9_layBest_44 : decode cX9_layBest 44 = .ok (.iload 4, 2) := by decide +kernel
theorem dX9_layBest_46 : decode cX9_layBest 46 = .ok (.if_icmp .gt 93, 3) := by decide +kernel
theorem dX9_layBest_49 : decode cX9_layBest 49 = .ok (.iload_n 2, 1) := by decide +kernel
theorem dX9_layBest_50 : decode cX9_layBest 50 = .ok (.iload 5, 2) := by decide +kernel
theorem dX9_layBest_52 : decode cX9_layBest 52 = .ok (.iconst (-1), 1) := by decide +kernel
theorem dX9_layBest_53 : decode cX9_layBest 53 = .ok (.ixor, 1) := by decide +kernel
theorem dX9_layBest_54 : decode cX9_layBest 54 = .ok (.iand, 1) := by decide +kernel
theorem dX9_layBest_55 : decode cX9_layBest 55 = .ok (.iload 5, 2) := by decide +kernel
theorem dX9_layBest_57 : decode cX9_layBest 57 = .ok (.iload_n 3, 1) := by decide +kernel
theorem dX9_layBest_58 : decode cX9_layBest 58 = .ok (.iand, 1) := by decide +kernel
theorem dX9_layBest_59 : decode cX9_layBest 59 = .ok (.ior, 1) := by decide +kernel
theorem dX9_layBest_60 : decode cX9_layBest 60 = .ok (.invokestatic 302, 3) := by decide +kernel
theorem dX9_layBest_63 : decode cX9_layBest 63 = .ok (.istore 6, 2) := by decide +kernel
theorem dX9_layBest_65 : decode cX9_layBest 65 = .ok (.aload_n 0, 1) := by decide +kernel
theorem dX9_layBest_66 : decode cX9_layBest 66 = .ok (.getfield 350, 3) := by decide +kernel
theorem dX9_layBest_69 : decode cX9_layBest 69 = .ok (.ifCond .lt 39, 3) := by decide +kernel
theorem dX9_layBest_72 : decode cX9_layBest 72 = .ok (.iload 6, 2) := by decide +kernel
theorem dX9_layBest_74 : decode cX9_layBest 74 = .ok (.aload_n 0, 1) := by decide +kernel
theorem dX9_layBest_75 : decode cX9_layBest 75 = .ok (.getfield 353, 3) := by decide +kernel
theorem dX9_layBest_78 : decode cX9_layBest 78 = .ok (.if_icmp .lt 55, 3) := by decide +kernel
theorem dX9_layBest_81 : decode cX9_layBest 81 = .ok (.iload 6, 2) := by decide +kernel
theorem dX9_layBest_83 : decode cX9_layBest 83 = .ok (.aload_n 0, 1) := by decide +kernel
theorem dX9_layBest_84 : decode cX9_layBest 84 = .ok (.getfield 353, 3) := by decide +kernel
theorem dX9_layBest_87 : decode cX9_layBest 87 = .ok (.if_icmp .ne 21, 3) := by decide +kernel
theorem dX9_layBest_90 : decode cX9_layBest 90 = .ok (.iload 5, 2) := by decide +kernel
theorem dX9_layBest_92 : decode cX9_layBest 92 = .ok (.invokestatic 302, 3) := by decide +kernel
theorem dX9_layBest_95 : decode cX9_layBest 95 = .ok (.aload_n 0, 1) := by decide +kernel
theorem dX9_layBest_96 : decode cX9_layBest 96 = .ok (.getfield 350, 3) := by decide +kernel
theorem dX9_layBest_99 : decode cX9_layBest 99 = .ok (.invokestatic 302, 3) := by decide +kernel
theorem dX9_layBest_102 : decode cX9_layBest 102 = .ok (.if_icmp .lt 6, 3) := by decide +kernel
theorem dX9_layBest_105 : decode cX9_layBest 105 = .ok (.goto 28, 3) := by decide +kernel
theorem dX9_layBest_108 : decode cX9_layBest 108 = .ok (.aload_n 0, 1) := by decide +kernel
theorem dX9_layBest_109 : decode cX9_layBest 109 = .ok (.iload 5, 2) := by decide +kernel
theorem dX9_layBest_111 : decode cX9_layBest 111 = .ok (.iload_n 1, 1) := by decide +kernel
theorem dX9_layBest_112 : decode cX9_layBest 112 = .ok (.invokevirtual 314, 3) := by decide +kernel
theorem dX9_layBest_115 : decode cX9_layBest 115 = .ok (.ifCond .eq 6, 3) := by decide +kernel
theorem dX9_layBest_118 : decode cX9_layBest 118 = .ok (.goto 15, 3) := by decide +kernel
theorem dX9_layBest_121 : decode cX9_layBest 121 = .ok (.aload_n 0, 1) := by decide +kernel
theorem dX9_layBest_122 : decode cX9_layBest 122 = .ok (.iload 5, 2) := by decide +kernel
theorem dX9_layBest_124 : decode cX9_layBest 124 = .ok (.putfield 350, 3) := by decide +kernel
theorem dX9_layBest_127 : decode cX9_layBest 127 = .ok (.aload_n 0, 1) := by decide +kernel
theorem dX9_layBest_128 : decode cX9_layBest 128 = .ok (.iload 6, 2) := by decide +kernel
theorem dX9_layBest_130 : decode cX9_layBest 130 = .ok (.putfield 353, 3) := by decide +kernel
theorem dX9_layBest_133 : decode cX9_layBest 133 = .ok (.iinc 5 1, 3) := by decide +kernel
theorem dX9_layBest_136 : decode cX9_layBest 136 = .ok (.goto (-94), 3) := by decide +kernel
theorem dX9_layBest_139 : decode cX9_layBest 139 = .ok (.return_, 1) := by decide +kernel
theorem dX9_best_0 : decode cX9_best 0 = .ok (.aload_n 0, 1) := by decide +kernel
theorem dX9_best_1 : decode cX9_best 1 = .ok (.invokevirtual 155, 3) := by decide +kernel
theorem dX9_best_4 : decode cX9_best 4 = .ok (.aload_n 0, 1) := by decide +kernel
theorem dX9_best_5 : decode cX9_best 5 = .ok (.getfield 168, 3) := by decide +kernel
theorem dX9_best_8 : decode cX9_best 8 = .ok (.ifCond .eq 12, 3) := by decide +kernel
theorem dX9_best_11 : decode cX9_best 11 = .ok (.iload_n 2, 1) := by decide +kernel
theorem dX9_best_12 : decode cX9_best 12 = .ok (.iconst 0, 1) := by decide +kernel
theorem dX9_best_13 : decode cX9_best 13 = .ok (.iconst 2, 1) := by decide +kernel
theorem dX9_best_14 : decode cX9_best 14 = .ok (.invokestatic 139, 3) := by decide +kernel
theorem dX9_best_17 : decode cX9_best 17 = .ok (.ifCond .ne 9, 3) := by decide +kernel
theorem dX9_best_20 : decode cX9_best 20 = .ok (.aload_n 0, 1) := by decide +kernel
theorem dX9_best_21 : decode cX9_best 21 = .ok (.iconst 1, 1) := by decide +kernel
theorem dX9_best_22 : decode cX9_best 22 = .ok (.invokevirtual 158, 3) := by decide +kernel
theorem dX9_best_25 : decode cX9_best 25 = .ok (.ireturn, 1) := by decide +kernel
theorem dX9_best_26 : decode cX9_best 26 = .ok (.aload_n 0, 1) := by decide +kernel
theorem dX9_best_27 : decode cX9_best 27 = .ok (.iload_n 1, 1) := by decide +kernel
theorem dX9_best_28 : decode cX9_best 28 = .ok (.invokevirtual 356, 3) := by decide +kernel
theorem dX9_best_31 : decode cX9_best 31 = .ok (.istore_n 3, 1) := by decide +kernel
theorem dX9_best_32 : decode cX9_best 32 = .ok (.iload_n 3, 1) := by decide +kernel
theorem dX9_best_33 : decode cX9_best 33 = .ok (.ifCond .eq 9, 3) := by decide +kernel
theorem dX9_best_36 : decode cX9_best 36 = .ok (.aload_n 0, 1) := by decide +kernel
theorem dX9_best_37 : decode cX9_best 37 = .ok (.iload_n 3, 1) := by decide +kernel
theorem dX9_best_38 : decode cX9_best 38 = .ok (.invokevirtual 158, 3) := by decide +kernel
theorem dX9_best_41 : decode cX9_best 41 = .ok (.ireturn, 1) := by decide +kernel
theorem dX9_best_42 : decode cX9_best 42 = .ok (.aload_n 0, 1) := by decide +kernel
theorem dX9_best_43 : decode cX9_best 43 = .ok (.iload_n 1, 1) := by decide +kernel
theorem dX9_best_44 : decode cX9_best 44 = .ok (.invokevirtual 359, 3) := by decide +kernel
theorem dX9_best_47 : decode cX9_best 47 = .ok (.iload_n 2, 1) := by decide +kernel
theorem dX9_best_48 : decode cX9_best 48 = .ok (.ifCond .ne 10, 3) := by decide +kernel
theorem dX9_best_51 : decode cX9_best 51 = .ok (.aload_n 0, 1) := by decide +kernel
theorem dX9_best_52 : decode cX9_best 52 = .ok (.getfield 353, 3) := by decide +kernel
theorem dX9_best_55 : decode cX9_best 55 = .ok (.goto 22, 3) := by decide +kernel
theorem dX9_best_58 : decode cX9_best 58 = .ok (.iload_n 2, 1) := by decide +kernel
theorem dX9_best_59 : decode cX9_best 59 = .ok (.iconst 1, 1) := by decide +kernel
theorem dX9_best_60 : decode cX9_best 60 = .ok (.if_icmp .ne 13, 3) := by decide +kernel
theorem dX9_best_63 : decode cX9_best 63 = .ok (.aload_n 0, 1) := by decide +kernel
theorem dX9_best_64 : decode cX9_best 64 = .ok (.getfield 350, 3) := by decide +kernel
theorem dX9_best_67 : decode cX9_best 67 = .ok (.invokestatic 302, 3) := by decide +kernel
theorem dX9_best_70 : decode cX9_best 70 = .ok (.goto 7, 3) := by decide +kernel
theorem dX9_best_73 : decode cX9_best 73 = .ok (.aload_n 0, 1) := by decide +kernel
theorem dX9_best_74 : decode cX9_best 74 = .ok (.getfield 350, 3) := by decide +kernel
theorem dX9_best_77 : decode cX9_best 77 = .ok (.ireturn, 1) := by decide +kernel
theorem dX9_layLawful_0 : decode cX9_layLawful 0 = .ok (.aload_n 0, 1) := by decide +kernel
theorem dX9_layLawful_1 : decode cX9_layLawful 1 = .ok (.iload_n 1, 1) := by decide +kernel
theorem dX9_layLawful_2 : decode cX9_layLawful 2 = .ok (.invokevirtual 347, 3) := by decide +kernel
theorem dX9_layLawful_5 : decode cX9_layLawful 5 = .ok (.ifCond .eq 10, 3) := by decide +kernel
theorem dX9_layLawful_8 : decode cX9_layLawful 8 = .ok (.aload_n 0, 1) := by decide +kernel
theorem dX9_layLawful_9 : decode cX9_layLawful 9 = .ok (.invokevirtual 299, 3) := by decide +kernel
theorem dX9_layLawful_12 : decode cX9_layLawful 12 = .ok (.goto 4, 3) := by decide +kernel
theorem dX9_layLawful_15 : decode cX9_layLawful 15 = .ok (.iconst 0, 1) := by decide +kernel
theorem dX9_layLawful_16 : decode cX9_layLawful 16 = .ok (.istore_n 2, 1) := by decide +kernel
theorem dX9_layLawful_17 : decode cX9_layLawful 17 = .ok (.iconst 0, 1) := by decide +kernel
theorem dX9_layLawful_18 : decode cX9_layLawful 18 = .ok (.istore_n 3, 1) := by decide +kernel
theorem dX9_layLawful_19 : decode cX9_layLawful 19 = .ok (.iload_n 3, 1) := by decide +kernel
theorem dX9_layLawful_20 : decode cX9_layLawful 20 = .ok (.sipush 4096, 3) := by decide +kernel
theorem dX9_layLawful_23 : decode cX9_layLawful 23 = .ok (.if_icmp .ge 34, 3) := by decide +kernel
theorem dX9_layLawful_26 : decode cX9_layLawful 26 = .ok (.aload_n 0, 1) := by decide +kernel
theorem dX9_layLawful_27 : decode cX9_layLawful 27 = .ok (.getfield 51, 3) := by decide +kernel
theorem dX9_layLawful_30 : decode cX9_layLawful 30 = .ok (.iload_n 3, 1) := by decide +kernel
theorem dX9_layLawful_31 : decode cX9_layLawful 31 = .ok (.iload_n 3, 1) := by decide +kernel
theorem dX9_layLawful_32 : decode cX9_layLawful 32 = .ok (.iload_n 2, 1) := by decide +kernel
theorem dX9_layLawful_33 : decode cX9_layLawful 33 = .ok (.if_icmp .gt 16, 3) := by decide +kernel
theorem dX9_layLawful_36 : decode cX9_layLawful 36 = .ok (.aload_n 0, 1) := by decide +kernel
theorem dX9_layLawful_37 : decode cX9_layLawful 37 = .ok (.iload_n 3, 1) := by decide +kernel
theorem dX9_layLawful_38 : decode cX9_layLawful 38 = .ok (.iload_n 1, 1) := by decide +kernel
theorem dX9_layLawful_39 : decode cX9_layLawful 39 = .ok (.invokevirtual 314, 3) := by decide +kernel
theorem dX9_layLawful_42 : decode cX9_layLawful 42 = .ok (.ifCond .ne 7, 3) := by decide +kernel
theorem dX9_layLawful_45 : decode cX9_layLawful 45 = .ok (.iconst 1, 1) := by decide +kernel
theorem dX9_layLawful_46 : decode cX9_layLawful 46 = .ok (.goto 4, 3) := by decide +kernel
theorem dX9_layLawful_49 : decode cX9_layLawful 49 = .ok (.iconst 0, 1) := by decide +kernel
theorem dX9_layLawful_50 : decode cX9_layLawful 50 = .ok (.bastore, 1) := by decide +kernel
theorem dX9_layLawful_51 : decode cX9_layLawful 51 = .ok (.iinc 3 1, 3) := by decide +kernel
theorem dX9_layLawful_54 : decode cX9_layLawful 54 = .ok (.goto (-35), 3) := by decide +kernel
theorem dX9_layLawful_57 : decode cX9_layLawful 57 = .ok (.return_, 1) := by decide +kernel
theorem dX9_needOf_0 : decode cX9_needOf 0 = .ok (.aload_n 0, 1) := by decide +kernel
theorem dX9_needOf_1 : decode cX9_needOf 1 = .ok (.invokevirtual 341, 3) := by decide +kernel
theorem dX9_needOf_4 : decode cX9_needOf 4 = .ok (.istore_n 2, 1) := by decide +kernel
theorem dX9_needOf_5 : decode cX9_needOf 5 = .ok (.aload_n 0, 1) := by decide +kernel
theorem dX9_needOf_6 : decode cX9_needOf 6 = .ok (.invokevirtual 362, 3) := by decide +kernel
theorem dX9_needOf_9 : decode cX9_needOf 9 = .ok (.iload_n 2, 1) := by decide +kernel
theorem dX9_needOf_10 : decode cX9_needOf 10 = .ok (.iconst (-1), 1) := by decide +kernel
theorem dX9_needOf_11 : decode cX9_needOf 11 = .ok (.ixor, 1) := by decide +kernel
theorem dX9_needOf_12 : decode cX9_needOf 12 = .ok (.iand, 1) := by decide +kernel
theorem dX9_needOf_13 : decode cX9_needOf 13 = .ok (.istore_n 3, 1) := by decide +kernel
theorem dX9_needOf_14 : decode cX9_needOf 14 = .ok (.aload_n 0, 1) := by decide +kernel
theorem dX9_needOf_15 : decode cX9_needOf 15 = .ok (.iload_n 1, 1) := by decide +kernel
theorem dX9_needOf_16 : decode cX9_needOf 16 = .ok (.invokevirtual 344, 3) := by decide +kernel
theorem dX9_needOf_19 : decode cX9_needOf 19 = .ok (.istore 4, 2) := by decide +kernel
theorem dX9_needOf_21 : decode cX9_needOf 21 = .ok (.iconst 0, 1) := by decide +kernel
theorem dX9_needOf_22 : decode cX9_needOf 22 = .ok (.istore 5, 2) := by decide +kernel
theorem dX9_needOf_24 : decode cX9_needOf 24 = .ok (.iload 5, 2) := by decide +kernel
theorem dX9_needOf_26 : decode cX9_needOf 26 = .ok (.sipush 4096, 3) := by decide +kernel
theorem dX9_needOf_29 : decode cX9_needOf 29 = .ok (.if_icmp .ge 17, 3) := by decide +kernel
theorem dX9_needOf_32 : decode cX9_needOf 32 = .ok (.aload_n 0, 1) := by decide +kernel
theorem dX9_needOf_33 : decode cX9_needOf 33 = .ok (.getfield 48, 3) := by decide +kernel
theorem dX9_needOf_36 : decode cX9_needOf 36 = .ok (.iload 5, 2) := by decide +kernel
theorem dX9_needOf_38 : decode cX9_needOf 38 = .ok (.iconst (-1), 1) := by decide +kernel
theorem dX9_needOf_39 : decode cX9_needOf 39 = .ok (.iastore, 1) := by decide +kernel
theorem dX9_needOf_40 : decode cX9_needOf 40 = .ok (.iinc 5 1, 3) := by decide +kernel
theorem dX9_needOf_43 : decode cX9_needOf 43 = .ok (.goto (-19), 3) := by decide +kernel
theorem dX9_needOf_46 : decode cX9_needOf 46 = .ok (.aload_n 0, 1) := by decide +kernel
theorem dX9_needOf_47 : decode cX9_needOf 47 = .ok (.getfield 48, 3) := by decide +kernel
theorem dX9_needOf_50 : decode cX9_needOf 50 = .ok (.iconst 0, 1) := by decide +kernel
theorem dX9_needOf_51 : decode cX9_needOf 51 = .ok (.iconst 0, 1) := by decide +kernel
theorem dX9_needOf_52 : decode cX9_needOf 52 = .ok (.iastore, 1) := by decide +kernel
theorem dX9_needOf_53 : decode cX9_needOf 53 = .ok (.iload_n 3, 1) := by decide +kernel
theorem dX9_needOf_54 : decode cX9_needOf 54 = .ok (.ifCond .ne 5, 3) := by decide +kernel
theorem dX9_needOf_57 : decode cX9_needOf 57 = .ok (.iconst 0, 1) := by decide +kernel
theorem dX9_needOf_58 : decode cX9_needOf 58 = .ok (.ireturn, 1) := by decide +kernel
theorem dX9_needOf_59 : decode cX9_needOf 59 = .ok (.iload_n 3, 1) := by decide +kernel
theorem dX9_needOf_60 : decode cX9_needOf 60 = .ok (.iload 4, 2) := by decide +kernel
theorem dX9_needOf_62 : decode cX9_needOf 62 = .ok (.iconst (-1), 1) := by decide +kernel
theorem dX9_needOf_63 : decode cX9_needOf 63 = .ok (.ixor, 1) := by decide +kernel
theorem dX9_needOf_64 : decode cX9_needOf 64 = .ok (.iand, 1) := by decide +kernel
theorem dX9_needOf_65 : decode cX9_needOf 65 = .ok (.ifCond .eq 6, 3) := by decide +kernel
theorem dX9_needOf_68 : decode cX9_needOf 68 = .ok (.bipush (-2), 2) := by decide +kernel
theorem dX9_needOf_70 : decode cX9_needOf 70 = .ok (.ireturn, 1) := by decide +kernel
theorem dX9_needOf_71 : decode cX9_needOf 71 = .ok (.aload_n 0, 1) := by decide +kernel
theorem dX9_needOf_72 : decode cX9_needOf 72 = .ok (.iload_n 1, 1) := by decide +kernel
theorem dX9_needOf_73 : decode cX9_needOf 73 = .ok (.invokevirtual 365, 3) := by decide +kernel
theorem dX9_needOf_76 : decode cX9_needOf 76 = .ok (.aload_n 0, 1) := by decide +kernel
theorem dX9_needOf_77 : decode cX9_needOf 77 = .ok (.iload_n 1, 1) := by decide +kernel
theorem dX9_needOf_78 : decode cX9_needOf 78 = .ok (.invokevirtual 368, 3) := by decide +kernel
theorem dX9_needOf_81 : decode cX9_needOf 81 = .ok (.istore 5, 2) := by decide +kernel
theorem dX9_needOf_83 : decode cX9_needOf 83 = .ok (.iconst 1, 1) := by decide +kernel
theorem dX9_needOf_84 : decode cX9_needOf 84 = .ok (.istore 6, 2) := by decide +kernel
theorem dX9_needOf_86 : decode cX9_needOf 86 = .ok (.iload 6, 2) := by decide +kernel
theorem dX9_needOf_88 : decode cX9_needOf 88 = .ok (.bipush 12, 2) := by decide +kernel
theorem dX9_needOf_90 : decode cX9_needOf 90 = .ok (.if_icmp .gt 136, 3) := by decide +kernel
theorem dX9_needOf_93 : decode cX9_needOf 93 = .ok (.iconst 0, 1) := by decide +kernel
theorem dX9_needOf_94 : decode cX9_needOf 94 = .ok (.istore 7, 2) := by decide +kernel
theorem dX9_needOf_96 : decode cX9_needOf 96 = .ok (.iload 7, 2) := by decide +kernel
theorem dX9_needOf_98 : decode cX9_needOf 98 = .ok (.aload_n 0, 1) := by decide +kernel
theorem dX9_needOf_99 : decode cX9_needOf 99 = .ok (.invokevirtual 299, 3) := by decide +kernel
theorem dX9_needOf_102 : decode cX9_needOf 102 = .ok (.if_icmp .gt 102, 3) := by decide +kernel
theorem dX9_needOf_105 : decode cX9_needOf 105 = .ok (.aload_n 0, 1) := by decide +kernel
theorem dX9_needOf_106 : decode cX9_needOf 106 = .ok (.getfield 51, 3) := by decide +kernel
theorem dX9_needOf_109 : decode cX9_needOf 109 = .ok (.iload 7, 2) := by decide +kernel
theorem dX9_needOf_111 : decode cX9_needOf 111 = .ok (.baload, 1) := by decide +kernel
theorem dX9_needOf_112 : decode cX9_needOf 112 = .ok (.ifCond .eq 86, 3) := by decide +kernel
theorem dX9_needOf_115 : decode cX9_needOf 115 = .ok (.iload 7, 2) := by decide +kernel
theorem dX9_needOf_117 : decode cX9_needOf 117 = .ok (.iload 5, 2) := by decide +kernel
theorem dX9_needOf_119 : decode cX9_needOf 119 = .ok (.iand, 1) := by decide +kernel
theorem dX9_needOf_120 : decode cX9_needOf 120 = .ok (.ifCond .ne 78, 3) := by decide +kernel
theorem dX9_needOf_123 : decode cX9_needOf 123 = .ok (.iload 7, 2) := by decide +kernel
theorem dX9_needOf_125 : decode cX9_needOf 125 = .ok (.iload_n 3, 1) := by decide +kernel
theorem dX9_needOf_126 : decode cX9_needOf 126 = .ok (.iand, 1) := by decide +kernel
theorem dX9_needOf_127 : decode cX9_needOf 127 = .ok (.ifCond .ne 6, 3) := by decide +kernel
theorem dX9_needOf_130 : decode cX9_needOf 130 = .ok (.goto 68, 3) := by decide +kernel
theorem dX9_needOf_133 : decode cX9_needOf 133 = .ok (.iload_n 3, 1) := by decide +kernel
theorem dX9_needOf_134 : decode cX9_needOf 134 = .ok (.istore 8, 2) := by decide +kernel
theorem dX9_needOf_136 : decode cX9_needOf 136 = .ok (.aload_n 0, 1) := by decide +kernel
theorem dX9_needOf_137 : decode cX9_needOf 137 = .ok (.getfield 48, 3) := by decide +kernel
theorem dX9_needOf_140 : decode cX9_needOf 140 = .ok (.iload 8, 2) := by decide +kernel
theorem dX9_needOf_142 : decode cX9_needOf 142 = .ok (.iaload, 1) := by decide +kernel
theorem dX9_needOf_143 : decode cX9_needOf 143 = .ok (.iload 6, 2) := by decide +kernel
theorem dX9_needOf_145 : decode cX9_needOf 145 = .ok (.iconst 1, 1) := by decide +kernel
theorem dX9_needOf_146 : decode cX9_needOf 146 = .ok (.isub, 1) := by decide +kernel
theorem dX9_needOf_147 : decode cX9_needOf 147 = .ok (.if_icmp .ne 32, 3) := by decide +kernel
theorem dX9_needOf_150 : decode cX9_needOf 150 = .ok (.aload_n 0, 1) := by decide +kernel
theorem dX9_needOf_151 : decode cX9_needOf 151 = .ok (.getfield 48, 3) := by decide +kernel
theorem dX9_needOf_154 : decode cX9_needOf 154 = .ok (.iload 8, 2) := by decide +kernel
theorem dX9_needOf_156 : decode cX9_needOf 156 = .ok (.iload 7, 2) := by decide +kernel
theorem dX9_needOf_158 : decode cX9_needOf 158 = .ok (.iload_n 3, 1) := by decide +kernel
theorem dX9_needOf_159 : decode cX9_needOf 159 = .ok (.iand, 1) := by decide +kernel
theorem dX9_needOf_160 : decode cX9_needOf 160 = .ok (.ior, 1) := by decide +kernel
theorem dX9_needOf_161 : decode cX9_needOf 161 = .ok (.iaload, 1) := by decide +kernel
theorem dX9_needOf_162 : decode cX9_needOf 162 = .ok (.ifCond .ge 17, 3) := by decide +kernel
theorem dX9_needOf_165 : decode cX9_needOf 165 = .ok (.aload_n 0, 1) := by decide +kernel
theorem dX9_needOf_166 : decode cX9_needOf 166 = .ok (.getfield 48, 3) := by decide +kernel
theorem dX9_needOf_169 : decode cX9_needOf 169 = .ok (.iload 8, 2) := by decide +kernel
theorem dX9_needOf_171 : decode cX9_needOf 171 = .ok (.iload 7, 2) := by decide +kernel
theorem dX9_needOf_173 : decode cX9_needOf 173 = .ok (.iload_n 3, 1) := by decide +kernel
theorem dX9_needOf_174 : decode cX9_needOf 174 = .ok (.iand, 1) := by decide +kernel
theorem dX9_needOf_175 : decode cX9_needOf 175 = .ok (.ior, 1) := by decide +kernel
theorem dX9_needOf_176 : decode cX9_needOf 176 = .ok (.iload 6, 2) := by decide +kernel
theorem dX9_needOf_178 : decode cX9_needOf 178 = .ok (.iastore, 1) := by decide +kernel
theorem dX9_needOf_179 : decode cX9_needOf 179 = .ok (.iload 8, 2) := by decide +kernel
theorem dX9_needOf_181 : decode cX9_needOf 181 = .ok (.ifCond .ne 6, 3) := by decide +kernel
theorem dX9_needOf_184 : decode cX9_needOf 184 = .ok (.goto 14, 3) := by decide +kernel
theorem dX9_needOf_187 : decode cX9_needOf 187 = .ok (.iload 8, 2) := by decide +kernel
theorem dX9_needOf_189 : decode cX9_needOf 189 = .ok (.iconst 1, 1) := by decide +kernel
theorem dX9_needOf_190 : decode cX9_needOf 190 = .ok (.isub, 1) := by decide +kernel
theorem dX9_needOf_191 : decode cX9_needOf 191 = .ok (.iload_n 3, 1) := by decide +kernel
theorem dX9_needOf_192 : decode cX9_needOf 192 = .ok (.iand, 1) := by decide +kernel
theorem dX9_needOf_193 : decode cX9_needOf 193 = .ok (.istore 8, 2) := by decide +kernel
theorem dX9_needOf_195 : decode cX9_needOf 195 = .ok (.goto (-59), 3) := by decide +kernel
theorem dX9_needOf_198 : decode cX9_needOf 198 = .ok (.iinc 7 1, 3) := by decide +kernel
theorem dX9_needOf_201 : decode cX9_needOf 201 = .ok (.goto (-105), 3) := by decide +kernel
theorem dX9_needOf_204 : decode cX9_needOf 204 = .ok (.aload_n 0, 1) := by decide +kernel
theorem dX9_needOf_205 : decode cX9_needOf 205 = .ok (.getfield 48, 3) := by decide +kernel
theorem dX9_needOf_208 : decode cX9_needOf 208 = .ok (.iload_n 3, 1) := by decide +kernel
theorem dX9_needOf_209 : decode cX9_needOf 209 = .ok (.iaload, 1) := by decide +kernel
theorem dX9_needOf_210 : decode cX9_needOf 210 = .ok (.ifCond .lt 10, 3) := by decide +kernel
theorem dX9_needOf_213 : decode cX9_needOf 213 = .ok (.aload_n 0, 1) := by decide +kernel
theorem dX9_needOf_214 : decode cX9_needOf 214 = .ok (.getfield 48, 3) := by decide +kernel
theorem dX9_needOf_217 : decode cX9_needOf 217 = .ok (.iload_n 3, 1) := by decide +kernel
theorem dX9_needOf_218 : decode cX9_needOf 218 = .ok (.iaload, 1) := by decide +kernel
theorem dX9_needOf_219 : decode cX9_needOf 219 = .ok (.ireturn, 1) := by decide +kernel
theorem dX9_needOf_220 : decode cX9_needOf 220 = .ok (.iinc 6 1, 3) := by decide +kernel
theorem dX9_needOf_223 : decode cX9_needOf 223 = .ok (.goto (-137), 3) := by decide +kernel
theorem dX9_needOf_226 : decode cX9_needOf 226 = .ok (.bipush (-2), 2) := by decide +kernel
theorem dX9_needOf_228 : decode cX9_needOf 228 = .ok (.ireturn, 1) := by decide +kernel
theorem dX9_staying_0 : decode cX9_staying 0 = .ok (.aload_n 0, 1) := by decide +kernel
theorem dX9_staying_1 : decode cX9_staying 1 = .ok (.invokevirtual 341, 3) := by decide +kernel
theorem dX9_staying_4 : decode cX9_staying 4 = .ok (.aload_n 0, 1) := by decide +kernel
theorem dX9_staying_5 : decode cX9_staying 5 = .ok (.iload_n 1, 1) := by decide +kernel
theorem dX9_staying_6 : decode cX9_staying 6 = .ok (.invokevirtual 344, 3) := by decide +kernel
theorem dX9_staying_9 : decode cX9_staying 9 = .ok (.iconst (-1), 1) := by decide +kernel
theorem dX9_staying_10 : decode cX9_staying 10 = .ok (.ixor, 1) := by decide +kernel
theorem dX9_staying_11 : decode cX9_staying 11 = .ok (.iand, 1) := by decide +kernel
theorem dX9_staying_12 : decode cX9_staying 12 = .ok (.ireturn, 1) := by decide +kernel
theorem dX9_need_0 : decode cX9_need 0 = .ok (.aload_n 0, 1) := by decide +kernel
theorem dX9_need_1 : decode cX9_need 1 = .ok (.invokevirtual 155, 3) := by decide +kernel
theorem dX9_need_4 : decode cX9_need 4 = .ok (.aload_n 0, 1) := by decide +kernel
theorem dX9_need_5 : decode cX9_need 5 = .ok (.iload_n 1, 1) := by decide +kernel
theorem dX9_need_6 : decode cX9_need 6 = .ok (.invokevirtual 356, 3) := by decide +kernel
theorem dX9_need_9 : decode cX9_need 9 = .ok (.istore_n 2, 1) := by decide +kernel
theorem dX9_need_10 : decode cX9_need 10 = .ok (.iload_n 2, 1) := by decide +kernel
theorem dX9_need_11 : decode cX9_need 11 = .ok (.ifCond .eq 11, 3) := by decide +kernel
theorem dX9_need_14 : decode cX9_need 14 = .ok (.aload_n 0, 1) := by decide +kernel
theorem dX9_need_15 : decode cX9_need 15 = .ok (.iload_n 2, 1) := by decide +kernel
theorem dX9_need_16 : decode cX9_need 16 = .ok (.invokevirtual 158, 3) := by decide +kernel
theorem dX9_need_19 : decode cX9_need 19 = .ok (.goto 8, 3) := by decide +kernel
theorem dX9_need_22 : decode cX9_need 22 = .ok (.aload_n 0, 1) := by decide +kernel
theorem dX9_need_23 : decode cX9_need 23 = .ok (.iload_n 1, 1) := by decide +kernel
theorem dX9_need_24 : decode cX9_need 24 = .ok (.invokevirtual 371, 3) := by decide +kernel
theorem dX9_need_27 : decode cX9_need 27 = .ok (.ireturn, 1) := by decide +kernel
theorem dX9_canBe_0 : decode cX9_canBe 0 = .ok (.iconst 0, 1) := by decide +kernel
theorem dX9_canBe_1 : decode cX9_canBe 1 = .ok (.istore_n 3, 1) := by decide +kernel
theorem dX9_canBe_2 : decode cX9_canBe 2 = .ok (.iconst 0, 1) := by decide +kernel
theorem dX9_canBe_3 : decode cX9_canBe 3 = .ok (.istore 4, 2) := by decide +kernel
theorem dX9_canBe_5 : decode cX9_canBe 5 = .ok (.iload 4, 2) := by decide +kernel
theorem dX9_canBe_7 : decode cX9_canBe 7 = .ok (.sipush 4096, 3) := by decide +kernel
theorem dX9_canBe_10 : decode cX9_canBe 10 = .ok (.if_icmp .ge 49, 3) := by decide +kernel
theorem dX9_canBe_13 : decode cX9_canBe 13 = .ok (.iload_n 3, 1) := by decide +kernel
theorem dX9_canBe_14 : decode cX9_canBe 14 = .ok (.ifCond .ne 45, 3) := by decide +kernel
theorem dX9_canBe_17 : decode cX9_canBe 17 = .ok (.iload_n 1, 1) := by decide +kernel
theorem dX9_canBe_18 : decode cX9_canBe 18 = .ok (.iload 4, 2) := by decide +kernel
theorem dX9_canBe_20 : decode cX9_canBe 20 = .ok (.iconst (-1), 1) := by decide +kernel
theorem dX9_canBe_21 : decode cX9_canBe 21 = .ok (.ixor, 1) := by decide +kernel
theorem dX9_canBe_22 : decode cX9_canBe 22 = .ok (.iand, 1) := by decide +kernel
theorem dX9_canBe_23 : decode cX9_canBe 23 = .ok (.ifCond .ne 28, 3) := by decide +kernel
theorem dX9_canBe_26 : decode cX9_canBe 26 = .ok (.aload_n 0, 1) := by decide +kernel
theorem dX9_canBe_27 : decode cX9_canBe 27 = .ok (.getfield 48, 3) := by decide +kernel
theorem dX9_canBe_30 : decode cX9_canBe 30 = .ok (.iload 4, 2) := by decide +kernel
theorem dX9_canBe_32 : decode cX9_canBe 32 = .ok (.iaload, 1) := by decide +kernel
theorem dX9_canBe_33 : decode cX9_canBe 33 = .ok (.ifCond .lt 18, 3) := by decide +kernel
theorem dX9_canBe_36 : decode cX9_canBe 36 = .ok (.aload_n 0, 1) := by decide +kernel
theorem dX9_canBe_37 : decode cX9_canBe 37 = .ok (.getfield 48, 3) := by decide +kernel
theorem dX9_canBe_40 : decode cX9_canBe 40 = .ok (.iload 4, 2) := by decide +kernel
theorem dX9_canBe_42 : decode cX9_canBe 42 = .ok (.iaload, 1) := by decide +kernel
theorem dX9_canBe_43 : decode cX9_canBe 43 = .ok (.iload_n 2, 1) := by decide +kernel
theorem dX9_canBe_44 : decode cX9_canBe 44 = .ok (.if_icmp .gt 7, 3) := by decide +kernel
theorem dX9_canBe_47 : decode cX9_canBe 47 = .ok (.iconst 1, 1) := by decide +kernel
theorem dX9_canBe_48 : decode cX9_canBe 48 = .ok (.goto 4, 3) := by decide +kernel
theorem dX9_canBe_51 : decode cX9_canBe 51 = .ok (.iconst 0, 1) := by decide +kernel
theorem dX9_canBe_52 : decode cX9_canBe 52 = .ok (.istore_n 3, 1) := by decide +kernel
theorem dX9_canBe_53 : decode cX9_canBe 53 = .ok (.iinc 4 1, 3) := by decide +kernel
theorem dX9_canBe_56 : decode cX9_canBe 56 = .ok (.goto (-51), 3) := by decide +kernel
theorem dX9_canBe_59 : decode cX9_canBe 59 = .ok (.iload_n 3, 1) := by decide +kernel
theorem dX9_canBe_60 : decode cX9_canBe 60 = .ok (.ireturn, 1) := by decide +kernel
theorem dX9_step_0 : decode cX9_step 0 = .ok (.aload_n 0, 1) := by decide +kernel
theorem dX9_step_1 : decode cX9_step 1 = .ok (.invokevirtual 155, 3) := by decide +kernel
theorem dX9_step_4 : decode cX9_step 4 = .ok (.aload_n 0, 1) := by decide +kernel
theorem dX9_step_5 : decode cX9_step 5 = .ok (.getfield 168, 3) := by decide +kernel
theorem dX9_step_8 : decode cX9_step 8 = .ok (.ifCond .eq 7, 3) := by decide +kernel
theorem dX9_step_11 : decode cX9_step 11 = .ok (.iload_n 2, 1) := by decide +kernel
theorem dX9_step_12 : decode cX9_step 12 = .ok (.ifCond .ge 9, 3) := by decide +kernel
theorem dX9_step_15 : decode cX9_step 15 = .ok (.aload_n 0, 1) := by decide +kernel
theorem dX9_step_16 : decode cX9_step 16 = .ok (.iconst 1, 1) := by decide +kernel
theorem dX9_step_17 : decode cX9_step 17 = .ok (.invokevirtual 158, 3) := by decide +kernel
theorem dX9_step_20 : decode cX9_step 20 = .ok (.ireturn, 1) := by decide +kernel
theorem dX9_step_21 : decode cX9_step 21 = .ok (.aload_n 0, 1) := by decide +kernel
theorem dX9_step_22 : decode cX9_step 22 = .ok (.iload_n 1, 1) := by decide +kernel
theorem dX9_step_23 : decode cX9_step 23 = .ok (.invokevirtual 356, 3) := by decide +kernel
theorem dX9_step_26 : decode cX9_step 26 = .ok (.istore_n 3, 1) := by decide +kernel
theorem dX9_step_27 : decode cX9_step 27 = .ok (.iload_n 3, 1) := by decide +kernel
theorem dX9_step_28 : decode cX9_step 28 = .ok (.ifCond .eq 9, 3) := by decide +kernel
theorem dX9_step_31 : decode cX9_step 31 = .ok (.aload_n 0, 1) := by decide +kernel
theorem dX9_step_32 : decode cX9_step 32 = .ok (.iload_n 3, 1) := by decide +kernel
theorem dX9_step_33 : decode cX9_step 33 = .ok (.invokevirtual 158, 3) := by decide +kernel
theorem dX9_step_36 : decode cX9_step 36 = .ok (.ireturn, 1) := by decide +kernel
theorem dX9_step_37 : decode cX9_step 37 = .ok (.aload_n 0, 1) := by decide +kernel
theorem dX9_step_38 : decode cX9_step 38 = .ok (.iload_n 1, 1) := by decide +kernel
theorem dX9_step_39 : decode cX9_step 39 = .ok (.invokevirtual 371, 3) := by decide +kernel
theorem dX9_step_42 : decode cX9_step 42 = .ok (.istore 4, 2) := by decide +kernel
theorem dX9_step_44 : decode cX9_step 44 = .ok (.iload 4, 2) := by decide +kernel
theorem dX9_step_46 : decode cX9_step 46 = .ok (.bipush (-2), 2) := by decide +kernel
theorem dX9_step_48 : decode cX9_step 48 = .ok (.if_icmp .ne 10, 3) := by decide +kernel
theorem dX9_step_51 : decode cX9_step 51 = .ok (.aload_n 0, 1) := by decide +kernel
theorem dX9_step_52 : decode cX9_step 52 = .ok (.bipush 6, 2) := by decide +kernel
theorem dX9_step_54 : decode cX9_step 54 = .ok (.invokevirtual 158, 3) := by decide +kernel
theorem dX9_step_57 : decode cX9_step 57 = .ok (.ireturn, 1) := by decide +kernel
theorem dX9_step_58 : decode cX9_step 58 = .ok (.iload_n 2, 1) := by decide +kernel
theorem dX9_step_59 : decode cX9_step 59 = .ok (.iload 4, 2) := by decide +kernel
theorem dX9_step_61 : decode cX9_step 61 = .ok (.if_icmp .lt 9, 3) := by decide +kernel
theorem dX9_step_64 : decode cX9_step 64 = .ok (.aload_n 0, 1) := by decide +kernel
theorem dX9_step_65 : decode cX9_step 65 = .ok (.iconst 1, 1) := by decide +kernel
theorem dX9_step_66 : decode cX9_step 66 = .ok (.invokevirtual 158, 3) := by decide +kernel
theorem dX9_step_69 : decode cX9_step 69 = .ok (.ireturn, 1) := by decide +kernel
theorem dX9_step_70 : decode cX9_step 70 = .ok (.aload_n 0, 1) := by decide +kernel
theorem dX9_step_71 : decode cX9_step 71 = .ok (.invokevirtual 362, 3) := by decide +kernel
theorem dX9_step_74 : decode cX9_step 74 = .ok (.aload_n 0, 1) := by decide +kernel
theorem dX9_step_75 : decode cX9_step 75 = .ok (.invokevirtual 341, 3) := by decide +kernel
theorem dX9_step_78 : decode cX9_step 78 = .ok (.iconst (-1), 1) := by decide +kernel
theorem dX9_step_79 : decode cX9_step 79 = .ok (.ixor, 1) := by decide +kernel
theorem dX9_step_80 : decode cX9_step 80 = .ok (.iand, 1) := by decide +kernel
theorem dX9_step_81 : decode cX9_step 81 = .ok (.istore 5, 2) := by decide +kernel
theorem dX9_step_83 : decode cX9_step 83 = .ok (.aload_n 0, 1) := by decide +kernel
theorem dX9_step_84 : decode cX9_step 84 = .ok (.iload_n 1, 1) := by decide +kernel
theorem dX9_step_85 : decode cX9_step 85 = .ok (.invokevirtual 368, 3) := by decide +kernel
theorem dX9_step_88 : decode cX9_step 88 = .ok (.istore 6, 2) := by decide +kernel
theorem dX9_step_90 : decode cX9_step 90 = .ok (.iconst 0, 1) := by decide +kernel
theorem dX9_step_91 : decode cX9_step 91 = .ok (.istore 7, 2) := by decide +kernel
theorem dX9_step_93 : decode cX9_step 93 = .ok (.iconst 0, 1) := by decide +kernel
theorem dX9_step_94 : decode cX9_step 94 = .ok (.istore 8, 2) := by decide +kernel
theorem dX9_step_96 : decode cX9_step 96 = .ok (.iload 8, 2) := by decide +kernel
theorem dX9_step_98 : decode cX9_step 98 = .ok (.iload_n 2, 1) := by decide +kernel
theorem dX9_step_99 : decode cX9_step 99 = .ok (.if_icmp .gt 66, 3) := by decide +kernel
theorem dX9_step_102 : decode cX9_step 102 = .ok (.iconst 0, 1) := by decide +kernel
theorem dX9_step_103 : decode cX9_step 103 = .ok (.istore 7, 2) := by decide +kernel
theorem dX9_step_105 : decode cX9_step 105 = .ok (.aload_n 0, 1) := by decide +kernel
theorem dX9_step_106 : decode cX9_step 106 = .ok (.getfield 51, 3) := by decide +kernel
theorem dX9_step_109 : decode cX9_step 109 = .ok (.iload 7, 2) := by decide +kernel
theorem dX9_step_111 : decode cX9_step 111 = .ok (.baload, 1) := by decide +kernel
theorem dX9_step_112 : decode cX9_step 112 = .ok (.ifCond .eq 32, 3) := by decide +kernel
theorem dX9_step_115 : decode cX9_step 115 = .ok (.iload 7, 2) := by decide +kernel
theorem dX9_step_117 : decode cX9_step 117 = .ok (.iload 6, 2) := by decide +kernel
theorem dX9_step_119 : decode cX9_step 119 = .ok (.iand, 1) := by decide +kernel
theorem dX9_step_120 : decode cX9_step 120 = .ok (.ifCond .ne 24, 3) := by decide +kernel
theorem dX9_step_123 : decode cX9_step 123 = .ok (.aload_n 0, 1) := by decide +kernel
theorem dX9_step_124 : decode cX9_step 124 = .ok (.iload 5, 2) := by decide +kernel
theorem dX9_step_126 : decode cX9_step 126 = .ok (.iload 7, 2) := by decide +kernel
theorem dX9_step_128 : decode cX9_step 128 = .ok (.iconst (-1), 1) := by decide +kernel
theorem dX9_step_129 : decode cX9_step 129 = .ok (.ixor, 1) := by decide +kernel
theorem dX9_step_130 : decode cX9_step 130 = .ok (.iand, 1) := by decide +kernel
theorem dX9_step_131 : decode cX9_step 131 = .ok (.iload 4, 2) := by decide +kernel
theorem dX9_step_133 : decode cX9_step 133 = .ok (.iload 8, 2) := by decide +kernel
theorem dX9_step_135 : decode cX9_step 135 = .ok (.isub, 1) := by decide +kernel
theorem dX9_step_136 : decode cX9_step 136 = .ok (.iconst 1, 1) := by decide +kernel
theorem dX9_step_137 : decode cX9_step 137 = .ok (.isub, 1) := by decide +kernel
theorem dX9_step_138 : decode cX9_step 138 = .ok (.invokevirtual 374, 3) := by decide +kernel
theorem dX9_step_141 : decode cX9_step 141 = .ok (.ifCond .ne 9, 3) := by decide +kernel
theorem dX9_step_144 : decode cX9_step 144 = .ok (.iinc 7 1, 3) := by decide +kernel
theorem dX9_step_147 : decode cX9_step 147 = .ok (.goto (-42), 3) := by decide +kernel
theorem dX9_step_150 : decode cX9_step 150 = .ok (.iload 5, 2) := by decide +kernel
theorem dX9_step_152 : decode cX9_step 152 = .ok (.iload 7, 2) := by decide +kernel
theorem dX9_step_154 : decode cX9_step 154 = .ok (.iconst (-1), 1) := by decide +kernel
theorem dX9_step_155 : decode cX9_step 155 = .ok (.ixor, 1) := by decide +kernel
theorem dX9_step_156 : decode cX9_step 156 = .ok (.iand, 1) := by decide +kernel
theorem dX9_step_157 : decode cX9_step 157 = .ok (.istore 5, 2) := by decide +kernel
theorem dX9_step_159 : decode cX9_step 159 = .ok (.iinc 8 1, 3) := by decide +kernel
theorem dX9_step_162 : decode cX9_step 162 = .ok (.goto (-66), 3) := by decide +kernel
theorem dX9_step_165 : decode cX9_step 165 = .ok (.iload 7, 2) := by decide +kernel
theorem dX9_step_167 : decode cX9_step 167 = .ok (.ireturn, 1) := by decide +kernel
theorem dX9_reach_0 : decode cX9_reach 0 = .ok (.aload_n 0, 1) := by decide +kernel
theorem dX9_reach_1 : decode cX9_reach 1 = .ok (.invokevirtual 155, 3) := by decide +kernel
theorem dX9_reach_4 : decode cX9_reach 4 = .ok (.aload_n 0, 1) := by decide +kernel
theorem dX9_reach_5 : decode cX9_reach 5 = .ok (.iload_n 1, 1) := by decide +kernel
theorem dX9_reach_6 : decode cX9_reach 6 = .ok (.invokevirtual 356, 3) := by decide +kernel
theorem dX9_reach_9 : decode cX9_reach 9 = .ok (.istore_n 2, 1) := by decide +kernel
theorem dX9_reach_10 : decode cX9_reach 10 = .ok (.iload_n 2, 1) := by decide +kernel
theorem dX9_reach_11 : decode cX9_reach 11 = .ok (.ifCond .eq 9, 3) := by decide +kernel
theorem dX9_reach_14 : decode cX9_reach 14 = .ok (.aload_n 0, 1) := by decide +kernel
theorem dX9_reach_15 : decode cX9_reach 15 = .ok (.iload_n 2, 1) := by decide +kernel
theorem dX9_reach_16 : decode cX9_reach 16 = .ok (.invokevirtual 158, 3) := by decide +kernel
theorem dX9_reach_19 : decode cX9_reach 19 = .ok (.ireturn, 1) := by decide +kernel
theorem dX9_reach_20 : decode cX9_reach 20 = .ok (.aload_n 0, 1) := by decide +kernel
theorem dX9_reach_21 : decode cX9_reach 21 = .ok (.iload_n 1, 1) := by decide +kernel
theorem dX9_reach_22 : decode cX9_reach 22 = .ok (.invokevirtual 365, 3) := by decide +kernel
theorem dX9_reach_25 : decode cX9_reach 25 = .ok (.aload_n 0, 1) := by decide +kernel
theorem dX9_reach_26 : decode cX9_reach 26 = .ok (.invokevirtual 341, 3) := by decide +kernel
theorem dX9_reach_29 : decode cX9_reach 29 = .ok (.istore_n 3, 1) := by decide +kernel
theorem dX9_reach_30 : decode cX9_reach 30 = .ok (.aload_n 0, 1) := by decide +kernel
theorem dX9_reach_31 : decode cX9_reach 31 = .ok (.iload_n 1, 1) := by decide +kernel
theorem dX9_reach_32 : decode cX9_reach 32 = .ok (.invokevirtual 344, 3) := by decide +kernel
theorem dX9_reach_35 : decode cX9_reach 35 = .ok (.istore 4, 2) := by decide +kernel
theorem dX9_reach_37 : decode cX9_reach 37 = .ok (.aload_n 0, 1) := by decide +kernel
theorem dX9_reach_38 : decode cX9_reach 38 = .ok (.iload_n 1, 1) := by decide +kernel
theorem dX9_reach_39 : decode cX9_reach 39 = .ok (.invokevirtual 368, 3) := by decide +kernel
theorem dX9_reach_42 : decode cX9_reach 42 = .ok (.istore 5, 2) := by decide +kernel
theorem dX9_reach_44 : decode cX9_reach 44 = .ok (.iload_n 3, 1) := by decide +kernel
theorem dX9_reach_45 : decode cX9_reach 45 = .ok (.invokestatic 302, 3) := by decide +kernel
theorem dX9_reach_48 : decode cX9_reach 48 = .ok (.istore 6, 2) := by decide +kernel
theorem dX9_reach_50 : decode cX9_reach 50 = .ok (.iload 5, 2) := by decide +kernel
theorem dX9_reach_52 : decode cX9_reach 52 = .ok (.istore 7, 2) := by decide +kernel
theorem dX9_reach_54 : decode cX9_reach 54 = .ok (.iconst 0, 1) := by decide +kernel
theorem dX9_reach_55 : decode cX9_reach 55 = .ok (.istore 8, 2) := by decide +kernel
theorem dX9_reach_57 : decode cX9_reach 57 = .ok (.iconst 0, 1) := by decide +kernel
theorem dX9_reach_58 : decode cX9_reach 58 = .ok (.istore 9, 2) := by decide +kernel
theorem dX9_reach_60 : decode cX9_reach 60 = .ok (.iload 9, 2) := by decide +kernel
theorem dX9_reach_62 : decode cX9_reach 62 = .ok (.sipush 4096, 3) := by decide +kernel
theorem dX9_reach_65 : decode cX9_reach 65 = .ok (.if_icmp .ge 43, 3) := by decide +kernel
theorem dX9_reach_68 : decode cX9_reach 68 = .ok (.iload 8, 2) := by decide +kernel
theorem dX9_reach_70 : decode cX9_reach 70 = .ok (.aload_n 0, 1) := by decide +kernel
theorem dX9_reach_71 : decode cX9_reach 71 = .ok (.getfield 51, 3) := by decide +kernel
theorem dX9_reach_74 : decode cX9_reach 74 = .ok (.iload 9, 2) := by decide +kernel
theorem dX9_reach_76 : decode cX9_reach 76 = .ok (.baload, 1) := by decide +kernel
theorem dX9_reach_77 : decode cX9_reach 77 = .ok (.ifCond .eq 21, 3) := by decide +kernel
theorem dX9_reach_80 : decode cX9_reach 80 = .ok (.iload 9, 2) := by decide +kernel
theorem dX9_reach_82 : decode cX9_reach 82 = .ok (.iload 5, 2) := by decide +kernel
theorem dX9_reach_84 : decode cX9_reach 84 = .ok (.iand, 1) := by decide +kernel
theorem dX9_reach_85 : decode cX9_reach 85 = .ok (.iload 7, 2) := by decide +kernel
theorem dX9_reach_87 : decode cX9_reach 87 = .ok (.iconst (-1), 1) := by decide +kernel
theorem dX9_reach_88 : decode cX9_reach 88 = .ok (.ixor, 1) := by decide +kernel
theorem dX9_reach_89 : decode cX9_reach 89 = .ok (.iand, 1) := by decide +kernel
theorem dX9_reach_90 : decode cX9_reach 90 = .ok (.ifCond .ne 8, 3) := by decide +kernel
theorem dX9_reach_93 : decode cX9_reach 93 = .ok (.iload 9, 2) := by decide +kernel
theorem dX9_reach_95 : decode cX9_reach 95 = .ok (.goto 4, 3) := by decide +kernel
theorem dX9_reach_98 : decode cX9_reach 98 = .ok (.iconst 0, 1) := by decide +kernel
theorem dX9_reach_99 : decode cX9_reach 99 = .ok (.ior, 1) := by decide +kernel
theorem dX9_reach_100 : decode cX9_reach 100 = .ok (.istore 8, 2) := by decide +kernel
theorem dX9_reach_102 : decode cX9_reach 102 = .ok (.iinc 9 1, 3) := by decide +kernel
theorem dX9_reach_105 : decode cX9_reach 105 = .ok (.goto (-45), 3) := by decide +kernel
theorem dX9_reach_108 : decode cX9_reach 108 = .ok (.iload_n 3, 1) := by decide +kernel
theorem dX9_reach_109 : decode cX9_reach 109 = .ok (.iload 8, 2) := by decide +kernel
theorem dX9_reach_111 : decode cX9_reach 111 = .ok (.iload 4, 2) := by decide +kernel
theorem dX9_reach_113 : decode cX9_reach 113 = .ok (.iconst (-1), 1) := by decide +kernel
theorem dX9_reach_114 : decode cX9_reach 114 = .ok (.ixor, 1) := by decide +kernel
theorem dX9_reach_115 : decode cX9_reach 115 = .ok (.iand, 1) := by decide +kernel
theorem dX9_reach_116 : decode cX9_reach 116 = .ok (.iconst (-1), 1) := by decide +kernel
theorem dX9_reach_117 : decode cX9_reach 117 = .ok (.ixor, 1) := by decide +kernel
theorem dX9_reach_118 : decode cX9_reach 118 = .ok (.iand, 1) := by decide +kernel
theorem dX9_reach_119 : decode cX9_reach 119 = .ok (.iload 8, 2) := by decide +kernel
theorem dX9_reach_121 : decode cX9_reach 121 = .ok (.iload 4, 2) := by decide +kernel
theorem dX9_reach_123 : decode cX9_reach 123 = .ok (.iand, 1) := by decide +kernel
theorem dX9_reach_124 : decode cX9_reach 124 = .ok (.ior, 1) := by decide +kernel
theorem dX9_reach_125 : decode cX9_reach 125 = .ok (.invokestatic 302, 3) := by decide +kernel
theorem dX9_reach_128 : decode cX9_reach 128 = .ok (.istore 9, 2) := by decide +kernel
theorem dX9_reach_130 : decode cX9_reach 130 = .ok (.iload 9, 2) := by decide +kernel
theorem dX9_reach_132 : decode cX9_reach 132 = .ok (.iload 6, 2) := by decide +kernel
theorem dX9_reach_134 : decode cX9_reach 134 = .ok (.if_icmp .le 8, 3) := by decide +kernel
theorem dX9_reach_137 : decode cX9_reach 137 = .ok (.iload 9, 2) := by decide +kernel
theorem dX9_reach_139 : decode cX9_reach 139 = .ok (.goto 5, 3) := by decide +kernel
theorem dX9_reach_142 : decode cX9_reach 142 = .ok (.iload 6, 2) := by decide +kernel
theorem dX9_reach_144 : decode cX9_reach 144 = .ok (.istore 6, 2) := by decide +kernel
theorem dX9_reach_146 : decode cX9_reach 146 = .ok (.iload 7, 2) := by decide +kernel
theorem dX9_reach_148 : decode cX9_reach 148 = .ok (.ifCond .ne 6, 3) := by decide +kernel
theorem dX9_reach_151 : decode cX9_reach 151 = .ok (.goto 15, 3) := by decide +kernel
theorem dX9_reach_154 : decode cX9_reach 154 = .ok (.iload 7, 2) := by decide +kernel
theorem dX9_reach_156 : decode cX9_reach 156 = .ok (.iconst 1, 1) := by decide +kernel
theorem dX9_reach_157 : decode cX9_reach 157 = .ok (.isub, 1) := by decide +kernel
theorem dX9_reach_158 : decode cX9_reach 158 = .ok (.iload 5, 2) := by decide +kernel
theorem dX9_reach_160 : decode cX9_reach 160 = .ok (.iand, 1) := by decide +kernel
theorem dX9_reach_161 : decode cX9_reach 161 = .ok (.istore 7, 2) := by decide +kernel
theorem dX9_reach_163 : decode cX9_reach 163 = .ok (.goto (-109), 3) := by decide +kernel
theorem dX9_reach_166 : decode cX9_reach 166 = .ok (.iload 6, 2) := by decide +kernel
theorem dX9_reach_168 : decode cX9_reach 168 = .ok (.ireturn, 1) := by decide +kernel
theorem dX9_shownBy_0 : decode cX9_shownBy 0 = .ok (.iconst 0, 1) := by decide +kernel
theorem dX9_shownBy_1 : decode cX9_shownBy 1 = .ok (.istore_n 2, 1) := by decide +kernel
theorem dX9_shownBy_2 : decode cX9_shownBy 2 = .ok (.iconst 0, 1) := by decide +kernel
theorem dX9_shownBy_3 : decode cX9_shownBy 3 = .ok (.istore_n 3, 1) := by decide +kernel
theorem dX9_shownBy_4 : decode cX9_shownBy 4 = .ok (.iload_n 3, 1) := by decide +kernel
theorem dX9_shownBy_5 : decode cX9_shownBy 5 = .ok (.aload_n 0, 1) := by decide +kernel
theorem dX9_shownBy_6 : decode cX9_shownBy 6 = .ok (.invokevirtual 287, 3) := by decide +kernel
theorem dX9_shownBy_9 : decode cX9_shownBy 9 = .ok (.if_icmp .ge 29, 3) := by decide +kernel
theorem dX9_shownBy_12 : decode cX9_shownBy 12 = .ok (.iload_n 2, 1) := by decide +kernel
theorem dX9_shownBy_13 : decode cX9_shownBy 13 = .ok (.aload_n 0, 1) := by decide +kernel
theorem dX9_shownBy_14 : decode cX9_shownBy 14 = .ok (.iload_n 3, 1) := by decide +kernel
theorem dX9_shownBy_15 : decode cX9_shownBy 15 = .ok (.iconst 0, 1) := by decide +kernel
theorem dX9_shownBy_16 : decode cX9_shownBy 16 = .ok (.invokevirtual 265, 3) := by decide +kernel
theorem dX9_shownBy_19 : decode cX9_shownBy 19 = .ok (.iload_n 1, 1) := by decide +kernel
theorem dX9_shownBy_20 : decode cX9_shownBy 20 = .ok (.if_icmp .ne 9, 3) := by decide +kernel
theorem dX9_shownBy_23 : decode cX9_shownBy 23 = .ok (.iconst 1, 1) := by decide +kernel
theorem dX9_shownBy_24 : decode cX9_shownBy 24 = .ok (.iload_n 3, 1) := by decide +kernel
theorem dX9_shownBy_25 : decode cX9_shownBy 25 = .ok (.ishl, 1) := by decide +kernel
theorem dX9_shownBy_26 : decode cX9_shownBy 26 = .ok (.goto 4, 3) := by decide +kernel
theorem dX9_shownBy_29 : decode cX9_shownBy 29 = .ok (.iconst 0, 1) := by decide +kernel
theorem dX9_shownBy_30 : decode cX9_shownBy 30 = .ok (.ior, 1) := by decide +kernel
theorem dX9_shownBy_31 : decode cX9_shownBy 31 = .ok (.istore_n 2, 1) := by decide +kernel
theorem dX9_shownBy_32 : decode cX9_shownBy 32 = .ok (.iinc 3 1, 3) := by decide +kernel
theorem dX9_shownBy_35 : decode cX9_shownBy 35 = .ok (.goto (-31), 3) := by decide +kernel
theorem dX9_shownBy_38 : decode cX9_shownBy 38 = .ok (.iload_n 2, 1) := by decide +kernel
theorem dX9_shownBy_39 : decode cX9_shownBy 39 = .ok (.ireturn, 1) := by decide +kernel
theorem dX9_least_0 : decode cX9_least 0 = .ok (.aload_n 0, 1) := by decide +kernel
theorem dX9_least_1 : decode cX9_least 1 = .ok (.invokevirtual 155, 3) := by decide +kernel
theorem dX9_least_4 : decode cX9_least 4 = .ok (.aload_n 0, 1) := by decide +kernel
theorem dX9_least_5 : decode cX9_least 5 = .ok (.iload_n 1, 1) := by decide +kernel
theorem dX9_least_6 : decode cX9_least 6 = .ok (.invokevirtual 326, 3) := by decide +kernel
theorem dX9_least_9 : decode cX9_least 9 = .ok (.ifCond .ne 9, 3) := by decide +kernel
theorem dX9_least_12 : decode cX9_least 12 = .ok (.aload_n 0, 1) := by decide +kernel
theorem dX9_least_13 : decode cX9_least 13 = .ok (.iconst 1, 1) := by decide +kernel
theorem dX9_least_14 : decode cX9_least 14 = .ok (.invokevirtual 158, 3) := by decide +kernel
theorem dX9_least_17 : decode cX9_least 17 = .ok (.ireturn, 1) := by decide +kernel
theorem dX9_least_18 : decode cX9_least 18 = .ok (.aload_n 0, 1) := by decide +kernel
theorem dX9_least_19 : decode cX9_least 19 = .ok (.iload_n 2, 1) := by decide +kernel
theorem dX9_least_20 : decode cX9_least 20 = .ok (.invokevirtual 356, 3) := by decide +kernel
theorem dX9_least_23 : decode cX9_least 23 = .ok (.istore_n 3, 1) := by decide +kernel
theorem dX9_least_24 : decode cX9_least 24 = .ok (.iload_n 3, 1) := by decide +kernel
theorem dX9_least_25 : decode cX9_least 25 = .ok (.ifCond .eq 9, 3) := by decide +kernel
theorem dX9_least_28 : decode cX9_least 28 = .ok (.aload_n 0, 1) := by decide +kernel
theorem dX9_least_29 : decode cX9_least 29 = .ok (.iload_n 3, 1) := by decide +kernel
theorem dX9_least_30 : decode cX9_least 30 = .ok (.invokevirtual 158, 3) := by decide +kernel
theorem dX9_least_33 : decode cX9_least 33 = .ok (.ireturn, 1) := by decide +kernel
theorem dX9_least_34 : decode cX9_least 34 = .ok (.aload_n 0, 1) := by decide +kernel
theorem dX9_least_35 : decode cX9_least 35 = .ok (.iload_n 2, 1) := by decide +kernel
theorem dX9_least_36 : decode cX9_least 36 = .ok (.invokevirtual 365, 3) := by decide +kernel
theorem dX9_least_39 : decode cX9_least 39 = .ok (.aload_n 0, 1) := by decide +kernel
theorem dX9_least_40 : decode cX9_least 40 = .ok (.iload_n 1, 1) := by decide +kernel
theorem dX9_least_41 : decode cX9_least 41 = .ok (.invokevirtual 377, 3) := by decide +kernel
theorem dX9_least_44 : decode cX9_least 44 = .ok (.istore 4, 2) := by decide +kernel
theorem dX9_least_46 : decode cX9_least 46 = .ok (.iload 4, 2) := by decide +kernel
theorem dX9_least_48 : decode cX9_least 48 = .ok (.invokestatic 302, 3) := by decide +kernel
theorem dX9_least_51 : decode cX9_least 51 = .ok (.istore 5, 2) := by decide +kernel
theorem dX9_least_53 : decode cX9_least 53 = .ok (.iconst 0, 1) := by decide +kernel
theorem dX9_least_54 : decode cX9_least 54 = .ok (.istore 6, 2) := by decide +kernel
theorem dX9_least_56 : decode cX9_least 56 = .ok (.iload 6, 2) := by decide +kernel
theorem dX9_least_58 : decode cX9_least 58 = .ok (.sipush 4096, 3) := by decide +kernel
theorem dX9_least_61 : decode cX9_least 61 = .ok (.if_icmp .ge 46, 3) := by decide +kernel
theorem dX9_least_64 : decode cX9_least 64 = .ok (.aload_n 0, 1) := by decide +kernel
theorem dX9_least_65 : decode cX9_least 65 = .ok (.getfield 51, 3) := by decide +kernel
theorem dX9_least_68 : decode cX9_least 68 = .ok (.iload 6, 2) := by decide +kernel
theorem dX9_least_70 : decode cX9_least 70 = .ok (.baload, 1) := by decide +kernel
theorem dX9_least_71 : decode cX9_least 71 = .ok (.ifCond .eq 30, 3) := by decide +kernel
theorem dX9_least_74 : decode cX9_least 74 = .ok (.iload 4, 2) := by decide +kernel
theorem dX9_least_76 : decode cX9_least 76 = .ok (.iload 6, 2) := by decide +kernel
theorem dX9_least_78 : decode cX9_least 78 = .ok (.iconst (-1), 1) := by decide +kernel
theorem dX9_least_79 : decode cX9_least 79 = .ok (.ixor, 1) := by decide +kernel
theorem dX9_least_80 : decode cX9_least 80 = .ok (.iand, 1) := by decide +kernel
theorem dX9_least_81 : decode cX9_least 81 = .ok (.invokestatic 302, 3) := by decide +kernel
theorem dX9_least_84 : decode cX9_least 84 = .ok (.iload 5, 2) := by decide +kernel
theorem dX9_least_86 : decode cX9_least 86 = .ok (.if_icmp .ge 15, 3) := by decide +kernel
theorem dX9_least_89 : decode cX9_least 89 = .ok (.iload 4, 2) := by decide +kernel
theorem dX9_least_91 : decode cX9_least 91 = .ok (.iload 6, 2) := by decide +kernel
theorem dX9_least_93 : decode cX9_least 93 = .ok (.iconst (-1), 1) := by decide +kernel
theorem dX9_least_94 : decode cX9_least 94 = .ok (.ixor, 1) := by decide +kernel
theorem dX9_least_95 : decode cX9_least 95 = .ok (.iand, 1) := by decide +kernel
theorem dX9_least_96 : decode cX9_least 96 = .ok (.invokestatic 302, 3) := by decide +kernel
theorem dX9_least_99 : decode cX9_least 99 = .ok (.istore 5, 2) := by decide +kernel
theorem dX9_least_101 : decode cX9_least 101 = .ok (.iinc 6 1, 3) := by decide +kernel
theorem dX9_least_104 : decode cX9_least 104 = .ok (.goto (-48), 3) := by decide +kernel
theorem dX9_least_107 : decode cX9_least 107 = .ok (.iload 5, 2) := by decide +kernel
theorem dX9_least_109 : decode cX9_least 109 = .ok (.ireturn, 1) := by decide +kernel
theorem dX9_freed_0 : decode cX9_freed 0 = .ok (.aload_n 0, 1) := by decide +kernel
theorem dX9_freed_1 : decode cX9_freed 1 = .ok (.invokevirtual 155, 3) := by decide +kernel
theorem dX9_freed_4 : decode cX9_freed 4 = .ok (.aload_n 0, 1) := by decide +kernel
theorem dX9_freed_5 : decode cX9_freed 5 = .ok (.getfield 168, 3) := by decide +kernel
theorem dX9_freed_8 : decode cX9_freed 8 = .ok (.ifCond .eq 20, 3) := by decide +kernel
theorem dX9_freed_11 : decode cX9_freed 11 = .ok (.iload_n 1, 1) := by decide +kernel
theorem dX9_freed_12 : decode cX9_freed 12 = .ok (.iconst 0, 1) := by decide +kernel
theorem dX9_freed_13 : decode cX9_freed 13 = .ok (.aload_n 0, 1) := by decide +kernel
theorem dX9_freed_14 : decode cX9_freed 14 = .ok (.getfield 20, 3) := by decide +kernel
theorem dX9_freed_17 : decode cX9_freed 17 = .ok (.bipush 6, 2) := by decide +kernel
theorem dX9_freed_19 : decode cX9_freed 19 = .ok (.iaload, 1) := by decide +kernel
theorem dX9_freed_20 : decode cX9_freed 20 = .ok (.iconst 1, 1) := by decide +kernel
theorem dX9_freed_21 : decode cX9_freed 21 = .ok (.isub, 1) := by decide +kernel
theorem dX9_freed_22 : decode cX9_freed 22 = .ok (.invokestatic 139, 3) := by decide +kernel
theorem dX9_freed_25 : decode cX9_freed 25 = .ok (.ifCond .ne 9, 3) := by decide +kernel
theorem dX9_freed_28 : decode cX9_freed 28 = .ok (.aload_n 0, 1) := by decide +kernel
theorem dX9_freed_29 : decode cX9_freed 29 = .ok (.iconst 1, 1) := by decide +kernel
theorem dX9_freed_30 : decode cX9_freed 30 = .ok (.invokevirtual 158, 3) := by decide +kernel
theorem dX9_freed_33 : decode cX9_freed 33 = .ok (.ireturn, 1) := by decide +kernel
theorem dX9_freed_34 : decode cX9_freed 34 = .ok (.aload_n 0, 1) := by decide +kernel
theorem dX9_freed_35 : decode cX9_freed 35 = .ok (.iload_n 2, 1) := by decide +kernel
theorem dX9_freed_36 : decode cX9_freed 36 = .ok (.invokevirtual 356, 3) := by decide +kernel
theorem dX9_freed_39 : decode cX9_freed 39 = .ok (.istore_n 3, 1) := by decide +kernel
theorem dX9_freed_40 : decode cX9_freed 40 = .ok (.iload_n 3, 1) := by decide +kernel
theorem dX9_freed_41 : decode cX9_freed 41 = .ok (.ifCond .eq 9, 3) := by decide +kernel
theorem dX9_freed_44 : decode cX9_freed 44 = .ok (.aload_n 0, 1) := by decide +kernel
theorem dX9_freed_45 : decode cX9_freed 45 = .ok (.iload_n 3, 1) := by decide +kernel
theorem dX9_freed_46 : decode cX9_freed 46 = .ok (.invokevirtual 158, 3) := by decide +kernel
theorem dX9_freed_49 : decode cX9_freed 49 = .ok (.ireturn, 1) := by decide +kernel
theorem dX9_freed_50 : decode cX9_freed 50 = .ok (.aload_n 0, 1) := by decide +kernel
theorem dX9_freed_51 : decode cX9_freed 51 = .ok (.iload_n 2, 1) := by decide +kernel
theorem dX9_freed_52 : decode cX9_freed 52 = .ok (.invokevirtual 359, 3) := by decide +kernel
theorem dX9_freed_55 : decode cX9_freed 55 = .ok (.aload_n 0, 1) := by decide +kernel
theorem dX9_freed_56 : decode cX9_freed 56 = .ok (.getfield 353, 3) := by decide +kernel
theorem dX9_freed_59 : decode cX9_freed 59 = .ok (.istore 4, 2) := by decide +kernel
theorem dX9_freed_61 : decode cX9_freed 61 = .ok (.bipush 22, 2) := by decide +kernel
theorem dX9_freed_63 : decode cX9_freed 63 = .ok (.bipush 6, 2) := by decide +kernel
theorem dX9_freed_65 : decode cX9_freed 65 = .ok (.iload_n 1, 1) := by decide +kernel
theorem dX9_freed_66 : decode cX9_freed 66 = .ok (.imul, 1) := by decide +kernel
theorem dX9_freed_67 : decode cX9_freed 67 = .ok (.iadd, 1) := by decide +kernel
theorem dX9_freed_68 : decode cX9_freed 68 = .ok (.iconst 4, 1) := by decide +kernel
theorem dX9_freed_69 : decode cX9_freed 69 = .ok (.iadd, 1) := by decide +kernel
theorem dX9_freed_70 : decode cX9_freed 70 = .ok (.istore 5, 2) := by decide +kernel
theorem dX9_freed_72 : decode cX9_freed 72 = .ok (.aload_n 0, 1) := by decide +kernel
theorem dX9_freed_73 : decode cX9_freed 73 = .ok (.getfield 20, 3) := by decide +kernel
theorem dX9_freed_76 : decode cX9_freed 76 = .ok (.iload 5, 2) := by decide +kernel
theorem dX9_freed_78 : decode cX9_freed 78 = .ok (.iaload, 1) := by decide +kernel
theorem dX9_freed_79 : decode cX9_freed 79 = .ok (.istore 6, 2) := by decide +kernel
theorem dX9_freed_81 : decode cX9_freed 81 = .ok (.aload_n 0, 1) := by decide +kernel
theorem dX9_freed_82 : decode cX9_freed 82 = .ok (.getfield 20, 3) := by decide +kernel
theorem dX9_freed_85 : decode cX9_freed 85 = .ok (.iload 5, 2) := by decide +kernel
theorem dX9_freed_87 : decode cX9_freed 87 = .ok (.sipush 1001, 3) := by decide +kernel
theorem dX9_freed_90 : decode cX9_freed 90 = .ok (.iastore, 1) := by decide +kernel
theorem dX9_freed_91 : decode cX9_freed 91 = .ok (.aload_n 0, 1) := by decide +kernel
theorem dX9_freed_92 : decode cX9_freed 92 = .ok (.iload_n 2, 1) := by decide +kernel
theorem dX9_freed_93 : decode cX9_freed 93 = .ok (.invokevirtual 359, 3) := by decide +kernel
theorem dX9_freed_96 : decode cX9_freed 96 = .ok (.aload_n 0, 1) := by decide +kernel
theorem dX9_freed_97 : decode cX9_freed 97 = .ok (.getfield 20, 3) := by decide +kernel
theorem dX9_freed_100 : decode cX9_freed 100 = .ok (.iload 5, 2) := by decide +kernel
theorem dX9_freed_102 : decode cX9_freed 102 = .ok (.iload 6, 2) := by decide +kernel
theorem dX9_freed_104 : decode cX9_freed 104 = .ok (.iastore, 1) := by decide +kernel
theorem dX9_freed_105 : decode cX9_freed 105 = .ok (.aload_n 0, 1) := by decide +kernel
theorem dX9_freed_106 : decode cX9_freed 106 = .ok (.getfield 353, 3) := by decide +kernel
theorem dX9_freed_109 : decode cX9_freed 109 = .ok (.iload 4, 2) := by decide +kernel
theorem dX9_freed_111 : decode cX9_freed 111 = .ok (.isub, 1) := by decide +kernel
theorem dX9_freed_112 : decode cX9_freed 112 = .ok (.ireturn, 1) := by decide +kernel
theorem dX9_note_0 : decode cX9_note 0 = .ok (.aload_n 0, 1) := by decide +kernel
theorem dX9_note_1 : decode cX9_note 1 = .ok (.getfield 26, 3) := by decide +kernel
theorem dX9_note_4 : decode cX9_note 4 = .ok (.iconst 0, 1) := by decide +kernel
theorem dX9_note_5 : decode cX9_note 5 = .ok (.aload_n 0, 1) := by decide +kernel
theorem dX9_note_6 : decode cX9_note 6 = .ok (.getfield 32, 3) := by decide +kernel
theorem dX9_note_9 : decode cX9_note 9 = .ok (.iconst 0, 1) := by decide +kernel
theorem dX9_note_10 : decode cX9_note 10 = .ok (.sipush 340, 3) := by decide +kernel
theorem dX9_note_13 : decode cX9_note 13 = .ok (.invokestatic 164, 3) := by decide +kernel
theorem dX9_note_16 : decode cX9_note 16 = .ok (.return_, 1) := by decide +kernel
theorem dX9_did_0 : decode cX9_did 0 = .ok (.aload_n 0, 1) := by decide +kernel
theorem dX9_did_1 : decode cX9_did 1 = .ok (.getfield 171, 3) := by decide +kernel
theorem dX9_did_4 : decode cX9_did 4 = .ok (.bipush 8, 2) := by decide +kernel
theorem dX9_did_6 : decode cX9_did 6 = .ok (.if_icmp .ne 44, 3) := by decide +kernel
theorem dX9_did_9 : decode cX9_did 9 = .ok (.iconst 0, 1) := by decide +kernel
theorem dX9_did_10 : decode cX9_did 10 = .ok (.istore_n 1, 1) := by decide +kernel
theorem dX9_did_11 : decode cX9_did 11 = .ok (.iload_n 1, 1) := by decide +kernel
theorem dX9_did_12 : decode cX9_did 12 = .ok (.sipush 2380, 3) := by decide +kernel
theorem dX9_did_15 : decode cX9_did 15 = .ok (.if_icmp .ge 25, 3) := by decide +kernel
theorem dX9_did_18 : decode cX9_did 18 = .ok (.aload_n 0, 1) := by decide +kernel
theorem dX9_did_19 : decode cX9_did 19 = .ok (.getfield 35, 3) := by decide +kernel
theorem dX9_did_22 : decode cX9_did 22 = .ok (.iload_n 1, 1) := by decide +kernel
theorem dX9_did_23 : decode cX9_did 23 = .ok (.aload_n 0, 1) := by decide +kernel
theorem dX9_did_24 : decode cX9_did 24 = .ok (.getfield 35, 3) := by decide +kernel
theorem dX9_did_27 : decode cX9_did 27 = .ok (.iload_n 1, 1) := by decide +kernel
theorem dX9_did_28 : decode cX9_did 28 = .ok (.sipush 340, 3) := by decide +kernel
theorem dX9_did_31 : decode cX9_did 31 = .ok (.iadd, 1) := by decide +kernel
theorem dX9_did_32 : decode cX9_did 32 = .ok (.iaload, 1) := by decide +kernel
theorem dX9_did_33 : decode cX9_did 33 = .ok (.iastore, 1) := by decide +kernel
theorem dX9_did_34 : decode cX9_did 34 = .ok (.iinc 1 1, 3) := by decide +kernel
theorem dX9_did_37 : decode cX9_did 37 = .ok (.goto (-26), 3) := by decide +kernel
theorem dX9_did_40 : decode cX9_did 40 = .ok (.aload_n 0, 1) := by decide +kernel
theorem dX9_did_41 : decode cX9_did 41 = .ok (.dup, 1) := by decide +kernel
theorem dX9_did_42 : decode cX9_did 42 = .ok (.getfield 171, 3) := by decide +kernel
theorem dX9_did_45 : decode cX9_did 45 = .ok (.iconst 1, 1) := by decide +kernel
theorem dX9_did_46 : decode cX9_did 46 = .ok (.isub, 1) := by decide +kernel
theorem dX9_did_47 : decode cX9_did 47 = .ok (.putfield 171, 3) := by decide +kernel
theorem dX9_did_50 : decode cX9_did 50 = .ok (.aload_n 0, 1) := by decide +kernel
theorem dX9_did_51 : decode cX9_did 51 = .ok (.getfield 32, 3) := by decide +kernel
theorem dX9_did_54 : decode cX9_did 54 = .ok (.iconst 0, 1) := by decide +kernel
theorem dX9_did_55 : decode cX9_did 55 = .ok (.aload_n 0, 1) := by decide +kernel
theorem dX9_did_56 : decode cX9_did 56 = .ok (.getfield 35, 3) := by decide +kernel
theorem dX9_did_59 : decode cX9_did 59 = .ok (.sipush 340, 3) := by decide +kernel
theorem dX9_did_62 : decode cX9_did 62 = .ok (.aload_n 0, 1) := by decide +kernel
theorem dX9_did_63 : decode cX9_did 63 = .ok (.getfield 171, 3) := by decide +kernel
theorem dX9_did_66 : decode cX9_did 66 = .ok (.imul, 1) := by decide +kernel
theorem dX9_did_67 : decode cX9_did 67 = .ok (.sipush 340, 3) := by decide +kernel
theorem dX9_did_70 : decode cX9_did 70 = .ok (.invokestatic 164, 3) := by decide +kernel
theorem dX9_did_73 : decode cX9_did 73 = .ok (.aload_n 0, 1) := by decide +kernel
theorem dX9_did_74 : decode cX9_did 74 = .ok (.dup, 1) := by decide +kernel
theorem dX9_did_75 : decode cX9_did 75 = .ok (.getfield 171, 3) := by decide +kernel
theorem dX9_did_78 : decode cX9_did 78 = .ok (.iconst 1, 1) := by decide +kernel
theorem dX9_did_79 : decode cX9_did 79 = .ok (.iadd, 1) := by decide +kernel
theorem dX9_did_80 : decode cX9_did 80 = .ok (.putfield 171, 3) := by decide +kernel
theorem dX9_did_83 : decode cX9_did 83 = .ok (.iconst 1, 1) := by decide +kernel
theorem dX9_did_84 : decode cX9_did 84 = .ok (.ireturn, 1) := by decide +kernel
theorem dX9_begin_0 : decode cX9_begin 0 = .ok (.aload_n 0, 1) := by decide +kernel
theorem dX9_begin_1 : decode cX9_begin 1 = .ok (.invokevirtual 155, 3) := by decide +kernel
theorem dX9_begin_4 : decode cX9_begin 4 = .ok (.aload_n 0, 1) := by decide +kernel
theorem dX9_begin_5 : decode cX9_begin 5 = .ok (.getfield 168, 3) := by decide +kernel
theorem dX9_begin_8 : decode cX9_begin 8 = .ok (.ifCond .eq 19, 3) := by decide +kernel
theorem dX9_begin_11 : decode cX9_begin 11 = .ok (.iload_n 1, 1) := by decide +kernel
theorem dX9_begin_12 : decode cX9_begin 12 = .ok (.iconst 0, 1) := by decide +kernel
theorem dX9_begin_13 : decode cX9_begin 13 = .ok (.aload_n 0, 1) := by decide +kernel
theorem dX9_begin_14 : decode cX9_begin 14 = .ok (.getfield 20, 3) := by decide +kernel
theorem dX9_begin_17 : decode cX9_begin 17 = .ok (.iconst 5, 1) := by decide +kernel
theorem dX9_begin_18 : decode cX9_begin 18 = .ok (.iaload, 1) := by decide +kernel
theorem dX9_begin_19 : decode cX9_begin 19 = .ok (.iconst 1, 1) := by decide +kernel
theorem dX9_begin_20 : decode cX9_begin 20 = .ok (.isub, 1) := by decide +kernel
theorem dX9_begin_21 : decode cX9_begin 21 = .ok (.invokestatic 139, 3) := by decide +kernel
theorem dX9_begin_24 : decode cX9_begin 24 = .ok (.ifCond .ne 9, 3) := by decide +kernel
theorem dX9_begin_27 : decode cX9_begin 27 = .ok (.aload_n 0, 1) := by decide +kernel
theorem dX9_begin_28 : decode cX9_begin 28 = .ok (.iconst 1, 1) := by decide +kernel
theorem dX9_begin_29 : decode cX9_begin 29 = .ok (.invokevirtual 380, 3) := by decide +kernel
theorem dX9_begin_32 : decode cX9_begin 32 = .ok (.ireturn, 1) := by decide +kernel
theorem dX9_begin_33 : decode cX9_begin 33 = .ok (.iload_n 2, 1) := by decide +kernel
theorem dX9_begin_34 : decode cX9_begin 34 = .ok (.aload_n 0, 1) := by decide +kernel
theorem dX9_begin_35 : decode cX9_begin 35 = .ok (.getfield 26, 3) := by decide +kernel
theorem dX9_begin_38 : decode cX9_begin 38 = .ok (.iconst 0, 1) := by decide +kernel
theorem dX9_begin_39 : decode cX9_begin 39 = .ok (.iaload, 1) := by decide +kernel
theorem dX9_begin_40 : decode cX9_begin 40 = .ok (.ifCond .ne 7, 3) := by decide +kernel
theorem dX9_begin_43 : decode cX9_begin 43 = .ok (.iconst 0, 1) := by decide +kernel
theorem dX9_begin_44 : decode cX9_begin 44 = .ok (.goto 15, 3) := by decide +kernel
theorem dX9_begin_47 : decode cX9_begin 47 = .ok (.aload_n 0, 1) := by decide +kernel
theorem dX9_begin_48 : decode cX9_begin 48 = .ok (.aload_n 0, 1) := by decide +kernel
theorem dX9_begin_49 : decode cX9_begin 49 = .ok (.getfield 26, 3) := by decide +kernel
theorem dX9_begin_52 : decode cX9_begin 52 = .ok (.iconst 0, 1) := by decide +kernel
theorem dX9_begin_53 : decode cX9_begin 53 = .ok (.iaload, 1) := by decide +kernel
theorem dX9_begin_54 : decode cX9_begin 54 = .ok (.iconst 1, 1) := by decide +kernel
theorem dX9_begin_55 : decode cX9_begin 55 = .ok (.isub, 1) := by decide +kernel
theorem dX9_begin_56 : decode cX9_begin 56 = .ok (.invokevirtual 278, 3) := by decide +kernel
theorem dX9_begin_59 : decode cX9_begin 59 = .ok (.sipush 999, 3) := by decide +kernel
theorem dX9_begin_62 : decode cX9_begin 62 = .ok (.invokestatic 139, 3) := by decide +kernel
theorem dX9_begin_65 : decode cX9_begin 65 = .ok (.ifCond .ne 9, 3) := by decide +kernel
theorem dX9_begin_68 : decode cX9_begin 68 = .ok (.aload_n 0, 1) := by decide +kernel
theorem dX9_begin_69 : decode cX9_begin 69 = .ok (.iconst 2, 1) := by decide +kernel
theorem dX9_begin_70 : decode cX9_begin 70 = .ok (.invokevirtual 380, 3) := by decide +kernel
theorem dX9_begin_73 : decode cX9_begin 73 = .ok (.ireturn, 1) := by decide +kernel
theorem dX9_begin_74 : decode cX9_begin 74 = .ok (.aload_n 0, 1) := by decide +kernel
theorem dX9_begin_75 : decode cX9_begin 75 = .ok (.getfield 26, 3) := by decide +kernel
theorem dX9_begin_78 : decode cX9_begin 78 = .ok (.iconst 0, 1) := by decide +kernel
theorem dX9_begin_79 : decode cX9_begin 79 = .ok (.iaload, 1) := by decide +kernel
theorem dX9_begin_80 : decode cX9_begin 80 = .ok (.bipush 12, 2) := by decide +kernel
theorem dX9_begin_82 : decode cX9_begin 82 = .ok (.if_icmp .ne 9, 3) := by decide +kernel
theorem dX9_begin_85 : decode cX9_begin 85 = .ok (.aload_n 0, 1) := by decide +kernel
theorem dX9_begin_86 : decode cX9_begin 86 = .ok (.iconst 3, 1) := by decide +kernel
theorem dX9_begin_87 : decode cX9_begin 87 = .ok (.invokevirtual 380, 3) := by decide +kernel
theorem dX9_begin_90 : decode cX9_begin 90 = .ok (.ireturn, 1) := by decide +kernel
theorem dX9_begin_91 : decode cX9_begin 91 = .ok (.aload_n 0, 1) := by decide +kernel
theorem dX9_begin_92 : decode cX9_begin 92 = .ok (.getfield 26, 3) := by decide +kernel
theorem dX9_begin_95 : decode cX9_begin 95 = .ok (.iconst 1, 1) := by decide +kernel
theorem dX9_begin_96 : decode cX9_begin 96 = .ok (.iaload, 1) := by decide +kernel
theorem dX9_begin_97 : decode cX9_begin 97 = .ok (.iconst 1, 1) := by decide +kernel
theorem dX9_begin_98 : decode cX9_begin 98 = .ok (.if_icmp .ne 9, 3) := by decide +kernel
theorem dX9_begin_101 : decode cX9_begin 101 = .ok (.aload_n 0, 1) := by decide +kernel
theorem dX9_begin_102 : decode cX9_begin 102 = .ok (.iconst 5, 1) := by decide +kernel
theorem dX9_begin_103 : decode cX9_begin 103 = .ok (.invokevirtual 380, 3) := by decide +kernel
theorem dX9_begin_106 : decode cX9_begin 106 = .ok (.ireturn, 1) := by decide +kernel
theorem dX9_begin_107 : decode cX9_begin 107 = .ok (.aload_n 0, 1) := by decide +kernel
theorem dX9_begin_108 : decode cX9_begin 108 = .ok (.invokevirtual 383, 3) := by decide +kernel
theorem dX9_begin_111 : decode cX9_begin 111 = .ok (.iconst 2, 1) := by decide +kernel
theorem dX9_begin_112 : decode cX9_begin 112 = .ok (.bipush 26, 2) := by decide +kernel
theorem dX9_begin_114 : decode cX9_begin 114 = .ok (.aload_n 0, 1) := by decide +kernel
theorem dX9_begin_115 : decode cX9_begin 115 = .ok (.getfield 26, 3) := by decide +kernel
theorem dX9_begin_118 : decode cX9_begin 118 = .ok (.iconst 0, 1) := by decide +kernel
theorem dX9_begin_119 : decode cX9_begin 119 = .ok (.iaload, 1) := by decide +kernel
theorem dX9_begin_120 : decode cX9_begin 120 = .ok (.imul, 1) := by decide +kernel
theorem dX9_begin_121 : decode cX9_begin 121 = .ok (.iadd, 1) := by decide +kernel
theorem dX9_begin_122 : decode cX9_begin 122 = .ok (.istore_n 3, 1) := by decide +kernel
theorem dX9_begin_123 : decode cX9_begin 123 = .ok (.iconst 0, 1) := by decide +kernel
theorem dX9_begin_124 : decode cX9_begin 124 = .ok (.istore 4, 2) := by decide +kernel
theorem dX9_begin_126 : decode cX9_begin 126 = .ok (.iload 4, 2) := by decide +kernel
theorem dX9_begin_128 : decode cX9_begin 128 = .ok (.bipush 26, 2) := by decide +kernel
theorem dX9_begin_130 : decode cX9_begin 130 = .ok (.if_icmp .ge 19, 3) := by decide +kernel
theorem dX9_begin_133 : decode cX9_begin 133 = .ok (.aload_n 0, 1) := by decide +kernel
theorem dX9_begin_134 : decode cX9_begin 134 = .ok (.getfield 26, 3) := by decide +kernel
theorem dX9_begin_137 : decode cX9_begin 137 = .ok (.iload_n 3, 1) := by decide +kernel
theorem dX9_begin_138 : decode cX9_begin 138 = .ok (.iload 4, 2) := by decide +kernel
theorem dX9_begin_140 : decode cX9_begin 140 = .ok (.iadd, 1) := by decide +kernel
theorem dX9_begin_141 : decode cX9_begin 141 = .ok (.iconst 0, 1) := by decide +kernel
theorem dX9_begin_142 : decode cX9_begin 142 = .ok (.iastore, 1) := by decide +kernel
theorem dX9_begin_143 : decode cX9_begin 143 = .ok (.iinc 4 1, 3) := by decide +kernel
theorem dX9_begin_146 : decode cX9_begin 146 = .ok (.goto (-20), 3) := by decide +kernel
theorem dX9_begin_149 : decode cX9_begin 149 = .ok (.aload_n 0, 1) := by decide +kernel
theorem dX9_begin_150 : decode cX9_begin 150 = .ok (.getfield 26, 3) := by decide +kernel
theorem dX9_begin_153 : decode cX9_begin 153 = .ok (.iload_n 3, 1) := by decide +kernel
theorem dX9_begin_154 : decode cX9_begin 154 = .ok (.iconst 0, 1) := by decide +kernel
theorem dX9_begin_155 : decode cX9_begin 155 = .ok (.iadd, 1) := by decide +kernel
theorem dX9_begin_156 : decode cX9_begin 156 = .ok (.iload_n 1, 1) := by decide +kernel
theorem dX9_begin_157 : decode cX9_begin 157 = .ok (.iastore, 1) := by decide +kernel
theorem dX9_begin_158 : decode cX9_begin 158 = .ok (.aload_n 0, 1) := by decide +kernel
theorem dX9_begin_159 : decode cX9_begin 159 = .ok (.getfield 26, 3) := by decide +kernel
theorem dX9_begin_162 : decode cX9_begin 162 = .ok (.iload_n 3, 1) := by decide +kernel
theorem dX9_begin_163 : decode cX9_begin 163 = .ok (.iconst 1, 1) := by decide +kernel
theorem dX9_begin_164 : decode cX9_begin 164 = .ok (.iadd, 1) := by decide +kernel
theorem dX9_begin_165 : decode cX9_begin 165 = .ok (.iload_n 2, 1) := by decide +kernel
theorem dX9_begin_166 : decode cX9_begin 166 = .ok (.iastore, 1) := by decide +kernel
theorem dX9_begin_167 : decode cX9_begin 167 = .ok (.aload_n 0, 1) := by decide +kernel
theorem dX9_begin_168 : decode cX9_begin 168 = .ok (.getfield 26, 3) := by decide +kernel
theorem dX9_begin_171 : decode cX9_begin 171 = .ok (.iconst 1, 1) := by decide +kernel
theorem dX9_begin_172 : decode cX9_begin 172 = .ok (.iconst 1, 1) := by decide +kernel
theorem dX9_begin_173 : decode cX9_begin 173 = .ok (.iastore, 1) := by decide +kernel
theorem dX9_begin_174 : decode cX9_begin 174 = .ok (.aload_n 0, 1) := by decide +kernel
theorem dX9_begin_175 : decode cX9_begin 175 = .ok (.invokevirtual 386, 3) := by decide +kernel
theorem dX9_begin_178 : decode cX9_begin 178 = .ok (.ireturn, 1) := by decide +kernel
theorem dX9_patch_0 : decode cX9_patch 0 = .ok (.aload_n 0, 1) := by decide +kernel
theorem dX9_patch_1 : decode cX9_patch 1 = .ok (.invokevirtual 155, 3) := by decide +kernel
theorem dX9_patch_4 : decode cX9_patch 4 = .ok (.aload_n 0, 1) := by decide +kernel
theorem dX9_patch_5 : decode cX9_patch 5 = .ok (.getfield 168, 3) := by decide +kernel
theorem dX9_patch_8 : decode cX9_patch 8 = .ok (.ifCond .eq 19, 3) := by decide +kernel
theorem dX9_patch_11 : decode cX9_patch 11 = .ok (.iload_n 1, 1) := by decide +kernel
theorem dX9_patch_12 : decode cX9_patch 12 = .ok (.iconst 0, 1) := by decide +kernel
theorem dX9_patch_13 : decode cX9_patch 13 = .ok (.aload_n 0, 1) := by decide +kernel
theorem dX9_patch_14 : decode cX9_patch 14 = .ok (.getfield 20, 3) := by decide +kernel
theorem dX9_patch_17 : decode cX9_patch 17 = .ok (.iconst 4, 1) := by decide +kernel
theorem dX9_patch_18 : decode cX9_patch 18 = .ok (.iaload, 1) := by decide +kernel
theorem dX9_patch_19 : decode cX9_patch 19 = .ok (.iconst 1, 1) := by decide +kernel
theorem dX9_patch_20 : decode cX9_patch 20 = .ok (.isub, 1) := by decide +kernel
theorem dX9_patch_21 : decode cX9_patch 21 = .ok (.invokestatic 139, 3) := by decide +kernel
theorem dX9_patch_24 : decode cX9_patch 24 = .ok (.ifCond .ne 9, 3) := by decide +kernel
theorem dX9_patch_27 : decode cX9_patch 27 = .ok (.aload_n 0, 1) := by decide +kernel
theorem dX9_patch_28 : decode cX9_patch 28 = .ok (.iconst 1, 1) := by decide +kernel
theorem dX9_patch_29 : decode cX9_patch 29 = .ok (.invokevirtual 380, 3) := by decide +kernel
theorem dX9_patch_32 : decode cX9_patch 32 = .ok (.ireturn, 1) := by decide +kernel
theorem dX9_patch_33 : decode cX9_patch 33 = .ok (.aload_n 0, 1) := by decide +kernel
theorem dX9_patch_34 : decode cX9_patch 34 = .ok (.iload_n 2, 1) := by decide +kernel
theorem dX9_patch_35 : decode cX9_patch 35 = .ok (.iload_n 3, 1) := by decide +kernel
theorem dX9_patch_36 : decode cX9_patch 36 = .ok (.invokevirtual 268, 3) := by decide +kernel
theorem dX9_patch_39 : decode cX9_patch 39 = .ok (.ifCond .eq 26, 3) := by decide +kernel
theorem dX9_patch_42 : decode cX9_patch 42 = .ok (.aload_n 0, 1) := by decide +kernel
theorem dX9_patch_43 : decode cX9_patch 43 = .ok (.iload 4, 2) := by decide +kernel
theorem dX9_patch_45 : decode cX9_patch 45 = .ok (.iload 5, 2) := by decide +kernel
theorem dX9_patch_47 : decode cX9_patch 47 = .ok (.invokevirtual 268, 3) := by decide +kernel
theorem dX9_patch_50 : decode cX9_patch 50 = .ok (.ifCond .eq 15, 3) := by decide +kernel
theorem dX9_patch_53 : decode cX9_patch 53 = .ok (.iload 4, 2) := by decide +kernel
theorem dX9_patch_55 : decode cX9_patch 55 = .ok (.iload_n 2, 1) := by decide +kernel
theorem dX9_patch_56 : decode cX9_patch 56 = .ok (.if_icmp .lt 9, 3) := by decide +kernel
theorem dX9_patch_59 : decode cX9_patch 59 = .ok (.iload 5, 2) := by decide +kernel
theorem dX9_patch_61 : decode cX9_patch 61 = .ok (.iload_n 3, 1) := by decide +kernel
theorem dX9_patch_62 : decode cX9_patch 62 = .ok (.if_icmp .ge 9, 3) := by decide +kernel
theorem dX9_patch_65 : decode cX9_patch 65 = .ok (.aload_n 0, 1) := by decide +kernel
theorem dX9_patch_66 : decode cX9_patch 66 = .ok (.iconst 2, 1) := by decide +kernel
theorem dX9_patch_67 : decode cX9_patch 67 = .ok (.invokevirtual 380, 3) := by decide +kernel
theorem dX9_patch_70 : decode cX9_patch 70 = .ok (.ireturn, 1) := by decide +kernel
theorem dX9_patch_71 : decode cX9_patch 71 = .ok (.aload_n 0, 1) := by decide +kernel
theorem dX9_patch_72 : decode cX9_patch 72 = .ok (.getfield 26, 3) := by decide +kernel
theorem dX9_patch_75 : decode cX9_patch 75 = .ok (.iconst 1, 1) := by decide +kernel
theorem dX9_patch_76 : decode cX9_patch 76 = .ok (.iaload, 1) := by decide +kernel
theorem dX9_patch_77 : decode cX9_patch 77 = .ok (.ifCond .ne 10, 3) := by decide +kernel
theorem dX9_patch_80 : decode cX9_patch 80 = .ok (.aload_n 0, 1) := by decide +kernel
theorem dX9_patch_81 : decode cX9_patch 81 = .ok (.bipush 6, 2) := by decide +kernel
theorem dX9_patch_83 : decode cX9_patch 83 = .ok (.invokevirtual 380, 3) := by decide +kernel
theorem dX9_patch_86 : decode cX9_patch 86 = .ok (.ireturn, 1) := by decide +kernel
theorem dX9_patch_87 : decode cX9_patch 87 = .ok (.aload_n 0, 1) := by decide +kernel
theorem dX9_patch_88 : decode cX9_patch 88 = .ok (.invokevirtual 383, 3) := by decide +kernel
theorem dX9_patch_91 : decode cX9_patch 91 = .ok (.aload_n 0, 1) := by decide +kernel
theorem dX9_patch_92 : decode cX9_patch 92 = .ok (.iload_n 2, 1) := by decide +kernel
theorem dX9_patch_93 : decode cX9_patch 93 = .ok (.putfield 224, 3) := by decide +kernel
theorem dX9_patch_96 : decode cX9_patch 96 = .ok (.aload_n 0, 1) := by decide +kernel
theorem dX9_patch_97 : decode cX9_patch 97 = .ok (.iload_n 3, 1) := by decide +kernel
theorem dX9_patch_98 : decode cX9_patch 98 = .ok (.putfield 230, 3) := by decide +kernel
theorem dX9_patch_101 : decode cX9_patch 101 = .ok (.aload_n 0, 1) := by decide +kernel
theorem dX9_patch_102 : decode cX9_patch 102 = .ok (.iload 4, 2) := by decide +kernel
theorem dX9_patch_104 : decode cX9_patch 104 = .ok (.putfield 235, 3) := by decide +kernel
theorem dX9_patch_107 : decode cX9_patch 107 = .ok (.aload_n 0, 1) := by decide +kernel
theorem dX9_patch_108 : decode cX9_patch 108 = .ok (.iload 5, 2) := by decide +kernel
theorem dX9_patch_110 : decode cX9_patch 110 = .ok (.putfield 238, 3) := by decide +kernel
theorem dX9_patch_113 : decode cX9_patch 113 = .ok (.aload_n 0, 1) := by decide +kernel
theorem dX9_patch_114 : decode cX9_patch 114 = .ok (.aload_n 0, 1) := by decide +kernel
theorem dX9_patch_115 : decode cX9_patch 115 = .ok (.getfield 26, 3) := by decide +kernel
theorem dX9_patch_118 : decode cX9_patch 118 = .ok (.iconst 2, 1) := by decide +kernel
theorem dX9_patch_119 : decode cX9_patch 119 = .ok (.bipush 26, 2) := by decide +kernel
theorem dX9_patch_121 : decode cX9_patch 121 = .ok (.aload_n 0, 1) := by decide +kernel
theorem dX9_patch_122 : decode cX9_patch 122 = .ok (.getfield 26, 3) := by decide +kernel
theorem dX9_patch_125 : decode cX9_patch 125 = .ok (.iconst 0, 1) := by decide +kernel
theorem dX9_patch_126 : decode cX9_patch 126 = .ok (.iaload, 1) := by decide +kernel
theorem dX9_patch_127 : decode cX9_patch 127 = .ok (.imul, 1) := by decide +kernel
theorem dX9_patch_128 : decode cX9_patch 128 = .ok (.iadd, 1) := by decide +kernel
theorem dX9_patch_129 : decode cX9_patch 129 = .ok (.iconst 2, 1) := by decide +kernel
theorem dX9_patch_130 : decode cX9_patch 130 = .ok (.iadd, 1) := by decide +kernel
theorem dX9_patch_131 : decode cX9_patch 131 = .ok (.iload_n 1, 1) := by decide +kernel
theorem dX9_patch_132 : decode cX9_patch 132 = .ok (.aload_n 0, 1) := by decide +kernel
theorem dX9_patch_133 : decode cX9_patch 133 = .ok (.getfield 20, 3) := by decide +kernel
theorem dX9_patch_136 : decode cX9_patch 136 = .ok (.iconst 0, 1) := by decide +kernel
theorem dX9_patch_137 : decode cX9_patch 137 = .ok (.iaload, 1) := by decide +kernel
theorem dX9_patch_138 : decode cX9_patch 138 = .ok (.invokevirtual 248, 3) := by decide +kernel
theorem dX9_patch_141 : decode cX9_patch 141 = .ok (.aload_n 0, 1) := by decide +kernel
theorem dX9_patch_142 : decode cX9_patch 142 = .ok (.invokevirtual 386, 3) := by decide +kernel
theorem dX9_patch_145 : decode cX9_patch 145 = .ok (.ireturn, 1) := by decide +kernel
theorem dX9_dry_0 : decode cX9_dry 0 = .ok (.aload_n 0, 1) := by decide +kernel
theorem dX9_dry_1 : decode cX9_dry 1 = .ok (.invokevirtual 155, 3) := by decide +kernel
theorem dX9_dry_4 : decode cX9_dry 4 = .ok (.aload_n 0, 1) := by decide +kernel
theorem dX9_dry_5 : decode cX9_dry 5 = .ok (.getfield 168, 3) := by decide +kernel
theorem dX9_dry_8 : decode cX9_dry 8 = .ok (.ifCond .eq 12, 3) := by decide +kernel
theorem dX9_dry_11 : decode cX9_dry 11 = .ok (.aload_n 0, 1) := by decide +kernel
theorem dX9_dry_12 : decode cX9_dry 12 = .ok (.getfield 26, 3) := by decide +kernel
theorem dX9_dry_15 : decode cX9_dry 15 = .ok (.iconst 1, 1) := by decide +kernel
theorem dX9_dry_16 : decode cX9_dry 16 = .ok (.iaload, 1) := by decide +kernel
theorem dX9_dry_17 : decode cX9_dry 17 = .ok (.ifCond .ne 10, 3) := by decide +kernel
theorem dX9_dry_20 : decode cX9_dry 20 = .ok (.aload_n 0, 1) := by decide +kernel
theorem dX9_dry_21 : decode cX9_dry 21 = .ok (.bipush 6, 2) := by decide +kernel
theorem dX9_dry_23 : decode cX9_dry 23 = .ok (.invokevirtual 158, 3) := by decide +kernel
theorem dX9_dry_26 : decode cX9_dry 26 = .ok (.ireturn, 1) := by decide +kernel
theorem dX9_dry_27 : decode cX9_dry 27 = .ok (.aload_n 0, 1) := by decide +kernel
theorem dX9_dry_28 : decode cX9_dry 28 = .ok (.aload_n 0, 1) := by decide +kernel
theorem dX9_dry_29 : decode cX9_dry 29 = .ok (.getfield 26, 3) := by decide +kernel
theorem dX9_dry_32 : decode cX9_dry 32 = .ok (.iconst 0, 1) := by decide +kernel
theorem dX9_dry_33 : decode cX9_dry 33 = .ok (.iaload, 1) := by decide +kernel
theorem dX9_dry_34 : decode cX9_dry 34 = .ok (.invokevirtual 320, 3) := by decide +kernel
theorem dX9_dry_37 : decode cX9_dry 37 = .ok (.ifCond .eq 9, 3) := by decide +kernel
theorem dX9_dry_40 : decode cX9_dry 40 = .ok (.aload_n 0, 1) := by decide +kernel
theorem dX9_dry_41 : decode cX9_dry 41 = .ok (.iconst 5, 1) := by decide +kernel
theorem dX9_dry_42 : decode cX9_dry 42 = .ok (.invokevirtual 158, 3) := by decide +kernel
theorem dX9_dry_45 : decode cX9_dry 45 = .ok (.ireturn, 1) := by decide +kernel
theorem dX9_dry_46 : decode cX9_dry 46 = .ok (.aload_n 0, 1) := by decide +kernel
theorem dX9_dry_47 : decode cX9_dry 47 = .ok (.invokevirtual 383, 3) := by decide +kernel
theorem dX9_dry_50 : decode cX9_dry 50 = .ok (.aload_n 0, 1) := by decide +kernel
theorem dX9_dry_51 : decode cX9_dry 51 = .ok (.getfield 26, 3) := by decide +kernel
theorem dX9_dry_54 : decode cX9_dry 54 = .ok (.iconst 1, 1) := by decide +kernel
theorem dX9_dry_55 : decode cX9_dry 55 = .ok (.iconst 0, 1) := by decide +kernel
theorem dX9_dry_56 : decode cX9_dry 56 = .ok (.iastore, 1) := by decide +kernel
theorem dX9_dry_57 : decode cX9_dry 57 = .ok (.aload_n 0, 1) := by decide +kernel
theorem dX9_dry_58 : decode cX9_dry 58 = .ok (.getfield 26, 3) := by decide +kernel
theorem dX9_dry_61 : decode cX9_dry 61 = .ok (.iconst 0, 1) := by decide +kernel
theorem dX9_dry_62 : decode cX9_dry 62 = .ok (.dup2, 1) := by decide +kernel
theorem dX9_dry_63 : decode cX9_dry 63 = .ok (.iaload, 1) := by decide +kernel
theorem dX9_dry_64 : decode cX9_dry 64 = .ok (.iconst 1, 1) := by decide +kernel
theorem dX9_dry_65 : decode cX9_dry 65 = .ok (.iadd, 1) := by decide +kernel
theorem dX9_dry_66 : decode cX9_dry 66 = .ok (.iastore, 1) := by decide +kernel
theorem dX9_dry_67 : decode cX9_dry 67 = .ok (.aload_n 0, 1) := by decide +kernel
theorem dX9_dry_68 : decode cX9_dry 68 = .ok (.invokevirtual 386, 3) := by decide +kernel
theorem dX9_dry_71 : decode cX9_dry 71 = .ok (.pop, 1) := by decide +kernel
theorem dX9_dry_72 : decode cX9_dry 72 = .ok (.aload_n 0, 1) := by decide +kernel
theorem dX9_dry_73 : decode cX9_dry 73 = .ok (.getfield 26, 3) := by decide +kernel
theorem dX9_dry_76 : decode cX9_dry 76 = .ok (.iconst 0, 1) := by decide +kernel
theorem dX9_dry_77 : decode cX9_dry 77 = .ok (.iaload, 1) := by decide +kernel
theorem dX9_dry_78 : decode cX9_dry 78 = .ok (.iconst 1, 1) := by decide +kernel
theorem dX9_dry_79 : decode cX9_dry 79 = .ok (.isub, 1) := by decide +kernel
theorem dX9_dry_80 : decode cX9_dry 80 = .ok (.ireturn, 1) := by decide +kernel
theorem dX9_wipe_0 : decode cX9_wipe 0 = .ok (.aload_n 0, 1) := by decide +kernel
theorem dX9_wipe_1 : decode cX9_wipe 1 = .ok (.invokevirtual 155, 3) := by decide +kernel
theorem dX9_wipe_4 : decode cX9_wipe 4 = .ok (.aload_n 0, 1) := by decide +kernel
theorem dX9_wipe_5 : decode cX9_wipe 5 = .ok (.getfield 168, 3) := by decide +kernel
theorem dX9_wipe_8 : decode cX9_wipe 8 = .ok (.ifCond .eq 12, 3) := by decide +kernel
theorem dX9_wipe_11 : decode cX9_wipe 11 = .ok (.aload_n 0, 1) := by decide +kernel
theorem dX9_wipe_12 : decode cX9_wipe 12 = .ok (.getfield 26, 3) := by decide +kernel
theorem dX9_wipe_15 : decode cX9_wipe 15 = .ok (.iconst 1, 1) := by decide +kernel
theorem dX9_wipe_16 : decode cX9_wipe 16 = .ok (.iaload, 1) := by decide +kernel
theorem dX9_wipe_17 : decode cX9_wipe 17 = .ok (.ifCond .ne 10, 3) := by decide +kernel
theorem dX9_wipe_20 : decode cX9_wipe 20 = .ok (.aload_n 0, 1) := by decide +kernel
theorem dX9_wipe_21 : decode cX9_wipe 21 = .ok (.bipush 6, 2) := by decide +kernel
theorem dX9_wipe_23 : decode cX9_wipe 23 = .ok (.invokevirtual 380, 3) := by decide +kernel
theorem dX9_wipe_26 : decode cX9_wipe 26 = .ok (.ireturn, 1) := by decide +kernel
theorem dX9_wipe_27 : decode cX9_wipe 27 = .ok (.aload_n 0, 1) := by decide +kernel
theorem dX9_wipe_28 : decode cX9_wipe 28 = .ok (.invokevirtual 383, 3) := by decide +kernel
theorem dX9_wipe_31 : decode cX9_wipe 31 = .ok (.iconst 0, 1) := by decide +kernel
theorem dX9_wipe_32 : decode cX9_wipe 32 = .ok (.istore_n 1, 1) := by decide +kernel
theorem dX9_wipe_33 : decode cX9_wipe 33 = .ok (.iload_n 1, 1) := by decide +kernel
theorem dX9_wipe_34 : decode cX9_wipe 34 = .ok (.bipush 26, 2) := by decide +kernel
theorem dX9_wipe_36 : decode cX9_wipe 36 = .ok (.if_icmp .ge 28, 3) := by decide +kernel
theorem dX9_wipe_39 : decode cX9_wipe 39 = .ok (.aload_n 0, 1) := by decide +kernel
theorem dX9_wipe_40 : decode cX9_wipe 40 = .ok (.getfield 26, 3) := by decide +kernel
theorem dX9_wipe_43 : decode cX9_wipe 43 = .ok (.iconst 2, 1) := by decide +kernel
theorem dX9_wipe_44 : decode cX9_wipe 44 = .ok (.bipush 26, 2) := by decide +kernel
theorem dX9_wipe_46 : decode cX9_wipe 46 = .ok (.aload_n 0, 1) := by decide +kernel
theorem dX9_wipe_47 : decode cX9_wipe 47 = .ok (.getfield 26, 3) := by decide +kernel
theorem dX9_wipe_50 : decode cX9_wipe 50 = .ok (.iconst 0, 1) := by decide +kernel
theorem dX9_wipe_51 : decode cX9_wipe 51 = .ok (.iaload, 1) := by decide +kernel
theorem dX9_wipe_52 : decode cX9_wipe 52 = .ok (.imul, 1) := by decide +kernel
theorem dX9_wipe_53 : decode cX9_wipe 53 = .ok (.iadd, 1) := by decide +kernel
theorem dX9_wipe_54 : decode cX9_wipe 54 = .ok (.iload_n 1, 1) := by decide +kernel
theorem dX9_wipe_55 : decode cX9_wipe 55 = .ok (.iadd, 1) := by decide +kernel
theorem dX9_wipe_56 : decode cX9_wipe 56 = .ok (.iconst 0, 1) := by decide +kernel
theorem dX9_wipe_57 : decode cX9_wipe 57 = .ok (.iastore, 1) := by decide +kernel
theorem dX9_wipe_58 : decode cX9_wipe 58 = .ok (.iinc 1 1, 3) := by decide +kernel
theorem dX9_wipe_61 : decode cX9_wipe 61 = .ok (.goto (-28), 3) := by decide +kernel
theorem dX9_wipe_64 : decode cX9_wipe 64 = .ok (.aload_n 0, 1) := by decide +kernel
theorem dX9_wipe_65 : decode cX9_wipe 65 = .ok (.getfield 26, 3) := by decide +kernel
theorem dX9_wipe_68 : decode cX9_wipe 68 = .ok (.iconst 1, 1) := by decide +kernel
theorem dX9_wipe_69 : decode cX9_wipe 69 = .ok (.iconst 0, 1) := by decide +kernel
theorem dX9_wipe_70 : decode cX9_wipe 70 = .ok (.iastore, 1) := by decide +kernel
theorem dX9_wipe_71 : decode cX9_wipe 71 = .ok (.aload_n 0, 1) := by decide +kernel
theorem dX9_wipe_72 : decode cX9_wipe 72 = .ok (.invokevirtual 386, 3) := by decide +kernel
theorem dX9_wipe_75 : decode cX9_wipe 75 = .ok (.ireturn, 1) := by decide +kernel
theorem dX9_wet_0 : decode cX9_wet 0 = .ok (.aload_n 0, 1) := by decide +kernel
theorem dX9_wet_1 : decode cX9_wet 1 = .ok (.invokevirtual 155, 3) := by decide +kernel
theorem dX9_wet_4 : decode cX9_wet 4 = .ok (.aload_n 0, 1) := by decide +kernel
theorem dX9_wet_5 : decode cX9_wet 5 = .ok (.iload_n 1, 1) := by decide +kernel
theorem dX9_wet_6 : decode cX9_wet 6 = .ok (.iload_n 2, 1) := by decide +kernel
theorem dX9_wet_7 : decode cX9_wet 7 = .ok (.invokevirtual 268, 3) := by decide +kernel
theorem dX9_wet_10 : decode cX9_wet 10 = .ok (.ifCond .ne 9, 3) := by decide +kernel
theorem dX9_wet_13 : decode cX9_wet 13 = .ok (.aload_n 0, 1) := by decide +kernel
theorem dX9_wet_14 : decode cX9_wet 14 = .ok (.iconst 1, 1) := by decide +kernel
theorem dX9_wet_15 : decode cX9_wet 15 = .ok (.invokevirtual 158, 3) := by decide +kernel
theorem dX9_wet_18 : decode cX9_wet 18 = .ok (.ireturn, 1) := by decide +kernel
theorem dX9_wet_19 : decode cX9_wet 19 = .ok (.aload_n 0, 1) := by decide +kernel
theorem dX9_wet_20 : decode cX9_wet 20 = .ok (.getfield 26, 3) := by decide +kernel
theorem dX9_wet_23 : decode cX9_wet 23 = .ok (.iconst 1, 1) := by decide +kernel
theorem dX9_wet_24 : decode cX9_wet 24 = .ok (.iaload, 1) := by decide +kernel
theorem dX9_wet_25 : decode cX9_wet 25 = .ok (.ifCond .ne 12, 3) := by decide +kernel
theorem dX9_wet_28 : decode cX9_wet 28 = .ok (.aload_n 0, 1) := by decide +kernel
theorem dX9_wet_29 : decode cX9_wet 29 = .ok (.bipush 6, 2) := by decide +kernel
theorem dX9_wet_31 : decode cX9_wet 31 = .ok (.invokevirtual 158, 3) := by decide +kernel
theorem dX9_wet_34 : decode cX9_wet 34 = .ok (.goto 19, 3) := by decide +kernel
theorem dX9_wet_37 : decode cX9_wet 37 = .ok (.aload_n 0, 1) := by decide +kernel
theorem dX9_wet_38 : decode cX9_wet 38 = .ok (.aload_n 0, 1) := by decide +kernel
theorem dX9_wet_39 : decode cX9_wet 39 = .ok (.getfield 26, 3) := by decide +kernel
theorem dX9_wet_42 : decode cX9_wet 42 = .ok (.iconst 0, 1) := by decide +kernel
theorem dX9_wet_43 : decode cX9_wet 43 = .ok (.iaload, 1) := by decide +kernel
theorem dX9_wet_44 : decode cX9_wet 44 = .ok (.aload_n 0, 1) := by decide +kernel
theorem dX9_wet_45 : decode cX9_wet 45 = .ok (.iload_n 1, 1) := by decide +kernel
theorem dX9_wet_46 : decode cX9_wet 46 = .ok (.iload_n 2, 1) := by decide +kernel
theorem dX9_wet_47 : decode cX9_wet 47 = .ok (.invokevirtual 272, 3) := by decide +kernel
theorem dX9_wet_50 : decode cX9_wet 50 = .ok (.invokevirtual 262, 3) := by decide +kernel
theorem dX9_wet_53 : decode cX9_wet 53 = .ok (.ireturn, 1) := by decide +kernel
theorem dX9_wetJudged_0 : decode cX9_wetJudged 0 = .ok (.aload_n 0, 1) := by decide +kernel
theorem dX9_wetJudged_1 : decode cX9_wetJudged 1 = .ok (.invokevirtual 155, 3) := by decide +kernel
theorem dX9_wetJudged_4 : decode cX9_wetJudged 4 = .ok (.aload_n 0, 1) := by decide +kernel
theorem dX9_wetJudged_5 : decode cX9_wetJudged 5 = .ok (.getfield 168, 3) := by decide +kernel
theorem dX9_wetJudged_8 : decode cX9_wetJudged 8 = .ok (.ifCond .eq 12, 3) := by decide +kernel
theorem dX9_wetJudged_11 : decode cX9_wetJudged 11 = .ok (.aload_n 0, 1) := by decide +kernel
theorem dX9_wetJudged_12 : decode cX9_wetJudged 12 = .ok (.getfield 26, 3) := by decide +kernel
theorem dX9_wetJudged_15 : decode cX9_wetJudged 15 = .ok (.iconst 1, 1) := by decide +kernel
theorem dX9_wetJudged_16 : decode cX9_wetJudged 16 = .ok (.iaload, 1) := by decide +kernel
theorem dX9_wetJudged_17 : decode cX9_wetJudged 17 = .ok (.ifCond .ne 12, 3) := by decide +kernel
theorem dX9_wetJudged_20 : decode cX9_wetJudged 20 = .ok (.aload_n 0, 1) := by decide +kernel
theorem dX9_wetJudged_21 : decode cX9_wetJudged 21 = .ok (.bipush 6, 2) := by decide +kernel
theorem dX9_wetJudged_23 : decode cX9_wetJudged 23 = .ok (.invokevirtual 158, 3) := by decide +kernel
theorem dX9_wetJudged_26 : decode cX9_wetJudged 26 = .ok (.goto 13, 3) := by decide +kernel
theorem dX9_wetJudged_29 : decode cX9_wetJudged 29 = .ok (.aload_n 0, 1) := by decide +kernel
theorem dX9_wetJudged_30 : decode cX9_wetJudged 30 = .ok (.aload_n 0, 1) := by decide +kernel
theorem dX9_wetJudged_31 : decode cX9_wetJudged 31 = .ok (.getfield 26, 3) := by decide +kernel
theorem dX9_wetJudged_34 : decode cX9_wetJudged 34 = .ok (.iconst 0, 1) := by decide +kernel
theorem dX9_wetJudged_35 : decode cX9_wetJudged 35 = .ok (.iaload, 1) := by decide +kernel
theorem dX9_wetJudged_36 : decode cX9_wetJudged 36 = .ok (.invokevirtual 320, 3) := by decide +kernel
theorem dX9_wetJudged_39 : decode cX9_wetJudged 39 = .ok (.ireturn, 1) := by decide +kernel
theorem dX9_scrape_0 : decode cX9_scrape 0 = .ok (.aload_n 0, 1) := by decide +kernel
theorem dX9_scrape_1 : decode cX9_scrape 1 = .ok (.invokevirtual 155, 3) := by decide +kernel
theorem dX9_scrape_4 : decode cX9_scrape 4 = .ok (.aload_n 0, 1) := by decide +kernel
theorem dX9_scrape_5 : decode cX9_scrape 5 = .ok (.iload_n 1, 1) := by decide +kernel
theorem dX9_scrape_6 : decode cX9_scrape 6 = .ok (.iload_n 2, 1) := by decide +kernel
theorem dX9_scrape_7 : decode cX9_scrape 7 = .ok (.invokevirtual 268, 3) := by decide +kernel
theorem dX9_scrape_10 : decode cX9_scrape 10 = .ok (.ifCond .ne 9, 3) := by decide +kernel
theorem dX9_scrape_13 : decode cX9_scrape 13 = .ok (.aload_n 0, 1) := by decide +kernel
theorem dX9_scrape_14 : decode cX9_scrape 14 = .ok (.iconst 1, 1) := by decide +kernel
theorem dX9_scrape_15 : decode cX9_scrape 15 = .ok (.invokevirtual 380, 3) := by decide +kernel
theorem dX9_scrape_18 : decode cX9_scrape 18 = .ok (.ireturn, 1) := by decide +kernel
theorem dX9_scrape_19 : decode cX9_scrape 19 = .ok (.aload_n 0, 1) := by decide +kernel
theorem dX9_scrape_20 : decode cX9_scrape 20 = .ok (.aload_n 0, 1) := by decide +kernel
theorem dX9_scrape_21 : decode cX9_scrape 21 = .ok (.iload_n 1, 1) := by decide +kernel
theorem dX9_scrape_22 : decode cX9_scrape 22 = .ok (.iload_n 2, 1) := by decide +kernel
theorem dX9_scrape_23 : decode cX9_scrape 23 = .ok (.invokevirtual 272, 3) := by decide +kernel
theorem dX9_scrape_26 : decode cX9_scrape 26 = .ok (.iconst 0, 1) := by decide +kernel
theorem dX9_scrape_27 : decode cX9_scrape 27 = .ok (.invokevirtual 265, 3) := by decide +kernel
theorem dX9_scrape_30 : decode cX9_scrape 30 = .ok (.istore_n 3, 1) := by decide +kernel
theorem dX9_scrape_31 : decode cX9_scrape 31 = .ok (.iload_n 3, 1) := by decide +kernel
theorem dX9_scrape_32 : decode cX9_scrape 32 = .ok (.bipush (-2), 2) := by decide +kernel
theorem dX9_scrape_34 : decode cX9_scrape 34 = .ok (.if_icmp .ne 10, 3) := by decide +kernel
theorem dX9_scrape_37 : decode cX9_scrape 37 = .ok (.aload_n 0, 1) := by decide +kernel
theorem dX9_scrape_38 : decode cX9_scrape 38 = .ok (.bipush 6, 2) := by decide +kernel
theorem dX9_scrape_40 : decode cX9_scrape 40 = .ok (.invokevirtual 380, 3) := by decide +kernel
theorem dX9_scrape_43 : decode cX9_scrape 43 = .ok (.ireturn, 1) := by decide +kernel
theorem dX9_scrape_44 : decode cX9_scrape 44 = .ok (.aload_n 0, 1) := by decide +kernel
theorem dX9_scrape_45 : decode cX9_scrape 45 = .ok (.invokevirtual 383, 3) := by decide +kernel
theorem dX9_scrape_48 : decode cX9_scrape 48 = .ok (.aload_n 0, 1) := by decide +kernel
theorem dX9_scrape_49 : decode cX9_scrape 49 = .ok (.getfield 26, 3) := by decide +kernel
theorem dX9_scrape_52 : decode cX9_scrape 52 = .ok (.iconst 2, 1) := by decide +kernel
theorem dX9_scrape_53 : decode cX9_scrape 53 = .ok (.bipush 26, 2) := by decide +kernel
theorem dX9_scrape_55 : decode cX9_scrape 55 = .ok (.iload_n 3, 1) := by decide +kernel
theorem dX9_scrape_56 : decode cX9_scrape 56 = .ok (.imul, 1) := by decide +kernel
theorem dX9_scrape_57 : decode cX9_scrape 57 = .ok (.iadd, 1) := by decide +kernel
theorem dX9_scrape_58 : decode cX9_scrape 58 = .ok (.iconst 2, 1) := by decide +kernel
theorem dX9_scrape_59 : decode cX9_scrape 59 = .ok (.iadd, 1) := by decide +kernel
theorem dX9_scrape_60 : decode cX9_scrape 60 = .ok (.aload_n 0, 1) := by decide +kernel
theorem dX9_scrape_61 : decode cX9_scrape 61 = .ok (.iload_n 1, 1) := by decide +kernel
theorem dX9_scrape_62 : decode cX9_scrape 62 = .ok (.iload_n 2, 1) := by decide +kernel
theorem dX9_scrape_63 : decode cX9_scrape 63 = .ok (.invokevirtual 272, 3) := by decide +kernel
theorem dX9_scrape_66 : decode cX9_scrape 66 = .ok (.iadd, 1) := by decide +kernel
theorem dX9_scrape_67 : decode cX9_scrape 67 = .ok (.iconst 0, 1) := by decide +kernel
theorem dX9_scrape_68 : decode cX9_scrape 68 = .ok (.iastore, 1) := by decide +kernel
theorem dX9_scrape_69 : decode cX9_scrape 69 = .ok (.aload_n 0, 1) := by decide +kernel
theorem dX9_scrape_70 : decode cX9_scrape 70 = .ok (.invokevirtual 386, 3) := by decide +kernel
theorem dX9_scrape_73 : decode cX9_scrape 73 = .ok (.ireturn, 1) := by decide +kernel
theorem dX9_thief_0 : decode cX9_thief 0 = .ok (.aload_n 0, 1) := by decide +kernel
theorem dX9_thief_1 : decode cX9_thief 1 = .ok (.invokevirtual 155, 3) := by decide +kernel
theorem dX9_thief_4 : decode cX9_thief 4 = .ok (.aload_n 0, 1) := by decide +kernel
theorem dX9_thief_5 : decode cX9_thief 5 = .ok (.getfield 168, 3) := by decide +kernel
theorem dX9_thief_8 : decode cX9_thief 8 = .ok (.ifCond .ne 9, 3) := by decide +kernel
theorem dX9_thief_11 : decode cX9_thief 11 = .ok (.aload_n 0, 1) := by decide +kernel
theorem dX9_thief_12 : decode cX9_thief 12 = .ok (.iconst 1, 1) := by decide +kernel
theorem dX9_thief_13 : decode cX9_thief 13 = .ok (.invokevirtual 158, 3) := by decide +kernel
theorem dX9_thief_16 : decode cX9_thief 16 = .ok (.ireturn, 1) := by decide +kernel
theorem dX9_thief_17 : decode cX9_thief 17 = .ok (.iload_n 1, 1) := by decide +kernel
theorem dX9_thief_18 : decode cX9_thief 18 = .ok (.iconst 0, 1) := by decide +kernel
theorem dX9_thief_19 : decode cX9_thief 19 = .ok (.sipush 999, 3) := by decide +kernel
theorem dX9_thief_22 : decode cX9_thief 22 = .ok (.invokestatic 139, 3) := by decide +kernel
theorem dX9_thief_25 : decode cX9_thief 25 = .ok (.ifCond .ne 9, 3) := by decide +kernel
theorem dX9_thief_28 : decode cX9_thief 28 = .ok (.aload_n 0, 1) := by decide +kernel
theorem dX9_thief_29 : decode cX9_thief 29 = .ok (.iconst 2, 1) := by decide +kernel
theorem dX9_thief_30 : decode cX9_thief 30 = .ok (.invokevirtual 158, 3) := by decide +kernel
theorem dX9_thief_33 : decode cX9_thief 33 = .ok (.ireturn, 1) := by decide +kernel
theorem dX9_thief_34 : decode cX9_thief 34 = .ok (.iconst 0, 1) := by decide +kernel
theorem dX9_thief_35 : decode cX9_thief 35 = .ok (.istore_n 2, 1) := by decide +kernel
theorem dX9_thief_36 : decode cX9_thief 36 = .ok (.iconst 0, 1) := by decide +kernel
theorem dX9_thief_37 : decode cX9_thief 37 = .ok (.istore_n 3, 1) := by decide +kernel
theorem dX9_thief_38 : decode cX9_thief 38 = .ok (.iload_n 3, 1) := by decide +kernel
theorem dX9_thief_39 : decode cX9_thief 39 = .ok (.aload_n 0, 1) := by decide +kernel
theorem dX9_thief_40 : decode cX9_thief 40 = .ok (.getfield 26, 3) := by decide +kernel
theorem dX9_thief_43 : decode cX9_thief 43 = .ok (.iconst 0, 1) := by decide +kernel
theorem dX9_thief_44 : decode cX9_thief 44 = .ok (.iaload, 1) := by decide +kernel
theorem dX9_thief_45 : decode cX9_thief 45 = .ok (.if_icmp .ge 30, 3) := by decide +kernel
theorem dX9_thief_48 : decode cX9_thief 48 = .ok (.iload_n 2, 1) := by decide +kernel
theorem dX9_thief_49 : decode cX9_thief 49 = .ok (.aload_n 0, 1) := by decide +kernel
theorem dX9_thief_50 : decode cX9_thief 50 = .ok (.iload_n 3, 1) := by decide +kernel
theorem dX9_thief_51 : decode cX9_thief 51 = .ok (.invokevirtual 278, 3) := by decide +kernel
theorem dX9_thief_54 : decode cX9_thief 54 = .ok (.iload_n 1, 1) := by decide +kernel
theorem dX9_thief_55 : decode cX9_thief 55 = .ok (.if_icmp .le 11, 3) := by decide +kernel
theorem dX9_thief_58 : decode cX9_thief 58 = .ok (.aload_n 0, 1) := by decide +kernel
theorem dX9_thief_59 : decode cX9_thief 59 = .ok (.iload_n 3, 1) := by decide +kernel
theorem dX9_thief_60 : decode cX9_thief 60 = .ok (.invokevirtual 311, 3) := by decide +kernel
theorem dX9_thief_63 : decode cX9_thief 63 = .ok (.goto 4, 3) := by decide +kernel
theorem dX9_thief_66 : decode cX9_thief 66 = .ok (.iconst 0, 1) := by decide +kernel
theorem dX9_thief_67 : decode cX9_thief 67 = .ok (.ior, 1) := by decide +kernel
theorem dX9_thief_68 : decode cX9_thief 68 = .ok (.istore_n 2, 1) := by decide +kernel
theorem dX9_thief_69 : decode cX9_thief 69 = .ok (.iinc 3 1, 3) := by decide +kernel
theorem dX9_thief_72 : decode cX9_thief 72 = .ok (.goto (-34), 3) := by decide +kernel
theorem dX9_thief_75 : decode cX9_thief 75 = .ok (.iload_n 2, 1) := by decide +kernel
theorem dX9_thief_76 : decode cX9_thief 76 = .ok (.ifCond .ne 10, 3) := by decide +kernel
theorem dX9_thief_79 : decode cX9_thief 79 = .ok (.aload_n 0, 1) := by decide +kernel
theorem dX9_thief_80 : decode cX9_thief 80 = .ok (.bipush 6, 2) := by decide +kernel
theorem dX9_thief_82 : decode cX9_thief 82 = .ok (.invokevirtual 158, 3) := by decide +kernel
theorem dX9_thief_85 : decode cX9_thief 85 = .ok (.ireturn, 1) := by decide +kernel
theorem dX9_thief_86 : decode cX9_thief 86 = .ok (.aload_n 0, 1) := by decide +kernel
theorem dX9_thief_87 : decode cX9_thief 87 = .ok (.invokevirtual 383, 3) := by decide +kernel
theorem dX9_thief_90 : decode cX9_thief 90 = .ok (.iconst 0, 1) := by decide +kernel
theorem dX9_thief_91 : decode cX9_thief 91 = .ok (.istore_n 3, 1) := by decide +kernel
theorem dX9_thief_92 : decode cX9_thief 92 = .ok (.iload_n 3, 1) := by decide +kernel
theorem dX9_thief_93 : decode cX9_thief 93 = .ok (.aload_n 0, 1) := by decide +kernel
theorem dX9_thief_94 : decode cX9_thief 94 = .ok (.getfield 26, 3) := by decide +kernel
theorem dX9_thief_97 : decode cX9_thief 97 = .ok (.iconst 0, 1) := by decide +kernel
theorem dX9_thief_98 : decode cX9_thief 98 = .ok (.iaload, 1) := by decide +kernel
theorem dX9_thief_99 : decode cX9_thief 99 = .ok (.if_icmp .ge 51, 3) := by decide +kernel
theorem dX9_thief_102 : decode cX9_thief 102 = .ok (.iconst 0, 1) := by decide +kernel
theorem dX9_thief_103 : decode cX9_thief 103 = .ok (.istore 4, 2) := by decide +kernel
theorem dX9_thief_105 : decode cX9_thief 105 = .ok (.iload 4, 2) := by decide +kernel
theorem dX9_thief_107 : decode cX9_thief 107 = .ok (.bipush 24, 2) := by decide +kernel
theorem dX9_thief_109 : decode cX9_thief 109 = .ok (.if_icmp .ge 35, 3) := by decide +kernel
theorem dX9_thief_112 : decode cX9_thief 112 = .ok (.aload_n 0, 1) := by decide +kernel
theorem dX9_thief_113 : decode cX9_thief 113 = .ok (.iload_n 3, 1) := by decide +kernel
theorem dX9_thief_114 : decode cX9_thief 114 = .ok (.invokevirtual 278, 3) := by decide +kernel
theorem dX9_thief_117 : decode cX9_thief 117 = .ok (.iload_n 1, 1) := by decide +kernel
theorem dX9_thief_118 : decode cX9_thief 118 = .ok (.if_icmp .le 26, 3) := by decide +kernel
theorem dX9_thief_121 : decode cX9_thief 121 = .ok (.aload_n 0, 1) := by decide +kernel
theorem dX9_thief_122 : decode cX9_thief 122 = .ok (.getfield 26, 3) := by decide +kernel
theorem dX9_thief_125 : decode cX9_thief 125 = .ok (.iconst 2, 1) := by decide +kernel
theorem dX9_thief_126 : decode cX9_thief 126 = .ok (.bipush 26, 2) := by decide +kernel
theorem dX9_thief_128 : decode cX9_thief 128 = .ok (.iload_n 3, 1) := by decide +kernel
theorem dX9_thief_129 : decode cX9_thief 129 = .ok (.imul, 1) := by decide +kernel
theorem dX9_thief_130 : decode cX9_thief 130 = .ok (.iadd, 1) := by decide +kernel
theorem dX9_thief_131 : decode cX9_thief 131 = .ok (.iconst 2, 1) := by decide +kernel
theorem dX9_thief_132 : decode cX9_thief 132 = .ok (.iadd, 1) := by decide +kernel
theorem dX9_thief_133 : decode cX9_thief 133 = .ok (.iload 4, 2) := by decide +kernel
theorem dX9_thief_135 : decode cX9_thief 135 = .ok (.iadd, 1) := by decide +kernel
theorem dX9_thief_136 : decode cX9_thief 136 = .ok (.iconst 0, 1) := by decide +kernel
theorem dX9_thief_137 : decode cX9_thief 137 = .ok (.iastore, 1) := by decide +kernel
theorem dX9_thief_138 : decode cX9_thief 138 = .ok (.iinc 4 1, 3) := by decide +kernel
theorem dX9_thief_141 : decode cX9_thief 141 = .ok (.goto (-36), 3) := by decide +kernel
theorem dX9_thief_144 : decode cX9_thief 144 = .ok (.iinc 3 1, 3) := by decide +kernel
theorem dX9_thief_147 : decode cX9_thief 147 = .ok (.goto (-55), 3) := by decide +kernel
theorem dX9_thief_150 : decode cX9_thief 150 = .ok (.aload_n 0, 1) := by decide +kernel
theorem dX9_thief_151 : decode cX9_thief 151 = .ok (.invokevirtual 386, 3) := by decide +kernel
theorem dX9_thief_154 : decode cX9_thief 154 = .ok (.pop, 1) := by decide +kernel
theorem dX9_thief_155 : decode cX9_thief 155 = .ok (.iload_n 2, 1) := by decide +kernel
theorem dX9_thief_156 : decode cX9_thief 156 = .ok (.invokestatic 302, 3) := by decide +kernel
theorem dX9_thief_159 : decode cX9_thief 159 = .ok (.ireturn, 1) := by decide +kernel
theorem dX9_undo_0 : decode cX9_undo 0 = .ok (.aload_n 0, 1) := by decide +kernel
theorem dX9_undo_1 : decode cX9_undo 1 = .ok (.invokevirtual 155, 3) := by decide +kernel
theorem dX9_undo_4 : decode cX9_undo 4 = .ok (.aload_n 0, 1) := by decide +kernel
theorem dX9_undo_5 : decode cX9_undo 5 = .ok (.getfield 171, 3) := by decide +kernel
theorem dX9_undo_8 : decode cX9_undo 8 = .ok (.ifCond .ne 10, 3) := by decide +kernel
theorem dX9_undo_11 : decode cX9_undo 11 = .ok (.aload_n 0, 1) := by decide +kernel
theorem dX9_undo_12 : decode cX9_undo 12 = .ok (.bipush 6, 2) := by decide +kernel
theorem dX9_undo_14 : decode cX9_undo 14 = .ok (.invokevirtual 380, 3) := by decide +kernel
theorem dX9_undo_17 : decode cX9_undo 17 = .ok (.ireturn, 1) := by decide +kernel
theorem dX9_undo_18 : decode cX9_undo 18 = .ok (.aload_n 0, 1) := by decide +kernel
theorem dX9_undo_19 : decode cX9_undo 19 = .ok (.dup, 1) := by decide +kernel
theorem dX9_undo_20 : decode cX9_undo 20 = .ok (.getfield 171, 3) := by decide +kernel
theorem dX9_undo_23 : decode cX9_undo 23 = .ok (.iconst 1, 1) := by decide +kernel
theorem dX9_undo_24 : decode cX9_undo 24 = .ok (.isub, 1) := by decide +kernel
theorem dX9_undo_25 : decode cX9_undo 25 = .ok (.putfield 171, 3) := by decide +kernel
theorem dX9_undo_28 : decode cX9_undo 28 = .ok (.aload_n 0, 1) := by decide +kernel
theorem dX9_undo_29 : decode cX9_undo 29 = .ok (.getfield 35, 3) := by decide +kernel
theorem dX9_undo_32 : decode cX9_undo 32 = .ok (.sipush 340, 3) := by decide +kernel
theorem dX9_undo_35 : decode cX9_undo 35 = .ok (.aload_n 0, 1) := by decide +kernel
theorem dX9_undo_36 : decode cX9_undo 36 = .ok (.getfield 171, 3) := by decide +kernel
theorem dX9_undo_39 : decode cX9_undo 39 = .ok (.imul, 1) := by decide +kernel
theorem dX9_undo_40 : decode cX9_undo 40 = .ok (.aload_n 0, 1) := by decide +kernel
theorem dX9_undo_41 : decode cX9_undo 41 = .ok (.getfield 26, 3) := by decide +kernel
theorem dX9_undo_44 : decode cX9_undo 44 = .ok (.iconst 0, 1) := by decide +kernel
theorem dX9_undo_45 : decode cX9_undo 45 = .ok (.sipush 340, 3) := by decide +kernel
theorem dX9_undo_48 : decode cX9_undo 48 = .ok (.invokestatic 164, 3) := by decide +kernel
theorem dX9_undo_51 : decode cX9_undo 51 = .ok (.iconst 1, 1) := by decide +kernel
theorem dX9_undo_52 : decode cX9_undo 52 = .ok (.ireturn, 1) := by decide +kernel
theorem dX9_image_0 : decode cX9_image 0 = .ok (.aload_n 0, 1) := by decide +kernel
theorem dX9_image_1 : decode cX9_image 1 = .ok (.invokevirtual 155, 3) := by decide +kernel
theorem dX9_image_4 : decode cX9_image 4 = .ok (.aload_n 0, 1) := by decide +kernel
theorem dX9_image_5 : decode cX9_image 5 = .ok (.getfield 168, 3) := by decide +kernel
theorem dX9_image_8 : decode cX9_image 8 = .ok (.ifCond .ne 9, 3) := by decide +kernel
theorem dX9_image_11 : decode cX9_image 11 = .ok (.aload_n 0, 1) := by decide +kernel
theorem dX9_image_12 : decode cX9_image 12 = .ok (.iconst 1, 1) := by decide +kernel
theorem dX9_image_13 : decode cX9_image 13 = .ok (.invokevirtual 158, 3) := by decide +kernel
theorem dX9_image_16 : decode cX9_image 16 = .ok (.ireturn, 1) := by decide +kernel
theorem dX9_image_17 : decode cX9_image 17 = .ok (.aload_n 0, 1) := by decide +kernel
theorem dX9_image_18 : decode cX9_image 18 = .ok (.getfield 174, 3) := by decide +kernel
theorem dX9_image_21 : decode cX9_image 21 = .ok (.iconst 3, 1) := by decide +kernel
theorem dX9_image_22 : decode cX9_image 22 = .ok (.if_icmp .ne 9, 3) := by decide +kernel
theorem dX9_image_25 : decode cX9_image 25 = .ok (.aload_n 0, 1) := by decide +kernel
theorem dX9_image_26 : decode cX9_image 26 = .ok (.iconst 3, 1) := by decide +kernel
theorem dX9_image_27 : decode cX9_image 27 = .ok (.invokevirtual 158, 3) := by decide +kernel
theorem dX9_image_30 : decode cX9_image 30 = .ok (.ireturn, 1) := by decide +kernel
theorem dX9_image_31 : decode cX9_image 31 = .ok (.aload_n 0, 1) := by decide +kernel
theorem dX9_image_32 : decode cX9_image 32 = .ok (.getfield 26, 3) := by decide +kernel
theorem dX9_image_35 : decode cX9_image 35 = .ok (.iconst 0, 1) := by decide +kernel
theorem dX9_image_36 : decode cX9_image 36 = .ok (.aload_n 0, 1) := by decide +kernel
theorem dX9_image_37 : decode cX9_image 37 = .ok (.getfield 38, 3) := by decide +kernel
theorem dX9_image_40 : decode cX9_image 40 = .ok (.sipush 340, 3) := by decide +kernel
theorem dX9_image_43 : decode cX9_image 43 = .ok (.aload_n 0, 1) := by decide +kernel
theorem dX9_image_44 : decode cX9_image 44 = .ok (.getfield 174, 3) := by decide +kernel
theorem dX9_image_47 : decode cX9_image 47 = .ok (.imul, 1) := by decide +kernel
theorem dX9_image_48 : decode cX9_image 48 = .ok (.sipush 340, 3) := by decide +kernel
theorem dX9_image_51 : decode cX9_image 51 = .ok (.invokestatic 164, 3) := by decide +kernel
theorem dX9_image_54 : decode cX9_image 54 = .ok (.aload_n 0, 1) := by decide +kernel
theorem dX9_image_55 : decode cX9_image 55 = .ok (.dup, 1) := by decide +kernel
theorem dX9_image_56 : decode cX9_image 56 = .ok (.getfield 174, 3) := by decide +kernel
theorem dX9_image_59 : decode cX9_image 59 = .ok (.iconst 1, 1) := by decide +kernel
theorem dX9_image_60 : decode cX9_image 60 = .ok (.iadd, 1) := by decide +kernel
theorem dX9_image_61 : decode cX9_image 61 = .ok (.putfield 174, 3) := by decide +kernel
theorem dX9_image_64 : decode cX9_image 64 = .ok (.aload_n 0, 1) := by decide +kernel
theorem dX9_image_65 : decode cX9_image 65 = .ok (.getfield 174, 3) := by decide +kernel
theorem dX9_image_68 : decode cX9_image 68 = .ok (.iconst 1, 1) := by decide +kernel
theorem dX9_image_69 : decode cX9_image 69 = .ok (.isub, 1) := by decide +kernel
theorem dX9_image_70 : decode cX9_image 70 = .ok (.ireturn, 1) := by decide +kernel
theorem dX9_back_0 : decode cX9_back 0 = .ok (.aload_n 0, 1) := by decide +kernel
theorem dX9_back_1 : decode cX9_back 1 = .ok (.invokevirtual 155, 3) := by decide +kernel
theorem dX9_back_4 : decode cX9_back 4 = .ok (.iload_n 1, 1) := by decide +kernel
theorem dX9_back_5 : decode cX9_back 5 = .ok (.iconst 0, 1) := by decide +kernel
theorem dX9_back_6 : decode cX9_back 6 = .ok (.aload_n 0, 1) := by decide +kernel
theorem dX9_back_7 : decode cX9_back 7 = .ok (.getfield 174, 3) := by decide +kernel
theorem dX9_back_10 : decode cX9_back 10 = .ok (.iconst 1, 1) := by decide +kernel
theorem dX9_back_11 : decode cX9_back 11 = .ok (.isub, 1) := by decide +kernel
theorem dX9_back_12 : decode cX9_back 12 = .ok (.invokestatic 139, 3) := by decide +kernel
theorem dX9_back_15 : decode cX9_back 15 = .ok (.ifCond .ne 9, 3) := by decide +kernel
theorem dX9_back_18 : decode cX9_back 18 = .ok (.aload_n 0, 1) := by decide +kernel
theorem dX9_back_19 : decode cX9_back 19 = .ok (.iconst 1, 1) := by decide +kernel
theorem dX9_back_20 : decode cX9_back 20 = .ok (.invokevirtual 380, 3) := by decide +kernel
theorem dX9_back_23 : decode cX9_back 23 = .ok (.ireturn, 1) := by decide +kernel
theorem dX9_back_24 : decode cX9_back 24 = .ok (.aload_n 0, 1) := by decide +kernel
theorem dX9_back_25 : decode cX9_back 25 = .ok (.getfield 38, 3) := by decide +kernel
theorem dX9_back_28 : decode cX9_back 28 = .ok (.sipush 340, 3) := by decide +kernel
theorem dX9_back_31 : decode cX9_back 31 = .ok (.iload_n 1, 1) := by decide +kernel
theorem dX9_back_32 : decode cX9_back 32 = .ok (.imul, 1) := by decide +kernel
theorem dX9_back_33 : decode cX9_back 33 = .ok (.aload_n 0, 1) := by decide +kernel
theorem dX9_back_34 : decode cX9_back 34 = .ok (.getfield 26, 3) := by decide +kernel
theorem dX9_back_37 : decode cX9_back 37 = .ok (.iconst 0, 1) := by decide +kernel
theorem dX9_back_38 : decode cX9_back 38 = .ok (.sipush 340, 3) := by decide +kernel
theorem dX9_back_41 : decode cX9_back 41 = .ok (.invokestatic 164, 3) := by decide +kernel
theorem dX9_back_44 : decode cX9_back 44 = .ok (.aload_n 0, 1) := by decide +kernel
theorem dX9_back_45 : decode cX9_back 45 = .ok (.iconst 0, 1) := by decide +kernel
theorem dX9_back_46 : decode cX9_back 46 = .ok (.putfield 171, 3) := by decide +kernel
theorem dX9_back_49 : decode cX9_back 49 = .ok (.iconst 1, 1) := by decide +kernel
theorem dX9_back_50 : decode cX9_back 50 = .ok (.ireturn, 1) := by decide +kernel
theorem dX9_led_0 : decode cX9_led 0 = .ok (.iconst 0, 1) := by decide +kernel
theorem dX9_led_1 : decode cX9_led 1 = .ok (.istore_n 2, 1) := by decide +kernel
theorem dX9_led_2 : decode cX9_led 2 = .ok (.iconst 0, 1) := by decide +kernel
theorem dX9_led_3 : decode cX9_led 3 = .ok (.istore_n 3, 1) := by decide +kernel
theorem dX9_led_4 : decode cX9_led 4 = .ok (.aload_n 0, 1) := by decide +kernel
theorem dX9_led_5 : decode cX9_led 5 = .ok (.getfield 168, 3) := by decide +kernel
theorem dX9_led_8 : decode cX9_led 8 = .ok (.ifCond .eq 46, 3) := by decide +kernel
theorem dX9_led_11 : decode cX9_led 11 = .ok (.iload_n 3, 1) := by decide +kernel
theorem dX9_led_12 : decode cX9_led 12 = .ok (.aload_n 0, 1) := by decide +kernel
theorem dX9_led_13 : decode cX9_led 13 = .ok (.invokevirtual 287, 3) := by decide +kernel
theorem dX9_led_16 : decode cX9_led 16 = .ok (.if_icmp .ge 38, 3) := by decide +kernel
theorem dX9_led_19 : decode cX9_led 19 = .ok (.aload_n 0, 1) := by decide +kernel
theorem dX9_led_20 : decode cX9_led 20 = .ok (.iload_n 3, 1) := by decide +kernel
theorem dX9_led_21 : decode cX9_led 21 = .ok (.iconst 0, 1) := by decide +kernel
theorem dX9_led_22 : decode cX9_led 22 = .ok (.invokevirtual 265, 3) := by decide +kernel
theorem dX9_led_25 : decode cX9_led 25 = .ok (.bipush (-2), 2) := by decide +kernel
theorem dX9_led_27 : decode cX9_led 27 = .ok (.if_icmp .eq 6, 3) := by decide +kernel
theorem dX9_led_30 : decode cX9_led 30 = .ok (.goto 18, 3) := by decide +kernel
theorem dX9_led_33 : decode cX9_led 33 = .ok (.iload_n 2, 1) := by decide +kernel
theorem dX9_led_34 : decode cX9_led 34 = .ok (.iload_n 1, 1) := by decide +kernel
theorem dX9_led_35 : decode cX9_led 35 = .ok (.if_icmp .ne 10, 3) := by decide +kernel
theorem dX9_led_38 : decode cX9_led 38 = .ok (.aload_n 0, 1) := by decide +kernel
theorem dX9_led_39 : decode cX9_led 39 = .ok (.iconst 0, 1) := by decide +kernel
theorem dX9_led_40 : decode cX9_led 40 = .ok (.putfield 55, 3) := by decide +kernel
theorem dX9_led_43 : decode cX9_led 43 = .ok (.iload_n 3, 1) := by decide +kernel
theorem dX9_led_44 : decode cX9_led 44 = .ok (.ireturn, 1) := by decide +kernel
theorem dX9_led_45 : decode cX9_led 45 = .ok (.iinc 2 1, 3) := by decide +kernel
theorem dX9_led_48 : decode cX9_led 48 = .ok (.iinc 3 1, 3) := by decide +kernel
theorem dX9_led_51 : decode cX9_led 51 = .ok (.goto (-47), 3) := by decide +kernel
theorem dX9_led_54 : decode cX9_led 54 = .ok (.aload_n 0, 1) := by decide +kernel
theorem dX9_led_55 : decode cX9_led 55 = .ok (.iconst 1, 1) := by decide +kernel
theorem dX9_led_56 : decode cX9_led 56 = .ok (.putfield 55, 3) := by decide +kernel
theorem dX9_led_59 : decode cX9_led 59 = .ok (.iconst 0, 1) := by decide +kernel
theorem dX9_led_60 : decode cX9_led 60 = .ok (.ireturn, 1) := by decide +kernel
theorem dX9_size_0 : decode cX9_size 0 = .ok (.aload_n 0, 1) := by decide +kernel
theorem dX9_size_1 : decode cX9_size 1 = .ok (.iconst 0, 1) := by decide +kernel
theorem dX9_size_2 : decode cX9_size 2 = .ok (.putfield 55, 3) := by decide +kernel
theorem dX9_size_5 : decode cX9_size 5 = .ok (.iload_n 1, 1) := by decide +kernel
theorem dX9_size_6 : decode cX9_size 6 = .ok (.bipush 12, 2) := by decide +kernel
theorem dX9_size_8 : decode cX9_size 8 = .ok (.if_icmp .ne 8, 3) := by decide +kernel
theorem dX9_size_11 : decode cX9_size 11 = .ok (.aload_n 0, 1) := by decide +kernel
theorem dX9_size_12 : decode cX9_size 12 = .ok (.getfield 61, 3) := by decide +kernel
theorem dX9_size_15 : decode cX9_size 15 = .ok (.ireturn, 1) := by decide +kernel
theorem dX9_size_16 : decode cX9_size 16 = .ok (.aload_n 0, 1) := by decide +kernel
theorem dX9_size_17 : decode cX9_size 17 = .ok (.getfield 168, 3) := by decide +kernel
theorem dX9_size_20 : decode cX9_size 20 = .ok (.ifCond .ne 19, 3) := by decide +kernel
theorem dX9_size_23 : decode cX9_size 23 = .ok (.iload_n 1, 1) := by decide +kernel
theorem dX9_size_24 : decode cX9_size 24 = .ok (.iconst 0, 1) := by decide +kernel
theorem dX9_size_25 : decode cX9_size 25 = .ok (.bipush 11, 2) := by decide +kernel
theorem dX9_size_27 : decode cX9_size 27 = .ok (.invokestatic 139, 3) := by decide +kernel
theorem dX9_size_30 : decode cX9_size 30 = .ok (.ifCond .eq 7, 3) := by decide +kernel
theorem dX9_size_33 : decode cX9_size 33 = .ok (.iconst 0, 1) := by decide +kernel
theorem dX9_size_34 : decode cX9_size 34 = .ok (.goto 4, 3) := by decide +kernel
theorem dX9_size_37 : decode cX9_size 37 = .ok (.iconst (-1), 1) := by decide +kernel
theorem dX9_size_38 : decode cX9_size 38 = .ok (.ireturn, 1) := by decide +kernel
theorem dX9_size_39 : decode cX9_size 39 = .ok (.iload_n 1, 1) := by decide +kernel
theorem dX9_size_40 : decode cX9_size 40 = .ok (.tableswitch 146 0 11 #[64, 71, 78, 85, 92, 99, 106, 113, 121, 129, 136, 141], 64) := by decide +kernel
theorem dX9_size_104 : decode cX9_size 104 = .ok (.aload_n 0, 1) := by decide +kernel
theorem dX9_size_105 : decode cX9_size 105 = .ok (.getfield 20, 3) := by decide +kernel
theorem dX9_size_108 : decode cX9_size 108 = .ok (.iconst 0, 1) := by decide +kernel
theorem dX9_size_109 : decode cX9_size 109 = .ok (.iaload, 1) := by decide +kernel
theorem dX9_size_110 : decode cX9_size 110 = .ok (.ireturn, 1) := by decide +kernel
theorem dX9_size_111 : decode cX9_size 111 = .ok (.aload_n 0, 1) := by decide +kernel
theorem dX9_size_112 : decode cX9_size 112 = .ok (.getfield 20, 3) := by decide +kernel
theorem dX9_size_115 : decode cX9_size 115 = .ok (.iconst 1, 1) := by decide +kernel
theorem dX9_size_116 : decode cX9_size 116 = .ok (.iaload, 1) := by decide +kernel
theorem dX9_size_117 : decode cX9_size 117 = .ok (.ireturn, 1) := by decide +kernel
theorem dX9_size_118 : decode cX9_size 118 = .ok (.aload_n 0, 1) := by decide +kernel
theorem dX9_size_119 : decode cX9_size 119 = .ok (.getfield 20, 3) := by decide +kernel
theorem dX9_size_122 : decode cX9_size 122 = .ok (.iconst 2, 1) := by decide +kernel
theorem dX9_size_123 : decode cX9_size 123 = .ok (.iaload, 1) := by decide +kernel
theorem dX9_size_124 : decode cX9_size 124 = .ok (.ireturn, 1) := by decide +kernel
theorem dX9_size_125 : decode cX9_size 125 = .ok (.aload_n 0, 1) := by decide +kernel
theorem dX9_size_126 : decode cX9_size 126 = .ok (.getfield 20, 3) := by decide +kernel
theorem dX9_size_129 : decode cX9_size 129 = .ok (.iconst 3, 1) := by decide +kernel
theorem dX9_size_130 : decode cX9_size 130 = .ok (.iaload, 1) := by decide +kernel
theorem dX9_size_131 : decode cX9_size 131 = .ok (.ireturn, 1) := by decide +kernel
theorem dX9_size_132 : decode cX9_size 132 = .ok (.aload_n 0, 1) := by decide +kernel
theorem dX9_size_133 : decode cX9_size 133 = .ok (.getfield 20, 3) := by decide +kernel
theorem dX9_size_136 : decode cX9_size 136 = .ok (.iconst 4, 1) := by decide +kernel
theorem dX9_size_137 : decode cX9_size 137 = .ok (.iaload, 1) := by decide +kernel
theorem dX9_size_138 : decode cX9_size 138 = .ok (.ireturn, 1) := by decide +kernel
theorem dX9_size_139 : decode cX9_size 139 = .ok (.aload_n 0, 1) := by decide +kernel
theorem dX9_size_140 : decode cX9_size 140 = .ok (.getfield 20, 3) := by decide +kernel
theorem dX9_size_143 : decode cX9_size 143 = .ok (.iconst 5, 1) := by decide +kernel
theorem dX9_size_144 : decode cX9_size 144 = .ok (.iaload, 1) := by decide +kernel
theorem dX9_size_145 : decode cX9_size 145 = .ok (.ireturn, 1) := by decide +kernel
theorem dX9_size_146 : decode cX9_size 146 = .ok (.aload_n 0, 1) := by decide +kernel
theorem dX9_size_147 : decode cX9_size 147 = .ok (.getfield 26, 3) := by decide +kernel
theorem dX9_size_150 : decode cX9_size 150 = .ok (.iconst 0, 1) := by decide +kernel
theorem dX9_size_151 : decode cX9_size 151 = .ok (.iaload, 1) := by decide +kernel
theorem dX9_size_152 : decode cX9_size 152 = .ok (.ireturn, 1) := by decide +kernel
theorem dX9_size_153 : decode cX9_size 153 = .ok (.aload_n 0, 1) := by decide +kernel
theorem dX9_size_154 : decode cX9_size 154 = .ok (.getfield 20, 3) := by decide +kernel
theorem dX9_size_157 : decode cX9_size 157 = .ok (.bipush 6, 2) := by decide +kernel
theorem dX9_size_159 : decode cX9_size 159 = .ok (.iaload, 1) := by decide +kernel
theorem dX9_size_160 : decode cX9_size 160 = .ok (.ireturn, 1) := by decide +kernel
theorem dX9_size_161 : decode cX9_size 161 = .ok (.aload_n 0, 1) := by decide +kernel
theorem dX9_size_162 : decode cX9_size 162 = .ok (.invokevirtual 362, 3) := by decide +kernel
theorem dX9_size_165 : decode cX9_size 165 = .ok (.invokestatic 302, 3) := by decide +kernel
theorem dX9_size_168 : decode cX9_size 168 = .ok (.ireturn, 1) := by decide +kernel
theorem dX9_size_169 : decode cX9_size 169 = .ok (.aload_n 0, 1) := by decide +kernel
theorem dX9_size_170 : decode cX9_size 170 = .ok (.getfield 26, 3) := by decide +kernel
theorem dX9_size_173 : decode cX9_size 173 = .ok (.iconst 1, 1) := by decide +kernel
theorem dX9_size_174 : decode cX9_size 174 = .ok (.iaload, 1) := by decide +kernel
theorem dX9_size_175 : decode cX9_size 175 = .ok (.ireturn, 1) := by decide +kernel
theorem dX9_size_176 : decode cX9_size 176 = .ok (.aload_n 0, 1) := by decide +kernel
theorem dX9_size_177 : decode cX9_size 177 = .ok (.getfield 171, 3) := by decide +kernel
theorem dX9_size_180 : decode cX9_size 180 = .ok (.ireturn, 1) := by decide +kernel
theorem dX9_size_181 : decode cX9_size 181 = .ok (.aload_n 0, 1) := by decide +kernel
theorem dX9_size_182 : decode cX9_size 182 = .ok (.getfield 174, 3) := by decide +kernel
theorem dX9_size_185 : decode cX9_size 185 = .ok (.ireturn, 1) := by decide +kernel
theorem dX9_size_186 : decode cX9_size 186 = .ok (.iconst (-1), 1) := by decide +kernel
theorem dX9_size_187 : decode cX9_size 187 = .ok (.ireturn, 1) := by decide +kernel
theorem dX9_trouble_0 : decode cX9_trouble 0 = .ok (.aload_n 0, 1) := by decide +kernel
theorem dX9_trouble_1 : decode cX9_trouble 1 = .ok (.iconst 0, 1) := by decide +kernel
theorem dX9_trouble_2 : decode cX9_trouble 2 = .ok (.putfield 55, 3) := by decide +kernel
theorem dX9_trouble_5 : decode cX9_trouble 5 = .ok (.aload_n 0, 1) := by decide +kernel
theorem dX9_trouble_6 : decode cX9_trouble 6 = .ok (.getfield 58, 3) := by decide +kernel
theorem dX9_trouble_9 : decode cX9_trouble 9 = .ok (.ireturn, 1) := by decide +kernel
theorem dJ6_bitCount_0f7a4_0 : decode cJ6_bitCount_0f7a4 0 = .ok (.iload_n 0, 1) := by decide +kernel
theorem dJ6_bitCount_0f7a4_1 : decode cJ6_bitCount_0f7a4 1 = .ok (.iload_n 0, 1) := by decide +kernel
theorem dJ6_bitCount_0f7a4_2 : decode cJ6_bitCount_0f7a4 2 = .ok (.iconst 1, 1) := by decide +kernel
theorem dJ6_bitCount_0f7a4_3 : decode cJ6_bitCount_0f7a4 3 = .ok (.iushr, 1) := by decide +kernel
theorem dJ6_bitCount_0f7a4_4 : decode cJ6_bitCount_0f7a4 4 = .ok (.ldc_w 265, 3) := by decide +kernel
theorem dJ6_bitCount_0f7a4_7 : decode cJ6_bitCount_0f7a4 7 = .ok (.iand, 1) := by decide +kernel
theorem dJ6_bitCount_0f7a4_8 : decode cJ6_bitCount_0f7a4 8 = .ok (.isub, 1) := by decide +kernel
theorem dJ6_bitCount_0f7a4_9 : decode cJ6_bitCount_0f7a4 9 = .ok (.istore_n 0, 1) := by decide +kernel
theorem dJ6_bitCount_0f7a4_10 : decode cJ6_bitCount_0f7a4 10 = .ok (.iload_n 0, 1) := by decide +kernel
theorem dJ6_bitCount_0f7a4_11 : decode cJ6_bitCount_0f7a4 11 = .ok (.ldc_w 266, 3) := by decide +kernel
theorem dJ6_bitCount_0f7a4_14 : decode cJ6_bitCount_0f7a4 14 = .ok (.iand, 1) := by decide +kernel
theorem dJ6_bitCount_0f7a4_15 : decode cJ6_bitCount_0f7a4 15 = .ok (.iload_n 0, 1) := by decide +kernel
theorem dJ6_bitCount_0f7a4_16 : decode cJ6_bitCount_0f7a4 16 = .ok (.iconst 2, 1) := by decide +kernel
theorem dJ6_bitCount_0f7a4_17 : decode cJ6_bitCount_0f7a4 17 = .ok (.iushr, 1) := by decide +kernel
theorem dJ6_bitCount_0f7a4_18 : decode cJ6_bitCount_0f7a4 18 = .ok (.ldc_w 266, 3) := by decide +kernel
theorem dJ6_bitCount_0f7a4_21 : decode cJ6_bitCount_0f7a4 21 = .ok (.iand, 1) := by decide +kernel
theorem dJ6_bitCount_0f7a4_22 : decode cJ6_bitCount_0f7a4 22 = .ok (.iadd, 1) := by decide +kernel
theorem dJ6_bitCount_0f7a4_23 : decode cJ6_bitCount_0f7a4 23 = .ok (.istore_n 0, 1) := by decide +kernel
theorem dJ6_bitCount_0f7a4_24 : decode cJ6_bitCount_0f7a4 24 = .ok (.iload_n 0, 1) := by decide +kernel
theorem dJ6_bitCount_0f7a4_25 : decode cJ6_bitCount_0f7a4 25 = .ok (.iload_n 0, 1) := by decide +kernel
theorem dJ6_bitCount_0f7a4_26 : decode cJ6_bitCount_0f7a4 26 = .ok (.iconst 4, 1) := by decide +kernel
theorem dJ6_bitCount_0f7a4_27 : decode cJ6_bitCount_0f7a4 27 = .ok (.iushr, 1) := by decide +kernel
theorem dJ6_bitCount_0f7a4_28 : decode cJ6_bitCount_0f7a4 28 = .ok (.iadd, 1) := by decide +kernel
theorem dJ6_bitCount_0f7a4_29 : decode cJ6_bitCount_0f7a4 29 = .ok (.ldc_w 267, 3) := by decide +kernel
theorem dJ6_bitCount_0f7a4_32 : decode cJ6_bitCount_0f7a4 32 = .ok (.iand, 1) := by decide +kernel
theorem dJ6_bitCount_0f7a4_33 : decode cJ6_bitCount_0f7a4 33 = .ok (.istore_n 0, 1) := by decide +kernel
theorem dJ6_bitCount_0f7a4_34 : decode cJ6_bitCount_0f7a4 34 = .ok (.iload_n 0, 1) := by decide +kernel
theorem dJ6_bitCount_0f7a4_35 : decode cJ6_bitCount_0f7a4 35 = .ok (.iload_n 0, 1) := by decide +kernel
theorem dJ6_bitCount_0f7a4_36 : decode cJ6_bitCount_0f7a4 36 = .ok (.bipush 8, 2) := by decide +kernel
theorem dJ6_bitCount_0f7a4_38 : decode cJ6_bitCount_0f7a4 38 = .ok (.iushr, 1) := by decide +kernel
theorem dJ6_bitCount_0f7a4_39 : decode cJ6_bitCount_0f7a4 39 = .ok (.iadd, 1) := by decide +kernel
theorem dJ6_bitCount_0f7a4_40 : decode cJ6_bitCount_0f7a4 40 = .ok (.istore_n 0, 1) := by decide +kernel
theorem dJ6_bitCount_0f7a4_41 : decode cJ6_bitCount_0f7a4 41 = .ok (.iload_n 0, 1) := by decide +kernel
theorem dJ6_bitCount_0f7a4_42 : decode cJ6_bitCount_0f7a4 42 = .ok (.iload_n 0, 1) := by decide +kernel
theorem dJ6_bitCount_0f7a4_43 : decode cJ6_bitCount_0f7a4 43 = .ok (.bipush 16, 2) := by decide +kernel
theorem dJ6_bitCount_0f7a4_45 : decode cJ6_bitCount_0f7a4 45 = .ok (.iushr, 1) := by decide +kernel
theorem dJ6_bitCount_0f7a4_46 : decode cJ6_bitCount_0f7a4 46 = .ok (.iadd, 1) := by decide +kernel
theorem dJ6_bitCount_0f7a4_47 : decode cJ6_bitCount_0f7a4 47 = .ok (.istore_n 0, 1) := by decide +kernel
theorem dJ6_bitCount_0f7a4_48 : decode cJ6_bitCount_0f7a4 48 = .ok (.iload_n 0, 1) := by decide +kernel
theorem dJ6_bitCount_0f7a4_49 : decode cJ6_bitCount_0f7a4 49 = .ok (.bipush 63, 2) := by decide +kernel
theorem dJ6_bitCount_0f7a4_51 : decode cJ6_bitCount_0f7a4 51 = .ok (.iand, 1) := by decide +kernel
theorem dJ6_bitCount_0f7a4_52 : decode cJ6_bitCount_0f7a4 52 = .ok (.ireturn, 1) := by decide +kernel
theorem dJ9_max_7cf53_0 : decode cJ9_max_7cf53 0 = .ok (.iload_n 0, 1) := by decide +kernel
theorem dJ9_max_7cf53_1 : decode cJ9_max_7cf53 1 = .ok (.iload_n 1, 1) := by decide +kernel
theorem dJ9_max_7cf53_2 : decode cJ9_max_7cf53 2 = .ok (.if_icmp .lt 7, 3) := by decide +kernel
theorem dJ9_max_7cf53_5 : decode cJ9_max_7cf53 5 = .ok (.iload_n 0, 1) := by decide +kernel
theorem dJ9_max_7cf53_6 : decode cJ9_max_7cf53 6 = .ok (.goto 4, 3) := by decide +kernel
theorem dJ9_max_7cf53_9 : decode cJ9_max_7cf53 9 = .ok (.iload_n 1, 1) := by decide +kernel
theorem dJ9_max_7cf53_10 : decode cJ9_max_7cf53 10 = .ok (.ireturn, 1) := by decide +kernel
theorem dJ9_min_7cf53_0 : decode cJ9_min_7cf53 0 = .ok (.iload_n 0, 1) := by decide +kernel
theorem dJ9_min_7cf53_1 : decode cJ9_min_7cf53 1 = .ok (.iload_n 1, 1) := by decide +kernel
theorem dJ9_min_7cf53_2 : decode cJ9_min_7cf53 2 = .ok (.if_icmp .gt 7, 3) := by decide +kernel
theorem dJ9_min_7cf53_5 : decode cJ9_min_7cf53 5 = .ok (.iload_n 0, 1) := by decide +kernel
theorem dJ9_min_7cf53_6 : decode cJ9_min_7cf53 6 = .ok (.goto 4, 3) := by decide +kernel
theorem dJ9_min_7cf53_9 : decode cJ9_min_7cf53 9 = .ok (.iload_n 1, 1) := by decide +kernel
theorem dJ9_min_7cf53_10 : decode cJ9_min_7cf53 10 = .ok (.ireturn, 1) := by decide +kernel
theorem dJ0_length_8abf5_0 : decode cJ0_length_8abf5 0 = .ok (.aload_n 0, 1) := by decide +kernel
theorem dJ0_length_8abf5_1 : decode cJ0_length_8abf5 1 = .ok (.getfield 9, 3) := by decide +kernel
theorem dJ0_length_8abf5_4 : decode cJ0_length_8abf5 4 = .ok (.arraylength, 1) := by decide +kernel
theorem dJ0_length_8abf5_5 : decode cJ0_length_8abf5 5 = .ok (.aload_n 0, 1) := by decide +kernel
theorem dJ0_length_8abf5_6 : decode cJ0_length_8abf5 6 = .ok (.invokevirtual 335, 3) := by decide +kernel
theorem dJ0_length_8abf5_9 : decode cJ0_length_8abf5 9 = .ok (.ishr, 1) := by decide +kernel
theorem dJ0_length_8abf5_10 : decode cJ0_length_8abf5 10 = .ok (.ireturn, 1) := by decide +kernel
theorem dJ0_charAt_5068e_0 : decode cJ0_charAt_5068e 0 = .ok (.aload_n 0, 1) := by decide +kernel
theorem dJ0_charAt_5068e_1 : decode cJ0_charAt_5068e 1 = .ok (.invokevirtual 492, 3) := by decide +kernel
theorem dJ0_charAt_5068e_4 : decode cJ0_charAt_5068e 4 = .ok (.ifCond .eq 12, 3) := by decide +kernel
theorem dJ0_charAt_5068e_7 : decode cJ0_charAt_5068e 7 = .ok (.aload_n 0, 1) := by decide +kernel
theorem dJ0_charAt_5068e_8 : decode cJ0_charAt_5068e 8 = .ok (.getfield 9, 3) := by decide +kernel
theorem dJ0_charAt_5068e_11 : decode cJ0_charAt_5068e 11 = .ok (.iload_n 1, 1) := by decide +kernel
theorem dJ0_charAt_5068e_12 : decode cJ0_charAt_5068e 12 = .ok (.invokestatic 495, 3) := by decide +kernel
theorem dJ0_charAt_5068e_15 : decode cJ0_charAt_5068e 15 = .ok (.ireturn, 1) := by decide +kernel
theorem dJ0_charAt_5068e_16 : decode cJ0_charAt_5068e 16 = .ok (.aload_n 0, 1) := by decide +kernel
theorem dJ0_charAt_5068e_17 : decode cJ0_charAt_5068e 17 = .ok (.getfield 9, 3) := by decide +kernel
theorem dJ0_charAt_5068e_20 : decode cJ0_charAt_5068e 20 = .ok (.iload_n 1, 1) := by decide +kernel
theorem dJ0_charAt_5068e_21 : decode cJ0_charAt_5068e 21 = .ok (.invokestatic 498, 3) := by decide +kernel
theorem dJ0_charAt_5068e_24 : decode cJ0_charAt_5068e 24 = .ok (.ireturn, 1) := by decide +kernel
theorem dJ0_coder_7d493_0 : decode cJ0_coder_7d493 0 = .ok (.getstatic 38, 3) := by decide +kernel
theorem dJ0_coder_7d493_3 : decode cJ0_coder_7d493 3 = .ok (.ifCond .eq 10, 3) := by decide +kernel
theorem dJ0_coder_7d493_6 : decode cJ0_coder_7d493 6 = .ok (.aload_n 0, 1) := by decide +kernel
theorem dJ0_coder_7d493_7 : decode cJ0_coder_7d493 7 = .ok (.getfield 15, 3) := by decide +kernel
theorem dJ0_coder_7d493_10 : decode cJ0_coder_7d493 10 = .ok (.goto 4, 3) := by decide +kernel
theorem dJ0_coder_7d493_13 : decode cJ0_coder_7d493 13 = .ok (.iconst 1, 1) := by decide +kernel
theorem dJ0_coder_7d493_14 : decode cJ0_coder_7d493 14 = .ok (.ireturn, 1) := by decide +kernel
theorem dJ0_isLatin1_aae02_0 : decode cJ0_isLatin1_aae02 0 = .ok (.getstatic 38, 3) := by decide +kernel
theorem dJ0_isLatin1_aae02_3 : decode cJ0_isLatin1_aae02 3 = .ok (.ifCond .eq 14, 3) := by decide +kernel
theorem dJ0_isLatin1_aae02_6 : decode cJ0_isLatin1_aae02 6 = .ok (.aload_n 0, 1) := by decide +kernel
theorem dJ0_isLatin1_aae02_7 : decode cJ0_isLatin1_aae02 7 = .ok (.getfield 15, 3) := by decide +kernel
theorem dJ0_isLatin1_aae02_10 : decode cJ0_isLatin1_aae02 10 = .ok (.ifCond .ne 7, 3) := by decide +kernel
theorem dJ0_isLatin1_aae02_13 : decode cJ0_isLatin1_aae02 13 = .ok (.iconst 1, 1) := by decide +kernel
theorem dJ0_isLatin1_aae02_14 : decode cJ0_isLatin1_aae02 14 = .ok (.goto 4, 3) := by decide +kernel
theorem dJ0_isLatin1_aae02_17 : decode cJ0_isLatin1_aae02 17 = .ok (.iconst 0, 1) := by decide +kernel
theorem dJ0_isLatin1_aae02_18 : decode cJ0_isLatin1_aae02 18 = .ok (.ireturn, 1) := by decide +kernel
theorem dJ0_checkIndex_df160_0 : decode cJ0_checkIndex_df160 0 = .ok (.iload_n 0, 1) := by decide +kernel
theorem dJ0_checkIndex_df160_1 : decode cJ0_checkIndex_df160 1 = .ok (.iload_n 1, 1) := by decide +kernel
theorem dJ0_checkIndex_df160_2 : decode cJ0_checkIndex_df160 2 = .ok (.getstatic 1053, 3) := by decide +kernel
theorem dJ0_checkIndex_df160_5 : decode cJ0_checkIndex_df160 5 = .ok (.invokestatic 1059, 3) := by decide +kernel
theorem dJ0_checkIndex_df160_8 : decode cJ0_checkIndex_df160 8 = .ok (.pop, 1) := by decide +kernel
theorem dJ0_checkIndex_df160_9 : decode cJ0_checkIndex_df160 9 = .ok (.return_, 1) := by decide +kernel
theorem dJ1_charAt_3b067_0 : decode cJ1_charAt_3b067 0 = .ok (.iload_n 1, 1) := by decide +kernel
theorem dJ1_charAt_3b067_1 : decode cJ1_charAt_3b067 1 = .ok (.aload_n 0, 1) := by decide +kernel
theorem dJ1_charAt_3b067_2 : decode cJ1_charAt_3b067 2 = .ok (.arraylength, 1) := by decide +kernel
theorem dJ1_charAt_3b067_3 : decode cJ1_charAt_3b067 3 = .ok (.invokestatic 9, 3) := by decide +kernel
theorem dJ1_charAt_3b067_6 : decode cJ1_charAt_3b067 6 = .ok (.aload_n 0, 1) := by decide +kernel
theorem dJ1_charAt_3b067_7 : decode cJ1_charAt_3b067 7 = .ok (.iload_n 1, 1) := by decide +kernel
theorem dJ1_charAt_3b067_8 : decode cJ1_charAt_3b067 8 = .ok (.baload, 1) := by decide +kernel
theorem dJ1_charAt_3b067_9 : decode cJ1_charAt_3b067 9 = .ok (.sipush 255, 3) := by decide +kernel
theorem dJ1_charAt_3b067_12 : decode cJ1_charAt_3b067 12 = .ok (.iand, 1) := by decide +kernel
theorem dJ1_charAt_3b067_13 : decode cJ1_charAt_3b067 13 = .ok (.i2c, 1) := by decide +kernel
theorem dJ1_charAt_3b067_14 : decode cJ1_charAt_3b067 14 = .ok (.ireturn, 1) := by decide +kernel
theorem dJ2_getChar_3b067_0 : decode cJ2_getChar_3b067 0 = .ok (.getstatic 44, 3) := by decide +kernel
theorem dJ2_getChar_3b067_3 : decode cJ2_getChar_3b067 3 = .ok (.ifCond .ne 25, 3) := by decide +kernel
theorem dJ2_getChar_3b067_6 : decode cJ2_getChar_3b067 6 = .ok (.iload_n 1, 1) := by decide +kernel
theorem dJ2_getChar_3b067_7 : decode cJ2_getChar_3b067 7 = .ok (.ifCond .lt 11, 3) := by decide +kernel
theorem dJ2_getChar_3b067_10 : decode cJ2_getChar_3b067 10 = .ok (.iload_n 1, 1) := by decide +kernel
theorem dJ2_getChar_3b067_11 : decode cJ2_getChar_3b067 11 = .ok (.aload_n 0, 1) := by decide +kernel
theorem dJ2_getChar_3b067_12 : decode cJ2_getChar_3b067 12 = .ok (.invokestatic 48, 3) := by decide +kernel
theorem dJ2_getChar_3b067_15 : decode cJ2_getChar_3b067 15 = .ok (.if_icmp .lt 13, 3) := by decide +kernel
theorem dJ2_getChar_3b067_18 : decode cJ2_getChar_3b067 18 = .ok (.new 52, 3) := by decide +kernel
theorem dJ2_getChar_3b067_21 : decode cJ2_getChar_3b067 21 = .ok (.dup, 1) := by decide +kernel
theorem dJ2_getChar_3b067_22 : decode cJ2_getChar_3b067 22 = .ok (.ldc 54, 2) := by decide +kernel
theorem dJ2_getChar_3b067_24 : decode cJ2_getChar_3b067 24 = .ok (.invokespecial 56, 3) := by decide +kernel
theorem dJ2_getChar_3b067_27 : decode cJ2_getChar_3b067 27 = .ok (.athrow, 1) := by decide +kernel
theorem dJ2_getChar_3b067_28 : decode cJ2_getChar_3b067 28 = .ok (.iload_n 1, 1) := by decide +kernel
theorem dJ2_getChar_3b067_29 : decode cJ2_getChar_3b067 29 = .ok (.iconst 1, 1) := by decide +kernel
theorem dJ2_getChar_3b067_30 : decode cJ2_getChar_3b067 30 = .ok (.ishl, 1) := by decide +kernel
theorem dJ2_getChar_3b067_31 : decode cJ2_getChar_3b067 31 = .ok (.istore_n 1, 1) := by decide +kernel
theorem dJ2_getChar_3b067_32 : decode cJ2_getChar_3b067 32 = .ok (.aload_n 0, 1) := by decide +kernel
theorem dJ2_getChar_3b067_33 : decode cJ2_getChar_3b067 33 = .ok (.iload_n 1, 1) := by decide +kernel
theorem dJ2_getChar_3b067_34 : decode cJ2_getChar_3b067 34 = .ok (.iinc 1 1, 3) := by decide +kernel
theorem dJ2_getChar_3b067_37 : decode cJ2_getChar_3b067 37 = .ok (.baload, 1) := by decide +kernel
theorem dJ2_getChar_3b067_38 : decode cJ2_getChar_3b067 38 = .ok (.sipush 255, 3) := by decide +kernel
theorem dJ2_getChar_3b067_41 : decode cJ2_getChar_3b067 41 = .ok (.iand, 1) := by decide +kernel
theorem dJ2_getChar_3b067_42 : decode cJ2_getChar_3b067 42 = .ok (.getstatic 59, 3) := by decide +kernel
theorem dJ2_getChar_3b067_45 : decode cJ2_getChar_3b067 45 = .ok (.ishl, 1) := by decide +kernel
theorem dJ2_getChar_3b067_46 : decode cJ2_getChar_3b067 46 = .ok (.aload_n 0, 1) := by decide +kernel
theorem dJ2_getChar_3b067_47 : decode cJ2_getChar_3b067 47 = .ok (.iload_n 1, 1) := by decide +kernel
theorem dJ2_getChar_3b067_48 : decode cJ2_getChar_3b067 48 = .ok (.baload, 1) := by decide +kernel
theorem dJ2_getChar_3b067_49 : decode cJ2_getChar_3b067 49 = .ok (.sipush 255, 3) := by decide +kernel
theorem dJ2_getChar_3b067_52 : decode cJ2_getChar_3b067 52 = .ok (.iand, 1) := by decide +kernel
theorem dJ2_getChar_3b067_53 : decode cJ2_getChar_3b067 53 = .ok (.getstatic 63, 3) := by decide +kernel
theorem dJ2_getChar_3b067_56 : decode cJ2_getChar_3b067 56 = .ok (.ishl, 1) := by decide +kernel
theorem dJ2_getChar_3b067_57 : decode cJ2_getChar_3b067 57 = .ok (.ior, 1) := by decide +kernel
theorem dJ2_getChar_3b067_58 : decode cJ2_getChar_3b067 58 = .ok (.i2c, 1) := by decide +kernel
theorem dJ2_getChar_3b067_59 : decode cJ2_getChar_3b067 59 = .ok (.ireturn, 1) := by decide +kernel
theorem dJ2_length_9d52b_0 : decode cJ2_length_9d52b 0 = .ok (.aload_n 0, 1) := by decide +kernel
theorem dJ2_length_9d52b_1 : decode cJ2_length_9d52b 1 = .ok (.arraylength, 1) := by decide +kernel
theorem dJ2_length_9d52b_2 : decode cJ2_length_9d52b 2 = .ok (.iconst 1, 1) := by decide +kernel
theorem dJ2_length_9d52b_3 : decode cJ2_length_9d52b 3 = .ok (.ishr, 1) := by decide +kernel
theorem dJ2_length_9d52b_4 : decode cJ2_length_9d52b 4 = .ok (.ireturn, 1) := by decide +kernel
theorem dJ2_charAt_3b067_0 : decode cJ2_charAt_3b067 0 = .ok (.iload_n 1, 1) := by decide +kernel
theorem dJ2_charAt_3b067_1 : decode cJ2_charAt_3b067 1 = .ok (.aload_n 0, 1) := by decide +kernel
theorem dJ2_charAt_3b067_2 : decode cJ2_charAt_3b067 2 = .ok (.invokestatic 67, 3) := by decide +kernel
theorem dJ2_charAt_3b067_5 : decode cJ2_charAt_3b067 5 = .ok (.aload_n 0, 1) := by decide +kernel
theorem dJ2_charAt_3b067_6 : decode cJ2_charAt_3b067 6 = .ok (.iload_n 1, 1) := by decide +kernel
theorem dJ2_charAt_3b067_7 : decode cJ2_charAt_3b067 7 = .ok (.invokestatic 71, 3) := by decide +kernel
theorem dJ2_charAt_3b067_10 : decode cJ2_charAt_3b067 10 = .ok (.ireturn, 1) := by decide +kernel
theorem dJ2_checkIndex_2214a_0 : decode cJ2_checkIndex_2214a 0 = .ok (.iload_n 0, 1) := by decide +kernel
theorem dJ2_checkIndex_2214a_1 : decode cJ2_checkIndex_2214a 1 = .ok (.aload_n 1, 1) := by decide +kernel
theorem dJ2_checkIndex_2214a_2 : decode cJ2_checkIndex_2214a 2 = .ok (.invokestatic 48, 3) := by decide +kernel
theorem dJ2_checkIndex_2214a_5 : decode cJ2_checkIndex_2214a 5 = .ok (.invokestatic 414, 3) := by decide +kernel
theorem dJ2_checkIndex_2214a_8 : decode cJ2_checkIndex_2214a 8 = .ok (.return_, 1) := by decide +kernel
theorem dJ7_fill_53178_0 : decode cJ7_fill_53178 0 = .ok (.iconst 0, 1) := by decide +kernel
theorem dJ7_fill_53178_1 : decode cJ7_fill_53178 1 = .ok (.istore_n 2, 1) := by decide +kernel
theorem dJ7_fill_53178_2 : decode cJ7_fill_53178 2 = .ok (.aload_n 0, 1) := by decide +kernel
theorem dJ7_fill_53178_3 : decode cJ7_fill_53178 3 = .ok (.arraylength, 1) := by decide +kernel
theorem dJ7_fill_53178_4 : decode cJ7_fill_53178 4 = .ok (.istore_n 3, 1) := by decide +kernel
theorem dJ7_fill_53178_5 : decode cJ7_fill_53178 5 = .ok (.iload_n 2, 1) := by decide +kernel
theorem dJ7_fill_53178_6 : decode cJ7_fill_53178 6 = .ok (.iload_n 3, 1) := by decide +kernel
theorem dJ7_fill_53178_7 : decode cJ7_fill_53178 7 = .ok (.if_icmp .ge 13, 3) := by decide +kernel
theorem dJ7_fill_53178_10 : decode cJ7_fill_53178 10 = .ok (.aload_n 0, 1) := by decide +kernel
theorem dJ7_fill_53178_11 : decode cJ7_fill_53178 11 = .ok (.iload_n 2, 1) := by decide +kernel
theorem dJ7_fill_53178_12 : decode cJ7_fill_53178 12 = .ok (.iload_n 1, 1) := by decide +kernel
theorem dJ7_fill_53178_13 : decode cJ7_fill_53178 13 = .ok (.iastore, 1) := by decide +kernel
theorem dJ7_fill_53178_14 : decode cJ7_fill_53178 14 = .ok (.iinc 2 1, 3) := by decide +kernel
theorem dJ7_fill_53178_17 : decode cJ7_fill_53178 17 = .ok (.goto (-12), 3) := by decide +kernel
theorem dJ7_fill_53178_20 : decode cJ7_fill_53178 20 = .ok (.return_, 1) := by decide +kernel
theorem dJ3_checkIndex_8e157_0 : decode cJ3_checkIndex_8e157 0 = .ok (.iload_n 0, 1) := by decide +kernel
theorem dJ3_checkIndex_8e157_1 : decode cJ3_checkIndex_8e157 1 = .ok (.ifCond .lt 8, 3) := by decide +kernel
theorem dJ3_checkIndex_8e157_4 : decode cJ3_checkIndex_8e157 4 = .ok (.iload_n 0, 1) := by decide +kernel
theorem dJ3_checkIndex_8e157_5 : decode cJ3_checkIndex_8e157 5 = .ok (.iload_n 1, 1) := by decide +kernel
theorem dJ3_checkIndex_8e157_6 : decode cJ3_checkIndex_8e157 6 = .ok (.if_icmp .lt 10, 3) := by decide +kernel
theorem dJ3_checkIndex_8e157_9 : decode cJ3_checkIndex_8e157 9 = .ok (.aload_n 2, 1) := by decide +kernel
theorem dJ3_checkIndex_8e157_10 : decode cJ3_checkIndex_8e157 10 = .ok (.iload_n 0, 1) := by decide +kernel
theorem dJ3_checkIndex_8e157_11 : decode cJ3_checkIndex_8e157 11 = .ok (.iload_n 1, 1) := by decide +kernel
theorem dJ3_checkIndex_8e157_12 : decode cJ3_checkIndex_8e157 12 = .ok (.invokestatic 95, 3) := by decide +kernel
theorem dJ3_checkIndex_8e157_15 : decode cJ3_checkIndex_8e157 15 = .ok (.athrow, 1) := by decide +kernel
theorem dJ3_checkIndex_8e157_16 : decode cJ3_checkIndex_8e157 16 = .ok (.iload_n 0, 1) := by decide +kernel
theorem dJ3_checkIndex_8e157_17 : decode cJ3_checkIndex_8e157 17 = .ok (.ireturn, 1) := by decide +kernel
theorem dL_led_0 : decode cL_led 0 = .ok (.aload_n 2, 1) := by decide +kernel
theorem dL_led_1 : decode cL_led 1 = .ok (.iconst 0, 1) := by decide +kernel
theorem dL_led_2 : decode cL_led 2 = .ok (.aload_n 0, 1) := by decide +kernel
theorem dL_led_3 : decode cL_led 3 = .ok (.iload_n 1, 1) := by decide +kernel
theorem dL_led_4 : decode cL_led 4 = .ok (.invokevirtual 7, 3) := by decide +kernel
theorem dL_led_7 : decode cL_led 7 = .ok (.i2l, 1) := by decide +kernel
theorem dL_led_8 : decode cL_led 8 = .ok (.lastore, 1) := by decide +kernel
theorem dL_led_9 : decode cL_led 9 = .ok (.goto 6, 3) := by decide +kernel
theorem dL_led_12 : decode cL_led 12 = .ok (.astore_n 3, 1) := by decide +kernel
theorem dL_led_13 : decode cL_led 13 = .ok (.iconst 1, 1) := by decide +kernel
theorem dL_led_14 : decode cL_led 14 = .ok (.ireturn, 1) := by decide +kernel
theorem dL_led_15 : decode cL_led 15 = .ok (.iconst 0, 1) := by decide +kernel
theorem dL_led_16 : decode cL_led 16 = .ok (.ireturn, 1) := by decide +kernel
theorem dL_law_0 : decode cL_law 0 = .ok (.new 8, 3) := by decide +kernel
theorem dL_law_3 : decode cL_law 3 = .ok (.dup, 1) := by decide +kernel
theorem dL_law_4 : decode cL_law 4 = .ok (.invokespecial 15, 3) := by decide +kernel
theorem dL_law_7 : decode cL_law 7 = .ok (.astore_n 1, 1) := by decide +kernel
theorem dL_law_8 : decode cL_law 8 = .ok (.new 16, 3) := by decide +kernel
theorem dL_law_11 : decode cL_law 11 = .ok (.dup, 1) := by decide +kernel
theorem dL_law_12 : decode cL_law 12 = .ok (.invokespecial 18, 3) := by decide +kernel
theorem dL_law_15 : decode cL_law 15 = .ok (.astore_n 2, 1) := by decide +kernel
theorem dL_law_16 : decode cL_law 16 = .ok (.iconst 1, 1) := by decide +kernel
theorem dL_law_17 : decode cL_law 17 = .ok (.newarray .long, 2) := by decide +kernel
theorem dL_law_19 : decode cL_law 19 = .ok (.astore_n 3, 1) := by decide +kernel
theorem dL_law_20 : decode cL_law 20 = .ok (.iconst 0, 1) := by decide +kernel
theorem dL_law_21 : decode cL_law 21 = .ok (.istore 4, 2) := by decide +kernel
theorem dL_law_23 : decode cL_law 23 = .ok (.iload 4, 2) := by decide +kernel
theorem dL_law_25 : decode cL_law 25 = .ok (.aload_n 0, 1) := by decide +kernel
theorem dL_law_26 : decode cL_law 26 = .ok (.arraylength, 1) := by decide +kernel
theorem dL_law_27 : decode cL_law 27 = .ok (.bipush 6, 2) := by decide +kernel
theorem dL_law_29 : decode cL_law 29 = .ok (.isub, 1) := by decide +kernel
theorem dL_law_30 : decode cL_law 30 = .ok (.if_icmp .gt 1713, 3) := by decide +kernel
theorem dL_law_33 : decode cL_law 33 = .ok (.aload_n 0, 1) := by decide +kernel
theorem dL_law_34 : decode cL_law 34 = .ok (.iload 4, 2) := by decide +kernel
theorem dL_law_36 : decode cL_law 36 = .ok (.iaload, 1) := by decide +kernel
theorem dL_law_37 : decode cL_law 37 = .ok (.bipush 63, 2) := by decide +kernel
theorem dL_law_39 : decode cL_law 39 = .ok (.iand, 1) := by decide +kernel
theorem dL_law_40 : decode cL_law 40 = .ok (.tableswitch 1697 0 47 #[208, 281, 306, 319, 332, 369, 406, 455, 504, 541, 578, 615, 640, 665, 690, 727, 764, 813, 838, 863, 876, 901, 938, 951, 965, 1018, 1056, 1093, 1106, 1143, 1168, 1205, 1230, 1267, 1304, 1341, 1414, 1427, 1440, 1477, 1490, 1527, 1552, 1565, 1578, 1603, 1659, 1684], 208) := by decide +kernel
theorem dL_law_248 : decode cL_law 248 = .ok (.aload_n 1, 1) := by decide +kernel
theorem dL_law_249 : decode cL_law 249 = .ok (.aload_n 0, 1) := by decide +kernel
theorem dL_law_250 : decode cL_law 250 = .ok (.iload 4, 2) := by decide +kernel
theorem dL_law_252 : decode cL_law 252 = .ok (.iconst 1, 1) := by decide +kernel
theorem dL_law_253 : decode cL_law 253 = .ok (.iadd, 1) := by decide +kernel
theorem dL_law_254 : decode cL_law 254 = .ok (.iaload, 1) := by decide +kernel
theorem dL_law_255 : decode cL_law 255 = .ok (.aload_n 0, 1) := by decide +kernel
theorem dL_law_256 : decode cL_law 256 = .ok (.iload 4, 2) := by decide +kernel
theorem dL_law_258 : decode cL_law 258 = .ok (.iconst 2, 1) := by decide +kernel
theorem dL_law_259 : decode cL_law 259 = .ok (.iadd, 1) := by decide +kernel
theorem dL_law_260 : decode cL_law 260 = .ok (.iaload, 1) := by decide +kernel
theorem dL_law_261 : decode cL_law 261 = .ok (.aload_n 0, 1) := by decide +kernel
theorem dL_law_262 : decode cL_law 262 = .ok (.iload 4, 2) := by decide +kernel
theorem dL_law_264 : decode cL_law 264 = .ok (.iconst 3, 1) := by decide +kernel
theorem dL_law_265 : decode cL_law 265 = .ok (.iadd, 1) := by decide +kernel
theorem dL_law_266 : decode cL_law 266 = .ok (.iaload, 1) := by decide +kernel
theorem dL_law_267 : decode cL_law 267 = .ok (.aload_n 0, 1) := by decide +kernel
theorem dL_law_268 : decode cL_law 268 = .ok (.iload 4, 2) := by decide +kernel
theorem dL_law_270 : decode cL_law 270 = .ok (.iconst 4, 1) := by decide +kernel
theorem dL_law_271 : decode cL_law 271 = .ok (.iadd, 1) := by decide +kernel
theorem dL_law_272 : decode cL_law 272 = .ok (.iaload, 1) := by decide +kernel
theorem dL_law_273 : decode cL_law 273 = .ok (.aload_n 0, 1) := by decide +kernel
theorem dL_law_274 : decode cL_law 274 = .ok (.iload 4, 2) := by decide +kernel
theorem dL_law_276 : decode cL_law 276 = .ok (.iconst 5, 1) := by decide +kernel
theorem dL_law_277 : decode cL_law 277 = .ok (.iadd, 1) := by decide +kernel
theorem dL_law_278 : decode cL_law 278 = .ok (.iaload, 1) := by decide +kernel
theorem dL_law_279 : decode cL_law 279 = .ok (.invokevirtual 19, 3) := by decide +kernel
theorem dL_law_282 : decode cL_law 282 = .ok (.aload_n 2, 1) := by decide +kernel
theorem dL_law_283 : decode cL_law 283 = .ok (.aload_n 0, 1) := by decide +kernel
theorem dL_law_284 : decode cL_law 284 = .ok (.iload 4, 2) := by decide +kernel
theorem dL_law_286 : decode cL_law 286 = .ok (.iconst 1, 1) := by decide +kernel
theorem dL_law_287 : decode cL_law 287 = .ok (.iadd, 1) := by decide +kernel
theorem dL_law_288 : decode cL_law 288 = .ok (.iaload, 1) := by decide +kernel
theorem dL_law_289 : decode cL_law 289 = .ok (.aload_n 0, 1) := by decide +kernel
theorem dL_law_290 : decode cL_law 290 = .ok (.iload 4, 2) := by decide +kernel
theorem dL_law_292 : decode cL_law 292 = .ok (.iconst 2, 1) := by decide +kernel
theorem dL_law_293 : decode cL_law 293 = .ok (.iadd, 1) := by decide +kernel
theorem dL_law_294 : decode cL_law 294 = .ok (.iaload, 1) := by decide +kernel
theorem dL_law_295 : decode cL_law 295 = .ok (.aload_n 0, 1) := by decide +kernel
theorem dL_law_296 : decode cL_law 296 = .ok (.iload 4, 2) := by decide +kernel
theorem dL_law_298 : decode cL_law 298 = .ok (.iconst 3, 1) := by decide +kernel
theorem dL_law_299 : decode cL_law 299 = .ok (.iadd, 1) := by decide +kernel
theorem dL_law_300 : decode cL_law 300 = .ok (.iaload, 1) := by decide +kernel
theorem dL_law_301 : decode cL_law 301 = .ok (.aload_n 0, 1) := by decide +kernel
theorem dL_law_302 : decode cL_law 302 = .ok (.iload 4, 2) := by decide +kernel
theorem dL_law_304 : decode cL_law 304 = .ok (.iconst 4, 1) := by decide +kernel
theorem dL_law_305 : decode cL_law 305 = .ok (.iadd, 1) := by decide +kernel
theorem dL_law_306 : decode cL_law 306 = .ok (.iaload, 1) := by decide +kernel
theorem dL_law_307 : decode cL_law 307 = .ok (.aload_n 0, 1) := by decide +kernel
theorem dL_law_308 : decode cL_law 308 = .ok (.iload 4, 2) := by decide +kernel
theorem dL_law_310 : decode cL_law 310 = .ok (.iconst 5, 1) := by decide +kernel
theorem dL_law_311 : decode cL_law 311 = .ok (.iadd, 1) := by decide +kernel
theorem dL_law_312 : decode cL_law 312 = .ok (.iaload, 1) := by decide +kernel
theorem dL_law_313 : decode cL_law 313 = .ok (.invokevirtual 23, 3) := by decide +kernel
theorem dL_law_316 : decode cL_law 316 = .ok (.if_icmp .eq 1421, 3) := by decide +kernel
theorem dL_law_319 : decode cL_law 319 = .ok (.iconst 0, 1) := by decide +kernel
theorem dL_law_320 : decode cL_law 320 = .ok (.ireturn, 1) := by decide +kernel
theorem dL_law_321 : decode cL_law 321 = .ok (.aload_n 1, 1) := by decide +kernel
theorem dL_law_322 : decode cL_law 322 = .ok (.aload_n 0, 1) := by decide +kernel
theorem dL_law_323 : decode cL_law 323 = .ok (.iload 4, 2) := by decide +kernel
theorem dL_law_325 : decode cL_law 325 = .ok (.iconst 1, 1) := by decide +kernel
theorem dL_law_326 : decode cL_law 326 = .ok (.iadd, 1) := by decide +kernel
theorem dL_law_327 : decode cL_law 327 = .ok (.iaload, 1) := by decide +kernel
theorem dL_law_328 : decode cL_law 328 = .ok (.invokevirtual 24, 3) := by decide +kernel
theorem dL_law_331 : decode cL_law 331 = .ok (.aload_n 2, 1) := by decide +kernel
theorem dL_law_332 : decode cL_law 332 = .ok (.aload_n 0, 1) := by decide +kernel
theorem dL_law_333 : decode cL_law 333 = .ok (.iload 4, 2) := by decide +kernel
theorem dL_law_335 : decode cL_law 335 = .ok (.iconst 1, 1) := by decide +kernel
theorem dL_law_336 : decode cL_law 336 = .ok (.iadd, 1) := by decide +kernel
theorem dL_law_337 : decode cL_law 337 = .ok (.iaload, 1) := by decide +kernel
theorem dL_law_338 : decode cL_law 338 = .ok (.invokevirtual 27, 3) := by decide +kernel
theorem dL_law_341 : decode cL_law 341 = .ok (.if_icmp .eq 1396, 3) := by decide +kernel
theorem dL_law_344 : decode cL_law 344 = .ok (.iconst 0, 1) := by decide +kernel
theorem dL_law_345 : decode cL_law 345 = .ok (.ireturn, 1) := by decide +kernel
theorem dL_law_346 : decode cL_law 346 = .ok (.aload_n 1, 1) := by decide +kernel
theorem dL_law_347 : decode cL_law 347 = .ok (.invokevirtual 28, 3) := by decide +kernel
theorem dL_law_350 : decode cL_law 350 = .ok (.aload_n 2, 1) := by decide +kernel
theorem dL_law_351 : decode cL_law 351 = .ok (.invokevirtual 32, 3) := by decide +kernel
theorem dL_law_354 : decode cL_law 354 = .ok (.if_icmp .eq 1383, 3) := by decide +kernel
theorem dL_law_357 : decode cL_law 357 = .ok (.iconst 0, 1) := by decide +kernel
theorem dL_law_358 : decode cL_law 358 = .ok (.ireturn, 1) := by decide +kernel
theorem dL_law_359 : decode cL_law 359 = .ok (.aload_n 1, 1) := by decide +kernel
theorem dL_law_360 : decode cL_law 360 = .ok (.invokevirtual 33, 3) := by decide +kernel
theorem dL_law_363 : decode cL_law 363 = .ok (.aload_n 2, 1) := by decide +kernel
theorem dL_law_364 : decode cL_law 364 = .ok (.invokevirtual 36, 3) := by decide +kernel
theorem dL_law_367 : decode cL_law 367 = .ok (.if_icmp .eq 1370, 3) := by decide +kernel
theorem dL_law_370 : decode cL_law 370 = .ok (.iconst 0, 1) := by decide +kernel
theorem dL_law_371 : decode cL_law 371 = .ok (.ireturn, 1) := by decide +kernel
theorem dL_law_372 : decode cL_law 372 = .ok (.aload_n 1, 1) := by decide +kernel
theorem dL_law_373 : decode cL_law 373 = .ok (.aload_n 0, 1) := by decide +kernel
theorem dL_law_374 : decode cL_law 374 = .ok (.iload 4, 2) := by decide +kernel
theorem dL_law_376 : decode cL_law 376 = .ok (.iconst 1, 1) := by decide +kernel
theorem dL_law_377 : decode cL_law 377 = .ok (.iadd, 1) := by decide +kernel
theorem dL_law_378 : decode cL_law 378 = .ok (.iaload, 1) := by decide +kernel
theorem dL_law_379 : decode cL_law 379 = .ok (.aload_n 0, 1) := by decide +kernel
theorem dL_law_380 : decode cL_law 380 = .ok (.iload 4, 2) := by decide +kernel
theorem dL_law_382 : decode cL_law 382 = .ok (.iconst 2, 1) := by decide +kernel
theorem dL_law_383 : decode cL_law 383 = .ok (.iadd, 1) := by decide +kernel
theorem dL_law_384 : decode cL_law 384 = .ok (.iaload, 1) := by decide +kernel
theorem dL_law_385 : decode cL_law 385 = .ok (.invokevirtual 37, 3) := by decide +kernel
theorem dL_law_388 : decode cL_law 388 = .ok (.aload_n 2, 1) := by decide +kernel
theorem dL_law_389 : decode cL_law 389 = .ok (.aload_n 0, 1) := by decide +kernel
theorem dL_law_390 : decode cL_law 390 = .ok (.iload 4, 2) := by decide +kernel
theorem dL_law_392 : decode cL_law 392 = .ok (.iconst 1, 1) := by decide +kernel
theorem dL_law_393 : decode cL_law 393 = .ok (.iadd, 1) := by decide +kernel
theorem dL_law_394 : decode cL_law 394 = .ok (.iaload, 1) := by decide +kernel
theorem dL_law_395 : decode cL_law 395 = .ok (.aload_n 0, 1) := by decide +kernel
theorem dL_law_396 : decode cL_law 396 = .ok (.iload 4, 2) := by decide +kernel
theorem dL_law_398 : decode cL_law 398 = .ok (.iconst 2, 1) := by decide +kernel
theorem dL_law_399 : decode cL_law 399 = .ok (.iadd, 1) := by decide +kernel
theorem dL_law_400 : decode cL_law 400 = .ok (.iaload, 1) := by decide +kernel
theorem dL_law_401 : decode cL_law 401 = .ok (.invokevirtual 41, 3) := by decide +kernel
theorem dL_law_404 : decode cL_law 404 = .ok (.if_icmp .eq 1333, 3) := by decide +kernel
theorem dL_law_407 : decode cL_law 407 = .ok (.iconst 0, 1) := by decide +kernel
theorem dL_law_408 : decode cL_law 408 = .ok (.ireturn, 1) := by decide +kernel
theorem dL_law_409 : decode cL_law 409 = .ok (.aload_n 1, 1) := by decide +kernel
theorem dL_law_410 : decode cL_law 410 = .ok (.aload_n 0, 1) := by decide +kernel
theorem dL_law_411 : decode cL_law 411 = .ok (.iload 4, 2) := by decide +kernel
theorem dL_law_413 : decode cL_law 413 = .ok (.iconst 1, 1) := by decide +kernel
theorem dL_law_414 : decode cL_law 414 = .ok (.iadd, 1) := by decide +kernel
theorem dL_law_415 : decode cL_law 415 = .ok (.iaload, 1) := by decide +kernel
theorem dL_law_416 : decode cL_law 416 = .ok (.aload_n 0, 1) := by decide +kernel
theorem dL_law_417 : decode cL_law 417 = .ok (.iload 4, 2) := by decide +kernel
theorem dL_law_419 : decode cL_law 419 = .ok (.iconst 2, 1) := by decide +kernel
theorem dL_law_420 : decode cL_law 420 = .ok (.iadd, 1) := by decide +kernel
theorem dL_law_421 : decode cL_law 421 = .ok (.iaload, 1) := by decide +kernel
theorem dL_law_422 : decode cL_law 422 = .ok (.invokevirtual 42, 3) := by decide +kernel
theorem dL_law_425 : decode cL_law 425 = .ok (.aload_n 2, 1) := by decide +kernel
theorem dL_law_426 : decode cL_law 426 = .ok (.aload_n 0, 1) := by decide +kernel
theorem dL_law_427 : decode cL_law 427 = .ok (.iload 4, 2) := by decide +kernel
theorem dL_law_429 : decode cL_law 429 = .ok (.iconst 1, 1) := by decide +kernel
theorem dL_law_430 : decode cL_law 430 = .ok (.iadd, 1) := by decide +kernel
theorem dL_law_431 : decode cL_law 431 = .ok (.iaload, 1) := by decide +kernel
theorem dL_law_432 : decode cL_law 432 = .ok (.aload_n 0, 1) := by decide +kernel
theorem dL_law_433 : decode cL_law 433 = .ok (.iload 4, 2) := by decide +kernel
theorem dL_law_435 : decode cL_law 435 = .ok (.iconst 2, 1) := by decide +kernel
theorem dL_law_436 : decode cL_law 436 = .ok (.iadd, 1) := by decide +kernel
theorem dL_law_437 : decode cL_law 437 = .ok (.iaload, 1) := by decide +kernel
theorem dL_law_438 : decode cL_law 438 = .ok (.invokevirtual 45, 3) := by decide +kernel
theorem dL_law_441 : decode cL_law 441 = .ok (.if_icmp .eq 1296, 3) := by decide +kernel
theorem dL_law_444 : decode cL_law 444 = .ok (.iconst 0, 1) := by decide +kernel
theorem dL_law_445 : decode cL_law 445 = .ok (.ireturn, 1) := by decide +kernel
theorem dL_law_446 : decode cL_law 446 = .ok (.aload_n 1, 1) := by decide +kernel
theorem dL_law_447 : decode cL_law 447 = .ok (.aload_n 0, 1) := by decide +kernel
theorem dL_law_448 : decode cL_law 448 = .ok (.iload 4, 2) := by decide +kernel
theorem dL_law_450 : decode cL_law 450 = .ok (.iconst 1, 1) := by decide +kernel
theorem dL_law_451 : decode cL_law 451 = .ok (.iadd, 1) := by decide +kernel
theorem dL_law_452 : decode cL_law 452 = .ok (.iaload, 1) := by decide +kernel
theorem dL_law_453 : decode cL_law 453 = .ok (.aload_n 0, 1) := by decide +kernel
theorem dL_law_454 : decode cL_law 454 = .ok (.iload 4, 2) := by decide +kernel
theorem dL_law_456 : decode cL_law 456 = .ok (.iconst 2, 1) := by decide +kernel
theorem dL_law_457 : decode cL_law 457 = .ok (.iadd, 1) := by decide +kernel
theorem dL_law_458 : decode cL_law 458 = .ok (.iaload, 1) := by decide +kernel
theorem dL_law_459 : decode cL_law 459 = .ok (.aload_n 0, 1) := by decide +kernel
theorem dL_law_460 : decode cL_law 460 = .ok (.iload 4, 2) := by decide +kernel
theorem dL_law_462 : decode cL_law 462 = .ok (.iconst 3, 1) := by decide +kernel
theorem dL_law_463 : decode cL_law 463 = .ok (.iadd, 1) := by decide +kernel
theorem dL_law_464 : decode cL_law 464 = .ok (.iaload, 1) := by decide +kernel
theorem dL_law_465 : decode cL_law 465 = .ok (.invokevirtual 46, 3) := by decide +kernel
theorem dL_law_468 : decode cL_law 468 = .ok (.aload_n 2, 1) := by decide +kernel
theorem dL_law_469 : decode cL_law 469 = .ok (.aload_n 0, 1) := by decide +kernel
theorem dL_law_470 : decode cL_law 470 = .ok (.iload 4, 2) := by decide +kernel
theorem dL_law_472 : decode cL_law 472 = .ok (.iconst 1, 1) := by decide +kernel
theorem dL_law_473 : decode cL_law 473 = .ok (.iadd, 1) := by decide +kernel
theorem dL_law_474 : decode cL_law 474 = .ok (.iaload, 1) := by decide +kernel
theorem dL_law_475 : decode cL_law 475 = .ok (.aload_n 0, 1) := by decide +kernel
theorem dL_law_476 : decode cL_law 476 = .ok (.iload 4, 2) := by decide +kernel
theorem dL_law_478 : decode cL_law 478 = .ok (.iconst 2, 1) := by decide +kernel
theorem dL_law_479 : decode cL_law 479 = .ok (.iadd, 1) := by decide +kernel
theorem dL_law_480 : decode cL_law 480 = .ok (.iaload, 1) := by decide +kernel
theorem dL_law_481 : decode cL_law 481 = .ok (.aload_n 0, 1) := by decide +kernel
theorem dL_law_482 : decode cL_law 482 = .ok (.iload 4, 2) := by decide +kernel
theorem dL_law_484 : decode cL_law 484 = .ok (.iconst 3, 1) := by decide +kernel
theorem dL_law_485 : decode cL_law 485 = .ok (.iadd, 1) := by decide +kernel
theorem dL_law_486 : decode cL_law 486 = .ok (.iaload, 1) := by decide +kernel
theorem dL_law_487 : decode cL_law 487 = .ok (.invokevirtual 50, 3) := by decide +kernel
theorem dL_law_490 : decode cL_law 490 = .ok (.if_icmp .eq 1247, 3) := by decide +kernel
theorem dL_law_493 : decode cL_law 493 = .ok (.iconst 0, 1) := by decide +kernel
theorem dL_law_494 : decode cL_law 494 = .ok (.ireturn, 1) := by decide +kernel
theorem dL_law_495 : decode cL_law 495 = .ok (.aload_n 1, 1) := by decide +kernel
theorem dL_law_496 : decode cL_law 496 = .ok (.aload_n 0, 1) := by decide +kernel
theorem dL_law_497 : decode cL_law 497 = .ok (.iload 4, 2) := by decide +kernel
theorem dL_law_499 : decode cL_law 499 = .ok (.iconst 1, 1) := by decide +kernel
theorem dL_law_500 : decode cL_law 500 = .ok (.iadd, 1) := by decide +kernel
theorem dL_law_501 : decode cL_law 501 = .ok (.iaload, 1) := by decide +kernel
theorem dL_law_502 : decode cL_law 502 = .ok (.aload_n 0, 1) := by decide +kernel
theorem dL_law_503 : decode cL_law 503 = .ok (.iload 4, 2) := by decide +kernel
theorem dL_law_505 : decode cL_law 505 = .ok (.iconst 2, 1) := by decide +kernel
theorem dL_law_506 : decode cL_law 506 = .ok (.iadd, 1) := by decide +kernel
theorem dL_law_507 : decode cL_law 507 = .ok (.iaload, 1) := by decide +kernel
theorem dL_law_508 : decode cL_law 508 = .ok (.aload_n 0, 1) := by decide +kernel
theorem dL_law_509 : decode cL_law 509 = .ok (.iload 4, 2) := by decide +kernel
theorem dL_law_511 : decode cL_law 511 = .ok (.iconst 3, 1) := by decide +kernel
theorem dL_law_512 : decode cL_law 512 = .ok (.iadd, 1) := by decide +kernel
theorem dL_law_513 : decode cL_law 513 = .ok (.iaload, 1) := by decide +kernel
theorem dL_law_514 : decode cL_law 514 = .ok (.invokevirtual 51, 3) := by decide +kernel
theorem dL_law_517 : decode cL_law 517 = .ok (.aload_n 2, 1) := by decide +kernel
theorem dL_law_518 : decode cL_law 518 = .ok (.aload_n 0, 1) := by decide +kernel
theorem dL_law_519 : decode cL_law 519 = .ok (.iload 4, 2) := by decide +kernel
theorem dL_law_521 : decode cL_law 521 = .ok (.iconst 1, 1) := by decide +kernel
theorem dL_law_522 : decode cL_law 522 = .ok (.iadd, 1) := by decide +kernel
theorem dL_law_523 : decode cL_law 523 = .ok (.iaload, 1) := by decide +kernel
theorem dL_law_524 : decode cL_law 524 = .ok (.aload_n 0, 1) := by decide +kernel
theorem dL_law_525 : decode cL_law 525 = .ok (.iload 4, 2) := by decide +kernel
theorem dL_law_527 : decode cL_law 527 = .ok (.iconst 2, 1) := by decide +kernel
theorem dL_law_528 : decode cL_law 528 = .ok (.iadd, 1) := by decide +kernel
theorem dL_law_529 : decode cL_law 529 = .ok (.iaload, 1) := by decide +kernel
theorem dL_law_530 : decode cL_law 530 = .ok (.aload_n 0, 1) := by decide +kernel
theorem dL_law_531 : decode cL_law 531 = .ok (.iload 4, 2) := by decide +kernel
theorem dL_law_533 : decode cL_law 533 = .ok (.iconst 3, 1) := by decide +kernel
theorem dL_law_534 : decode cL_law 534 = .ok (.iadd, 1) := by decide +kernel
theorem dL_law_535 : decode cL_law 535 = .ok (.iaload, 1) := by decide +kernel
theorem dL_law_536 : decode cL_law 536 = .ok (.invokevirtual 54, 3) := by decide +kernel
theorem dL_law_539 : decode cL_law 539 = .ok (.if_icmp .eq 1198, 3) := by decide +kernel
theorem dL_law_542 : decode cL_law 542 = .ok (.iconst 0, 1) := by decide +kernel
theorem dL_law_543 : decode cL_law 543 = .ok (.ireturn, 1) := by decide +kernel
theorem dL_law_544 : decode cL_law 544 = .ok (.aload_n 1, 1) := by decide +kernel
theorem dL_law_545 : decode cL_law 545 = .ok (.aload_n 0, 1) := by decide +kernel
theorem dL_law_546 : decode cL_law 546 = .ok (.iload 4, 2) := by decide +kernel
theorem dL_law_548 : decode cL_law 548 = .ok (.iconst 1, 1) := by decide +kernel
theorem dL_law_549 : decode cL_law 549 = .ok (.iadd, 1) := by decide +kernel
theorem dL_law_550 : decode cL_law 550 = .ok (.iaload, 1) := by decide +kernel
theorem dL_law_551 : decode cL_law 551 = .ok (.aload_n 0, 1) := by decide +kernel
theorem dL_law_552 : decode cL_law 552 = .ok (.iload 4, 2) := by decide +kernel
theorem dL_law_554 : decode cL_law 554 = .ok (.iconst 2, 1) := by decide +kernel
theorem dL_law_555 : decode cL_law 555 = .ok (.iadd, 1) := by decide +kernel
theorem dL_law_556 : decode cL_law 556 = .ok (.iaload, 1) := by decide +kernel
theorem dL_law_557 : decode cL_law 557 = .ok (.invokevirtual 55, 3) := by decide +kernel
theorem dL_law_560 : decode cL_law 560 = .ok (.aload_n 2, 1) := by decide +kernel
theorem dL_law_561 : decode cL_law 561 = .ok (.aload_n 0, 1) := by decide +kernel
theorem dL_law_562 : decode cL_law 562 = .ok (.iload 4, 2) := by decide +kernel
theorem dL_law_564 : decode cL_law 564 = .ok (.iconst 1, 1) := by decide +kernel
theorem dL_law_565 : decode cL_law 565 = .ok (.iadd, 1) := by decide +kernel
theorem dL_law_566 : decode cL_law 566 = .ok (.iaload, 1) := by decide +kernel
theorem dL_law_567 : decode cL_law 567 = .ok (.aload_n 0, 1) := by decide +kernel
theorem dL_law_568 : decode cL_law 568 = .ok (.iload 4, 2) := by decide +kernel
theorem dL_law_570 : decode cL_law 570 = .ok (.iconst 2, 1) := by decide +kernel
theorem dL_law_571 : decode cL_law 571 = .ok (.iadd, 1) := by decide +kernel
theorem dL_law_572 : decode cL_law 572 = .ok (.iaload, 1) := by decide +kernel
theorem dL_law_573 : decode cL_law 573 = .ok (.invokevirtual 58, 3) := by decide +kernel
theorem dL_law_576 : decode cL_law 576 = .ok (.if_icmp .eq 1161, 3) := by decide +kernel
theorem dL_law_579 : decode cL_law 579 = .ok (.iconst 0, 1) := by decide +kernel
theorem dL_law_580 : decode cL_law 580 = .ok (.ireturn, 1) := by decide +kernel
theorem dL_law_581 : decode cL_law 581 = .ok (.aload_n 1, 1) := by decide +kernel
theorem dL_law_582 : decode cL_law 582 = .ok (.aload_n 0, 1) := by decide +kernel
theorem dL_law_583 : decode cL_law 583 = .ok (.iload 4, 2) := by decide +kernel
theorem dL_law_585 : decode cL_law 585 = .ok (.iconst 1, 1) := by decide +kernel
theorem dL_law_586 : decode cL_law 586 = .ok (.iadd, 1) := by decide +kernel
theorem dL_law_587 : decode cL_law 587 = .ok (.iaload, 1) := by decide +kernel
theorem dL_law_588 : decode cL_law 588 = .ok (.aload_n 0, 1) := by decide +kernel
theorem dL_law_589 : decode cL_law 589 = .ok (.iload 4, 2) := by decide +kernel
theorem dL_law_591 : decode cL_law 591 = .ok (.iconst 2, 1) := by decide +kernel
theorem dL_law_592 : decode cL_law 592 = .ok (.iadd, 1) := by decide +kernel
theorem dL_law_593 : decode cL_law 593 = .ok (.iaload, 1) := by decide +kernel
theorem dL_law_594 : decode cL_law 594 = .ok (.invokevirtual 59, 3) := by decide +kernel
theorem dL_law_597 : decode cL_law 597 = .ok (.aload_n 2, 1) := by decide +kernel
theorem dL_law_598 : decode cL_law 598 = .ok (.aload_n 0, 1) := by decide +kernel
theorem dL_law_599 : decode cL_law 599 = .ok (.iload 4, 2) := by decide +kernel
theorem dL_law_601 : decode cL_law 601 = .ok (.iconst 1, 1) := by decide +kernel
theorem dL_law_602 : decode cL_law 602 = .ok (.iadd, 1) := by decide +kernel
theorem dL_law_603 : decode cL_law 603 = .ok (.iaload, 1) := by decide +kernel
theorem dL_law_604 : decode cL_law 604 = .ok (.aload_n 0, 1) := by decide +kernel
theorem dL_law_605 : decode cL_law 605 = .ok (.iload 4, 2) := by decide +kernel
theorem dL_law_607 : decode cL_law 607 = .ok (.iconst 2, 1) := by decide +kernel
theorem dL_law_608 : decode cL_law 608 = .ok (.iadd, 1) := by decide +kernel
theorem dL_law_609 : decode cL_law 609 = .ok (.iaload, 1) := by decide +kernel
theorem dL_law_610 : decode cL_law 610 = .ok (.invokevirtual 62, 3) := by decide +kernel
theorem dL_law_613 : decode cL_law 613 = .ok (.if_icmp .eq 1124, 3) := by decide +kernel
theorem dL_law_616 : decode cL_law 616 = .ok (.iconst 0, 1) := by decide +kernel
theorem dL_law_617 : decode cL_law 617 = .ok (.ireturn, 1) := by decide +kernel
theorem dL_law_618 : decode cL_law 618 = .ok (.aload_n 1, 1) := by decide +kernel
theorem dL_law_619 : decode cL_law 619 = .ok (.aload_n 0, 1) := by decide +kernel
theorem dL_law_620 : decode cL_law 620 = .ok (.iload 4, 2) := by decide +kernel
theorem dL_law_622 : decode cL_law 622 = .ok (.iconst 1, 1) := by decide +kernel
theorem dL_law_623 : decode cL_law 623 = .ok (.iadd, 1) := by decide +kernel
theorem dL_law_624 : decode cL_law 624 = .ok (.iaload, 1) := by decide +kernel
theorem dL_law_625 : decode cL_law 625 = .ok (.aload_n 0, 1) := by decide +kernel
theorem dL_law_626 : decode cL_law 626 = .ok (.iload 4, 2) := by decide +kernel
theorem dL_law_628 : decode cL_law 628 = .ok (.iconst 2, 1) := by decide +kernel
theorem dL_law_629 : decode cL_law 629 = .ok (.iadd, 1) := by decide +kernel
theorem dL_law_630 : decode cL_law 630 = .ok (.iaload, 1) := by decide +kernel
theorem dL_law_631 : decode cL_law 631 = .ok (.invokevirtual 63, 3) := by decide +kernel
theorem dL_law_634 : decode cL_law 634 = .ok (.aload_n 2, 1) := by decide +kernel
theorem dL_law_635 : decode cL_law 635 = .ok (.aload_n 0, 1) := by decide +kernel
theorem dL_law_636 : decode cL_law 636 = .ok (.iload 4, 2) := by decide +kernel
theorem dL_law_638 : decode cL_law 638 = .ok (.iconst 1, 1) := by decide +kernel
theorem dL_law_639 : decode cL_law 639 = .ok (.iadd, 1) := by decide +kernel
theorem dL_law_640 : decode cL_law 640 = .ok (.iaload, 1) := by decide +kernel
theorem dL_law_641 : decode cL_law 641 = .ok (.aload_n 0, 1) := by decide +kernel
theorem dL_law_642 : decode cL_law 642 = .ok (.iload 4, 2) := by decide +kernel
theorem dL_law_644 : decode cL_law 644 = .ok (.iconst 2, 1) := by decide +kernel
theorem dL_law_645 : decode cL_law 645 = .ok (.iadd, 1) := by decide +kernel
theorem dL_law_646 : decode cL_law 646 = .ok (.iaload, 1) := by decide +kernel
theorem dL_law_647 : decode cL_law 647 = .ok (.invokevirtual 66, 3) := by decide +kernel
theorem dL_law_650 : decode cL_law 650 = .ok (.if_icmp .eq 1087, 3) := by decide +kernel
theorem dL_law_653 : decode cL_law 653 = .ok (.iconst 0, 1) := by decide +kernel
theorem dL_law_654 : decode cL_law 654 = .ok (.ireturn, 1) := by decide +kernel
theorem dL_law_655 : decode cL_law 655 = .ok (.aload_n 1, 1) := by decide +kernel
theorem dL_law_656 : decode cL_law 656 = .ok (.aload_n 0, 1) := by decide +kernel
theorem dL_law_657 : decode cL_law 657 = .ok (.iload 4, 2) := by decide +kernel
theorem dL_law_659 : decode cL_law 659 = .ok (.iconst 1, 1) := by decide +kernel
theorem dL_law_660 : decode cL_law 660 = .ok (.iadd, 1) := by decide +kernel
theorem dL_law_661 : decode cL_law 661 = .ok (.iaload, 1) := by decide +kernel
theorem dL_law_662 : decode cL_law 662 = .ok (.invokevirtual 67, 3) := by decide +kernel
theorem dL_law_665 : decode cL_law 665 = .ok (.aload_n 2, 1) := by decide +kernel
theorem dL_law_666 : decode cL_law 666 = .ok (.aload_n 0, 1) := by decide +kernel
theorem dL_law_667 : decode cL_law 667 = .ok (.iload 4, 2) := by decide +kernel
theorem dL_law_669 : decode cL_law 669 = .ok (.iconst 1, 1) := by decide +kernel
theorem dL_law_670 : decode cL_law 670 = .ok (.iadd, 1) := by decide +kernel
theorem dL_law_671 : decode cL_law 671 = .ok (.iaload, 1) := by decide +kernel
theorem dL_law_672 : decode cL_law 672 = .ok (.invokevirtual 70, 3) := by decide +kernel
theorem dL_law_675 : decode cL_law 675 = .ok (.if_icmp .eq 1062, 3) := by decide +kernel
theorem dL_law_678 : decode cL_law 678 = .ok (.iconst 0, 1) := by decide +kernel
theorem dL_law_679 : decode cL_law 679 = .ok (.ireturn, 1) := by decide +kernel
theorem dL_law_680 : decode cL_law 680 = .ok (.aload_n 1, 1) := by decide +kernel
theorem dL_law_681 : decode cL_law 681 = .ok (.aload_n 0, 1) := by decide +kernel
theorem dL_law_682 : decode cL_law 682 = .ok (.iload 4, 2) := by decide +kernel
theorem dL_law_684 : decode cL_law 684 = .ok (.iconst 1, 1) := by decide +kernel
theorem dL_law_685 : decode cL_law 685 = .ok (.iadd, 1) := by decide +kernel
theorem dL_law_686 : decode cL_law 686 = .ok (.iaload, 1) := by decide +kernel
theorem dL_law_687 : decode cL_law 687 = .ok (.invokevirtual 71, 3) := by decide +kernel
theorem dL_law_690 : decode cL_law 690 = .ok (.aload_n 2, 1) := by decide +kernel
theorem dL_law_691 : decode cL_law 691 = .ok (.aload_n 0, 1) := by decide +kernel
theorem dL_law_692 : decode cL_law 692 = .ok (.iload 4, 2) := by decide +kernel
theorem dL_law_694 : decode cL_law 694 = .ok (.iconst 1, 1) := by decide +kernel
theorem dL_law_695 : decode cL_law 695 = .ok (.iadd, 1) := by decide +kernel
theorem dL_law_696 : decode cL_law 696 = .ok (.iaload, 1) := by decide +kernel
theorem dL_law_697 : decode cL_law 697 = .ok (.invokevirtual 74, 3) := by decide +kernel
theorem dL_law_700 : decode cL_law 700 = .ok (.if_icmp .eq 1037, 3) := by decide +kernel
theorem dL_law_703 : decode cL_law 703 = .ok (.iconst 0, 1) := by decide +kernel
theorem dL_law_704 : decode cL_law 704 = .ok (.ireturn, 1) := by decide +kernel
theorem dL_law_705 : decode cL_law 705 = .ok (.aload_n 1, 1) := by decide +kernel
theorem dL_law_706 : decode cL_law 706 = .ok (.aload_n 0, 1) := by decide +kernel
theorem dL_law_707 : decode cL_law 707 = .ok (.iload 4, 2) := by decide +kernel
theorem dL_law_709 : decode cL_law 709 = .ok (.iconst 1, 1) := by decide +kernel
theorem dL_law_710 : decode cL_law 710 = .ok (.iadd, 1) := by decide +kernel
theorem dL_law_711 : decode cL_law 711 = .ok (.iaload, 1) := by decide +kernel
theorem dL_law_712 : decode cL_law 712 = .ok (.invokevirtual 75, 3) := by decide +kernel
theorem dL_law_715 : decode cL_law 715 = .ok (.aload_n 2, 1) := by decide +kernel
theorem dL_law_716 : decode cL_law 716 = .ok (.aload_n 0, 1) := by decide +kernel
theorem dL_law_717 : decode cL_law 717 = .ok (.iload 4, 2) := by decide +kernel
theorem dL_law_719 : decode cL_law 719 = .ok (.iconst 1, 1) := by decide +kernel
theorem dL_law_720 : decode cL_law 720 = .ok (.iadd, 1) := by decide +kernel
theorem dL_law_721 : decode cL_law 721 = .ok (.iaload, 1) := by decide +kernel
theorem dL_law_722 : decode cL_law 722 = .ok (.invokevirtual 78, 3) := by decide +kernel
theorem dL_law_725 : decode cL_law 725 = .ok (.if_icmp .eq 1012, 3) := by decide +kernel
theorem dL_law_728 : decode cL_law 728 = .ok (.iconst 0, 1) := by decide +kernel
theorem dL_law_729 : decode cL_law 729 = .ok (.ireturn, 1) := by decide +kernel
theorem dL_law_730 : decode cL_law 730 = .ok (.aload_n 1, 1) := by decide +kernel
theorem dL_law_731 : decode cL_law 731 = .ok (.aload_n 0, 1) := by decide +kernel
theorem dL_law_732 : decode cL_law 732 = .ok (.iload 4, 2) := by decide +kernel
theorem dL_law_734 : decode cL_law 734 = .ok (.iconst 1, 1) := by decide +kernel
theorem dL_law_735 : decode cL_law 735 = .ok (.iadd, 1) := by decide +kernel
theorem dL_law_736 : decode cL_law 736 = .ok (.iaload, 1) := by decide +kernel
theorem dL_law_737 : decode cL_law 737 = .ok (.aload_n 0, 1) := by decide +kernel
theorem dL_law_738 : decode cL_law 738 = .ok (.iload 4, 2) := by decide +kernel
theorem dL_law_740 : decode cL_law 740 = .ok (.iconst 2, 1) := by decide +kernel
theorem dL_law_741 : decode cL_law 741 = .ok (.iadd, 1) := by decide +kernel
theorem dL_law_742 : decode cL_law 742 = .ok (.iaload, 1) := by decide +kernel
theorem dL_law_743 : decode cL_law 743 = .ok (.invokevirtual 79, 3) := by decide +kernel
theorem dL_law_746 : decode cL_law 746 = .ok (.aload_n 2, 1) := by decide +kernel
theorem dL_law_747 : decode cL_law 747 = .ok (.aload_n 0, 1) := by decide +kernel
theorem dL_law_748 : decode cL_law 748 = .ok (.iload 4, 2) := by decide +kernel
theorem dL_law_750 : decode cL_law 750 = .ok (.iconst 1, 1) := by decide +kernel
theorem dL_law_751 : decode cL_law 751 = .ok (.iadd, 1) := by decide +kernel
theorem dL_law_752 : decode cL_law 752 = .ok (.iaload, 1) := by decide +kernel
theorem dL_law_753 : decode cL_law 753 = .ok (.aload_n 0, 1) := by decide +kernel
theorem dL_law_754 : decode cL_law 754 = .ok (.iload 4, 2) := by decide +kernel
theorem dL_law_756 : decode cL_law 756 = .ok (.iconst 2, 1) := by decide +kernel
theorem dL_law_757 : decode cL_law 757 = .ok (.iadd, 1) := by decide +kernel
theorem dL_law_758 : decode cL_law 758 = .ok (.iaload, 1) := by decide +kernel
theorem dL_law_759 : decode cL_law 759 = .ok (.invokevirtual 82, 3) := by decide +kernel
theorem dL_law_762 : decode cL_law 762 = .ok (.if_icmp .eq 975, 3) := by decide +kernel
theorem dL_law_765 : decode cL_law 765 = .ok (.iconst 0, 1) := by decide +kernel
theorem dL_law_766 : decode cL_law 766 = .ok (.ireturn, 1) := by decide +kernel
theorem dL_law_767 : decode cL_law 767 = .ok (.aload_n 1, 1) := by decide +kernel
theorem dL_law_768 : decode cL_law 768 = .ok (.aload_n 0, 1) := by decide +kernel
theorem dL_law_769 : decode cL_law 769 = .ok (.iload 4, 2) := by decide +kernel
theorem dL_law_771 : decode cL_law 771 = .ok (.iconst 1, 1) := by decide +kernel
theorem dL_law_772 : decode cL_law 772 = .ok (.iadd, 1) := by decide +kernel
theorem dL_law_773 : decode cL_law 773 = .ok (.iaload, 1) := by decide +kernel
theorem dL_law_774 : decode cL_law 774 = .ok (.aload_n 0, 1) := by decide +kernel
theorem dL_law_775 : decode cL_law 775 = .ok (.iload 4, 2) := by decide +kernel
theorem dL_law_777 : decode cL_law 777 = .ok (.iconst 2, 1) := by decide +kernel
theorem dL_law_778 : decode cL_law 778 = .ok (.iadd, 1) := by decide +kernel
theorem dL_law_779 : decode cL_law 779 = .ok (.iaload, 1) := by decide +kernel
theorem dL_law_780 : decode cL_law 780 = .ok (.invokevirtual 83, 3) := by decide +kernel
theorem dL_law_783 : decode cL_law 783 = .ok (.aload_n 2, 1) := by decide +kernel
theorem dL_law_784 : decode cL_law 784 = .ok (.aload_n 0, 1) := by decide +kernel
theorem dL_law_785 : decode cL_law 785 = .ok (.iload 4, 2) := by decide +kernel
theorem dL_law_787 : decode cL_law 787 = .ok (.iconst 1, 1) := by decide +kernel
theorem dL_law_788 : decode cL_law 788 = .ok (.iadd, 1) := by decide +kernel
theorem dL_law_789 : decode cL_law 789 = .ok (.iaload, 1) := by decide +kernel
theorem dL_law_790 : decode cL_law 790 = .ok (.aload_n 0, 1) := by decide +kernel
theorem dL_law_791 : decode cL_law 791 = .ok (.iload 4, 2) := by decide +kernel
theorem dL_law_793 : decode cL_law 793 = .ok (.iconst 2, 1) := by decide +kernel
theorem dL_law_794 : decode cL_law 794 = .ok (.iadd, 1) := by decide +kernel
theorem dL_law_795 : decode cL_law 795 = .ok (.iaload, 1) := by decide +kernel
theorem dL_law_796 : decode cL_law 796 = .ok (.invokevirtual 86, 3) := by decide +kernel
theorem dL_law_799 : decode cL_law 799 = .ok (.if_icmp .eq 938, 3) := by decide +kernel
theorem dL_law_802 : decode cL_law 802 = .ok (.iconst 0, 1) := by decide +kernel
theorem dL_law_803 : decode cL_law 803 = .ok (.ireturn, 1) := by decide +kernel
theorem dL_law_804 : decode cL_law 804 = .ok (.aload_n 1, 1) := by decide +kernel
theorem dL_law_805 : decode cL_law 805 = .ok (.aload_n 0, 1) := by decide +kernel
theorem dL_law_806 : decode cL_law 806 = .ok (.iload 4, 2) := by decide +kernel
theorem dL_law_808 : decode cL_law 808 = .ok (.iconst 1, 1) := by decide +kernel
theorem dL_law_809 : decode cL_law 809 = .ok (.iadd, 1) := by decide +kernel
theorem dL_law_810 : decode cL_law 810 = .ok (.iaload, 1) := by decide +kernel
theorem dL_law_811 : decode cL_law 811 = .ok (.aload_n 0, 1) := by decide +kernel
theorem dL_law_812 : decode cL_law 812 = .ok (.iload 4, 2) := by decide +kernel
theorem dL_law_814 : decode cL_law 814 = .ok (.iconst 2, 1) := by decide +kernel
theorem dL_law_815 : decode cL_law 815 = .ok (.iadd, 1) := by decide +kernel
theorem dL_law_816 : decode cL_law 816 = .ok (.iaload, 1) := by decide +kernel
theorem dL_law_817 : decode cL_law 817 = .ok (.aload_n 0, 1) := by decide +kernel
theorem dL_law_818 : decode cL_law 818 = .ok (.iload 4, 2) := by decide +kernel
theorem dL_law_820 : decode cL_law 820 = .ok (.iconst 3, 1) := by decide +kernel
theorem dL_law_821 : decode cL_law 821 = .ok (.iadd, 1) := by decide +kernel
theorem dL_law_822 : decode cL_law 822 = .ok (.iaload, 1) := by decide +kernel
theorem dL_law_823 : decode cL_law 823 = .ok (.invokevirtual 87, 3) := by decide +kernel
theorem dL_law_826 : decode cL_law 826 = .ok (.aload_n 2, 1) := by decide +kernel
theorem dL_law_827 : decode cL_law 827 = .ok (.aload_n 0, 1) := by decide +kernel
theorem dL_law_828 : decode cL_law 828 = .ok (.iload 4, 2) := by decide +kernel
theorem dL_law_830 : decode cL_law 830 = .ok (.iconst 1, 1) := by decide +kernel
theorem dL_law_831 : decode cL_law 831 = .ok (.iadd, 1) := by decide +kernel
theorem dL_law_832 : decode cL_law 832 = .ok (.iaload, 1) := by decide +kernel
theorem dL_law_833 : decode cL_law 833 = .ok (.aload_n 0, 1) := by decide +kernel
theorem dL_law_834 : decode cL_law 834 = .ok (.iload 4, 2) := by decide +kernel
theorem dL_law_836 : decode cL_law 836 = .ok (.iconst 2, 1) := by decide +kernel
theorem dL_law_837 : decode cL_law 837 = .ok (.iadd, 1) := by decide +kernel
theorem dL_law_838 : decode cL_law 838 = .ok (.iaload, 1) := by decide +kernel
theorem dL_law_839 : decode cL_law 839 = .ok (.aload_n 0, 1) := by decide +kernel
theorem dL_law_840 : decode cL_law 840 = .ok (.iload 4, 2) := by decide +kernel
theorem dL_law_842 : decode cL_law 842 = .ok (.iconst 3, 1) := by decide +kernel
theorem dL_law_843 : decode cL_law 843 = .ok (.iadd, 1) := by decide +kernel
theorem dL_law_844 : decode cL_law 844 = .ok (.iaload, 1) := by decide +kernel
theorem dL_law_845 : decode cL_law 845 = .ok (.invokevirtual 90, 3) := by decide +kernel
theorem dL_law_848 : decode cL_law 848 = .ok (.if_icmp .eq 889, 3) := by decide +kernel
theorem dL_law_851 : decode cL_law 851 = .ok (.iconst 0, 1) := by decide +kernel
theorem dL_law_852 : decode cL_law 852 = .ok (.ireturn, 1) := by decide +kernel
theorem dL_law_853 : decode cL_law 853 = .ok (.aload_n 1, 1) := by decide +kernel
theorem dL_law_854 : decode cL_law 854 = .ok (.aload_n 0, 1) := by decide +kernel
theorem dL_law_855 : decode cL_law 855 = .ok (.iload 4, 2) := by decide +kernel
theorem dL_law_857 : decode cL_law 857 = .ok (.iconst 1, 1) := by decide +kernel
theorem dL_law_858 : decode cL_law 858 = .ok (.iadd, 1) := by decide +kernel
theorem dL_law_859 : decode cL_law 859 = .ok (.iaload, 1) := by decide +kernel
theorem dL_law_860 : decode cL_law 860 = .ok (.invokevirtual 91, 3) := by decide +kernel
theorem dL_law_863 : decode cL_law 863 = .ok (.aload_n 2, 1) := by decide +kernel
theorem dL_law_864 : decode cL_law 864 = .ok (.aload_n 0, 1) := by decide +kernel
theorem dL_law_865 : decode cL_law 865 = .ok (.iload 4, 2) := by decide +kernel
theorem dL_law_867 : decode cL_law 867 = .ok (.iconst 1, 1) := by decide +kernel
theorem dL_law_868 : decode cL_law 868 = .ok (.iadd, 1) := by decide +kernel
theorem dL_law_869 : decode cL_law 869 = .ok (.iaload, 1) := by decide +kernel
theorem dL_law_870 : decode cL_law 870 = .ok (.invokevirtual 94, 3) := by decide +kernel
theorem dL_law_873 : decode cL_law 873 = .ok (.if_icmp .eq 864, 3) := by decide +kernel
theorem dL_law_876 : decode cL_law 876 = .ok (.iconst 0, 1) := by decide +kernel
theorem dL_law_877 : decode cL_law 877 = .ok (.ireturn, 1) := by decide +kernel
theorem dL_law_878 : decode cL_law 878 = .ok (.aload_n 1, 1) := by decide +kernel
theorem dL_law_879 : decode cL_law 879 = .ok (.aload_n 0, 1) := by decide +kernel
theorem dL_law_880 : decode cL_law 880 = .ok (.iload 4, 2) := by decide +kernel
theorem dL_law_882 : decode cL_law 882 = .ok (.iconst 1, 1) := by decide +kernel
theorem dL_law_883 : decode cL_law 883 = .ok (.iadd, 1) := by decide +kernel
theorem dL_law_884 : decode cL_law 884 = .ok (.iaload, 1) := by decide +kernel
theorem dL_law_885 : decode cL_law 885 = .ok (.invokevirtual 95, 3) := by decide +kernel
theorem dL_law_888 : decode cL_law 888 = .ok (.aload_n 2, 1) := by decide +kernel
theorem dL_law_889 : decode cL_law 889 = .ok (.aload_n 0, 1) := by decide +kernel
theorem dL_law_890 : decode cL_law 890 = .ok (.iload 4, 2) := by decide +kernel
theorem dL_law_892 : decode cL_law 892 = .ok (.iconst 1, 1) := by decide +kernel
theorem dL_law_893 : decode cL_law 893 = .ok (.iadd, 1) := by decide +kernel
theorem dL_law_894 : decode cL_law 894 = .ok (.iaload, 1) := by decide +kernel
theorem dL_law_895 : decode cL_law 895 = .ok (.invokevirtual 98, 3) := by decide +kernel
theorem dL_law_898 : decode cL_law 898 = .ok (.if_icmp .eq 839, 3) := by decide +kernel
theorem dL_law_901 : decode cL_law 901 = .ok (.iconst 0, 1) := by decide +kernel
theorem dL_law_902 : decode cL_law 902 = .ok (.ireturn, 1) := by decide +kernel
theorem dL_law_903 : decode cL_law 903 = .ok (.aload_n 1, 1) := by decide +kernel
theorem dL_law_904 : decode cL_law 904 = .ok (.invokevirtual 99, 3) := by decide +kernel
theorem dL_law_907 : decode cL_law 907 = .ok (.aload_n 2, 1) := by decide +kernel
theorem dL_law_908 : decode cL_law 908 = .ok (.invokevirtual 102, 3) := by decide +kernel
theorem dL_law_911 : decode cL_law 911 = .ok (.if_icmp .eq 826, 3) := by decide +kernel
theorem dL_law_914 : decode cL_law 914 = .ok (.iconst 0, 1) := by decide +kernel
theorem dL_law_915 : decode cL_law 915 = .ok (.ireturn, 1) := by decide +kernel
theorem dL_law_916 : decode cL_law 916 = .ok (.aload_n 1, 1) := by decide +kernel
theorem dL_law_917 : decode cL_law 917 = .ok (.aload_n 0, 1) := by decide +kernel
theorem dL_law_918 : decode cL_law 918 = .ok (.iload 4, 2) := by decide +kernel
theorem dL_law_920 : decode cL_law 920 = .ok (.iconst 1, 1) := by decide +kernel
theorem dL_law_921 : decode cL_law 921 = .ok (.iadd, 1) := by decide +kernel
theorem dL_law_922 : decode cL_law 922 = .ok (.iaload, 1) := by decide +kernel
theorem dL_law_923 : decode cL_law 923 = .ok (.invokevirtual 103, 3) := by decide +kernel
theorem dL_law_926 : decode cL_law 926 = .ok (.aload_n 2, 1) := by decide +kernel
theorem dL_law_927 : decode cL_law 927 = .ok (.aload_n 0, 1) := by decide +kernel
theorem dL_law_928 : decode cL_law 928 = .ok (.iload 4, 2) := by decide +kernel
theorem dL_law_930 : decode cL_law 930 = .ok (.iconst 1, 1) := by decide +kernel
theorem dL_law_931 : decode cL_law 931 = .ok (.iadd, 1) := by decide +kernel
theorem dL_law_932 : decode cL_law 932 = .ok (.iaload, 1) := by decide +kernel
theorem dL_law_933 : decode cL_law 933 = .ok (.invokevirtual 106, 3) := by decide +kernel
theorem dL_law_936 : decode cL_law 936 = .ok (.if_icmp .eq 801, 3) := by decide +kernel
theorem dL_law_939 : decode cL_law 939 = .ok (.iconst 0, 1) := by decide +kernel
theorem dL_law_940 : decode cL_law 940 = .ok (.ireturn, 1) := by decide +kernel
theorem dL_law_941 : decode cL_law 941 = .ok (.aload_n 1, 1) := by decide +kernel
theorem dL_law_942 : decode cL_law 942 = .ok (.aload_n 0, 1) := by decide +kernel
theorem dL_law_943 : decode cL_law 943 = .ok (.iload 4, 2) := by decide +kernel
theorem dL_law_945 : decode cL_law 945 = .ok (.iconst 1, 1) := by decide +kernel
theorem dL_law_946 : decode cL_law 946 = .ok (.iadd, 1) := by decide +kernel
theorem dL_law_947 : decode cL_law 947 = .ok (.iaload, 1) := by decide +kernel
theorem dL_law_948 : decode cL_law 948 = .ok (.aload_n 0, 1) := by decide +kernel
theorem dL_law_949 : decode cL_law 949 = .ok (.iload 4, 2) := by decide +kernel
theorem dL_law_951 : decode cL_law 951 = .ok (.iconst 2, 1) := by decide +kernel
theorem dL_law_952 : decode cL_law 952 = .ok (.iadd, 1) := by decide +kernel
theorem dL_law_953 : decode cL_law 953 = .ok (.iaload, 1) := by decide +kernel
theorem dL_law_954 : decode cL_law 954 = .ok (.invokevirtual 107, 3) := by decide +kernel
theorem dL_law_957 : decode cL_law 957 = .ok (.aload_n 2, 1) := by decide +kernel
theorem dL_law_958 : decode cL_law 958 = .ok (.aload_n 0, 1) := by decide +kernel
theorem dL_law_959 : decode cL_law 959 = .ok (.iload 4, 2) := by decide +kernel
theorem dL_law_961 : decode cL_law 961 = .ok (.iconst 1, 1) := by decide +kernel
theorem dL_law_962 : decode cL_law 962 = .ok (.iadd, 1) := by decide +kernel
theorem dL_law_963 : decode cL_law 963 = .ok (.iaload, 1) := by decide +kernel
theorem dL_law_964 : decode cL_law 964 = .ok (.aload_n 0, 1) := by decide +kernel
theorem dL_law_965 : decode cL_law 965 = .ok (.iload 4, 2) := by decide +kernel
theorem dL_law_967 : decode cL_law 967 = .ok (.iconst 2, 1) := by decide +kernel
theorem dL_law_968 : decode cL_law 968 = .ok (.iadd, 1) := by decide +kernel
theorem dL_law_969 : decode cL_law 969 = .ok (.iaload, 1) := by decide +kernel
theorem dL_law_970 : decode cL_law 970 = .ok (.invokevirtual 110, 3) := by decide +kernel
theorem dL_law_973 : decode cL_law 973 = .ok (.if_icmp .eq 764, 3) := by decide +kernel
theorem dL_law_976 : decode cL_law 976 = .ok (.iconst 0, 1) := by decide +kernel
theorem dL_law_977 : decode cL_law 977 = .ok (.ireturn, 1) := by decide +kernel
theorem dL_law_978 : decode cL_law 978 = .ok (.aload_n 1, 1) := by decide +kernel
theorem dL_law_979 : decode cL_law 979 = .ok (.invokevirtual 111, 3) := by decide +kernel
theorem dL_law_982 : decode cL_law 982 = .ok (.aload_n 2, 1) := by decide +kernel
theorem dL_law_983 : decode cL_law 983 = .ok (.invokevirtual 114, 3) := by decide +kernel
theorem dL_law_986 : decode cL_law 986 = .ok (.if_icmp .eq 751, 3) := by decide +kernel
theorem dL_law_989 : decode cL_law 989 = .ok (.iconst 0, 1) := by decide +kernel
theorem dL_law_990 : decode cL_law 990 = .ok (.ireturn, 1) := by decide +kernel
theorem dL_law_991 : decode cL_law 991 = .ok (.aload_n 1, 1) := by decide +kernel
theorem dL_law_992 : decode cL_law 992 = .ok (.invokevirtual 115, 3) := by decide +kernel
theorem dL_law_995 : decode cL_law 995 = .ok (.aload_n 2, 1) := by decide +kernel
theorem dL_law_996 : decode cL_law 996 = .ok (.invokevirtual 119, 3) := by decide +kernel
theorem dL_law_999 : decode cL_law 999 = .ok (.lcmp, 1) := by decide +kernel
theorem dL_law_1000 : decode cL_law 1000 = .ok (.ifCond .eq 737, 3) := by decide +kernel
theorem dL_law_1003 : decode cL_law 1003 = .ok (.iconst 0, 1) := by decide +kernel
theorem dL_law_1004 : decode cL_law 1004 = .ok (.ireturn, 1) := by decide +kernel
theorem dL_law_1005 : decode cL_law 1005 = .ok (.aload_n 1, 1) := by decide +kernel
theorem dL_law_1006 : decode cL_law 1006 = .ok (.aload_n 0, 1) := by decide +kernel
theorem dL_law_1007 : decode cL_law 1007 = .ok (.iload 4, 2) := by decide +kernel
theorem dL_law_1009 : decode cL_law 1009 = .ok (.iconst 1, 1) := by decide +kernel
theorem dL_law_1010 : decode cL_law 1010 = .ok (.iadd, 1) := by decide +kernel
theorem dL_law_1011 : decode cL_law 1011 = .ok (.iaload, 1) := by decide +kernel
theorem dL_law_1012 : decode cL_law 1012 = .ok (.aload_n 0, 1) := by decide +kernel
theorem dL_law_1013 : decode cL_law 1013 = .ok (.iload 4, 2) := by decide +kernel
theorem dL_law_1015 : decode cL_law 1015 = .ok (.iconst 2, 1) := by decide +kernel
theorem dL_law_1016 : decode cL_law 1016 = .ok (.iadd, 1) := by decide +kernel
theorem dL_law_1017 : decode cL_law 1017 = .ok (.iaload, 1) := by decide +kernel
theorem dL_law_1018 : decode cL_law 1018 = .ok (.ifCond .eq 7, 3) := by decide +kernel
theorem dL_law_1021 : decode cL_law 1021 = .ok (.iconst 1, 1) := by decide +kernel
theorem dL_law_1022 : decode cL_law 1022 = .ok (.goto 4, 3) := by decide +kernel
theorem dL_law_1025 : decode cL_law 1025 = .ok (.iconst 0, 1) := by decide +kernel
theorem dL_law_1026 : decode cL_law 1026 = .ok (.invokevirtual 120, 3) := by decide +kernel
theorem dL_law_1029 : decode cL_law 1029 = .ok (.aload_n 2, 1) := by decide +kernel
theorem dL_law_1030 : decode cL_law 1030 = .ok (.aload_n 0, 1) := by decide +kernel
theorem dL_law_1031 : decode cL_law 1031 = .ok (.iload 4, 2) := by decide +kernel
theorem dL_law_1033 : decode cL_law 1033 = .ok (.iconst 1, 1) := by decide +kernel
theorem dL_law_1034 : decode cL_law 1034 = .ok (.iadd, 1) := by decide +kernel
theorem dL_law_1035 : decode cL_law 1035 = .ok (.iaload, 1) := by decide +kernel
theorem dL_law_1036 : decode cL_law 1036 = .ok (.aload_n 0, 1) := by decide +kernel
theorem dL_law_1037 : decode cL_law 1037 = .ok (.iload 4, 2) := by decide +kernel
theorem dL_law_1039 : decode cL_law 1039 = .ok (.iconst 2, 1) := by decide +kernel
theorem dL_law_1040 : decode cL_law 1040 = .ok (.iadd, 1) := by decide +kernel
theorem dL_law_1041 : decode cL_law 1041 = .ok (.iaload, 1) := by decide +kernel
theorem dL_law_1042 : decode cL_law 1042 = .ok (.ifCond .eq 7, 3) := by decide +kernel
theorem dL_law_1045 : decode cL_law 1045 = .ok (.iconst 1, 1) := by decide +kernel
theorem dL_law_1046 : decode cL_law 1046 = .ok (.goto 4, 3) := by decide +kernel
theorem dL_law_1049 : decode cL_law 1049 = .ok (.iconst 0, 1) := by decide +kernel
theorem dL_law_1050 : decode cL_law 1050 = .ok (.invokevirtual 124, 3) := by decide +kernel
theorem dL_law_1053 : decode cL_law 1053 = .ok (.if_icmp .eq 684, 3) := by decide +kernel
theorem dL_law_1056 : decode cL_law 1056 = .ok (.iconst 0, 1) := by decide +kernel
theorem dL_law_1057 : decode cL_law 1057 = .ok (.ireturn, 1) := by decide +kernel
theorem dL_law_1058 : decode cL_law 1058 = .ok (.aload_n 1, 1) := by decide +kernel
theorem dL_law_1059 : decode cL_law 1059 = .ok (.aload_n 0, 1) := by decide +kernel
theorem dL_law_1060 : decode cL_law 1060 = .ok (.iload 4, 2) := by decide +kernel
theorem dL_law_1062 : decode cL_law 1062 = .ok (.iconst 1, 1) := by decide +kernel
theorem dL_law_1063 : decode cL_law 1063 = .ok (.iadd, 1) := by decide +kernel
theorem dL_law_1064 : decode cL_law 1064 = .ok (.iaload, 1) := by decide +kernel
theorem dL_law_1065 : decode cL_law 1065 = .ok (.aload_n 0, 1) := by decide +kernel
theorem dL_law_1066 : decode cL_law 1066 = .ok (.iload 4, 2) := by decide +kernel
theorem dL_law_1068 : decode cL_law 1068 = .ok (.iconst 2, 1) := by decide +kernel
theorem dL_law_1069 : decode cL_law 1069 = .ok (.iadd, 1) := by decide +kernel
theorem dL_law_1070 : decode cL_law 1070 = .ok (.iaload, 1) := by decide +kernel
theorem dL_law_1071 : decode cL_law 1071 = .ok (.invokevirtual 125, 3) := by decide +kernel
theorem dL_law_1074 : decode cL_law 1074 = .ok (.aload_n 2, 1) := by decide +kernel
theorem dL_law_1075 : decode cL_law 1075 = .ok (.aload_n 0, 1) := by decide +kernel
theorem dL_law_1076 : decode cL_law 1076 = .ok (.iload 4, 2) := by decide +kernel
theorem dL_law_1078 : decode cL_law 1078 = .ok (.iconst 1, 1) := by decide +kernel
theorem dL_law_1079 : decode cL_law 1079 = .ok (.iadd, 1) := by decide +kernel
theorem dL_law_1080 : decode cL_law 1080 = .ok (.iaload, 1) := by decide +kernel
theorem dL_law_1081 : decode cL_law 1081 = .ok (.aload_n 0, 1) := by decide +kernel
theorem dL_law_1082 : decode cL_law 1082 = .ok (.iload 4, 2) := by decide +kernel
theorem dL_law_1084 : decode cL_law 1084 = .ok (.iconst 2, 1) := by decide +kernel
theorem dL_law_1085 : decode cL_law 1085 = .ok (.iadd, 1) := by decide +kernel
theorem dL_law_1086 : decode cL_law 1086 = .ok (.iaload, 1) := by decide +kernel
theorem dL_law_1087 : decode cL_law 1087 = .ok (.invokevirtual 129, 3) := by decide +kernel
theorem dL_law_1090 : decode cL_law 1090 = .ok (.lcmp, 1) := by decide +kernel
theorem dL_law_1091 : decode cL_law 1091 = .ok (.ifCond .eq 646, 3) := by decide +kernel
theorem dL_law_1094 : decode cL_law 1094 = .ok (.iconst 0, 1) := by decide +kernel
theorem dL_law_1095 : decode cL_law 1095 = .ok (.ireturn, 1) := by decide +kernel
theorem dL_law_1096 : decode cL_law 1096 = .ok (.aload_n 1, 1) := by decide +kernel
theorem dL_law_1097 : decode cL_law 1097 = .ok (.aload_n 0, 1) := by decide +kernel
theorem dL_law_1098 : decode cL_law 1098 = .ok (.iload 4, 2) := by decide +kernel
theorem dL_law_1100 : decode cL_law 1100 = .ok (.iconst 1, 1) := by decide +kernel
theorem dL_law_1101 : decode cL_law 1101 = .ok (.iadd, 1) := by decide +kernel
theorem dL_law_1102 : decode cL_law 1102 = .ok (.iaload, 1) := by decide +kernel
theorem dL_law_1103 : decode cL_law 1103 = .ok (.aload_n 0, 1) := by decide +kernel
theorem dL_law_1104 : decode cL_law 1104 = .ok (.iload 4, 2) := by decide +kernel
theorem dL_law_1106 : decode cL_law 1106 = .ok (.iconst 2, 1) := by decide +kernel
theorem dL_law_1107 : decode cL_law 1107 = .ok (.iadd, 1) := by decide +kernel
theorem dL_law_1108 : decode cL_law 1108 = .ok (.iaload, 1) := by decide +kernel
theorem dL_law_1109 : decode cL_law 1109 = .ok (.invokevirtual 130, 3) := by decide +kernel
theorem dL_law_1112 : decode cL_law 1112 = .ok (.aload_n 2, 1) := by decide +kernel
theorem dL_law_1113 : decode cL_law 1113 = .ok (.aload_n 0, 1) := by decide +kernel
theorem dL_law_1114 : decode cL_law 1114 = .ok (.iload 4, 2) := by decide +kernel
theorem dL_law_1116 : decode cL_law 1116 = .ok (.iconst 1, 1) := by decide +kernel
theorem dL_law_1117 : decode cL_law 1117 = .ok (.iadd, 1) := by decide +kernel
theorem dL_law_1118 : decode cL_law 1118 = .ok (.iaload, 1) := by decide +kernel
theorem dL_law_1119 : decode cL_law 1119 = .ok (.aload_n 0, 1) := by decide +kernel
theorem dL_law_1120 : decode cL_law 1120 = .ok (.iload 4, 2) := by decide +kernel
theorem dL_law_1122 : decode cL_law 1122 = .ok (.iconst 2, 1) := by decide +kernel
theorem dL_law_1123 : decode cL_law 1123 = .ok (.iadd, 1) := by decide +kernel
theorem dL_law_1124 : decode cL_law 1124 = .ok (.iaload, 1) := by decide +kernel
theorem dL_law_1125 : decode cL_law 1125 = .ok (.invokevirtual 133, 3) := by decide +kernel
theorem dL_law_1128 : decode cL_law 1128 = .ok (.if_icmp .eq 609, 3) := by decide +kernel
theorem dL_law_1131 : decode cL_law 1131 = .ok (.iconst 0, 1) := by decide +kernel
theorem dL_law_1132 : decode cL_law 1132 = .ok (.ireturn, 1) := by decide +kernel
theorem dL_law_1133 : decode cL_law 1133 = .ok (.aload_n 1, 1) := by decide +kernel
theorem dL_law_1134 : decode cL_law 1134 = .ok (.invokevirtual 134, 3) := by decide +kernel
theorem dL_law_1137 : decode cL_law 1137 = .ok (.aload_n 2, 1) := by decide +kernel
theorem dL_law_1138 : decode cL_law 1138 = .ok (.invokevirtual 137, 3) := by decide +kernel
theorem dL_law_1141 : decode cL_law 1141 = .ok (.if_icmp .eq 596, 3) := by decide +kernel
theorem dL_law_1144 : decode cL_law 1144 = .ok (.iconst 0, 1) := by decide +kernel
theorem dL_law_1145 : decode cL_law 1145 = .ok (.ireturn, 1) := by decide +kernel
theorem dL_law_1146 : decode cL_law 1146 = .ok (.aload_n 1, 1) := by decide +kernel
theorem dL_law_1147 : decode cL_law 1147 = .ok (.aload_n 0, 1) := by decide +kernel
theorem dL_law_1148 : decode cL_law 1148 = .ok (.iload 4, 2) := by decide +kernel
theorem dL_law_1150 : decode cL_law 1150 = .ok (.iconst 1, 1) := by decide +kernel
theorem dL_law_1151 : decode cL_law 1151 = .ok (.iadd, 1) := by decide +kernel
theorem dL_law_1152 : decode cL_law 1152 = .ok (.iaload, 1) := by decide +kernel
theorem dL_law_1153 : decode cL_law 1153 = .ok (.aload_n 0, 1) := by decide +kernel
theorem dL_law_1154 : decode cL_law 1154 = .ok (.iload 4, 2) := by decide +kernel
theorem dL_law_1156 : decode cL_law 1156 = .ok (.iconst 2, 1) := by decide +kernel
theorem dL_law_1157 : decode cL_law 1157 = .ok (.iadd, 1) := by decide +kernel
theorem dL_law_1158 : decode cL_law 1158 = .ok (.iaload, 1) := by decide +kernel
theorem dL_law_1159 : decode cL_law 1159 = .ok (.invokevirtual 138, 3) := by decide +kernel
theorem dL_law_1162 : decode cL_law 1162 = .ok (.aload_n 2, 1) := by decide +kernel
theorem dL_law_1163 : decode cL_law 1163 = .ok (.aload_n 0, 1) := by decide +kernel
theorem dL_law_1164 : decode cL_law 1164 = .ok (.iload 4, 2) := by decide +kernel
theorem dL_law_1166 : decode cL_law 1166 = .ok (.iconst 1, 1) := by decide +kernel
theorem dL_law_1167 : decode cL_law 1167 = .ok (.iadd, 1) := by decide +kernel
theorem dL_law_1168 : decode cL_law 1168 = .ok (.iaload, 1) := by decide +kernel
theorem dL_law_1169 : decode cL_law 1169 = .ok (.aload_n 0, 1) := by decide +kernel
theorem dL_law_1170 : decode cL_law 1170 = .ok (.iload 4, 2) := by decide +kernel
theorem dL_law_1172 : decode cL_law 1172 = .ok (.iconst 2, 1) := by decide +kernel
theorem dL_law_1173 : decode cL_law 1173 = .ok (.iadd, 1) := by decide +kernel
theorem dL_law_1174 : decode cL_law 1174 = .ok (.iaload, 1) := by decide +kernel
theorem dL_law_1175 : decode cL_law 1175 = .ok (.invokevirtual 141, 3) := by decide +kernel
theorem dL_law_1178 : decode cL_law 1178 = .ok (.if_icmp .eq 559, 3) := by decide +kernel
theorem dL_law_1181 : decode cL_law 1181 = .ok (.iconst 0, 1) := by decide +kernel
theorem dL_law_1182 : decode cL_law 1182 = .ok (.ireturn, 1) := by decide +kernel
theorem dL_law_1183 : decode cL_law 1183 = .ok (.aload_n 1, 1) := by decide +kernel
theorem dL_law_1184 : decode cL_law 1184 = .ok (.aload_n 0, 1) := by decide +kernel
theorem dL_law_1185 : decode cL_law 1185 = .ok (.iload 4, 2) := by decide +kernel
theorem dL_law_1187 : decode cL_law 1187 = .ok (.iconst 1, 1) := by decide +kernel
theorem dL_law_1188 : decode cL_law 1188 = .ok (.iadd, 1) := by decide +kernel
theorem dL_law_1189 : decode cL_law 1189 = .ok (.iaload, 1) := by decide +kernel
theorem dL_law_1190 : decode cL_law 1190 = .ok (.invokevirtual 142, 3) := by decide +kernel
theorem dL_law_1193 : decode cL_law 1193 = .ok (.aload_n 2, 1) := by decide +kernel
theorem dL_law_1194 : decode cL_law 1194 = .ok (.aload_n 0, 1) := by decide +kernel
theorem dL_law_1195 : decode cL_law 1195 = .ok (.iload 4, 2) := by decide +kernel
theorem dL_law_1197 : decode cL_law 1197 = .ok (.iconst 1, 1) := by decide +kernel
theorem dL_law_1198 : decode cL_law 1198 = .ok (.iadd, 1) := by decide +kernel
theorem dL_law_1199 : decode cL_law 1199 = .ok (.iaload, 1) := by decide +kernel
theorem dL_law_1200 : decode cL_law 1200 = .ok (.invokevirtual 145, 3) := by decide +kernel
theorem dL_law_1203 : decode cL_law 1203 = .ok (.if_icmp .eq 534, 3) := by decide +kernel
theorem dL_law_1206 : decode cL_law 1206 = .ok (.iconst 0, 1) := by decide +kernel
theorem dL_law_1207 : decode cL_law 1207 = .ok (.ireturn, 1) := by decide +kernel
theorem dL_law_1208 : decode cL_law 1208 = .ok (.aload_n 1, 1) := by decide +kernel
theorem dL_law_1209 : decode cL_law 1209 = .ok (.aload_n 0, 1) := by decide +kernel
theorem dL_law_1210 : decode cL_law 1210 = .ok (.iload 4, 2) := by decide +kernel
theorem dL_law_1212 : decode cL_law 1212 = .ok (.iconst 1, 1) := by decide +kernel
theorem dL_law_1213 : decode cL_law 1213 = .ok (.iadd, 1) := by decide +kernel
theorem dL_law_1214 : decode cL_law 1214 = .ok (.iaload, 1) := by decide +kernel
theorem dL_law_1215 : decode cL_law 1215 = .ok (.aload_n 0, 1) := by decide +kernel
theorem dL_law_1216 : decode cL_law 1216 = .ok (.iload 4, 2) := by decide +kernel
theorem dL_law_1218 : decode cL_law 1218 = .ok (.iconst 2, 1) := by decide +kernel
theorem dL_law_1219 : decode cL_law 1219 = .ok (.iadd, 1) := by decide +kernel
theorem dL_law_1220 : decode cL_law 1220 = .ok (.iaload, 1) := by decide +kernel
theorem dL_law_1221 : decode cL_law 1221 = .ok (.invokevirtual 146, 3) := by decide +kernel
theorem dL_law_1224 : decode cL_law 1224 = .ok (.aload_n 2, 1) := by decide +kernel
theorem dL_law_1225 : decode cL_law 1225 = .ok (.aload_n 0, 1) := by decide +kernel
theorem dL_law_1226 : decode cL_law 1226 = .ok (.iload 4, 2) := by decide +kernel
theorem dL_law_1228 : decode cL_law 1228 = .ok (.iconst 1, 1) := by decide +kernel
theorem dL_law_1229 : decode cL_law 1229 = .ok (.iadd, 1) := by decide +kernel
theorem dL_law_1230 : decode cL_law 1230 = .ok (.iaload, 1) := by decide +kernel
theorem dL_law_1231 : decode cL_law 1231 = .ok (.aload_n 0, 1) := by decide +kernel
theorem dL_law_1232 : decode cL_law 1232 = .ok (.iload 4, 2) := by decide +kernel
theorem dL_law_1234 : decode cL_law 1234 = .ok (.iconst 2, 1) := by decide +kernel
theorem dL_law_1235 : decode cL_law 1235 = .ok (.iadd, 1) := by decide +kernel
theorem dL_law_1236 : decode cL_law 1236 = .ok (.iaload, 1) := by decide +kernel
theorem dL_law_1237 : decode cL_law 1237 = .ok (.invokevirtual 149, 3) := by decide +kernel
theorem dL_law_1240 : decode cL_law 1240 = .ok (.if_icmp .eq 497, 3) := by decide +kernel
theorem dL_law_1243 : decode cL_law 1243 = .ok (.iconst 0, 1) := by decide +kernel
theorem dL_law_1244 : decode cL_law 1244 = .ok (.ireturn, 1) := by decide +kernel
theorem dL_law_1245 : decode cL_law 1245 = .ok (.aload_n 1, 1) := by decide +kernel
theorem dL_law_1246 : decode cL_law 1246 = .ok (.aload_n 0, 1) := by decide +kernel
theorem dL_law_1247 : decode cL_law 1247 = .ok (.iload 4, 2) := by decide +kernel
theorem dL_law_1249 : decode cL_law 1249 = .ok (.iconst 1, 1) := by decide +kernel
theorem dL_law_1250 : decode cL_law 1250 = .ok (.iadd, 1) := by decide +kernel
theorem dL_law_1251 : decode cL_law 1251 = .ok (.iaload, 1) := by decide +kernel
theorem dL_law_1252 : decode cL_law 1252 = .ok (.invokevirtual 150, 3) := by decide +kernel
theorem dL_law_1255 : decode cL_law 1255 = .ok (.aload_n 2, 1) := by decide +kernel
theorem dL_law_1256 : decode cL_law 1256 = .ok (.aload_n 0, 1) := by decide +kernel
theorem dL_law_1257 : decode cL_law 1257 = .ok (.iload 4, 2) := by decide +kernel
theorem dL_law_1259 : decode cL_law 1259 = .ok (.iconst 1, 1) := by decide +kernel
theorem dL_law_1260 : decode cL_law 1260 = .ok (.iadd, 1) := by decide +kernel
theorem dL_law_1261 : decode cL_law 1261 = .ok (.iaload, 1) := by decide +kernel
theorem dL_law_1262 : decode cL_law 1262 = .ok (.invokevirtual 153, 3) := by decide +kernel
theorem dL_law_1265 : decode cL_law 1265 = .ok (.if_icmp .eq 472, 3) := by decide +kernel
theorem dL_law_1268 : decode cL_law 1268 = .ok (.iconst 0, 1) := by decide +kernel
theorem dL_law_1269 : decode cL_law 1269 = .ok (.ireturn, 1) := by decide +kernel
theorem dL_law_1270 : decode cL_law 1270 = .ok (.aload_n 1, 1) := by decide +kernel
theorem dL_law_1271 : decode cL_law 1271 = .ok (.aload_n 0, 1) := by decide +kernel
theorem dL_law_1272 : decode cL_law 1272 = .ok (.iload 4, 2) := by decide +kernel
theorem dL_law_1274 : decode cL_law 1274 = .ok (.iconst 1, 1) := by decide +kernel
theorem dL_law_1275 : decode cL_law 1275 = .ok (.iadd, 1) := by decide +kernel
theorem dL_law_1276 : decode cL_law 1276 = .ok (.iaload, 1) := by decide +kernel
theorem dL_law_1277 : decode cL_law 1277 = .ok (.aload_n 0, 1) := by decide +kernel
theorem dL_law_1278 : decode cL_law 1278 = .ok (.iload 4, 2) := by decide +kernel
theorem dL_law_1280 : decode cL_law 1280 = .ok (.iconst 2, 1) := by decide +kernel
theorem dL_law_1281 : decode cL_law 1281 = .ok (.iadd, 1) := by decide +kernel
theorem dL_law_1282 : decode cL_law 1282 = .ok (.iaload, 1) := by decide +kernel
theorem dL_law_1283 : decode cL_law 1283 = .ok (.invokevirtual 154, 3) := by decide +kernel
theorem dL_law_1286 : decode cL_law 1286 = .ok (.aload_n 2, 1) := by decide +kernel
theorem dL_law_1287 : decode cL_law 1287 = .ok (.aload_n 0, 1) := by decide +kernel
theorem dL_law_1288 : decode cL_law 1288 = .ok (.iload 4, 2) := by decide +kernel
theorem dL_law_1290 : decode cL_law 1290 = .ok (.iconst 1, 1) := by decide +kernel
theorem dL_law_1291 : decode cL_law 1291 = .ok (.iadd, 1) := by decide +kernel
theorem dL_law_1292 : decode cL_law 1292 = .ok (.iaload, 1) := by decide +kernel
theorem dL_law_1293 : decode cL_law 1293 = .ok (.aload_n 0, 1) := by decide +kernel
theorem dL_law_1294 : decode cL_law 1294 = .ok (.iload 4, 2) := by decide +kernel
theorem dL_law_1296 : decode cL_law 1296 = .ok (.iconst 2, 1) := by decide +kernel
theorem dL_law_1297 : decode cL_law 1297 = .ok (.iadd, 1) := by decide +kernel
theorem dL_law_1298 : decode cL_law 1298 = .ok (.iaload, 1) := by decide +kernel
theorem dL_law_1299 : decode cL_law 1299 = .ok (.invokevirtual 157, 3) := by decide +kernel
theorem dL_law_1302 : decode cL_law 1302 = .ok (.if_icmp .eq 435, 3) := by decide +kernel
theorem dL_law_1305 : decode cL_law 1305 = .ok (.iconst 0, 1) := by decide +kernel
theorem dL_law_1306 : decode cL_law 1306 = .ok (.ireturn, 1) := by decide +kernel
theorem dL_law_1307 : decode cL_law 1307 = .ok (.aload_n 1, 1) := by decide +kernel
theorem dL_law_1308 : decode cL_law 1308 = .ok (.aload_n 0, 1) := by decide +kernel
theorem dL_law_1309 : decode cL_law 1309 = .ok (.iload 4, 2) := by decide +kernel
theorem dL_law_1311 : decode cL_law 1311 = .ok (.iconst 1, 1) := by decide +kernel
theorem dL_law_1312 : decode cL_law 1312 = .ok (.iadd, 1) := by decide +kernel
theorem dL_law_1313 : decode cL_law 1313 = .ok (.iaload, 1) := by decide +kernel
theorem dL_law_1314 : decode cL_law 1314 = .ok (.aload_n 0, 1) := by decide +kernel
theorem dL_law_1315 : decode cL_law 1315 = .ok (.iload 4, 2) := by decide +kernel
theorem dL_law_1317 : decode cL_law 1317 = .ok (.iconst 2, 1) := by decide +kernel
theorem dL_law_1318 : decode cL_law 1318 = .ok (.iadd, 1) := by decide +kernel
theorem dL_law_1319 : decode cL_law 1319 = .ok (.iaload, 1) := by decide +kernel
theorem dL_law_1320 : decode cL_law 1320 = .ok (.invokevirtual 158, 3) := by decide +kernel
theorem dL_law_1323 : decode cL_law 1323 = .ok (.aload_n 2, 1) := by decide +kernel
theorem dL_law_1324 : decode cL_law 1324 = .ok (.aload_n 0, 1) := by decide +kernel
theorem dL_law_1325 : decode cL_law 1325 = .ok (.iload 4, 2) := by decide +kernel
theorem dL_law_1327 : decode cL_law 1327 = .ok (.iconst 1, 1) := by decide +kernel
theorem dL_law_1328 : decode cL_law 1328 = .ok (.iadd, 1) := by decide +kernel
theorem dL_law_1329 : decode cL_law 1329 = .ok (.iaload, 1) := by decide +kernel
theorem dL_law_1330 : decode cL_law 1330 = .ok (.aload_n 0, 1) := by decide +kernel
theorem dL_law_1331 : decode cL_law 1331 = .ok (.iload 4, 2) := by decide +kernel
theorem dL_law_1333 : decode cL_law 1333 = .ok (.iconst 2, 1) := by decide +kernel
theorem dL_law_1334 : decode cL_law 1334 = .ok (.iadd, 1) := by decide +kernel
theorem dL_law_1335 : decode cL_law 1335 = .ok (.iaload, 1) := by decide +kernel
theorem dL_law_1336 : decode cL_law 1336 = .ok (.invokevirtual 161, 3) := by decide +kernel
theorem dL_law_1339 : decode cL_law 1339 = .ok (.if_icmp .eq 398, 3) := by decide +kernel
theorem dL_law_1342 : decode cL_law 1342 = .ok (.iconst 0, 1) := by decide +kernel
theorem dL_law_1343 : decode cL_law 1343 = .ok (.ireturn, 1) := by decide +kernel
theorem dL_law_1344 : decode cL_law 1344 = .ok (.aload_n 1, 1) := by decide +kernel
theorem dL_law_1345 : decode cL_law 1345 = .ok (.aload_n 0, 1) := by decide +kernel
theorem dL_law_1346 : decode cL_law 1346 = .ok (.iload 4, 2) := by decide +kernel
theorem dL_law_1348 : decode cL_law 1348 = .ok (.iconst 1, 1) := by decide +kernel
theorem dL_law_1349 : decode cL_law 1349 = .ok (.iadd, 1) := by decide +kernel
theorem dL_law_1350 : decode cL_law 1350 = .ok (.iaload, 1) := by decide +kernel
theorem dL_law_1351 : decode cL_law 1351 = .ok (.aload_n 0, 1) := by decide +kernel
theorem dL_law_1352 : decode cL_law 1352 = .ok (.iload 4, 2) := by decide +kernel
theorem dL_law_1354 : decode cL_law 1354 = .ok (.iconst 2, 1) := by decide +kernel
theorem dL_law_1355 : decode cL_law 1355 = .ok (.iadd, 1) := by decide +kernel
theorem dL_law_1356 : decode cL_law 1356 = .ok (.iaload, 1) := by decide +kernel
theorem dL_law_1357 : decode cL_law 1357 = .ok (.invokevirtual 162, 3) := by decide +kernel
theorem dL_law_1360 : decode cL_law 1360 = .ok (.aload_n 2, 1) := by decide +kernel
theorem dL_law_1361 : decode cL_law 1361 = .ok (.aload_n 0, 1) := by decide +kernel
theorem dL_law_1362 : decode cL_law 1362 = .ok (.iload 4, 2) := by decide +kernel
theorem dL_law_1364 : decode cL_law 1364 = .ok (.iconst 1, 1) := by decide +kernel
theorem dL_law_1365 : decode cL_law 1365 = .ok (.iadd, 1) := by decide +kernel
theorem dL_law_1366 : decode cL_law 1366 = .ok (.iaload, 1) := by decide +kernel
theorem dL_law_1367 : decode cL_law 1367 = .ok (.aload_n 0, 1) := by decide +kernel
theorem dL_law_1368 : decode cL_law 1368 = .ok (.iload 4, 2) := by decide +kernel
theorem dL_law_1370 : decode cL_law 1370 = .ok (.iconst 2, 1) := by decide +kernel
theorem dL_law_1371 : decode cL_law 1371 = .ok (.iadd, 1) := by decide +kernel
theorem dL_law_1372 : decode cL_law 1372 = .ok (.iaload, 1) := by decide +kernel
theorem dL_law_1373 : decode cL_law 1373 = .ok (.invokevirtual 166, 3) := by decide +kernel
