theorem dX8_share_32 : decode cX8_share 32 = .ok (.aload_n 0, 1) := by decide +kernel
theorem dX8_share_33 : decode cX8_share 33 = .ok (.getfield 30, 3) := by decide +kernel
theorem dX8_share_36 : decode cX8_share 36 = .ok (.iload_n 3, 1) := by decide +kernel
theorem dX8_share_37 : decode cX8_share 37 = .ok (.invokevirtual 104, 3) := by decide +kernel
theorem dX8_share_40 : decode cX8_share 40 = .ok (.iload_n 1, 1) := by decide +kernel
theorem dX8_share_41 : decode cX8_share 41 = .ok (.if_icmp .ne 6, 3) := by decide +kernel
theorem dX8_share_44 : decode cX8_share 44 = .ok (.iinc 2 1, 3) := by decide +kernel
theorem dX8_share_47 : decode cX8_share 47 = .ok (.iinc 3 1, 3) := by decide +kernel
theorem dX8_share_50 : decode cX8_share 50 = .ok (.goto (-29), 3) := by decide +kernel
theorem dX8_share_53 : decode cX8_share 53 = .ok (.aload_n 0, 1) := by decide +kernel
theorem dX8_share_54 : decode cX8_share 54 = .ok (.iload_n 2, 1) := by decide +kernel
theorem dX8_share_55 : decode cX8_share 55 = .ok (.invokevirtual 84, 3) := by decide +kernel
theorem dX8_share_58 : decode cX8_share 58 = .ok (.ireturn, 1) := by decide +kernel
theorem dX8_old_0 : decode cX8_old 0 = .ok (.aload_n 0, 1) := by decide +kernel
theorem dX8_old_1 : decode cX8_old 1 = .ok (.getfield 23, 3) := by decide +kernel
theorem dX8_old_4 : decode cX8_old 4 = .ok (.invokevirtual 133, 3) := by decide +kernel
theorem dX8_old_7 : decode cX8_old 7 = .ok (.ifCond .ne 9, 3) := by decide +kernel
theorem dX8_old_10 : decode cX8_old 10 = .ok (.aload_n 0, 1) := by decide +kernel
theorem dX8_old_11 : decode cX8_old 11 = .ok (.iconst 1, 1) := by decide +kernel
theorem dX8_old_12 : decode cX8_old 12 = .ok (.invokevirtual 67, 3) := by decide +kernel
theorem dX8_old_15 : decode cX8_old 15 = .ok (.ireturn, 1) := by decide +kernel
theorem dX8_old_16 : decode cX8_old 16 = .ok (.iload_n 1, 1) := by decide +kernel
theorem dX8_old_17 : decode cX8_old 17 = .ok (.invokestatic 107, 3) := by decide +kernel
theorem dX8_old_20 : decode cX8_old 20 = .ok (.ifCond .ne 9, 3) := by decide +kernel
theorem dX8_old_23 : decode cX8_old 23 = .ok (.aload_n 0, 1) := by decide +kernel
theorem dX8_old_24 : decode cX8_old 24 = .ok (.iconst 2, 1) := by decide +kernel
theorem dX8_old_25 : decode cX8_old 25 = .ok (.invokevirtual 67, 3) := by decide +kernel
theorem dX8_old_28 : decode cX8_old 28 = .ok (.ireturn, 1) := by decide +kernel
theorem dX8_old_29 : decode cX8_old 29 = .ok (.iconst 0, 1) := by decide +kernel
theorem dX8_old_30 : decode cX8_old 30 = .ok (.istore_n 2, 1) := by decide +kernel
theorem dX8_old_31 : decode cX8_old 31 = .ok (.iconst 0, 1) := by decide +kernel
theorem dX8_old_32 : decode cX8_old 32 = .ok (.istore_n 3, 1) := by decide +kernel
theorem dX8_old_33 : decode cX8_old 33 = .ok (.iload_n 3, 1) := by decide +kernel
theorem dX8_old_34 : decode cX8_old 34 = .ok (.aload_n 0, 1) := by decide +kernel
theorem dX8_old_35 : decode cX8_old 35 = .ok (.getfield 23, 3) := by decide +kernel
theorem dX8_old_38 : decode cX8_old 38 = .ok (.invokevirtual 126, 3) := by decide +kernel
theorem dX8_old_41 : decode cX8_old 41 = .ok (.if_icmp .ge 43, 3) := by decide +kernel
theorem dX8_old_44 : decode cX8_old 44 = .ok (.aload_n 0, 1) := by decide +kernel
theorem dX8_old_45 : decode cX8_old 45 = .ok (.getfield 30, 3) := by decide +kernel
theorem dX8_old_48 : decode cX8_old 48 = .ok (.iload_n 3, 1) := by decide +kernel
theorem dX8_old_49 : decode cX8_old 49 = .ok (.iconst 0, 1) := by decide +kernel
theorem dX8_old_50 : decode cX8_old 50 = .ok (.invokevirtual 114, 3) := by decide +kernel
theorem dX8_old_53 : decode cX8_old 53 = .ok (.istore 4, 2) := by decide +kernel
theorem dX8_old_55 : decode cX8_old 55 = .ok (.iload 4, 2) := by decide +kernel
theorem dX8_old_57 : decode cX8_old 57 = .ok (.bipush (-2), 2) := by decide +kernel
theorem dX8_old_59 : decode cX8_old 59 = .ok (.if_icmp .eq 19, 3) := by decide +kernel
theorem dX8_old_62 : decode cX8_old 62 = .ok (.aload_n 0, 1) := by decide +kernel
theorem dX8_old_63 : decode cX8_old 63 = .ok (.getfield 30, 3) := by decide +kernel
theorem dX8_old_66 : decode cX8_old 66 = .ok (.iload 4, 2) := by decide +kernel
theorem dX8_old_68 : decode cX8_old 68 = .ok (.invokevirtual 137, 3) := by decide +kernel
theorem dX8_old_71 : decode cX8_old 71 = .ok (.iload_n 1, 1) := by decide +kernel
theorem dX8_old_72 : decode cX8_old 72 = .ok (.if_icmp .gt 6, 3) := by decide +kernel
theorem dX8_old_75 : decode cX8_old 75 = .ok (.iinc 2 1, 3) := by decide +kernel
theorem dX8_old_78 : decode cX8_old 78 = .ok (.iinc 3 1, 3) := by decide +kernel
theorem dX8_old_81 : decode cX8_old 81 = .ok (.goto (-48), 3) := by decide +kernel
theorem dX8_old_84 : decode cX8_old 84 = .ok (.aload_n 0, 1) := by decide +kernel
theorem dX8_old_85 : decode cX8_old 85 = .ok (.iload_n 2, 1) := by decide +kernel
theorem dX8_old_86 : decode cX8_old 86 = .ok (.invokevirtual 84, 3) := by decide +kernel
theorem dX8_old_89 : decode cX8_old 89 = .ok (.ireturn, 1) := by decide +kernel
theorem dX8_changes_0 : decode cX8_changes 0 = .ok (.aload_n 0, 1) := by decide +kernel
theorem dX8_changes_1 : decode cX8_changes 1 = .ok (.getfield 23, 3) := by decide +kernel
theorem dX8_changes_4 : decode cX8_changes 4 = .ok (.iload_n 1, 1) := by decide +kernel
theorem dX8_changes_5 : decode cX8_changes 5 = .ok (.iload_n 2, 1) := by decide +kernel
theorem dX8_changes_6 : decode cX8_changes 6 = .ok (.invokevirtual 93, 3) := by decide +kernel
theorem dX8_changes_9 : decode cX8_changes 9 = .ok (.ifCond .ne 9, 3) := by decide +kernel
theorem dX8_changes_12 : decode cX8_changes 12 = .ok (.aload_n 0, 1) := by decide +kernel
theorem dX8_changes_13 : decode cX8_changes 13 = .ok (.iconst 1, 1) := by decide +kernel
theorem dX8_changes_14 : decode cX8_changes 14 = .ok (.invokevirtual 67, 3) := by decide +kernel
theorem dX8_changes_17 : decode cX8_changes 17 = .ok (.ireturn, 1) := by decide +kernel
theorem dX8_changes_18 : decode cX8_changes 18 = .ok (.aload_n 0, 1) := by decide +kernel
theorem dX8_changes_19 : decode cX8_changes 19 = .ok (.aload_n 0, 1) := by decide +kernel
theorem dX8_changes_20 : decode cX8_changes 20 = .ok (.aload_n 0, 1) := by decide +kernel
theorem dX8_changes_21 : decode cX8_changes 21 = .ok (.getfield 23, 3) := by decide +kernel
theorem dX8_changes_24 : decode cX8_changes 24 = .ok (.iload_n 1, 1) := by decide +kernel
theorem dX8_changes_25 : decode cX8_changes 25 = .ok (.iload_n 2, 1) := by decide +kernel
theorem dX8_changes_26 : decode cX8_changes 26 = .ok (.invokevirtual 97, 3) := by decide +kernel
theorem dX8_changes_29 : decode cX8_changes 29 = .ok (.invokevirtual 140, 3) := by decide +kernel
theorem dX8_changes_32 : decode cX8_changes 32 = .ok (.invokevirtual 84, 3) := by decide +kernel
theorem dX8_changes_35 : decode cX8_changes 35 = .ok (.ireturn, 1) := by decide +kernel
theorem dX8_work_0 : decode cX8_work 0 = .ok (.aload_n 0, 1) := by decide +kernel
theorem dX8_work_1 : decode cX8_work 1 = .ok (.getfield 30, 3) := by decide +kernel
theorem dX8_work_4 : decode cX8_work 4 = .ok (.iload_n 1, 1) := by decide +kernel
theorem dX8_work_5 : decode cX8_work 5 = .ok (.invokevirtual 143, 3) := by decide +kernel
theorem dX8_work_8 : decode cX8_work 8 = .ok (.ifCond .eq 12, 3) := by decide +kernel
theorem dX8_work_11 : decode cX8_work 11 = .ok (.iload_n 2, 1) := by decide +kernel
theorem dX8_work_12 : decode cX8_work 12 = .ok (.ifCond .lt 8, 3) := by decide +kernel
theorem dX8_work_15 : decode cX8_work 15 = .ok (.iload_n 2, 1) := by decide +kernel
theorem dX8_work_16 : decode cX8_work 16 = .ok (.iconst 4, 1) := by decide +kernel
theorem dX8_work_17 : decode cX8_work 17 = .ok (.if_icmp .le 9, 3) := by decide +kernel
theorem dX8_work_20 : decode cX8_work 20 = .ok (.aload_n 0, 1) := by decide +kernel
theorem dX8_work_21 : decode cX8_work 21 = .ok (.iconst 1, 1) := by decide +kernel
theorem dX8_work_22 : decode cX8_work 22 = .ok (.invokevirtual 67, 3) := by decide +kernel
theorem dX8_work_25 : decode cX8_work 25 = .ok (.ireturn, 1) := by decide +kernel
theorem dX8_work_26 : decode cX8_work 26 = .ok (.aload_n 0, 1) := by decide +kernel
theorem dX8_work_27 : decode cX8_work 27 = .ok (.aload_n 0, 1) := by decide +kernel
theorem dX8_work_28 : decode cX8_work 28 = .ok (.iload_n 1, 1) := by decide +kernel
theorem dX8_work_29 : decode cX8_work 29 = .ok (.iload_n 2, 1) := by decide +kernel
theorem dX8_work_30 : decode cX8_work 30 = .ok (.invokevirtual 146, 3) := by decide +kernel
theorem dX8_work_33 : decode cX8_work 33 = .ok (.invokevirtual 84, 3) := by decide +kernel
theorem dX8_work_36 : decode cX8_work 36 = .ok (.ireturn, 1) := by decide +kernel
theorem dX8_paint_0 : decode cX8_paint 0 = .ok (.aload_n 0, 1) := by decide +kernel
theorem dX8_paint_1 : decode cX8_paint 1 = .ok (.getfield 30, 3) := by decide +kernel
theorem dX8_paint_4 : decode cX8_paint 4 = .ok (.iload_n 1, 1) := by decide +kernel
theorem dX8_paint_5 : decode cX8_paint 5 = .ok (.invokevirtual 143, 3) := by decide +kernel
theorem dX8_paint_8 : decode cX8_paint 8 = .ok (.ifCond .eq 15, 3) := by decide +kernel
theorem dX8_paint_11 : decode cX8_paint 11 = .ok (.aload_n 0, 1) := by decide +kernel
theorem dX8_paint_12 : decode cX8_paint 12 = .ok (.getfield 23, 3) := by decide +kernel
theorem dX8_paint_15 : decode cX8_paint 15 = .ok (.iload_n 2, 1) := by decide +kernel
theorem dX8_paint_16 : decode cX8_paint 16 = .ok (.iload_n 3, 1) := by decide +kernel
theorem dX8_paint_17 : decode cX8_paint 17 = .ok (.invokevirtual 93, 3) := by decide +kernel
theorem dX8_paint_20 : decode cX8_paint 20 = .ok (.ifCond .ne 9, 3) := by decide +kernel
theorem dX8_paint_23 : decode cX8_paint 23 = .ok (.aload_n 0, 1) := by decide +kernel
theorem dX8_paint_24 : decode cX8_paint 24 = .ok (.iconst 1, 1) := by decide +kernel
theorem dX8_paint_25 : decode cX8_paint 25 = .ok (.invokevirtual 67, 3) := by decide +kernel
theorem dX8_paint_28 : decode cX8_paint 28 = .ok (.ireturn, 1) := by decide +kernel
theorem dX8_paint_29 : decode cX8_paint 29 = .ok (.aload_n 0, 1) := by decide +kernel
theorem dX8_paint_30 : decode cX8_paint 30 = .ok (.aload_n 0, 1) := by decide +kernel
theorem dX8_paint_31 : decode cX8_paint 31 = .ok (.getfield 30, 3) := by decide +kernel
theorem dX8_paint_34 : decode cX8_paint 34 = .ok (.iload_n 1, 1) := by decide +kernel
theorem dX8_paint_35 : decode cX8_paint 35 = .ok (.aload_n 0, 1) := by decide +kernel
theorem dX8_paint_36 : decode cX8_paint 36 = .ok (.getfield 23, 3) := by decide +kernel
theorem dX8_paint_39 : decode cX8_paint 39 = .ok (.iload_n 2, 1) := by decide +kernel
theorem dX8_paint_40 : decode cX8_paint 40 = .ok (.iload_n 3, 1) := by decide +kernel
theorem dX8_paint_41 : decode cX8_paint 41 = .ok (.invokevirtual 97, 3) := by decide +kernel
theorem dX8_paint_44 : decode cX8_paint 44 = .ok (.invokevirtual 149, 3) := by decide +kernel
theorem dX8_paint_47 : decode cX8_paint 47 = .ok (.invokevirtual 84, 3) := by decide +kernel
theorem dX8_paint_50 : decode cX8_paint 50 = .ok (.ireturn, 1) := by decide +kernel
theorem dX8_judged_0 : decode cX8_judged 0 = .ok (.aload_n 0, 1) := by decide +kernel
theorem dX8_judged_1 : decode cX8_judged 1 = .ok (.getfield 30, 3) := by decide +kernel
theorem dX8_judged_4 : decode cX8_judged 4 = .ok (.iload_n 1, 1) := by decide +kernel
theorem dX8_judged_5 : decode cX8_judged 5 = .ok (.invokevirtual 143, 3) := by decide +kernel
theorem dX8_judged_8 : decode cX8_judged 8 = .ok (.ifCond .ne 9, 3) := by decide +kernel
theorem dX8_judged_11 : decode cX8_judged 11 = .ok (.aload_n 0, 1) := by decide +kernel
theorem dX8_judged_12 : decode cX8_judged 12 = .ok (.iconst 1, 1) := by decide +kernel
theorem dX8_judged_13 : decode cX8_judged 13 = .ok (.invokevirtual 67, 3) := by decide +kernel
theorem dX8_judged_16 : decode cX8_judged 16 = .ok (.ireturn, 1) := by decide +kernel
theorem dX8_judged_17 : decode cX8_judged 17 = .ok (.aload_n 0, 1) := by decide +kernel
theorem dX8_judged_18 : decode cX8_judged 18 = .ok (.aload_n 0, 1) := by decide +kernel
theorem dX8_judged_19 : decode cX8_judged 19 = .ok (.getfield 23, 3) := by decide +kernel
theorem dX8_judged_22 : decode cX8_judged 22 = .ok (.aload_n 0, 1) := by decide +kernel
theorem dX8_judged_23 : decode cX8_judged 23 = .ok (.getfield 30, 3) := by decide +kernel
theorem dX8_judged_26 : decode cX8_judged 26 = .ok (.iload_n 1, 1) := by decide +kernel
theorem dX8_judged_27 : decode cX8_judged 27 = .ok (.invokestatic 152, 3) := by decide +kernel
theorem dX8_judged_30 : decode cX8_judged 30 = .ok (.invokevirtual 84, 3) := by decide +kernel
theorem dX8_judged_33 : decode cX8_judged 33 = .ok (.ireturn, 1) := by decide +kernel
theorem dX8_breaks_0 : decode cX8_breaks 0 = .ok (.aload_n 0, 1) := by decide +kernel
theorem dX8_breaks_1 : decode cX8_breaks 1 = .ok (.getfield 30, 3) := by decide +kernel
theorem dX8_breaks_4 : decode cX8_breaks 4 = .ok (.iload_n 1, 1) := by decide +kernel
theorem dX8_breaks_5 : decode cX8_breaks 5 = .ok (.invokevirtual 143, 3) := by decide +kernel
theorem dX8_breaks_8 : decode cX8_breaks 8 = .ok (.ifCond .ne 9, 3) := by decide +kernel
theorem dX8_breaks_11 : decode cX8_breaks 11 = .ok (.aload_n 0, 1) := by decide +kernel
theorem dX8_breaks_12 : decode cX8_breaks 12 = .ok (.iconst 1, 1) := by decide +kernel
theorem dX8_breaks_13 : decode cX8_breaks 13 = .ok (.invokevirtual 67, 3) := by decide +kernel
theorem dX8_breaks_16 : decode cX8_breaks 16 = .ok (.ireturn, 1) := by decide +kernel
theorem dX8_breaks_17 : decode cX8_breaks 17 = .ok (.aload_n 0, 1) := by decide +kernel
theorem dX8_breaks_18 : decode cX8_breaks 18 = .ok (.aload_n 0, 1) := by decide +kernel
theorem dX8_breaks_19 : decode cX8_breaks 19 = .ok (.getfield 23, 3) := by decide +kernel
theorem dX8_breaks_22 : decode cX8_breaks 22 = .ok (.aload_n 0, 1) := by decide +kernel
theorem dX8_breaks_23 : decode cX8_breaks 23 = .ok (.getfield 30, 3) := by decide +kernel
theorem dX8_breaks_26 : decode cX8_breaks 26 = .ok (.iload_n 1, 1) := by decide +kernel
theorem dX8_breaks_27 : decode cX8_breaks 27 = .ok (.invokestatic 158, 3) := by decide +kernel
theorem dX8_breaks_30 : decode cX8_breaks 30 = .ok (.invokevirtual 84, 3) := by decide +kernel
theorem dX8_breaks_33 : decode cX8_breaks 33 = .ok (.ireturn, 1) := by decide +kernel
theorem dX8_forged_0 : decode cX8_forged 0 = .ok (.aload_n 0, 1) := by decide +kernel
theorem dX8_forged_1 : decode cX8_forged 1 = .ok (.getfield 23, 3) := by decide +kernel
theorem dX8_forged_4 : decode cX8_forged 4 = .ok (.invokevirtual 133, 3) := by decide +kernel
theorem dX8_forged_7 : decode cX8_forged 7 = .ok (.ifCond .ne 9, 3) := by decide +kernel
theorem dX8_forged_10 : decode cX8_forged 10 = .ok (.aload_n 0, 1) := by decide +kernel
theorem dX8_forged_11 : decode cX8_forged 11 = .ok (.iconst 1, 1) := by decide +kernel
theorem dX8_forged_12 : decode cX8_forged 12 = .ok (.invokevirtual 67, 3) := by decide +kernel
theorem dX8_forged_15 : decode cX8_forged 15 = .ok (.ireturn, 1) := by decide +kernel
theorem dX8_forged_16 : decode cX8_forged 16 = .ok (.iconst 0, 1) := by decide +kernel
theorem dX8_forged_17 : decode cX8_forged 17 = .ok (.istore_n 1, 1) := by decide +kernel
theorem dX8_forged_18 : decode cX8_forged 18 = .ok (.iload_n 1, 1) := by decide +kernel
theorem dX8_forged_19 : decode cX8_forged 19 = .ok (.aload_n 0, 1) := by decide +kernel
theorem dX8_forged_20 : decode cX8_forged 20 = .ok (.getfield 30, 3) := by decide +kernel
theorem dX8_forged_23 : decode cX8_forged 23 = .ok (.getfield 81, 3) := by decide +kernel
theorem dX8_forged_26 : decode cX8_forged 26 = .ok (.if_icmp .ge 30, 3) := by decide +kernel
theorem dX8_forged_29 : decode cX8_forged 29 = .ok (.aload_n 0, 1) := by decide +kernel
theorem dX8_forged_30 : decode cX8_forged 30 = .ok (.getfield 23, 3) := by decide +kernel
theorem dX8_forged_33 : decode cX8_forged 33 = .ok (.aload_n 0, 1) := by decide +kernel
theorem dX8_forged_34 : decode cX8_forged 34 = .ok (.getfield 30, 3) := by decide +kernel
theorem dX8_forged_37 : decode cX8_forged 37 = .ok (.iload_n 1, 1) := by decide +kernel
theorem dX8_forged_38 : decode cX8_forged 38 = .ok (.invokestatic 161, 3) := by decide +kernel
theorem dX8_forged_41 : decode cX8_forged 41 = .ok (.ifCond .eq 9, 3) := by decide +kernel
theorem dX8_forged_44 : decode cX8_forged 44 = .ok (.aload_n 0, 1) := by decide +kernel
theorem dX8_forged_45 : decode cX8_forged 45 = .ok (.iload_n 1, 1) := by decide +kernel
theorem dX8_forged_46 : decode cX8_forged 46 = .ok (.invokevirtual 84, 3) := by decide +kernel
theorem dX8_forged_49 : decode cX8_forged 49 = .ok (.ireturn, 1) := by decide +kernel
theorem dX8_forged_50 : decode cX8_forged 50 = .ok (.iinc 1 1, 3) := by decide +kernel
theorem dX8_forged_53 : decode cX8_forged 53 = .ok (.goto (-35), 3) := by decide +kernel
theorem dX8_forged_56 : decode cX8_forged 56 = .ok (.aload_n 0, 1) := by decide +kernel
theorem dX8_forged_57 : decode cX8_forged 57 = .ok (.bipush (-2), 2) := by decide +kernel
theorem dX8_forged_59 : decode cX8_forged 59 = .ok (.invokevirtual 84, 3) := by decide +kernel
theorem dX8_forged_62 : decode cX8_forged 62 = .ok (.ireturn, 1) := by decide +kernel
theorem dX8_left_0 : decode cX8_left 0 = .ok (.aload_n 0, 1) := by decide +kernel
theorem dX8_left_1 : decode cX8_left 1 = .ok (.getfield 30, 3) := by decide +kernel
theorem dX8_left_4 : decode cX8_left 4 = .ok (.iload_n 1, 1) := by decide +kernel
theorem dX8_left_5 : decode cX8_left 5 = .ok (.invokevirtual 143, 3) := by decide +kernel
theorem dX8_left_8 : decode cX8_left 8 = .ok (.ifCond .ne 9, 3) := by decide +kernel
theorem dX8_left_11 : decode cX8_left 11 = .ok (.aload_n 0, 1) := by decide +kernel
theorem dX8_left_12 : decode cX8_left 12 = .ok (.iconst 1, 1) := by decide +kernel
theorem dX8_left_13 : decode cX8_left 13 = .ok (.invokevirtual 67, 3) := by decide +kernel
theorem dX8_left_16 : decode cX8_left 16 = .ok (.ireturn, 1) := by decide +kernel
theorem dX8_left_17 : decode cX8_left 17 = .ok (.aload_n 0, 1) := by decide +kernel
theorem dX8_left_18 : decode cX8_left 18 = .ok (.aload_n 0, 1) := by decide +kernel
theorem dX8_left_19 : decode cX8_left 19 = .ok (.getfield 30, 3) := by decide +kernel
theorem dX8_left_22 : decode cX8_left 22 = .ok (.iload_n 1, 1) := by decide +kernel
theorem dX8_left_23 : decode cX8_left 23 = .ok (.invokevirtual 164, 3) := by decide +kernel
theorem dX8_left_26 : decode cX8_left 26 = .ok (.invokestatic 167, 3) := by decide +kernel
theorem dX8_left_29 : decode cX8_left 29 = .ok (.invokevirtual 84, 3) := by decide +kernel
theorem dX8_left_32 : decode cX8_left 32 = .ok (.ireturn, 1) := by decide +kernel
theorem dX8_before_0 : decode cX8_before 0 = .ok (.aload_n 0, 1) := by decide +kernel
theorem dX8_before_1 : decode cX8_before 1 = .ok (.iload_n 1, 1) := by decide +kernel
theorem dX8_before_2 : decode cX8_before 2 = .ok (.iload_n 2, 1) := by decide +kernel
theorem dX8_before_3 : decode cX8_before 3 = .ok (.invokevirtual 172, 3) := by decide +kernel
theorem dX8_before_6 : decode cX8_before 6 = .ok (.ifCond .ne 9, 3) := by decide +kernel
theorem dX8_before_9 : decode cX8_before 9 = .ok (.aload_n 0, 1) := by decide +kernel
theorem dX8_before_10 : decode cX8_before 10 = .ok (.iconst 1, 1) := by decide +kernel
theorem dX8_before_11 : decode cX8_before 11 = .ok (.invokevirtual 67, 3) := by decide +kernel
theorem dX8_before_14 : decode cX8_before 14 = .ok (.ireturn, 1) := by decide +kernel
theorem dX8_before_15 : decode cX8_before 15 = .ok (.aload_n 0, 1) := by decide +kernel
theorem dX8_before_16 : decode cX8_before 16 = .ok (.getfield 48, 3) := by decide +kernel
theorem dX8_before_19 : decode cX8_before 19 = .ok (.aload_n 0, 1) := by decide +kernel
theorem dX8_before_20 : decode cX8_before 20 = .ok (.getfield 30, 3) := by decide +kernel
theorem dX8_before_23 : decode cX8_before 23 = .ok (.invokevirtual 175, 3) := by decide +kernel
theorem dX8_before_26 : decode cX8_before 26 = .ok (.aload_n 0, 1) := by decide +kernel
theorem dX8_before_27 : decode cX8_before 27 = .ok (.aload_n 0, 1) := by decide +kernel
theorem dX8_before_28 : decode cX8_before 28 = .ok (.getfield 48, 3) := by decide +kernel
theorem dX8_before_31 : decode cX8_before 31 = .ok (.iload_n 1, 1) := by decide +kernel
theorem dX8_before_32 : decode cX8_before 32 = .ok (.iload_n 2, 1) := by decide +kernel
theorem dX8_before_33 : decode cX8_before 33 = .ok (.invokevirtual 179, 3) := by decide +kernel
theorem dX8_before_36 : decode cX8_before 36 = .ok (.ifCond .eq 7, 3) := by decide +kernel
theorem dX8_before_39 : decode cX8_before 39 = .ok (.iconst 1, 1) := by decide +kernel
theorem dX8_before_40 : decode cX8_before 40 = .ok (.goto 4, 3) := by decide +kernel
theorem dX8_before_43 : decode cX8_before 43 = .ok (.iconst 0, 1) := by decide +kernel
theorem dX8_before_44 : decode cX8_before 44 = .ok (.invokevirtual 84, 3) := by decide +kernel
theorem dX8_before_47 : decode cX8_before 47 = .ok (.ireturn, 1) := by decide +kernel
theorem dX8_untold_0 : decode cX8_untold 0 = .ok (.aload_n 0, 1) := by decide +kernel
theorem dX8_untold_1 : decode cX8_untold 1 = .ok (.getfield 23, 3) := by decide +kernel
theorem dX8_untold_4 : decode cX8_untold 4 = .ok (.invokevirtual 133, 3) := by decide +kernel
theorem dX8_untold_7 : decode cX8_untold 7 = .ok (.ifCond .ne 9, 3) := by decide +kernel
theorem dX8_untold_10 : decode cX8_untold 10 = .ok (.aload_n 0, 1) := by decide +kernel
theorem dX8_untold_11 : decode cX8_untold 11 = .ok (.iconst 1, 1) := by decide +kernel
theorem dX8_untold_12 : decode cX8_untold 12 = .ok (.invokevirtual 67, 3) := by decide +kernel
theorem dX8_untold_15 : decode cX8_untold 15 = .ok (.ireturn, 1) := by decide +kernel
theorem dX8_untold_16 : decode cX8_untold 16 = .ok (.aload_n 0, 1) := by decide +kernel
theorem dX8_untold_17 : decode cX8_untold 17 = .ok (.getfield 48, 3) := by decide +kernel
theorem dX8_untold_20 : decode cX8_untold 20 = .ok (.aload_n 0, 1) := by decide +kernel
theorem dX8_untold_21 : decode cX8_untold 21 = .ok (.getfield 30, 3) := by decide +kernel
theorem dX8_untold_24 : decode cX8_untold 24 = .ok (.invokevirtual 175, 3) := by decide +kernel
theorem dX8_untold_27 : decode cX8_untold 27 = .ok (.aload_n 0, 1) := by decide +kernel
theorem dX8_untold_28 : decode cX8_untold 28 = .ok (.aload_n 0, 1) := by decide +kernel
theorem dX8_untold_29 : decode cX8_untold 29 = .ok (.getfield 48, 3) := by decide +kernel
theorem dX8_untold_32 : decode cX8_untold 32 = .ok (.invokevirtual 182, 3) := by decide +kernel
theorem dX8_untold_35 : decode cX8_untold 35 = .ok (.invokevirtual 84, 3) := by decide +kernel
theorem dX8_untold_38 : decode cX8_untold 38 = .ok (.ireturn, 1) := by decide +kernel
theorem dX8_orders_0 : decode cX8_orders 0 = .ok (.aload_n 0, 1) := by decide +kernel
theorem dX8_orders_1 : decode cX8_orders 1 = .ok (.getfield 23, 3) := by decide +kernel
theorem dX8_orders_4 : decode cX8_orders 4 = .ok (.invokevirtual 133, 3) := by decide +kernel
theorem dX8_orders_7 : decode cX8_orders 7 = .ok (.ifCond .ne 10, 3) := by decide +kernel
theorem dX8_orders_10 : decode cX8_orders 10 = .ok (.aload_n 0, 1) := by decide +kernel
theorem dX8_orders_11 : decode cX8_orders 11 = .ok (.iconst 1, 1) := by decide +kernel
theorem dX8_orders_12 : decode cX8_orders 12 = .ok (.invokevirtual 67, 3) := by decide +kernel
theorem dX8_orders_15 : decode cX8_orders 15 = .ok (.i2l, 1) := by decide +kernel
theorem dX8_orders_16 : decode cX8_orders 16 = .ok (.lreturn, 1) := by decide +kernel
theorem dX8_orders_17 : decode cX8_orders 17 = .ok (.aload_n 0, 1) := by decide +kernel
theorem dX8_orders_18 : decode cX8_orders 18 = .ok (.getfield 48, 3) := by decide +kernel
theorem dX8_orders_21 : decode cX8_orders 21 = .ok (.aload_n 0, 1) := by decide +kernel
theorem dX8_orders_22 : decode cX8_orders 22 = .ok (.getfield 30, 3) := by decide +kernel
theorem dX8_orders_25 : decode cX8_orders 25 = .ok (.invokevirtual 175, 3) := by decide +kernel
theorem dX8_orders_28 : decode cX8_orders 28 = .ok (.aload_n 0, 1) := by decide +kernel
theorem dX8_orders_29 : decode cX8_orders 29 = .ok (.iconst 0, 1) := by decide +kernel
theorem dX8_orders_30 : decode cX8_orders 30 = .ok (.putfield 87, 3) := by decide +kernel
theorem dX8_orders_33 : decode cX8_orders 33 = .ok (.aload_n 0, 1) := by decide +kernel
theorem dX8_orders_34 : decode cX8_orders 34 = .ok (.getfield 48, 3) := by decide +kernel
theorem dX8_orders_37 : decode cX8_orders 37 = .ok (.iconst (-1), 1) := by decide +kernel
theorem dX8_orders_38 : decode cX8_orders 38 = .ok (.iconst (-1), 1) := by decide +kernel
theorem dX8_orders_39 : decode cX8_orders 39 = .ok (.invokevirtual 185, 3) := by decide +kernel
theorem dX8_orders_42 : decode cX8_orders 42 = .ok (.lreturn, 1) := by decide +kernel
theorem dX8_placed_0 : decode cX8_placed 0 = .ok (.aload_n 0, 1) := by decide +kernel
theorem dX8_placed_1 : decode cX8_placed 1 = .ok (.getfield 30, 3) := by decide +kernel
theorem dX8_placed_4 : decode cX8_placed 4 = .ok (.iload_n 1, 1) := by decide +kernel
theorem dX8_placed_5 : decode cX8_placed 5 = .ok (.invokevirtual 143, 3) := by decide +kernel
theorem dX8_placed_8 : decode cX8_placed 8 = .ok (.ifCond .ne 9, 3) := by decide +kernel
theorem dX8_placed_11 : decode cX8_placed 11 = .ok (.aload_n 0, 1) := by decide +kernel
theorem dX8_placed_12 : decode cX8_placed 12 = .ok (.iconst 1, 1) := by decide +kernel
theorem dX8_placed_13 : decode cX8_placed 13 = .ok (.invokevirtual 67, 3) := by decide +kernel
theorem dX8_placed_16 : decode cX8_placed 16 = .ok (.ireturn, 1) := by decide +kernel
theorem dX8_placed_17 : decode cX8_placed 17 = .ok (.aload_n 0, 1) := by decide +kernel
theorem dX8_placed_18 : decode cX8_placed 18 = .ok (.getfield 48, 3) := by decide +kernel
theorem dX8_placed_21 : decode cX8_placed 21 = .ok (.aload_n 0, 1) := by decide +kernel
theorem dX8_placed_22 : decode cX8_placed 22 = .ok (.getfield 30, 3) := by decide +kernel
theorem dX8_placed_25 : decode cX8_placed 25 = .ok (.invokevirtual 175, 3) := by decide +kernel
theorem dX8_placed_28 : decode cX8_placed 28 = .ok (.aload_n 0, 1) := by decide +kernel
theorem dX8_placed_29 : decode cX8_placed 29 = .ok (.iload_n 2, 1) := by decide +kernel
theorem dX8_placed_30 : decode cX8_placed 30 = .ok (.ifCond .eq 14, 3) := by decide +kernel
theorem dX8_placed_33 : decode cX8_placed 33 = .ok (.aload_n 0, 1) := by decide +kernel
theorem dX8_placed_34 : decode cX8_placed 34 = .ok (.getfield 48, 3) := by decide +kernel
theorem dX8_placed_37 : decode cX8_placed 37 = .ok (.iload_n 1, 1) := by decide +kernel
theorem dX8_placed_38 : decode cX8_placed 38 = .ok (.invokevirtual 189, 3) := by decide +kernel
theorem dX8_placed_41 : decode cX8_placed 41 = .ok (.goto 11, 3) := by decide +kernel
theorem dX8_placed_44 : decode cX8_placed 44 = .ok (.aload_n 0, 1) := by decide +kernel
theorem dX8_placed_45 : decode cX8_placed 45 = .ok (.getfield 48, 3) := by decide +kernel
theorem dX8_placed_48 : decode cX8_placed 48 = .ok (.iload_n 1, 1) := by decide +kernel
theorem dX8_placed_49 : decode cX8_placed 49 = .ok (.invokevirtual 192, 3) := by decide +kernel
theorem dX8_placed_52 : decode cX8_placed 52 = .ok (.invokevirtual 84, 3) := by decide +kernel
theorem dX8_placed_55 : decode cX8_placed 55 = .ok (.ireturn, 1) := by decide +kernel
theorem dX8_ahead_0 : decode cX8_ahead 0 = .ok (.aload_n 0, 1) := by decide +kernel
theorem dX8_ahead_1 : decode cX8_ahead 1 = .ok (.iload_n 1, 1) := by decide +kernel
theorem dX8_ahead_2 : decode cX8_ahead 2 = .ok (.iload_n 2, 1) := by decide +kernel
theorem dX8_ahead_3 : decode cX8_ahead 3 = .ok (.invokevirtual 172, 3) := by decide +kernel
theorem dX8_ahead_6 : decode cX8_ahead 6 = .ok (.ifCond .ne 10, 3) := by decide +kernel
theorem dX8_ahead_9 : decode cX8_ahead 9 = .ok (.aload_n 0, 1) := by decide +kernel
theorem dX8_ahead_10 : decode cX8_ahead 10 = .ok (.iconst 1, 1) := by decide +kernel
theorem dX8_ahead_11 : decode cX8_ahead 11 = .ok (.invokevirtual 67, 3) := by decide +kernel
theorem dX8_ahead_14 : decode cX8_ahead 14 = .ok (.i2l, 1) := by decide +kernel
theorem dX8_ahead_15 : decode cX8_ahead 15 = .ok (.lreturn, 1) := by decide +kernel
theorem dX8_ahead_16 : decode cX8_ahead 16 = .ok (.aload_n 0, 1) := by decide +kernel
theorem dX8_ahead_17 : decode cX8_ahead 17 = .ok (.getfield 48, 3) := by decide +kernel
theorem dX8_ahead_20 : decode cX8_ahead 20 = .ok (.aload_n 0, 1) := by decide +kernel
theorem dX8_ahead_21 : decode cX8_ahead 21 = .ok (.getfield 30, 3) := by decide +kernel
theorem dX8_ahead_24 : decode cX8_ahead 24 = .ok (.invokevirtual 175, 3) := by decide +kernel
theorem dX8_ahead_27 : decode cX8_ahead 27 = .ok (.aload_n 0, 1) := by decide +kernel
theorem dX8_ahead_28 : decode cX8_ahead 28 = .ok (.iconst 0, 1) := by decide +kernel
theorem dX8_ahead_29 : decode cX8_ahead 29 = .ok (.putfield 87, 3) := by decide +kernel
theorem dX8_ahead_32 : decode cX8_ahead 32 = .ok (.aload_n 0, 1) := by decide +kernel
theorem dX8_ahead_33 : decode cX8_ahead 33 = .ok (.getfield 48, 3) := by decide +kernel
theorem dX8_ahead_36 : decode cX8_ahead 36 = .ok (.iload_n 1, 1) := by decide +kernel
theorem dX8_ahead_37 : decode cX8_ahead 37 = .ok (.iload_n 2, 1) := by decide +kernel
theorem dX8_ahead_38 : decode cX8_ahead 38 = .ok (.invokevirtual 185, 3) := by decide +kernel
theorem dX8_ahead_41 : decode cX8_ahead 41 = .ok (.lreturn, 1) := by decide +kernel
theorem dX8_wanted_0 : decode cX8_wanted 0 = .ok (.aload_n 0, 1) := by decide +kernel
theorem dX8_wanted_1 : decode cX8_wanted 1 = .ok (.getfield 23, 3) := by decide +kernel
theorem dX8_wanted_4 : decode cX8_wanted 4 = .ok (.iload_n 1, 1) := by decide +kernel
theorem dX8_wanted_5 : decode cX8_wanted 5 = .ok (.iload_n 2, 1) := by decide +kernel
theorem dX8_wanted_6 : decode cX8_wanted 6 = .ok (.invokevirtual 93, 3) := by decide +kernel
theorem dX8_wanted_9 : decode cX8_wanted 9 = .ok (.ifCond .ne 9, 3) := by decide +kernel
theorem dX8_wanted_12 : decode cX8_wanted 12 = .ok (.aload_n 0, 1) := by decide +kernel
theorem dX8_wanted_13 : decode cX8_wanted 13 = .ok (.iconst 1, 1) := by decide +kernel
theorem dX8_wanted_14 : decode cX8_wanted 14 = .ok (.invokevirtual 67, 3) := by decide +kernel
theorem dX8_wanted_17 : decode cX8_wanted 17 = .ok (.ireturn, 1) := by decide +kernel
theorem dX8_wanted_18 : decode cX8_wanted 18 = .ok (.aload_n 0, 1) := by decide +kernel
theorem dX8_wanted_19 : decode cX8_wanted 19 = .ok (.aload_n 0, 1) := by decide +kernel
theorem dX8_wanted_20 : decode cX8_wanted 20 = .ok (.getfield 23, 3) := by decide +kernel
theorem dX8_wanted_23 : decode cX8_wanted 23 = .ok (.aload_n 0, 1) := by decide +kernel
theorem dX8_wanted_24 : decode cX8_wanted 24 = .ok (.getfield 23, 3) := by decide +kernel
theorem dX8_wanted_27 : decode cX8_wanted 27 = .ok (.iload_n 1, 1) := by decide +kernel
theorem dX8_wanted_28 : decode cX8_wanted 28 = .ok (.iload_n 2, 1) := by decide +kernel
theorem dX8_wanted_29 : decode cX8_wanted 29 = .ok (.invokevirtual 97, 3) := by decide +kernel
theorem dX8_wanted_32 : decode cX8_wanted 32 = .ok (.invokevirtual 195, 3) := by decide +kernel
theorem dX8_wanted_35 : decode cX8_wanted 35 = .ok (.invokevirtual 84, 3) := by decide +kernel
theorem dX8_wanted_38 : decode cX8_wanted 38 = .ok (.ireturn, 1) := by decide +kernel
theorem dX8_alike_0 : decode cX8_alike 0 = .ok (.aload_n 0, 1) := by decide +kernel
theorem dX8_alike_1 : decode cX8_alike 1 = .ok (.getfield 23, 3) := by decide +kernel
theorem dX8_alike_4 : decode cX8_alike 4 = .ok (.invokevirtual 133, 3) := by decide +kernel
theorem dX8_alike_7 : decode cX8_alike 7 = .ok (.ifCond .ne 9, 3) := by decide +kernel
theorem dX8_alike_10 : decode cX8_alike 10 = .ok (.aload_n 0, 1) := by decide +kernel
theorem dX8_alike_11 : decode cX8_alike 11 = .ok (.iconst 1, 1) := by decide +kernel
theorem dX8_alike_12 : decode cX8_alike 12 = .ok (.invokevirtual 67, 3) := by decide +kernel
theorem dX8_alike_15 : decode cX8_alike 15 = .ok (.ireturn, 1) := by decide +kernel
theorem dX8_alike_16 : decode cX8_alike 16 = .ok (.aload_n 0, 1) := by decide +kernel
theorem dX8_alike_17 : decode cX8_alike 17 = .ok (.aload_n 0, 1) := by decide +kernel
theorem dX8_alike_18 : decode cX8_alike 18 = .ok (.getfield 23, 3) := by decide +kernel
theorem dX8_alike_21 : decode cX8_alike 21 = .ok (.aload_n 0, 1) := by decide +kernel
theorem dX8_alike_22 : decode cX8_alike 22 = .ok (.getfield 30, 3) := by decide +kernel
theorem dX8_alike_25 : decode cX8_alike 25 = .ok (.invokestatic 198, 3) := by decide +kernel
theorem dX8_alike_28 : decode cX8_alike 28 = .ok (.invokestatic 167, 3) := by decide +kernel
theorem dX8_alike_31 : decode cX8_alike 31 = .ok (.invokevirtual 84, 3) := by decide +kernel
theorem dX8_alike_34 : decode cX8_alike 34 = .ok (.ireturn, 1) := by decide +kernel
theorem dX8_best_0 : decode cX8_best 0 = .ok (.aload_n 0, 1) := by decide +kernel
theorem dX8_best_1 : decode cX8_best 1 = .ok (.getfield 23, 3) := by decide +kernel
theorem dX8_best_4 : decode cX8_best 4 = .ok (.invokevirtual 133, 3) := by decide +kernel
theorem dX8_best_7 : decode cX8_best 7 = .ok (.ifCond .eq 12, 3) := by decide +kernel
theorem dX8_best_10 : decode cX8_best 10 = .ok (.iload_n 2, 1) := by decide +kernel
theorem dX8_best_11 : decode cX8_best 11 = .ok (.ifCond .lt 8, 3) := by decide +kernel
theorem dX8_best_14 : decode cX8_best 14 = .ok (.iload_n 2, 1) := by decide +kernel
theorem dX8_best_15 : decode cX8_best 15 = .ok (.iconst 2, 1) := by decide +kernel
theorem dX8_best_16 : decode cX8_best 16 = .ok (.if_icmp .le 9, 3) := by decide +kernel
theorem dX8_best_19 : decode cX8_best 19 = .ok (.aload_n 0, 1) := by decide +kernel
theorem dX8_best_20 : decode cX8_best 20 = .ok (.iconst 1, 1) := by decide +kernel
theorem dX8_best_21 : decode cX8_best 21 = .ok (.invokevirtual 67, 3) := by decide +kernel
theorem dX8_best_24 : decode cX8_best 24 = .ok (.ireturn, 1) := by decide +kernel
theorem dX8_best_25 : decode cX8_best 25 = .ok (.aload_n 0, 1) := by decide +kernel
theorem dX8_best_26 : decode cX8_best 26 = .ok (.iload_n 1, 1) := by decide +kernel
theorem dX8_best_27 : decode cX8_best 27 = .ok (.invokevirtual 202, 3) := by decide +kernel
theorem dX8_best_30 : decode cX8_best 30 = .ok (.ifCond .ne 5, 3) := by decide +kernel
theorem dX8_best_33 : decode cX8_best 33 = .ok (.iconst (-1), 1) := by decide +kernel
theorem dX8_best_34 : decode cX8_best 34 = .ok (.ireturn, 1) := by decide +kernel
theorem dX8_best_35 : decode cX8_best 35 = .ok (.aload_n 0, 1) := by decide +kernel
theorem dX8_best_36 : decode cX8_best 36 = .ok (.getfield 55, 3) := by decide +kernel
theorem dX8_best_39 : decode cX8_best 39 = .ok (.invokevirtual 205, 3) := by decide +kernel
theorem dX8_best_42 : decode cX8_best 42 = .ok (.istore_n 3, 1) := by decide +kernel
theorem dX8_best_43 : decode cX8_best 43 = .ok (.iload_n 2, 1) := by decide +kernel
theorem dX8_best_44 : decode cX8_best 44 = .ok (.ifCond .ne 16, 3) := by decide +kernel
theorem dX8_best_47 : decode cX8_best 47 = .ok (.aload_n 0, 1) := by decide +kernel
theorem dX8_best_48 : decode cX8_best 48 = .ok (.aload_n 0, 1) := by decide +kernel
theorem dX8_best_49 : decode cX8_best 49 = .ok (.getfield 55, 3) := by decide +kernel
theorem dX8_best_52 : decode cX8_best 52 = .ok (.iload_n 3, 1) := by decide +kernel
theorem dX8_best_53 : decode cX8_best 53 = .ok (.invokevirtual 208, 3) := by decide +kernel
theorem dX8_best_56 : decode cX8_best 56 = .ok (.invokevirtual 84, 3) := by decide +kernel
theorem dX8_best_59 : decode cX8_best 59 = .ok (.ireturn, 1) := by decide +kernel
theorem dX8_best_60 : decode cX8_best 60 = .ok (.aload_n 0, 1) := by decide +kernel
theorem dX8_best_61 : decode cX8_best 61 = .ok (.iload_n 2, 1) := by decide +kernel
theorem dX8_best_62 : decode cX8_best 62 = .ok (.iconst 1, 1) := by decide +kernel
theorem dX8_best_63 : decode cX8_best 63 = .ok (.if_icmp .ne 10, 3) := by decide +kernel
theorem dX8_best_66 : decode cX8_best 66 = .ok (.iload_n 3, 1) := by decide +kernel
theorem dX8_best_67 : decode cX8_best 67 = .ok (.invokestatic 167, 3) := by decide +kernel
theorem dX8_best_70 : decode cX8_best 70 = .ok (.goto 4, 3) := by decide +kernel
theorem dX8_best_73 : decode cX8_best 73 = .ok (.iload_n 3, 1) := by decide +kernel
theorem dX8_best_74 : decode cX8_best 74 = .ok (.invokevirtual 84, 3) := by decide +kernel
theorem dX8_best_77 : decode cX8_best 77 = .ok (.ireturn, 1) := by decide +kernel
theorem dX8_need_0 : decode cX8_need 0 = .ok (.aload_n 0, 1) := by decide +kernel
theorem dX8_need_1 : decode cX8_need 1 = .ok (.getfield 23, 3) := by decide +kernel
theorem dX8_need_4 : decode cX8_need 4 = .ok (.invokevirtual 133, 3) := by decide +kernel
theorem dX8_need_7 : decode cX8_need 7 = .ok (.ifCond .ne 9, 3) := by decide +kernel
theorem dX8_need_10 : decode cX8_need 10 = .ok (.aload_n 0, 1) := by decide +kernel
theorem dX8_need_11 : decode cX8_need 11 = .ok (.iconst 1, 1) := by decide +kernel
theorem dX8_need_12 : decode cX8_need 12 = .ok (.invokevirtual 67, 3) := by decide +kernel
theorem dX8_need_15 : decode cX8_need 15 = .ok (.ireturn, 1) := by decide +kernel
theorem dX8_need_16 : decode cX8_need 16 = .ok (.aload_n 0, 1) := by decide +kernel
theorem dX8_need_17 : decode cX8_need 17 = .ok (.iload_n 1, 1) := by decide +kernel
theorem dX8_need_18 : decode cX8_need 18 = .ok (.invokevirtual 202, 3) := by decide +kernel
theorem dX8_need_21 : decode cX8_need 21 = .ok (.ifCond .ne 5, 3) := by decide +kernel
theorem dX8_need_24 : decode cX8_need 24 = .ok (.iconst (-1), 1) := by decide +kernel
theorem dX8_need_25 : decode cX8_need 25 = .ok (.ireturn, 1) := by decide +kernel
theorem dX8_need_26 : decode cX8_need 26 = .ok (.aload_n 0, 1) := by decide +kernel
theorem dX8_need_27 : decode cX8_need 27 = .ok (.aload_n 0, 1) := by decide +kernel
theorem dX8_need_28 : decode cX8_need 28 = .ok (.getfield 55, 3) := by decide +kernel
theorem dX8_need_31 : decode cX8_need 31 = .ok (.invokevirtual 211, 3) := by decide +kernel
theorem dX8_need_34 : decode cX8_need 34 = .ok (.invokevirtual 84, 3) := by decide +kernel
theorem dX8_need_37 : decode cX8_need 37 = .ok (.ireturn, 1) := by decide +kernel
theorem dX8_step_0 : decode cX8_step 0 = .ok (.aload_n 0, 1) := by decide +kernel
theorem dX8_step_1 : decode cX8_step 1 = .ok (.getfield 23, 3) := by decide +kernel
theorem dX8_step_4 : decode cX8_step 4 = .ok (.invokevirtual 133, 3) := by decide +kernel
theorem dX8_step_7 : decode cX8_step 7 = .ok (.ifCond .eq 7, 3) := by decide +kernel
theorem dX8_step_10 : decode cX8_step 10 = .ok (.iload_n 2, 1) := by decide +kernel
theorem dX8_step_11 : decode cX8_step 11 = .ok (.ifCond .ge 9, 3) := by decide +kernel
theorem dX8_step_14 : decode cX8_step 14 = .ok (.aload_n 0, 1) := by decide +kernel
theorem dX8_step_15 : decode cX8_step 15 = .ok (.iconst 1, 1) := by decide +kernel
theorem dX8_step_16 : decode cX8_step 16 = .ok (.invokevirtual 67, 3) := by decide +kernel
theorem dX8_step_19 : decode cX8_step 19 = .ok (.ireturn, 1) := by decide +kernel
theorem dX8_step_20 : decode cX8_step 20 = .ok (.aload_n 0, 1) := by decide +kernel
theorem dX8_step_21 : decode cX8_step 21 = .ok (.iload_n 1, 1) := by decide +kernel
theorem dX8_step_22 : decode cX8_step 22 = .ok (.invokevirtual 202, 3) := by decide +kernel
theorem dX8_step_25 : decode cX8_step 25 = .ok (.ifCond .ne 5, 3) := by decide +kernel
theorem dX8_step_28 : decode cX8_step 28 = .ok (.iconst (-1), 1) := by decide +kernel
theorem dX8_step_29 : decode cX8_step 29 = .ok (.ireturn, 1) := by decide +kernel
theorem dX8_step_30 : decode cX8_step 30 = .ok (.aload_n 0, 1) := by decide +kernel
theorem dX8_step_31 : decode cX8_step 31 = .ok (.getfield 55, 3) := by decide +kernel
theorem dX8_step_34 : decode cX8_step 34 = .ok (.invokevirtual 211, 3) := by decide +kernel
theorem dX8_step_37 : decode cX8_step 37 = .ok (.istore_n 3, 1) := by decide +kernel
theorem dX8_step_38 : decode cX8_step 38 = .ok (.iload_n 3, 1) := by decide +kernel
theorem dX8_step_39 : decode cX8_step 39 = .ok (.ifCond .ge 10, 3) := by decide +kernel
theorem dX8_step_42 : decode cX8_step 42 = .ok (.aload_n 0, 1) := by decide +kernel
theorem dX8_step_43 : decode cX8_step 43 = .ok (.bipush 6, 2) := by decide +kernel
theorem dX8_step_45 : decode cX8_step 45 = .ok (.invokevirtual 67, 3) := by decide +kernel
theorem dX8_step_48 : decode cX8_step 48 = .ok (.ireturn, 1) := by decide +kernel
theorem dX8_step_49 : decode cX8_step 49 = .ok (.iload_n 2, 1) := by decide +kernel
theorem dX8_step_50 : decode cX8_step 50 = .ok (.iload_n 3, 1) := by decide +kernel
theorem dX8_step_51 : decode cX8_step 51 = .ok (.if_icmp .lt 9, 3) := by decide +kernel
theorem dX8_step_54 : decode cX8_step 54 = .ok (.aload_n 0, 1) := by decide +kernel
theorem dX8_step_55 : decode cX8_step 55 = .ok (.iconst 1, 1) := by decide +kernel
theorem dX8_step_56 : decode cX8_step 56 = .ok (.invokevirtual 67, 3) := by decide +kernel
theorem dX8_step_59 : decode cX8_step 59 = .ok (.ireturn, 1) := by decide +kernel
theorem dX8_step_60 : decode cX8_step 60 = .ok (.aload_n 0, 1) := by decide +kernel
theorem dX8_step_61 : decode cX8_step 61 = .ok (.aload_n 0, 1) := by decide +kernel
theorem dX8_step_62 : decode cX8_step 62 = .ok (.getfield 55, 3) := by decide +kernel
theorem dX8_step_65 : decode cX8_step 65 = .ok (.iload_n 2, 1) := by decide +kernel
theorem dX8_step_66 : decode cX8_step 66 = .ok (.invokevirtual 214, 3) := by decide +kernel
theorem dX8_step_69 : decode cX8_step 69 = .ok (.invokevirtual 84, 3) := by decide +kernel
theorem dX8_step_72 : decode cX8_step 72 = .ok (.ireturn, 1) := by decide +kernel
theorem dX8_reach_0 : decode cX8_reach 0 = .ok (.aload_n 0, 1) := by decide +kernel
theorem dX8_reach_1 : decode cX8_reach 1 = .ok (.getfield 23, 3) := by decide +kernel
theorem dX8_reach_4 : decode cX8_reach 4 = .ok (.invokevirtual 133, 3) := by decide +kernel
theorem dX8_reach_7 : decode cX8_reach 7 = .ok (.ifCond .ne 9, 3) := by decide +kernel
theorem dX8_reach_10 : decode cX8_reach 10 = .ok (.aload_n 0, 1) := by decide +kernel
theorem dX8_reach_11 : decode cX8_reach 11 = .ok (.iconst 1, 1) := by decide +kernel
theorem dX8_reach_12 : decode cX8_reach 12 = .ok (.invokevirtual 67, 3) := by decide +kernel
theorem dX8_reach_15 : decode cX8_reach 15 = .ok (.ireturn, 1) := by decide +kernel
theorem dX8_reach_16 : decode cX8_reach 16 = .ok (.aload_n 0, 1) := by decide +kernel
theorem dX8_reach_17 : decode cX8_reach 17 = .ok (.iload_n 1, 1) := by decide +kernel
theorem dX8_reach_18 : decode cX8_reach 18 = .ok (.invokevirtual 202, 3) := by decide +kernel
theorem dX8_reach_21 : decode cX8_reach 21 = .ok (.ifCond .ne 5, 3) := by decide +kernel
theorem dX8_reach_24 : decode cX8_reach 24 = .ok (.iconst (-1), 1) := by decide +kernel
theorem dX8_reach_25 : decode cX8_reach 25 = .ok (.ireturn, 1) := by decide +kernel
theorem dX8_reach_26 : decode cX8_reach 26 = .ok (.aload_n 0, 1) := by decide +kernel
theorem dX8_reach_27 : decode cX8_reach 27 = .ok (.aload_n 0, 1) := by decide +kernel
theorem dX8_reach_28 : decode cX8_reach 28 = .ok (.getfield 55, 3) := by decide +kernel
theorem dX8_reach_31 : decode cX8_reach 31 = .ok (.invokevirtual 217, 3) := by decide +kernel
theorem dX8_reach_34 : decode cX8_reach 34 = .ok (.invokevirtual 84, 3) := by decide +kernel
theorem dX8_reach_37 : decode cX8_reach 37 = .ok (.ireturn, 1) := by decide +kernel
theorem dX8_least_0 : decode cX8_least 0 = .ok (.aload_n 0, 1) := by decide +kernel
theorem dX8_least_1 : decode cX8_least 1 = .ok (.getfield 30, 3) := by decide +kernel
theorem dX8_least_4 : decode cX8_least 4 = .ok (.iload_n 1, 1) := by decide +kernel
theorem dX8_least_5 : decode cX8_least 5 = .ok (.invokevirtual 143, 3) := by decide +kernel
theorem dX8_least_8 : decode cX8_least 8 = .ok (.ifCond .ne 9, 3) := by decide +kernel
theorem dX8_least_11 : decode cX8_least 11 = .ok (.aload_n 0, 1) := by decide +kernel
theorem dX8_least_12 : decode cX8_least 12 = .ok (.iconst 1, 1) := by decide +kernel
theorem dX8_least_13 : decode cX8_least 13 = .ok (.invokevirtual 67, 3) := by decide +kernel
theorem dX8_least_16 : decode cX8_least 16 = .ok (.ireturn, 1) := by decide +kernel
theorem dX8_least_17 : decode cX8_least 17 = .ok (.aload_n 0, 1) := by decide +kernel
theorem dX8_least_18 : decode cX8_least 18 = .ok (.iload_n 2, 1) := by decide +kernel
theorem dX8_least_19 : decode cX8_least 19 = .ok (.invokevirtual 202, 3) := by decide +kernel
theorem dX8_least_22 : decode cX8_least 22 = .ok (.ifCond .ne 5, 3) := by decide +kernel
theorem dX8_least_25 : decode cX8_least 25 = .ok (.iconst (-1), 1) := by decide +kernel
theorem dX8_least_26 : decode cX8_least 26 = .ok (.ireturn, 1) := by decide +kernel
theorem dX8_least_27 : decode cX8_least 27 = .ok (.aload_n 0, 1) := by decide +kernel
theorem dX8_least_28 : decode cX8_least 28 = .ok (.aload_n 0, 1) := by decide +kernel
theorem dX8_least_29 : decode cX8_least 29 = .ok (.getfield 55, 3) := by decide +kernel
theorem dX8_least_32 : decode cX8_least 32 = .ok (.aload_n 0, 1) := by decide +kernel
theorem dX8_least_33 : decode cX8_least 33 = .ok (.getfield 30, 3) := by decide +kernel
theorem dX8_least_36 : decode cX8_least 36 = .ok (.iload_n 1, 1) := by decide +kernel
theorem dX8_least_37 : decode cX8_least 37 = .ok (.invokevirtual 164, 3) := by decide +kernel
theorem dX8_least_40 : decode cX8_least 40 = .ok (.invokevirtual 220, 3) := by decide +kernel
theorem dX8_least_43 : decode cX8_least 43 = .ok (.invokevirtual 84, 3) := by decide +kernel
theorem dX8_least_46 : decode cX8_least 46 = .ok (.ireturn, 1) := by decide +kernel
theorem dX8_freed_0 : decode cX8_freed 0 = .ok (.iload_n 1, 1) := by decide +kernel
theorem dX8_freed_1 : decode cX8_freed 1 = .ok (.ifCond .lt 14, 3) := by decide +kernel
theorem dX8_freed_4 : decode cX8_freed 4 = .ok (.iload_n 1, 1) := by decide +kernel
theorem dX8_freed_5 : decode cX8_freed 5 = .ok (.aload_n 0, 1) := by decide +kernel
theorem dX8_freed_6 : decode cX8_freed 6 = .ok (.getfield 23, 3) := by decide +kernel
theorem dX8_freed_9 : decode cX8_freed 9 = .ok (.getfield 223, 3) := by decide +kernel
theorem dX8_freed_12 : decode cX8_freed 12 = .ok (.if_icmp .lt 9, 3) := by decide +kernel
theorem dX8_freed_15 : decode cX8_freed 15 = .ok (.aload_n 0, 1) := by decide +kernel
theorem dX8_freed_16 : decode cX8_freed 16 = .ok (.iconst 1, 1) := by decide +kernel
theorem dX8_freed_17 : decode cX8_freed 17 = .ok (.invokevirtual 67, 3) := by decide +kernel
theorem dX8_freed_20 : decode cX8_freed 20 = .ok (.ireturn, 1) := by decide +kernel
theorem dX8_freed_21 : decode cX8_freed 21 = .ok (.aload_n 0, 1) := by decide +kernel
theorem dX8_freed_22 : decode cX8_freed 22 = .ok (.iload_n 2, 1) := by decide +kernel
theorem dX8_freed_23 : decode cX8_freed 23 = .ok (.invokevirtual 202, 3) := by decide +kernel
theorem dX8_freed_26 : decode cX8_freed 26 = .ok (.ifCond .ne 5, 3) := by decide +kernel
theorem dX8_freed_29 : decode cX8_freed 29 = .ok (.iconst (-1), 1) := by decide +kernel
theorem dX8_freed_30 : decode cX8_freed 30 = .ok (.ireturn, 1) := by decide +kernel
theorem dX8_freed_31 : decode cX8_freed 31 = .ok (.aload_n 0, 1) := by decide +kernel
theorem dX8_freed_32 : decode cX8_freed 32 = .ok (.getfield 55, 3) := by decide +kernel
theorem dX8_freed_35 : decode cX8_freed 35 = .ok (.aload_n 0, 1) := by decide +kernel
theorem dX8_freed_36 : decode cX8_freed 36 = .ok (.getfield 55, 3) := by decide +kernel
theorem dX8_freed_39 : decode cX8_freed 39 = .ok (.invokevirtual 205, 3) := by decide +kernel
theorem dX8_freed_42 : decode cX8_freed 42 = .ok (.invokevirtual 208, 3) := by decide +kernel
theorem dX8_freed_45 : decode cX8_freed 45 = .ok (.istore_n 3, 1) := by decide +kernel
theorem dX8_freed_46 : decode cX8_freed 46 = .ok (.aload_n 0, 1) := by decide +kernel
theorem dX8_freed_47 : decode cX8_freed 47 = .ok (.getfield 55, 3) := by decide +kernel
theorem dX8_freed_50 : decode cX8_freed 50 = .ok (.aload_n 0, 1) := by decide +kernel
theorem dX8_freed_51 : decode cX8_freed 51 = .ok (.getfield 23, 3) := by decide +kernel
theorem dX8_freed_54 : decode cX8_freed 54 = .ok (.aload_n 0, 1) := by decide +kernel
theorem dX8_freed_55 : decode cX8_freed 55 = .ok (.getfield 30, 3) := by decide +kernel
theorem dX8_freed_58 : decode cX8_freed 58 = .ok (.iload_n 2, 1) := by decide +kernel
theorem dX8_freed_59 : decode cX8_freed 59 = .ok (.iload_n 1, 1) := by decide +kernel
theorem dX8_freed_60 : decode cX8_freed 60 = .ok (.invokevirtual 226, 3) := by decide +kernel
theorem dX8_freed_63 : decode cX8_freed 63 = .ok (.aload_n 0, 1) := by decide +kernel
theorem dX8_freed_64 : decode cX8_freed 64 = .ok (.aload_n 0, 1) := by decide +kernel
theorem dX8_freed_65 : decode cX8_freed 65 = .ok (.getfield 55, 3) := by decide +kernel
theorem dX8_freed_68 : decode cX8_freed 68 = .ok (.aload_n 0, 1) := by decide +kernel
theorem dX8_freed_69 : decode cX8_freed 69 = .ok (.getfield 55, 3) := by decide +kernel
theorem dX8_freed_72 : decode cX8_freed 72 = .ok (.invokevirtual 205, 3) := by decide +kernel
theorem dX8_freed_75 : decode cX8_freed 75 = .ok (.invokevirtual 208, 3) := by decide +kernel
theorem dX8_freed_78 : decode cX8_freed 78 = .ok (.iload_n 3, 1) := by decide +kernel
theorem dX8_freed_79 : decode cX8_freed 79 = .ok (.isub, 1) := by decide +kernel
theorem dX8_freed_80 : decode cX8_freed 80 = .ok (.invokevirtual 84, 3) := by decide +kernel
theorem dX8_freed_83 : decode cX8_freed 83 = .ok (.ireturn, 1) := by decide +kernel
theorem dX8_begin_0 : decode cX8_begin 0 = .ok (.aload_n 0, 1) := by decide +kernel
theorem dX8_begin_1 : decode cX8_begin 1 = .ok (.getfield 23, 3) := by decide +kernel
theorem dX8_begin_4 : decode cX8_begin 4 = .ok (.iload_n 1, 1) := by decide +kernel
theorem dX8_begin_5 : decode cX8_begin 5 = .ok (.invokevirtual 130, 3) := by decide +kernel
theorem dX8_begin_8 : decode cX8_begin 8 = .ok (.ifCond .ne 9, 3) := by decide +kernel
theorem dX8_begin_11 : decode cX8_begin 11 = .ok (.aload_n 0, 1) := by decide +kernel
theorem dX8_begin_12 : decode cX8_begin 12 = .ok (.iconst 1, 1) := by decide +kernel
theorem dX8_begin_13 : decode cX8_begin 13 = .ok (.invokevirtual 230, 3) := by decide +kernel
theorem dX8_begin_16 : decode cX8_begin 16 = .ok (.ireturn, 1) := by decide +kernel
theorem dX8_begin_17 : decode cX8_begin 17 = .ok (.iload_n 2, 1) := by decide +kernel
theorem dX8_begin_18 : decode cX8_begin 18 = .ok (.invokestatic 107, 3) := by decide +kernel
theorem dX8_begin_21 : decode cX8_begin 21 = .ok (.ifCond .eq 14, 3) := by decide +kernel
theorem dX8_begin_24 : decode cX8_begin 24 = .ok (.iload_n 2, 1) := by decide +kernel
theorem dX8_begin_25 : decode cX8_begin 25 = .ok (.aload_n 0, 1) := by decide +kernel
theorem dX8_begin_26 : decode cX8_begin 26 = .ok (.getfield 30, 3) := by decide +kernel
theorem dX8_begin_29 : decode cX8_begin 29 = .ok (.invokevirtual 233, 3) := by decide +kernel
theorem dX8_begin_32 : decode cX8_begin 32 = .ok (.if_icmp .ge 9, 3) := by decide +kernel
theorem dX8_begin_35 : decode cX8_begin 35 = .ok (.aload_n 0, 1) := by decide +kernel
theorem dX8_begin_36 : decode cX8_begin 36 = .ok (.iconst 2, 1) := by decide +kernel
theorem dX8_begin_37 : decode cX8_begin 37 = .ok (.invokevirtual 230, 3) := by decide +kernel
theorem dX8_begin_40 : decode cX8_begin 40 = .ok (.ireturn, 1) := by decide +kernel
theorem dX8_begin_41 : decode cX8_begin 41 = .ok (.aload_n 0, 1) := by decide +kernel
theorem dX8_begin_42 : decode cX8_begin 42 = .ok (.getfield 30, 3) := by decide +kernel
theorem dX8_begin_45 : decode cX8_begin 45 = .ok (.getfield 81, 3) := by decide +kernel
theorem dX8_begin_48 : decode cX8_begin 48 = .ok (.bipush 12, 2) := by decide +kernel
theorem dX8_begin_50 : decode cX8_begin 50 = .ok (.if_icmp .lt 9, 3) := by decide +kernel
theorem dX8_begin_53 : decode cX8_begin 53 = .ok (.aload_n 0, 1) := by decide +kernel
theorem dX8_begin_54 : decode cX8_begin 54 = .ok (.iconst 3, 1) := by decide +kernel
theorem dX8_begin_55 : decode cX8_begin 55 = .ok (.invokevirtual 230, 3) := by decide +kernel
theorem dX8_begin_58 : decode cX8_begin 58 = .ok (.ireturn, 1) := by decide +kernel
theorem dX8_begin_59 : decode cX8_begin 59 = .ok (.aload_n 0, 1) := by decide +kernel
theorem dX8_begin_60 : decode cX8_begin 60 = .ok (.getfield 30, 3) := by decide +kernel
theorem dX8_begin_63 : decode cX8_begin 63 = .ok (.getfield 236, 3) := by decide +kernel
theorem dX8_begin_66 : decode cX8_begin 66 = .ok (.ifCond .eq 9, 3) := by decide +kernel
theorem dX8_begin_69 : decode cX8_begin 69 = .ok (.aload_n 0, 1) := by decide +kernel
theorem dX8_begin_70 : decode cX8_begin 70 = .ok (.iconst 5, 1) := by decide +kernel
theorem dX8_begin_71 : decode cX8_begin 71 = .ok (.invokevirtual 230, 3) := by decide +kernel
theorem dX8_begin_74 : decode cX8_begin 74 = .ok (.ireturn, 1) := by decide +kernel
theorem dX8_begin_75 : decode cX8_begin 75 = .ok (.aload_n 0, 1) := by decide +kernel
theorem dX8_begin_76 : decode cX8_begin 76 = .ok (.getfield 37, 3) := by decide +kernel
theorem dX8_begin_79 : decode cX8_begin 79 = .ok (.aload_n 0, 1) := by decide +kernel
theorem dX8_begin_80 : decode cX8_begin 80 = .ok (.getfield 30, 3) := by decide +kernel
theorem dX8_begin_83 : decode cX8_begin 83 = .ok (.invokevirtual 240, 3) := by decide +kernel
theorem dX8_begin_86 : decode cX8_begin 86 = .ok (.aload_n 0, 1) := by decide +kernel
theorem dX8_begin_87 : decode cX8_begin 87 = .ok (.getfield 30, 3) := by decide +kernel
theorem dX8_begin_90 : decode cX8_begin 90 = .ok (.iload_n 1, 1) := by decide +kernel
theorem dX8_begin_91 : decode cX8_begin 91 = .ok (.iload_n 2, 1) := by decide +kernel
theorem dX8_begin_92 : decode cX8_begin 92 = .ok (.invokevirtual 243, 3) := by decide +kernel
theorem dX8_begin_95 : decode cX8_begin 95 = .ok (.aload_n 0, 1) := by decide +kernel
theorem dX8_begin_96 : decode cX8_begin 96 = .ok (.getfield 30, 3) := by decide +kernel
theorem dX8_begin_99 : decode cX8_begin 99 = .ok (.iconst 1, 1) := by decide +kernel
theorem dX8_begin_100 : decode cX8_begin 100 = .ok (.putfield 236, 3) := by decide +kernel
theorem dX8_begin_103 : decode cX8_begin 103 = .ok (.aload_n 0, 1) := by decide +kernel
theorem dX8_begin_104 : decode cX8_begin 104 = .ok (.invokevirtual 247, 3) := by decide +kernel
theorem dX8_begin_107 : decode cX8_begin 107 = .ok (.ireturn, 1) := by decide +kernel
theorem dX8_patch_0 : decode cX8_patch 0 = .ok (.aload_n 0, 1) := by decide +kernel
theorem dX8_patch_1 : decode cX8_patch 1 = .ok (.getfield 23, 3) := by decide +kernel
theorem dX8_patch_4 : decode cX8_patch 4 = .ok (.iload_n 1, 1) := by decide +kernel
theorem dX8_patch_5 : decode cX8_patch 5 = .ok (.invokevirtual 123, 3) := by decide +kernel
theorem dX8_patch_8 : decode cX8_patch 8 = .ok (.ifCond .ne 9, 3) := by decide +kernel
theorem dX8_patch_11 : decode cX8_patch 11 = .ok (.aload_n 0, 1) := by decide +kernel
theorem dX8_patch_12 : decode cX8_patch 12 = .ok (.iconst 1, 1) := by decide +kernel
theorem dX8_patch_13 : decode cX8_patch 13 = .ok (.invokevirtual 230, 3) := by decide +kernel
theorem dX8_patch_16 : decode cX8_patch 16 = .ok (.ireturn, 1) := by decide +kernel
theorem dX8_patch_17 : decode cX8_patch 17 = .ok (.aload_n 0, 1) := by decide +kernel
theorem dX8_patch_18 : decode cX8_patch 18 = .ok (.getfield 23, 3) := by decide +kernel
theorem dX8_patch_21 : decode cX8_patch 21 = .ok (.iload_n 2, 1) := by decide +kernel
theorem dX8_patch_22 : decode cX8_patch 22 = .ok (.iload_n 3, 1) := by decide +kernel
theorem dX8_patch_23 : decode cX8_patch 23 = .ok (.iload 4, 2) := by decide +kernel
theorem dX8_patch_25 : decode cX8_patch 25 = .ok (.iload 5, 2) := by decide +kernel
theorem dX8_patch_27 : decode cX8_patch 27 = .ok (.invokevirtual 250, 3) := by decide +kernel
theorem dX8_patch_30 : decode cX8_patch 30 = .ok (.ifCond .ne 9, 3) := by decide +kernel
theorem dX8_patch_33 : decode cX8_patch 33 = .ok (.aload_n 0, 1) := by decide +kernel
theorem dX8_patch_34 : decode cX8_patch 34 = .ok (.iconst 2, 1) := by decide +kernel
theorem dX8_patch_35 : decode cX8_patch 35 = .ok (.invokevirtual 230, 3) := by decide +kernel
theorem dX8_patch_38 : decode cX8_patch 38 = .ok (.ireturn, 1) := by decide +kernel
theorem dX8_patch_39 : decode cX8_patch 39 = .ok (.aload_n 0, 1) := by decide +kernel
theorem dX8_patch_40 : decode cX8_patch 40 = .ok (.getfield 30, 3) := by decide +kernel
theorem dX8_patch_43 : decode cX8_patch 43 = .ok (.getfield 236, 3) := by decide +kernel
theorem dX8_patch_46 : decode cX8_patch 46 = .ok (.ifCond .ne 10, 3) := by decide +kernel
theorem dX8_patch_49 : decode cX8_patch 49 = .ok (.aload_n 0, 1) := by decide +kernel
theorem dX8_patch_50 : decode cX8_patch 50 = .ok (.bipush 6, 2) := by decide +kernel
theorem dX8_patch_52 : decode cX8_patch 52 = .ok (.invokevirtual 230, 3) := by decide +kernel
theorem dX8_patch_55 : decode cX8_patch 55 = .ok (.ireturn, 1) := by decide +kernel
theorem dX8_patch_56 : decode cX8_patch 56 = .ok (.aload_n 0, 1) := by decide +kernel
theorem dX8_patch_57 : decode cX8_patch 57 = .ok (.getfield 37, 3) := by decide +kernel
theorem dX8_patch_60 : decode cX8_patch 60 = .ok (.aload_n 0, 1) := by decide +kernel
theorem dX8_patch_61 : decode cX8_patch 61 = .ok (.getfield 30, 3) := by decide +kernel
theorem dX8_patch_64 : decode cX8_patch 64 = .ok (.invokevirtual 240, 3) := by decide +kernel
theorem dX8_patch_67 : decode cX8_patch 67 = .ok (.aload_n 0, 1) := by decide +kernel
theorem dX8_patch_68 : decode cX8_patch 68 = .ok (.getfield 30, 3) := by decide +kernel
theorem dX8_patch_71 : decode cX8_patch 71 = .ok (.aload_n 0, 1) := by decide +kernel
theorem dX8_patch_72 : decode cX8_patch 72 = .ok (.getfield 30, 3) := by decide +kernel
theorem dX8_patch_75 : decode cX8_patch 75 = .ok (.getfield 81, 3) := by decide +kernel
theorem dX8_patch_78 : decode cX8_patch 78 = .ok (.iload_n 1, 1) := by decide +kernel
theorem dX8_patch_79 : decode cX8_patch 79 = .ok (.aload_n 0, 1) := by decide +kernel
theorem dX8_patch_80 : decode cX8_patch 80 = .ok (.getfield 23, 3) := by decide +kernel
theorem dX8_patch_83 : decode cX8_patch 83 = .ok (.iload_n 2, 1) := by decide +kernel
theorem dX8_patch_84 : decode cX8_patch 84 = .ok (.iload_n 3, 1) := by decide +kernel
theorem dX8_patch_85 : decode cX8_patch 85 = .ok (.iload 4, 2) := by decide +kernel
theorem dX8_patch_87 : decode cX8_patch 87 = .ok (.iload 5, 2) := by decide +kernel
theorem dX8_patch_89 : decode cX8_patch 89 = .ok (.invokevirtual 254, 3) := by decide +kernel
theorem dX8_patch_92 : decode cX8_patch 92 = .ok (.invokevirtual 258, 3) := by decide +kernel
theorem dX8_patch_95 : decode cX8_patch 95 = .ok (.aload_n 0, 1) := by decide +kernel
theorem dX8_patch_96 : decode cX8_patch 96 = .ok (.invokevirtual 247, 3) := by decide +kernel
theorem dX8_patch_99 : decode cX8_patch 99 = .ok (.ireturn, 1) := by decide +kernel
theorem dX8_dry_0 : decode cX8_dry 0 = .ok (.aload_n 0, 1) := by decide +kernel
theorem dX8_dry_1 : decode cX8_dry 1 = .ok (.getfield 30, 3) := by decide +kernel
theorem dX8_dry_4 : decode cX8_dry 4 = .ok (.getfield 236, 3) := by decide +kernel
theorem dX8_dry_7 : decode cX8_dry 7 = .ok (.ifCond .ne 10, 3) := by decide +kernel
theorem dX8_dry_10 : decode cX8_dry 10 = .ok (.aload_n 0, 1) := by decide +kernel
theorem dX8_dry_11 : decode cX8_dry 11 = .ok (.bipush 6, 2) := by decide +kernel
theorem dX8_dry_13 : decode cX8_dry 13 = .ok (.invokevirtual 67, 3) := by decide +kernel
theorem dX8_dry_16 : decode cX8_dry 16 = .ok (.ireturn, 1) := by decide +kernel
theorem dX8_dry_17 : decode cX8_dry 17 = .ok (.aload_n 0, 1) := by decide +kernel
theorem dX8_dry_18 : decode cX8_dry 18 = .ok (.getfield 23, 3) := by decide +kernel
theorem dX8_dry_21 : decode cX8_dry 21 = .ok (.aload_n 0, 1) := by decide +kernel
theorem dX8_dry_22 : decode cX8_dry 22 = .ok (.getfield 30, 3) := by decide +kernel
theorem dX8_dry_25 : decode cX8_dry 25 = .ok (.aload_n 0, 1) := by decide +kernel
theorem dX8_dry_26 : decode cX8_dry 26 = .ok (.getfield 30, 3) := by decide +kernel
theorem dX8_dry_29 : decode cX8_dry 29 = .ok (.getfield 81, 3) := by decide +kernel
theorem dX8_dry_32 : decode cX8_dry 32 = .ok (.invokestatic 152, 3) := by decide +kernel
theorem dX8_dry_35 : decode cX8_dry 35 = .ok (.ifCond .eq 9, 3) := by decide +kernel
theorem dX8_dry_38 : decode cX8_dry 38 = .ok (.aload_n 0, 1) := by decide +kernel
theorem dX8_dry_39 : decode cX8_dry 39 = .ok (.iconst 5, 1) := by decide +kernel
theorem dX8_dry_40 : decode cX8_dry 40 = .ok (.invokevirtual 67, 3) := by decide +kernel
theorem dX8_dry_43 : decode cX8_dry 43 = .ok (.ireturn, 1) := by decide +kernel
theorem dX8_dry_44 : decode cX8_dry 44 = .ok (.aload_n 0, 1) := by decide +kernel
theorem dX8_dry_45 : decode cX8_dry 45 = .ok (.getfield 37, 3) := by decide +kernel
theorem dX8_dry_48 : decode cX8_dry 48 = .ok (.aload_n 0, 1) := by decide +kernel
theorem dX8_dry_49 : decode cX8_dry 49 = .ok (.getfield 30, 3) := by decide +kernel
theorem dX8_dry_52 : decode cX8_dry 52 = .ok (.invokevirtual 240, 3) := by decide +kernel
theorem dX8_dry_55 : decode cX8_dry 55 = .ok (.aload_n 0, 1) := by decide +kernel
theorem dX8_dry_56 : decode cX8_dry 56 = .ok (.getfield 30, 3) := by decide +kernel
theorem dX8_dry_59 : decode cX8_dry 59 = .ok (.iconst 0, 1) := by decide +kernel
theorem dX8_dry_60 : decode cX8_dry 60 = .ok (.putfield 236, 3) := by decide +kernel
theorem dX8_dry_63 : decode cX8_dry 63 = .ok (.aload_n 0, 1) := by decide +kernel
theorem dX8_dry_64 : decode cX8_dry 64 = .ok (.getfield 30, 3) := by decide +kernel
theorem dX8_dry_67 : decode cX8_dry 67 = .ok (.dup, 1) := by decide +kernel
theorem dX8_dry_68 : decode cX8_dry 68 = .ok (.getfield 81, 3) := by decide +kernel
theorem dX8_dry_71 : decode cX8_dry 71 = .ok (.iconst 1, 1) := by decide +kernel
theorem dX8_dry_72 : decode cX8_dry 72 = .ok (.iadd, 1) := by decide +kernel
theorem dX8_dry_73 : decode cX8_dry 73 = .ok (.putfield 81, 3) := by decide +kernel
theorem dX8_dry_76 : decode cX8_dry 76 = .ok (.aload_n 0, 1) := by decide +kernel
theorem dX8_dry_77 : decode cX8_dry 77 = .ok (.aload_n 0, 1) := by decide +kernel
theorem dX8_dry_78 : decode cX8_dry 78 = .ok (.getfield 30, 3) := by decide +kernel
theorem dX8_dry_81 : decode cX8_dry 81 = .ok (.getfield 81, 3) := by decide +kernel
theorem dX8_dry_84 : decode cX8_dry 84 = .ok (.iconst 1, 1) := by decide +kernel
theorem dX8_dry_85 : decode cX8_dry 85 = .ok (.isub, 1) := by decide +kernel
theorem dX8_dry_86 : decode cX8_dry 86 = .ok (.invokevirtual 84, 3) := by decide +kernel
theorem dX8_dry_89 : decode cX8_dry 89 = .ok (.ireturn, 1) := by decide +kernel
theorem dX8_wipe_0 : decode cX8_wipe 0 = .ok (.aload_n 0, 1) := by decide +kernel
theorem dX8_wipe_1 : decode cX8_wipe 1 = .ok (.getfield 30, 3) := by decide +kernel
theorem dX8_wipe_4 : decode cX8_wipe 4 = .ok (.getfield 236, 3) := by decide +kernel
theorem dX8_wipe_7 : decode cX8_wipe 7 = .ok (.ifCond .ne 10, 3) := by decide +kernel
theorem dX8_wipe_10 : decode cX8_wipe 10 = .ok (.aload_n 0, 1) := by decide +kernel
theorem dX8_wipe_11 : decode cX8_wipe 11 = .ok (.bipush 6, 2) := by decide +kernel
theorem dX8_wipe_13 : decode cX8_wipe 13 = .ok (.invokevirtual 230, 3) := by decide +kernel
theorem dX8_wipe_16 : decode cX8_wipe 16 = .ok (.ireturn, 1) := by decide +kernel
theorem dX8_wipe_17 : decode cX8_wipe 17 = .ok (.aload_n 0, 1) := by decide +kernel
theorem dX8_wipe_18 : decode cX8_wipe 18 = .ok (.getfield 37, 3) := by decide +kernel
theorem dX8_wipe_21 : decode cX8_wipe 21 = .ok (.aload_n 0, 1) := by decide +kernel
theorem dX8_wipe_22 : decode cX8_wipe 22 = .ok (.getfield 30, 3) := by decide +kernel
theorem dX8_wipe_25 : decode cX8_wipe 25 = .ok (.invokevirtual 240, 3) := by decide +kernel
theorem dX8_wipe_28 : decode cX8_wipe 28 = .ok (.aload_n 0, 1) := by decide +kernel
theorem dX8_wipe_29 : decode cX8_wipe 29 = .ok (.getfield 30, 3) := by decide +kernel
theorem dX8_wipe_32 : decode cX8_wipe 32 = .ok (.iconst 0, 1) := by decide +kernel
theorem dX8_wipe_33 : decode cX8_wipe 33 = .ok (.putfield 236, 3) := by decide +kernel
theorem dX8_wipe_36 : decode cX8_wipe 36 = .ok (.aload_n 0, 1) := by decide +kernel
theorem dX8_wipe_37 : decode cX8_wipe 37 = .ok (.invokevirtual 247, 3) := by decide +kernel
theorem dX8_wipe_40 : decode cX8_wipe 40 = .ok (.ireturn, 1) := by decide +kernel
theorem dX8_wet_0 : decode cX8_wet 0 = .ok (.aload_n 0, 1) := by decide +kernel
theorem dX8_wet_1 : decode cX8_wet 1 = .ok (.getfield 23, 3) := by decide +kernel
theorem dX8_wet_4 : decode cX8_wet 4 = .ok (.iload_n 1, 1) := by decide +kernel
theorem dX8_wet_5 : decode cX8_wet 5 = .ok (.iload_n 2, 1) := by decide +kernel
theorem dX8_wet_6 : decode cX8_wet 6 = .ok (.invokevirtual 93, 3) := by decide +kernel
theorem dX8_wet_9 : decode cX8_wet 9 = .ok (.ifCond .ne 9, 3) := by decide +kernel
theorem dX8_wet_12 : decode cX8_wet 12 = .ok (.aload_n 0, 1) := by decide +kernel
theorem dX8_wet_13 : decode cX8_wet 13 = .ok (.iconst 1, 1) := by decide +kernel
theorem dX8_wet_14 : decode cX8_wet 14 = .ok (.invokevirtual 67, 3) := by decide +kernel
theorem dX8_wet_17 : decode cX8_wet 17 = .ok (.ireturn, 1) := by decide +kernel
theorem dX8_wet_18 : decode cX8_wet 18 = .ok (.aload_n 0, 1) := by decide +kernel
theorem dX8_wet_19 : decode cX8_wet 19 = .ok (.getfield 30, 3) := by decide +kernel
theorem dX8_wet_22 : decode cX8_wet 22 = .ok (.getfield 236, 3) := by decide +kernel
theorem dX8_wet_25 : decode cX8_wet 25 = .ok (.ifCond .ne 10, 3) := by decide +kernel
theorem dX8_wet_28 : decode cX8_wet 28 = .ok (.aload_n 0, 1) := by decide +kernel
theorem dX8_wet_29 : decode cX8_wet 29 = .ok (.bipush 6, 2) := by decide +kernel
theorem dX8_wet_31 : decode cX8_wet 31 = .ok (.invokevirtual 67, 3) := by decide +kernel
theorem dX8_wet_34 : decode cX8_wet 34 = .ok (.ireturn, 1) := by decide +kernel
theorem dX8_wet_35 : decode cX8_wet 35 = .ok (.aload_n 0, 1) := by decide +kernel
theorem dX8_wet_36 : decode cX8_wet 36 = .ok (.aload_n 0, 1) := by decide +kernel
theorem dX8_wet_37 : decode cX8_wet 37 = .ok (.getfield 30, 3) := by decide +kernel
theorem dX8_wet_40 : decode cX8_wet 40 = .ok (.aload_n 0, 1) := by decide +kernel
theorem dX8_wet_41 : decode cX8_wet 41 = .ok (.getfield 30, 3) := by decide +kernel
theorem dX8_wet_44 : decode cX8_wet 44 = .ok (.getfield 81, 3) := by decide +kernel
theorem dX8_wet_47 : decode cX8_wet 47 = .ok (.aload_n 0, 1) := by decide +kernel
theorem dX8_wet_48 : decode cX8_wet 48 = .ok (.getfield 23, 3) := by decide +kernel
theorem dX8_wet_51 : decode cX8_wet 51 = .ok (.iload_n 1, 1) := by decide +kernel
theorem dX8_wet_52 : decode cX8_wet 52 = .ok (.iload_n 2, 1) := by decide +kernel
theorem dX8_wet_53 : decode cX8_wet 53 = .ok (.invokevirtual 97, 3) := by decide +kernel
theorem dX8_wet_56 : decode cX8_wet 56 = .ok (.invokevirtual 149, 3) := by decide +kernel
theorem dX8_wet_59 : decode cX8_wet 59 = .ok (.invokevirtual 84, 3) := by decide +kernel
theorem dX8_wet_62 : decode cX8_wet 62 = .ok (.ireturn, 1) := by decide +kernel
theorem dX8_wetJudged_0 : decode cX8_wetJudged 0 = .ok (.aload_n 0, 1) := by decide +kernel
theorem dX8_wetJudged_1 : decode cX8_wetJudged 1 = .ok (.getfield 30, 3) := by decide +kernel
theorem dX8_wetJudged_4 : decode cX8_wetJudged 4 = .ok (.getfield 236, 3) := by decide +kernel
theorem dX8_wetJudged_7 : decode cX8_wetJudged 7 = .ok (.ifCond .ne 10, 3) := by decide +kernel
theorem dX8_wetJudged_10 : decode cX8_wetJudged 10 = .ok (.aload_n 0, 1) := by decide +kernel
theorem dX8_wetJudged_11 : decode cX8_wetJudged 11 = .ok (.bipush 6, 2) := by decide +kernel
theorem dX8_wetJudged_13 : decode cX8_wetJudged 13 = .ok (.invokevirtual 67, 3) := by decide +kernel
theorem dX8_wetJudged_16 : decode cX8_wetJudged 16 = .ok (.ireturn, 1) := by decide +kernel
theorem dX8_wetJudged_17 : decode cX8_wetJudged 17 = .ok (.aload_n 0, 1) := by decide +kernel
theorem dX8_wetJudged_18 : decode cX8_wetJudged 18 = .ok (.aload_n 0, 1) := by decide +kernel
theorem dX8_wetJudged_19 : decode cX8_wetJudged 19 = .ok (.getfield 23, 3) := by decide +kernel
theorem dX8_wetJudged_22 : decode cX8_wetJudged 22 = .ok (.aload_n 0, 1) := by decide +kernel
theorem dX8_wetJudged_23 : decode cX8_wetJudged 23 = .ok (.getfield 30, 3) := by decide +kernel
theorem dX8_wetJudged_26 : decode cX8_wetJudged 26 = .ok (.aload_n 0, 1) := by decide +kernel
theorem dX8_wetJudged_27 : decode cX8_wetJudged 27 = .ok (.getfield 30, 3) := by decide +kernel
theorem dX8_wetJudged_30 : decode cX8_wetJudged 30 = .ok (.getfield 81, 3) := by decide +kernel
theorem dX8_wetJudged_33 : decode cX8_wetJudged 33 = .ok (.invokestatic 152, 3) := by decide +kernel
theorem dX8_wetJudged_36 : decode cX8_wetJudged 36 = .ok (.invokevirtual 84, 3) := by decide +kernel
theorem dX8_wetJudged_39 : decode cX8_wetJudged 39 = .ok (.ireturn, 1) := by decide +kernel
theorem dX8_scrape_0 : decode cX8_scrape 0 = .ok (.aload_n 0, 1) := by decide +kernel
theorem dX8_scrape_1 : decode cX8_scrape 1 = .ok (.getfield 23, 3) := by decide +kernel
theorem dX8_scrape_4 : decode cX8_scrape 4 = .ok (.iload_n 1, 1) := by decide +kernel
theorem dX8_scrape_5 : decode cX8_scrape 5 = .ok (.iload_n 2, 1) := by decide +kernel
theorem dX8_scrape_6 : decode cX8_scrape 6 = .ok (.invokevirtual 93, 3) := by decide +kernel
theorem dX8_scrape_9 : decode cX8_scrape 9 = .ok (.ifCond .ne 9, 3) := by decide +kernel
theorem dX8_scrape_12 : decode cX8_scrape 12 = .ok (.aload_n 0, 1) := by decide +kernel
theorem dX8_scrape_13 : decode cX8_scrape 13 = .ok (.iconst 1, 1) := by decide +kernel
theorem dX8_scrape_14 : decode cX8_scrape 14 = .ok (.invokevirtual 230, 3) := by decide +kernel
theorem dX8_scrape_17 : decode cX8_scrape 17 = .ok (.ireturn, 1) := by decide +kernel
theorem dX8_scrape_18 : decode cX8_scrape 18 = .ok (.aload_n 0, 1) := by decide +kernel
theorem dX8_scrape_19 : decode cX8_scrape 19 = .ok (.getfield 23, 3) := by decide +kernel
theorem dX8_scrape_22 : decode cX8_scrape 22 = .ok (.iload_n 1, 1) := by decide +kernel
theorem dX8_scrape_23 : decode cX8_scrape 23 = .ok (.iload_n 2, 1) := by decide +kernel
theorem dX8_scrape_24 : decode cX8_scrape 24 = .ok (.invokevirtual 97, 3) := by decide +kernel
theorem dX8_scrape_27 : decode cX8_scrape 27 = .ok (.istore_n 3, 1) := by decide +kernel
theorem dX8_scrape_28 : decode cX8_scrape 28 = .ok (.aload_n 0, 1) := by decide +kernel
theorem dX8_scrape_29 : decode cX8_scrape 29 = .ok (.getfield 30, 3) := by decide +kernel
theorem dX8_scrape_32 : decode cX8_scrape 32 = .ok (.iload_n 3, 1) := by decide +kernel
theorem dX8_scrape_33 : decode cX8_scrape 33 = .ok (.iconst 0, 1) := by decide +kernel
theorem dX8_scrape_34 : decode cX8_scrape 34 = .ok (.invokevirtual 114, 3) := by decide +kernel
theorem dX8_scrape_37 : decode cX8_scrape 37 = .ok (.istore 4, 2) := by decide +kernel
theorem dX8_scrape_39 : decode cX8_scrape 39 = .ok (.iload 4, 2) := by decide +kernel
theorem dX8_scrape_41 : decode cX8_scrape 41 = .ok (.bipush (-2), 2) := by decide +kernel
theorem dX8_scrape_43 : decode cX8_scrape 43 = .ok (.if_icmp .ne 10, 3) := by decide +kernel
theorem dX8_scrape_46 : decode cX8_scrape 46 = .ok (.aload_n 0, 1) := by decide +kernel
theorem dX8_scrape_47 : decode cX8_scrape 47 = .ok (.bipush 6, 2) := by decide +kernel
theorem dX8_scrape_49 : decode cX8_scrape 49 = .ok (.invokevirtual 230, 3) := by decide +kernel
theorem dX8_scrape_52 : decode cX8_scrape 52 = .ok (.ireturn, 1) := by decide +kernel
theorem dX8_scrape_53 : decode cX8_scrape 53 = .ok (.aload_n 0, 1) := by decide +kernel
theorem dX8_scrape_54 : decode cX8_scrape 54 = .ok (.getfield 37, 3) := by decide +kernel
theorem dX8_scrape_57 : decode cX8_scrape 57 = .ok (.aload_n 0, 1) := by decide +kernel
theorem dX8_scrape_58 : decode cX8_scrape 58 = .ok (.getfield 30, 3) := by decide +kernel
theorem dX8_scrape_61 : decode cX8_scrape 61 = .ok (.invokevirtual 240, 3) := by decide +kernel
theorem dX8_scrape_64 : decode cX8_scrape 64 = .ok (.aload_n 0, 1) := by decide +kernel
theorem dX8_scrape_65 : decode cX8_scrape 65 = .ok (.getfield 30, 3) := by decide +kernel
theorem dX8_scrape_68 : decode cX8_scrape 68 = .ok (.iload 4, 2) := by decide +kernel
theorem dX8_scrape_70 : decode cX8_scrape 70 = .ok (.bipush (-2), 2) := by decide +kernel
theorem dX8_scrape_72 : decode cX8_scrape 72 = .ok (.iconst 1, 1) := by decide +kernel
theorem dX8_scrape_73 : decode cX8_scrape 73 = .ok (.iload_n 3, 1) := by decide +kernel
theorem dX8_scrape_74 : decode cX8_scrape 74 = .ok (.ishl, 1) := by decide +kernel
theorem dX8_scrape_75 : decode cX8_scrape 75 = .ok (.invokevirtual 258, 3) := by decide +kernel
theorem dX8_scrape_78 : decode cX8_scrape 78 = .ok (.aload_n 0, 1) := by decide +kernel
theorem dX8_scrape_79 : decode cX8_scrape 79 = .ok (.invokevirtual 247, 3) := by decide +kernel
theorem dX8_scrape_82 : decode cX8_scrape 82 = .ok (.ireturn, 1) := by decide +kernel
theorem dX8_thief_0 : decode cX8_thief 0 = .ok (.aload_n 0, 1) := by decide +kernel
theorem dX8_thief_1 : decode cX8_thief 1 = .ok (.getfield 23, 3) := by decide +kernel
theorem dX8_thief_4 : decode cX8_thief 4 = .ok (.invokevirtual 133, 3) := by decide +kernel
theorem dX8_thief_7 : decode cX8_thief 7 = .ok (.ifCond .ne 9, 3) := by decide +kernel
theorem dX8_thief_10 : decode cX8_thief 10 = .ok (.aload_n 0, 1) := by decide +kernel
theorem dX8_thief_11 : decode cX8_thief 11 = .ok (.iconst 1, 1) := by decide +kernel
theorem dX8_thief_12 : decode cX8_thief 12 = .ok (.invokevirtual 67, 3) := by decide +kernel
theorem dX8_thief_15 : decode cX8_thief 15 = .ok (.ireturn, 1) := by decide +kernel
theorem dX8_thief_16 : decode cX8_thief 16 = .ok (.iload_n 1, 1) := by decide +kernel
theorem dX8_thief_17 : decode cX8_thief 17 = .ok (.invokestatic 107, 3) := by decide +kernel
theorem dX8_thief_20 : decode cX8_thief 20 = .ok (.ifCond .ne 9, 3) := by decide +kernel
theorem dX8_thief_23 : decode cX8_thief 23 = .ok (.aload_n 0, 1) := by decide +kernel
theorem dX8_thief_24 : decode cX8_thief 24 = .ok (.iconst 2, 1) := by decide +kernel
theorem dX8_thief_25 : decode cX8_thief 25 = .ok (.invokevirtual 67, 3) := by decide +kernel
theorem dX8_thief_28 : decode cX8_thief 28 = .ok (.ireturn, 1) := by decide +kernel
theorem dX8_thief_29 : decode cX8_thief 29 = .ok (.aload_n 0, 1) := by decide +kernel
theorem dX8_thief_30 : decode cX8_thief 30 = .ok (.getfield 30, 3) := by decide +kernel
theorem dX8_thief_33 : decode cX8_thief 33 = .ok (.iload_n 1, 1) := by decide +kernel
theorem dX8_thief_34 : decode cX8_thief 34 = .ok (.invokevirtual 262, 3) := by decide +kernel
theorem dX8_thief_37 : decode cX8_thief 37 = .ok (.istore_n 2, 1) := by decide +kernel
theorem dX8_thief_38 : decode cX8_thief 38 = .ok (.iload_n 2, 1) := by decide +kernel
theorem dX8_thief_39 : decode cX8_thief 39 = .ok (.ifCond .ne 10, 3) := by decide +kernel
theorem dX8_thief_42 : decode cX8_thief 42 = .ok (.aload_n 0, 1) := by decide +kernel
theorem dX8_thief_43 : decode cX8_thief 43 = .ok (.bipush 6, 2) := by decide +kernel
theorem dX8_thief_45 : decode cX8_thief 45 = .ok (.invokevirtual 67, 3) := by decide +kernel
theorem dX8_thief_48 : decode cX8_thief 48 = .ok (.ireturn, 1) := by decide +kernel
theorem dX8_thief_49 : decode cX8_thief 49 = .ok (.aload_n 0, 1) := by decide +kernel
theorem dX8_thief_50 : decode cX8_thief 50 = .ok (.getfield 37, 3) := by decide +kernel
theorem dX8_thief_53 : decode cX8_thief 53 = .ok (.aload_n 0, 1) := by decide +kernel
theorem dX8_thief_54 : decode cX8_thief 54 = .ok (.getfield 30, 3) := by decide +kernel
theorem dX8_thief_57 : decode cX8_thief 57 = .ok (.invokevirtual 240, 3) := by decide +kernel
theorem dX8_thief_60 : decode cX8_thief 60 = .ok (.aload_n 0, 1) := by decide +kernel
theorem dX8_thief_61 : decode cX8_thief 61 = .ok (.getfield 30, 3) := by decide +kernel
theorem dX8_thief_64 : decode cX8_thief 64 = .ok (.iload_n 1, 1) := by decide +kernel
theorem dX8_thief_65 : decode cX8_thief 65 = .ok (.invokevirtual 265, 3) := by decide +kernel
theorem dX8_thief_68 : decode cX8_thief 68 = .ok (.aload_n 0, 1) := by decide +kernel
theorem dX8_thief_69 : decode cX8_thief 69 = .ok (.iload_n 2, 1) := by decide +kernel
theorem dX8_thief_70 : decode cX8_thief 70 = .ok (.invokestatic 167, 3) := by decide +kernel
theorem dX8_thief_73 : decode cX8_thief 73 = .ok (.invokevirtual 84, 3) := by decide +kernel
theorem dX8_thief_76 : decode cX8_thief 76 = .ok (.ireturn, 1) := by decide +kernel
theorem dX8_undo_0 : decode cX8_undo 0 = .ok (.aload_n 0, 1) := by decide +kernel
theorem dX8_undo_1 : decode cX8_undo 1 = .ok (.getfield 37, 3) := by decide +kernel
theorem dX8_undo_4 : decode cX8_undo 4 = .ok (.aload_n 0, 1) := by decide +kernel
theorem dX8_undo_5 : decode cX8_undo 5 = .ok (.getfield 30, 3) := by decide +kernel
theorem dX8_undo_8 : decode cX8_undo 8 = .ok (.invokevirtual 268, 3) := by decide +kernel
theorem dX8_undo_11 : decode cX8_undo 11 = .ok (.ifCond .ne 10, 3) := by decide +kernel
theorem dX8_undo_14 : decode cX8_undo 14 = .ok (.aload_n 0, 1) := by decide +kernel
theorem dX8_undo_15 : decode cX8_undo 15 = .ok (.bipush 6, 2) := by decide +kernel
theorem dX8_undo_17 : decode cX8_undo 17 = .ok (.invokevirtual 230, 3) := by decide +kernel
theorem dX8_undo_20 : decode cX8_undo 20 = .ok (.ireturn, 1) := by decide +kernel
theorem dX8_undo_21 : decode cX8_undo 21 = .ok (.aload_n 0, 1) := by decide +kernel
theorem dX8_undo_22 : decode cX8_undo 22 = .ok (.invokevirtual 247, 3) := by decide +kernel
theorem dX8_undo_25 : decode cX8_undo 25 = .ok (.ireturn, 1) := by decide +kernel
theorem dX8_image_0 : decode cX8_image 0 = .ok (.aload_n 0, 1) := by decide +kernel
theorem dX8_image_1 : decode cX8_image 1 = .ok (.getfield 23, 3) := by decide +kernel
theorem dX8_image_4 : decode cX8_image 4 = .ok (.invokevirtual 133, 3) := by decide +kernel
theorem dX8_image_7 : decode cX8_image 7 = .ok (.ifCond .ne 9, 3) := by decide +kernel
theorem dX8_image_10 : decode cX8_image 10 = .ok (.aload_n 0, 1) := by decide +kernel
theorem dX8_image_11 : decode cX8_image 11 = .ok (.iconst 1, 1) := by decide +kernel
theorem dX8_image_12 : decode cX8_image 12 = .ok (.invokevirtual 67, 3) := by decide +kernel
theorem dX8_image_15 : decode cX8_image 15 = .ok (.ireturn, 1) := by decide +kernel
theorem dX8_image_16 : decode cX8_image 16 = .ok (.aload_n 0, 1) := by decide +kernel
theorem dX8_image_17 : decode cX8_image 17 = .ok (.getfield 272, 3) := by decide +kernel
theorem dX8_image_20 : decode cX8_image 20 = .ok (.iconst 3, 1) := by decide +kernel
theorem dX8_image_21 : decode cX8_image 21 = .ok (.if_icmp .lt 9, 3) := by decide +kernel
theorem dX8_image_24 : decode cX8_image 24 = .ok (.aload_n 0, 1) := by decide +kernel
theorem dX8_image_25 : decode cX8_image 25 = .ok (.iconst 3, 1) := by decide +kernel
theorem dX8_image_26 : decode cX8_image 26 = .ok (.invokevirtual 67, 3) := by decide +kernel
theorem dX8_image_29 : decode cX8_image 29 = .ok (.ireturn, 1) := by decide +kernel
theorem dX8_image_30 : decode cX8_image 30 = .ok (.aload_n 0, 1) := by decide +kernel
theorem dX8_image_31 : decode cX8_image 31 = .ok (.getfield 41, 3) := by decide +kernel
theorem dX8_image_34 : decode cX8_image 34 = .ok (.aload_n 0, 1) := by decide +kernel
theorem dX8_image_35 : decode cX8_image 35 = .ok (.getfield 272, 3) := by decide +kernel
theorem dX8_image_38 : decode cX8_image 38 = .ok (.aaload, 1) := by decide +kernel
theorem dX8_image_39 : decode cX8_image 39 = .ok (.aload_n 0, 1) := by decide +kernel
theorem dX8_image_40 : decode cX8_image 40 = .ok (.getfield 30, 3) := by decide +kernel
theorem dX8_image_43 : decode cX8_image 43 = .ok (.invokevirtual 275, 3) := by decide +kernel
theorem dX8_image_46 : decode cX8_image 46 = .ok (.aload_n 0, 1) := by decide +kernel
theorem dX8_image_47 : decode cX8_image 47 = .ok (.dup, 1) := by decide +kernel
theorem dX8_image_48 : decode cX8_image 48 = .ok (.getfield 272, 3) := by decide +kernel
theorem dX8_image_51 : decode cX8_image 51 = .ok (.iconst 1, 1) := by decide +kernel
theorem dX8_image_52 : decode cX8_image 52 = .ok (.iadd, 1) := by decide +kernel
theorem dX8_image_53 : decode cX8_image 53 = .ok (.putfield 272, 3) := by decide +kernel
theorem dX8_image_56 : decode cX8_image 56 = .ok (.aload_n 0, 1) := by decide +kernel
theorem dX8_image_57 : decode cX8_image 57 = .ok (.aload_n 0, 1) := by decide +kernel
theorem dX8_image_58 : decode cX8_image 58 = .ok (.getfield 272, 3) := by decide +kernel
theorem dX8_image_61 : decode cX8_image 61 = .ok (.iconst 1, 1) := by decide +kernel
theorem dX8_image_62 : decode cX8_image 62 = .ok (.isub, 1) := by decide +kernel
theorem dX8_image_63 : decode cX8_image 63 = .ok (.invokevirtual 84, 3) := by decide +kernel
theorem dX8_image_66 : decode cX8_image 66 = .ok (.ireturn, 1) := by decide +kernel
theorem dX8_back_0 : decode cX8_back 0 = .ok (.iload_n 1, 1) := by decide +kernel
theorem dX8_back_1 : decode cX8_back 1 = .ok (.ifCond .lt 11, 3) := by decide +kernel
theorem dX8_back_4 : decode cX8_back 4 = .ok (.iload_n 1, 1) := by decide +kernel
theorem dX8_back_5 : decode cX8_back 5 = .ok (.aload_n 0, 1) := by decide +kernel
theorem dX8_back_6 : decode cX8_back 6 = .ok (.getfield 272, 3) := by decide +kernel
theorem dX8_back_9 : decode cX8_back 9 = .ok (.if_icmp .lt 9, 3) := by decide +kernel
theorem dX8_back_12 : decode cX8_back 12 = .ok (.aload_n 0, 1) := by decide +kernel
theorem dX8_back_13 : decode cX8_back 13 = .ok (.iconst 1, 1) := by decide +kernel
theorem dX8_back_14 : decode cX8_back 14 = .ok (.invokevirtual 230, 3) := by decide +kernel
theorem dX8_back_17 : decode cX8_back 17 = .ok (.ireturn, 1) := by decide +kernel
theorem dX8_back_18 : decode cX8_back 18 = .ok (.aload_n 0, 1) := by decide +kernel
theorem dX8_back_19 : decode cX8_back 19 = .ok (.getfield 30, 3) := by decide +kernel
theorem dX8_back_22 : decode cX8_back 22 = .ok (.aload_n 0, 1) := by decide +kernel
theorem dX8_back_23 : decode cX8_back 23 = .ok (.getfield 41, 3) := by decide +kernel
theorem dX8_back_26 : decode cX8_back 26 = .ok (.iload_n 1, 1) := by decide +kernel
theorem dX8_back_27 : decode cX8_back 27 = .ok (.aaload, 1) := by decide +kernel
theorem dX8_back_28 : decode cX8_back 28 = .ok (.invokevirtual 275, 3) := by decide +kernel
theorem dX8_back_31 : decode cX8_back 31 = .ok (.aload_n 0, 1) := by decide +kernel
theorem dX8_back_32 : decode cX8_back 32 = .ok (.getfield 37, 3) := by decide +kernel
theorem dX8_back_35 : decode cX8_back 35 = .ok (.invokevirtual 278, 3) := by decide +kernel
theorem dX8_back_38 : decode cX8_back 38 = .ok (.aload_n 0, 1) := by decide +kernel
theorem dX8_back_39 : decode cX8_back 39 = .ok (.invokevirtual 247, 3) := by decide +kernel
theorem dX8_back_42 : decode cX8_back 42 = .ok (.ireturn, 1) := by decide +kernel
theorem dX8_led_0 : decode cX8_led 0 = .ok (.aload_n 0, 1) := by decide +kernel
theorem dX8_led_1 : decode cX8_led 1 = .ok (.iload_n 1, 1) := by decide +kernel
theorem dX8_led_2 : decode cX8_led 2 = .ok (.invokevirtual 281, 3) := by decide +kernel
theorem dX8_led_5 : decode cX8_led 5 = .ok (.istore_n 2, 1) := by decide +kernel
theorem dX8_led_6 : decode cX8_led 6 = .ok (.iload_n 2, 1) := by decide +kernel
theorem dX8_led_7 : decode cX8_led 7 = .ok (.ifCond .ge 11, 3) := by decide +kernel
theorem dX8_led_10 : decode cX8_led 10 = .ok (.new 284, 3) := by decide +kernel
theorem dX8_led_13 : decode cX8_led 13 = .ok (.dup, 1) := by decide +kernel
theorem dX8_led_14 : decode cX8_led 14 = .ok (.invokespecial 286, 3) := by decide +kernel
theorem dX8_led_17 : decode cX8_led 17 = .ok (.athrow, 1) := by decide +kernel
theorem dX8_led_18 : decode cX8_led 18 = .ok (.iload_n 2, 1) := by decide +kernel
theorem dX8_led_19 : decode cX8_led 19 = .ok (.ireturn, 1) := by decide +kernel
theorem dX8_size_0 : decode cX8_size 0 = .ok (.iload_n 1, 1) := by decide +kernel
theorem dX8_size_1 : decode cX8_size 1 = .ok (.tableswitch 176 0 12 #[67, 75, 83, 91, 99, 107, 115, 123, 131, 142, 158, 166, 171], 67) := by decide +kernel
theorem dX8_size_68 : decode cX8_size 68 = .ok (.aload_n 0, 1) := by decide +kernel
theorem dX8_size_69 : decode cX8_size 69 = .ok (.getfield 23, 3) := by decide +kernel
theorem dX8_size_72 : decode cX8_size 72 = .ok (.getfield 287, 3) := by decide +kernel
theorem dX8_size_75 : decode cX8_size 75 = .ok (.ireturn, 1) := by decide +kernel
theorem dX8_size_76 : decode cX8_size 76 = .ok (.aload_n 0, 1) := by decide +kernel
theorem dX8_size_77 : decode cX8_size 77 = .ok (.getfield 23, 3) := by decide +kernel
theorem dX8_size_80 : decode cX8_size 80 = .ok (.getfield 290, 3) := by decide +kernel
theorem dX8_size_83 : decode cX8_size 83 = .ok (.ireturn, 1) := by decide +kernel
theorem dX8_size_84 : decode cX8_size 84 = .ok (.aload_n 0, 1) := by decide +kernel
theorem dX8_size_85 : decode cX8_size 85 = .ok (.getfield 23, 3) := by decide +kernel
theorem dX8_size_88 : decode cX8_size 88 = .ok (.getfield 293, 3) := by decide +kernel
theorem dX8_size_91 : decode cX8_size 91 = .ok (.ireturn, 1) := by decide +kernel
theorem dX8_size_92 : decode cX8_size 92 = .ok (.aload_n 0, 1) := by decide +kernel
theorem dX8_size_93 : decode cX8_size 93 = .ok (.getfield 23, 3) := by decide +kernel
theorem dX8_size_96 : decode cX8_size 96 = .ok (.getfield 296, 3) := by decide +kernel
theorem dX8_size_99 : decode cX8_size 99 = .ok (.ireturn, 1) := by decide +kernel
theorem dX8_size_100 : decode cX8_size 100 = .ok (.aload_n 0, 1) := by decide +kernel
theorem dX8_size_101 : decode cX8_size 101 = .ok (.getfield 23, 3) := by decide +kernel
theorem dX8_size_104 : decode cX8_size 104 = .ok (.getfield 299, 3) := by decide +kernel
theorem dX8_size_107 : decode cX8_size 107 = .ok (.ireturn, 1) := by decide +kernel
theorem dX8_size_108 : decode cX8_size 108 = .ok (.aload_n 0, 1) := by decide +kernel
theorem dX8_size_109 : decode cX8_size 109 = .ok (.getfield 23, 3) := by decide +kernel
theorem dX8_size_112 : decode cX8_size 112 = .ok (.getfield 302, 3) := by decide +kernel
theorem dX8_size_115 : decode cX8_size 115 = .ok (.ireturn, 1) := by decide +kernel
theorem dX8_size_116 : decode cX8_size 116 = .ok (.aload_n 0, 1) := by decide +kernel
theorem dX8_size_117 : decode cX8_size 117 = .ok (.getfield 30, 3) := by decide +kernel
theorem dX8_size_120 : decode cX8_size 120 = .ok (.getfield 81, 3) := by decide +kernel
theorem dX8_size_123 : decode cX8_size 123 = .ok (.ireturn, 1) := by decide +kernel
theorem dX8_size_124 : decode cX8_size 124 = .ok (.aload_n 0, 1) := by decide +kernel
theorem dX8_size_125 : decode cX8_size 125 = .ok (.getfield 23, 3) := by decide +kernel
theorem dX8_size_128 : decode cX8_size 128 = .ok (.getfield 223, 3) := by decide +kernel
theorem dX8_size_131 : decode cX8_size 131 = .ok (.ireturn, 1) := by decide +kernel
theorem dX8_size_132 : decode cX8_size 132 = .ok (.aload_n 0, 1) := by decide +kernel
theorem dX8_size_133 : decode cX8_size 133 = .ok (.getfield 23, 3) := by decide +kernel
theorem dX8_size_136 : decode cX8_size 136 = .ok (.invokevirtual 305, 3) := by decide +kernel
theorem dX8_size_139 : decode cX8_size 139 = .ok (.invokestatic 167, 3) := by decide +kernel
theorem dX8_size_142 : decode cX8_size 142 = .ok (.ireturn, 1) := by decide +kernel
theorem dX8_size_143 : decode cX8_size 143 = .ok (.aload_n 0, 1) := by decide +kernel
theorem dX8_size_144 : decode cX8_size 144 = .ok (.getfield 30, 3) := by decide +kernel
theorem dX8_size_147 : decode cX8_size 147 = .ok (.getfield 236, 3) := by decide +kernel
theorem dX8_size_150 : decode cX8_size 150 = .ok (.ifCond .eq 7, 3) := by decide +kernel
theorem dX8_size_153 : decode cX8_size 153 = .ok (.iconst 1, 1) := by decide +kernel
theorem dX8_size_154 : decode cX8_size 154 = .ok (.goto 4, 3) := by decide +kernel
theorem dX8_size_157 : decode cX8_size 157 = .ok (.iconst 0, 1) := by decide +kernel
theorem dX8_size_158 : decode cX8_size 158 = .ok (.ireturn, 1) := by decide +kernel
theorem dX8_size_159 : decode cX8_size 159 = .ok (.aload_n 0, 1) := by decide +kernel
theorem dX8_size_160 : decode cX8_size 160 = .ok (.getfield 37, 3) := by decide +kernel
theorem dX8_size_163 : decode cX8_size 163 = .ok (.getfield 308, 3) := by decide +kernel
theorem dX8_size_166 : decode cX8_size 166 = .ok (.ireturn, 1) := by decide +kernel
theorem dX8_size_167 : decode cX8_size 167 = .ok (.aload_n 0, 1) := by decide +kernel
theorem dX8_size_168 : decode cX8_size 168 = .ok (.getfield 272, 3) := by decide +kernel
theorem dX8_size_171 : decode cX8_size 171 = .ok (.ireturn, 1) := by decide +kernel
theorem dX8_size_172 : decode cX8_size 172 = .ok (.aload_n 0, 1) := by decide +kernel
theorem dX8_size_173 : decode cX8_size 173 = .ok (.getfield 59, 3) := by decide +kernel
theorem dX8_size_176 : decode cX8_size 176 = .ok (.ireturn, 1) := by decide +kernel
theorem dX8_size_177 : decode cX8_size 177 = .ok (.iconst (-1), 1) := by decide +kernel
theorem dX8_size_178 : decode cX8_size 178 = .ok (.ireturn, 1) := by decide +kernel
theorem dX8_trouble_0 : decode cX8_trouble 0 = .ok (.aload_n 0, 1) := by decide +kernel
theorem dX8_trouble_1 : decode cX8_trouble 1 = .ok (.getfield 87, 3) := by decide +kernel
theorem dX8_trouble_4 : decode cX8_trouble 4 = .ok (.ireturn, 1) := by decide +kernel
theorem dX8_accept_0 : decode cX8_accept 0 = .ok (.aload_n 0, 1) := by decide +kernel
theorem dX8_accept_1 : decode cX8_accept 1 = .ok (.iconst 0, 1) := by decide +kernel
theorem dX8_accept_2 : decode cX8_accept 2 = .ok (.putfield 87, 3) := by decide +kernel
theorem dX8_accept_5 : decode cX8_accept 5 = .ok (.iload_n 1, 1) := by decide +kernel
theorem dX8_accept_6 : decode cX8_accept 6 = .ok (.ireturn, 1) := by decide +kernel
theorem dX8_refuse_0 : decode cX8_refuse 0 = .ok (.aload_n 0, 1) := by decide +kernel
theorem dX8_refuse_1 : decode cX8_refuse 1 = .ok (.iload_n 1, 1) := by decide +kernel
theorem dX8_refuse_2 : decode cX8_refuse 2 = .ok (.putfield 87, 3) := by decide +kernel
theorem dX8_refuse_5 : decode cX8_refuse 5 = .ok (.iconst (-1), 1) := by decide +kernel
theorem dX8_refuse_6 : decode cX8_refuse 6 = .ok (.ireturn, 1) := by decide +kernel
theorem dX8_grant_0 : decode cX8_grant 0 = .ok (.aload_n 0, 1) := by decide +kernel
theorem dX8_grant_1 : decode cX8_grant 1 = .ok (.iconst 0, 1) := by decide +kernel
theorem dX8_grant_2 : decode cX8_grant 2 = .ok (.putfield 87, 3) := by decide +kernel
theorem dX8_grant_5 : decode cX8_grant 5 = .ok (.iconst 1, 1) := by decide +kernel
theorem dX8_grant_6 : decode cX8_grant 6 = .ok (.ireturn, 1) := by decide +kernel
theorem dX8_deny_0 : decode cX8_deny 0 = .ok (.aload_n 0, 1) := by decide +kernel
theorem dX8_deny_1 : decode cX8_deny 1 = .ok (.iload_n 1, 1) := by decide +kernel
theorem dX8_deny_2 : decode cX8_deny 2 = .ok (.putfield 87, 3) := by decide +kernel
theorem dX8_deny_5 : decode cX8_deny 5 = .ok (.iconst 0, 1) := by decide +kernel
theorem dX8_deny_6 : decode cX8_deny 6 = .ok (.ireturn, 1) := by decide +kernel
theorem dX8_tapeNumber_0 : decode cX8_tapeNumber 0 = .ok (.bipush 24, 2) := by decide +kernel
theorem dX8_tapeNumber_2 : decode cX8_tapeNumber 2 = .ok (.istore_n 2, 1) := by decide +kernel
theorem dX8_tapeNumber_3 : decode cX8_tapeNumber 3 = .ok (.iload_n 2, 1) := by decide +kernel
theorem dX8_tapeNumber_4 : decode cX8_tapeNumber 4 = .ok (.ifCond .lt 42, 3) := by decide +kernel
theorem dX8_tapeNumber_7 : decode cX8_tapeNumber 7 = .ok (.aload_n 0, 1) := by decide +kernel
theorem dX8_tapeNumber_8 : decode cX8_tapeNumber 8 = .ok (.getfield 59, 3) := by decide +kernel
theorem dX8_tapeNumber_11 : decode cX8_tapeNumber 11 = .ok (.sipush 900, 3) := by decide +kernel
theorem dX8_tapeNumber_14 : decode cX8_tapeNumber 14 = .ok (.if_icmp .ge 32, 3) := by decide +kernel
theorem dX8_tapeNumber_17 : decode cX8_tapeNumber 17 = .ok (.aload_n 0, 1) := by decide +kernel
theorem dX8_tapeNumber_18 : decode cX8_tapeNumber 18 = .ok (.getfield 9, 3) := by decide +kernel
theorem dX8_tapeNumber_21 : decode cX8_tapeNumber 21 = .ok (.aload_n 0, 1) := by decide +kernel
theorem dX8_tapeNumber_22 : decode cX8_tapeNumber 22 = .ok (.getfield 59, 3) := by decide +kernel
theorem dX8_tapeNumber_25 : decode cX8_tapeNumber 25 = .ok (.iload_n 1, 1) := by decide +kernel
theorem dX8_tapeNumber_26 : decode cX8_tapeNumber 26 = .ok (.iload_n 2, 1) := by decide +kernel
theorem dX8_tapeNumber_27 : decode cX8_tapeNumber 27 = .ok (.ishr, 1) := by decide +kernel
theorem dX8_tapeNumber_28 : decode cX8_tapeNumber 28 = .ok (.i2b, 1) := by decide +kernel
theorem dX8_tapeNumber_29 : decode cX8_tapeNumber 29 = .ok (.bastore, 1) := by decide +kernel
theorem dX8_tapeNumber_30 : decode cX8_tapeNumber 30 = .ok (.aload_n 0, 1) := by decide +kernel
theorem dX8_tapeNumber_31 : decode cX8_tapeNumber 31 = .ok (.dup, 1) := by decide +kernel
theorem dX8_tapeNumber_32 : decode cX8_tapeNumber 32 = .ok (.getfield 59, 3) := by decide +kernel
theorem dX8_tapeNumber_35 : decode cX8_tapeNumber 35 = .ok (.iconst 1, 1) := by decide +kernel
theorem dX8_tapeNumber_36 : decode cX8_tapeNumber 36 = .ok (.iadd, 1) := by decide +kernel
theorem dX8_tapeNumber_37 : decode cX8_tapeNumber 37 = .ok (.putfield 59, 3) := by decide +kernel
theorem dX8_tapeNumber_40 : decode cX8_tapeNumber 40 = .ok (.iinc 2 (-8), 3) := by decide +kernel
theorem dX8_tapeNumber_43 : decode cX8_tapeNumber 43 = .ok (.goto (-40), 3) := by decide +kernel
theorem dX8_tapeNumber_46 : decode cX8_tapeNumber 46 = .ok (.return_, 1) := by decide +kernel
theorem dX8_takeBook_0 : decode cX8_takeBook 0 = .ok (.aload_n 0, 1) := by decide +kernel
theorem dX8_takeBook_1 : decode cX8_takeBook 1 = .ok (.getfield 23, 3) := by decide +kernel
theorem dX8_takeBook_4 : decode cX8_takeBook 4 = .ok (.astore_n 1, 1) := by decide +kernel
theorem dX8_takeBook_5 : decode cX8_takeBook 5 = .ok (.aload_n 0, 1) := by decide +kernel
theorem dX8_takeBook_6 : decode cX8_takeBook 6 = .ok (.getfield 30, 3) := by decide +kernel
theorem dX8_takeBook_9 : decode cX8_takeBook 9 = .ok (.astore_n 2, 1) := by decide +kernel
theorem dX8_takeBook_10 : decode cX8_takeBook 10 = .ok (.aload_n 0, 1) := by decide +kernel
theorem dX8_takeBook_11 : decode cX8_takeBook 11 = .ok (.aload_n 0, 1) := by decide +kernel
theorem dX8_takeBook_12 : decode cX8_takeBook 12 = .ok (.getfield 16, 3) := by decide +kernel
theorem dX8_takeBook_15 : decode cX8_takeBook 15 = .ok (.getfield 311, 3) := by decide +kernel
theorem dX8_takeBook_18 : decode cX8_takeBook 18 = .ok (.putfield 23, 3) := by decide +kernel
theorem dX8_takeBook_21 : decode cX8_takeBook 21 = .ok (.aload_n 0, 1) := by decide +kernel
theorem dX8_takeBook_22 : decode cX8_takeBook 22 = .ok (.aload_n 0, 1) := by decide +kernel
theorem dX8_takeBook_23 : decode cX8_takeBook 23 = .ok (.getfield 16, 3) := by decide +kernel
theorem dX8_takeBook_26 : decode cX8_takeBook 26 = .ok (.getfield 312, 3) := by decide +kernel
theorem dX8_takeBook_29 : decode cX8_takeBook 29 = .ok (.putfield 30, 3) := by decide +kernel
theorem dX8_takeBook_32 : decode cX8_takeBook 32 = .ok (.aload_n 0, 1) := by decide +kernel
theorem dX8_takeBook_33 : decode cX8_takeBook 33 = .ok (.getfield 16, 3) := by decide +kernel
theorem dX8_takeBook_36 : decode cX8_takeBook 36 = .ok (.aload_n 1, 1) := by decide +kernel
theorem dX8_takeBook_37 : decode cX8_takeBook 37 = .ok (.putfield 311, 3) := by decide +kernel
theorem dX8_takeBook_40 : decode cX8_takeBook 40 = .ok (.aload_n 0, 1) := by decide +kernel
theorem dX8_takeBook_41 : decode cX8_takeBook 41 = .ok (.getfield 16, 3) := by decide +kernel
theorem dX8_takeBook_44 : decode cX8_takeBook 44 = .ok (.aload_n 2, 1) := by decide +kernel
theorem dX8_takeBook_45 : decode cX8_takeBook 45 = .ok (.putfield 312, 3) := by decide +kernel
theorem dX8_takeBook_48 : decode cX8_takeBook 48 = .ok (.aload_n 0, 1) := by decide +kernel
theorem dX8_takeBook_49 : decode cX8_takeBook 49 = .ok (.getfield 37, 3) := by decide +kernel
theorem dX8_takeBook_52 : decode cX8_takeBook 52 = .ok (.invokevirtual 278, 3) := by decide +kernel
theorem dX8_takeBook_55 : decode cX8_takeBook 55 = .ok (.aload_n 0, 1) := by decide +kernel
theorem dX8_takeBook_56 : decode cX8_takeBook 56 = .ok (.iconst 0, 1) := by decide +kernel
theorem dX8_takeBook_57 : decode cX8_takeBook 57 = .ok (.putfield 272, 3) := by decide +kernel
theorem dX8_takeBook_60 : decode cX8_takeBook 60 = .ok (.aload_n 0, 1) := by decide +kernel
theorem dX8_takeBook_61 : decode cX8_takeBook 61 = .ok (.getfield 55, 3) := by decide +kernel
theorem dX8_takeBook_64 : decode cX8_takeBook 64 = .ok (.invokevirtual 313, 3) := by decide +kernel
theorem dX8_takeBook_67 : decode cX8_takeBook 67 = .ok (.return_, 1) := by decide +kernel
theorem dX8_isYear_0 : decode cX8_isYear 0 = .ok (.iload_n 0, 1) := by decide +kernel
theorem dX8_isYear_1 : decode cX8_isYear 1 = .ok (.ifCond .lt 14, 3) := by decide +kernel
theorem dX8_isYear_4 : decode cX8_isYear 4 = .ok (.iload_n 0, 1) := by decide +kernel
theorem dX8_isYear_5 : decode cX8_isYear 5 = .ok (.sipush 999, 3) := by decide +kernel
theorem dX8_isYear_8 : decode cX8_isYear 8 = .ok (.if_icmp .gt 7, 3) := by decide +kernel
theorem dX8_isYear_11 : decode cX8_isYear 11 = .ok (.iconst 1, 1) := by decide +kernel
theorem dX8_isYear_12 : decode cX8_isYear 12 = .ok (.goto 4, 3) := by decide +kernel
theorem dX8_isYear_15 : decode cX8_isYear 15 = .ok (.iconst 0, 1) := by decide +kernel
theorem dX8_isYear_16 : decode cX8_isYear 16 = .ok (.ireturn, 1) := by decide +kernel
theorem dX8_areUnlike_0 : decode cX8_areUnlike 0 = .ok (.aload_n 0, 1) := by decide +kernel
theorem dX8_areUnlike_1 : decode cX8_areUnlike 1 = .ok (.getfield 30, 3) := by decide +kernel
theorem dX8_areUnlike_4 : decode cX8_areUnlike 4 = .ok (.iload_n 1, 1) := by decide +kernel
theorem dX8_areUnlike_5 : decode cX8_areUnlike 5 = .ok (.invokevirtual 143, 3) := by decide +kernel
theorem dX8_areUnlike_8 : decode cX8_areUnlike 8 = .ok (.ifCond .eq 23, 3) := by decide +kernel
theorem dX8_areUnlike_11 : decode cX8_areUnlike 11 = .ok (.aload_n 0, 1) := by decide +kernel
theorem dX8_areUnlike_12 : decode cX8_areUnlike 12 = .ok (.getfield 30, 3) := by decide +kernel
theorem dX8_areUnlike_15 : decode cX8_areUnlike 15 = .ok (.iload_n 2, 1) := by decide +kernel
theorem dX8_areUnlike_16 : decode cX8_areUnlike 16 = .ok (.invokevirtual 143, 3) := by decide +kernel
theorem dX8_areUnlike_19 : decode cX8_areUnlike 19 = .ok (.ifCond .eq 12, 3) := by decide +kernel
theorem dX8_areUnlike_22 : decode cX8_areUnlike 22 = .ok (.iload_n 1, 1) := by decide +kernel
theorem dX8_areUnlike_23 : decode cX8_areUnlike 23 = .ok (.iload_n 2, 1) := by decide +kernel
theorem dX8_areUnlike_24 : decode cX8_areUnlike 24 = .ok (.if_icmp .eq 7, 3) := by decide +kernel
theorem dX8_areUnlike_27 : decode cX8_areUnlike 27 = .ok (.iconst 1, 1) := by decide +kernel
theorem dX8_areUnlike_28 : decode cX8_areUnlike 28 = .ok (.goto 4, 3) := by decide +kernel
theorem dX8_areUnlike_31 : decode cX8_areUnlike 31 = .ok (.iconst 0, 1) := by decide +kernel
theorem dX8_areUnlike_32 : decode cX8_areUnlike 32 = .ok (.ireturn, 1) := by decide +kernel
theorem dX8_looksAhead_0 : decode cX8_looksAhead 0 = .ok (.iload_n 1, 1) := by decide +kernel
theorem dX8_looksAhead_1 : decode cX8_looksAhead 1 = .ok (.invokestatic 107, 3) := by decide +kernel
theorem dX8_looksAhead_4 : decode cX8_looksAhead 4 = .ok (.ifCond .ne 9, 3) := by decide +kernel
theorem dX8_looksAhead_7 : decode cX8_looksAhead 7 = .ok (.aload_n 0, 1) := by decide +kernel
theorem dX8_looksAhead_8 : decode cX8_looksAhead 8 = .ok (.iconst 2, 1) := by decide +kernel
theorem dX8_looksAhead_9 : decode cX8_looksAhead 9 = .ok (.invokevirtual 230, 3) := by decide +kernel
theorem dX8_looksAhead_12 : decode cX8_looksAhead 12 = .ok (.ireturn, 1) := by decide +kernel
theorem dX8_looksAhead_13 : decode cX8_looksAhead 13 = .ok (.aload_n 0, 1) := by decide +kernel
theorem dX8_looksAhead_14 : decode cX8_looksAhead 14 = .ok (.getfield 23, 3) := by decide +kernel
theorem dX8_looksAhead_17 : decode cX8_looksAhead 17 = .ok (.invokevirtual 126, 3) := by decide +kernel
theorem dX8_looksAhead_20 : decode cX8_looksAhead 20 = .ok (.bipush 12, 2) := by decide +kernel
theorem dX8_looksAhead_22 : decode cX8_looksAhead 22 = .ok (.if_icmp .le 9, 3) := by decide +kernel
theorem dX8_looksAhead_25 : decode cX8_looksAhead 25 = .ok (.aload_n 0, 1) := by decide +kernel
theorem dX8_looksAhead_26 : decode cX8_looksAhead 26 = .ok (.iconst 3, 1) := by decide +kernel
theorem dX8_looksAhead_27 : decode cX8_looksAhead 27 = .ok (.invokevirtual 230, 3) := by decide +kernel
theorem dX8_looksAhead_30 : decode cX8_looksAhead 30 = .ok (.ireturn, 1) := by decide +kernel
theorem dX8_looksAhead_31 : decode cX8_looksAhead 31 = .ok (.aload_n 0, 1) := by decide +kernel
theorem dX8_looksAhead_32 : decode cX8_looksAhead 32 = .ok (.getfield 55, 3) := by decide +kernel
theorem dX8_looksAhead_35 : decode cX8_looksAhead 35 = .ok (.aload_n 0, 1) := by decide +kernel
theorem dX8_looksAhead_36 : decode cX8_looksAhead 36 = .ok (.getfield 23, 3) := by decide +kernel
theorem dX8_looksAhead_39 : decode cX8_looksAhead 39 = .ok (.aload_n 0, 1) := by decide +kernel
theorem dX8_looksAhead_40 : decode cX8_looksAhead 40 = .ok (.getfield 30, 3) := by decide +kernel
theorem dX8_looksAhead_43 : decode cX8_looksAhead 43 = .ok (.iload_n 1, 1) := by decide +kernel
theorem dX8_looksAhead_44 : decode cX8_looksAhead 44 = .ok (.iconst (-1), 1) := by decide +kernel
theorem dX8_looksAhead_45 : decode cX8_looksAhead 45 = .ok (.invokevirtual 226, 3) := by decide +kernel
theorem dX8_looksAhead_48 : decode cX8_looksAhead 48 = .ok (.aload_n 0, 1) := by decide +kernel
theorem dX8_looksAhead_49 : decode cX8_looksAhead 49 = .ok (.invokevirtual 247, 3) := by decide +kernel
theorem dX8_looksAhead_52 : decode cX8_looksAhead 52 = .ok (.ireturn, 1) := by decide +kernel
theorem dX8_colourIn_0 : decode cX8_colourIn 0 = .ok (.aload_n 0, 1) := by decide +kernel
theorem dX8_colourIn_1 : decode cX8_colourIn 1 = .ok (.getfield 30, 3) := by decide +kernel
theorem dX8_colourIn_4 : decode cX8_colourIn 4 = .ok (.getfield 81, 3) := by decide +kernel
theorem dX8_colourIn_7 : decode cX8_colourIn 7 = .ok (.iconst 1, 1) := by decide +kernel
theorem dX8_colourIn_8 : decode cX8_colourIn 8 = .ok (.isub, 1) := by decide +kernel
theorem dX8_colourIn_9 : decode cX8_colourIn 9 = .ok (.istore_n 3, 1) := by decide +kernel
theorem dX8_colourIn_10 : decode cX8_colourIn 10 = .ok (.iload_n 3, 1) := by decide +kernel
theorem dX8_colourIn_11 : decode cX8_colourIn 11 = .ok (.ifCond .lt 61, 3) := by decide +kernel
theorem dX8_colourIn_14 : decode cX8_colourIn 14 = .ok (.aload_n 0, 1) := by decide +kernel
theorem dX8_colourIn_15 : decode cX8_colourIn 15 = .ok (.getfield 30, 3) := by decide +kernel
theorem dX8_colourIn_18 : decode cX8_colourIn 18 = .ok (.iload_n 3, 1) := by decide +kernel
theorem dX8_colourIn_19 : decode cX8_colourIn 19 = .ok (.iload_n 1, 1) := by decide +kernel
theorem dX8_colourIn_20 : decode cX8_colourIn 20 = .ok (.invokevirtual 149, 3) := by decide +kernel
theorem dX8_colourIn_23 : decode cX8_colourIn 23 = .ok (.istore 4, 2) := by decide +kernel
theorem dX8_colourIn_25 : decode cX8_colourIn 25 = .ok (.iload_n 2, 1) := by decide +kernel
theorem dX8_colourIn_26 : decode cX8_colourIn 26 = .ok (.aload_n 0, 1) := by decide +kernel
theorem dX8_colourIn_27 : decode cX8_colourIn 27 = .ok (.getfield 30, 3) := by decide +kernel
theorem dX8_colourIn_30 : decode cX8_colourIn 30 = .ok (.iload_n 3, 1) := by decide +kernel
theorem dX8_colourIn_31 : decode cX8_colourIn 31 = .ok (.invokevirtual 137, 3) := by decide +kernel
theorem dX8_colourIn_34 : decode cX8_colourIn 34 = .ok (.isub, 1) := by decide +kernel
theorem dX8_colourIn_35 : decode cX8_colourIn 35 = .ok (.istore 5, 2) := by decide +kernel
theorem dX8_colourIn_37 : decode cX8_colourIn 37 = .ok (.iload 4, 2) := by decide +kernel
theorem dX8_colourIn_39 : decode cX8_colourIn 39 = .ok (.bipush (-2), 2) := by decide +kernel
theorem dX8_colourIn_41 : decode cX8_colourIn 41 = .ok (.if_icmp .eq 25, 3) := by decide +kernel
theorem dX8_colourIn_44 : decode cX8_colourIn 44 = .ok (.iload 5, 2) := by decide +kernel
theorem dX8_colourIn_46 : decode cX8_colourIn 46 = .ok (.ifCond .lt 20, 3) := by decide +kernel
theorem dX8_colourIn_49 : decode cX8_colourIn 49 = .ok (.aload_n 0, 1) := by decide +kernel
theorem dX8_colourIn_50 : decode cX8_colourIn 50 = .ok (.getfield 23, 3) := by decide +kernel
theorem dX8_colourIn_53 : decode cX8_colourIn 53 = .ok (.iload 4, 2) := by decide +kernel
theorem dX8_colourIn_55 : decode cX8_colourIn 55 = .ok (.iload 5, 2) := by decide +kernel
theorem dX8_colourIn_57 : decode cX8_colourIn 57 = .ok (.invokevirtual 314, 3) := by decide +kernel
theorem dX8_colourIn_60 : decode cX8_colourIn 60 = .ok (.ifCond .ne 6, 3) := by decide +kernel
theorem dX8_colourIn_63 : decode cX8_colourIn 63 = .ok (.iload 4, 2) := by decide +kernel
theorem dX8_colourIn_65 : decode cX8_colourIn 65 = .ok (.ireturn, 1) := by decide +kernel
theorem dX8_colourIn_66 : decode cX8_colourIn 66 = .ok (.iinc 3 (-1), 3) := by decide +kernel
theorem dX8_colourIn_69 : decode cX8_colourIn 69 = .ok (.goto (-59), 3) := by decide +kernel
theorem dX8_colourIn_72 : decode cX8_colourIn 72 = .ok (.bipush (-2), 2) := by decide +kernel
theorem dX8_colourIn_74 : decode cX8_colourIn 74 = .ok (.ireturn, 1) := by decide +kernel
theorem dX8_firstChange_0 : decode cX8_firstChange 0 = .ok (.aload_n 0, 1) := by decide +kernel
theorem dX8_firstChange_1 : decode cX8_firstChange 1 = .ok (.getfield 30, 3) := by decide +kernel
theorem dX8_firstChange_4 : decode cX8_firstChange 4 = .ok (.getfield 81, 3) := by decide +kernel
theorem dX8_firstChange_7 : decode cX8_firstChange 7 = .ok (.ifCond .ne 6, 3) := by decide +kernel
theorem dX8_firstChange_10 : decode cX8_firstChange 10 = .ok (.bipush (-2), 2) := by decide +kernel
theorem dX8_firstChange_12 : decode cX8_firstChange 12 = .ok (.ireturn, 1) := by decide +kernel
theorem dX8_firstChange_13 : decode cX8_firstChange 13 = .ok (.aload_n 0, 1) := by decide +kernel
theorem dX8_firstChange_14 : decode cX8_firstChange 14 = .ok (.getfield 30, 3) := by decide +kernel
theorem dX8_firstChange_17 : decode cX8_firstChange 17 = .ok (.invokevirtual 233, 3) := by decide +kernel
theorem dX8_firstChange_20 : decode cX8_firstChange 20 = .ok (.istore_n 2, 1) := by decide +kernel
theorem dX8_firstChange_21 : decode cX8_firstChange 21 = .ok (.aload_n 0, 1) := by decide +kernel
theorem dX8_firstChange_22 : decode cX8_firstChange 22 = .ok (.iload_n 1, 1) := by decide +kernel
theorem dX8_firstChange_23 : decode cX8_firstChange 23 = .ok (.iload_n 2, 1) := by decide +kernel
theorem dX8_firstChange_24 : decode cX8_firstChange 24 = .ok (.invokevirtual 111, 3) := by decide +kernel
theorem dX8_firstChange_27 : decode cX8_firstChange 27 = .ok (.istore_n 3, 1) := by decide +kernel
theorem dX8_firstChange_28 : decode cX8_firstChange 28 = .ok (.iload_n 2, 1) := by decide +kernel
theorem dX8_firstChange_29 : decode cX8_firstChange 29 = .ok (.iconst 1, 1) := by decide +kernel
theorem dX8_firstChange_30 : decode cX8_firstChange 30 = .ok (.iadd, 1) := by decide +kernel
theorem dX8_firstChange_31 : decode cX8_firstChange 31 = .ok (.istore 4, 2) := by decide +kernel
theorem dX8_firstChange_33 : decode cX8_firstChange 33 = .ok (.iload 4, 2) := by decide +kernel
theorem dX8_firstChange_35 : decode cX8_firstChange 35 = .ok (.sipush 999, 3) := by decide +kernel
theorem dX8_firstChange_38 : decode cX8_firstChange 38 = .ok (.if_icmp .gt 23, 3) := by decide +kernel
theorem dX8_firstChange_41 : decode cX8_firstChange 41 = .ok (.aload_n 0, 1) := by decide +kernel
theorem dX8_firstChange_42 : decode cX8_firstChange 42 = .ok (.iload_n 1, 1) := by decide +kernel
theorem dX8_firstChange_43 : decode cX8_firstChange 43 = .ok (.iload 4, 2) := by decide +kernel
theorem dX8_firstChange_45 : decode cX8_firstChange 45 = .ok (.invokevirtual 111, 3) := by decide +kernel
theorem dX8_firstChange_48 : decode cX8_firstChange 48 = .ok (.iload_n 3, 1) := by decide +kernel
theorem dX8_firstChange_49 : decode cX8_firstChange 49 = .ok (.if_icmp .eq 6, 3) := by decide +kernel
theorem dX8_firstChange_52 : decode cX8_firstChange 52 = .ok (.iload 4, 2) := by decide +kernel
theorem dX8_firstChange_54 : decode cX8_firstChange 54 = .ok (.ireturn, 1) := by decide +kernel
theorem dX8_firstChange_55 : decode cX8_firstChange 55 = .ok (.iinc 4 1, 3) := by decide +kernel
theorem dX8_firstChange_58 : decode cX8_firstChange 58 = .ok (.goto (-25), 3) := by decide +kernel
theorem dX8_firstChange_61 : decode cX8_firstChange 61 = .ok (.bipush (-2), 2) := by decide +kernel
theorem dX8_firstChange_63 : decode cX8_firstChange 63 = .ok (.ireturn, 1) := by decide +kernel
theorem dX8_thickAt_0 : decode cX8_thickAt 0 = .ok (.aload_n 0, 1) := by decide +kernel
theorem dX8_thickAt_1 : decode cX8_thickAt 1 = .ok (.getfield 23, 3) := by decide +kernel
theorem dX8_thickAt_4 : decode cX8_thickAt 4 = .ok (.iload_n 1, 1) := by decide +kernel
theorem dX8_thickAt_5 : decode cX8_thickAt 5 = .ok (.iload_n 2, 1) := by decide +kernel
theorem dX8_thickAt_6 : decode cX8_thickAt 6 = .ok (.invokevirtual 93, 3) := by decide +kernel
theorem dX8_thickAt_9 : decode cX8_thickAt 9 = .ok (.ifCond .ne 5, 3) := by decide +kernel
theorem dX8_thickAt_12 : decode cX8_thickAt 12 = .ok (.iconst 0, 1) := by decide +kernel
theorem dX8_thickAt_13 : decode cX8_thickAt 13 = .ok (.ireturn, 1) := by decide +kernel
theorem dX8_thickAt_14 : decode cX8_thickAt 14 = .ok (.aload_n 0, 1) := by decide +kernel
theorem dX8_thickAt_15 : decode cX8_thickAt 15 = .ok (.getfield 23, 3) := by decide +kernel
theorem dX8_thickAt_18 : decode cX8_thickAt 18 = .ok (.iload_n 1, 1) := by decide +kernel
theorem dX8_thickAt_19 : decode cX8_thickAt 19 = .ok (.iload_n 2, 1) := by decide +kernel
theorem dX8_thickAt_20 : decode cX8_thickAt 20 = .ok (.invokevirtual 97, 3) := by decide +kernel
theorem dX8_thickAt_23 : decode cX8_thickAt 23 = .ok (.istore_n 3, 1) := by decide +kernel
theorem dX8_thickAt_24 : decode cX8_thickAt 24 = .ok (.iconst 0, 1) := by decide +kernel
theorem dX8_thickAt_25 : decode cX8_thickAt 25 = .ok (.istore 4, 2) := by decide +kernel
theorem dX8_thickAt_27 : decode cX8_thickAt 27 = .ok (.iconst 0, 1) := by decide +kernel
theorem dX8_thickAt_28 : decode cX8_thickAt 28 = .ok (.istore 5, 2) := by decide +kernel
theorem dX8_thickAt_30 : decode cX8_thickAt 30 = .ok (.iload 5, 2) := by decide +kernel
theorem dX8_thickAt_32 : decode cX8_thickAt 32 = .ok (.aload_n 0, 1) := by decide +kernel
theorem dX8_thickAt_33 : decode cX8_thickAt 33 = .ok (.getfield 30, 3) := by decide +kernel
theorem dX8_thickAt_36 : decode cX8_thickAt 36 = .ok (.getfield 81, 3) := by decide +kernel
theorem dX8_thickAt_39 : decode cX8_thickAt 39 = .ok (.if_icmp .ge 31, 3) := by decide +kernel
theorem dX8_thickAt_42 : decode cX8_thickAt 42 = .ok (.iload 4, 2) := by decide +kernel
theorem dX8_thickAt_44 : decode cX8_thickAt 44 = .ok (.aload_n 0, 1) := by decide +kernel
theorem dX8_thickAt_45 : decode cX8_thickAt 45 = .ok (.getfield 23, 3) := by decide +kernel
theorem dX8_thickAt_48 : decode cX8_thickAt 48 = .ok (.aload_n 0, 1) := by decide +kernel
theorem dX8_thickAt_49 : decode cX8_thickAt 49 = .ok (.getfield 30, 3) := by decide +kernel
theorem dX8_thickAt_52 : decode cX8_thickAt 52 = .ok (.iload 5, 2) := by decide +kernel
theorem dX8_thickAt_54 : decode cX8_thickAt 54 = .ok (.iload_n 3, 1) := by decide +kernel
theorem dX8_thickAt_55 : decode cX8_thickAt 55 = .ok (.invokevirtual 149, 3) := by decide +kernel
theorem dX8_thickAt_58 : decode cX8_thickAt 58 = .ok (.invokevirtual 317, 3) := by decide +kernel
theorem dX8_thickAt_61 : decode cX8_thickAt 61 = .ok (.iadd, 1) := by decide +kernel
theorem dX8_thickAt_62 : decode cX8_thickAt 62 = .ok (.istore 4, 2) := by decide +kernel
theorem dX8_thickAt_64 : decode cX8_thickAt 64 = .ok (.iinc 5 1, 3) := by decide +kernel
theorem dX8_thickAt_67 : decode cX8_thickAt 67 = .ok (.goto (-37), 3) := by decide +kernel
theorem dX8_thickAt_70 : decode cX8_thickAt 70 = .ok (.iload 4, 2) := by decide +kernel
theorem dX8_thickAt_72 : decode cX8_thickAt 72 = .ok (.ireturn, 1) := by decide +kernel
theorem dX8_told_0 : decode cX8_told 0 = .ok (.aload_n 0, 1) := by decide +kernel
theorem dX8_told_1 : decode cX8_told 1 = .ok (.getfield 30, 3) := by decide +kernel
theorem dX8_told_4 : decode cX8_told 4 = .ok (.iload_n 1, 1) := by decide +kernel
theorem dX8_told_5 : decode cX8_told 5 = .ok (.invokevirtual 320, 3) := by decide +kernel
theorem dX8_told_8 : decode cX8_told 8 = .ok (.istore_n 3, 1) := by decide +kernel
theorem dX8_told_9 : decode cX8_told 9 = .ok (.iload_n 2, 1) := by decide +kernel
theorem dX8_told_10 : decode cX8_told 10 = .ok (.tableswitch 68 0 3 #[30, 39, 48, 53], 30) := by decide +kernel
theorem dX8_told_40 : decode cX8_told 40 = .ok (.aload_n 0, 1) := by decide +kernel
theorem dX8_told_41 : decode cX8_told 41 = .ok (.getfield 30, 3) := by decide +kernel
theorem dX8_told_44 : decode cX8_told 44 = .ok (.iload_n 1, 1) := by decide +kernel
theorem dX8_told_45 : decode cX8_told 45 = .ok (.invokevirtual 323, 3) := by decide +kernel
theorem dX8_told_48 : decode cX8_told 48 = .ok (.ireturn, 1) := by decide +kernel
theorem dX8_told_49 : decode cX8_told 49 = .ok (.aload_n 0, 1) := by decide +kernel
theorem dX8_told_50 : decode cX8_told 50 = .ok (.getfield 30, 3) := by decide +kernel
theorem dX8_told_53 : decode cX8_told 53 = .ok (.iload_n 1, 1) := by decide +kernel
theorem dX8_told_54 : decode cX8_told 54 = .ok (.invokevirtual 137, 3) := by decide +kernel
theorem dX8_told_57 : decode cX8_told 57 = .ok (.ireturn, 1) := by decide +kernel
theorem dX8_told_58 : decode cX8_told 58 = .ok (.iload_n 3, 1) := by decide +kernel
theorem dX8_told_59 : decode cX8_told 59 = .ok (.invokestatic 167, 3) := by decide +kernel
theorem dX8_told_62 : decode cX8_told 62 = .ok (.ireturn, 1) := by decide +kernel
theorem dX8_told_63 : decode cX8_told 63 = .ok (.aload_n 0, 1) := by decide +kernel
theorem dX8_told_64 : decode cX8_told 64 = .ok (.getfield 23, 3) := by decide +kernel
theorem dX8_told_67 : decode cX8_told 67 = .ok (.invokevirtual 326, 3) := by decide +kernel
theorem dX8_told_70 : decode cX8_told 70 = .ok (.iload_n 3, 1) := by decide +kernel
theorem dX8_told_71 : decode cX8_told 71 = .ok (.iconst (-1), 1) := by decide +kernel
theorem dX8_told_72 : decode cX8_told 72 = .ok (.ixor, 1) := by decide +kernel
theorem dX8_told_73 : decode cX8_told 73 = .ok (.iand, 1) := by decide +kernel
theorem dX8_told_74 : decode cX8_told 74 = .ok (.invokestatic 167, 3) := by decide +kernel
theorem dX8_told_77 : decode cX8_told 77 = .ok (.ireturn, 1) := by decide +kernel
theorem dX8_told_78 : decode cX8_told 78 = .ok (.aload_n 0, 1) := by decide +kernel
theorem dX8_told_79 : decode cX8_told 79 = .ok (.getfield 23, 3) := by decide +kernel
theorem dX8_told_82 : decode cX8_told 82 = .ok (.aload_n 0, 1) := by decide +kernel
theorem dX8_told_83 : decode cX8_told 83 = .ok (.getfield 23, 3) := by decide +kernel
theorem dX8_told_86 : decode cX8_told 86 = .ok (.invokevirtual 326, 3) := by decide +kernel
theorem dX8_told_89 : decode cX8_told 89 = .ok (.iload_n 3, 1) := by decide +kernel
theorem dX8_told_90 : decode cX8_told 90 = .ok (.iconst (-1), 1) := by decide +kernel
theorem dX8_told_91 : decode cX8_told 91 = .ok (.ixor, 1) := by decide +kernel
theorem dX8_told_92 : decode cX8_told 92 = .ok (.iand, 1) := by decide +kernel
theorem dX8_told_93 : decode cX8_told 93 = .ok (.invokevirtual 329, 3) := by decide +kernel
theorem dX8_told_96 : decode cX8_told 96 = .ok (.ireturn, 1) := by decide +kernel
theorem dX8_bareCell_0 : decode cX8_bareCell 0 = .ok (.iconst 0, 1) := by decide +kernel
theorem dX8_bareCell_1 : decode cX8_bareCell 1 = .ok (.istore_n 2, 1) := by decide +kernel
theorem dX8_bareCell_2 : decode cX8_bareCell 2 = .ok (.iconst 0, 1) := by decide +kernel
theorem dX8_bareCell_3 : decode cX8_bareCell 3 = .ok (.istore_n 3, 1) := by decide +kernel
theorem dX8_bareCell_4 : decode cX8_bareCell 4 = .ok (.iload_n 3, 1) := by decide +kernel
theorem dX8_bareCell_5 : decode cX8_bareCell 5 = .ok (.aload_n 0, 1) := by decide +kernel
theorem dX8_bareCell_6 : decode cX8_bareCell 6 = .ok (.getfield 23, 3) := by decide +kernel
theorem dX8_bareCell_9 : decode cX8_bareCell 9 = .ok (.invokevirtual 126, 3) := by decide +kernel
theorem dX8_bareCell_12 : decode cX8_bareCell 12 = .ok (.if_icmp .ge 33, 3) := by decide +kernel
theorem dX8_bareCell_15 : decode cX8_bareCell 15 = .ok (.aload_n 0, 1) := by decide +kernel
theorem dX8_bareCell_16 : decode cX8_bareCell 16 = .ok (.getfield 30, 3) := by decide +kernel
theorem dX8_bareCell_19 : decode cX8_bareCell 19 = .ok (.iload_n 3, 1) := by decide +kernel
theorem dX8_bareCell_20 : decode cX8_bareCell 20 = .ok (.iconst 0, 1) := by decide +kernel
theorem dX8_bareCell_21 : decode cX8_bareCell 21 = .ok (.invokevirtual 114, 3) := by decide +kernel
theorem dX8_bareCell_24 : decode cX8_bareCell 24 = .ok (.bipush (-2), 2) := by decide +kernel
theorem dX8_bareCell_26 : decode cX8_bareCell 26 = .ok (.if_icmp .ne 13, 3) := by decide +kernel
theorem dX8_bareCell_29 : decode cX8_bareCell 29 = .ok (.iload_n 2, 1) := by decide +kernel
theorem dX8_bareCell_30 : decode cX8_bareCell 30 = .ok (.iload_n 1, 1) := by decide +kernel
theorem dX8_bareCell_31 : decode cX8_bareCell 31 = .ok (.if_icmp .ne 5, 3) := by decide +kernel
theorem dX8_bareCell_34 : decode cX8_bareCell 34 = .ok (.iload_n 3, 1) := by decide +kernel
theorem dX8_bareCell_35 : decode cX8_bareCell 35 = .ok (.ireturn, 1) := by decide +kernel
theorem dX8_bareCell_36 : decode cX8_bareCell 36 = .ok (.iinc 2 1, 3) := by decide +kernel
theorem dX8_bareCell_39 : decode cX8_bareCell 39 = .ok (.iinc 3 1, 3) := by decide +kernel
theorem dX8_bareCell_42 : decode cX8_bareCell 42 = .ok (.goto (-38), 3) := by decide +kernel
theorem dX8_bareCell_45 : decode cX8_bareCell 45 = .ok (.iconst (-1), 1) := by decide +kernel
theorem dX8_bareCell_46 : decode cX8_bareCell 46 = .ok (.ireturn, 1) := by decide +kernel
theorem dX8_firstOf_0 : decode cX8_firstOf 0 = .ok (.iload_n 0, 1) := by decide +kernel
theorem dX8_firstOf_1 : decode cX8_firstOf 1 = .ok (.ifCond .ne 7, 3) := by decide +kernel
theorem dX8_firstOf_4 : decode cX8_firstOf 4 = .ok (.iconst (-1), 1) := by decide +kernel
theorem dX8_firstOf_5 : decode cX8_firstOf 5 = .ok (.goto 12, 3) := by decide +kernel
theorem dX8_firstOf_8 : decode cX8_firstOf 8 = .ok (.iload_n 0, 1) := by decide +kernel
theorem dX8_firstOf_9 : decode cX8_firstOf 9 = .ok (.iload_n 0, 1) := by decide +kernel
theorem dX8_firstOf_10 : decode cX8_firstOf 10 = .ok (.ineg, 1) := by decide +kernel
theorem dX8_firstOf_11 : decode cX8_firstOf 11 = .ok (.iand, 1) := by decide +kernel
theorem dX8_firstOf_12 : decode cX8_firstOf 12 = .ok (.iconst 1, 1) := by decide +kernel
theorem dX8_firstOf_13 : decode cX8_firstOf 13 = .ok (.isub, 1) := by decide +kernel
theorem dX8_firstOf_14 : decode cX8_firstOf 14 = .ok (.invokestatic 167, 3) := by decide +kernel
theorem dX8_firstOf_17 : decode cX8_firstOf 17 = .ok (.ireturn, 1) := by decide +kernel
theorem dX9_init_0 : decode cX9_init 0 = .ok (.aload_n 0, 1) := by decide +kernel
theorem dX9_init_1 : decode cX9_init 1 = .ok (.invokespecial 1, 3) := by decide +kernel
theorem dX9_init_4 : decode cX9_init 4 = .ok (.aload_n 0, 1) := by decide +kernel
theorem dX9_init_5 : decode cX9_init 5 = .ok (.sipush 900, 3) := by decide +kernel
theorem dX9_init_8 : decode cX9_init 8 = .ok (.newarray .int, 2) := by decide +kernel
theorem dX9_init_10 : decode cX9_init 10 = .ok (.putfield 7, 3) := by decide +kernel
theorem dX9_init_13 : decode cX9_init 13 = .ok (.aload_n 0, 1) := by decide +kernel
theorem dX9_init_14 : decode cX9_init 14 = .ok (.iconst (-1), 1) := by decide +kernel
theorem dX9_init_15 : decode cX9_init 15 = .ok (.putfield 13, 3) := by decide +kernel
theorem dX9_init_18 : decode cX9_init 18 = .ok (.aload_n 0, 1) := by decide +kernel
theorem dX9_init_19 : decode cX9_init 19 = .ok (.bipush 8, 2) := by decide +kernel
theorem dX9_init_21 : decode cX9_init 21 = .ok (.newarray .int, 2) := by decide +kernel
theorem dX9_init_23 : decode cX9_init 23 = .ok (.putfield 17, 3) := by decide +kernel
theorem dX9_init_26 : decode cX9_init 26 = .ok (.aload_n 0, 1) := by decide +kernel
theorem dX9_init_27 : decode cX9_init 27 = .ok (.sipush 161, 3) := by decide +kernel
theorem dX9_init_30 : decode cX9_init 30 = .ok (.newarray .int, 2) := by decide +kernel
theorem dX9_init_32 : decode cX9_init 32 = .ok (.putfield 20, 3) := by decide +kernel
theorem dX9_init_35 : decode cX9_init 35 = .ok (.aload_n 0, 1) := by decide +kernel
theorem dX9_init_36 : decode cX9_init 36 = .ok (.sipush 161, 3) := by decide +kernel
theorem dX9_init_39 : decode cX9_init 39 = .ok (.newarray .int, 2) := by decide +kernel
theorem dX9_init_41 : decode cX9_init 41 = .ok (.putfield 23, 3) := by decide +kernel
theorem dX9_init_44 : decode cX9_init 44 = .ok (.aload_n 0, 1) := by decide +kernel
theorem dX9_init_45 : decode cX9_init 45 = .ok (.sipush 340, 3) := by decide +kernel
theorem dX9_init_48 : decode cX9_init 48 = .ok (.newarray .int, 2) := by decide +kernel
theorem dX9_init_50 : decode cX9_init 50 = .ok (.putfield 26, 3) := by decide +kernel
theorem dX9_init_53 : decode cX9_init 53 = .ok (.aload_n 0, 1) := by decide +kernel
theorem dX9_init_54 : decode cX9_init 54 = .ok (.sipush 340, 3) := by decide +kernel
theorem dX9_init_57 : decode cX9_init 57 = .ok (.newarray .int, 2) := by decide +kernel
theorem dX9_init_59 : decode cX9_init 59 = .ok (.putfield 29, 3) := by decide +kernel
theorem dX9_init_62 : decode cX9_init 62 = .ok (.aload_n 0, 1) := by decide +kernel
theorem dX9_init_63 : decode cX9_init 63 = .ok (.sipush 340, 3) := by decide +kernel
theorem dX9_init_66 : decode cX9_init 66 = .ok (.newarray .int, 2) := by decide +kernel
theorem dX9_init_68 : decode cX9_init 68 = .ok (.putfield 32, 3) := by decide +kernel
theorem dX9_init_71 : decode cX9_init 71 = .ok (.aload_n 0, 1) := by decide +kernel
theorem dX9_init_72 : decode cX9_init 72 = .ok (.sipush 2720, 3) := by decide +kernel
theorem dX9_init_75 : decode cX9_init 75 = .ok (.newarray .int, 2) := by decide +kernel
theorem dX9_init_77 : decode cX9_init 77 = .ok (.putfield 35, 3) := by decide +kernel
theorem dX9_init_80 : decode cX9_init 80 = .ok (.aload_n 0, 1) := by decide +kernel
theorem dX9_init_81 : decode cX9_init 81 = .ok (.sipush 1020, 3) := by decide +kernel
theorem dX9_init_84 : decode cX9_init 84 = .ok (.newarray .int, 2) := by decide +kernel
theorem dX9_init_86 : decode cX9_init 86 = .ok (.putfield 38, 3) := by decide +kernel
theorem dX9_init_89 : decode cX9_init 89 = .ok (.aload_n 0, 1) := by decide +kernel
theorem dX9_init_90 : decode cX9_init 90 = .ok (.bipush 12, 2) := by decide +kernel
theorem dX9_init_92 : decode cX9_init 92 = .ok (.newarray .int, 2) := by decide +kernel
theorem dX9_init_94 : decode cX9_init 94 = .ok (.putfield 41, 3) := by decide +kernel
theorem dX9_init_97 : decode cX9_init 97 = .ok (.aload_n 0, 1) := by decide +kernel
theorem dX9_init_98 : decode cX9_init 98 = .ok (.sipush 4096, 3) := by decide +kernel
theorem dX9_init_101 : decode cX9_init 101 = .ok (.newarray .long, 2) := by decide +kernel
theorem dX9_init_103 : decode cX9_init 103 = .ok (.putfield 44, 3) := by decide +kernel
theorem dX9_init_106 : decode cX9_init 106 = .ok (.aload_n 0, 1) := by decide +kernel
theorem dX9_init_107 : decode cX9_init 107 = .ok (.sipush 4096, 3) := by decide +kernel
theorem dX9_init_110 : decode cX9_init 110 = .ok (.newarray .int, 2) := by decide +kernel
theorem dX9_init_112 : decode cX9_init 112 = .ok (.putfield 48, 3) := by decide +kernel
theorem dX9_init_115 : decode cX9_init 115 = .ok (.aload_n 0, 1) := by decide +kernel
theorem dX9_init_116 : decode cX9_init 116 = .ok (.sipush 4096, 3) := by decide +kernel
theorem dX9_init_119 : decode cX9_init 119 = .ok (.newarray .boolean, 2) := by decide +kernel
theorem dX9_init_121 : decode cX9_init 121 = .ok (.putfield 51, 3) := by decide +kernel
theorem dX9_init_124 : decode cX9_init 124 = .ok (.return_, 1) := by decide +kernel
theorem dX9_thrown_0 : decode cX9_thrown 0 = .ok (.aload_n 0, 1) := by decide +kernel
theorem dX9_thrown_1 : decode cX9_thrown 1 = .ok (.getfield 55, 3) := by decide +kernel
theorem dX9_thrown_4 : decode cX9_thrown 4 = .ok (.ireturn, 1) := by decide +kernel
theorem dX9_good_0 : decode cX9_good 0 = .ok (.aload_n 0, 1) := by decide +kernel
theorem dX9_good_1 : decode cX9_good 1 = .ok (.iconst 0, 1) := by decide +kernel
theorem dX9_good_2 : decode cX9_good 2 = .ok (.putfield 55, 3) := by decide +kernel
theorem dX9_good_5 : decode cX9_good 5 = .ok (.aload_n 0, 1) := by decide +kernel
theorem dX9_good_6 : decode cX9_good 6 = .ok (.iconst 0, 1) := by decide +kernel
theorem dX9_good_7 : decode cX9_good 7 = .ok (.putfield 58, 3) := by decide +kernel
theorem dX9_good_10 : decode cX9_good 10 = .ok (.return_, 1) := by decide +kernel
theorem dX9_no_0 : decode cX9_no 0 = .ok (.aload_n 0, 1) := by decide +kernel
theorem dX9_no_1 : decode cX9_no 1 = .ok (.iload_n 1, 1) := by decide +kernel
theorem dX9_no_2 : decode cX9_no 2 = .ok (.putfield 58, 3) := by decide +kernel
theorem dX9_no_5 : decode cX9_no 5 = .ok (.iconst (-1), 1) := by decide +kernel
theorem dX9_no_6 : decode cX9_no 6 = .ok (.ireturn, 1) := by decide +kernel
theorem dX9_isNot_0 : decode cX9_isNot 0 = .ok (.aload_n 0, 1) := by decide +kernel
theorem dX9_isNot_1 : decode cX9_isNot 1 = .ok (.iload_n 1, 1) := by decide +kernel
theorem dX9_isNot_2 : decode cX9_isNot 2 = .ok (.putfield 58, 3) := by decide +kernel
theorem dX9_isNot_5 : decode cX9_isNot 5 = .ok (.iconst 0, 1) := by decide +kernel
theorem dX9_isNot_6 : decode cX9_isNot 6 = .ok (.ireturn, 1) := by decide +kernel
theorem dX9_within_0 : decode cX9_within 0 = .ok (.iload_n 0, 1) := by decide +kernel
theorem dX9_within_1 : decode cX9_within 1 = .ok (.iload_n 1, 1) := by decide +kernel
theorem dX9_within_2 : decode cX9_within 2 = .ok (.if_icmp .lt 12, 3) := by decide +kernel
theorem dX9_within_5 : decode cX9_within 5 = .ok (.iload_n 0, 1) := by decide +kernel
theorem dX9_within_6 : decode cX9_within 6 = .ok (.iload_n 2, 1) := by decide +kernel
theorem dX9_within_7 : decode cX9_within 7 = .ok (.if_icmp .gt 7, 3) := by decide +kernel
theorem dX9_within_10 : decode cX9_within 10 = .ok (.iconst 1, 1) := by decide +kernel
theorem dX9_within_11 : decode cX9_within 11 = .ok (.goto 4, 3) := by decide +kernel
theorem dX9_within_14 : decode cX9_within 14 = .ok (.iconst 0, 1) := by decide +kernel
theorem dX9_within_15 : decode cX9_within 15 = .ok (.ireturn, 1) := by decide +kernel
theorem dX9_has_0 : decode cX9_has 0 = .ok (.iload_n 0, 1) := by decide +kernel
theorem dX9_has_1 : decode cX9_has 1 = .ok (.iload_n 1, 1) := by decide +kernel
theorem dX9_has_2 : decode cX9_has 2 = .ok (.ishr, 1) := by decide +kernel
theorem dX9_has_3 : decode cX9_has 3 = .ok (.iconst 1, 1) := by decide +kernel
theorem dX9_has_4 : decode cX9_has 4 = .ok (.iand, 1) := by decide +kernel
theorem dX9_has_5 : decode cX9_has 5 = .ok (.iconst 1, 1) := by decide +kernel
theorem dX9_has_6 : decode cX9_has 6 = .ok (.if_icmp .ne 7, 3) := by decide +kernel
theorem dX9_has_9 : decode cX9_has 9 = .ok (.iconst 1, 1) := by decide +kernel
theorem dX9_has_10 : decode cX9_has 10 = .ok (.goto 4, 3) := by decide +kernel
theorem dX9_has_13 : decode cX9_has 13 = .ok (.iconst 0, 1) := by decide +kernel
theorem dX9_has_14 : decode cX9_has 14 = .ok (.ireturn, 1) := by decide +kernel
theorem dX9_bits_0 : decode cX9_bits 0 = .ok (.iconst 0, 1) := by decide +kernel
theorem dX9_bits_1 : decode cX9_bits 1 = .ok (.istore_n 1, 1) := by decide +kernel
theorem dX9_bits_2 : decode cX9_bits 2 = .ok (.iconst 0, 1) := by decide +kernel
theorem dX9_bits_3 : decode cX9_bits 3 = .ok (.istore_n 2, 1) := by decide +kernel
theorem dX9_bits_4 : decode cX9_bits 4 = .ok (.iload_n 2, 1) := by decide +kernel
theorem dX9_bits_5 : decode cX9_bits 5 = .ok (.bipush 24, 2) := by decide +kernel
theorem dX9_bits_7 : decode cX9_bits 7 = .ok (.if_icmp .ge 17, 3) := by decide +kernel
theorem dX9_bits_10 : decode cX9_bits 10 = .ok (.iload_n 1, 1) := by decide +kernel
theorem dX9_bits_11 : decode cX9_bits 11 = .ok (.iload_n 0, 1) := by decide +kernel
theorem dX9_bits_12 : decode cX9_bits 12 = .ok (.iload_n 2, 1) := by decide +kernel
theorem dX9_bits_13 : decode cX9_bits 13 = .ok (.ishr, 1) := by decide +kernel
theorem dX9_bits_14 : decode cX9_bits 14 = .ok (.iconst 1, 1) := by decide +kernel
theorem dX9_bits_15 : decode cX9_bits 15 = .ok (.iand, 1) := by decide +kernel
theorem dX9_bits_16 : decode cX9_bits 16 = .ok (.iadd, 1) := by decide +kernel
theorem dX9_bits_17 : decode cX9_bits 17 = .ok (.istore_n 1, 1) := by decide +kernel
theorem dX9_bits_18 : decode cX9_bits 18 = .ok (.iinc 2 1, 3) := by decide +kernel
theorem dX9_bits_21 : decode cX9_bits 21 = .ok (.goto (-17), 3) := by decide +kernel
theorem dX9_bits_24 : decode cX9_bits 24 = .ok (.iload_n 1, 1) := by decide +kernel
theorem dX9_bits_25 : decode cX9_bits 25 = .ok (.ireturn, 1) := by decide +kernel
theorem dX9_copy_0 : decode cX9_copy 0 = .ok (.iconst 0, 1) := by decide +kernel
theorem dX9_copy_1 : decode cX9_copy 1 = .ok (.istore 5, 2) := by decide +kernel
theorem dX9_copy_3 : decode cX9_copy 3 = .ok (.iload 5, 2) := by decide +kernel
theorem dX9_copy_5 : decode cX9_copy 5 = .ok (.iload 4, 2) := by decide +kernel
theorem dX9_copy_7 : decode cX9_copy 7 = .ok (.if_icmp .ge 21, 3) := by decide +kernel
theorem dX9_copy_10 : decode cX9_copy 10 = .ok (.aload_n 2, 1) := by decide +kernel
theorem dX9_copy_11 : decode cX9_copy 11 = .ok (.iload_n 3, 1) := by decide +kernel
theorem dX9_copy_12 : decode cX9_copy 12 = .ok (.iload 5, 2) := by decide +kernel
theorem dX9_copy_14 : decode cX9_copy 14 = .ok (.iadd, 1) := by decide +kernel
theorem dX9_copy_15 : decode cX9_copy 15 = .ok (.aload_n 0, 1) := by decide +kernel
theorem dX9_copy_16 : decode cX9_copy 16 = .ok (.iload_n 1, 1) := by decide +kernel
theorem dX9_copy_17 : decode cX9_copy 17 = .ok (.iload 5, 2) := by decide +kernel
theorem dX9_copy_19 : decode cX9_copy 19 = .ok (.iadd, 1) := by decide +kernel
theorem dX9_copy_20 : decode cX9_copy 20 = .ok (.iaload, 1) := by decide +kernel
theorem dX9_copy_21 : decode cX9_copy 21 = .ok (.iastore, 1) := by decide +kernel
theorem dX9_copy_22 : decode cX9_copy 22 = .ok (.iinc 5 1, 3) := by decide +kernel
theorem dX9_copy_25 : decode cX9_copy 25 = .ok (.goto (-22), 3) := by decide +kernel
theorem dX9_copy_28 : decode cX9_copy 28 = .ok (.return_, 1) := by decide +kernel
theorem dX9_feed_0 : decode cX9_feed 0 = .ok (.aload_n 0, 1) := by decide +kernel
theorem dX9_feed_1 : decode cX9_feed 1 = .ok (.iconst 0, 1) := by decide +kernel
theorem dX9_feed_2 : decode cX9_feed 2 = .ok (.putfield 55, 3) := by decide +kernel
theorem dX9_feed_5 : decode cX9_feed 5 = .ok (.aload_n 0, 1) := by decide +kernel
theorem dX9_feed_6 : decode cX9_feed 6 = .ok (.getfield 61, 3) := by decide +kernel
theorem dX9_feed_9 : decode cX9_feed 9 = .ok (.bipush 20, 2) := by decide +kernel
theorem dX9_feed_11 : decode cX9_feed 11 = .ok (.iadd, 1) := by decide +kernel
theorem dX9_feed_12 : decode cX9_feed 12 = .ok (.sipush 900, 3) := by decide +kernel
theorem dX9_feed_15 : decode cX9_feed 15 = .ok (.if_icmp .le 5, 3) := by decide +kernel
theorem dX9_feed_18 : decode cX9_feed 18 = .ok (.iconst (-1), 1) := by decide +kernel
theorem dX9_feed_19 : decode cX9_feed 19 = .ok (.ireturn, 1) := by decide +kernel
theorem dX9_feed_20 : decode cX9_feed 20 = .ok (.iconst 0, 1) := by decide +kernel
theorem dX9_feed_21 : decode cX9_feed 21 = .ok (.istore 6, 2) := by decide +kernel
theorem dX9_feed_23 : decode cX9_feed 23 = .ok (.iload 6, 2) := by decide +kernel
theorem dX9_feed_25 : decode cX9_feed 25 = .ok (.bipush 20, 2) := by decide +kernel
theorem dX9_feed_27 : decode cX9_feed 27 = .ok (.if_icmp .ge 93, 3) := by decide +kernel
theorem dX9_feed_30 : decode cX9_feed 30 = .ok (.iload 6, 2) := by decide +kernel
theorem dX9_feed_32 : decode cX9_feed 32 = .ok (.iconst 4, 1) := by decide +kernel
theorem dX9_feed_33 : decode cX9_feed 33 = .ok (.if_icmp .ge 7, 3) := by decide +kernel
theorem dX9_feed_36 : decode cX9_feed 36 = .ok (.iload_n 1, 1) := by decide +kernel
theorem dX9_feed_37 : decode cX9_feed 37 = .ok (.goto 39, 3) := by decide +kernel
theorem dX9_feed_40 : decode cX9_feed 40 = .ok (.iload 6, 2) := by decide +kernel
theorem dX9_feed_42 : decode cX9_feed 42 = .ok (.bipush 8, 2) := by decide +kernel
theorem dX9_feed_44 : decode cX9_feed 44 = .ok (.if_icmp .ge 7, 3) := by decide +kernel
theorem dX9_feed_47 : decode cX9_feed 47 = .ok (.iload_n 2, 1) := by decide +kernel
theorem dX9_feed_48 : decode cX9_feed 48 = .ok (.goto 28, 3) := by decide +kernel
theorem dX9_feed_51 : decode cX9_feed 51 = .ok (.iload 6, 2) := by decide +kernel
theorem dX9_feed_53 : decode cX9_feed 53 = .ok (.bipush 12, 2) := by decide +kernel
theorem dX9_feed_55 : decode cX9_feed 55 = .ok (.if_icmp .ge 7, 3) := by decide +kernel
theorem dX9_feed_58 : decode cX9_feed 58 = .ok (.iload_n 3, 1) := by decide +kernel
theorem dX9_feed_59 : decode cX9_feed 59 = .ok (.goto 17, 3) := by decide +kernel
theorem dX9_feed_62 : decode cX9_feed 62 = .ok (.iload 6, 2) := by decide +kernel
theorem dX9_feed_64 : decode cX9_feed 64 = .ok (.bipush 16, 2) := by decide +kernel
theorem dX9_feed_66 : decode cX9_feed 66 = .ok (.if_icmp .ge 8, 3) := by decide +kernel
theorem dX9_feed_69 : decode cX9_feed 69 = .ok (.iload 4, 2) := by decide +kernel
theorem dX9_feed_71 : decode cX9_feed 71 = .ok (.goto 5, 3) := by decide +kernel
theorem dX9_feed_74 : decode cX9_feed 74 = .ok (.iload 5, 2) := by decide +kernel
theorem dX9_feed_76 : decode cX9_feed 76 = .ok (.istore 7, 2) := by decide +kernel
theorem dX9_feed_78 : decode cX9_feed 78 = .ok (.aload_n 0, 1) := by decide +kernel
theorem dX9_feed_79 : decode cX9_feed 79 = .ok (.getfield 7, 3) := by decide +kernel
theorem dX9_feed_82 : decode cX9_feed 82 = .ok (.aload_n 0, 1) := by decide +kernel
theorem dX9_feed_83 : decode cX9_feed 83 = .ok (.getfield 61, 3) := by decide +kernel
theorem dX9_feed_86 : decode cX9_feed 86 = .ok (.iload 7, 2) := by decide +kernel
theorem dX9_feed_88 : decode cX9_feed 88 = .ok (.bipush 24, 2) := by decide +kernel
theorem dX9_feed_90 : decode cX9_feed 90 = .ok (.bipush 8, 2) := by decide +kernel
theorem dX9_feed_92 : decode cX9_feed 92 = .ok (.iload 6, 2) := by decide +kernel
theorem dX9_feed_94 : decode cX9_feed 94 = .ok (.iconst 4, 1) := by decide +kernel
theorem dX9_feed_95 : decode cX9_feed 95 = .ok (.irem, 1) := by decide +kernel
theorem dX9_feed_96 : decode cX9_feed 96 = .ok (.imul, 1) := by decide +kernel
theorem dX9_feed_97 : decode cX9_feed 97 = .ok (.isub, 1) := by decide +kernel
theorem dX9_feed_98 : decode cX9_feed 98 = .ok (.ishr, 1) := by decide +kernel
theorem dX9_feed_99 : decode cX9_feed 99 = .ok (.sipush 255, 3) := by decide +kernel
theorem dX9_feed_102 : decode cX9_feed 102 = .ok (.iand, 1) := by decide +kernel
theorem dX9_feed_103 : decode cX9_feed 103 = .ok (.iastore, 1) := by decide +kernel
theorem dX9_feed_104 : decode cX9_feed 104 = .ok (.aload_n 0, 1) := by decide +kernel
theorem dX9_feed_105 : decode cX9_feed 105 = .ok (.dup, 1) := by decide +kernel
theorem dX9_feed_106 : decode cX9_feed 106 = .ok (.getfield 61, 3) := by decide +kernel
theorem dX9_feed_109 : decode cX9_feed 109 = .ok (.iconst 1, 1) := by decide +kernel
theorem dX9_feed_110 : decode cX9_feed 110 = .ok (.iadd, 1) := by decide +kernel
theorem dX9_feed_111 : decode cX9_feed 111 = .ok (.putfield 61, 3) := by decide +kernel
theorem dX9_feed_114 : decode cX9_feed 114 = .ok (.iinc 6 1, 3) := by decide +kernel
theorem dX9_feed_117 : decode cX9_feed 117 = .ok (.goto (-94), 3) := by decide +kernel
theorem dX9_feed_120 : decode cX9_feed 120 = .ok (.aload_n 0, 1) := by decide +kernel
theorem dX9_feed_121 : decode cX9_feed 121 = .ok (.getfield 61, 3) := by decide +kernel
theorem dX9_feed_124 : decode cX9_feed 124 = .ok (.ireturn, 1) := by decide +kernel
theorem dX9_look_0 : decode cX9_look 0 = .ok (.iload_n 1, 1) := by decide +kernel
theorem dX9_look_1 : decode cX9_look 1 = .ok (.aload_n 0, 1) := by decide +kernel
theorem dX9_look_2 : decode cX9_look 2 = .ok (.getfield 64, 3) := by decide +kernel
theorem dX9_look_5 : decode cX9_look 5 = .ok (.if_icmp .ge 12, 3) := by decide +kernel
theorem dX9_look_8 : decode cX9_look 8 = .ok (.aload_n 0, 1) := by decide +kernel
theorem dX9_look_9 : decode cX9_look 9 = .ok (.getfield 7, 3) := by decide +kernel
theorem dX9_look_12 : decode cX9_look 12 = .ok (.iload_n 1, 1) := by decide +kernel
theorem dX9_look_13 : decode cX9_look 13 = .ok (.iaload, 1) := by decide +kernel
theorem dX9_look_14 : decode cX9_look 14 = .ok (.goto 4, 3) := by decide +kernel
theorem dX9_look_17 : decode cX9_look 17 = .ok (.iconst (-1), 1) := by decide +kernel
theorem dX9_look_18 : decode cX9_look 18 = .ok (.ireturn, 1) := by decide +kernel
theorem dX9_isSmall_0 : decode cX9_isSmall 0 = .ok (.iload_n 0, 1) := by decide +kernel
theorem dX9_isSmall_1 : decode cX9_isSmall 1 = .ok (.bipush 97, 2) := by decide +kernel
theorem dX9_isSmall_3 : decode cX9_isSmall 3 = .ok (.if_icmp .lt 13, 3) := by decide +kernel
theorem dX9_isSmall_6 : decode cX9_isSmall 6 = .ok (.iload_n 0, 1) := by decide +kernel
theorem dX9_isSmall_7 : decode cX9_isSmall 7 = .ok (.bipush 122, 2) := by decide +kernel
theorem dX9_isSmall_9 : decode cX9_isSmall 9 = .ok (.if_icmp .gt 7, 3) := by decide +kernel
theorem dX9_isSmall_12 : decode cX9_isSmall 12 = .ok (.iconst 1, 1) := by decide +kernel
theorem dX9_isSmall_13 : decode cX9_isSmall 13 = .ok (.goto 4, 3) := by decide +kernel
theorem dX9_isSmall_16 : decode cX9_isSmall 16 = .ok (.iconst 0, 1) := by decide +kernel
theorem dX9_isSmall_17 : decode cX9_isSmall 17 = .ok (.ireturn, 1) := by decide +kernel
theorem dX9_isDigit_0 : decode cX9_isDigit 0 = .ok (.iload_n 0, 1) := by decide +kernel
theorem dX9_isDigit_1 : decode cX9_isDigit 1 = .ok (.bipush 48, 2) := by decide +kernel
theorem dX9_isDigit_3 : decode cX9_isDigit 3 = .ok (.if_icmp .lt 13, 3) := by decide +kernel
theorem dX9_isDigit_6 : decode cX9_isDigit 6 = .ok (.iload_n 0, 1) := by decide +kernel
theorem dX9_isDigit_7 : decode cX9_isDigit 7 = .ok (.bipush 57, 2) := by decide +kernel
theorem dX9_isDigit_9 : decode cX9_isDigit 9 = .ok (.if_icmp .gt 7, 3) := by decide +kernel
theorem dX9_isDigit_12 : decode cX9_isDigit 12 = .ok (.iconst 1, 1) := by decide +kernel
theorem dX9_isDigit_13 : decode cX9_isDigit 13 = .ok (.goto 4, 3) := by decide +kernel
theorem dX9_isDigit_16 : decode cX9_isDigit 16 = .ok (.iconst 0, 1) := by decide +kernel
theorem dX9_isDigit_17 : decode cX9_isDigit 17 = .ok (.ireturn, 1) := by decide +kernel
theorem dX9_next_0 : decode cX9_next 0 = .ok (.aload_n 0, 1) := by decide +kernel
theorem dX9_next_1 : decode cX9_next 1 = .ok (.getfield 67, 3) := by decide +kernel
theorem dX9_next_4 : decode cX9_next 4 = .ok (.istore_n 1, 1) := by decide +kernel
theorem dX9_next_5 : decode cX9_next 5 = .ok (.aload_n 0, 1) := by decide +kernel
theorem dX9_next_6 : decode cX9_next 6 = .ok (.iload_n 1, 1) := by decide +kernel
theorem dX9_next_7 : decode cX9_next 7 = .ok (.invokevirtual 70, 3) := by decide +kernel
theorem dX9_next_10 : decode cX9_next 10 = .ok (.bipush 32, 2) := by decide +kernel
theorem dX9_next_12 : decode cX9_next 12 = .ok (.if_icmp .ne 9, 3) := by decide +kernel
theorem dX9_next_15 : decode cX9_next 15 = .ok (.iinc 1 1, 3) := by decide +kernel
theorem dX9_next_18 : decode cX9_next 18 = .ok (.goto (-13), 3) := by decide +kernel
theorem dX9_next_21 : decode cX9_next 21 = .ok (.aload_n 0, 1) := by decide +kernel
theorem dX9_next_22 : decode cX9_next 22 = .ok (.iload_n 1, 1) := by decide +kernel
theorem dX9_next_23 : decode cX9_next 23 = .ok (.putfield 74, 3) := by decide +kernel
theorem dX9_next_26 : decode cX9_next 26 = .ok (.aload_n 0, 1) := by decide +kernel
theorem dX9_next_27 : decode cX9_next 27 = .ok (.iload_n 1, 1) := by decide +kernel
theorem dX9_next_28 : decode cX9_next 28 = .ok (.invokevirtual 70, 3) := by decide +kernel
theorem dX9_next_31 : decode cX9_next 31 = .ok (.istore_n 2, 1) := by decide +kernel
theorem dX9_next_32 : decode cX9_next 32 = .ok (.aload_n 0, 1) := by decide +kernel
theorem dX9_next_33 : decode cX9_next 33 = .ok (.iconst 0, 1) := by decide +kernel
theorem dX9_next_34 : decode cX9_next 34 = .ok (.putfield 77, 3) := by decide +kernel
theorem dX9_next_37 : decode cX9_next 37 = .ok (.aload_n 0, 1) := by decide +kernel
theorem dX9_next_38 : decode cX9_next 38 = .ok (.iconst 0, 1) := by decide +kernel
theorem dX9_next_39 : decode cX9_next 39 = .ok (.putfield 80, 3) := by decide +kernel
theorem dX9_next_42 : decode cX9_next 42 = .ok (.iload_n 2, 1) := by decide +kernel
theorem dX9_next_43 : decode cX9_next 43 = .ok (.iconst (-1), 1) := by decide +kernel
theorem dX9_next_44 : decode cX9_next 44 = .ok (.if_icmp .ne 16, 3) := by decide +kernel
theorem dX9_next_47 : decode cX9_next 47 = .ok (.aload_n 0, 1) := by decide +kernel
theorem dX9_next_48 : decode cX9_next 48 = .ok (.iconst 0, 1) := by decide +kernel
theorem dX9_next_49 : decode cX9_next 49 = .ok (.putfield 83, 3) := by decide +kernel
theorem dX9_next_52 : decode cX9_next 52 = .ok (.aload_n 0, 1) := by decide +kernel
theorem dX9_next_53 : decode cX9_next 53 = .ok (.iload_n 1, 1) := by decide +kernel
theorem dX9_next_54 : decode cX9_next 54 = .ok (.putfield 67, 3) := by decide +kernel
theorem dX9_next_57 : decode cX9_next 57 = .ok (.goto 190, 3) := by decide +kernel
theorem dX9_next_60 : decode cX9_next 60 = .ok (.iload_n 2, 1) := by decide +kernel
theorem dX9_next_61 : decode cX9_next 61 = .ok (.invokestatic 86, 3) := by decide +kernel
theorem dX9_next_64 : decode cX9_next 64 = .ok (.ifCond .eq 79, 3) := by decide +kernel
theorem dX9_next_67 : decode cX9_next 67 = .ok (.aload_n 0, 1) := by decide +kernel
theorem dX9_next_68 : decode cX9_next 68 = .ok (.iload_n 1, 1) := by decide +kernel
theorem dX9_next_69 : decode cX9_next 69 = .ok (.invokevirtual 70, 3) := by decide +kernel
theorem dX9_next_72 : decode cX9_next 72 = .ok (.invokestatic 86, 3) := by decide +kernel
theorem dX9_next_75 : decode cX9_next 75 = .ok (.ifCond .eq 42, 3) := by decide +kernel
theorem dX9_next_78 : decode cX9_next 78 = .ok (.aload_n 0, 1) := by decide +kernel
theorem dX9_next_79 : decode cX9_next 79 = .ok (.getfield 77, 3) := by decide +kernel
theorem dX9_next_82 : decode cX9_next 82 = .ok (.bipush 8, 2) := by decide +kernel
theorem dX9_next_84 : decode cX9_next 84 = .ok (.if_icmp .ge 17, 3) := by decide +kernel
theorem dX9_next_87 : decode cX9_next 87 = .ok (.aload_n 0, 1) := by decide +kernel
theorem dX9_next_88 : decode cX9_next 88 = .ok (.getfield 17, 3) := by decide +kernel
theorem dX9_next_91 : decode cX9_next 91 = .ok (.aload_n 0, 1) := by decide +kernel
theorem dX9_next_92 : decode cX9_next 92 = .ok (.getfield 77, 3) := by decide +kernel
theorem dX9_next_95 : decode cX9_next 95 = .ok (.aload_n 0, 1) := by decide +kernel
theorem dX9_next_96 : decode cX9_next 96 = .ok (.iload_n 1, 1) := by decide +kernel
theorem dX9_next_97 : decode cX9_next 97 = .ok (.invokevirtual 70, 3) := by decide +kernel
theorem dX9_next_100 : decode cX9_next 100 = .ok (.iastore, 1) := by decide +kernel
theorem dX9_next_101 : decode cX9_next 101 = .ok (.aload_n 0, 1) := by decide +kernel
theorem dX9_next_102 : decode cX9_next 102 = .ok (.dup, 1) := by decide +kernel
theorem dX9_next_103 : decode cX9_next 103 = .ok (.getfield 77, 3) := by decide +kernel
theorem dX9_next_106 : decode cX9_next 106 = .ok (.iconst 1, 1) := by decide +kernel
theorem dX9_next_107 : decode cX9_next 107 = .ok (.iadd, 1) := by decide +kernel
theorem dX9_next_108 : decode cX9_next 108 = .ok (.putfield 77, 3) := by decide +kernel
theorem dX9_next_111 : decode cX9_next 111 = .ok (.iinc 1 1, 3) := by decide +kernel
theorem dX9_next_114 : decode cX9_next 114 = .ok (.goto (-47), 3) := by decide +kernel
theorem dX9_next_117 : decode cX9_next 117 = .ok (.aload_n 0, 1) := by decide +kernel
theorem dX9_next_118 : decode cX9_next 118 = .ok (.iload_n 1, 1) := by decide +kernel
theorem dX9_next_119 : decode cX9_next 119 = .ok (.putfield 67, 3) := by decide +kernel
theorem dX9_next_122 : decode cX9_next 122 = .ok (.aload_n 0, 1) := by decide +kernel
theorem dX9_next_123 : decode cX9_next 123 = .ok (.aload_n 0, 1) := by decide +kernel
theorem dX9_next_124 : decode cX9_next 124 = .ok (.getfield 77, 3) := by decide +kernel
theorem dX9_next_127 : decode cX9_next 127 = .ok (.bipush 8, 2) := by decide +kernel
theorem dX9_next_129 : decode cX9_next 129 = .ok (.if_icmp .le 7, 3) := by decide +kernel
theorem dX9_next_132 : decode cX9_next 132 = .ok (.iconst 1, 1) := by decide +kernel
theorem dX9_next_133 : decode cX9_next 133 = .ok (.goto 4, 3) := by decide +kernel
theorem dX9_next_136 : decode cX9_next 136 = .ok (.iconst 2, 1) := by decide +kernel
theorem dX9_next_137 : decode cX9_next 137 = .ok (.putfield 83, 3) := by decide +kernel
theorem dX9_next_140 : decode cX9_next 140 = .ok (.goto 107, 3) := by decide +kernel
theorem dX9_next_143 : decode cX9_next 143 = .ok (.iload_n 2, 1) := by decide +kernel
theorem dX9_next_144 : decode cX9_next 144 = .ok (.invokestatic 90, 3) := by decide +kernel
theorem dX9_next_147 : decode cX9_next 147 = .ok (.ifCond .eq 72, 3) := by decide +kernel
theorem dX9_next_150 : decode cX9_next 150 = .ok (.iconst 0, 1) := by decide +kernel
theorem dX9_next_151 : decode cX9_next 151 = .ok (.istore_n 3, 1) := by decide +kernel
theorem dX9_next_152 : decode cX9_next 152 = .ok (.aload_n 0, 1) := by decide +kernel
theorem dX9_next_153 : decode cX9_next 153 = .ok (.iload_n 1, 1) := by decide +kernel
theorem dX9_next_154 : decode cX9_next 154 = .ok (.invokevirtual 70, 3) := by decide +kernel
theorem dX9_next_157 : decode cX9_next 157 = .ok (.invokestatic 90, 3) := by decide +kernel
theorem dX9_next_160 : decode cX9_next 160 = .ok (.ifCond .eq 37, 3) := by decide +kernel
theorem dX9_next_163 : decode cX9_next 163 = .ok (.iload_n 3, 1) := by decide +kernel
theorem dX9_next_164 : decode cX9_next 164 = .ok (.iconst 3, 1) := by decide +kernel
theorem dX9_next_165 : decode cX9_next 165 = .ok (.if_icmp .ge 23, 3) := by decide +kernel
theorem dX9_next_168 : decode cX9_next 168 = .ok (.aload_n 0, 1) := by decide +kernel
theorem dX9_next_169 : decode cX9_next 169 = .ok (.bipush 10, 2) := by decide +kernel
theorem dX9_next_171 : decode cX9_next 171 = .ok (.aload_n 0, 1) := by decide +kernel
theorem dX9_next_172 : decode cX9_next 172 = .ok (.getfield 80, 3) := by decide +kernel
theorem dX9_next_175 : decode cX9_next 175 = .ok (.imul, 1) := by decide +kernel
theorem dX9_next_176 : decode cX9_next 176 = .ok (.aload_n 0, 1) := by decide +kernel
theorem dX9_next_177 : decode cX9_next 177 = .ok (.iload_n 1, 1) := by decide +kernel
theorem dX9_next_178 : decode cX9_next 178 = .ok (.invokevirtual 70, 3) := by decide +kernel
theorem dX9_next_181 : decode cX9_next 181 = .ok (.iadd, 1) := by decide +kernel
theorem dX9_next_182 : decode cX9_next 182 = .ok (.bipush 48, 2) := by decide +kernel
theorem dX9_next_184 : decode cX9_next 184 = .ok (.isub, 1) := by decide +kernel
theorem dX9_next_185 : decode cX9_next 185 = .ok (.putfield 80, 3) := by decide +kernel
theorem dX9_next_188 : decode cX9_next 188 = .ok (.iinc 3 1, 3) := by decide +kernel
theorem dX9_next_191 : decode cX9_next 191 = .ok (.iinc 1 1, 3) := by decide +kernel
theorem dX9_next_194 : decode cX9_next 194 = .ok (.goto (-42), 3) := by decide +kernel
theorem dX9_next_197 : decode cX9_next 197 = .ok (.aload_n 0, 1) := by decide +kernel
theorem dX9_next_198 : decode cX9_next 198 = .ok (.iload_n 1, 1) := by decide +kernel
theorem dX9_next_199 : decode cX9_next 199 = .ok (.putfield 67, 3) := by decide +kernel
theorem dX9_next_202 : decode cX9_next 202 = .ok (.aload_n 0, 1) := by decide +kernel
theorem dX9_next_203 : decode cX9_next 203 = .ok (.iload_n 3, 1) := by decide +kernel
theorem dX9_next_204 : decode cX9_next 204 = .ok (.iconst 3, 1) := by decide +kernel
theorem dX9_next_205 : decode cX9_next 205 = .ok (.if_icmp .le 7, 3) := by decide +kernel
theorem dX9_next_208 : decode cX9_next 208 = .ok (.iconst 1, 1) := by decide +kernel
theorem dX9_next_209 : decode cX9_next 209 = .ok (.goto 4, 3) := by decide +kernel
theorem dX9_next_212 : decode cX9_next 212 = .ok (.iconst 3, 1) := by decide +kernel
theorem dX9_next_213 : decode cX9_next 213 = .ok (.putfield 83, 3) := by decide +kernel
theorem dX9_next_216 : decode cX9_next 216 = .ok (.goto 31, 3) := by decide +kernel
theorem dX9_next_219 : decode cX9_next 219 = .ok (.aload_n 0, 1) := by decide +kernel
theorem dX9_next_220 : decode cX9_next 220 = .ok (.iload_n 1, 1) := by decide +kernel
theorem dX9_next_221 : decode cX9_next 221 = .ok (.iconst 1, 1) := by decide +kernel
theorem dX9_next_222 : decode cX9_next 222 = .ok (.iadd, 1) := by decide +kernel
theorem dX9_next_223 : decode cX9_next 223 = .ok (.putfield 67, 3) := by decide +kernel
theorem dX9_next_226 : decode cX9_next 226 = .ok (.aload_n 0, 1) := by decide +kernel
theorem dX9_next_227 : decode cX9_next 227 = .ok (.iload_n 2, 1) := by decide +kernel
theorem dX9_next_228 : decode cX9_next 228 = .ok (.bipush 59, 2) := by decide +kernel
theorem dX9_next_230 : decode cX9_next 230 = .ok (.if_icmp .eq 9, 3) := by decide +kernel
theorem dX9_next_233 : decode cX9_next 233 = .ok (.iload_n 2, 1) := by decide +kernel
theorem dX9_next_234 : decode cX9_next 234 = .ok (.bipush 44, 2) := by decide +kernel
theorem dX9_next_236 : decode cX9_next 236 = .ok (.if_icmp .ne 7, 3) := by decide +kernel
theorem dX9_next_239 : decode cX9_next 239 = .ok (.iload_n 2, 1) := by decide +kernel
theorem dX9_next_240 : decode cX9_next 240 = .ok (.goto 4, 3) := by decide +kernel
theorem dX9_next_243 : decode cX9_next 243 = .ok (.iconst 1, 1) := by decide +kernel
theorem dX9_next_244 : decode cX9_next 244 = .ok (.putfield 83, 3) := by decide +kernel
theorem dX9_next_247 : decode cX9_next 247 = .ok (.return_, 1) := by decide +kernel
theorem dX9_wrong_0 : decode cX9_wrong 0 = .ok (.aload_n 0, 1) := by decide +kernel
theorem dX9_wrong_1 : decode cX9_wrong 1 = .ok (.getfield 93, 3) := by decide +kernel
theorem dX9_wrong_4 : decode cX9_wrong 4 = .ok (.ifCond .eq 4, 3) := by decide +kernel
theorem dX9_wrong_7 : decode cX9_wrong 7 = .ok (.return_, 1) := by decide +kernel
theorem dX9_wrong_8 : decode cX9_wrong 8 = .ok (.aload_n 0, 1) := by decide +kernel
theorem dX9_wrong_9 : decode cX9_wrong 9 = .ok (.iconst 1, 1) := by decide +kernel
theorem dX9_wrong_10 : decode cX9_wrong 10 = .ok (.putfield 93, 3) := by decide +kernel
theorem dX9_wrong_13 : decode cX9_wrong 13 = .ok (.aload_n 0, 1) := by decide +kernel
theorem dX9_wrong_14 : decode cX9_wrong 14 = .ok (.iload_n 1, 1) := by decide +kernel
theorem dX9_wrong_15 : decode cX9_wrong 15 = .ok (.putfield 97, 3) := by decide +kernel
theorem dX9_wrong_18 : decode cX9_wrong 18 = .ok (.aload_n 0, 1) := by decide +kernel
theorem dX9_wrong_19 : decode cX9_wrong 19 = .ok (.iload_n 2, 1) := by decide +kernel
theorem dX9_wrong_20 : decode cX9_wrong 20 = .ok (.putfield 13, 3) := by decide +kernel
theorem dX9_wrong_23 : decode cX9_wrong 23 = .ok (.return_, 1) := by decide +kernel
theorem dX9_isWord_0 : decode cX9_isWord 0 = .ok (.aload_n 0, 1) := by decide +kernel
theorem dX9_isWord_1 : decode cX9_isWord 1 = .ok (.getfield 93, 3) := by decide +kernel
theorem dX9_isWord_4 : decode cX9_isWord 4 = .ok (.ifCond .ne 22, 3) := by decide +kernel
theorem dX9_isWord_7 : decode cX9_isWord 7 = .ok (.aload_n 0, 1) := by decide +kernel
theorem dX9_isWord_8 : decode cX9_isWord 8 = .ok (.getfield 83, 3) := by decide +kernel
theorem dX9_isWord_11 : decode cX9_isWord 11 = .ok (.iconst 2, 1) := by decide +kernel
theorem dX9_isWord_12 : decode cX9_isWord 12 = .ok (.if_icmp .ne 14, 3) := by decide +kernel
theorem dX9_isWord_15 : decode cX9_isWord 15 = .ok (.aload_n 0, 1) := by decide +kernel
theorem dX9_isWord_16 : decode cX9_isWord 16 = .ok (.getfield 77, 3) := by decide +kernel
theorem dX9_isWord_19 : decode cX9_isWord 19 = .ok (.aload_n 1, 1) := by decide +kernel
theorem dX9_isWord_20 : decode cX9_isWord 20 = .ok (.invokevirtual 100, 3) := by decide +kernel
theorem dX9_isWord_23 : decode cX9_isWord 23 = .ok (.if_icmp .eq 5, 3) := by decide +kernel
theorem dX9_isWord_26 : decode cX9_isWord 26 = .ok (.iconst 0, 1) := by decide +kernel
theorem dX9_isWord_27 : decode cX9_isWord 27 = .ok (.ireturn, 1) := by decide +kernel
theorem dX9_isWord_28 : decode cX9_isWord 28 = .ok (.iconst 1, 1) := by decide +kernel
theorem dX9_isWord_29 : decode cX9_isWord 29 = .ok (.istore_n 2, 1) := by decide +kernel
theorem dX9_isWord_30 : decode cX9_isWord 30 = .ok (.iconst 0, 1) := by decide +kernel
theorem dX9_isWord_31 : decode cX9_isWord 31 = .ok (.istore_n 3, 1) := by decide +kernel
theorem dX9_isWord_32 : decode cX9_isWord 32 = .ok (.iload_n 3, 1) := by decide +kernel
theorem dX9_isWord_33 : decode cX9_isWord 33 = .ok (.aload_n 0, 1) := by decide +kernel
theorem dX9_isWord_34 : decode cX9_isWord 34 = .ok (.getfield 77, 3) := by decide +kernel
theorem dX9_isWord_37 : decode cX9_isWord 37 = .ok (.if_icmp .ge 33, 3) := by decide +kernel
theorem dX9_isWord_40 : decode cX9_isWord 40 = .ok (.iload_n 2, 1) := by decide +kernel
theorem dX9_isWord_41 : decode cX9_isWord 41 = .ok (.ifCond .eq 21, 3) := by decide +kernel
theorem dX9_isWord_44 : decode cX9_isWord 44 = .ok (.aload_n 0, 1) := by decide +kernel
theorem dX9_isWord_45 : decode cX9_isWord 45 = .ok (.getfield 17, 3) := by decide +kernel
theorem dX9_isWord_48 : decode cX9_isWord 48 = .ok (.iload_n 3, 1) := by decide +kernel
theorem dX9_isWord_49 : decode cX9_isWord 49 = .ok (.iaload, 1) := by decide +kernel
theorem dX9_isWord_50 : decode cX9_isWord 50 = .ok (.aload_n 1, 1) := by decide +kernel
theorem dX9_isWord_51 : decode cX9_isWord 51 = .ok (.iload_n 3, 1) := by decide +kernel
theorem dX9_isWord_52 : decode cX9_isWord 52 = .ok (.invokevirtual 106, 3) := by decide +kernel
theorem dX9_isWord_55 : decode cX9_isWord 55 = .ok (.if_icmp .ne 7, 3) := by decide +kernel
theorem dX9_isWord_58 : decode cX9_isWord 58 = .ok (.iconst 1, 1) := by decide +kernel
theorem dX9_isWord_59 : decode cX9_isWord 59 = .ok (.goto 4, 3) := by decide +kernel
theorem dX9_isWord_62 : decode cX9_isWord 62 = .ok (.iconst 0, 1) := by decide +kernel
theorem dX9_isWord_63 : decode cX9_isWord 63 = .ok (.istore_n 2, 1) := by decide +kernel
theorem dX9_isWord_64 : decode cX9_isWord 64 = .ok (.iinc 3 1, 3) := by decide +kernel
theorem dX9_isWord_67 : decode cX9_isWord 67 = .ok (.goto (-35), 3) := by decide +kernel
theorem dX9_isWord_70 : decode cX9_isWord 70 = .ok (.iload_n 2, 1) := by decide +kernel
theorem dX9_isWord_71 : decode cX9_isWord 71 = .ok (.ireturn, 1) := by decide +kernel
theorem dX9_must_0 : decode cX9_must 0 = .ok (.aload_n 0, 1) := by decide +kernel
theorem dX9_must_1 : decode cX9_must 1 = .ok (.getfield 93, 3) := by decide +kernel
theorem dX9_must_4 : decode cX9_must 4 = .ok (.ifCond .eq 4, 3) := by decide +kernel
theorem dX9_must_7 : decode cX9_must 7 = .ok (.return_, 1) := by decide +kernel
theorem dX9_must_8 : decode cX9_must 8 = .ok (.aload_n 0, 1) := by decide +kernel
theorem dX9_must_9 : decode cX9_must 9 = .ok (.aload_n 1, 1) := by decide +kernel
theorem dX9_must_10 : decode cX9_must 10 = .ok (.invokevirtual 110, 3) := by decide +kernel
theorem dX9_must_13 : decode cX9_must 13 = .ok (.ifCond .eq 10, 3) := by decide +kernel
theorem dX9_must_16 : decode cX9_must 16 = .ok (.aload_n 0, 1) := by decide +kernel
theorem dX9_must_17 : decode cX9_must 17 = .ok (.invokevirtual 114, 3) := by decide +kernel
theorem dX9_must_20 : decode cX9_must 20 = .ok (.goto 12, 3) := by decide +kernel
theorem dX9_must_23 : decode cX9_must 23 = .ok (.aload_n 0, 1) := by decide +kernel
theorem dX9_must_24 : decode cX9_must 24 = .ok (.iconst 1, 1) := by decide +kernel
theorem dX9_must_25 : decode cX9_must 25 = .ok (.aload_n 0, 1) := by decide +kernel
theorem dX9_must_26 : decode cX9_must 26 = .ok (.getfield 74, 3) := by decide +kernel
theorem dX9_must_29 : decode cX9_must 29 = .ok (.invokevirtual 117, 3) := by decide +kernel
theorem dX9_must_32 : decode cX9_must 32 = .ok (.return_, 1) := by decide +kernel
theorem dX9_mustName_0 : decode cX9_mustName 0 = .ok (.aload_n 0, 1) := by decide +kernel
theorem dX9_mustName_1 : decode cX9_mustName 1 = .ok (.ldc 121, 2) := by decide +kernel
theorem dX9_mustName_3 : decode cX9_mustName 3 = .ok (.invokevirtual 110, 3) := by decide +kernel
theorem dX9_mustName_6 : decode cX9_mustName 6 = .ok (.ifCond .ne 48, 3) := by decide +kernel
theorem dX9_mustName_9 : decode cX9_mustName 9 = .ok (.aload_n 0, 1) := by decide +kernel
theorem dX9_mustName_10 : decode cX9_mustName 10 = .ok (.ldc 123, 2) := by decide +kernel
theorem dX9_mustName_12 : decode cX9_mustName 12 = .ok (.invokevirtual 110, 3) := by decide +kernel
theorem dX9_mustName_15 : decode cX9_mustName 15 = .ok (.ifCond .ne 39, 3) := by decide +kernel
theorem dX9_mustName_18 : decode cX9_mustName 18 = .ok (.aload_n 0, 1) := by decide +kernel
theorem dX9_mustName_19 : decode cX9_mustName 19 = .ok (.ldc 125, 2) := by decide +kernel
theorem dX9_mustName_21 : decode cX9_mustName 21 = .ok (.invokevirtual 110, 3) := by decide +kernel
theorem dX9_mustName_24 : decode cX9_mustName 24 = .ok (.ifCond .ne 30, 3) := by decide +kernel
theorem dX9_mustName_27 : decode cX9_mustName 27 = .ok (.aload_n 0, 1) := by decide +kernel
theorem dX9_mustName_28 : decode cX9_mustName 28 = .ok (.ldc 127, 2) := by decide +kernel
theorem dX9_mustName_30 : decode cX9_mustName 30 = .ok (.invokevirtual 110, 3) := by decide +kernel
theorem dX9_mustName_33 : decode cX9_mustName 33 = .ok (.ifCond .ne 21, 3) := by decide +kernel
theorem dX9_mustName_36 : decode cX9_mustName 36 = .ok (.aload_n 0, 1) := by decide +kernel
theorem dX9_mustName_37 : decode cX9_mustName 37 = .ok (.ldc 129, 2) := by decide +kernel
theorem dX9_mustName_39 : decode cX9_mustName 39 = .ok (.invokevirtual 110, 3) := by decide +kernel
theorem dX9_mustName_42 : decode cX9_mustName 42 = .ok (.ifCond .ne 12, 3) := by decide +kernel
theorem dX9_mustName_45 : decode cX9_mustName 45 = .ok (.aload_n 0, 1) := by decide +kernel
theorem dX9_mustName_46 : decode cX9_mustName 46 = .ok (.ldc 131, 2) := by decide +kernel
theorem dX9_mustName_48 : decode cX9_mustName 48 = .ok (.invokevirtual 110, 3) := by decide +kernel
theorem dX9_mustName_51 : decode cX9_mustName 51 = .ok (.ifCond .eq 7, 3) := by decide +kernel
theorem dX9_mustName_54 : decode cX9_mustName 54 = .ok (.iconst 1, 1) := by decide +kernel
theorem dX9_mustName_55 : decode cX9_mustName 55 = .ok (.goto 4, 3) := by decide +kernel
theorem dX9_mustName_58 : decode cX9_mustName 58 = .ok (.iconst 0, 1) := by decide +kernel
theorem dX9_mustName_59 : decode cX9_mustName 59 = .ok (.istore_n 1, 1) := by decide +kernel
theorem dX9_mustName_60 : decode cX9_mustName 60 = .ok (.aload_n 0, 1) := by decide +kernel
theorem dX9_mustName_61 : decode cX9_mustName 61 = .ok (.getfield 83, 3) := by decide +kernel
theorem dX9_mustName_64 : decode cX9_mustName 64 = .ok (.iconst 2, 1) := by decide +kernel
theorem dX9_mustName_65 : decode cX9_mustName 65 = .ok (.if_icmp .ne 7, 3) := by decide +kernel
theorem dX9_mustName_68 : decode cX9_mustName 68 = .ok (.iload_n 1, 1) := by decide +kernel
theorem dX9_mustName_69 : decode cX9_mustName 69 = .ok (.ifCond .eq 12, 3) := by decide +kernel
theorem dX9_mustName_72 : decode cX9_mustName 72 = .ok (.aload_n 0, 1) := by decide +kernel
theorem dX9_mustName_73 : decode cX9_mustName 73 = .ok (.iconst 1, 1) := by decide +kernel
theorem dX9_mustName_74 : decode cX9_mustName 74 = .ok (.aload_n 0, 1) := by decide +kernel
theorem dX9_mustName_75 : decode cX9_mustName 75 = .ok (.getfield 74, 3) := by decide +kernel
theorem dX9_mustName_78 : decode cX9_mustName 78 = .ok (.invokevirtual 117, 3) := by decide +kernel
theorem dX9_mustName_81 : decode cX9_mustName 81 = .ok (.return_, 1) := by decide +kernel
theorem dX9_find_0 : decode cX9_find 0 = .ok (.iconst 0, 1) := by decide +kernel
theorem dX9_find_1 : decode cX9_find 1 = .ok (.istore_n 1, 1) := by decide +kernel
theorem dX9_find_2 : decode cX9_find 2 = .ok (.iload_n 1, 1) := by decide +kernel
theorem dX9_find_3 : decode cX9_find 3 = .ok (.bipush 10, 2) := by decide +kernel
theorem dX9_find_5 : decode cX9_find 5 = .ok (.if_icmp .ge 98, 3) := by decide +kernel
theorem dX9_find_8 : decode cX9_find 8 = .ok (.aload_n 0, 1) := by decide +kernel
theorem dX9_find_9 : decode cX9_find 9 = .ok (.getfield 23, 3) := by decide +kernel
theorem dX9_find_12 : decode cX9_find 12 = .ok (.bipush 71, 2) := by decide +kernel
theorem dX9_find_14 : decode cX9_find 14 = .ok (.iload_n 1, 1) := by decide +kernel
theorem dX9_find_15 : decode cX9_find 15 = .ok (.iadd, 1) := by decide +kernel
theorem dX9_find_16 : decode cX9_find 16 = .ok (.iaload, 1) := by decide +kernel
theorem dX9_find_17 : decode cX9_find 17 = .ok (.ifCond .le 23, 3) := by decide +kernel
theorem dX9_find_20 : decode cX9_find 20 = .ok (.aload_n 0, 1) := by decide +kernel
theorem dX9_find_21 : decode cX9_find 21 = .ok (.getfield 23, 3) := by decide +kernel
theorem dX9_find_24 : decode cX9_find 24 = .ok (.bipush 71, 2) := by decide +kernel
theorem dX9_find_26 : decode cX9_find 26 = .ok (.iload_n 1, 1) := by decide +kernel
theorem dX9_find_27 : decode cX9_find 27 = .ok (.iadd, 1) := by decide +kernel
theorem dX9_find_28 : decode cX9_find 28 = .ok (.iaload, 1) := by decide +kernel
theorem dX9_find_29 : decode cX9_find 29 = .ok (.aload_n 0, 1) := by decide +kernel
theorem dX9_find_30 : decode cX9_find 30 = .ok (.getfield 77, 3) := by decide +kernel
theorem dX9_find_33 : decode cX9_find 33 = .ok (.if_icmp .ne 7, 3) := by decide +kernel
theorem dX9_find_36 : decode cX9_find 36 = .ok (.iconst 1, 1) := by decide +kernel
theorem dX9_find_37 : decode cX9_find 37 = .ok (.goto 4, 3) := by decide +kernel
theorem dX9_find_40 : decode cX9_find 40 = .ok (.iconst 0, 1) := by decide +kernel
theorem dX9_find_41 : decode cX9_find 41 = .ok (.istore_n 2, 1) := by decide +kernel
theorem dX9_find_42 : decode cX9_find 42 = .ok (.iconst 0, 1) := by decide +kernel
theorem dX9_find_43 : decode cX9_find 43 = .ok (.istore_n 3, 1) := by decide +kernel
theorem dX9_find_44 : decode cX9_find 44 = .ok (.iload_n 3, 1) := by decide +kernel
theorem dX9_find_45 : decode cX9_find 45 = .ok (.aload_n 0, 1) := by decide +kernel
theorem dX9_find_46 : decode cX9_find 46 = .ok (.getfield 77, 3) := by decide +kernel
theorem dX9_find_49 : decode cX9_find 49 = .ok (.if_icmp .ge 42, 3) := by decide +kernel
theorem dX9_find_52 : decode cX9_find 52 = .ok (.iload_n 2, 1) := by decide +kernel
theorem dX9_find_53 : decode cX9_find 53 = .ok (.ifCond .eq 38, 3) := by decide +kernel
theorem dX9_find_56 : decode cX9_find 56 = .ok (.aload_n 0, 1) := by decide +kernel
theorem dX9_find_57 : decode cX9_find 57 = .ok (.getfield 23, 3) := by decide +kernel
theorem dX9_find_60 : decode cX9_find 60 = .ok (.bipush 81, 2) := by decide +kernel
theorem dX9_find_62 : decode cX9_find 62 = .ok (.bipush 8, 2) := by decide +kernel
theorem dX9_find_64 : decode cX9_find 64 = .ok (.iload_n 1, 1) := by decide +kernel
theorem dX9_find_65 : decode cX9_find 65 = .ok (.imul, 1) := by decide +kernel
theorem dX9_find_66 : decode cX9_find 66 = .ok (.iadd, 1) := by decide +kernel
theorem dX9_find_67 : decode cX9_find 67 = .ok (.iload_n 3, 1) := by decide +kernel
theorem dX9_find_68 : decode cX9_find 68 = .ok (.iadd, 1) := by decide +kernel
theorem dX9_find_69 : decode cX9_find 69 = .ok (.iaload, 1) := by decide +kernel
theorem dX9_find_70 : decode cX9_find 70 = .ok (.aload_n 0, 1) := by decide +kernel
theorem dX9_find_71 : decode cX9_find 71 = .ok (.getfield 17, 3) := by decide +kernel
theorem dX9_find_74 : decode cX9_find 74 = .ok (.iload_n 3, 1) := by decide +kernel
theorem dX9_find_75 : decode cX9_find 75 = .ok (.iaload, 1) := by decide +kernel
theorem dX9_find_76 : decode cX9_find 76 = .ok (.if_icmp .ne 7, 3) := by decide +kernel
theorem dX9_find_79 : decode cX9_find 79 = .ok (.iconst 1, 1) := by decide +kernel
theorem dX9_find_80 : decode cX9_find 80 = .ok (.goto 4, 3) := by decide +kernel
theorem dX9_find_83 : decode cX9_find 83 = .ok (.iconst 0, 1) := by decide +kernel
theorem dX9_find_84 : decode cX9_find 84 = .ok (.istore_n 2, 1) := by decide +kernel
theorem dX9_find_85 : decode cX9_find 85 = .ok (.iinc 3 1, 3) := by decide +kernel
theorem dX9_find_88 : decode cX9_find 88 = .ok (.goto (-44), 3) := by decide +kernel
theorem dX9_find_91 : decode cX9_find 91 = .ok (.iload_n 2, 1) := by decide +kernel
theorem dX9_find_92 : decode cX9_find 92 = .ok (.ifCond .eq 5, 3) := by decide +kernel
theorem dX9_find_95 : decode cX9_find 95 = .ok (.iload_n 1, 1) := by decide +kernel
theorem dX9_find_96 : decode cX9_find 96 = .ok (.ireturn, 1) := by decide +kernel
theorem dX9_find_97 : decode cX9_find 97 = .ok (.iinc 1 1, 3) := by decide +kernel
theorem dX9_find_100 : decode cX9_find 100 = .ok (.goto (-98), 3) := by decide +kernel
theorem dX9_find_103 : decode cX9_find 103 = .ok (.iconst (-1), 1) := by decide +kernel
theorem dX9_find_104 : decode cX9_find 104 = .ok (.ireturn, 1) := by decide +kernel
theorem dX9_mustBeNew_0 : decode cX9_mustBeNew 0 = .ok (.aload_n 0, 1) := by decide +kernel
theorem dX9_mustBeNew_1 : decode cX9_mustBeNew 1 = .ok (.invokevirtual 133, 3) := by decide +kernel
theorem dX9_mustBeNew_4 : decode cX9_mustBeNew 4 = .ok (.aload_n 0, 1) := by decide +kernel
theorem dX9_mustBeNew_5 : decode cX9_mustBeNew 5 = .ok (.getfield 93, 3) := by decide +kernel
theorem dX9_mustBeNew_8 : decode cX9_mustBeNew 8 = .ok (.ifCond .ne 19, 3) := by decide +kernel
theorem dX9_mustBeNew_11 : decode cX9_mustBeNew 11 = .ok (.aload_n 0, 1) := by decide +kernel
theorem dX9_mustBeNew_12 : decode cX9_mustBeNew 12 = .ok (.invokevirtual 136, 3) := by decide +kernel
theorem dX9_mustBeNew_15 : decode cX9_mustBeNew 15 = .ok (.ifCond .lt 12, 3) := by decide +kernel
theorem dX9_mustBeNew_18 : decode cX9_mustBeNew 18 = .ok (.aload_n 0, 1) := by decide +kernel
theorem dX9_mustBeNew_19 : decode cX9_mustBeNew 19 = .ok (.iconst 3, 1) := by decide +kernel
theorem dX9_mustBeNew_20 : decode cX9_mustBeNew 20 = .ok (.aload_n 0, 1) := by decide +kernel
theorem dX9_mustBeNew_21 : decode cX9_mustBeNew 21 = .ok (.getfield 74, 3) := by decide +kernel
theorem dX9_mustBeNew_24 : decode cX9_mustBeNew 24 = .ok (.invokevirtual 117, 3) := by decide +kernel
theorem dX9_mustBeNew_27 : decode cX9_mustBeNew 27 = .ok (.return_, 1) := by decide +kernel
theorem dX9_keepName_0 : decode cX9_keepName 0 = .ok (.iconst 0, 1) := by decide +kernel
theorem dX9_keepName_1 : decode cX9_keepName 1 = .ok (.istore_n 2, 1) := by decide +kernel
theorem dX9_keepName_2 : decode cX9_keepName 2 = .ok (.iload_n 2, 1) := by decide +kernel
theorem dX9_keepName_3 : decode cX9_keepName 3 = .ok (.aload_n 0, 1) := by decide +kernel
theorem dX9_keepName_4 : decode cX9_keepName 4 = .ok (.getfield 77, 3) := by decide +kernel
theorem dX9_keepName_7 : decode cX9_keepName 7 = .ok (.if_icmp .ge 29, 3) := by decide +kernel
theorem dX9_keepName_10 : decode cX9_keepName 10 = .ok (.aload_n 0, 1) := by decide +kernel
theorem dX9_keepName_11 : decode cX9_keepName 11 = .ok (.getfield 23, 3) := by decide +kernel
theorem dX9_keepName_14 : decode cX9_keepName 14 = .ok (.bipush 81, 2) := by decide +kernel
theorem dX9_keepName_16 : decode cX9_keepName 16 = .ok (.bipush 8, 2) := by decide +kernel
theorem dX9_keepName_18 : decode cX9_keepName 18 = .ok (.iload_n 1, 1) := by decide +kernel
theorem dX9_keepName_19 : decode cX9_keepName 19 = .ok (.imul, 1) := by decide +kernel
theorem dX9_keepName_20 : decode cX9_keepName 20 = .ok (.iadd, 1) := by decide +kernel
theorem dX9_keepName_21 : decode cX9_keepName 21 = .ok (.iload_n 2, 1) := by decide +kernel
theorem dX9_keepName_22 : decode cX9_keepName 22 = .ok (.iadd, 1) := by decide +kernel
theorem dX9_keepName_23 : decode cX9_keepName 23 = .ok (.aload_n 0, 1) := by decide +kernel
theorem dX9_keepName_24 : decode cX9_keepName 24 = .ok (.getfield 17, 3) := by decide +kernel
theorem dX9_keepName_27 : decode cX9_keepName 27 = .ok (.iload_n 2, 1) := by decide +kernel
theorem dX9_keepName_28 : decode cX9_keepName 28 = .ok (.iaload, 1) := by decide +kernel
theorem dX9_keepName_29 : decode cX9_keepName 29 = .ok (.iastore, 1) := by decide +kernel
theorem dX9_keepName_30 : decode cX9_keepName 30 = .ok (.iinc 2 1, 3) := by decide +kernel
theorem dX9_keepName_33 : decode cX9_keepName 33 = .ok (.goto (-31), 3) := by decide +kernel
theorem dX9_keepName_36 : decode cX9_keepName 36 = .ok (.aload_n 0, 1) := by decide +kernel
theorem dX9_keepName_37 : decode cX9_keepName 37 = .ok (.getfield 23, 3) := by decide +kernel
theorem dX9_keepName_40 : decode cX9_keepName 40 = .ok (.bipush 71, 2) := by decide +kernel
theorem dX9_keepName_42 : decode cX9_keepName 42 = .ok (.iload_n 1, 1) := by decide +kernel
theorem dX9_keepName_43 : decode cX9_keepName 43 = .ok (.iadd, 1) := by decide +kernel
theorem dX9_keepName_44 : decode cX9_keepName 44 = .ok (.aload_n 0, 1) := by decide +kernel
theorem dX9_keepName_45 : decode cX9_keepName 45 = .ok (.getfield 77, 3) := by decide +kernel
theorem dX9_keepName_48 : decode cX9_keepName 48 = .ok (.iastore, 1) := by decide +kernel
theorem dX9_keepName_49 : decode cX9_keepName 49 = .ok (.aload_n 0, 1) := by decide +kernel
theorem dX9_keepName_50 : decode cX9_keepName 50 = .ok (.invokevirtual 114, 3) := by decide +kernel
theorem dX9_keepName_53 : decode cX9_keepName 53 = .ok (.return_, 1) := by decide +kernel
theorem dX9_named_0 : decode cX9_named 0 = .ok (.aload_n 0, 1) := by decide +kernel
theorem dX9_named_1 : decode cX9_named 1 = .ok (.getfield 93, 3) := by decide +kernel
theorem dX9_named_4 : decode cX9_named 4 = .ok (.ifCond .eq 5, 3) := by decide +kernel
theorem dX9_named_7 : decode cX9_named 7 = .ok (.iconst 0, 1) := by decide +kernel
theorem dX9_named_8 : decode cX9_named 8 = .ok (.ireturn, 1) := by decide +kernel
theorem dX9_named_9 : decode cX9_named 9 = .ok (.aload_n 0, 1) := by decide +kernel
theorem dX9_named_10 : decode cX9_named 10 = .ok (.invokevirtual 133, 3) := by decide +kernel
theorem dX9_named_13 : decode cX9_named 13 = .ok (.aload_n 0, 1) := by decide +kernel
theorem dX9_named_14 : decode cX9_named 14 = .ok (.getfield 93, 3) := by decide +kernel
theorem dX9_named_17 : decode cX9_named 17 = .ok (.ifCond .eq 5, 3) := by decide +kernel
theorem dX9_named_20 : decode cX9_named 20 = .ok (.iconst 0, 1) := by decide +kernel
theorem dX9_named_21 : decode cX9_named 21 = .ok (.ireturn, 1) := by decide +kernel
theorem dX9_named_22 : decode cX9_named 22 = .ok (.aload_n 0, 1) := by decide +kernel
theorem dX9_named_23 : decode cX9_named 23 = .ok (.invokevirtual 136, 3) := by decide +kernel
theorem dX9_named_26 : decode cX9_named 26 = .ok (.istore_n 2, 1) := by decide +kernel
theorem dX9_named_27 : decode cX9_named 27 = .ok (.iload_n 2, 1) := by decide +kernel
theorem dX9_named_28 : decode cX9_named 28 = .ok (.ifCond .lt 17, 3) := by decide +kernel
theorem dX9_named_31 : decode cX9_named 31 = .ok (.iload_n 1, 1) := by decide +kernel
theorem dX9_named_32 : decode cX9_named 32 = .ok (.iload_n 2, 1) := by decide +kernel
theorem dX9_named_33 : decode cX9_named 33 = .ok (.iconst 5, 1) := by decide +kernel
theorem dX9_named_34 : decode cX9_named 34 = .ok (.if_icmp .ge 7, 3) := by decide +kernel
theorem dX9_named_37 : decode cX9_named 37 = .ok (.iconst 1, 1) := by decide +kernel
theorem dX9_named_38 : decode cX9_named 38 = .ok (.goto 4, 3) := by decide +kernel
theorem dX9_named_41 : decode cX9_named 41 = .ok (.iconst 0, 1) := by decide +kernel
theorem dX9_named_42 : decode cX9_named 42 = .ok (.if_icmp .eq 12, 3) := by decide +kernel
theorem dX9_named_45 : decode cX9_named 45 = .ok (.aload_n 0, 1) := by decide +kernel
theorem dX9_named_46 : decode cX9_named 46 = .ok (.iconst 2, 1) := by decide +kernel
theorem dX9_named_47 : decode cX9_named 47 = .ok (.aload_n 0, 1) := by decide +kernel
theorem dX9_named_48 : decode cX9_named 48 = .ok (.getfield 74, 3) := by decide +kernel
theorem dX9_named_51 : decode cX9_named 51 = .ok (.invokevirtual 117, 3) := by decide +kernel
theorem dX9_named_54 : decode cX9_named 54 = .ok (.aload_n 0, 1) := by decide +kernel
theorem dX9_named_55 : decode cX9_named 55 = .ok (.getfield 93, 3) := by decide +kernel
theorem dX9_named_58 : decode cX9_named 58 = .ok (.ifCond .eq 7, 3) := by decide +kernel
theorem dX9_named_61 : decode cX9_named 61 = .ok (.iconst 0, 1) := by decide +kernel
theorem dX9_named_62 : decode cX9_named 62 = .ok (.goto 14, 3) := by decide +kernel
theorem dX9_named_65 : decode cX9_named 65 = .ok (.iload_n 1, 1) := by decide +kernel
theorem dX9_named_66 : decode cX9_named 66 = .ok (.ifCond .eq 7, 3) := by decide +kernel
theorem dX9_named_69 : decode cX9_named 69 = .ok (.iload_n 2, 1) := by decide +kernel
theorem dX9_named_70 : decode cX9_named 70 = .ok (.goto 6, 3) := by decide +kernel
theorem dX9_named_73 : decode cX9_named 73 = .ok (.iload_n 2, 1) := by decide +kernel
theorem dX9_named_74 : decode cX9_named 74 = .ok (.iconst 5, 1) := by decide +kernel
theorem dX9_named_75 : decode cX9_named 75 = .ok (.isub, 1) := by decide +kernel
theorem dX9_named_76 : decode cX9_named 76 = .ok (.ireturn, 1) := by decide +kernel
theorem dX9_number_0 : decode cX9_number 0 = .ok (.aload_n 0, 1) := by decide +kernel
theorem dX9_number_1 : decode cX9_number 1 = .ok (.getfield 93, 3) := by decide +kernel
theorem dX9_number_4 : decode cX9_number 4 = .ok (.ifCond .eq 5, 3) := by decide +kernel
theorem dX9_number_7 : decode cX9_number 7 = .ok (.iload_n 1, 1) := by decide +kernel
theorem dX9_number_8 : decode cX9_number 8 = .ok (.ireturn, 1) := by decide +kernel
theorem dX9_number_9 : decode cX9_number 9 = .ok (.aload_n 0, 1) := by decide +kernel
theorem dX9_number_10 : decode cX9_number 10 = .ok (.getfield 83, 3) := by decide +kernel
theorem dX9_number_13 : decode cX9_number 13 = .ok (.iconst 3, 1) := by decide +kernel
theorem dX9_number_14 : decode cX9_number 14 = .ok (.if_icmp .eq 14, 3) := by decide +kernel
theorem dX9_number_17 : decode cX9_number 17 = .ok (.aload_n 0, 1) := by decide +kernel
theorem dX9_number_18 : decode cX9_number 18 = .ok (.iconst 1, 1) := by decide +kernel
theorem dX9_number_19 : decode cX9_number 19 = .ok (.aload_n 0, 1) := by decide +kernel
theorem dX9_number_20 : decode cX9_number 20 = .ok (.getfield 74, 3) := by decide +kernel
theorem dX9_number_23 : decode cX9_number 23 = .ok (.invokevirtual 117, 3) := by decide +kernel
theorem dX9_number_26 : decode cX9_number 26 = .ok (.iload_n 1, 1) := by decide +kernel
theorem dX9_number_27 : decode cX9_number 27 = .ok (.ireturn, 1) := by decide +kernel
theorem dX9_number_28 : decode cX9_number 28 = .ok (.aload_n 0, 1) := by decide +kernel
theorem dX9_number_29 : decode cX9_number 29 = .ok (.getfield 80, 3) := by decide +kernel
theorem dX9_number_32 : decode cX9_number 32 = .ok (.istore_n 3, 1) := by decide +kernel
theorem dX9_number_33 : decode cX9_number 33 = .ok (.iload_n 3, 1) := by decide +kernel
theorem dX9_number_34 : decode cX9_number 34 = .ok (.iload_n 1, 1) := by decide +kernel
theorem dX9_number_35 : decode cX9_number 35 = .ok (.iload_n 2, 1) := by decide +kernel
theorem dX9_number_36 : decode cX9_number 36 = .ok (.invokestatic 139, 3) := by decide +kernel
theorem dX9_number_39 : decode cX9_number 39 = .ok (.ifCond .ne 14, 3) := by decide +kernel
theorem dX9_number_42 : decode cX9_number 42 = .ok (.aload_n 0, 1) := by decide +kernel
theorem dX9_number_43 : decode cX9_number 43 = .ok (.iconst 4, 1) := by decide +kernel
theorem dX9_number_44 : decode cX9_number 44 = .ok (.aload_n 0, 1) := by decide +kernel
theorem dX9_number_45 : decode cX9_number 45 = .ok (.getfield 74, 3) := by decide +kernel
theorem dX9_number_48 : decode cX9_number 48 = .ok (.invokevirtual 117, 3) := by decide +kernel
theorem dX9_number_51 : decode cX9_number 51 = .ok (.iload_n 1, 1) := by decide +kernel
theorem dX9_number_52 : decode cX9_number 52 = .ok (.ireturn, 1) := by decide +kernel
theorem dX9_number_53 : decode cX9_number 53 = .ok (.aload_n 0, 1) := by decide +kernel
theorem dX9_number_54 : decode cX9_number 54 = .ok (.invokevirtual 114, 3) := by decide +kernel
theorem dX9_number_57 : decode cX9_number 57 = .ok (.iload_n 3, 1) := by decide +kernel
theorem dX9_number_58 : decode cX9_number 58 = .ok (.ireturn, 1) := by decide +kernel
theorem dX9_told_0 : decode cX9_told 0 = .ok (.aload_n 0, 1) := by decide +kernel
theorem dX9_told_1 : decode cX9_told 1 = .ok (.aload_n 1, 1) := by decide +kernel
theorem dX9_told_2 : decode cX9_told 2 = .ok (.invokevirtual 143, 3) := by decide +kernel
theorem dX9_told_5 : decode cX9_told 5 = .ok (.aload_n 0, 1) := by decide +kernel
theorem dX9_told_6 : decode cX9_told 6 = .ok (.iload_n 2, 1) := by decide +kernel
theorem dX9_told_7 : decode cX9_told 7 = .ok (.iload_n 3, 1) := by decide +kernel
theorem dX9_told_8 : decode cX9_told 8 = .ok (.invokevirtual 147, 3) := by decide +kernel
theorem dX9_told_11 : decode cX9_told 11 = .ok (.ireturn, 1) := by decide +kernel
theorem dX9_comma_0 : decode cX9_comma 0 = .ok (.aload_n 0, 1) := by decide +kernel
theorem dX9_comma_1 : decode cX9_comma 1 = .ok (.getfield 93, 3) := by decide +kernel
theorem dX9_comma_4 : decode cX9_comma 4 = .ok (.ifCond .ne 12, 3) := by decide +kernel
theorem dX9_comma_7 : decode cX9_comma 7 = .ok (.aload_n 0, 1) := by decide +kernel
theorem dX9_comma_8 : decode cX9_comma 8 = .ok (.getfield 83, 3) := by decide +kernel
theorem dX9_comma_11 : decode cX9_comma 11 = .ok (.bipush 44, 2) := by decide +kernel
theorem dX9_comma_13 : decode cX9_comma 13 = .ok (.if_icmp .eq 5, 3) := by decide +kernel
theorem dX9_comma_16 : decode cX9_comma 16 = .ok (.iconst 0, 1) := by decide +kernel
theorem dX9_comma_17 : decode cX9_comma 17 = .ok (.ireturn, 1) := by decide +kernel
theorem dX9_comma_18 : decode cX9_comma 18 = .ok (.aload_n 0, 1) := by decide +kernel
theorem dX9_comma_19 : decode cX9_comma 19 = .ok (.invokevirtual 114, 3) := by decide +kernel
theorem dX9_comma_22 : decode cX9_comma 22 = .ok (.iconst 1, 1) := by decide +kernel
theorem dX9_comma_23 : decode cX9_comma 23 = .ok (.ireturn, 1) := by decide +kernel
theorem dX9_mustComma_0 : decode cX9_mustComma 0 = .ok (.aload_n 0, 1) := by decide +kernel
theorem dX9_mustComma_1 : decode cX9_mustComma 1 = .ok (.getfield 93, 3) := by decide +kernel
theorem dX9_mustComma_4 : decode cX9_mustComma 4 = .ok (.ifCond .ne 19, 3) := by decide +kernel
theorem dX9_mustComma_7 : decode cX9_mustComma 7 = .ok (.aload_n 0, 1) := by decide +kernel
theorem dX9_mustComma_8 : decode cX9_mustComma 8 = .ok (.invokevirtual 151, 3) := by decide +kernel
theorem dX9_mustComma_11 : decode cX9_mustComma 11 = .ok (.ifCond .ne 12, 3) := by decide +kernel
theorem dX9_mustComma_14 : decode cX9_mustComma 14 = .ok (.aload_n 0, 1) := by decide +kernel
theorem dX9_mustComma_15 : decode cX9_mustComma 15 = .ok (.iconst 1, 1) := by decide +kernel
theorem dX9_mustComma_16 : decode cX9_mustComma 16 = .ok (.aload_n 0, 1) := by decide +kernel
theorem dX9_mustComma_17 : decode cX9_mustComma 17 = .ok (.getfield 74, 3) := by decide +kernel
theorem dX9_mustComma_20 : decode cX9_mustComma 20 = .ok (.invokevirtual 117, 3) := by decide +kernel
theorem dX9_mustComma_23 : decode cX9_mustComma 23 = .ok (.return_, 1) := by decide +kernel
theorem dX9_book_0 : decode cX9_book 0 = .ok (.aload_n 0, 1) := by decide +kernel
theorem dX9_book_1 : decode cX9_book 1 = .ok (.invokevirtual 155, 3) := by decide +kernel
theorem dX9_book_4 : decode cX9_book 4 = .ok (.iload_n 1, 1) := by decide +kernel
theorem dX9_book_5 : decode cX9_book 5 = .ok (.iconst 0, 1) := by decide +kernel
theorem dX9_book_6 : decode cX9_book 6 = .ok (.aload_n 0, 1) := by decide +kernel
theorem dX9_book_7 : decode cX9_book 7 = .ok (.getfield 61, 3) := by decide +kernel
theorem dX9_book_10 : decode cX9_book 10 = .ok (.invokestatic 139, 3) := by decide +kernel
theorem dX9_book_13 : decode cX9_book 13 = .ok (.ifCond .ne 9, 3) := by decide +kernel
theorem dX9_book_16 : decode cX9_book 16 = .ok (.aload_n 0, 1) := by decide +kernel
theorem dX9_book_17 : decode cX9_book 17 = .ok (.iconst 2, 1) := by decide +kernel
theorem dX9_book_18 : decode cX9_book 18 = .ok (.invokevirtual 158, 3) := by decide +kernel
theorem dX9_book_21 : decode cX9_book 21 = .ok (.ireturn, 1) := by decide +kernel
theorem dX9_book_22 : decode cX9_book 22 = .ok (.aload_n 0, 1) := by decide +kernel
theorem dX9_book_23 : decode cX9_book 23 = .ok (.iconst 0, 1) := by decide +kernel
theorem dX9_book_24 : decode cX9_book 24 = .ok (.putfield 61, 3) := by decide +kernel
theorem dX9_book_27 : decode cX9_book 27 = .ok (.aload_n 0, 1) := by decide +kernel
theorem dX9_book_28 : decode cX9_book 28 = .ok (.iconst 0, 1) := by decide +kernel
theorem dX9_book_29 : decode cX9_book 29 = .ok (.putfield 97, 3) := by decide +kernel
theorem dX9_book_32 : decode cX9_book 32 = .ok (.aload_n 0, 1) := by decide +kernel
theorem dX9_book_33 : decode cX9_book 33 = .ok (.iconst 0, 1) := by decide +kernel
theorem dX9_book_34 : decode cX9_book 34 = .ok (.putfield 93, 3) := by decide +kernel
theorem dX9_book_37 : decode cX9_book 37 = .ok (.iconst 0, 1) := by decide +kernel
theorem dX9_book_38 : decode cX9_book 38 = .ok (.istore_n 2, 1) := by decide +kernel
theorem dX9_book_39 : decode cX9_book 39 = .ok (.iload_n 2, 1) := by decide +kernel
theorem dX9_book_40 : decode cX9_book 40 = .ok (.sipush 161, 3) := by decide +kernel
theorem dX9_book_43 : decode cX9_book 43 = .ok (.if_icmp .ge 16, 3) := by decide +kernel
theorem dX9_book_46 : decode cX9_book 46 = .ok (.aload_n 0, 1) := by decide +kernel
theorem dX9_book_47 : decode cX9_book 47 = .ok (.getfield 23, 3) := by decide +kernel
theorem dX9_book_50 : decode cX9_book 50 = .ok (.iload_n 2, 1) := by decide +kernel
theorem dX9_book_51 : decode cX9_book 51 = .ok (.iconst 0, 1) := by decide +kernel
theorem dX9_book_52 : decode cX9_book 52 = .ok (.iastore, 1) := by decide +kernel
theorem dX9_book_53 : decode cX9_book 53 = .ok (.iinc 2 1, 3) := by decide +kernel
theorem dX9_book_56 : decode cX9_book 56 = .ok (.goto (-17), 3) := by decide +kernel
theorem dX9_book_59 : decode cX9_book 59 = .ok (.iconst 0, 1) := by decide +kernel
theorem dX9_book_60 : decode cX9_book 60 = .ok (.istore_n 2, 1) := by decide +kernel
theorem dX9_book_61 : decode cX9_book 61 = .ok (.iload_n 2, 1) := by decide +kernel
theorem dX9_book_62 : decode cX9_book 62 = .ok (.sipush 340, 3) := by decide +kernel
theorem dX9_book_65 : decode cX9_book 65 = .ok (.if_icmp .ge 16, 3) := by decide +kernel
theorem dX9_book_68 : decode cX9_book 68 = .ok (.aload_n 0, 1) := by decide +kernel
theorem dX9_book_69 : decode cX9_book 69 = .ok (.getfield 29, 3) := by decide +kernel
theorem dX9_book_72 : decode cX9_book 72 = .ok (.iload_n 2, 1) := by decide +kernel
theorem dX9_book_73 : decode cX9_book 73 = .ok (.iconst 0, 1) := by decide +kernel
theorem dX9_book_74 : decode cX9_book 74 = .ok (.iastore, 1) := by decide +kernel
theorem dX9_book_75 : decode cX9_book 75 = .ok (.iinc 2 1, 3) := by decide +kernel
theorem dX9_book_78 : decode cX9_book 78 = .ok (.goto (-17), 3) := by decide +kernel
theorem dX9_book_81 : decode cX9_book 81 = .ok (.aload_n 0, 1) := by decide +kernel
theorem dX9_book_82 : decode cX9_book 82 = .ok (.iload_n 1, 1) := by decide +kernel
theorem dX9_book_83 : decode cX9_book 83 = .ok (.putfield 64, 3) := by decide +kernel
theorem dX9_book_86 : decode cX9_book 86 = .ok (.aload_n 0, 1) := by decide +kernel
theorem dX9_book_87 : decode cX9_book 87 = .ok (.iconst 0, 1) := by decide +kernel
theorem dX9_book_88 : decode cX9_book 88 = .ok (.putfield 67, 3) := by decide +kernel
theorem dX9_book_91 : decode cX9_book 91 = .ok (.aload_n 0, 1) := by decide +kernel
theorem dX9_book_92 : decode cX9_book 92 = .ok (.invokevirtual 114, 3) := by decide +kernel
theorem dX9_book_95 : decode cX9_book 95 = .ok (.aload_n 0, 1) := by decide +kernel
theorem dX9_book_96 : decode cX9_book 96 = .ok (.invokevirtual 161, 3) := by decide +kernel
theorem dX9_book_99 : decode cX9_book 99 = .ok (.aload_n 0, 1) := by decide +kernel
theorem dX9_book_100 : decode cX9_book 100 = .ok (.getfield 93, 3) := by decide +kernel
theorem dX9_book_103 : decode cX9_book 103 = .ok (.ifCond .ne 23, 3) := by decide +kernel
theorem dX9_book_106 : decode cX9_book 106 = .ok (.aload_n 0, 1) := by decide +kernel
theorem dX9_book_107 : decode cX9_book 107 = .ok (.getfield 83, 3) := by decide +kernel
theorem dX9_book_110 : decode cX9_book 110 = .ok (.bipush 59, 2) := by decide +kernel
theorem dX9_book_112 : decode cX9_book 112 = .ok (.if_icmp .ne 14, 3) := by decide +kernel
theorem dX9_book_115 : decode cX9_book 115 = .ok (.aload_n 0, 1) := by decide +kernel
theorem dX9_book_116 : decode cX9_book 116 = .ok (.invokevirtual 114, 3) := by decide +kernel
theorem dX9_book_119 : decode cX9_book 119 = .ok (.aload_n 0, 1) := by decide +kernel
theorem dX9_book_120 : decode cX9_book 120 = .ok (.invokevirtual 161, 3) := by decide +kernel
theorem dX9_book_123 : decode cX9_book 123 = .ok (.goto (-24), 3) := by decide +kernel
theorem dX9_book_126 : decode cX9_book 126 = .ok (.aload_n 0, 1) := by decide +kernel
theorem dX9_book_127 : decode cX9_book 127 = .ok (.getfield 93, 3) := by decide +kernel
theorem dX9_book_130 : decode cX9_book 130 = .ok (.ifCond .ne 19, 3) := by decide +kernel
theorem dX9_book_133 : decode cX9_book 133 = .ok (.aload_n 0, 1) := by decide +kernel
theorem dX9_book_134 : decode cX9_book 134 = .ok (.getfield 83, 3) := by decide +kernel
theorem dX9_book_137 : decode cX9_book 137 = .ok (.ifCond .eq 12, 3) := by decide +kernel
theorem dX9_book_140 : decode cX9_book 140 = .ok (.aload_n 0, 1) := by decide +kernel
theorem dX9_book_141 : decode cX9_book 141 = .ok (.iconst 1, 1) := by decide +kernel
theorem dX9_book_142 : decode cX9_book 142 = .ok (.aload_n 0, 1) := by decide +kernel
theorem dX9_book_143 : decode cX9_book 143 = .ok (.getfield 74, 3) := by decide +kernel
theorem dX9_book_146 : decode cX9_book 146 = .ok (.invokevirtual 117, 3) := by decide +kernel
theorem dX9_book_149 : decode cX9_book 149 = .ok (.aload_n 0, 1) := by decide +kernel
theorem dX9_book_150 : decode cX9_book 150 = .ok (.getfield 93, 3) := by decide +kernel
theorem dX9_book_153 : decode cX9_book 153 = .ok (.ifCond .ne 22, 3) := by decide +kernel
theorem dX9_book_156 : decode cX9_book 156 = .ok (.aload_n 0, 1) := by decide +kernel
theorem dX9_book_157 : decode cX9_book 157 = .ok (.getfield 23, 3) := by decide +kernel
theorem dX9_book_160 : decode cX9_book 160 = .ok (.iconst 0, 1) := by decide +kernel
theorem dX9_book_161 : decode cX9_book 161 = .ok (.iaload, 1) := by decide +kernel
theorem dX9_book_162 : decode cX9_book 162 = .ok (.ifCond .ne 13, 3) := by decide +kernel
theorem dX9_book_165 : decode cX9_book 165 = .ok (.aload_n 0, 1) := by decide +kernel
theorem dX9_book_166 : decode cX9_book 166 = .ok (.bipush 6, 2) := by decide +kernel
theorem dX9_book_168 : decode cX9_book 168 = .ok (.aload_n 0, 1) := by decide +kernel
theorem dX9_book_169 : decode cX9_book 169 = .ok (.getfield 74, 3) := by decide +kernel
theorem dX9_book_172 : decode cX9_book 172 = .ok (.invokevirtual 117, 3) := by decide +kernel
theorem dX9_book_175 : decode cX9_book 175 = .ok (.aload_n 0, 1) := by decide +kernel
theorem dX9_book_176 : decode cX9_book 176 = .ok (.getfield 93, 3) := by decide +kernel
theorem dX9_book_179 : decode cX9_book 179 = .ok (.ifCond .eq 9, 3) := by decide +kernel
theorem dX9_book_182 : decode cX9_book 182 = .ok (.aload_n 0, 1) := by decide +kernel
theorem dX9_book_183 : decode cX9_book 183 = .ok (.iconst 4, 1) := by decide +kernel
theorem dX9_book_184 : decode cX9_book 184 = .ok (.invokevirtual 158, 3) := by decide +kernel
theorem dX9_book_187 : decode cX9_book 187 = .ok (.ireturn, 1) := by decide +kernel
theorem dX9_book_188 : decode cX9_book 188 = .ok (.aload_n 0, 1) := by decide +kernel
theorem dX9_book_189 : decode cX9_book 189 = .ok (.getfield 23, 3) := by decide +kernel
theorem dX9_book_192 : decode cX9_book 192 = .ok (.iconst 0, 1) := by decide +kernel
theorem dX9_book_193 : decode cX9_book 193 = .ok (.aload_n 0, 1) := by decide +kernel
theorem dX9_book_194 : decode cX9_book 194 = .ok (.getfield 20, 3) := by decide +kernel
theorem dX9_book_197 : decode cX9_book 197 = .ok (.iconst 0, 1) := by decide +kernel
theorem dX9_book_198 : decode cX9_book 198 = .ok (.sipush 161, 3) := by decide +kernel
theorem dX9_book_201 : decode cX9_book 201 = .ok (.invokestatic 164, 3) := by decide +kernel
theorem dX9_book_204 : decode cX9_book 204 = .ok (.aload_n 0, 1) := by decide +kernel
theorem dX9_book_205 : decode cX9_book 205 = .ok (.getfield 29, 3) := by decide +kernel
theorem dX9_book_208 : decode cX9_book 208 = .ok (.iconst 0, 1) := by decide +kernel
theorem dX9_book_209 : decode cX9_book 209 = .ok (.aload_n 0, 1) := by decide +kernel
theorem dX9_book_210 : decode cX9_book 210 = .ok (.getfield 26, 3) := by decide +kernel
theorem dX9_book_213 : decode cX9_book 213 = .ok (.iconst 0, 1) := by decide +kernel
theorem dX9_book_214 : decode cX9_book 214 = .ok (.sipush 340, 3) := by decide +kernel
theorem dX9_book_217 : decode cX9_book 217 = .ok (.invokestatic 164, 3) := by decide +kernel
theorem dX9_book_220 : decode cX9_book 220 = .ok (.aload_n 0, 1) := by decide +kernel
theorem dX9_book_221 : decode cX9_book 221 = .ok (.iconst 1, 1) := by decide +kernel
theorem dX9_book_222 : decode cX9_book 222 = .ok (.putfield 168, 3) := by decide +kernel
theorem dX9_book_225 : decode cX9_book 225 = .ok (.aload_n 0, 1) := by decide +kernel
theorem dX9_book_226 : decode cX9_book 226 = .ok (.iconst 0, 1) := by decide +kernel
theorem dX9_book_227 : decode cX9_book 227 = .ok (.putfield 171, 3) := by decide +kernel
theorem dX9_book_230 : decode cX9_book 230 = .ok (.aload_n 0, 1) := by decide +kernel
theorem dX9_book_231 : decode cX9_book 231 = .ok (.iconst 0, 1) := by decide +kernel
theorem dX9_book_232 : decode cX9_book 232 = .ok (.putfield 174, 3) := by decide +kernel
theorem dX9_book_235 : decode cX9_book 235 = .ok (.aload_n 0, 1) := by decide +kernel
theorem dX9_book_236 : decode cX9_book 236 = .ok (.getfield 26, 3) := by decide +kernel
theorem dX9_book_239 : decode cX9_book 239 = .ok (.iconst 0, 1) := by decide +kernel
theorem dX9_book_240 : decode cX9_book 240 = .ok (.iaload, 1) := by decide +kernel
theorem dX9_book_241 : decode cX9_book 241 = .ok (.ireturn, 1) := by decide +kernel
theorem dX9_begins_0 : decode cX9_begins 0 = .ok (.aload_n 0, 1) := by decide +kernel
theorem dX9_begins_1 : decode cX9_begins 1 = .ok (.aload_n 1, 1) := by decide +kernel
theorem dX9_begins_2 : decode cX9_begins 2 = .ok (.invokevirtual 110, 3) := by decide +kernel
theorem dX9_begins_5 : decode cX9_begins 5 = .ok (.ifCond .ne 5, 3) := by decide +kernel
theorem dX9_begins_8 : decode cX9_begins 8 = .ok (.iconst 0, 1) := by decide +kernel
theorem dX9_begins_9 : decode cX9_begins 9 = .ok (.ireturn, 1) := by decide +kernel
theorem dX9_begins_10 : decode cX9_begins 10 = .ok (.iload_n 2, 1) := by decide +kernel
theorem dX9_begins_11 : decode cX9_begins 11 = .ok (.ifCond .ne 12, 3) := by decide +kernel
theorem dX9_begins_14 : decode cX9_begins 14 = .ok (.aload_n 0, 1) := by decide +kernel
theorem dX9_begins_15 : decode cX9_begins 15 = .ok (.iload_n 3, 1) := by decide +kernel
theorem dX9_begins_16 : decode cX9_begins 16 = .ok (.aload_n 0, 1) := by decide +kernel
theorem dX9_begins_17 : decode cX9_begins 17 = .ok (.getfield 74, 3) := by decide +kernel
theorem dX9_begins_20 : decode cX9_begins 20 = .ok (.invokevirtual 117, 3) := by decide +kernel
theorem dX9_begins_23 : decode cX9_begins 23 = .ok (.iload 4, 2) := by decide +kernel
theorem dX9_begins_25 : decode cX9_begins 25 = .ok (.ifCond .eq 22, 3) := by decide +kernel
theorem dX9_begins_28 : decode cX9_begins 28 = .ok (.aload_n 0, 1) := by decide +kernel
theorem dX9_begins_29 : decode cX9_begins 29 = .ok (.getfield 23, 3) := by decide +kernel
theorem dX9_begins_32 : decode cX9_begins 32 = .ok (.iconst 0, 1) := by decide +kernel
theorem dX9_begins_33 : decode cX9_begins 33 = .ok (.iaload, 1) := by decide +kernel
theorem dX9_begins_34 : decode cX9_begins 34 = .ok (.ifCond .ne 13, 3) := by decide +kernel
theorem dX9_begins_37 : decode cX9_begins 37 = .ok (.aload_n 0, 1) := by decide +kernel
theorem dX9_begins_38 : decode cX9_begins 38 = .ok (.bipush 6, 2) := by decide +kernel
theorem dX9_begins_40 : decode cX9_begins 40 = .ok (.aload_n 0, 1) := by decide +kernel
theorem dX9_begins_41 : decode cX9_begins 41 = .ok (.getfield 74, 3) := by decide +kernel
theorem dX9_begins_44 : decode cX9_begins 44 = .ok (.invokevirtual 117, 3) := by decide +kernel
theorem dX9_begins_47 : decode cX9_begins 47 = .ok (.aload_n 0, 1) := by decide +kernel
theorem dX9_begins_48 : decode cX9_begins 48 = .ok (.getfield 93, 3) := by decide +kernel
theorem dX9_begins_51 : decode cX9_begins 51 = .ok (.ifCond .ne 7, 3) := by decide +kernel
theorem dX9_begins_54 : decode cX9_begins 54 = .ok (.aload_n 0, 1) := by decide +kernel
theorem dX9_begins_55 : decode cX9_begins 55 = .ok (.invokevirtual 114, 3) := by decide +kernel
theorem dX9_begins_58 : decode cX9_begins 58 = .ok (.iconst 1, 1) := by decide +kernel
theorem dX9_begins_59 : decode cX9_begins 59 = .ok (.ireturn, 1) := by decide +kernel
theorem dX9_readLine_0 : decode cX9_readLine 0 = .ok (.aload_n 0, 1) := by decide +kernel
theorem dX9_readLine_1 : decode cX9_readLine 1 = .ok (.ldc 121, 2) := by decide +kernel
theorem dX9_readLine_3 : decode cX9_readLine 3 = .ok (.aload_n 0, 1) := by decide +kernel
theorem dX9_readLine_4 : decode cX9_readLine 4 = .ok (.getfield 23, 3) := by decide +kernel
theorem dX9_readLine_7 : decode cX9_readLine 7 = .ok (.iconst 0, 1) := by decide +kernel
theorem dX9_readLine_8 : decode cX9_readLine 8 = .ok (.iaload, 1) := by decide +kernel
theorem dX9_readLine_9 : decode cX9_readLine 9 = .ok (.ifCond .ne 7, 3) := by decide +kernel
theorem dX9_readLine_12 : decode cX9_readLine 12 = .ok (.iconst 1, 1) := by decide +kernel
theorem dX9_readLine_13 : decode cX9_readLine 13 = .ok (.goto 4, 3) := by decide +kernel
theorem dX9_readLine_16 : decode cX9_readLine 16 = .ok (.iconst 0, 1) := by decide +kernel
theorem dX9_readLine_17 : decode cX9_readLine 17 = .ok (.iconst 3, 1) := by decide +kernel
theorem dX9_readLine_18 : decode cX9_readLine 18 = .ok (.iconst 0, 1) := by decide +kernel
theorem dX9_readLine_19 : decode cX9_readLine 19 = .ok (.invokevirtual 177, 3) := by decide +kernel
theorem dX9_readLine_22 : decode cX9_readLine 22 = .ok (.ifCond .eq 10, 3) := by decide +kernel
theorem dX9_readLine_25 : decode cX9_readLine 25 = .ok (.aload_n 0, 1) := by decide +kernel
theorem dX9_readLine_26 : decode cX9_readLine 26 = .ok (.invokevirtual 181, 3) := by decide +kernel
theorem dX9_readLine_29 : decode cX9_readLine 29 = .ok (.goto 165, 3) := by decide +kernel
theorem dX9_readLine_32 : decode cX9_readLine 32 = .ok (.aload_n 0, 1) := by decide +kernel
theorem dX9_readLine_33 : decode cX9_readLine 33 = .ok (.ldc 123, 2) := by decide +kernel
theorem dX9_readLine_35 : decode cX9_readLine 35 = .ok (.aload_n 0, 1) := by decide +kernel
theorem dX9_readLine_36 : decode cX9_readLine 36 = .ok (.getfield 23, 3) := by decide +kernel
theorem dX9_readLine_39 : decode cX9_readLine 39 = .ok (.iconst 4, 1) := by decide +kernel
theorem dX9_readLine_40 : decode cX9_readLine 40 = .ok (.iaload, 1) := by decide +kernel
theorem dX9_readLine_41 : decode cX9_readLine 41 = .ok (.iconst 5, 1) := by decide +kernel
theorem dX9_readLine_42 : decode cX9_readLine 42 = .ok (.if_icmp .ge 7, 3) := by decide +kernel
theorem dX9_readLine_45 : decode cX9_readLine 45 = .ok (.iconst 1, 1) := by decide +kernel
theorem dX9_readLine_46 : decode cX9_readLine 46 = .ok (.goto 4, 3) := by decide +kernel
theorem dX9_readLine_49 : decode cX9_readLine 49 = .ok (.iconst 0, 1) := by decide +kernel
theorem dX9_readLine_50 : decode cX9_readLine 50 = .ok (.iconst 5, 1) := by decide +kernel
theorem dX9_readLine_51 : decode cX9_readLine 51 = .ok (.iconst 0, 1) := by decide +kernel
theorem dX9_readLine_52 : decode cX9_readLine 52 = .ok (.invokevirtual 177, 3) := by decide +kernel
theorem dX9_readLine_55 : decode cX9_readLine 55 = .ok (.ifCond .eq 10, 3) := by decide +kernel
theorem dX9_readLine_58 : decode cX9_readLine 58 = .ok (.aload_n 0, 1) := by decide +kernel
theorem dX9_readLine_59 : decode cX9_readLine 59 = .ok (.invokevirtual 184, 3) := by decide +kernel
theorem dX9_readLine_62 : decode cX9_readLine 62 = .ok (.goto 132, 3) := by decide +kernel
theorem dX9_readLine_65 : decode cX9_readLine 65 = .ok (.aload_n 0, 1) := by decide +kernel
theorem dX9_readLine_66 : decode cX9_readLine 66 = .ok (.ldc 125, 2) := by decide +kernel
theorem dX9_readLine_68 : decode cX9_readLine 68 = .ok (.iconst 1, 1) := by decide +kernel
theorem dX9_readLine_69 : decode cX9_readLine 69 = .ok (.iconst 1, 1) := by decide +kernel
theorem dX9_readLine_70 : decode cX9_readLine 70 = .ok (.iconst 0, 1) := by decide +kernel
theorem dX9_readLine_71 : decode cX9_readLine 71 = .ok (.invokevirtual 177, 3) := by decide +kernel
theorem dX9_readLine_74 : decode cX9_readLine 74 = .ok (.ifCond .eq 10, 3) := by decide +kernel
theorem dX9_readLine_77 : decode cX9_readLine 77 = .ok (.aload_n 0, 1) := by decide +kernel
theorem dX9_readLine_78 : decode cX9_readLine 78 = .ok (.invokevirtual 187, 3) := by decide +kernel
theorem dX9_readLine_81 : decode cX9_readLine 81 = .ok (.goto 113, 3) := by decide +kernel
theorem dX9_readLine_84 : decode cX9_readLine 84 = .ok (.aload_n 0, 1) := by decide +kernel
theorem dX9_readLine_85 : decode cX9_readLine 85 = .ok (.ldc 127, 2) := by decide +kernel
theorem dX9_readLine_87 : decode cX9_readLine 87 = .ok (.aload_n 0, 1) := by decide +kernel
theorem dX9_readLine_88 : decode cX9_readLine 88 = .ok (.getfield 29, 3) := by decide +kernel
theorem dX9_readLine_91 : decode cX9_readLine 91 = .ok (.iconst 0, 1) := by decide +kernel
theorem dX9_readLine_92 : decode cX9_readLine 92 = .ok (.iaload, 1) := by decide +kernel
theorem dX9_readLine_93 : decode cX9_readLine 93 = .ok (.bipush 9, 2) := by decide +kernel
theorem dX9_readLine_95 : decode cX9_readLine 95 = .ok (.if_icmp .ge 7, 3) := by decide +kernel
theorem dX9_readLine_98 : decode cX9_readLine 98 = .ok (.iconst 1, 1) := by decide +kernel
theorem dX9_readLine_99 : decode cX9_readLine 99 = .ok (.goto 4, 3) := by decide +kernel
theorem dX9_readLine_102 : decode cX9_readLine 102 = .ok (.iconst 0, 1) := by decide +kernel
theorem dX9_readLine_103 : decode cX9_readLine 103 = .ok (.iconst 5, 1) := by decide +kernel
theorem dX9_readLine_104 : decode cX9_readLine 104 = .ok (.iconst 1, 1) := by decide +kernel
theorem dX9_readLine_105 : decode cX9_readLine 105 = .ok (.invokevirtual 177, 3) := by decide +kernel
theorem dX9_readLine_108 : decode cX9_readLine 108 = .ok (.ifCond .eq 10, 3) := by decide +kernel
theorem dX9_readLine_111 : decode cX9_readLine 111 = .ok (.aload_n 0, 1) := by decide +kernel
theorem dX9_readLine_112 : decode cX9_readLine 112 = .ok (.invokevirtual 190, 3) := by decide +kernel
theorem dX9_readLine_115 : decode cX9_readLine 115 = .ok (.goto 79, 3) := by decide +kernel
theorem dX9_readLine_118 : decode cX9_readLine 118 = .ok (.aload_n 0, 1) := by decide +kernel
theorem dX9_readLine_119 : decode cX9_readLine 119 = .ok (.ldc 129, 2) := by decide +kernel
theorem dX9_readLine_121 : decode cX9_readLine 121 = .ok (.aload_n 0, 1) := by decide +kernel
theorem dX9_readLine_122 : decode cX9_readLine 122 = .ok (.getfield 23, 3) := by decide +kernel
theorem dX9_readLine_125 : decode cX9_readLine 125 = .ok (.bipush 6, 2) := by decide +kernel
theorem dX9_readLine_127 : decode cX9_readLine 127 = .ok (.iaload, 1) := by decide +kernel
theorem dX9_readLine_128 : decode cX9_readLine 128 = .ok (.iconst 4, 1) := by decide +kernel
theorem dX9_readLine_129 : decode cX9_readLine 129 = .ok (.if_icmp .ge 7, 3) := by decide +kernel
theorem dX9_readLine_132 : decode cX9_readLine 132 = .ok (.iconst 1, 1) := by decide +kernel
theorem dX9_readLine_133 : decode cX9_readLine 133 = .ok (.goto 4, 3) := by decide +kernel
theorem dX9_readLine_136 : decode cX9_readLine 136 = .ok (.iconst 0, 1) := by decide +kernel
theorem dX9_readLine_137 : decode cX9_readLine 137 = .ok (.iconst 5, 1) := by decide +kernel
theorem dX9_readLine_138 : decode cX9_readLine 138 = .ok (.iconst 1, 1) := by decide +kernel
theorem dX9_readLine_139 : decode cX9_readLine 139 = .ok (.invokevirtual 177, 3) := by decide +kernel
theorem dX9_readLine_142 : decode cX9_readLine 142 = .ok (.ifCond .eq 10, 3) := by decide +kernel
theorem dX9_readLine_145 : decode cX9_readLine 145 = .ok (.aload_n 0, 1) := by decide +kernel
theorem dX9_readLine_146 : decode cX9_readLine 146 = .ok (.invokevirtual 193, 3) := by decide +kernel
theorem dX9_readLine_149 : decode cX9_readLine 149 = .ok (.goto 45, 3) := by decide +kernel
theorem dX9_readLine_152 : decode cX9_readLine 152 = .ok (.aload_n 0, 1) := by decide +kernel
theorem dX9_readLine_153 : decode cX9_readLine 153 = .ok (.ldc 131, 2) := by decide +kernel
theorem dX9_readLine_155 : decode cX9_readLine 155 = .ok (.aload_n 0, 1) := by decide +kernel
theorem dX9_readLine_156 : decode cX9_readLine 156 = .ok (.getfield 23, 3) := by decide +kernel
theorem dX9_readLine_159 : decode cX9_readLine 159 = .ok (.bipush 70, 2) := by decide +kernel
theorem dX9_readLine_161 : decode cX9_readLine 161 = .ok (.iaload, 1) := by decide +kernel
theorem dX9_readLine_162 : decode cX9_readLine 162 = .ok (.ifCond .ne 7, 3) := by decide +kernel
theorem dX9_readLine_165 : decode cX9_readLine 165 = .ok (.iconst 1, 1) := by decide +kernel
theorem dX9_readLine_166 : decode cX9_readLine 166 = .ok (.goto 4, 3) := by decide +kernel
theorem dX9_readLine_169 : decode cX9_readLine 169 = .ok (.iconst 0, 1) := by decide +kernel
theorem dX9_readLine_170 : decode cX9_readLine 170 = .ok (.iconst 3, 1) := by decide +kernel
theorem dX9_readLine_171 : decode cX9_readLine 171 = .ok (.iconst 1, 1) := by decide +kernel
theorem dX9_readLine_172 : decode cX9_readLine 172 = .ok (.invokevirtual 177, 3) := by decide +kernel
theorem dX9_readLine_175 : decode cX9_readLine 175 = .ok (.ifCond .eq 10, 3) := by decide +kernel
theorem dX9_readLine_178 : decode cX9_readLine 178 = .ok (.aload_n 0, 1) := by decide +kernel
theorem dX9_readLine_179 : decode cX9_readLine 179 = .ok (.invokevirtual 196, 3) := by decide +kernel
theorem dX9_readLine_182 : decode cX9_readLine 182 = .ok (.goto 12, 3) := by decide +kernel
theorem dX9_readLine_185 : decode cX9_readLine 185 = .ok (.aload_n 0, 1) := by decide +kernel
theorem dX9_readLine_186 : decode cX9_readLine 186 = .ok (.iconst 1, 1) := by decide +kernel
theorem dX9_readLine_187 : decode cX9_readLine 187 = .ok (.aload_n 0, 1) := by decide +kernel
theorem dX9_readLine_188 : decode cX9_readLine 188 = .ok (.getfield 74, 3) := by decide +kernel
theorem dX9_readLine_191 : decode cX9_readLine 191 = .ok (.invokevirtual 117, 3) := by decide +kernel
theorem dX9_readLine_194 : decode cX9_readLine 194 = .ok (.return_, 1) := by decide +kernel
theorem dX9_wallLine_0 : decode cX9_wallLine 0 = .ok (.aload_n 0, 1) := by decide +kernel
theorem dX9_wallLine_1 : decode cX9_wallLine 1 = .ok (.getfield 93, 3) := by decide +kernel
theorem dX9_wallLine_4 : decode cX9_wallLine 4 = .ok (.ifCond .eq 4, 3) := by decide +kernel
theorem dX9_wallLine_7 : decode cX9_wallLine 7 = .ok (.return_, 1) := by decide +kernel
theorem dX9_wallLine_8 : decode cX9_wallLine 8 = .ok (.aload_n 0, 1) := by decide +kernel
theorem dX9_wallLine_9 : decode cX9_wallLine 9 = .ok (.ldc 199, 2) := by decide +kernel
theorem dX9_wallLine_11 : decode cX9_wallLine 11 = .ok (.iconst 1, 1) := by decide +kernel
theorem dX9_wallLine_12 : decode cX9_wallLine 12 = .ok (.bipush 6, 2) := by decide +kernel
theorem dX9_wallLine_14 : decode cX9_wallLine 14 = .ok (.invokevirtual 201, 3) := by decide +kernel
theorem dX9_wallLine_17 : decode cX9_wallLine 17 = .ok (.istore_n 1, 1) := by decide +kernel
theorem dX9_wallLine_18 : decode cX9_wallLine 18 = .ok (.aload_n 0, 1) := by decide +kernel
theorem dX9_wallLine_19 : decode cX9_wallLine 19 = .ok (.getfield 23, 3) := by decide +kernel
theorem dX9_wallLine_22 : decode cX9_wallLine 22 = .ok (.iconst 1, 1) := by decide +kernel
theorem dX9_wallLine_23 : decode cX9_wallLine 23 = .ok (.aload_n 0, 1) := by decide +kernel
theorem dX9_wallLine_24 : decode cX9_wallLine 24 = .ok (.ldc 205, 2) := by decide +kernel
theorem dX9_wallLine_26 : decode cX9_wallLine 26 = .ok (.iconst 1, 1) := by decide +kernel
theorem dX9_wallLine_27 : decode cX9_wallLine 27 = .ok (.iconst 4, 1) := by decide +kernel
theorem dX9_wallLine_28 : decode cX9_wallLine 28 = .ok (.invokevirtual 201, 3) := by decide +kernel
theorem dX9_wallLine_31 : decode cX9_wallLine 31 = .ok (.iastore, 1) := by decide +kernel
theorem dX9_wallLine_32 : decode cX9_wallLine 32 = .ok (.aload_n 0, 1) := by decide +kernel
theorem dX9_wallLine_33 : decode cX9_wallLine 33 = .ok (.getfield 23, 3) := by decide +kernel
theorem dX9_wallLine_36 : decode cX9_wallLine 36 = .ok (.iconst 2, 1) := by decide +kernel
theorem dX9_wallLine_37 : decode cX9_wallLine 37 = .ok (.aload_n 0, 1) := by decide +kernel
theorem dX9_wallLine_38 : decode cX9_wallLine 38 = .ok (.ldc 207, 2) := by decide +kernel
theorem dX9_wallLine_40 : decode cX9_wallLine 40 = .ok (.iconst 0, 1) := by decide +kernel
theorem dX9_wallLine_41 : decode cX9_wallLine 41 = .ok (.iload_n 1, 1) := by decide +kernel
theorem dX9_wallLine_42 : decode cX9_wallLine 42 = .ok (.aload_n 0, 1) := by decide +kernel
theorem dX9_wallLine_43 : decode cX9_wallLine 43 = .ok (.getfield 23, 3) := by decide +kernel
theorem dX9_wallLine_46 : decode cX9_wallLine 46 = .ok (.iconst 1, 1) := by decide +kernel
theorem dX9_wallLine_47 : decode cX9_wallLine 47 = .ok (.iaload, 1) := by decide +kernel
theorem dX9_wallLine_48 : decode cX9_wallLine 48 = .ok (.imul, 1) := by decide +kernel
theorem dX9_wallLine_49 : decode cX9_wallLine 49 = .ok (.invokevirtual 201, 3) := by decide +kernel
theorem dX9_wallLine_52 : decode cX9_wallLine 52 = .ok (.iastore, 1) := by decide +kernel
theorem dX9_wallLine_53 : decode cX9_wallLine 53 = .ok (.aload_n 0, 1) := by decide +kernel
theorem dX9_wallLine_54 : decode cX9_wallLine 54 = .ok (.getfield 23, 3) := by decide +kernel
theorem dX9_wallLine_57 : decode cX9_wallLine 57 = .ok (.iconst 3, 1) := by decide +kernel
theorem dX9_wallLine_58 : decode cX9_wallLine 58 = .ok (.aload_n 0, 1) := by decide +kernel
theorem dX9_wallLine_59 : decode cX9_wallLine 59 = .ok (.ldc 209, 2) := by decide +kernel
theorem dX9_wallLine_61 : decode cX9_wallLine 61 = .ok (.iconst 0, 1) := by decide +kernel
theorem dX9_wallLine_62 : decode cX9_wallLine 62 = .ok (.bipush 9, 2) := by decide +kernel
theorem dX9_wallLine_64 : decode cX9_wallLine 64 = .ok (.invokevirtual 201, 3) := by decide +kernel
theorem dX9_wallLine_67 : decode cX9_wallLine 67 = .ok (.iastore, 1) := by decide +kernel
theorem dX9_wallLine_68 : decode cX9_wallLine 68 = .ok (.aload_n 0, 1) := by decide +kernel
theorem dX9_wallLine_69 : decode cX9_wallLine 69 = .ok (.getfield 93, 3) := by decide +kernel
theorem dX9_wallLine_72 : decode cX9_wallLine 72 = .ok (.ifCond .ne 10, 3) := by decide +kernel
theorem dX9_wallLine_75 : decode cX9_wallLine 75 = .ok (.aload_n 0, 1) := by decide +kernel
theorem dX9_wallLine_76 : decode cX9_wallLine 76 = .ok (.getfield 23, 3) := by decide +kernel
theorem dX9_wallLine_79 : decode cX9_wallLine 79 = .ok (.iconst 0, 1) := by decide +kernel
theorem dX9_wallLine_80 : decode cX9_wallLine 80 = .ok (.iload_n 1, 1) := by decide +kernel
theorem dX9_wallLine_81 : decode cX9_wallLine 81 = .ok (.iastore, 1) := by decide +kernel
theorem dX9_wallLine_82 : decode cX9_wallLine 82 = .ok (.return_, 1) := by decide +kernel
theorem dX9_colourLine_0 : decode cX9_colourLine 0 = .ok (.aload_n 0, 1) := by decide +kernel
theorem dX9_colourLine_1 : decode cX9_colourLine 1 = .ok (.getfield 93, 3) := by decide +kernel
theorem dX9_colourLine_4 : decode cX9_colourLine 4 = .ok (.ifCond .eq 4, 3) := by decide +kernel
theorem dX9_colourLine_7 : decode cX9_colourLine 7 = .ok (.return_, 1) := by decide +kernel
theorem dX9_colourLine_8 : decode cX9_colourLine 8 = .ok (.aload_n 0, 1) := by decide +kernel
theorem dX9_colourLine_9 : decode cX9_colourLine 9 = .ok (.getfield 23, 3) := by decide +kernel
theorem dX9_colourLine_12 : decode cX9_colourLine 12 = .ok (.iconst 4, 1) := by decide +kernel
theorem dX9_colourLine_13 : decode cX9_colourLine 13 = .ok (.iaload, 1) := by decide +kernel
theorem dX9_colourLine_14 : decode cX9_colourLine 14 = .ok (.istore_n 1, 1) := by decide +kernel
theorem dX9_colourLine_15 : decode cX9_colourLine 15 = .ok (.aload_n 0, 1) := by decide +kernel
theorem dX9_colourLine_16 : decode cX9_colourLine 16 = .ok (.invokevirtual 211, 3) := by decide +kernel
theorem dX9_colourLine_19 : decode cX9_colourLine 19 = .ok (.aload_n 0, 1) := by decide +kernel
theorem dX9_colourLine_20 : decode cX9_colourLine 20 = .ok (.getfield 93, 3) := by decide +kernel
theorem dX9_colourLine_23 : decode cX9_colourLine 23 = .ok (.ifCond .eq 4, 3) := by decide +kernel
theorem dX9_colourLine_26 : decode cX9_colourLine 26 = .ok (.return_, 1) := by decide +kernel
theorem dX9_colourLine_27 : decode cX9_colourLine 27 = .ok (.aload_n 0, 1) := by decide +kernel
theorem dX9_colourLine_28 : decode cX9_colourLine 28 = .ok (.iload_n 1, 1) := by decide +kernel
theorem dX9_colourLine_29 : decode cX9_colourLine 29 = .ok (.invokevirtual 214, 3) := by decide +kernel
theorem dX9_colourLine_32 : decode cX9_colourLine 32 = .ok (.aload_n 0, 1) := by decide +kernel
theorem dX9_colourLine_33 : decode cX9_colourLine 33 = .ok (.getfield 23, 3) := by decide +kernel
theorem dX9_colourLine_36 : decode cX9_colourLine 36 = .ok (.bipush 7, 2) := by decide +kernel
theorem dX9_colourLine_38 : decode cX9_colourLine 38 = .ok (.iload_n 1, 1) := by decide +kernel
theorem dX9_colourLine_39 : decode cX9_colourLine 39 = .ok (.iadd, 1) := by decide +kernel
theorem dX9_colourLine_40 : decode cX9_colourLine 40 = .ok (.aload_n 0, 1) := by decide +kernel
theorem dX9_colourLine_41 : decode cX9_colourLine 41 = .ok (.ldc 218, 2) := by decide +kernel
theorem dX9_colourLine_43 : decode cX9_colourLine 43 = .ok (.iconst 0, 1) := by decide +kernel
theorem dX9_colourLine_44 : decode cX9_colourLine 44 = .ok (.bipush 9, 2) := by decide +kernel
theorem dX9_colourLine_46 : decode cX9_colourLine 46 = .ok (.invokevirtual 201, 3) := by decide +kernel
theorem dX9_colourLine_49 : decode cX9_colourLine 49 = .ok (.iastore, 1) := by decide +kernel
theorem dX9_colourLine_50 : decode cX9_colourLine 50 = .ok (.aload_n 0, 1) := by decide +kernel
theorem dX9_colourLine_51 : decode cX9_colourLine 51 = .ok (.getfield 23, 3) := by decide +kernel
theorem dX9_colourLine_54 : decode cX9_colourLine 54 = .ok (.bipush 12, 2) := by decide +kernel
theorem dX9_colourLine_56 : decode cX9_colourLine 56 = .ok (.iload_n 1, 1) := by decide +kernel
theorem dX9_colourLine_57 : decode cX9_colourLine 57 = .ok (.iadd, 1) := by decide +kernel
theorem dX9_colourLine_58 : decode cX9_colourLine 58 = .ok (.aload_n 0, 1) := by decide +kernel
theorem dX9_colourLine_59 : decode cX9_colourLine 59 = .ok (.ldc 220, 2) := by decide +kernel
theorem dX9_colourLine_61 : decode cX9_colourLine 61 = .ok (.iconst 0, 1) := by decide +kernel
theorem dX9_colourLine_62 : decode cX9_colourLine 62 = .ok (.sipush 999, 3) := by decide +kernel
theorem dX9_colourLine_65 : decode cX9_colourLine 65 = .ok (.invokevirtual 201, 3) := by decide +kernel
theorem dX9_colourLine_68 : decode cX9_colourLine 68 = .ok (.iastore, 1) := by decide +kernel
theorem dX9_colourLine_69 : decode cX9_colourLine 69 = .ok (.aload_n 0, 1) := by decide +kernel
theorem dX9_colourLine_70 : decode cX9_colourLine 70 = .ok (.getfield 23, 3) := by decide +kernel
theorem dX9_colourLine_73 : decode cX9_colourLine 73 = .ok (.bipush 17, 2) := by decide +kernel
theorem dX9_colourLine_75 : decode cX9_colourLine 75 = .ok (.iload_n 1, 1) := by decide +kernel
theorem dX9_colourLine_76 : decode cX9_colourLine 76 = .ok (.iadd, 1) := by decide +kernel
theorem dX9_colourLine_77 : decode cX9_colourLine 77 = .ok (.aload_n 0, 1) := by decide +kernel
theorem dX9_colourLine_78 : decode cX9_colourLine 78 = .ok (.ldc 222, 2) := by decide +kernel
theorem dX9_colourLine_80 : decode cX9_colourLine 80 = .ok (.iconst 0, 1) := by decide +kernel
theorem dX9_colourLine_81 : decode cX9_colourLine 81 = .ok (.sipush 999, 3) := by decide +kernel
theorem dX9_colourLine_84 : decode cX9_colourLine 84 = .ok (.invokevirtual 201, 3) := by decide +kernel
theorem dX9_colourLine_87 : decode cX9_colourLine 87 = .ok (.iastore, 1) := by decide +kernel
theorem dX9_colourLine_88 : decode cX9_colourLine 88 = .ok (.aload_n 0, 1) := by decide +kernel
theorem dX9_colourLine_89 : decode cX9_colourLine 89 = .ok (.getfield 93, 3) := by decide +kernel
theorem dX9_colourLine_92 : decode cX9_colourLine 92 = .ok (.ifCond .ne 13, 3) := by decide +kernel
theorem dX9_colourLine_95 : decode cX9_colourLine 95 = .ok (.aload_n 0, 1) := by decide +kernel
theorem dX9_colourLine_96 : decode cX9_colourLine 96 = .ok (.getfield 23, 3) := by decide +kernel
theorem dX9_colourLine_99 : decode cX9_colourLine 99 = .ok (.iconst 4, 1) := by decide +kernel
theorem dX9_colourLine_100 : decode cX9_colourLine 100 = .ok (.dup2, 1) := by decide +kernel
theorem dX9_colourLine_101 : decode cX9_colourLine 101 = .ok (.iaload, 1) := by decide +kernel
theorem dX9_colourLine_102 : decode cX9_colourLine 102 = .ok (.iconst 1, 1) := by decide +kernel
theorem dX9_colourLine_103 : decode cX9_colourLine 103 = .ok (.iadd, 1) := by decide +kernel
theorem dX9_colourLine_104 : decode cX9_colourLine 104 = .ok (.iastore, 1) := by decide +kernel
theorem dX9_colourLine_105 : decode cX9_colourLine 105 = .ok (.return_, 1) := by decide +kernel
theorem dX9_handLine_0 : decode cX9_handLine 0 = .ok (.aload_n 0, 1) := by decide +kernel
theorem dX9_handLine_1 : decode cX9_handLine 1 = .ok (.getfield 93, 3) := by decide +kernel
theorem dX9_handLine_4 : decode cX9_handLine 4 = .ok (.ifCond .ne 7, 3) := by decide +kernel
theorem dX9_handLine_7 : decode cX9_handLine 7 = .ok (.iconst 1, 1) := by decide +kernel
theorem dX9_handLine_8 : decode cX9_handLine 8 = .ok (.goto 4, 3) := by decide +kernel
theorem dX9_handLine_11 : decode cX9_handLine 11 = .ok (.iconst 0, 1) := by decide +kernel
theorem dX9_handLine_12 : decode cX9_handLine 12 = .ok (.istore_n 1, 1) := by decide +kernel
theorem dX9_handLine_13 : decode cX9_handLine 13 = .ok (.iload_n 1, 1) := by decide +kernel
theorem dX9_handLine_14 : decode cX9_handLine 14 = .ok (.ifCond .eq 71, 3) := by decide +kernel
theorem dX9_handLine_17 : decode cX9_handLine 17 = .ok (.aload_n 0, 1) := by decide +kernel
theorem dX9_handLine_18 : decode cX9_handLine 18 = .ok (.invokevirtual 211, 3) := by decide +kernel
theorem dX9_handLine_21 : decode cX9_handLine 21 = .ok (.aload_n 0, 1) := by decide +kernel
theorem dX9_handLine_22 : decode cX9_handLine 22 = .ok (.getfield 93, 3) := by decide +kernel
theorem dX9_handLine_25 : decode cX9_handLine 25 = .ok (.ifCond .ne 22, 3) := by decide +kernel
theorem dX9_handLine_28 : decode cX9_handLine 28 = .ok (.aload_n 0, 1) := by decide +kernel
theorem dX9_handLine_29 : decode cX9_handLine 29 = .ok (.getfield 23, 3) := by decide +kernel
theorem dX9_handLine_32 : decode cX9_handLine 32 = .ok (.iconst 5, 1) := by decide +kernel
theorem dX9_handLine_33 : decode cX9_handLine 33 = .ok (.iaload, 1) := by decide +kernel
theorem dX9_handLine_34 : decode cX9_handLine 34 = .ok (.iconst 5, 1) := by decide +kernel
theorem dX9_handLine_35 : decode cX9_handLine 35 = .ok (.if_icmp .ne 12, 3) := by decide +kernel
theorem dX9_handLine_38 : decode cX9_handLine 38 = .ok (.aload_n 0, 1) := by decide +kernel
theorem dX9_handLine_39 : decode cX9_handLine 39 = .ok (.iconst 5, 1) := by decide +kernel
theorem dX9_handLine_40 : decode cX9_handLine 40 = .ok (.aload_n 0, 1) := by decide +kernel
theorem dX9_handLine_41 : decode cX9_handLine 41 = .ok (.getfield 74, 3) := by decide +kernel
theorem dX9_handLine_44 : decode cX9_handLine 44 = .ok (.invokevirtual 117, 3) := by decide +kernel
theorem dX9_handLine_47 : decode cX9_handLine 47 = .ok (.aload_n 0, 1) := by decide +kernel
theorem dX9_handLine_48 : decode cX9_handLine 48 = .ok (.getfield 93, 3) := by decide +kernel
theorem dX9_handLine_51 : decode cX9_handLine 51 = .ok (.ifCond .eq 4, 3) := by decide +kernel
theorem dX9_handLine_54 : decode cX9_handLine 54 = .ok (.return_, 1) := by decide +kernel
theorem dX9_handLine_55 : decode cX9_handLine 55 = .ok (.aload_n 0, 1) := by decide +kernel
theorem dX9_handLine_56 : decode cX9_handLine 56 = .ok (.iconst 5, 1) := by decide +kernel
theorem dX9_handLine_57 : decode cX9_handLine 57 = .ok (.aload_n 0, 1) := by decide +kernel
theorem dX9_handLine_58 : decode cX9_handLine 58 = .ok (.getfield 23, 3) := by decide +kernel
theorem dX9_handLine_61 : decode cX9_handLine 61 = .ok (.iconst 5, 1) := by decide +kernel
theorem dX9_handLine_62 : decode cX9_handLine 62 = .ok (.iaload, 1) := by decide +kernel
theorem dX9_handLine_63 : decode cX9_handLine 63 = .ok (.iadd, 1) := by decide +kernel
theorem dX9_handLine_64 : decode cX9_handLine 64 = .ok (.invokevirtual 214, 3) := by decide +kernel
theorem dX9_handLine_67 : decode cX9_handLine 67 = .ok (.aload_n 0, 1) := by decide +kernel
theorem dX9_handLine_68 : decode cX9_handLine 68 = .ok (.getfield 23, 3) := by decide +kernel
theorem dX9_handLine_71 : decode cX9_handLine 71 = .ok (.iconst 5, 1) := by decide +kernel
theorem dX9_handLine_72 : decode cX9_handLine 72 = .ok (.dup2, 1) := by decide +kernel
theorem dX9_handLine_73 : decode cX9_handLine 73 = .ok (.iaload, 1) := by decide +kernel
theorem dX9_handLine_74 : decode cX9_handLine 74 = .ok (.iconst 1, 1) := by decide +kernel
theorem dX9_handLine_75 : decode cX9_handLine 75 = .ok (.iadd, 1) := by decide +kernel
theorem dX9_handLine_76 : decode cX9_handLine 76 = .ok (.iastore, 1) := by decide +kernel
theorem dX9_handLine_77 : decode cX9_handLine 77 = .ok (.aload_n 0, 1) := by decide +kernel
theorem dX9_handLine_78 : decode cX9_handLine 78 = .ok (.invokevirtual 151, 3) := by decide +kernel
theorem dX9_handLine_81 : decode cX9_handLine 81 = .ok (.istore_n 1, 1) := by decide +kernel
theorem dX9_handLine_82 : decode cX9_handLine 82 = .ok (.goto (-69), 3) := by decide +kernel
theorem dX9_handLine_85 : decode cX9_handLine 85 = .ok (.return_, 1) := by decide +kernel
theorem dX9_cells_0 : decode cX9_cells 0 = .ok (.aload_n 0, 1) := by decide +kernel
theorem dX9_cells_1 : decode cX9_cells 1 = .ok (.aload_n 0, 1) := by decide +kernel
theorem dX9_cells_2 : decode cX9_cells 2 = .ok (.iconst 0, 1) := by decide +kernel
theorem dX9_cells_3 : decode cX9_cells 3 = .ok (.aload_n 0, 1) := by decide +kernel
theorem dX9_cells_4 : decode cX9_cells 4 = .ok (.getfield 23, 3) := by decide +kernel
theorem dX9_cells_7 : decode cX9_cells 7 = .ok (.iconst 0, 1) := by decide +kernel
theorem dX9_cells_8 : decode cX9_cells 8 = .ok (.iaload, 1) := by decide +kernel
theorem dX9_cells_9 : decode cX9_cells 9 = .ok (.iconst 1, 1) := by decide +kernel
theorem dX9_cells_10 : decode cX9_cells 10 = .ok (.isub, 1) := by decide +kernel
theorem dX9_cells_11 : decode cX9_cells 11 = .ok (.invokevirtual 147, 3) := by decide +kernel
theorem dX9_cells_14 : decode cX9_cells 14 = .ok (.putfield 224, 3) := by decide +kernel
theorem dX9_cells_17 : decode cX9_cells 17 = .ok (.aload_n 0, 1) := by decide +kernel
theorem dX9_cells_18 : decode cX9_cells 18 = .ok (.invokevirtual 227, 3) := by decide +kernel
theorem dX9_cells_21 : decode cX9_cells 21 = .ok (.aload_n 0, 1) := by decide +kernel
theorem dX9_cells_22 : decode cX9_cells 22 = .ok (.aload_n 0, 1) := by decide +kernel
theorem dX9_cells_23 : decode cX9_cells 23 = .ok (.iconst 0, 1) := by decide +kernel
theorem dX9_cells_24 : decode cX9_cells 24 = .ok (.aload_n 0, 1) := by decide +kernel
theorem dX9_cells_25 : decode cX9_cells 25 = .ok (.getfield 23, 3) := by decide +kernel
theorem dX9_cells_28 : decode cX9_cells 28 = .ok (.iconst 1, 1) := by decide +kernel
theorem dX9_cells_29 : decode cX9_cells 29 = .ok (.iaload, 1) := by decide +kernel
theorem dX9_cells_30 : decode cX9_cells 30 = .ok (.iconst 1, 1) := by decide +kernel
theorem dX9_cells_31 : decode cX9_cells 31 = .ok (.isub, 1) := by decide +kernel
theorem dX9_cells_32 : decode cX9_cells 32 = .ok (.invokevirtual 147, 3) := by decide +kernel
theorem dX9_cells_35 : decode cX9_cells 35 = .ok (.putfield 230, 3) := by decide +kernel
theorem dX9_cells_38 : decode cX9_cells 38 = .ok (.aload_n 0, 1) := by decide +kernel
theorem dX9_cells_39 : decode cX9_cells 39 = .ok (.ldc 233, 2) := by decide +kernel
theorem dX9_cells_41 : decode cX9_cells 41 = .ok (.invokevirtual 143, 3) := by decide +kernel
theorem dX9_cells_44 : decode cX9_cells 44 = .ok (.aload_n 0, 1) := by decide +kernel
theorem dX9_cells_45 : decode cX9_cells 45 = .ok (.aload_n 0, 1) := by decide +kernel
theorem dX9_cells_46 : decode cX9_cells 46 = .ok (.aload_n 0, 1) := by decide +kernel
theorem dX9_cells_47 : decode cX9_cells 47 = .ok (.getfield 224, 3) := by decide +kernel
theorem dX9_cells_50 : decode cX9_cells 50 = .ok (.aload_n 0, 1) := by decide +kernel
theorem dX9_cells_51 : decode cX9_cells 51 = .ok (.getfield 23, 3) := by decide +kernel
theorem dX9_cells_54 : decode cX9_cells 54 = .ok (.iconst 0, 1) := by decide +kernel
theorem dX9_cells_55 : decode cX9_cells 55 = .ok (.iaload, 1) := by decide +kernel
theorem dX9_cells_56 : decode cX9_cells 56 = .ok (.iconst 1, 1) := by decide +kernel
theorem dX9_cells_57 : decode cX9_cells 57 = .ok (.isub, 1) := by decide +kernel
theorem dX9_cells_58 : decode cX9_cells 58 = .ok (.invokevirtual 147, 3) := by decide +kernel
theorem dX9_cells_61 : decode cX9_cells 61 = .ok (.putfield 235, 3) := by decide +kernel
theorem dX9_cells_64 : decode cX9_cells 64 = .ok (.aload_n 0, 1) := by decide +kernel
theorem dX9_cells_65 : decode cX9_cells 65 = .ok (.invokevirtual 227, 3) := by decide +kernel
theorem dX9_cells_68 : decode cX9_cells 68 = .ok (.aload_n 0, 1) := by decide +kernel
theorem dX9_cells_69 : decode cX9_cells 69 = .ok (.aload_n 0, 1) := by decide +kernel
theorem dX9_cells_70 : decode cX9_cells 70 = .ok (.aload_n 0, 1) := by decide +kernel
theorem dX9_cells_71 : decode cX9_cells 71 = .ok (.getfield 230, 3) := by decide +kernel
theorem dX9_cells_74 : decode cX9_cells 74 = .ok (.aload_n 0, 1) := by decide +kernel
theorem dX9_cells_75 : decode cX9_cells 75 = .ok (.getfield 23, 3) := by decide +kernel
theorem dX9_cells_78 : decode cX9_cells 78 = .ok (.iconst 1, 1) := by decide +kernel
theorem dX9_cells_79 : decode cX9_cells 79 = .ok (.iaload, 1) := by decide +kernel
theorem dX9_cells_80 : decode cX9_cells 80 = .ok (.iconst 1, 1) := by decide +kernel
theorem dX9_cells_81 : decode cX9_cells 81 = .ok (.isub, 1) := by decide +kernel
theorem dX9_cells_82 : decode cX9_cells 82 = .ok (.invokevirtual 147, 3) := by decide +kernel
theorem dX9_cells_85 : decode cX9_cells 85 = .ok (.putfield 238, 3) := by decide +kernel
theorem dX9_cells_88 : decode cX9_cells 88 = .ok (.return_, 1) := by decide +kernel
theorem dX9_patches_0 : decode cX9_patches 0 = .ok (.iconst 0, 1) := by decide +kernel
theorem dX9_patches_1 : decode cX9_patches 1 = .ok (.istore_n 3, 1) := by decide +kernel
theorem dX9_patches_2 : decode cX9_patches 2 = .ok (.iconst 1, 1) := by decide +kernel
theorem dX9_patches_3 : decode cX9_patches 3 = .ok (.istore 4, 2) := by decide +kernel
theorem dX9_patches_5 : decode cX9_patches 5 = .ok (.iload 4, 2) := by decide +kernel
theorem dX9_patches_7 : decode cX9_patches 7 = .ok (.ifCond .eq 81, 3) := by decide +kernel
theorem dX9_patches_10 : decode cX9_patches 10 = .ok (.aload_n 0, 1) := by decide +kernel
theorem dX9_patches_11 : decode cX9_patches 11 = .ok (.iconst 1, 1) := by decide +kernel
theorem dX9_patches_12 : decode cX9_patches 12 = .ok (.invokevirtual 241, 3) := by decide +kernel
theorem dX9_patches_15 : decode cX9_patches 15 = .ok (.istore 5, 2) := by decide +kernel
theorem dX9_patches_17 : decode cX9_patches 17 = .ok (.aload_n 0, 1) := by decide +kernel
theorem dX9_patches_18 : decode cX9_patches 18 = .ok (.getfield 93, 3) := by decide +kernel
theorem dX9_patches_21 : decode cX9_patches 21 = .ok (.ifCond .ne 17, 3) := by decide +kernel
theorem dX9_patches_24 : decode cX9_patches 24 = .ok (.iload_n 3, 1) := by decide +kernel
theorem dX9_patches_25 : decode cX9_patches 25 = .ok (.iconst 4, 1) := by decide +kernel
theorem dX9_patches_26 : decode cX9_patches 26 = .ok (.if_icmp .ne 12, 3) := by decide +kernel
theorem dX9_patches_29 : decode cX9_patches 29 = .ok (.aload_n 0, 1) := by decide +kernel
theorem dX9_patches_30 : decode cX9_patches 30 = .ok (.iconst 5, 1) := by decide +kernel
theorem dX9_patches_31 : decode cX9_patches 31 = .ok (.aload_n 0, 1) := by decide +kernel
theorem dX9_patches_32 : decode cX9_patches 32 = .ok (.getfield 74, 3) := by decide +kernel
theorem dX9_patches_35 : decode cX9_patches 35 = .ok (.invokevirtual 117, 3) := by decide +kernel
theorem dX9_patches_38 : decode cX9_patches 38 = .ok (.aload_n 0, 1) := by decide +kernel
theorem dX9_patches_39 : decode cX9_patches 39 = .ok (.getfield 93, 3) := by decide +kernel
theorem dX9_patches_42 : decode cX9_patches 42 = .ok (.ifCond .eq 4, 3) := by decide +kernel
theorem dX9_patches_45 : decode cX9_patches 45 = .ok (.return_, 1) := by decide +kernel
theorem dX9_patches_46 : decode cX9_patches 46 = .ok (.aload_n 0, 1) := by decide +kernel
theorem dX9_patches_47 : decode cX9_patches 47 = .ok (.invokevirtual 114, 3) := by decide +kernel
theorem dX9_patches_50 : decode cX9_patches 50 = .ok (.aload_n 0, 1) := by decide +kernel
theorem dX9_patches_51 : decode cX9_patches 51 = .ok (.invokevirtual 245, 3) := by decide +kernel
theorem dX9_patches_54 : decode cX9_patches 54 = .ok (.aload_n 0, 1) := by decide +kernel
theorem dX9_patches_55 : decode cX9_patches 55 = .ok (.getfield 93, 3) := by decide +kernel
theorem dX9_patches_58 : decode cX9_patches 58 = .ok (.ifCond .eq 4, 3) := by decide +kernel
theorem dX9_patches_61 : decode cX9_patches 61 = .ok (.return_, 1) := by decide +kernel
theorem dX9_patches_62 : decode cX9_patches 62 = .ok (.aload_n 0, 1) := by decide +kernel
theorem dX9_patches_63 : decode cX9_patches 63 = .ok (.aload_n 1, 1) := by decide +kernel
theorem dX9_patches_64 : decode cX9_patches 64 = .ok (.iload_n 2, 1) := by decide +kernel
theorem dX9_patches_65 : decode cX9_patches 65 = .ok (.iload 5, 2) := by decide +kernel
theorem dX9_patches_67 : decode cX9_patches 67 = .ok (.aload_n 0, 1) := by decide +kernel
theorem dX9_patches_68 : decode cX9_patches 68 = .ok (.getfield 23, 3) := by decide +kernel
theorem dX9_patches_71 : decode cX9_patches 71 = .ok (.iconst 0, 1) := by decide +kernel
theorem dX9_patches_72 : decode cX9_patches 72 = .ok (.iaload, 1) := by decide +kernel
theorem dX9_patches_73 : decode cX9_patches 73 = .ok (.invokevirtual 248, 3) := by decide +kernel
theorem dX9_patches_76 : decode cX9_patches 76 = .ok (.iinc 3 1, 3) := by decide +kernel
theorem dX9_patches_79 : decode cX9_patches 79 = .ok (.aload_n 0, 1) := by decide +kernel
theorem dX9_patches_80 : decode cX9_patches 80 = .ok (.invokevirtual 151, 3) := by decide +kernel
theorem dX9_patches_83 : decode cX9_patches 83 = .ok (.istore 4, 2) := by decide +kernel
theorem dX9_patches_85 : decode cX9_patches 85 = .ok (.goto (-80), 3) := by decide +kernel
theorem dX9_patches_88 : decode cX9_patches 88 = .ok (.return_, 1) := by decide +kernel
theorem dX9_fill_0 : decode cX9_fill 0 = .ok (.aload_n 0, 1) := by decide +kernel
theorem dX9_fill_1 : decode cX9_fill 1 = .ok (.getfield 230, 3) := by decide +kernel
theorem dX9_fill_4 : decode cX9_fill 4 = .ok (.istore 5, 2) := by decide +kernel
theorem dX9_fill_6 : decode cX9_fill 6 = .ok (.iload 5, 2) := by decide +kernel
theorem dX9_fill_8 : decode cX9_fill 8 = .ok (.aload_n 0, 1) := by decide +kernel
theorem dX9_fill_9 : decode cX9_fill 9 = .ok (.getfield 238, 3) := by decide +kernel
theorem dX9_fill_12 : decode cX9_fill 12 = .ok (.if_icmp .gt 45, 3) := by decide +kernel
theorem dX9_fill_15 : decode cX9_fill 15 = .ok (.aload_n 0, 1) := by decide +kernel
theorem dX9_fill_16 : decode cX9_fill 16 = .ok (.getfield 224, 3) := by decide +kernel
theorem dX9_fill_19 : decode cX9_fill 19 = .ok (.istore 6, 2) := by decide +kernel
theorem dX9_fill_21 : decode cX9_fill 21 = .ok (.iload 6, 2) := by decide +kernel
theorem dX9_fill_23 : decode cX9_fill 23 = .ok (.aload_n 0, 1) := by decide +kernel
theorem dX9_fill_24 : decode cX9_fill 24 = .ok (.getfield 235, 3) := by decide +kernel
theorem dX9_fill_27 : decode cX9_fill 27 = .ok (.if_icmp .gt 24, 3) := by decide +kernel
theorem dX9_fill_30 : decode cX9_fill 30 = .ok (.aload_n 1, 1) := by decide +kernel
theorem dX9_fill_31 : decode cX9_fill 31 = .ok (.iload_n 2, 1) := by decide +kernel
theorem dX9_fill_32 : decode cX9_fill 32 = .ok (.iload 4, 2) := by decide +kernel
theorem dX9_fill_34 : decode cX9_fill 34 = .ok (.iload 5, 2) := by decide +kernel
theorem dX9_fill_36 : decode cX9_fill 36 = .ok (.imul, 1) := by decide +kernel
theorem dX9_fill_37 : decode cX9_fill 37 = .ok (.iadd, 1) := by decide +kernel
theorem dX9_fill_38 : decode cX9_fill 38 = .ok (.iload 6, 2) := by decide +kernel
theorem dX9_fill_40 : decode cX9_fill 40 = .ok (.iadd, 1) := by decide +kernel
theorem dX9_fill_41 : decode cX9_fill 41 = .ok (.iload_n 3, 1) := by decide +kernel
theorem dX9_fill_42 : decode cX9_fill 42 = .ok (.iconst 1, 1) := by decide +kernel
theorem dX9_fill_43 : decode cX9_fill 43 = .ok (.iadd, 1) := by decide +kernel
theorem dX9_fill_44 : decode cX9_fill 44 = .ok (.iastore, 1) := by decide +kernel
theorem dX9_fill_45 : decode cX9_fill 45 = .ok (.iinc 6 1, 3) := by decide +kernel
theorem dX9_fill_48 : decode cX9_fill 48 = .ok (.goto (-27), 3) := by decide +kernel
theorem dX9_fill_51 : decode cX9_fill 51 = .ok (.iinc 5 1, 3) := by decide +kernel
theorem dX9_fill_54 : decode cX9_fill 54 = .ok (.goto (-48), 3) := by decide +kernel
theorem dX9_fill_57 : decode cX9_fill 57 = .ok (.return_, 1) := by decide +kernel
theorem dX9_workLine_0 : decode cX9_workLine 0 = .ok (.aload_n 0, 1) := by decide +kernel
theorem dX9_workLine_1 : decode cX9_workLine 1 = .ok (.getfield 93, 3) := by decide +kernel
theorem dX9_workLine_4 : decode cX9_workLine 4 = .ok (.ifCond .eq 4, 3) := by decide +kernel
theorem dX9_workLine_7 : decode cX9_workLine 7 = .ok (.return_, 1) := by decide +kernel
theorem dX9_workLine_8 : decode cX9_workLine 8 = .ok (.iconst 2, 1) := by decide +kernel
theorem dX9_workLine_9 : decode cX9_workLine 9 = .ok (.bipush 26, 2) := by decide +kernel
theorem dX9_workLine_11 : decode cX9_workLine 11 = .ok (.aload_n 0, 1) := by decide +kernel
theorem dX9_workLine_12 : decode cX9_workLine 12 = .ok (.getfield 29, 3) := by decide +kernel
theorem dX9_workLine_15 : decode cX9_workLine 15 = .ok (.iconst 0, 1) := by decide +kernel
theorem dX9_workLine_16 : decode cX9_workLine 16 = .ok (.iaload, 1) := by decide +kernel
theorem dX9_workLine_17 : decode cX9_workLine 17 = .ok (.imul, 1) := by decide +kernel
theorem dX9_workLine_18 : decode cX9_workLine 18 = .ok (.iadd, 1) := by decide +kernel
theorem dX9_workLine_19 : decode cX9_workLine 19 = .ok (.istore_n 1, 1) := by decide +kernel
theorem dX9_workLine_20 : decode cX9_workLine 20 = .ok (.aload_n 0, 1) := by decide +kernel
theorem dX9_workLine_21 : decode cX9_workLine 21 = .ok (.iconst 0, 1) := by decide +kernel
theorem dX9_workLine_22 : decode cX9_workLine 22 = .ok (.invokevirtual 241, 3) := by decide +kernel
theorem dX9_workLine_25 : decode cX9_workLine 25 = .ok (.istore_n 2, 1) := by decide +kernel
theorem dX9_workLine_26 : decode cX9_workLine 26 = .ok (.aload_n 0, 1) := by decide +kernel
theorem dX9_workLine_27 : decode cX9_workLine 27 = .ok (.getfield 93, 3) := by decide +kernel
theorem dX9_workLine_30 : decode cX9_workLine 30 = .ok (.ifCond .eq 4, 3) := by decide +kernel
theorem dX9_workLine_33 : decode cX9_workLine 33 = .ok (.return_, 1) := by decide +kernel
theorem dX9_workLine_34 : decode cX9_workLine 34 = .ok (.aload_n 0, 1) := by decide +kernel
theorem dX9_workLine_35 : decode cX9_workLine 35 = .ok (.invokevirtual 114, 3) := by decide +kernel
theorem dX9_workLine_38 : decode cX9_workLine 38 = .ok (.aload_n 0, 1) := by decide +kernel
theorem dX9_workLine_39 : decode cX9_workLine 39 = .ok (.ldc 252, 2) := by decide +kernel
theorem dX9_workLine_41 : decode cX9_workLine 41 = .ok (.aload_n 0, 1) := by decide +kernel
theorem dX9_workLine_42 : decode cX9_workLine 42 = .ok (.getfield 29, 3) := by decide +kernel
theorem dX9_workLine_45 : decode cX9_workLine 45 = .ok (.iconst 0, 1) := by decide +kernel
theorem dX9_workLine_46 : decode cX9_workLine 46 = .ok (.iaload, 1) := by decide +kernel
theorem dX9_workLine_47 : decode cX9_workLine 47 = .ok (.ifCond .ne 7, 3) := by decide +kernel
theorem dX9_workLine_50 : decode cX9_workLine 50 = .ok (.iconst 0, 1) := by decide +kernel
theorem dX9_workLine_51 : decode cX9_workLine 51 = .ok (.goto 14, 3) := by decide +kernel
theorem dX9_workLine_54 : decode cX9_workLine 54 = .ok (.aload_n 0, 1) := by decide +kernel
theorem dX9_workLine_55 : decode cX9_workLine 55 = .ok (.getfield 29, 3) := by decide +kernel
theorem dX9_workLine_58 : decode cX9_workLine 58 = .ok (.iload_n 1, 1) := by decide +kernel
theorem dX9_workLine_59 : decode cX9_workLine 59 = .ok (.bipush 26, 2) := by decide +kernel
theorem dX9_workLine_61 : decode cX9_workLine 61 = .ok (.isub, 1) := by decide +kernel
theorem dX9_workLine_62 : decode cX9_workLine 62 = .ok (.iconst 1, 1) := by decide +kernel
theorem dX9_workLine_63 : decode cX9_workLine 63 = .ok (.iadd, 1) := by decide +kernel
theorem dX9_workLine_64 : decode cX9_workLine 64 = .ok (.iaload, 1) := by decide +kernel
theorem dX9_workLine_65 : decode cX9_workLine 65 = .ok (.sipush 999, 3) := by decide +kernel
theorem dX9_workLine_68 : decode cX9_workLine 68 = .ok (.invokevirtual 201, 3) := by decide +kernel
theorem dX9_workLine_71 : decode cX9_workLine 71 = .ok (.istore_n 3, 1) := by decide +kernel
theorem dX9_workLine_72 : decode cX9_workLine 72 = .ok (.aload_n 0, 1) := by decide +kernel
theorem dX9_workLine_73 : decode cX9_workLine 73 = .ok (.getfield 29, 3) := by decide +kernel
theorem dX9_workLine_76 : decode cX9_workLine 76 = .ok (.iload_n 1, 1) := by decide +kernel
theorem dX9_workLine_77 : decode cX9_workLine 77 = .ok (.iconst 0, 1) := by decide +kernel
theorem dX9_workLine_78 : decode cX9_workLine 78 = .ok (.iadd, 1) := by decide +kernel
theorem dX9_workLine_79 : decode cX9_workLine 79 = .ok (.iload_n 2, 1) := by decide +kernel
theorem dX9_workLine_80 : decode cX9_workLine 80 = .ok (.iastore, 1) := by decide +kernel
theorem dX9_workLine_81 : decode cX9_workLine 81 = .ok (.aload_n 0, 1) := by decide +kernel
theorem dX9_workLine_82 : decode cX9_workLine 82 = .ok (.getfield 29, 3) := by decide +kernel
theorem dX9_workLine_85 : decode cX9_workLine 85 = .ok (.iload_n 1, 1) := by decide +kernel
theorem dX9_workLine_86 : decode cX9_workLine 86 = .ok (.iconst 1, 1) := by decide +kernel
theorem dX9_workLine_87 : decode cX9_workLine 87 = .ok (.iadd, 1) := by decide +kernel
theorem dX9_workLine_88 : decode cX9_workLine 88 = .ok (.iload_n 3, 1) := by decide +kernel
theorem dX9_workLine_89 : decode cX9_workLine 89 = .ok (.iastore, 1) := by decide +kernel
theorem dX9_workLine_90 : decode cX9_workLine 90 = .ok (.aload_n 0, 1) := by decide +kernel
theorem dX9_workLine_91 : decode cX9_workLine 91 = .ok (.getfield 93, 3) := by decide +kernel
theorem dX9_workLine_94 : decode cX9_workLine 94 = .ok (.ifCond .ne 14, 3) := by decide +kernel
theorem dX9_workLine_97 : decode cX9_workLine 97 = .ok (.aload_n 0, 1) := by decide +kernel
theorem dX9_workLine_98 : decode cX9_workLine 98 = .ok (.aload_n 0, 1) := by decide +kernel
theorem dX9_workLine_99 : decode cX9_workLine 99 = .ok (.getfield 29, 3) := by decide +kernel
theorem dX9_workLine_102 : decode cX9_workLine 102 = .ok (.iload_n 1, 1) := by decide +kernel
theorem dX9_workLine_103 : decode cX9_workLine 103 = .ok (.iconst 2, 1) := by decide +kernel
theorem dX9_workLine_104 : decode cX9_workLine 104 = .ok (.iadd, 1) := by decide +kernel
theorem dX9_workLine_105 : decode cX9_workLine 105 = .ok (.invokevirtual 254, 3) := by decide +kernel
theorem dX9_workLine_108 : decode cX9_workLine 108 = .ok (.aload_n 0, 1) := by decide +kernel
theorem dX9_workLine_109 : decode cX9_workLine 109 = .ok (.getfield 93, 3) := by decide +kernel
theorem dX9_workLine_112 : decode cX9_workLine 112 = .ok (.ifCond .ne 13, 3) := by decide +kernel
theorem dX9_workLine_115 : decode cX9_workLine 115 = .ok (.aload_n 0, 1) := by decide +kernel
theorem dX9_workLine_116 : decode cX9_workLine 116 = .ok (.getfield 29, 3) := by decide +kernel
theorem dX9_workLine_119 : decode cX9_workLine 119 = .ok (.iconst 0, 1) := by decide +kernel
theorem dX9_workLine_120 : decode cX9_workLine 120 = .ok (.dup2, 1) := by decide +kernel
theorem dX9_workLine_121 : decode cX9_workLine 121 = .ok (.iaload, 1) := by decide +kernel
theorem dX9_workLine_122 : decode cX9_workLine 122 = .ok (.iconst 1, 1) := by decide +kernel
theorem dX9_workLine_123 : decode cX9_workLine 123 = .ok (.iadd, 1) := by decide +kernel
theorem dX9_workLine_124 : decode cX9_workLine 124 = .ok (.iastore, 1) := by decide +kernel
theorem dX9_workLine_125 : decode cX9_workLine 125 = .ok (.return_, 1) := by decide +kernel
theorem dX9_contractLine_0 : decode cX9_contractLine 0 = .ok (.aload_n 0, 1) := by decide +kernel
theorem dX9_contractLine_1 : decode cX9_contractLine 1 = .ok (.getfield 93, 3) := by decide +kernel
theorem dX9_contractLine_4 : decode cX9_contractLine 4 = .ok (.ifCond .eq 4, 3) := by decide +kernel
theorem dX9_contractLine_7 : decode cX9_contractLine 7 = .ok (.return_, 1) := by decide +kernel
theorem dX9_contractLine_8 : decode cX9_contractLine 8 = .ok (.bipush 22, 2) := by decide +kernel
theorem dX9_contractLine_10 : decode cX9_contractLine 10 = .ok (.bipush 6, 2) := by decide +kernel
theorem dX9_contractLine_12 : decode cX9_contractLine 12 = .ok (.aload_n 0, 1) := by decide +kernel
theorem dX9_contractLine_13 : decode cX9_contractLine 13 = .ok (.getfield 23, 3) := by decide +kernel
theorem dX9_contractLine_16 : decode cX9_contractLine 16 = .ok (.bipush 6, 2) := by decide +kernel
theorem dX9_contractLine_18 : decode cX9_contractLine 18 = .ok (.iaload, 1) := by decide +kernel
theorem dX9_contractLine_19 : decode cX9_contractLine 19 = .ok (.imul, 1) := by decide +kernel
theorem dX9_contractLine_20 : decode cX9_contractLine 20 = .ok (.iadd, 1) := by decide +kernel
theorem dX9_contractLine_21 : decode cX9_contractLine 21 = .ok (.istore_n 1, 1) := by decide +kernel
theorem dX9_contractLine_22 : decode cX9_contractLine 22 = .ok (.aload_n 0, 1) := by decide +kernel
theorem dX9_contractLine_23 : decode cX9_contractLine 23 = .ok (.invokevirtual 245, 3) := by decide +kernel
theorem dX9_contractLine_26 : decode cX9_contractLine 26 = .ok (.aload_n 0, 1) := by decide +kernel
theorem dX9_contractLine_27 : decode cX9_contractLine 27 = .ok (.ldc_w 258, 3) := by decide +kernel
theorem dX9_contractLine_30 : decode cX9_contractLine 30 = .ok (.iconst 0, 1) := by decide +kernel
theorem dX9_contractLine_31 : decode cX9_contractLine 31 = .ok (.sipush 999, 3) := by decide +kernel
theorem dX9_contractLine_34 : decode cX9_contractLine 34 = .ok (.invokevirtual 201, 3) := by decide +kernel
theorem dX9_contractLine_37 : decode cX9_contractLine 37 = .ok (.istore_n 2, 1) := by decide +kernel
theorem dX9_contractLine_38 : decode cX9_contractLine 38 = .ok (.aload_n 0, 1) := by decide +kernel
theorem dX9_contractLine_39 : decode cX9_contractLine 39 = .ok (.ldc_w 260, 3) := by decide +kernel
theorem dX9_contractLine_42 : decode cX9_contractLine 42 = .ok (.iload_n 2, 1) := by decide +kernel
theorem dX9_contractLine_43 : decode cX9_contractLine 43 = .ok (.sipush 999, 3) := by decide +kernel
theorem dX9_contractLine_46 : decode cX9_contractLine 46 = .ok (.invokevirtual 201, 3) := by decide +kernel
theorem dX9_contractLine_49 : decode cX9_contractLine 49 = .ok (.istore_n 3, 1) := by decide +kernel
theorem dX9_contractLine_50 : decode cX9_contractLine 50 = .ok (.aload_n 0, 1) := by decide +kernel
theorem dX9_contractLine_51 : decode cX9_contractLine 51 = .ok (.getfield 93, 3) := by decide +kernel
theorem dX9_contractLine_54 : decode cX9_contractLine 54 = .ok (.ifCond .eq 4, 3) := by decide +kernel
theorem dX9_contractLine_57 : decode cX9_contractLine 57 = .ok (.return_, 1) := by decide +kernel
theorem dX9_contractLine_58 : decode cX9_contractLine 58 = .ok (.aload_n 0, 1) := by decide +kernel
theorem dX9_contractLine_59 : decode cX9_contractLine 59 = .ok (.getfield 23, 3) := by decide +kernel
theorem dX9_contractLine_62 : decode cX9_contractLine 62 = .ok (.iload_n 1, 1) := by decide +kernel
theorem dX9_contractLine_63 : decode cX9_contractLine 63 = .ok (.aload_n 0, 1) := by decide +kernel
theorem dX9_contractLine_64 : decode cX9_contractLine 64 = .ok (.getfield 224, 3) := by decide +kernel
theorem dX9_contractLine_67 : decode cX9_contractLine 67 = .ok (.iastore, 1) := by decide +kernel
theorem dX9_contractLine_68 : decode cX9_contractLine 68 = .ok (.aload_n 0, 1) := by decide +kernel
theorem dX9_contractLine_69 : decode cX9_contractLine 69 = .ok (.getfield 23, 3) := by decide +kernel
theorem dX9_contractLine_72 : decode cX9_contractLine 72 = .ok (.iload_n 1, 1) := by decide +kernel
theorem dX9_contractLine_73 : decode cX9_contractLine 73 = .ok (.iconst 1, 1) := by decide +kernel
theorem dX9_contractLine_74 : decode cX9_contractLine 74 = .ok (.iadd, 1) := by decide +kernel
theorem dX9_contractLine_75 : decode cX9_contractLine 75 = .ok (.aload_n 0, 1) := by decide +kernel
theorem dX9_contractLine_76 : decode cX9_contractLine 76 = .ok (.getfield 230, 3) := by decide +kernel
theorem dX9_contractLine_79 : decode cX9_contractLine 79 = .ok (.iastore, 1) := by decide +kernel
theorem dX9_contractLine_80 : decode cX9_contractLine 80 = .ok (.aload_n 0, 1) := by decide +kernel
theorem dX9_contractLine_81 : decode cX9_contractLine 81 = .ok (.getfield 23, 3) := by decide +kernel
theorem dX9_contractLine_84 : decode cX9_contractLine 84 = .ok (.iload_n 1, 1) := by decide +kernel
theorem dX9_contractLine_85 : decode cX9_contractLine 85 = .ok (.iconst 2, 1) := by decide +kernel
theorem dX9_contractLine_86 : decode cX9_contractLine 86 = .ok (.iadd, 1) := by decide +kernel
theorem dX9_contractLine_87 : decode cX9_contractLine 87 = .ok (.aload_n 0, 1) := by decide +kernel
theorem dX9_contractLine_88 : decode cX9_contractLine 88 = .ok (.getfield 235, 3) := by decide +kernel
theorem dX9_contractLine_91 : decode cX9_contractLine 91 = .ok (.iastore, 1) := by decide +kernel
theorem dX9_contractLine_92 : decode cX9_contractLine 92 = .ok (.aload_n 0, 1) := by decide +kernel
theorem dX9_contractLine_93 : decode cX9_contractLine 93 = .ok (.getfield 23, 3) := by decide +kernel
theorem dX9_contractLine_96 : decode cX9_contractLine 96 = .ok (.iload_n 1, 1) := by decide +kernel
theorem dX9_contractLine_97 : decode cX9_contractLine 97 = .ok (.iconst 3, 1) := by decide +kernel
theorem dX9_contractLine_98 : decode cX9_contractLine 98 = .ok (.iadd, 1) := by decide +kernel
theorem dX9_contractLine_99 : decode cX9_contractLine 99 = .ok (.aload_n 0, 1) := by decide +kernel
theorem dX9_contractLine_100 : decode cX9_contractLine 100 = .ok (.getfield 238, 3) := by decide +kernel
theorem dX9_contractLine_103 : decode cX9_contractLine 103 = .ok (.iastore, 1) := by decide +kernel
theorem dX9_contractLine_104 : decode cX9_contractLine 104 = .ok (.aload_n 0, 1) := by decide +kernel
theorem dX9_contractLine_105 : decode cX9_contractLine 105 = .ok (.getfield 23, 3) := by decide +kernel
theorem dX9_contractLine_108 : decode cX9_contractLine 108 = .ok (.iload_n 1, 1) := by decide +kernel
theorem dX9_contractLine_109 : decode cX9_contractLine 109 = .ok (.iconst 4, 1) := by decide +kernel
theorem dX9_contractLine_110 : decode cX9_contractLine 110 = .ok (.iadd, 1) := by decide +kernel
theorem dX9_contractLine_111 : decode cX9_contractLine 111 = .ok (.iload_n 2, 1) := by decide +kernel
theorem dX9_contractLine_112 : decode cX9_contractLine 112 = .ok (.iastore, 1) := by decide +kernel
theorem dX9_contractLine_113 : decode cX9_contractLine 113 = .ok (.aload_n 0, 1) := by decide +kernel
theorem dX9_contractLine_114 : decode cX9_contractLine 114 = .ok (.getfield 23, 3) := by decide +kernel
theorem dX9_contractLine_117 : decode cX9_contractLine 117 = .ok (.iload_n 1, 1) := by decide +kernel
theorem dX9_contractLine_118 : decode cX9_contractLine 118 = .ok (.iconst 5, 1) := by decide +kernel
theorem dX9_contractLine_119 : decode cX9_contractLine 119 = .ok (.iadd, 1) := by decide +kernel
theorem dX9_contractLine_120 : decode cX9_contractLine 120 = .ok (.iload_n 3, 1) := by decide +kernel
theorem dX9_contractLine_121 : decode cX9_contractLine 121 = .ok (.iastore, 1) := by decide +kernel
theorem dX9_contractLine_122 : decode cX9_contractLine 122 = .ok (.aload_n 0, 1) := by decide +kernel
theorem dX9_contractLine_123 : decode cX9_contractLine 123 = .ok (.getfield 23, 3) := by decide +kernel
theorem dX9_contractLine_126 : decode cX9_contractLine 126 = .ok (.bipush 6, 2) := by decide +kernel
theorem dX9_contractLine_128 : decode cX9_contractLine 128 = .ok (.dup2, 1) := by decide +kernel
theorem dX9_contractLine_129 : decode cX9_contractLine 129 = .ok (.iaload, 1) := by decide +kernel
theorem dX9_contractLine_130 : decode cX9_contractLine 130 = .ok (.iconst 1, 1) := by decide +kernel
theorem dX9_contractLine_131 : decode cX9_contractLine 131 = .ok (.iadd, 1) := by decide +kernel
theorem dX9_contractLine_132 : decode cX9_contractLine 132 = .ok (.iastore, 1) := by decide +kernel
theorem dX9_contractLine_133 : decode cX9_contractLine 133 = .ok (.return_, 1) := by decide +kernel
theorem dX9_wantLine_0 : decode cX9_wantLine 0 = .ok (.aload_n 0, 1) := by decide +kernel
theorem dX9_wantLine_1 : decode cX9_wantLine 1 = .ok (.getfield 93, 3) := by decide +kernel
theorem dX9_wantLine_4 : decode cX9_wantLine 4 = .ok (.ifCond .eq 4, 3) := by decide +kernel
theorem dX9_wantLine_7 : decode cX9_wantLine 7 = .ok (.return_, 1) := by decide +kernel
theorem dX9_wantLine_8 : decode cX9_wantLine 8 = .ok (.aload_n 0, 1) := by decide +kernel
theorem dX9_wantLine_9 : decode cX9_wantLine 9 = .ok (.getfield 23, 3) := by decide +kernel
theorem dX9_wantLine_12 : decode cX9_wantLine 12 = .ok (.bipush 70, 2) := by decide +kernel
theorem dX9_wantLine_14 : decode cX9_wantLine 14 = .ok (.iconst 1, 1) := by decide +kernel
theorem dX9_wantLine_15 : decode cX9_wantLine 15 = .ok (.iastore, 1) := by decide +kernel
theorem dX9_wantLine_16 : decode cX9_wantLine 16 = .ok (.aload_n 0, 1) := by decide +kernel
theorem dX9_wantLine_17 : decode cX9_wantLine 17 = .ok (.aload_n 0, 1) := by decide +kernel
theorem dX9_wantLine_18 : decode cX9_wantLine 18 = .ok (.getfield 23, 3) := by decide +kernel
theorem dX9_wantLine_21 : decode cX9_wantLine 21 = .ok (.bipush 46, 2) := by decide +kernel
theorem dX9_wantLine_23 : decode cX9_wantLine 23 = .ok (.invokevirtual 254, 3) := by decide +kernel
theorem dX9_wantLine_26 : decode cX9_wantLine 26 = .ok (.return_, 1) := by decide +kernel
theorem dX9_fault_0 : decode cX9_fault 0 = .ok (.aload_n 0, 1) := by decide +kernel
theorem dX9_fault_1 : decode cX9_fault 1 = .ok (.iconst 0, 1) := by decide +kernel
theorem dX9_fault_2 : decode cX9_fault 2 = .ok (.putfield 55, 3) := by decide +kernel
theorem dX9_fault_5 : decode cX9_fault 5 = .ok (.aload_n 0, 1) := by decide +kernel
theorem dX9_fault_6 : decode cX9_fault 6 = .ok (.getfield 97, 3) := by decide +kernel
theorem dX9_fault_9 : decode cX9_fault 9 = .ok (.ireturn, 1) := by decide +kernel
theorem dX9_where_0 : decode cX9_where 0 = .ok (.aload_n 0, 1) := by decide +kernel
theorem dX9_where_1 : decode cX9_where 1 = .ok (.iconst 0, 1) := by decide +kernel
theorem dX9_where_2 : decode cX9_where 2 = .ok (.putfield 55, 3) := by decide +kernel
theorem dX9_where_5 : decode cX9_where 5 = .ok (.aload_n 0, 1) := by decide +kernel
theorem dX9_where_6 : decode cX9_where 6 = .ok (.getfield 58, 3) := by decide +kernel
theorem dX9_where_9 : decode cX9_where 9 = .ok (.iconst 4, 1) := by decide +kernel
theorem dX9_where_10 : decode cX9_where 10 = .ok (.if_icmp .ne 10, 3) := by decide +kernel
theorem dX9_where_13 : decode cX9_where 13 = .ok (.aload_n 0, 1) := by decide +kernel
theorem dX9_where_14 : decode cX9_where 14 = .ok (.getfield 13, 3) := by decide +kernel
theorem dX9_where_17 : decode cX9_where 17 = .ok (.goto 4, 3) := by decide +kernel
theorem dX9_where_20 : decode cX9_where 20 = .ok (.iconst (-1), 1) := by decide +kernel
theorem dX9_where_21 : decode cX9_where 21 = .ok (.ireturn, 1) := by decide +kernel
theorem dX9_isCell_0 : decode cX9_isCell 0 = .ok (.aload_n 0, 1) := by decide +kernel
theorem dX9_isCell_1 : decode cX9_isCell 1 = .ok (.getfield 168, 3) := by decide +kernel
theorem dX9_isCell_4 : decode cX9_isCell 4 = .ok (.ifCond .eq 39, 3) := by decide +kernel
theorem dX9_isCell_7 : decode cX9_isCell 7 = .ok (.iload_n 1, 1) := by decide +kernel
theorem dX9_isCell_8 : decode cX9_isCell 8 = .ok (.iconst 0, 1) := by decide +kernel
theorem dX9_isCell_9 : decode cX9_isCell 9 = .ok (.aload_n 0, 1) := by decide +kernel
theorem dX9_isCell_10 : decode cX9_isCell 10 = .ok (.getfield 20, 3) := by decide +kernel
theorem dX9_isCell_13 : decode cX9_isCell 13 = .ok (.iconst 0, 1) := by decide +kernel
theorem dX9_isCell_14 : decode cX9_isCell 14 = .ok (.iaload, 1) := by decide +kernel
theorem dX9_isCell_15 : decode cX9_isCell 15 = .ok (.iconst 1, 1) := by decide +kernel
theorem dX9_isCell_16 : decode cX9_isCell 16 = .ok (.isub, 1) := by decide +kernel
theorem dX9_isCell_17 : decode cX9_isCell 17 = .ok (.invokestatic 139, 3) := by decide +kernel
theorem dX9_isCell_20 : decode cX9_isCell 20 = .ok (.ifCond .eq 23, 3) := by decide +kernel
theorem dX9_isCell_23 : decode cX9_isCell 23 = .ok (.iload_n 2, 1) := by decide +kernel
theorem dX9_isCell_24 : decode cX9_isCell 24 = .ok (.iconst 0, 1) := by decide +kernel
theorem dX9_isCell_25 : decode cX9_isCell 25 = .ok (.aload_n 0, 1) := by decide +kernel
theorem dX9_isCell_26 : decode cX9_isCell 26 = .ok (.getfield 20, 3) := by decide +kernel
theorem dX9_isCell_29 : decode cX9_isCell 29 = .ok (.iconst 1, 1) := by decide +kernel
theorem dX9_isCell_30 : decode cX9_isCell 30 = .ok (.iaload, 1) := by decide +kernel
theorem dX9_isCell_31 : decode cX9_isCell 31 = .ok (.iconst 1, 1) := by decide +kernel
theorem dX9_isCell_32 : decode cX9_isCell 32 = .ok (.isub, 1) := by decide +kernel
theorem dX9_isCell_33 : decode cX9_isCell 33 = .ok (.invokestatic 139, 3) := by decide +kernel
theorem dX9_isCell_36 : decode cX9_isCell 36 = .ok (.ifCond .eq 7, 3) := by decide +kernel
theorem dX9_isCell_39 : decode cX9_isCell 39 = .ok (.iconst 1, 1) := by decide +kernel
theorem dX9_isCell_40 : decode cX9_isCell 40 = .ok (.goto 4, 3) := by decide +kernel
theorem dX9_isCell_43 : decode cX9_isCell 43 = .ok (.iconst 0, 1) := by decide +kernel
theorem dX9_isCell_44 : decode cX9_isCell 44 = .ok (.ireturn, 1) := by decide +kernel
theorem dX9_cellOf_0 : decode cX9_cellOf 0 = .ok (.aload_n 0, 1) := by decide +kernel
theorem dX9_cellOf_1 : decode cX9_cellOf 1 = .ok (.getfield 20, 3) := by decide +kernel
theorem dX9_cellOf_4 : decode cX9_cellOf 4 = .ok (.iconst 0, 1) := by decide +kernel
theorem dX9_cellOf_5 : decode cX9_cellOf 5 = .ok (.iaload, 1) := by decide +kernel
theorem dX9_cellOf_6 : decode cX9_cellOf 6 = .ok (.iload_n 2, 1) := by decide +kernel
theorem dX9_cellOf_7 : decode cX9_cellOf 7 = .ok (.imul, 1) := by decide +kernel
theorem dX9_cellOf_8 : decode cX9_cellOf 8 = .ok (.iload_n 1, 1) := by decide +kernel
theorem dX9_cellOf_9 : decode cX9_cellOf 9 = .ok (.iadd, 1) := by decide +kernel
theorem dX9_cellOf_10 : decode cX9_cellOf 10 = .ok (.ireturn, 1) := by decide +kernel
theorem dX9_cellMany_0 : decode cX9_cellMany 0 = .ok (.aload_n 0, 1) := by decide +kernel
theorem dX9_cellMany_1 : decode cX9_cellMany 1 = .ok (.getfield 20, 3) := by decide +kernel
theorem dX9_cellMany_4 : decode cX9_cellMany 4 = .ok (.iconst 0, 1) := by decide +kernel
theorem dX9_cellMany_5 : decode cX9_cellMany 5 = .ok (.iaload, 1) := by decide +kernel
theorem dX9_cellMany_6 : decode cX9_cellMany 6 = .ok (.aload_n 0, 1) := by decide +kernel
theorem dX9_cellMany_7 : decode cX9_cellMany 7 = .ok (.getfield 20, 3) := by decide +kernel
theorem dX9_cellMany_10 : decode cX9_cellMany 10 = .ok (.iconst 1, 1) := by decide +kernel
theorem dX9_cellMany_11 : decode cX9_cellMany 11 = .ok (.iaload, 1) := by decide +kernel
theorem dX9_cellMany_12 : decode cX9_cellMany 12 = .ok (.imul, 1) := by decide +kernel
theorem dX9_cellMany_13 : decode cX9_cellMany 13 = .ok (.ireturn, 1) := by decide +kernel
theorem dX9_isWork_0 : decode cX9_isWork 0 = .ok (.aload_n 0, 1) := by decide +kernel
theorem dX9_isWork_1 : decode cX9_isWork 1 = .ok (.getfield 168, 3) := by decide +kernel
theorem dX9_isWork_4 : decode cX9_isWork 4 = .ok (.ifCond .eq 23, 3) := by decide +kernel
theorem dX9_isWork_7 : decode cX9_isWork 7 = .ok (.iload_n 1, 1) := by decide +kernel
theorem dX9_isWork_8 : decode cX9_isWork 8 = .ok (.iconst 0, 1) := by decide +kernel
theorem dX9_isWork_9 : decode cX9_isWork 9 = .ok (.aload_n 0, 1) := by decide +kernel
theorem dX9_isWork_10 : decode cX9_isWork 10 = .ok (.getfield 26, 3) := by decide +kernel
theorem dX9_isWork_13 : decode cX9_isWork 13 = .ok (.iconst 0, 1) := by decide +kernel
theorem dX9_isWork_14 : decode cX9_isWork 14 = .ok (.iaload, 1) := by decide +kernel
theorem dX9_isWork_15 : decode cX9_isWork 15 = .ok (.iconst 1, 1) := by decide +kernel
theorem dX9_isWork_16 : decode cX9_isWork 16 = .ok (.isub, 1) := by decide +kernel
theorem dX9_isWork_17 : decode cX9_isWork 17 = .ok (.invokestatic 139, 3) := by decide +kernel
theorem dX9_isWork_20 : decode cX9_isWork 20 = .ok (.ifCond .eq 7, 3) := by decide +kernel
theorem dX9_isWork_23 : decode cX9_isWork 23 = .ok (.iconst 1, 1) := by decide +kernel
theorem dX9_isWork_24 : decode cX9_isWork 24 = .ok (.goto 4, 3) := by decide +kernel
theorem dX9_isWork_27 : decode cX9_isWork 27 = .ok (.iconst 0, 1) := by decide +kernel
theorem dX9_isWork_28 : decode cX9_isWork 28 = .ok (.ireturn, 1) := by decide +kernel
theorem dX9_paintOf_0 : decode cX9_paintOf 0 = .ok (.aload_n 0, 1) := by decide +kernel
theorem dX9_paintOf_1 : decode cX9_paintOf 1 = .ok (.getfield 26, 3) := by decide +kernel
theorem dX9_paintOf_4 : decode cX9_paintOf 4 = .ok (.iconst 2, 1) := by decide +kernel
theorem dX9_paintOf_5 : decode cX9_paintOf 5 = .ok (.bipush 26, 2) := by decide +kernel
theorem dX9_paintOf_7 : decode cX9_paintOf 7 = .ok (.iload_n 1, 1) := by decide +kernel
theorem dX9_paintOf_8 : decode cX9_paintOf 8 = .ok (.imul, 1) := by decide +kernel
theorem dX9_paintOf_9 : decode cX9_paintOf 9 = .ok (.iadd, 1) := by decide +kernel
theorem dX9_paintOf_10 : decode cX9_paintOf 10 = .ok (.iconst 2, 1) := by decide +kernel
theorem dX9_paintOf_11 : decode cX9_paintOf 11 = .ok (.iadd, 1) := by decide +kernel
theorem dX9_paintOf_12 : decode cX9_paintOf 12 = .ok (.iload_n 2, 1) := by decide +kernel
theorem dX9_paintOf_13 : decode cX9_paintOf 13 = .ok (.iadd, 1) := by decide +kernel
theorem dX9_paintOf_14 : decode cX9_paintOf 14 = .ok (.iaload, 1) := by decide +kernel
theorem dX9_paintOf_15 : decode cX9_paintOf 15 = .ok (.istore_n 3, 1) := by decide +kernel
theorem dX9_paintOf_16 : decode cX9_paintOf 16 = .ok (.iload_n 3, 1) := by decide +kernel
theorem dX9_paintOf_17 : decode cX9_paintOf 17 = .ok (.ifCond .ne 8, 3) := by decide +kernel
theorem dX9_paintOf_20 : decode cX9_paintOf 20 = .ok (.bipush (-2), 2) := by decide +kernel
theorem dX9_paintOf_22 : decode cX9_paintOf 22 = .ok (.goto 6, 3) := by decide +kernel
theorem dX9_paintOf_25 : decode cX9_paintOf 25 = .ok (.iload_n 3, 1) := by decide +kernel
theorem dX9_paintOf_26 : decode cX9_paintOf 26 = .ok (.iconst 1, 1) := by decide +kernel
theorem dX9_paintOf_27 : decode cX9_paintOf 27 = .ok (.isub, 1) := by decide +kernel
theorem dX9_paintOf_28 : decode cX9_paintOf 28 = .ok (.ireturn, 1) := by decide +kernel
theorem dX9_yearOf_0 : decode cX9_yearOf 0 = .ok (.aload_n 0, 1) := by decide +kernel
theorem dX9_yearOf_1 : decode cX9_yearOf 1 = .ok (.getfield 26, 3) := by decide +kernel
theorem dX9_yearOf_4 : decode cX9_yearOf 4 = .ok (.iconst 2, 1) := by decide +kernel
theorem dX9_yearOf_5 : decode cX9_yearOf 5 = .ok (.bipush 26, 2) := by decide +kernel
theorem dX9_yearOf_7 : decode cX9_yearOf 7 = .ok (.iload_n 1, 1) := by decide +kernel
theorem dX9_yearOf_8 : decode cX9_yearOf 8 = .ok (.imul, 1) := by decide +kernel
theorem dX9_yearOf_9 : decode cX9_yearOf 9 = .ok (.iadd, 1) := by decide +kernel
theorem dX9_yearOf_10 : decode cX9_yearOf 10 = .ok (.iconst 1, 1) := by decide +kernel
theorem dX9_yearOf_11 : decode cX9_yearOf 11 = .ok (.iadd, 1) := by decide +kernel
theorem dX9_yearOf_12 : decode cX9_yearOf 12 = .ok (.iaload, 1) := by decide +kernel
theorem dX9_yearOf_13 : decode cX9_yearOf 13 = .ok (.ireturn, 1) := by decide +kernel
theorem dX9_under_0 : decode cX9_under 0 = .ok (.iload_n 2, 1) := by decide +kernel
theorem dX9_under_1 : decode cX9_under 1 = .ok (.istore_n 3, 1) := by decide +kernel
theorem dX9_under_2 : decode cX9_under 2 = .ok (.aload_n 0, 1) := by decide +kernel
theorem dX9_under_3 : decode cX9_under 3 = .ok (.getfield 26, 3) := by decide +kernel
theorem dX9_under_6 : decode cX9_under 6 = .ok (.iconst 0, 1) := by decide +kernel
theorem dX9_under_7 : decode cX9_under 7 = .ok (.iaload, 1) := by decide +kernel
theorem dX9_under_8 : decode cX9_under 8 = .ok (.iconst 1, 1) := by decide +kernel
theorem dX9_under_9 : decode cX9_under 9 = .ok (.isub, 1) := by decide +kernel
theorem dX9_under_10 : decode cX9_under 10 = .ok (.istore 4, 2) := by decide +kernel
theorem dX9_under_12 : decode cX9_under 12 = .ok (.iload 4, 2) := by decide +kernel
theorem dX9_under_14 : decode cX9_under 14 = .ok (.ifCond .lt 34, 3) := by decide +kernel
theorem dX9_under_17 : decode cX9_under 17 = .ok (.aload_n 0, 1) := by decide +kernel
theorem dX9_under_18 : decode cX9_under 18 = .ok (.iload 4, 2) := by decide +kernel
theorem dX9_under_20 : decode cX9_under 20 = .ok (.iload_n 1, 1) := by decide +kernel
theorem dX9_under_21 : decode cX9_under 21 = .ok (.invokevirtual 262, 3) := by decide +kernel
theorem dX9_under_24 : decode cX9_under 24 = .ok (.bipush (-2), 2) := by decide +kernel
theorem dX9_under_26 : decode cX9_under 26 = .ok (.if_icmp .ne 6, 3) := by decide +kernel
theorem dX9_under_29 : decode cX9_under 29 = .ok (.goto 13, 3) := by decide +kernel
theorem dX9_under_32 : decode cX9_under 32 = .ok (.iload_n 3, 1) := by decide +kernel
theorem dX9_under_33 : decode cX9_under 33 = .ok (.ifCond .ne 6, 3) := by decide +kernel
theorem dX9_under_36 : decode cX9_under 36 = .ok (.iload 4, 2) := by decide +kernel
theorem dX9_under_38 : decode cX9_under 38 = .ok (.ireturn, 1) := by decide +kernel
theorem dX9_under_39 : decode cX9_under 39 = .ok (.iinc 3 (-1), 3) := by decide +kernel
theorem dX9_under_42 : decode cX9_under 42 = .ok (.iinc 4 (-1), 3) := by decide +kernel
theorem dX9_under_45 : decode cX9_under 45 = .ok (.goto (-33), 3) := by decide +kernel
theorem dX9_under_48 : decode cX9_under 48 = .ok (.bipush (-2), 2) := by decide +kernel
theorem dX9_under_50 : decode cX9_under 50 = .ok (.ireturn, 1) := by decide +kernel
theorem dX9_shown_0 : decode cX9_shown 0 = .ok (.aload_n 0, 1) := by decide +kernel
theorem dX9_shown_1 : decode cX9_shown 1 = .ok (.iload_n 1, 1) := by decide +kernel
theorem dX9_shown_2 : decode cX9_shown 2 = .ok (.iconst 0, 1) := by decide +kernel
theorem dX9_shown_3 : decode cX9_shown 3 = .ok (.invokevirtual 265, 3) := by decide +kernel
theorem dX9_shown_6 : decode cX9_shown 6 = .ok (.istore_n 2, 1) := by decide +kernel
theorem dX9_shown_7 : decode cX9_shown 7 = .ok (.iload_n 2, 1) := by decide +kernel
theorem dX9_shown_8 : decode cX9_shown 8 = .ok (.bipush (-2), 2) := by decide +kernel
theorem dX9_shown_10 : decode cX9_shown 10 = .ok (.if_icmp .ne 8, 3) := by decide +kernel
theorem dX9_shown_13 : decode cX9_shown 13 = .ok (.bipush (-2), 2) := by decide +kernel
theorem dX9_shown_15 : decode cX9_shown 15 = .ok (.goto 9, 3) := by decide +kernel
theorem dX9_shown_18 : decode cX9_shown 18 = .ok (.aload_n 0, 1) := by decide +kernel
theorem dX9_shown_19 : decode cX9_shown 19 = .ok (.iload_n 2, 1) := by decide +kernel
theorem dX9_shown_20 : decode cX9_shown 20 = .ok (.iload_n 1, 1) := by decide +kernel
theorem dX9_shown_21 : decode cX9_shown 21 = .ok (.invokevirtual 262, 3) := by decide +kernel
theorem dX9_shown_24 : decode cX9_shown 24 = .ok (.ireturn, 1) := by decide +kernel
theorem dX9_shows_0 : decode cX9_shows 0 = .ok (.aload_n 0, 1) := by decide +kernel
theorem dX9_shows_1 : decode cX9_shows 1 = .ok (.invokevirtual 155, 3) := by decide +kernel
theorem dX9_shows_4 : decode cX9_shows 4 = .ok (.aload_n 0, 1) := by decide +kernel
theorem dX9_shows_5 : decode cX9_shows 5 = .ok (.iload_n 1, 1) := by decide +kernel
theorem dX9_shows_6 : decode cX9_shows 6 = .ok (.iload_n 2, 1) := by decide +kernel
theorem dX9_shows_7 : decode cX9_shows 7 = .ok (.invokevirtual 268, 3) := by decide +kernel
theorem dX9_shows_10 : decode cX9_shows 10 = .ok (.ifCond .eq 16, 3) := by decide +kernel
theorem dX9_shows_13 : decode cX9_shows 13 = .ok (.aload_n 0, 1) := by decide +kernel
theorem dX9_shows_14 : decode cX9_shows 14 = .ok (.aload_n 0, 1) := by decide +kernel
theorem dX9_shows_15 : decode cX9_shows 15 = .ok (.iload_n 1, 1) := by decide +kernel
theorem dX9_shows_16 : decode cX9_shows 16 = .ok (.iload_n 2, 1) := by decide +kernel
theorem dX9_shows_17 : decode cX9_shows 17 = .ok (.invokevirtual 272, 3) := by decide +kernel
theorem dX9_shows_20 : decode cX9_shows 20 = .ok (.invokevirtual 275, 3) := by decide +kernel
theorem dX9_shows_23 : decode cX9_shows 23 = .ok (.goto 8, 3) := by decide +kernel
theorem dX9_shows_26 : decode cX9_shows 26 = .ok (.aload_n 0, 1) := by decide +kernel
theorem dX9_shows_27 : decode cX9_shows 27 = .ok (.iconst 1, 1) := by decide +kernel
theorem dX9_shows_28 : decode cX9_shows 28 = .ok (.invokevirtual 158, 3) := by decide +kernel
theorem dX9_shows_31 : decode cX9_shows 31 = .ok (.ireturn, 1) := by decide +kernel
theorem dX9_whose_0 : decode cX9_whose 0 = .ok (.aload_n 0, 1) := by decide +kernel
theorem dX9_whose_1 : decode cX9_whose 1 = .ok (.invokevirtual 155, 3) := by decide +kernel
theorem dX9_whose_4 : decode cX9_whose 4 = .ok (.aload_n 0, 1) := by decide +kernel
theorem dX9_whose_5 : decode cX9_whose 5 = .ok (.iload_n 1, 1) := by decide +kernel
theorem dX9_whose_6 : decode cX9_whose 6 = .ok (.iload_n 2, 1) := by decide +kernel
theorem dX9_whose_7 : decode cX9_whose 7 = .ok (.invokevirtual 268, 3) := by decide +kernel
theorem dX9_whose_10 : decode cX9_whose 10 = .ok (.ifCond .ne 9, 3) := by decide +kernel
theorem dX9_whose_13 : decode cX9_whose 13 = .ok (.aload_n 0, 1) := by decide +kernel
theorem dX9_whose_14 : decode cX9_whose 14 = .ok (.iconst 1, 1) := by decide +kernel
theorem dX9_whose_15 : decode cX9_whose 15 = .ok (.invokevirtual 158, 3) := by decide +kernel
theorem dX9_whose_18 : decode cX9_whose 18 = .ok (.ireturn, 1) := by decide +kernel
theorem dX9_whose_19 : decode cX9_whose 19 = .ok (.aload_n 0, 1) := by decide +kernel
theorem dX9_whose_20 : decode cX9_whose 20 = .ok (.aload_n 0, 1) := by decide +kernel
theorem dX9_whose_21 : decode cX9_whose 21 = .ok (.iload_n 1, 1) := by decide +kernel
theorem dX9_whose_22 : decode cX9_whose 22 = .ok (.iload_n 2, 1) := by decide +kernel
theorem dX9_whose_23 : decode cX9_whose 23 = .ok (.invokevirtual 272, 3) := by decide +kernel
theorem dX9_whose_26 : decode cX9_whose 26 = .ok (.iconst 0, 1) := by decide +kernel
theorem dX9_whose_27 : decode cX9_whose 27 = .ok (.invokevirtual 265, 3) := by decide +kernel
theorem dX9_whose_30 : decode cX9_whose 30 = .ok (.istore_n 3, 1) := by decide +kernel
theorem dX9_whose_31 : decode cX9_whose 31 = .ok (.iload_n 3, 1) := by decide +kernel
theorem dX9_whose_32 : decode cX9_whose 32 = .ok (.bipush (-2), 2) := by decide +kernel
theorem dX9_whose_34 : decode cX9_whose 34 = .ok (.if_icmp .ne 8, 3) := by decide +kernel
theorem dX9_whose_37 : decode cX9_whose 37 = .ok (.bipush (-2), 2) := by decide +kernel
theorem dX9_whose_39 : decode cX9_whose 39 = .ok (.goto 16, 3) := by decide +kernel
theorem dX9_whose_42 : decode cX9_whose 42 = .ok (.aload_n 0, 1) := by decide +kernel
theorem dX9_whose_43 : decode cX9_whose 43 = .ok (.getfield 26, 3) := by decide +kernel
theorem dX9_whose_46 : decode cX9_whose 46 = .ok (.iconst 2, 1) := by decide +kernel
theorem dX9_whose_47 : decode cX9_whose 47 = .ok (.bipush 26, 2) := by decide +kernel
theorem dX9_whose_49 : decode cX9_whose 49 = .ok (.iload_n 3, 1) := by decide +kernel
theorem dX9_whose_50 : decode cX9_whose 50 = .ok (.imul, 1) := by decide +kernel
theorem dX9_whose_51 : decode cX9_whose 51 = .ok (.iadd, 1) := by decide +kernel
theorem dX9_whose_52 : decode cX9_whose 52 = .ok (.iconst 0, 1) := by decide +kernel
theorem dX9_whose_53 : decode cX9_whose 53 = .ok (.iadd, 1) := by decide +kernel
theorem dX9_whose_54 : decode cX9_whose 54 = .ok (.iaload, 1) := by decide +kernel
theorem dX9_whose_55 : decode cX9_whose 55 = .ok (.ireturn, 1) := by decide +kernel
theorem dX9_shownIn_0 : decode cX9_shownIn 0 = .ok (.aload_n 0, 1) := by decide +kernel
theorem dX9_shownIn_1 : decode cX9_shownIn 1 = .ok (.getfield 26, 3) := by decide +kernel
theorem dX9_shownIn_4 : decode cX9_shownIn 4 = .ok (.iconst 0, 1) := by decide +kernel
theorem dX9_shownIn_5 : decode cX9_shownIn 5 = .ok (.iaload, 1) := by decide +kernel
theorem dX9_shownIn_6 : decode cX9_shownIn 6 = .ok (.iconst 1, 1) := by decide +kernel
theorem dX9_shownIn_7 : decode cX9_shownIn 7 = .ok (.isub, 1) := by decide +kernel
theorem dX9_shownIn_8 : decode cX9_shownIn 8 = .ok (.istore_n 3, 1) := by decide +kernel
theorem dX9_shownIn_9 : decode cX9_shownIn 9 = .ok (.iload_n 3, 1) := by decide +kernel
theorem dX9_shownIn_10 : decode cX9_shownIn 10 = .ok (.ifCond .lt 72, 3) := by decide +kernel
theorem dX9_shownIn_13 : decode cX9_shownIn 13 = .ok (.aload_n 0, 1) := by decide +kernel
theorem dX9_shownIn_14 : decode cX9_shownIn 14 = .ok (.iload_n 3, 1) := by decide +kernel
theorem dX9_shownIn_15 : decode cX9_shownIn 15 = .ok (.iload_n 1, 1) := by decide +kernel
theorem dX9_shownIn_16 : decode cX9_shownIn 16 = .ok (.invokevirtual 262, 3) := by decide +kernel
theorem dX9_shownIn_19 : decode cX9_shownIn 19 = .ok (.istore 4, 2) := by decide +kernel
theorem dX9_shownIn_21 : decode cX9_shownIn 21 = .ok (.iload 4, 2) := by decide +kernel
theorem dX9_shownIn_23 : decode cX9_shownIn 23 = .ok (.bipush (-2), 2) := by decide +kernel
theorem dX9_shownIn_25 : decode cX9_shownIn 25 = .ok (.if_icmp .eq 51, 3) := by decide +kernel
theorem dX9_shownIn_28 : decode cX9_shownIn 28 = .ok (.aload_n 0, 1) := by decide +kernel
theorem dX9_shownIn_29 : decode cX9_shownIn 29 = .ok (.iload_n 3, 1) := by decide +kernel
theorem dX9_shownIn_30 : decode cX9_shownIn 30 = .ok (.invokevirtual 278, 3) := by decide +kernel
theorem dX9_shownIn_33 : decode cX9_shownIn 33 = .ok (.iload_n 2, 1) := by decide +kernel
theorem dX9_shownIn_34 : decode cX9_shownIn 34 = .ok (.if_icmp .le 6, 3) := by decide +kernel
theorem dX9_shownIn_37 : decode cX9_shownIn 37 = .ok (.goto 39, 3) := by decide +kernel
theorem dX9_shownIn_40 : decode cX9_shownIn 40 = .ok (.aload_n 0, 1) := by decide +kernel
theorem dX9_shownIn_41 : decode cX9_shownIn 41 = .ok (.getfield 20, 3) := by decide +kernel
theorem dX9_shownIn_44 : decode cX9_shownIn 44 = .ok (.bipush 12, 2) := by decide +kernel
theorem dX9_shownIn_46 : decode cX9_shownIn 46 = .ok (.iload 4, 2) := by decide +kernel
theorem dX9_shownIn_48 : decode cX9_shownIn 48 = .ok (.iadd, 1) := by decide +kernel
theorem dX9_shownIn_49 : decode cX9_shownIn 49 = .ok (.iaload, 1) := by decide +kernel
theorem dX9_shownIn_50 : decode cX9_shownIn 50 = .ok (.ifCond .eq 23, 3) := by decide +kernel
theorem dX9_shownIn_53 : decode cX9_shownIn 53 = .ok (.iload_n 2, 1) := by decide +kernel
theorem dX9_shownIn_54 : decode cX9_shownIn 54 = .ok (.aload_n 0, 1) := by decide +kernel
theorem dX9_shownIn_55 : decode cX9_shownIn 55 = .ok (.iload_n 3, 1) := by decide +kernel
theorem dX9_shownIn_56 : decode cX9_shownIn 56 = .ok (.invokevirtual 278, 3) := by decide +kernel
theorem dX9_shownIn_59 : decode cX9_shownIn 59 = .ok (.isub, 1) := by decide +kernel
theorem dX9_shownIn_60 : decode cX9_shownIn 60 = .ok (.aload_n 0, 1) := by decide +kernel
theorem dX9_shownIn_61 : decode cX9_shownIn 61 = .ok (.getfield 20, 3) := by decide +kernel
theorem dX9_shownIn_64 : decode cX9_shownIn 64 = .ok (.bipush 12, 2) := by decide +kernel
theorem dX9_shownIn_66 : decode cX9_shownIn 66 = .ok (.iload 4, 2) := by decide +kernel
theorem dX9_shownIn_68 : decode cX9_shownIn 68 = .ok (.iadd, 1) := by decide +kernel
theorem dX9_shownIn_69 : decode cX9_shownIn 69 = .ok (.iaload, 1) := by decide +kernel
theorem dX9_shownIn_70 : decode cX9_shownIn 70 = .ok (.if_icmp .ge 6, 3) := by decide +kernel
theorem dX9_shownIn_73 : decode cX9_shownIn 73 = .ok (.iload 4, 2) := by decide +kernel
theorem dX9_shownIn_75 : decode cX9_shownIn 75 = .ok (.ireturn, 1) := by decide +kernel
theorem dX9_shownIn_76 : decode cX9_shownIn 76 = .ok (.iinc 3 (-1), 3) := by decide +kernel
theorem dX9_shownIn_79 : decode cX9_shownIn 79 = .ok (.goto (-70), 3) := by decide +kernel
theorem dX9_shownIn_82 : decode cX9_shownIn 82 = .ok (.bipush (-2), 2) := by decide +kernel
theorem dX9_shownIn_84 : decode cX9_shownIn 84 = .ok (.ireturn, 1) := by decide +kernel
theorem dX9_was_0 : decode cX9_was 0 = .ok (.aload_n 0, 1) := by decide +kernel
theorem dX9_was_1 : decode cX9_was 1 = .ok (.invokevirtual 155, 3) := by decide +kernel
theorem dX9_was_4 : decode cX9_was 4 = .ok (.aload_n 0, 1) := by decide +kernel
theorem dX9_was_5 : decode cX9_was 5 = .ok (.iload_n 1, 1) := by decide +kernel
theorem dX9_was_6 : decode cX9_was 6 = .ok (.iload_n 2, 1) := by decide +kernel
theorem dX9_was_7 : decode cX9_was 7 = .ok (.invokevirtual 268, 3) := by decide +kernel
theorem dX9_was_10 : decode cX9_was 10 = .ok (.ifCond .ne 9, 3) := by decide +kernel
theorem dX9_was_13 : decode cX9_was 13 = .ok (.aload_n 0, 1) := by decide +kernel
theorem dX9_was_14 : decode cX9_was 14 = .ok (.iconst 1, 1) := by decide +kernel
theorem dX9_was_15 : decode cX9_was 15 = .ok (.invokevirtual 158, 3) := by decide +kernel
theorem dX9_was_18 : decode cX9_was 18 = .ok (.ireturn, 1) := by decide +kernel
theorem dX9_was_19 : decode cX9_was 19 = .ok (.iload_n 3, 1) := by decide +kernel
theorem dX9_was_20 : decode cX9_was 20 = .ok (.iconst 0, 1) := by decide +kernel
theorem dX9_was_21 : decode cX9_was 21 = .ok (.sipush 999, 3) := by decide +kernel
theorem dX9_was_24 : decode cX9_was 24 = .ok (.invokestatic 139, 3) := by decide +kernel
theorem dX9_was_27 : decode cX9_was 27 = .ok (.ifCond .eq 17, 3) := by decide +kernel
theorem dX9_was_30 : decode cX9_was 30 = .ok (.aload_n 0, 1) := by decide +kernel
theorem dX9_was_31 : decode cX9_was 31 = .ok (.aload_n 0, 1) := by decide +kernel
theorem dX9_was_32 : decode cX9_was 32 = .ok (.iload_n 1, 1) := by decide +kernel
theorem dX9_was_33 : decode cX9_was 33 = .ok (.iload_n 2, 1) := by decide +kernel
theorem dX9_was_34 : decode cX9_was 34 = .ok (.invokevirtual 272, 3) := by decide +kernel
theorem dX9_was_37 : decode cX9_was 37 = .ok (.iload_n 3, 1) := by decide +kernel
theorem dX9_was_38 : decode cX9_was 38 = .ok (.invokevirtual 281, 3) := by decide +kernel
theorem dX9_was_41 : decode cX9_was 41 = .ok (.goto 8, 3) := by decide +kernel
theorem dX9_was_44 : decode cX9_was 44 = .ok (.aload_n 0, 1) := by decide +kernel
theorem dX9_was_45 : decode cX9_was 45 = .ok (.iconst 2, 1) := by decide +kernel
theorem dX9_was_46 : decode cX9_was 46 = .ok (.invokevirtual 158, 3) := by decide +kernel
theorem dX9_was_49 : decode cX9_was 49 = .ok (.ireturn, 1) := by decide +kernel
theorem dX9_scraped_0 : decode cX9_scraped 0 = .ok (.aload_n 0, 1) := by decide +kernel
theorem dX9_scraped_1 : decode cX9_scraped 1 = .ok (.invokevirtual 155, 3) := by decide +kernel
theorem dX9_scraped_4 : decode cX9_scraped 4 = .ok (.aload_n 0, 1) := by decide +kernel
theorem dX9_scraped_5 : decode cX9_scraped 5 = .ok (.iload_n 1, 1) := by decide +kernel
theorem dX9_scraped_6 : decode cX9_scraped 6 = .ok (.iload_n 2, 1) := by decide +kernel
theorem dX9_scraped_7 : decode cX9_scraped 7 = .ok (.invokevirtual 268, 3) := by decide +kernel
theorem dX9_scraped_10 : decode cX9_scraped 10 = .ok (.ifCond .ne 9, 3) := by decide +kernel
theorem dX9_scraped_13 : decode cX9_scraped 13 = .ok (.aload_n 0, 1) := by decide +kernel
theorem dX9_scraped_14 : decode cX9_scraped 14 = .ok (.iconst 1, 1) := by decide +kernel
theorem dX9_scraped_15 : decode cX9_scraped 15 = .ok (.invokevirtual 158, 3) := by decide +kernel
theorem dX9_scraped_18 : decode cX9_scraped 18 = .ok (.ireturn, 1) := by decide +kernel
theorem dX9_scraped_19 : decode cX9_scraped 19 = .ok (.iload_n 3, 1) := by decide +kernel
theorem dX9_scraped_20 : decode cX9_scraped 20 = .ok (.ifCond .ge 11, 3) := by decide +kernel
theorem dX9_scraped_23 : decode cX9_scraped 23 = .ok (.aload_n 0, 1) := by decide +kernel
theorem dX9_scraped_24 : decode cX9_scraped 24 = .ok (.iconst 2, 1) := by decide +kernel
theorem dX9_scraped_25 : decode cX9_scraped 25 = .ok (.invokevirtual 158, 3) := by decide +kernel
theorem dX9_scraped_28 : decode cX9_scraped 28 = .ok (.goto 14, 3) := by decide +kernel
theorem dX9_scraped_31 : decode cX9_scraped 31 = .ok (.aload_n 0, 1) := by decide +kernel
theorem dX9_scraped_32 : decode cX9_scraped 32 = .ok (.aload_n 0, 1) := by decide +kernel
theorem dX9_scraped_33 : decode cX9_scraped 33 = .ok (.iload_n 1, 1) := by decide +kernel
theorem dX9_scraped_34 : decode cX9_scraped 34 = .ok (.iload_n 2, 1) := by decide +kernel
theorem dX9_scraped_35 : decode cX9_scraped 35 = .ok (.invokevirtual 272, 3) := by decide +kernel
theorem dX9_scraped_38 : decode cX9_scraped 38 = .ok (.iload_n 3, 1) := by decide +kernel
theorem dX9_scraped_39 : decode cX9_scraped 39 = .ok (.invokevirtual 265, 3) := by decide +kernel
theorem dX9_scraped_42 : decode cX9_scraped 42 = .ok (.ireturn, 1) := by decide +kernel
theorem dX9_deep_0 : decode cX9_deep 0 = .ok (.aload_n 0, 1) := by decide +kernel
theorem dX9_deep_1 : decode cX9_deep 1 = .ok (.invokevirtual 155, 3) := by decide +kernel
theorem dX9_deep_4 : decode cX9_deep 4 = .ok (.aload_n 0, 1) := by decide +kernel
theorem dX9_deep_5 : decode cX9_deep 5 = .ok (.iload_n 1, 1) := by decide +kernel
theorem dX9_deep_6 : decode cX9_deep 6 = .ok (.iload_n 2, 1) := by decide +kernel
theorem dX9_deep_7 : decode cX9_deep 7 = .ok (.invokevirtual 268, 3) := by decide +kernel
theorem dX9_deep_10 : decode cX9_deep 10 = .ok (.ifCond .ne 9, 3) := by decide +kernel
theorem dX9_deep_13 : decode cX9_deep 13 = .ok (.aload_n 0, 1) := by decide +kernel
theorem dX9_deep_14 : decode cX9_deep 14 = .ok (.iconst 1, 1) := by decide +kernel
theorem dX9_deep_15 : decode cX9_deep 15 = .ok (.invokevirtual 158, 3) := by decide +kernel
theorem dX9_deep_18 : decode cX9_deep 18 = .ok (.ireturn, 1) := by decide +kernel
theorem dX9_deep_19 : decode cX9_deep 19 = .ok (.iconst 0, 1) := by decide +kernel
theorem dX9_deep_20 : decode cX9_deep 20 = .ok (.istore_n 3, 1) := by decide +kernel
theorem dX9_deep_21 : decode cX9_deep 21 = .ok (.iconst 0, 1) := by decide +kernel
theorem dX9_deep_22 : decode cX9_deep 22 = .ok (.istore 4, 2) := by decide +kernel
theorem dX9_deep_24 : decode cX9_deep 24 = .ok (.iload 4, 2) := by decide +kernel
theorem dX9_deep_26 : decode cX9_deep 26 = .ok (.aload_n 0, 1) := by decide +kernel
theorem dX9_deep_27 : decode cX9_deep 27 = .ok (.getfield 26, 3) := by decide +kernel
theorem dX9_deep_30 : decode cX9_deep 30 = .ok (.iconst 0, 1) := by decide +kernel
theorem dX9_deep_31 : decode cX9_deep 31 = .ok (.iaload, 1) := by decide +kernel
theorem dX9_deep_32 : decode cX9_deep 32 = .ok (.if_icmp .ge 34, 3) := by decide +kernel
theorem dX9_deep_35 : decode cX9_deep 35 = .ok (.iload_n 3, 1) := by decide +kernel
theorem dX9_deep_36 : decode cX9_deep 36 = .ok (.aload_n 0, 1) := by decide +kernel
theorem dX9_deep_37 : decode cX9_deep 37 = .ok (.iload 4, 2) := by decide +kernel
theorem dX9_deep_39 : decode cX9_deep 39 = .ok (.aload_n 0, 1) := by decide +kernel
theorem dX9_deep_40 : decode cX9_deep 40 = .ok (.iload_n 1, 1) := by decide +kernel
theorem dX9_deep_41 : decode cX9_deep 41 = .ok (.iload_n 2, 1) := by decide +kernel
theorem dX9_deep_42 : decode cX9_deep 42 = .ok (.invokevirtual 272, 3) := by decide +kernel
theorem dX9_deep_45 : decode cX9_deep 45 = .ok (.invokevirtual 262, 3) := by decide +kernel
theorem dX9_deep_48 : decode cX9_deep 48 = .ok (.bipush (-2), 2) := by decide +kernel
theorem dX9_deep_50 : decode cX9_deep 50 = .ok (.if_icmp .ne 7, 3) := by decide +kernel
theorem dX9_deep_53 : decode cX9_deep 53 = .ok (.iconst 0, 1) := by decide +kernel
theorem dX9_deep_54 : decode cX9_deep 54 = .ok (.goto 4, 3) := by decide +kernel
theorem dX9_deep_57 : decode cX9_deep 57 = .ok (.iconst 1, 1) := by decide +kernel
theorem dX9_deep_58 : decode cX9_deep 58 = .ok (.iadd, 1) := by decide +kernel
theorem dX9_deep_59 : decode cX9_deep 59 = .ok (.istore_n 3, 1) := by decide +kernel
theorem dX9_deep_60 : decode cX9_deep 60 = .ok (.iinc 4 1, 3) := by decide +kernel
theorem dX9_deep_63 : decode cX9_deep 63 = .ok (.goto (-39), 3) := by decide +kernel
theorem dX9_deep_66 : decode cX9_deep 66 = .ok (.iload_n 3, 1) := by decide +kernel
theorem dX9_deep_67 : decode cX9_deep 67 = .ok (.ireturn, 1) := by decide +kernel
theorem dX9_reliefOf_0 : decode cX9_reliefOf 0 = .ok (.iconst 0, 1) := by decide +kernel
theorem dX9_reliefOf_1 : decode cX9_reliefOf 1 = .ok (.istore_n 2, 1) := by decide +kernel
theorem dX9_reliefOf_2 : decode cX9_reliefOf 2 = .ok (.iconst 0, 1) := by decide +kernel
theorem dX9_reliefOf_3 : decode cX9_reliefOf 3 = .ok (.istore_n 3, 1) := by decide +kernel
theorem dX9_reliefOf_4 : decode cX9_reliefOf 4 = .ok (.iload_n 3, 1) := by decide +kernel
theorem dX9_reliefOf_5 : decode cX9_reliefOf 5 = .ok (.aload_n 0, 1) := by decide +kernel
theorem dX9_reliefOf_6 : decode cX9_reliefOf 6 = .ok (.getfield 26, 3) := by decide +kernel
theorem dX9_reliefOf_9 : decode cX9_reliefOf 9 = .ok (.iconst 0, 1) := by decide +kernel
theorem dX9_reliefOf_10 : decode cX9_reliefOf 10 = .ok (.iaload, 1) := by decide +kernel
theorem dX9_reliefOf_11 : decode cX9_reliefOf 11 = .ok (.if_icmp .ge 41, 3) := by decide +kernel
theorem dX9_reliefOf_14 : decode cX9_reliefOf 14 = .ok (.iload_n 2, 1) := by decide +kernel
theorem dX9_reliefOf_15 : decode cX9_reliefOf 15 = .ok (.aload_n 0, 1) := by decide +kernel
theorem dX9_reliefOf_16 : decode cX9_reliefOf 16 = .ok (.iload_n 3, 1) := by decide +kernel
theorem dX9_reliefOf_17 : decode cX9_reliefOf 17 = .ok (.iload_n 1, 1) := by decide +kernel
theorem dX9_reliefOf_18 : decode cX9_reliefOf 18 = .ok (.invokevirtual 262, 3) := by decide +kernel
theorem dX9_reliefOf_21 : decode cX9_reliefOf 21 = .ok (.bipush (-2), 2) := by decide +kernel
theorem dX9_reliefOf_23 : decode cX9_reliefOf 23 = .ok (.if_icmp .ne 7, 3) := by decide +kernel
theorem dX9_reliefOf_26 : decode cX9_reliefOf 26 = .ok (.iconst 0, 1) := by decide +kernel
theorem dX9_reliefOf_27 : decode cX9_reliefOf 27 = .ok (.goto 17, 3) := by decide +kernel
theorem dX9_reliefOf_30 : decode cX9_reliefOf 30 = .ok (.aload_n 0, 1) := by decide +kernel
theorem dX9_reliefOf_31 : decode cX9_reliefOf 31 = .ok (.getfield 20, 3) := by decide +kernel
theorem dX9_reliefOf_34 : decode cX9_reliefOf 34 = .ok (.bipush 7, 2) := by decide +kernel
theorem dX9_reliefOf_36 : decode cX9_reliefOf 36 = .ok (.aload_n 0, 1) := by decide +kernel
theorem dX9_reliefOf_37 : decode cX9_reliefOf 37 = .ok (.iload_n 3, 1) := by decide +kernel
theorem dX9_reliefOf_38 : decode cX9_reliefOf 38 = .ok (.iload_n 1, 1) := by decide +kernel
theorem dX9_reliefOf_39 : decode cX9_reliefOf 39 = .ok (.invokevirtual 262, 3) := by decide +kernel
theorem dX9_reliefOf_42 : decode cX9_reliefOf 42 = .ok (.iadd, 1) := by decide +kernel
theorem dX9_reliefOf_43 : decode cX9_reliefOf 43 = .ok (.iaload, 1) := by decide +kernel
theorem dX9_reliefOf_44 : decode cX9_reliefOf 44 = .ok (.iadd, 1) := by decide +kernel
theorem dX9_reliefOf_45 : decode cX9_reliefOf 45 = .ok (.istore_n 2, 1) := by decide +kernel
theorem dX9_reliefOf_46 : decode cX9_reliefOf 46 = .ok (.iinc 3 1, 3) := by decide +kernel
theorem dX9_reliefOf_49 : decode cX9_reliefOf 49 = .ok (.goto (-45), 3) := by decide +kernel
theorem dX9_reliefOf_52 : decode cX9_reliefOf 52 = .ok (.iload_n 2, 1) := by decide +kernel
theorem dX9_reliefOf_53 : decode cX9_reliefOf 53 = .ok (.ireturn, 1) := by decide +kernel
theorem dX9_relief_0 : decode cX9_relief 0 = .ok (.aload_n 0, 1) := by decide +kernel
theorem dX9_relief_1 : decode cX9_relief 1 = .ok (.invokevirtual 155, 3) := by decide +kernel
theorem dX9_relief_4 : decode cX9_relief 4 = .ok (.aload_n 0, 1) := by decide +kernel
theorem dX9_relief_5 : decode cX9_relief 5 = .ok (.iload_n 1, 1) := by decide +kernel
theorem dX9_relief_6 : decode cX9_relief 6 = .ok (.iload_n 2, 1) := by decide +kernel
theorem dX9_relief_7 : decode cX9_relief 7 = .ok (.invokevirtual 268, 3) := by decide +kernel
theorem dX9_relief_10 : decode cX9_relief 10 = .ok (.ifCond .eq 16, 3) := by decide +kernel
theorem dX9_relief_13 : decode cX9_relief 13 = .ok (.aload_n 0, 1) := by decide +kernel
theorem dX9_relief_14 : decode cX9_relief 14 = .ok (.aload_n 0, 1) := by decide +kernel
theorem dX9_relief_15 : decode cX9_relief 15 = .ok (.iload_n 1, 1) := by decide +kernel
theorem dX9_relief_16 : decode cX9_relief 16 = .ok (.iload_n 2, 1) := by decide +kernel
theorem dX9_relief_17 : decode cX9_relief 17 = .ok (.invokevirtual 272, 3) := by decide +kernel
theorem dX9_relief_20 : decode cX9_relief 20 = .ok (.invokevirtual 284, 3) := by decide +kernel
theorem dX9_relief_23 : decode cX9_relief 23 = .ok (.goto 8, 3) := by decide +kernel
theorem dX9_relief_26 : decode cX9_relief 26 = .ok (.aload_n 0, 1) := by decide +kernel
theorem dX9_relief_27 : decode cX9_relief 27 = .ok (.iconst 1, 1) := by decide +kernel
theorem dX9_relief_28 : decode cX9_relief 28 = .ok (.invokevirtual 158, 3) := by decide +kernel
theorem dX9_relief_31 : decode cX9_relief 31 = .ok (.ireturn, 1) := by decide +kernel
theorem dX9_light_0 : decode cX9_light 0 = .ok (.aload_n 0, 1) := by decide +kernel
theorem dX9_light_1 : decode cX9_light 1 = .ok (.invokevirtual 155, 3) := by decide +kernel
theorem dX9_light_4 : decode cX9_light 4 = .ok (.aload_n 0, 1) := by decide +kernel
theorem dX9_light_5 : decode cX9_light 5 = .ok (.iload_n 1, 1) := by decide +kernel
theorem dX9_light_6 : decode cX9_light 6 = .ok (.iload_n 2, 1) := by decide +kernel
theorem dX9_light_7 : decode cX9_light 7 = .ok (.invokevirtual 268, 3) := by decide +kernel
theorem dX9_light_10 : decode cX9_light 10 = .ok (.ifCond .ne 9, 3) := by decide +kernel
theorem dX9_light_13 : decode cX9_light 13 = .ok (.aload_n 0, 1) := by decide +kernel
theorem dX9_light_14 : decode cX9_light 14 = .ok (.iconst 1, 1) := by decide +kernel
theorem dX9_light_15 : decode cX9_light 15 = .ok (.invokevirtual 158, 3) := by decide +kernel
theorem dX9_light_18 : decode cX9_light 18 = .ok (.ireturn, 1) := by decide +kernel
theorem dX9_light_19 : decode cX9_light 19 = .ok (.iload_n 1, 1) := by decide +kernel
theorem dX9_light_20 : decode cX9_light 20 = .ok (.ifCond .ne 7, 3) := by decide +kernel
theorem dX9_light_23 : decode cX9_light 23 = .ok (.iconst 0, 1) := by decide +kernel
theorem dX9_light_24 : decode cX9_light 24 = .ok (.goto 15, 3) := by decide +kernel
theorem dX9_light_27 : decode cX9_light 27 = .ok (.aload_n 0, 1) := by decide +kernel
theorem dX9_light_28 : decode cX9_light 28 = .ok (.aload_n 0, 1) := by decide +kernel
theorem dX9_light_29 : decode cX9_light 29 = .ok (.iload_n 1, 1) := by decide +kernel
theorem dX9_light_30 : decode cX9_light 30 = .ok (.iconst 1, 1) := by decide +kernel
theorem dX9_light_31 : decode cX9_light 31 = .ok (.isub, 1) := by decide +kernel
theorem dX9_light_32 : decode cX9_light 32 = .ok (.iload_n 2, 1) := by decide +kernel
theorem dX9_light_33 : decode cX9_light 33 = .ok (.invokevirtual 272, 3) := by decide +kernel
theorem dX9_light_36 : decode cX9_light 36 = .ok (.invokevirtual 284, 3) := by decide +kernel
theorem dX9_light_39 : decode cX9_light 39 = .ok (.istore_n 3, 1) := by decide +kernel
theorem dX9_light_40 : decode cX9_light 40 = .ok (.aload_n 0, 1) := by decide +kernel
theorem dX9_light_41 : decode cX9_light 41 = .ok (.aload_n 0, 1) := by decide +kernel
theorem dX9_light_42 : decode cX9_light 42 = .ok (.iload_n 1, 1) := by decide +kernel
theorem dX9_light_43 : decode cX9_light 43 = .ok (.iload_n 2, 1) := by decide +kernel
theorem dX9_light_44 : decode cX9_light 44 = .ok (.invokevirtual 272, 3) := by decide +kernel
theorem dX9_light_47 : decode cX9_light 47 = .ok (.invokevirtual 284, 3) := by decide +kernel
theorem dX9_light_50 : decode cX9_light 50 = .ok (.iload_n 3, 1) := by decide +kernel
theorem dX9_light_51 : decode cX9_light 51 = .ok (.if_icmp .le 7, 3) := by decide +kernel
theorem dX9_light_54 : decode cX9_light 54 = .ok (.iconst 1, 1) := by decide +kernel
theorem dX9_light_55 : decode cX9_light 55 = .ok (.goto 4, 3) := by decide +kernel
theorem dX9_light_58 : decode cX9_light 58 = .ok (.iconst 0, 1) := by decide +kernel
theorem dX9_light_59 : decode cX9_light 59 = .ok (.ireturn, 1) := by decide +kernel
theorem dX9_area_0 : decode cX9_area 0 = .ok (.aload_n 0, 1) := by decide +kernel
theorem dX9_area_1 : decode cX9_area 1 = .ok (.invokevirtual 155, 3) := by decide +kernel
theorem dX9_area_4 : decode cX9_area 4 = .ok (.aload_n 0, 1) := by decide +kernel
theorem dX9_area_5 : decode cX9_area 5 = .ok (.getfield 168, 3) := by decide +kernel
theorem dX9_area_8 : decode cX9_area 8 = .ok (.ifCond .eq 19, 3) := by decide +kernel
theorem dX9_area_11 : decode cX9_area 11 = .ok (.iload_n 1, 1) := by decide +kernel
theorem dX9_area_12 : decode cX9_area 12 = .ok (.iconst 0, 1) := by decide +kernel
theorem dX9_area_13 : decode cX9_area 13 = .ok (.aload_n 0, 1) := by decide +kernel
theorem dX9_area_14 : decode cX9_area 14 = .ok (.getfield 20, 3) := by decide +kernel
theorem dX9_area_17 : decode cX9_area 17 = .ok (.iconst 4, 1) := by decide +kernel
theorem dX9_area_18 : decode cX9_area 18 = .ok (.iaload, 1) := by decide +kernel
theorem dX9_area_19 : decode cX9_area 19 = .ok (.iconst 1, 1) := by decide +kernel
theorem dX9_area_20 : decode cX9_area 20 = .ok (.isub, 1) := by decide +kernel
theorem dX9_area_21 : decode cX9_area 21 = .ok (.invokestatic 139, 3) := by decide +kernel
theorem dX9_area_24 : decode cX9_area 24 = .ok (.ifCond .ne 9, 3) := by decide +kernel
theorem dX9_area_27 : decode cX9_area 27 = .ok (.aload_n 0, 1) := by decide +kernel
theorem dX9_area_28 : decode cX9_area 28 = .ok (.iconst 1, 1) := by decide +kernel
theorem dX9_area_29 : decode cX9_area 29 = .ok (.invokevirtual 158, 3) := by decide +kernel
theorem dX9_area_32 : decode cX9_area 32 = .ok (.ireturn, 1) := by decide +kernel
theorem dX9_area_33 : decode cX9_area 33 = .ok (.iconst 0, 1) := by decide +kernel
theorem dX9_area_34 : decode cX9_area 34 = .ok (.istore_n 2, 1) := by decide +kernel
theorem dX9_area_35 : decode cX9_area 35 = .ok (.iconst 0, 1) := by decide +kernel
theorem dX9_area_36 : decode cX9_area 36 = .ok (.istore_n 3, 1) := by decide +kernel
theorem dX9_area_37 : decode cX9_area 37 = .ok (.iload_n 3, 1) := by decide +kernel
theorem dX9_area_38 : decode cX9_area 38 = .ok (.aload_n 0, 1) := by decide +kernel
theorem dX9_area_39 : decode cX9_area 39 = .ok (.invokevirtual 287, 3) := by decide +kernel
theorem dX9_area_42 : decode cX9_area 42 = .ok (.if_icmp .ge 26, 3) := by decide +kernel
theorem dX9_area_45 : decode cX9_area 45 = .ok (.iload_n 2, 1) := by decide +kernel
theorem dX9_area_46 : decode cX9_area 46 = .ok (.aload_n 0, 1) := by decide +kernel
theorem dX9_area_47 : decode cX9_area 47 = .ok (.iload_n 3, 1) := by decide +kernel
theorem dX9_area_48 : decode cX9_area 48 = .ok (.invokevirtual 275, 3) := by decide +kernel
theorem dX9_area_51 : decode cX9_area 51 = .ok (.iload_n 1, 1) := by decide +kernel
theorem dX9_area_52 : decode cX9_area 52 = .ok (.if_icmp .ne 7, 3) := by decide +kernel
theorem dX9_area_55 : decode cX9_area 55 = .ok (.iconst 1, 1) := by decide +kernel
theorem dX9_area_56 : decode cX9_area 56 = .ok (.goto 4, 3) := by decide +kernel
theorem dX9_area_59 : decode cX9_area 59 = .ok (.iconst 0, 1) := by decide +kernel
theorem dX9_area_60 : decode cX9_area 60 = .ok (.iadd, 1) := by decide +kernel
theorem dX9_area_61 : decode cX9_area 61 = .ok (.istore_n 2, 1) := by decide +kernel
theorem dX9_area_62 : decode cX9_area 62 = .ok (.iinc 3 1, 3) := by decide +kernel
theorem dX9_area_65 : decode cX9_area 65 = .ok (.goto (-28), 3) := by decide +kernel
theorem dX9_area_68 : decode cX9_area 68 = .ok (.iload_n 2, 1) := by decide +kernel
theorem dX9_area_69 : decode cX9_area 69 = .ok (.ireturn, 1) := by decide +kernel
theorem dX9_share_0 : decode cX9_share 0 = .ok (.aload_n 0, 1) := by decide +kernel
theorem dX9_share_1 : decode cX9_share 1 = .ok (.invokevirtual 155, 3) := by decide +kernel
theorem dX9_share_4 : decode cX9_share 4 = .ok (.aload_n 0, 1) := by decide +kernel
theorem dX9_share_5 : decode cX9_share 5 = .ok (.getfield 168, 3) := by decide +kernel
theorem dX9_share_8 : decode cX9_share 8 = .ok (.ifCond .eq 19, 3) := by decide +kernel
theorem dX9_share_11 : decode cX9_share 11 = .ok (.iload_n 1, 1) := by decide +kernel
theorem dX9_share_12 : decode cX9_share 12 = .ok (.iconst 0, 1) := by decide +kernel
theorem dX9_share_13 : decode cX9_share 13 = .ok (.aload_n 0, 1) := by decide +kernel
theorem dX9_share_14 : decode cX9_share 14 = .ok (.getfield 20, 3) := by decide +kernel
theorem dX9_share_17 : decode cX9_share 17 = .ok (.iconst 5, 1) := by decide +kernel
theorem dX9_share_18 : decode cX9_share 18 = .ok (.iaload, 1) := by decide +kernel
theorem dX9_share_19 : decode cX9_share 19 = .ok (.iconst 1, 1) := by decide +kernel
theorem dX9_share_20 : decode cX9_share 20 = .ok (.isub, 1) := by decide +kernel
theorem dX9_share_21 : decode cX9_share 21 = .ok (.invokestatic 139, 3) := by decide +kernel
theorem dX9_share_24 : decode cX9_share 24 = .ok (.ifCond .ne 9, 3) := by decide +kernel
theorem dX9_share_27 : decode cX9_share 27 = .ok (.aload_n 0, 1) := by decide +kernel
theorem dX9_share_28 : decode cX9_share 28 = .ok (.iconst 1, 1) := by decide +kernel
theorem dX9_share_29 : decode cX9_share 29 = .ok (.invokevirtual 158, 3) := by decide +kernel
theorem dX9_share_32 : decode cX9_share 32 = .ok (.ireturn, 1) := by decide +kernel
theorem dX9_share_33 : decode cX9_share 33 = .ok (.iconst 0, 1) := by decide +kernel
theorem dX9_share_34 : decode cX9_share 34 = .ok (.istore_n 2, 1) := by decide +kernel
theorem dX9_share_35 : decode cX9_share 35 = .ok (.iconst 0, 1) := by decide +kernel
theorem dX9_share_36 : decode cX9_share 36 = .ok (.istore_n 3, 1) := by decide +kernel
theorem dX9_share_37 : decode cX9_share 37 = .ok (.iload_n 3, 1) := by decide +kernel
theorem dX9_share_38 : decode cX9_share 38 = .ok (.aload_n 0, 1) := by decide +kernel
theorem dX9_share_39 : decode cX9_share 39 = .ok (.invokevirtual 287, 3) := by decide +kernel
theorem dX9_share_42 : decode cX9_share 42 = .ok (.if_icmp .ge 50, 3) := by decide +kernel
theorem dX9_share_45 : decode cX9_share 45 = .ok (.iload_n 2, 1) := by decide +kernel
theorem dX9_share_46 : decode cX9_share 46 = .ok (.aload_n 0, 1) := by decide +kernel
theorem dX9_share_47 : decode cX9_share 47 = .ok (.iload_n 3, 1) := by decide +kernel
theorem dX9_share_48 : decode cX9_share 48 = .ok (.iconst 0, 1) := by decide +kernel
theorem dX9_share_49 : decode cX9_share 49 = .ok (.invokevirtual 265, 3) := by decide +kernel
theorem dX9_share_52 : decode cX9_share 52 = .ok (.bipush (-2), 2) := by decide +kernel
theorem dX9_share_54 : decode cX9_share 54 = .ok (.if_icmp .eq 29, 3) := by decide +kernel
theorem dX9_share_57 : decode cX9_share 57 = .ok (.aload_n 0, 1) := by decide +kernel
theorem dX9_share_58 : decode cX9_share 58 = .ok (.getfield 26, 3) := by decide +kernel
theorem dX9_share_61 : decode cX9_share 61 = .ok (.iconst 2, 1) := by decide +kernel
theorem dX9_share_62 : decode cX9_share 62 = .ok (.bipush 26, 2) := by decide +kernel
theorem dX9_share_64 : decode cX9_share 64 = .ok (.aload_n 0, 1) := by decide +kernel
theorem dX9_share_65 : decode cX9_share 65 = .ok (.iload_n 3, 1) := by decide +kernel
theorem dX9_share_66 : decode cX9_share 66 = .ok (.iconst 0, 1) := by decide +kernel
theorem dX9_share_67 : decode cX9_share 67 = .ok (.invokevirtual 265, 3) := by decide +kernel
theorem dX9_share_70 : decode cX9_share 70 = .ok (.imul, 1) := by decide +kernel
theorem dX9_share_71 : decode cX9_share 71 = .ok (.iadd, 1) := by decide +kernel
theorem dX9_share_72 : decode cX9_share 72 = .ok (.iconst 0, 1) := by decide +kernel
theorem dX9_share_73 : decode cX9_share 73 = .ok (.iadd, 1) := by decide +kernel
theorem dX9_share_74 : decode cX9_share 74 = .ok (.iaload, 1) := by decide +kernel
theorem dX9_share_75 : decode cX9_share 75 = .ok (.iload_n 1, 1) := by decide +kernel
theorem dX9_share_76 : decode cX9_share 76 = .ok (.if_icmp .ne 7, 3) := by decide +kernel
theorem dX9_share_79 : decode cX9_share 79 = .ok (.iconst 1, 1) := by decide +kernel
theorem dX9_share_80 : decode cX9_share 80 = .ok (.goto 4, 3) := by decide +kernel
theorem dX9_share_83 : decode cX9_share 83 = .ok (.iconst 0, 1) := by decide +kernel
theorem dX9_share_84 : decode cX9_share 84 = .ok (.iadd, 1) := by decide +kernel
theorem dX9_share_85 : decode cX9_share 85 = .ok (.istore_n 2, 1) := by decide +kernel
theorem dX9_share_86 : decode cX9_share 86 = .ok (.iinc 3 1, 3) := by decide +kernel
theorem dX9_share_89 : decode cX9_share 89 = .ok (.goto (-52), 3) := by decide +kernel
theorem dX9_share_92 : decode cX9_share 92 = .ok (.iload_n 2, 1) := by decide +kernel
theorem dX9_share_93 : decode cX9_share 93 = .ok (.ireturn, 1) := by decide +kernel
theorem dX9_old_0 : decode cX9_old 0 = .ok (.aload_n 0, 1) := by decide +kernel
theorem dX9_old_1 : decode cX9_old 1 = .ok (.invokevirtual 155, 3) := by decide +kernel
theorem dX9_old_4 : decode cX9_old 4 = .ok (.aload_n 0, 1) := by decide +kernel
theorem dX9_old_5 : decode cX9_old 5 = .ok (.getfield 168, 3) := by decide +kernel
theorem dX9_old_8 : decode cX9_old 8 = .ok (.ifCond .ne 9, 3) := by decide +kernel
theorem dX9_old_11 : decode cX9_old 11 = .ok (.aload_n 0, 1) := by decide +kernel
theorem dX9_old_12 : decode cX9_old 12 = .ok (.iconst 1, 1) := by decide +kernel
theorem dX9_old_13 : decode cX9_old 13 = .ok (.invokevirtual 158, 3) := by decide +kernel
theorem dX9_old_16 : decode cX9_old 16 = .ok (.ireturn, 1) := by decide +kernel
theorem dX9_old_17 : decode cX9_old 17 = .ok (.iload_n 1, 1) := by decide +kernel
theorem dX9_old_18 : decode cX9_old 18 = .ok (.iconst 0, 1) := by decide +kernel
theorem dX9_old_19 : decode cX9_old 19 = .ok (.sipush 999, 3) := by decide +kernel
theorem dX9_old_22 : decode cX9_old 22 = .ok (.invokestatic 139, 3) := by decide +kernel
theorem dX9_old_25 : decode cX9_old 25 = .ok (.ifCond .ne 9, 3) := by decide +kernel
theorem dX9_old_28 : decode cX9_old 28 = .ok (.aload_n 0, 1) := by decide +kernel
theorem dX9_old_29 : decode cX9_old 29 = .ok (.iconst 2, 1) := by decide +kernel
theorem dX9_old_30 : decode cX9_old 30 = .ok (.invokevirtual 158, 3) := by decide +kernel
theorem dX9_old_33 : decode cX9_old 33 = .ok (.ireturn, 1) := by decide +kernel
theorem dX9_old_34 : decode cX9_old 34 = .ok (.iconst 0, 1) := by decide +kernel
theorem dX9_old_35 : decode cX9_old 35 = .ok (.istore_n 2, 1) := by decide +kernel
theorem dX9_old_36 : decode cX9_old 36 = .ok (.iconst 0, 1) := by decide +kernel
theorem dX9_old_37 : decode cX9_old 37 = .ok (.istore_n 3, 1) := by decide +kernel
theorem dX9_old_38 : decode cX9_old 38 = .ok (.iload_n 3, 1) := by decide +kernel
theorem dX9_old_39 : decode cX9_old 39 = .ok (.aload_n 0, 1) := by decide +kernel
theorem dX9_old_40 : decode cX9_old 40 = .ok (.invokevirtual 287, 3) := by decide +kernel
theorem dX9_old_43 : decode cX9_old 43 = .ok (.if_icmp .ge 42, 3) := by decide +kernel
theorem dX9_old_46 : decode cX9_old 46 = .ok (.iload_n 2, 1) := by decide +kernel
theorem dX9_old_47 : decode cX9_old 47 = .ok (.aload_n 0, 1) := by decide +kernel
theorem dX9_old_48 : decode cX9_old 48 = .ok (.iload_n 3, 1) := by decide +kernel
theorem dX9_old_49 : decode cX9_old 49 = .ok (.iconst 0, 1) := by decide +kernel
theorem dX9_old_50 : decode cX9_old 50 = .ok (.invokevirtual 265, 3) := by decide +kernel
theorem dX9_old_53 : decode cX9_old 53 = .ok (.bipush (-2), 2) := by decide +kernel
theorem dX9_old_55 : decode cX9_old 55 = .ok (.if_icmp .eq 21, 3) := by decide +kernel
theorem dX9_old_58 : decode cX9_old 58 = .ok (.aload_n 0, 1) := by decide +kernel
theorem dX9_old_59 : decode cX9_old 59 = .ok (.aload_n 0, 1) := by decide +kernel
theorem dX9_old_60 : decode cX9_old 60 = .ok (.iload_n 3, 1) := by decide +kernel
theorem dX9_old_61 : decode cX9_old 61 = .ok (.iconst 0, 1) := by decide +kernel
theorem dX9_old_62 : decode cX9_old 62 = .ok (.invokevirtual 265, 3) := by decide +kernel
theorem dX9_old_65 : decode cX9_old 65 = .ok (.invokevirtual 278, 3) := by decide +kernel
theorem dX9_old_68 : decode cX9_old 68 = .ok (.iload_n 1, 1) := by decide +kernel
theorem dX9_old_69 : decode cX9_old 69 = .ok (.if_icmp .gt 7, 3) := by decide +kernel
theorem dX9_old_72 : decode cX9_old 72 = .ok (.iconst 1, 1) := by decide +kernel
theorem dX9_old_73 : decode cX9_old 73 = .ok (.goto 4, 3) := by decide +kernel
theorem dX9_old_76 : decode cX9_old 76 = .ok (.iconst 0, 1) := by decide +kernel
theorem dX9_old_77 : decode cX9_old 77 = .ok (.iadd, 1) := by decide +kernel
theorem dX9_old_78 : decode cX9_old 78 = .ok (.istore_n 2, 1) := by decide +kernel
theorem dX9_old_79 : decode cX9_old 79 = .ok (.iinc 3 1, 3) := by decide +kernel
theorem dX9_old_82 : decode cX9_old 82 = .ok (.goto (-44), 3) := by decide +kernel
theorem dX9_old_85 : decode cX9_old 85 = .ok (.iload_n 2, 1) := by decide +kernel
theorem dX9_old_86 : decode cX9_old 86 = .ok (.ireturn, 1) := by decide +kernel
theorem dX9_changes_0 : decode cX9_changes 0 = .ok (.aload_n 0, 1) := by decide +kernel
theorem dX9_changes_1 : decode cX9_changes 1 = .ok (.invokevirtual 155, 3) := by decide +kernel
theorem dX9_changes_4 : decode cX9_changes 4 = .ok (.aload_n 0, 1) := by decide +kernel
theorem dX9_changes_5 : decode cX9_changes 5 = .ok (.iload_n 1, 1) := by decide +kernel
theorem dX9_changes_6 : decode cX9_changes 6 = .ok (.iload_n 2, 1) := by decide +kernel
theorem dX9_changes_7 : decode cX9_changes 7 = .ok (.invokevirtual 268, 3) := by decide +kernel
theorem dX9_changes_10 : decode cX9_changes 10 = .ok (.ifCond .ne 9, 3) := by decide +kernel
theorem dX9_changes_13 : decode cX9_changes 13 = .ok (.aload_n 0, 1) := by decide +kernel
theorem dX9_changes_14 : decode cX9_changes 14 = .ok (.iconst 1, 1) := by decide +kernel
theorem dX9_changes_15 : decode cX9_changes 15 = .ok (.invokevirtual 158, 3) := by decide +kernel
theorem dX9_changes_18 : decode cX9_changes 18 = .ok (.ireturn, 1) := by decide +kernel
theorem dX9_changes_19 : decode cX9_changes 19 = .ok (.aload_n 0, 1) := by decide +kernel
theorem dX9_changes_20 : decode cX9_changes 20 = .ok (.getfield 26, 3) := by decide +kernel
theorem dX9_changes_23 : decode cX9_changes 23 = .ok (.iconst 0, 1) := by decide +kernel
theorem dX9_changes_24 : decode cX9_changes 24 = .ok (.iaload, 1) := by decide +kernel
theorem dX9_changes_25 : decode cX9_changes 25 = .ok (.ifCond .ne 6, 3) := by decide +kernel
theorem dX9_changes_28 : decode cX9_changes 28 = .ok (.bipush (-2), 2) := by decide +kernel
theorem dX9_changes_30 : decode cX9_changes 30 = .ok (.ireturn, 1) := by decide +kernel
theorem dX9_changes_31 : decode cX9_changes 31 = .ok (.aload_n 0, 1) := by decide +kernel
theorem dX9_changes_32 : decode cX9_changes 32 = .ok (.aload_n 0, 1) := by decide +kernel
theorem dX9_changes_33 : decode cX9_changes 33 = .ok (.getfield 26, 3) := by decide +kernel
theorem dX9_changes_36 : decode cX9_changes 36 = .ok (.iconst 0, 1) := by decide +kernel
theorem dX9_changes_37 : decode cX9_changes 37 = .ok (.iaload, 1) := by decide +kernel
theorem dX9_changes_38 : decode cX9_changes 38 = .ok (.iconst 1, 1) := by decide +kernel
theorem dX9_changes_39 : decode cX9_changes 39 = .ok (.isub, 1) := by decide +kernel
theorem dX9_changes_40 : decode cX9_changes 40 = .ok (.invokevirtual 278, 3) := by decide +kernel
theorem dX9_changes_43 : decode cX9_changes 43 = .ok (.istore_n 3, 1) := by decide +kernel
theorem dX9_changes_44 : decode cX9_changes 44 = .ok (.aload_n 0, 1) := by decide +kernel
theorem dX9_changes_45 : decode cX9_changes 45 = .ok (.aload_n 0, 1) := by decide +kernel
theorem dX9_changes_46 : decode cX9_changes 46 = .ok (.iload_n 1, 1) := by decide +kernel
theorem dX9_changes_47 : decode cX9_changes 47 = .ok (.iload_n 2, 1) := by decide +kernel
theorem dX9_changes_48 : decode cX9_changes 48 = .ok (.invokevirtual 272, 3) := by decide +kernel
theorem dX9_changes_51 : decode cX9_changes 51 = .ok (.iload_n 3, 1) := by decide +kernel
theorem dX9_changes_52 : decode cX9_changes 52 = .ok (.invokevirtual 281, 3) := by decide +kernel
theorem dX9_changes_55 : decode cX9_changes 55 = .ok (.istore 4, 2) := by decide +kernel
theorem dX9_changes_57 : decode cX9_changes 57 = .ok (.iload_n 3, 1) := by decide +kernel
theorem dX9_changes_58 : decode cX9_changes 58 = .ok (.istore 5, 2) := by decide +kernel
theorem dX9_changes_60 : decode cX9_changes 60 = .ok (.iload 5, 2) := by decide +kernel
theorem dX9_changes_62 : decode cX9_changes 62 = .ok (.sipush 999, 3) := by decide +kernel
theorem dX9_changes_65 : decode cX9_changes 65 = .ok (.if_icmp .gt 29, 3) := by decide +kernel
theorem dX9_changes_68 : decode cX9_changes 68 = .ok (.aload_n 0, 1) := by decide +kernel
theorem dX9_changes_69 : decode cX9_changes 69 = .ok (.aload_n 0, 1) := by decide +kernel
theorem dX9_changes_70 : decode cX9_changes 70 = .ok (.iload_n 1, 1) := by decide +kernel
theorem dX9_changes_71 : decode cX9_changes 71 = .ok (.iload_n 2, 1) := by decide +kernel
theorem dX9_changes_72 : decode cX9_changes 72 = .ok (.invokevirtual 272, 3) := by decide +kernel
theorem dX9_changes_75 : decode cX9_changes 75 = .ok (.iload 5, 2) := by decide +kernel
theorem dX9_changes_77 : decode cX9_changes 77 = .ok (.invokevirtual 281, 3) := by decide +kernel
theorem dX9_changes_80 : decode cX9_changes 80 = .ok (.iload 4, 2) := by decide +kernel
theorem dX9_changes_82 : decode cX9_changes 82 = .ok (.if_icmp .eq 6, 3) := by decide +kernel
theorem dX9_changes_85 : decode cX9_changes 85 = .ok (.iload 5, 2) := by decide +kernel
theorem dX9_changes_87 : decode cX9_changes 87 = .ok (.ireturn, 1) := by decide +kernel
theorem dX9_changes_88 : decode cX9_changes 88 = .ok (.iinc 5 1, 3) := by decide +kernel
theorem dX9_changes_91 : decode cX9_changes 91 = .ok (.goto (-31), 3) := by decide +kernel
theorem dX9_changes_94 : decode cX9_changes 94 = .ok (.bipush (-2), 2) := by decide +kernel
theorem dX9_changes_96 : decode cX9_changes 96 = .ok (.ireturn, 1) := by decide +kernel
theorem dX9_painted_0 : decode cX9_painted 0 = .ok (.iconst 0, 1) := by decide +kernel
theorem dX9_painted_1 : decode cX9_painted 1 = .ok (.istore_n 2, 1) := by decide +kernel
theorem dX9_painted_2 : decode cX9_painted 2 = .ok (.iconst 0, 1) := by decide +kernel
theorem dX9_painted_3 : decode cX9_painted 3 = .ok (.istore_n 3, 1) := by decide +kernel
theorem dX9_painted_4 : decode cX9_painted 4 = .ok (.iload_n 3, 1) := by decide +kernel
theorem dX9_painted_5 : decode cX9_painted 5 = .ok (.aload_n 0, 1) := by decide +kernel
theorem dX9_painted_6 : decode cX9_painted 6 = .ok (.invokevirtual 287, 3) := by decide +kernel
theorem dX9_painted_9 : decode cX9_painted 9 = .ok (.if_icmp .ge 30, 3) := by decide +kernel
theorem dX9_painted_12 : decode cX9_painted 12 = .ok (.iload_n 2, 1) := by decide +kernel
theorem dX9_painted_13 : decode cX9_painted 13 = .ok (.aload_n 0, 1) := by decide +kernel
theorem dX9_painted_14 : decode cX9_painted 14 = .ok (.iload_n 1, 1) := by decide +kernel
theorem dX9_painted_15 : decode cX9_painted 15 = .ok (.iload_n 3, 1) := by decide +kernel
theorem dX9_painted_16 : decode cX9_painted 16 = .ok (.invokevirtual 262, 3) := by decide +kernel
theorem dX9_painted_19 : decode cX9_painted 19 = .ok (.bipush (-2), 2) := by decide +kernel
theorem dX9_painted_21 : decode cX9_painted 21 = .ok (.if_icmp .ne 7, 3) := by decide +kernel
theorem dX9_painted_24 : decode cX9_painted 24 = .ok (.iconst 0, 1) := by decide +kernel
theorem dX9_painted_25 : decode cX9_painted 25 = .ok (.goto 6, 3) := by decide +kernel
theorem dX9_painted_28 : decode cX9_painted 28 = .ok (.iconst 1, 1) := by decide +kernel
theorem dX9_painted_29 : decode cX9_painted 29 = .ok (.iload_n 3, 1) := by decide +kernel
theorem dX9_painted_30 : decode cX9_painted 30 = .ok (.ishl, 1) := by decide +kernel
theorem dX9_painted_31 : decode cX9_painted 31 = .ok (.ior, 1) := by decide +kernel
theorem dX9_painted_32 : decode cX9_painted 32 = .ok (.istore_n 2, 1) := by decide +kernel
theorem dX9_painted_33 : decode cX9_painted 33 = .ok (.iinc 3 1, 3) := by decide +kernel
theorem dX9_painted_36 : decode cX9_painted 36 = .ok (.goto (-32), 3) := by decide +kernel
theorem dX9_painted_39 : decode cX9_painted 39 = .ok (.iload_n 2, 1) := by decide +kernel
theorem dX9_painted_40 : decode cX9_painted 40 = .ok (.ireturn, 1) := by decide +kernel
theorem dX9_allCells_0 : decode cX9_allCells 0 = .ok (.iconst 1, 1) := by decide +kernel
theorem dX9_allCells_1 : decode cX9_allCells 1 = .ok (.aload_n 0, 1) := by decide +kernel
theorem dX9_allCells_2 : decode cX9_allCells 2 = .ok (.invokevirtual 287, 3) := by decide +kernel
theorem dX9_allCells_5 : decode cX9_allCells 5 = .ok (.ishl, 1) := by decide +kernel
theorem dX9_allCells_6 : decode cX9_allCells 6 = .ok (.iconst 1, 1) := by decide +kernel
theorem dX9_allCells_7 : decode cX9_allCells 7 = .ok (.isub, 1) := by decide +kernel
theorem dX9_allCells_8 : decode cX9_allCells 8 = .ok (.ireturn, 1) := by decide +kernel
theorem dX9_partOf_0 : decode cX9_partOf 0 = .ok (.iconst 1, 1) := by decide +kernel
theorem dX9_partOf_1 : decode cX9_partOf 1 = .ok (.iload_n 2, 1) := by decide +kernel
theorem dX9_partOf_2 : decode cX9_partOf 2 = .ok (.ishl, 1) := by decide +kernel
theorem dX9_partOf_3 : decode cX9_partOf 3 = .ok (.istore_n 3, 1) := by decide +kernel
theorem dX9_partOf_4 : decode cX9_partOf 4 = .ok (.iconst 0, 1) := by decide +kernel
theorem dX9_partOf_5 : decode cX9_partOf 5 = .ok (.istore 4, 2) := by decide +kernel
theorem dX9_partOf_7 : decode cX9_partOf 7 = .ok (.aload_n 0, 1) := by decide +kernel
theorem dX9_partOf_8 : decode cX9_partOf 8 = .ok (.getfield 20, 3) := by decide +kernel
theorem dX9_partOf_11 : decode cX9_partOf 11 = .ok (.iconst 0, 1) := by decide +kernel
theorem dX9_partOf_12 : decode cX9_partOf 12 = .ok (.iaload, 1) := by decide +kernel
theorem dX9_partOf_13 : decode cX9_partOf 13 = .ok (.istore 5, 2) := by decide +kernel
theorem dX9_partOf_15 : decode cX9_partOf 15 = .ok (.iload_n 3, 1) := by decide +kernel
theorem dX9_partOf_16 : decode cX9_partOf 16 = .ok (.iload 4, 2) := by decide +kernel
theorem dX9_partOf_18 : decode cX9_partOf 18 = .ok (.if_icmp .eq 124, 3) := by decide +kernel
theorem dX9_partOf_21 : decode cX9_partOf 21 = .ok (.iload_n 3, 1) := by decide +kernel
theorem dX9_partOf_22 : decode cX9_partOf 22 = .ok (.istore 4, 2) := by decide +kernel
theorem dX9_partOf_24 : decode cX9_partOf 24 = .ok (.iconst 0, 1) := by decide +kernel
theorem dX9_partOf_25 : decode cX9_partOf 25 = .ok (.istore 6, 2) := by decide +kernel
theorem dX9_partOf_27 : decode cX9_partOf 27 = .ok (.iload 6, 2) := by decide +kernel
theorem dX9_partOf_29 : decode cX9_partOf 29 = .ok (.aload_n 0, 1) := by decide +kernel
theorem dX9_partOf_30 : decode cX9_partOf 30 = .ok (.invokevirtual 287, 3) := by decide +kernel
theorem dX9_partOf_33 : decode cX9_partOf 33 = .ok (.if_icmp .ge 106, 3) := by decide +kernel
theorem dX9_partOf_36 : decode cX9_partOf 36 = .ok (.iload_n 3, 1) := by decide +kernel
theorem dX9_partOf_37 : decode cX9_partOf 37 = .ok (.iload 6, 2) := by decide +kernel
theorem dX9_partOf_39 : decode cX9_partOf 39 = .ok (.invokestatic 290, 3) := by decide +kernel
theorem dX9_partOf_42 : decode cX9_partOf 42 = .ok (.ifCond .ne 6, 3) := by decide +kernel
theorem dX9_partOf_45 : decode cX9_partOf 45 = .ok (.goto 88, 3) := by decide +kernel
theorem dX9_partOf_48 : decode cX9_partOf 48 = .ok (.iload 6, 2) := by decide +kernel
theorem dX9_partOf_50 : decode cX9_partOf 50 = .ok (.iload 5, 2) := by decide +kernel
theorem dX9_partOf_52 : decode cX9_partOf 52 = .ok (.irem, 1) := by decide +kernel
theorem dX9_partOf_53 : decode cX9_partOf 53 = .ok (.ifCond .le 14, 3) := by decide +kernel
theorem dX9_partOf_56 : decode cX9_partOf 56 = .ok (.iload_n 3, 1) := by decide +kernel
theorem dX9_partOf_57 : decode cX9_partOf 57 = .ok (.iload_n 1, 1) := by decide +kernel
theorem dX9_partOf_58 : decode cX9_partOf 58 = .ok (.iconst 1, 1) := by decide +kernel
theorem dX9_partOf_59 : decode cX9_partOf 59 = .ok (.iload 6, 2) := by decide +kernel
theorem dX9_partOf_61 : decode cX9_partOf 61 = .ok (.iconst 1, 1) := by decide +kernel
theorem dX9_partOf_62 : decode cX9_partOf 62 = .ok (.isub, 1) := by decide +kernel
theorem dX9_partOf_63 : decode cX9_partOf 63 = .ok (.ishl, 1) := by decide +kernel
theorem dX9_partOf_64 : decode cX9_partOf 64 = .ok (.iand, 1) := by decide +kernel
theorem dX9_partOf_65 : decode cX9_partOf 65 = .ok (.ior, 1) := by decide +kernel
theorem dX9_partOf_66 : decode cX9_partOf 66 = .ok (.istore_n 3, 1) := by decide +kernel
theorem dX9_partOf_67 : decode cX9_partOf 67 = .ok (.iload 6, 2) := by decide +kernel
theorem dX9_partOf_69 : decode cX9_partOf 69 = .ok (.iload 5, 2) := by decide +kernel
theorem dX9_partOf_71 : decode cX9_partOf 71 = .ok (.irem, 1) := by decide +kernel
theorem dX9_partOf_72 : decode cX9_partOf 72 = .ok (.iload 5, 2) := by decide +kernel
theorem dX9_partOf_74 : decode cX9_partOf 74 = .ok (.iconst 1, 1) := by decide +kernel
theorem dX9_partOf_75 : decode cX9_partOf 75 = .ok (.isub, 1) := by decide +kernel
theorem dX9_partOf_76 : decode cX9_partOf 76 = .ok (.if_icmp .ge 14, 3) := by decide +kernel
theorem dX9_partOf_79 : decode cX9_partOf 79 = .ok (.iload_n 3, 1) := by decide +kernel
theorem dX9_partOf_80 : decode cX9_partOf 80 = .ok (.iload_n 1, 1) := by decide +kernel
theorem dX9_partOf_81 : decode cX9_partOf 81 = .ok (.iconst 1, 1) := by decide +kernel
theorem dX9_partOf_82 : decode cX9_partOf 82 = .ok (.iload 6, 2) := by decide +kernel
theorem dX9_partOf_84 : decode cX9_partOf 84 = .ok (.iconst 1, 1) := by decide +kernel
theorem dX9_partOf_85 : decode cX9_partOf 85 = .ok (.iadd, 1) := by decide +kernel
theorem dX9_partOf_86 : decode cX9_partOf 86 = .ok (.ishl, 1) := by decide +kernel
