theorem dX6_undo_14 : decode cX6_undo 14 = .ok (.iconst (-1), 1) := by decide +kernel
theorem dX6_undo_15 : decode cX6_undo 15 = .ok (.ireturn, 1) := by decide +kernel
theorem dX6_undo_16 : decode cX6_undo 16 = .ok (.aload_n 0, 1) := by decide +kernel
theorem dX6_undo_17 : decode cX6_undo 17 = .ok (.getfield 115, 3) := by decide +kernel
theorem dX6_undo_20 : decode cX6_undo 20 = .ok (.iload_n 1, 1) := by decide +kernel
theorem dX6_undo_21 : decode cX6_undo 21 = .ok (.isub, 1) := by decide +kernel
theorem dX6_undo_22 : decode cX6_undo 22 = .ok (.istore_n 2, 1) := by decide +kernel
theorem dX6_undo_23 : decode cX6_undo 23 = .ok (.iload_n 2, 1) := by decide +kernel
theorem dX6_undo_24 : decode cX6_undo 24 = .ok (.ifCond .le 21, 3) := by decide +kernel
theorem dX6_undo_27 : decode cX6_undo 27 = .ok (.aload_n 0, 1) := by decide +kernel
theorem dX6_undo_28 : decode cX6_undo 28 = .ok (.bipush 66, 2) := by decide +kernel
theorem dX6_undo_30 : decode cX6_undo 30 = .ok (.iload_n 1, 1) := by decide +kernel
theorem dX6_undo_31 : decode cX6_undo 31 = .ok (.iconst 1, 1) := by decide +kernel
theorem dX6_undo_32 : decode cX6_undo 32 = .ok (.iadd, 1) := by decide +kernel
theorem dX6_undo_33 : decode cX6_undo 33 = .ok (.imul, 1) := by decide +kernel
theorem dX6_undo_34 : decode cX6_undo 34 = .ok (.iconst 0, 1) := by decide +kernel
theorem dX6_undo_35 : decode cX6_undo 35 = .ok (.bipush 66, 2) := by decide +kernel
theorem dX6_undo_37 : decode cX6_undo 37 = .ok (.invokevirtual 111, 3) := by decide +kernel
theorem dX6_undo_40 : decode cX6_undo 40 = .ok (.aload_n 0, 1) := by decide +kernel
theorem dX6_undo_41 : decode cX6_undo 41 = .ok (.iload_n 1, 1) := by decide +kernel
theorem dX6_undo_42 : decode cX6_undo 42 = .ok (.putfield 115, 3) := by decide +kernel
theorem dX6_undo_45 : decode cX6_undo 45 = .ok (.iload_n 2, 1) := by decide +kernel
theorem dX6_undo_46 : decode cX6_undo 46 = .ok (.ireturn, 1) := by decide +kernel
theorem dX6_keep_0 : decode cX6_keep 0 = .ok (.iload_n 1, 1) := by decide +kernel
theorem dX6_keep_1 : decode cX6_keep 1 = .ok (.i2l, 1) := by decide +kernel
theorem dX6_keep_2 : decode cX6_keep 2 = .ok (.lconst 0, 1) := by decide +kernel
theorem dX6_keep_3 : decode cX6_keep 3 = .ok (.ldc2_w 226, 3) := by decide +kernel
theorem dX6_keep_6 : decode cX6_keep 6 = .ok (.invokestatic 63, 3) := by decide +kernel
theorem dX6_keep_9 : decode cX6_keep 9 = .ok (.ifCond .ne 5, 3) := by decide +kernel
theorem dX6_keep_12 : decode cX6_keep 12 = .ok (.iconst (-1), 1) := by decide +kernel
theorem dX6_keep_13 : decode cX6_keep 13 = .ok (.ireturn, 1) := by decide +kernel
theorem dX6_keep_14 : decode cX6_keep 14 = .ok (.aload_n 0, 1) := by decide +kernel
theorem dX6_keep_15 : decode cX6_keep 15 = .ok (.invokevirtual 228, 3) := by decide +kernel
theorem dX6_keep_18 : decode cX6_keep 18 = .ok (.ifCond .eq 6, 3) := by decide +kernel
theorem dX6_keep_21 : decode cX6_keep 21 = .ok (.bipush (-4), 2) := by decide +kernel
theorem dX6_keep_23 : decode cX6_keep 23 = .ok (.ireturn, 1) := by decide +kernel
theorem dX6_keep_24 : decode cX6_keep 24 = .ok (.aload_n 0, 1) := by decide +kernel
theorem dX6_keep_25 : decode cX6_keep 25 = .ok (.iconst 0, 1) := by decide +kernel
theorem dX6_keep_26 : decode cX6_keep 26 = .ok (.sipush 2706, 3) := by decide +kernel
theorem dX6_keep_29 : decode cX6_keep 29 = .ok (.iload_n 1, 1) := by decide +kernel
theorem dX6_keep_30 : decode cX6_keep 30 = .ok (.iconst 1, 1) := by decide +kernel
theorem dX6_keep_31 : decode cX6_keep 31 = .ok (.iadd, 1) := by decide +kernel
theorem dX6_keep_32 : decode cX6_keep 32 = .ok (.imul, 1) := by decide +kernel
theorem dX6_keep_33 : decode cX6_keep 33 = .ok (.sipush 2706, 3) := by decide +kernel
theorem dX6_keep_36 : decode cX6_keep 36 = .ok (.invokevirtual 111, 3) := by decide +kernel
theorem dX6_keep_39 : decode cX6_keep 39 = .ok (.aload_n 0, 1) := by decide +kernel
theorem dX6_keep_40 : decode cX6_keep 40 = .ok (.getfield 13, 3) := by decide +kernel
theorem dX6_keep_43 : decode cX6_keep 43 = .ok (.iload_n 1, 1) := by decide +kernel
theorem dX6_keep_44 : decode cX6_keep 44 = .ok (.aload_n 0, 1) := by decide +kernel
theorem dX6_keep_45 : decode cX6_keep 45 = .ok (.getfield 115, 3) := by decide +kernel
theorem dX6_keep_48 : decode cX6_keep 48 = .ok (.iastore, 1) := by decide +kernel
theorem dX6_keep_49 : decode cX6_keep 49 = .ok (.aload_n 0, 1) := by decide +kernel
theorem dX6_keep_50 : decode cX6_keep 50 = .ok (.getfield 115, 3) := by decide +kernel
theorem dX6_keep_53 : decode cX6_keep 53 = .ok (.ireturn, 1) := by decide +kernel
theorem dX6_on_0 : decode cX6_on 0 = .ok (.iload_n 1, 1) := by decide +kernel
theorem dX6_on_1 : decode cX6_on 1 = .ok (.i2l, 1) := by decide +kernel
theorem dX6_on_2 : decode cX6_on 2 = .ok (.lconst 0, 1) := by decide +kernel
theorem dX6_on_3 : decode cX6_on 3 = .ok (.ldc2_w 226, 3) := by decide +kernel
theorem dX6_on_6 : decode cX6_on 6 = .ok (.invokestatic 63, 3) := by decide +kernel
theorem dX6_on_9 : decode cX6_on 9 = .ok (.ifCond .ne 5, 3) := by decide +kernel
theorem dX6_on_12 : decode cX6_on 12 = .ok (.iconst (-1), 1) := by decide +kernel
theorem dX6_on_13 : decode cX6_on 13 = .ok (.ireturn, 1) := by decide +kernel
theorem dX6_on_14 : decode cX6_on 14 = .ok (.aload_n 0, 1) := by decide +kernel
theorem dX6_on_15 : decode cX6_on 15 = .ok (.getfield 13, 3) := by decide +kernel
theorem dX6_on_18 : decode cX6_on 18 = .ok (.iload_n 1, 1) := by decide +kernel
theorem dX6_on_19 : decode cX6_on 19 = .ok (.iaload, 1) := by decide +kernel
theorem dX6_on_20 : decode cX6_on 20 = .ok (.ifCond .ge 9, 3) := by decide +kernel
theorem dX6_on_23 : decode cX6_on 23 = .ok (.aload_n 0, 1) := by decide +kernel
theorem dX6_on_24 : decode cX6_on 24 = .ok (.iconst 1, 1) := by decide +kernel
theorem dX6_on_25 : decode cX6_on 25 = .ok (.invokevirtual 73, 3) := by decide +kernel
theorem dX6_on_28 : decode cX6_on 28 = .ok (.ireturn, 1) := by decide +kernel
theorem dX6_on_29 : decode cX6_on 29 = .ok (.aload_n 0, 1) := by decide +kernel
theorem dX6_on_30 : decode cX6_on 30 = .ok (.sipush 2706, 3) := by decide +kernel
theorem dX6_on_33 : decode cX6_on 33 = .ok (.iload_n 1, 1) := by decide +kernel
theorem dX6_on_34 : decode cX6_on 34 = .ok (.iconst 1, 1) := by decide +kernel
theorem dX6_on_35 : decode cX6_on 35 = .ok (.iadd, 1) := by decide +kernel
theorem dX6_on_36 : decode cX6_on 36 = .ok (.imul, 1) := by decide +kernel
theorem dX6_on_37 : decode cX6_on 37 = .ok (.iconst 0, 1) := by decide +kernel
theorem dX6_on_38 : decode cX6_on 38 = .ok (.sipush 2706, 3) := by decide +kernel
theorem dX6_on_41 : decode cX6_on 41 = .ok (.invokevirtual 111, 3) := by decide +kernel
theorem dX6_on_44 : decode cX6_on 44 = .ok (.aload_n 0, 1) := by decide +kernel
theorem dX6_on_45 : decode cX6_on 45 = .ok (.aload_n 0, 1) := by decide +kernel
theorem dX6_on_46 : decode cX6_on 46 = .ok (.getfield 13, 3) := by decide +kernel
theorem dX6_on_49 : decode cX6_on 49 = .ok (.iload_n 1, 1) := by decide +kernel
theorem dX6_on_50 : decode cX6_on 50 = .ok (.iaload, 1) := by decide +kernel
theorem dX6_on_51 : decode cX6_on 51 = .ok (.putfield 115, 3) := by decide +kernel
theorem dX6_on_54 : decode cX6_on 54 = .ok (.aload_n 0, 1) := by decide +kernel
theorem dX6_on_55 : decode cX6_on 55 = .ok (.getfield 115, 3) := by decide +kernel
theorem dX6_on_58 : decode cX6_on 58 = .ok (.ireturn, 1) := by decide +kernel
theorem dX6_shades_0 : decode cX6_shades 0 = .ok (.aload_n 0, 1) := by decide +kernel
theorem dX6_shades_1 : decode cX6_shades 1 = .ok (.iload_n 1, 1) := by decide +kernel
theorem dX6_shades_2 : decode cX6_shades 2 = .ok (.iload_n 2, 1) := by decide +kernel
theorem dX6_shades_3 : decode cX6_shades 3 = .ok (.invokevirtual 193, 3) := by decide +kernel
theorem dX6_shades_6 : decode cX6_shades 6 = .ok (.ifCond .eq 15, 3) := by decide +kernel
theorem dX6_shades_9 : decode cX6_shades 9 = .ok (.iload_n 3, 1) := by decide +kernel
theorem dX6_shades_10 : decode cX6_shades 10 = .ok (.i2l, 1) := by decide +kernel
theorem dX6_shades_11 : decode cX6_shades 11 = .ok (.lconst 0, 1) := by decide +kernel
theorem dX6_shades_12 : decode cX6_shades 12 = .ok (.ldc2_w 232, 3) := by decide +kernel
theorem dX6_shades_15 : decode cX6_shades 15 = .ok (.invokestatic 63, 3) := by decide +kernel
theorem dX6_shades_18 : decode cX6_shades 18 = .ok (.ifCond .ne 5, 3) := by decide +kernel
theorem dX6_shades_21 : decode cX6_shades 21 = .ok (.iconst (-1), 1) := by decide +kernel
theorem dX6_shades_22 : decode cX6_shades 22 = .ok (.ireturn, 1) := by decide +kernel
theorem dX6_shades_23 : decode cX6_shades 23 = .ok (.aload_n 0, 1) := by decide +kernel
theorem dX6_shades_24 : decode cX6_shades 24 = .ok (.iload_n 1, 1) := by decide +kernel
theorem dX6_shades_25 : decode cX6_shades 25 = .ok (.iload_n 2, 1) := by decide +kernel
theorem dX6_shades_26 : decode cX6_shades 26 = .ok (.invokevirtual 151, 3) := by decide +kernel
theorem dX6_shades_29 : decode cX6_shades 29 = .ok (.ifCond .eq 13, 3) := by decide +kernel
theorem dX6_shades_32 : decode cX6_shades 32 = .ok (.aload_n 0, 1) := by decide +kernel
theorem dX6_shades_33 : decode cX6_shades 33 = .ok (.iload_n 1, 1) := by decide +kernel
theorem dX6_shades_34 : decode cX6_shades 34 = .ok (.iload_n 2, 1) := by decide +kernel
theorem dX6_shades_35 : decode cX6_shades 35 = .ok (.iload_n 3, 1) := by decide +kernel
theorem dX6_shades_36 : decode cX6_shades 36 = .ok (.invokevirtual 155, 3) := by decide +kernel
theorem dX6_shades_39 : decode cX6_shades 39 = .ok (.goto 8, 3) := by decide +kernel
theorem dX6_shades_42 : decode cX6_shades 42 = .ok (.aload_n 0, 1) := by decide +kernel
theorem dX6_shades_43 : decode cX6_shades 43 = .ok (.iconst 2, 1) := by decide +kernel
theorem dX6_shades_44 : decode cX6_shades 44 = .ok (.invokevirtual 73, 3) := by decide +kernel
theorem dX6_shades_47 : decode cX6_shades 47 = .ok (.ireturn, 1) := by decide +kernel
theorem dX6_sees_0 : decode cX6_sees 0 = .ok (.aload_n 0, 1) := by decide +kernel
theorem dX6_sees_1 : decode cX6_sees 1 = .ok (.iload_n 1, 1) := by decide +kernel
theorem dX6_sees_2 : decode cX6_sees 2 = .ok (.iload_n 2, 1) := by decide +kernel
theorem dX6_sees_3 : decode cX6_sees 3 = .ok (.invokevirtual 193, 3) := by decide +kernel
theorem dX6_sees_6 : decode cX6_sees 6 = .ok (.ifCond .ne 5, 3) := by decide +kernel
theorem dX6_sees_9 : decode cX6_sees 9 = .ok (.iconst (-1), 1) := by decide +kernel
theorem dX6_sees_10 : decode cX6_sees 10 = .ok (.ireturn, 1) := by decide +kernel
theorem dX6_sees_11 : decode cX6_sees 11 = .ok (.aload_n 0, 1) := by decide +kernel
theorem dX6_sees_12 : decode cX6_sees 12 = .ok (.iload_n 1, 1) := by decide +kernel
theorem dX6_sees_13 : decode cX6_sees 13 = .ok (.iload_n 2, 1) := by decide +kernel
theorem dX6_sees_14 : decode cX6_sees 14 = .ok (.invokevirtual 151, 3) := by decide +kernel
theorem dX6_sees_17 : decode cX6_sees 17 = .ok (.ifCond .eq 22, 3) := by decide +kernel
theorem dX6_sees_20 : decode cX6_sees 20 = .ok (.aload_n 0, 1) := by decide +kernel
theorem dX6_sees_21 : decode cX6_sees 21 = .ok (.aload_n 0, 1) := by decide +kernel
theorem dX6_sees_22 : decode cX6_sees 22 = .ok (.iload_n 1, 1) := by decide +kernel
theorem dX6_sees_23 : decode cX6_sees 23 = .ok (.iload_n 2, 1) := by decide +kernel
theorem dX6_sees_24 : decode cX6_sees 24 = .ok (.invokevirtual 165, 3) := by decide +kernel
theorem dX6_sees_27 : decode cX6_sees 27 = .ok (.aload_n 0, 1) := by decide +kernel
theorem dX6_sees_28 : decode cX6_sees 28 = .ok (.iload_n 1, 1) := by decide +kernel
theorem dX6_sees_29 : decode cX6_sees 29 = .ok (.iload_n 2, 1) := by decide +kernel
theorem dX6_sees_30 : decode cX6_sees 30 = .ok (.invokevirtual 159, 3) := by decide +kernel
theorem dX6_sees_33 : decode cX6_sees 33 = .ok (.invokevirtual 81, 3) := by decide +kernel
theorem dX6_sees_36 : decode cX6_sees 36 = .ok (.goto 8, 3) := by decide +kernel
theorem dX6_sees_39 : decode cX6_sees 39 = .ok (.aload_n 0, 1) := by decide +kernel
theorem dX6_sees_40 : decode cX6_sees 40 = .ok (.iconst 2, 1) := by decide +kernel
theorem dX6_sees_41 : decode cX6_sees 41 = .ok (.invokevirtual 73, 3) := by decide +kernel
theorem dX6_sees_44 : decode cX6_sees 44 = .ok (.ireturn, 1) := by decide +kernel
theorem dX6_isHouse_0 : decode cX6_isHouse 0 = .ok (.iload_n 1, 1) := by decide +kernel
theorem dX6_isHouse_1 : decode cX6_isHouse 1 = .ok (.i2l, 1) := by decide +kernel
theorem dX6_isHouse_2 : decode cX6_isHouse 2 = .ok (.lconst 0, 1) := by decide +kernel
theorem dX6_isHouse_3 : decode cX6_isHouse 3 = .ok (.aload_n 0, 1) := by decide +kernel
theorem dX6_isHouse_4 : decode cX6_isHouse 4 = .ok (.invokevirtual 177, 3) := by decide +kernel
theorem dX6_isHouse_7 : decode cX6_isHouse 7 = .ok (.iconst 1, 1) := by decide +kernel
theorem dX6_isHouse_8 : decode cX6_isHouse 8 = .ok (.isub, 1) := by decide +kernel
theorem dX6_isHouse_9 : decode cX6_isHouse 9 = .ok (.i2l, 1) := by decide +kernel
theorem dX6_isHouse_10 : decode cX6_isHouse 10 = .ok (.invokestatic 63, 3) := by decide +kernel
theorem dX6_isHouse_13 : decode cX6_isHouse 13 = .ok (.ireturn, 1) := by decide +kernel
theorem dX6_owes_0 : decode cX6_owes 0 = .ok (.aload_n 0, 1) := by decide +kernel
theorem dX6_owes_1 : decode cX6_owes 1 = .ok (.iload_n 1, 1) := by decide +kernel
theorem dX6_owes_2 : decode cX6_owes 2 = .ok (.invokevirtual 234, 3) := by decide +kernel
theorem dX6_owes_5 : decode cX6_owes 5 = .ok (.ifCond .eq 16, 3) := by decide +kernel
theorem dX6_owes_8 : decode cX6_owes 8 = .ok (.aload_n 0, 1) := by decide +kernel
theorem dX6_owes_9 : decode cX6_owes 9 = .ok (.iload_n 2, 1) := by decide +kernel
theorem dX6_owes_10 : decode cX6_owes 10 = .ok (.invokevirtual 234, 3) := by decide +kernel
theorem dX6_owes_13 : decode cX6_owes 13 = .ok (.ifCond .eq 8, 3) := by decide +kernel
theorem dX6_owes_16 : decode cX6_owes 16 = .ok (.iload_n 1, 1) := by decide +kernel
theorem dX6_owes_17 : decode cX6_owes 17 = .ok (.iload_n 2, 1) := by decide +kernel
theorem dX6_owes_18 : decode cX6_owes 18 = .ok (.if_icmp .ne 5, 3) := by decide +kernel
theorem dX6_owes_21 : decode cX6_owes 21 = .ok (.iconst (-1), 1) := by decide +kernel
theorem dX6_owes_22 : decode cX6_owes 22 = .ok (.ireturn, 1) := by decide +kernel
theorem dX6_owes_23 : decode cX6_owes 23 = .ok (.aload_n 0, 1) := by decide +kernel
theorem dX6_owes_24 : decode cX6_owes 24 = .ok (.invokevirtual 184, 3) := by decide +kernel
theorem dX6_owes_27 : decode cX6_owes 27 = .ok (.aload_n 0, 1) := by decide +kernel
theorem dX6_owes_28 : decode cX6_owes 28 = .ok (.getfield 38, 3) := by decide +kernel
theorem dX6_owes_31 : decode cX6_owes 31 = .ok (.bipush 12, 2) := by decide +kernel
theorem dX6_owes_33 : decode cX6_owes 33 = .ok (.iload_n 1, 1) := by decide +kernel
theorem dX6_owes_34 : decode cX6_owes 34 = .ok (.imul, 1) := by decide +kernel
theorem dX6_owes_35 : decode cX6_owes 35 = .ok (.iload_n 2, 1) := by decide +kernel
theorem dX6_owes_36 : decode cX6_owes 36 = .ok (.iadd, 1) := by decide +kernel
theorem dX6_owes_37 : decode cX6_owes 37 = .ok (.iaload, 1) := by decide +kernel
theorem dX6_owes_38 : decode cX6_owes 38 = .ok (.ireturn, 1) := by decide +kernel
theorem dX6_debt_0 : decode cX6_debt 0 = .ok (.aload_n 0, 1) := by decide +kernel
theorem dX6_debt_1 : decode cX6_debt 1 = .ok (.iload_n 1, 1) := by decide +kernel
theorem dX6_debt_2 : decode cX6_debt 2 = .ok (.invokevirtual 234, 3) := by decide +kernel
theorem dX6_debt_5 : decode cX6_debt 5 = .ok (.ifCond .ne 5, 3) := by decide +kernel
theorem dX6_debt_8 : decode cX6_debt 8 = .ok (.iconst (-1), 1) := by decide +kernel
theorem dX6_debt_9 : decode cX6_debt 9 = .ok (.ireturn, 1) := by decide +kernel
theorem dX6_debt_10 : decode cX6_debt 10 = .ok (.aload_n 0, 1) := by decide +kernel
theorem dX6_debt_11 : decode cX6_debt 11 = .ok (.invokevirtual 184, 3) := by decide +kernel
theorem dX6_debt_14 : decode cX6_debt 14 = .ok (.aload_n 0, 1) := by decide +kernel
theorem dX6_debt_15 : decode cX6_debt 15 = .ok (.aload_n 0, 1) := by decide +kernel
theorem dX6_debt_16 : decode cX6_debt 16 = .ok (.iload_n 1, 1) := by decide +kernel
theorem dX6_debt_17 : decode cX6_debt 17 = .ok (.invokevirtual 187, 3) := by decide +kernel
theorem dX6_debt_20 : decode cX6_debt 20 = .ok (.aload_n 0, 1) := by decide +kernel
theorem dX6_debt_21 : decode cX6_debt 21 = .ok (.iload_n 1, 1) := by decide +kernel
theorem dX6_debt_22 : decode cX6_debt 22 = .ok (.invokevirtual 190, 3) := by decide +kernel
theorem dX6_debt_25 : decode cX6_debt 25 = .ok (.isub, 1) := by decide +kernel
theorem dX6_debt_26 : decode cX6_debt 26 = .ok (.iconst 1, 1) := by decide +kernel
theorem dX6_debt_27 : decode cX6_debt 27 = .ok (.invokevirtual 81, 3) := by decide +kernel
theorem dX6_debt_30 : decode cX6_debt 30 = .ok (.ireturn, 1) := by decide +kernel
theorem dX6_light_0 : decode cX6_light 0 = .ok (.aload_n 0, 1) := by decide +kernel
theorem dX6_light_1 : decode cX6_light 1 = .ok (.aload_n 0, 1) := by decide +kernel
theorem dX6_light_2 : decode cX6_light 2 = .ok (.invokevirtual 237, 3) := by decide +kernel
theorem dX6_light_5 : decode cX6_light 5 = .ok (.aload_n 0, 1) := by decide +kernel
theorem dX6_light_6 : decode cX6_light 6 = .ok (.invokevirtual 240, 3) := by decide +kernel
theorem dX6_light_9 : decode cX6_light 9 = .ok (.invokevirtual 81, 3) := by decide +kernel
theorem dX6_light_12 : decode cX6_light 12 = .ok (.ireturn, 1) := by decide +kernel
theorem dX6_ruined_0 : decode cX6_ruined 0 = .ok (.bipush (-9), 2) := by decide +kernel
theorem dX6_ruined_2 : decode cX6_ruined 2 = .ok (.istore_n 1, 1) := by decide +kernel
theorem dX6_ruined_3 : decode cX6_ruined 3 = .ok (.iconst (-1), 1) := by decide +kernel
theorem dX6_ruined_4 : decode cX6_ruined 4 = .ok (.istore_n 2, 1) := by decide +kernel
theorem dX6_ruined_5 : decode cX6_ruined 5 = .ok (.aload_n 0, 1) := by decide +kernel
theorem dX6_ruined_6 : decode cX6_ruined 6 = .ok (.invokevirtual 184, 3) := by decide +kernel
theorem dX6_ruined_9 : decode cX6_ruined 9 = .ok (.iconst 0, 1) := by decide +kernel
theorem dX6_ruined_10 : decode cX6_ruined 10 = .ok (.istore_n 3, 1) := by decide +kernel
theorem dX6_ruined_11 : decode cX6_ruined 11 = .ok (.iload_n 3, 1) := by decide +kernel
theorem dX6_ruined_12 : decode cX6_ruined 12 = .ok (.aload_n 0, 1) := by decide +kernel
theorem dX6_ruined_13 : decode cX6_ruined 13 = .ok (.invokevirtual 177, 3) := by decide +kernel
theorem dX6_ruined_16 : decode cX6_ruined 16 = .ok (.if_icmp .ge 41, 3) := by decide +kernel
theorem dX6_ruined_19 : decode cX6_ruined 19 = .ok (.aload_n 0, 1) := by decide +kernel
theorem dX6_ruined_20 : decode cX6_ruined 20 = .ok (.iload_n 3, 1) := by decide +kernel
theorem dX6_ruined_21 : decode cX6_ruined 21 = .ok (.invokevirtual 187, 3) := by decide +kernel
theorem dX6_ruined_24 : decode cX6_ruined 24 = .ok (.istore 4, 2) := by decide +kernel
theorem dX6_ruined_26 : decode cX6_ruined 26 = .ok (.iload 4, 2) := by decide +kernel
theorem dX6_ruined_28 : decode cX6_ruined 28 = .ok (.iload_n 2, 1) := by decide +kernel
theorem dX6_ruined_29 : decode cX6_ruined 29 = .ok (.if_icmp .le 7, 3) := by decide +kernel
theorem dX6_ruined_32 : decode cX6_ruined 32 = .ok (.iload_n 3, 1) := by decide +kernel
theorem dX6_ruined_33 : decode cX6_ruined 33 = .ok (.goto 4, 3) := by decide +kernel
theorem dX6_ruined_36 : decode cX6_ruined 36 = .ok (.iload_n 1, 1) := by decide +kernel
theorem dX6_ruined_37 : decode cX6_ruined 37 = .ok (.istore_n 1, 1) := by decide +kernel
theorem dX6_ruined_38 : decode cX6_ruined 38 = .ok (.iload 4, 2) := by decide +kernel
theorem dX6_ruined_40 : decode cX6_ruined 40 = .ok (.iload_n 2, 1) := by decide +kernel
theorem dX6_ruined_41 : decode cX6_ruined 41 = .ok (.if_icmp .le 8, 3) := by decide +kernel
theorem dX6_ruined_44 : decode cX6_ruined 44 = .ok (.iload 4, 2) := by decide +kernel
theorem dX6_ruined_46 : decode cX6_ruined 46 = .ok (.goto 4, 3) := by decide +kernel
theorem dX6_ruined_49 : decode cX6_ruined 49 = .ok (.iload_n 2, 1) := by decide +kernel
theorem dX6_ruined_50 : decode cX6_ruined 50 = .ok (.istore_n 2, 1) := by decide +kernel
theorem dX6_ruined_51 : decode cX6_ruined 51 = .ok (.iinc 3 1, 3) := by decide +kernel
theorem dX6_ruined_54 : decode cX6_ruined 54 = .ok (.goto (-43), 3) := by decide +kernel
theorem dX6_ruined_57 : decode cX6_ruined 57 = .ok (.iload_n 1, 1) := by decide +kernel
theorem dX6_ruined_58 : decode cX6_ruined 58 = .ok (.bipush (-9), 2) := by decide +kernel
theorem dX6_ruined_60 : decode cX6_ruined 60 = .ok (.if_icmp .ne 8, 3) := by decide +kernel
theorem dX6_ruined_63 : decode cX6_ruined 63 = .ok (.bipush (-9), 2) := by decide +kernel
theorem dX6_ruined_65 : decode cX6_ruined 65 = .ok (.goto 9, 3) := by decide +kernel
theorem dX6_ruined_68 : decode cX6_ruined 68 = .ok (.aload_n 0, 1) := by decide +kernel
theorem dX6_ruined_69 : decode cX6_ruined 69 = .ok (.iload_n 2, 1) := by decide +kernel
theorem dX6_ruined_70 : decode cX6_ruined 70 = .ok (.iload_n 1, 1) := by decide +kernel
theorem dX6_ruined_71 : decode cX6_ruined 71 = .ok (.invokevirtual 81, 3) := by decide +kernel
theorem dX6_ruined_74 : decode cX6_ruined 74 = .ok (.ireturn, 1) := by decide +kernel
theorem dX6_firstOf_0 : decode cX6_firstOf 0 = .ok (.iconst 0, 1) := by decide +kernel
theorem dX6_firstOf_1 : decode cX6_firstOf 1 = .ok (.istore_n 2, 1) := by decide +kernel
theorem dX6_firstOf_2 : decode cX6_firstOf 2 = .ok (.iload_n 1, 1) := by decide +kernel
theorem dX6_firstOf_3 : decode cX6_firstOf 3 = .ok (.iload_n 2, 1) := by decide +kernel
theorem dX6_firstOf_4 : decode cX6_firstOf 4 = .ok (.invokestatic 243, 3) := by decide +kernel
theorem dX6_firstOf_7 : decode cX6_firstOf 7 = .ok (.ifCond .ne 9, 3) := by decide +kernel
theorem dX6_firstOf_10 : decode cX6_firstOf 10 = .ok (.iinc 2 1, 3) := by decide +kernel
theorem dX6_firstOf_13 : decode cX6_firstOf 13 = .ok (.goto (-11), 3) := by decide +kernel
theorem dX6_firstOf_16 : decode cX6_firstOf 16 = .ok (.iload_n 2, 1) := by decide +kernel
theorem dX6_firstOf_17 : decode cX6_firstOf 17 = .ok (.ireturn, 1) := by decide +kernel
theorem dX6_sways_0 : decode cX6_sways 0 = .ok (.aload_n 0, 1) := by decide +kernel
theorem dX6_sways_1 : decode cX6_sways 1 = .ok (.invokevirtual 246, 3) := by decide +kernel
theorem dX6_sways_4 : decode cX6_sways 4 = .ok (.istore_n 1, 1) := by decide +kernel
theorem dX6_sways_5 : decode cX6_sways 5 = .ok (.iload_n 1, 1) := by decide +kernel
theorem dX6_sways_6 : decode cX6_sways 6 = .ok (.ifCond .ne 13, 3) := by decide +kernel
theorem dX6_sways_9 : decode cX6_sways 9 = .ok (.aload_n 0, 1) := by decide +kernel
theorem dX6_sways_10 : decode cX6_sways 10 = .ok (.iconst 0, 1) := by decide +kernel
theorem dX6_sways_11 : decode cX6_sways 11 = .ok (.bipush (-9), 2) := by decide +kernel
theorem dX6_sways_13 : decode cX6_sways 13 = .ok (.invokevirtual 81, 3) := by decide +kernel
theorem dX6_sways_16 : decode cX6_sways 16 = .ok (.goto 16, 3) := by decide +kernel
theorem dX6_sways_19 : decode cX6_sways 19 = .ok (.aload_n 0, 1) := by decide +kernel
theorem dX6_sways_20 : decode cX6_sways 20 = .ok (.iload_n 1, 1) := by decide +kernel
theorem dX6_sways_21 : decode cX6_sways 21 = .ok (.invokestatic 162, 3) := by decide +kernel
theorem dX6_sways_24 : decode cX6_sways 24 = .ok (.aload_n 0, 1) := by decide +kernel
theorem dX6_sways_25 : decode cX6_sways 25 = .ok (.iload_n 1, 1) := by decide +kernel
theorem dX6_sways_26 : decode cX6_sways 26 = .ok (.invokevirtual 249, 3) := by decide +kernel
theorem dX6_sways_29 : decode cX6_sways 29 = .ok (.invokevirtual 81, 3) := by decide +kernel
theorem dX6_sways_32 : decode cX6_sways 32 = .ok (.ireturn, 1) := by decide +kernel
theorem dX6_lays_0 : decode cX6_lays 0 = .ok (.aload_n 0, 1) := by decide +kernel
theorem dX6_lays_1 : decode cX6_lays 1 = .ok (.iconst 0, 1) := by decide +kernel
theorem dX6_lays_2 : decode cX6_lays 2 = .ok (.sipush 10890, 3) := by decide +kernel
theorem dX6_lays_5 : decode cX6_lays 5 = .ok (.bipush 66, 2) := by decide +kernel
theorem dX6_lays_7 : decode cX6_lays 7 = .ok (.invokevirtual 111, 3) := by decide +kernel
theorem dX6_lays_10 : decode cX6_lays 10 = .ok (.return_, 1) := by decide +kernel
theorem dX6_putsBack_0 : decode cX6_putsBack 0 = .ok (.aload_n 0, 1) := by decide +kernel
theorem dX6_putsBack_1 : decode cX6_putsBack 1 = .ok (.sipush 10890, 3) := by decide +kernel
theorem dX6_putsBack_4 : decode cX6_putsBack 4 = .ok (.iconst 0, 1) := by decide +kernel
theorem dX6_putsBack_5 : decode cX6_putsBack 5 = .ok (.bipush 66, 2) := by decide +kernel
theorem dX6_putsBack_7 : decode cX6_putsBack 7 = .ok (.invokevirtual 111, 3) := by decide +kernel
theorem dX6_putsBack_10 : decode cX6_putsBack 10 = .ok (.return_, 1) := by decide +kernel
theorem dX6_isKind_0 : decode cX6_isKind 0 = .ok (.iload_n 0, 1) := by decide +kernel
theorem dX6_isKind_1 : decode cX6_isKind 1 = .ok (.i2l, 1) := by decide +kernel
theorem dX6_isKind_2 : decode cX6_isKind 2 = .ok (.lconst 0, 1) := by decide +kernel
theorem dX6_isKind_3 : decode cX6_isKind 3 = .ok (.ldc2_w 61, 3) := by decide +kernel
theorem dX6_isKind_6 : decode cX6_isKind 6 = .ok (.invokestatic 63, 3) := by decide +kernel
theorem dX6_isKind_9 : decode cX6_isKind 9 = .ok (.ireturn, 1) := by decide +kernel
theorem dX6_best_0 : decode cX6_best 0 = .ok (.iload_n 1, 1) := by decide +kernel
theorem dX6_best_1 : decode cX6_best 1 = .ok (.invokestatic 252, 3) := by decide +kernel
theorem dX6_best_4 : decode cX6_best 4 = .ok (.ifCond .eq 15, 3) := by decide +kernel
theorem dX6_best_7 : decode cX6_best 7 = .ok (.iload_n 2, 1) := by decide +kernel
theorem dX6_best_8 : decode cX6_best 8 = .ok (.i2l, 1) := by decide +kernel
theorem dX6_best_9 : decode cX6_best 9 = .ok (.lconst 0, 1) := by decide +kernel
theorem dX6_best_10 : decode cX6_best 10 = .ok (.ldc2_w 214, 3) := by decide +kernel
theorem dX6_best_13 : decode cX6_best 13 = .ok (.invokestatic 63, 3) := by decide +kernel
theorem dX6_best_16 : decode cX6_best 16 = .ok (.ifCond .ne 5, 3) := by decide +kernel
theorem dX6_best_19 : decode cX6_best 19 = .ok (.iconst (-1), 1) := by decide +kernel
theorem dX6_best_20 : decode cX6_best 20 = .ok (.ireturn, 1) := by decide +kernel
theorem dX6_best_21 : decode cX6_best 21 = .ok (.aload_n 0, 1) := by decide +kernel
theorem dX6_best_22 : decode cX6_best 22 = .ok (.invokevirtual 228, 3) := by decide +kernel
theorem dX6_best_25 : decode cX6_best 25 = .ok (.ifCond .eq 6, 3) := by decide +kernel
theorem dX6_best_28 : decode cX6_best 28 = .ok (.bipush (-4), 2) := by decide +kernel
theorem dX6_best_30 : decode cX6_best 30 = .ok (.ireturn, 1) := by decide +kernel
theorem dX6_best_31 : decode cX6_best 31 = .ok (.bipush (-9), 2) := by decide +kernel
theorem dX6_best_33 : decode cX6_best 33 = .ok (.istore_n 3, 1) := by decide +kernel
theorem dX6_best_34 : decode cX6_best 34 = .ok (.ldc 255, 2) := by decide +kernel
theorem dX6_best_36 : decode cX6_best 36 = .ok (.istore 4, 2) := by decide +kernel
theorem dX6_best_38 : decode cX6_best 38 = .ok (.aload_n 0, 1) := by decide +kernel
theorem dX6_best_39 : decode cX6_best 39 = .ok (.invokevirtual 256, 3) := by decide +kernel
theorem dX6_best_42 : decode cX6_best 42 = .ok (.iconst 0, 1) := by decide +kernel
theorem dX6_best_43 : decode cX6_best 43 = .ok (.istore 5, 2) := by decide +kernel
theorem dX6_best_45 : decode cX6_best 45 = .ok (.iload 5, 2) := by decide +kernel
theorem dX6_best_47 : decode cX6_best 47 = .ok (.aload_n 0, 1) := by decide +kernel
theorem dX6_best_48 : decode cX6_best 48 = .ok (.getfield 7, 3) := by decide +kernel
theorem dX6_best_51 : decode cX6_best 51 = .ok (.iconst 0, 1) := by decide +kernel
theorem dX6_best_52 : decode cX6_best 52 = .ok (.iaload, 1) := by decide +kernel
theorem dX6_best_53 : decode cX6_best 53 = .ok (.if_icmp .ge 79, 3) := by decide +kernel
theorem dX6_best_56 : decode cX6_best 56 = .ok (.aload_n 0, 1) := by decide +kernel
theorem dX6_best_57 : decode cX6_best 57 = .ok (.iload 5, 2) := by decide +kernel
theorem dX6_best_59 : decode cX6_best 59 = .ok (.invokevirtual 216, 3) := by decide +kernel
theorem dX6_best_62 : decode cX6_best 62 = .ok (.ifCond .eq 64, 3) := by decide +kernel
theorem dX6_best_65 : decode cX6_best 65 = .ok (.aload_n 0, 1) := by decide +kernel
theorem dX6_best_66 : decode cX6_best 66 = .ok (.iconst 0, 1) := by decide +kernel
theorem dX6_best_67 : decode cX6_best 67 = .ok (.iload 5, 2) := by decide +kernel
theorem dX6_best_69 : decode cX6_best 69 = .ok (.iload_n 1, 1) := by decide +kernel
theorem dX6_best_70 : decode cX6_best 70 = .ok (.iload_n 2, 1) := by decide +kernel
theorem dX6_best_71 : decode cX6_best 71 = .ok (.invokevirtual 104, 3) := by decide +kernel
theorem dX6_best_74 : decode cX6_best 74 = .ok (.aload_n 0, 1) := by decide +kernel
theorem dX6_best_75 : decode cX6_best 75 = .ok (.invokevirtual 246, 3) := by decide +kernel
theorem dX6_best_78 : decode cX6_best 78 = .ok (.ifCond .ne 10, 3) := by decide +kernel
theorem dX6_best_81 : decode cX6_best 81 = .ok (.aload_n 0, 1) := by decide +kernel
theorem dX6_best_82 : decode cX6_best 82 = .ok (.invokevirtual 237, 3) := by decide +kernel
theorem dX6_best_85 : decode cX6_best 85 = .ok (.goto 5, 3) := by decide +kernel
theorem dX6_best_88 : decode cX6_best 88 = .ok (.ldc 255, 2) := by decide +kernel
theorem dX6_best_90 : decode cX6_best 90 = .ok (.istore 6, 2) := by decide +kernel
theorem dX6_best_92 : decode cX6_best 92 = .ok (.iload 6, 2) := by decide +kernel
theorem dX6_best_94 : decode cX6_best 94 = .ok (.iload 4, 2) := by decide +kernel
theorem dX6_best_96 : decode cX6_best 96 = .ok (.if_icmp .ge 8, 3) := by decide +kernel
theorem dX6_best_99 : decode cX6_best 99 = .ok (.iload 5, 2) := by decide +kernel
theorem dX6_best_101 : decode cX6_best 101 = .ok (.goto 4, 3) := by decide +kernel
theorem dX6_best_104 : decode cX6_best 104 = .ok (.iload_n 3, 1) := by decide +kernel
theorem dX6_best_105 : decode cX6_best 105 = .ok (.istore_n 3, 1) := by decide +kernel
theorem dX6_best_106 : decode cX6_best 106 = .ok (.iload 6, 2) := by decide +kernel
theorem dX6_best_108 : decode cX6_best 108 = .ok (.iload 4, 2) := by decide +kernel
theorem dX6_best_110 : decode cX6_best 110 = .ok (.if_icmp .ge 8, 3) := by decide +kernel
theorem dX6_best_113 : decode cX6_best 113 = .ok (.iload 6, 2) := by decide +kernel
theorem dX6_best_115 : decode cX6_best 115 = .ok (.goto 5, 3) := by decide +kernel
theorem dX6_best_118 : decode cX6_best 118 = .ok (.iload 4, 2) := by decide +kernel
theorem dX6_best_120 : decode cX6_best 120 = .ok (.istore 4, 2) := by decide +kernel
theorem dX6_best_122 : decode cX6_best 122 = .ok (.aload_n 0, 1) := by decide +kernel
theorem dX6_best_123 : decode cX6_best 123 = .ok (.invokevirtual 259, 3) := by decide +kernel
theorem dX6_best_126 : decode cX6_best 126 = .ok (.iinc 5 1, 3) := by decide +kernel
theorem dX6_best_129 : decode cX6_best 129 = .ok (.goto (-84), 3) := by decide +kernel
theorem dX6_best_132 : decode cX6_best 132 = .ok (.iload_n 3, 1) := by decide +kernel
theorem dX6_best_133 : decode cX6_best 133 = .ok (.bipush (-9), 2) := by decide +kernel
theorem dX6_best_135 : decode cX6_best 135 = .ok (.if_icmp .ne 8, 3) := by decide +kernel
theorem dX6_best_138 : decode cX6_best 138 = .ok (.bipush (-9), 2) := by decide +kernel
theorem dX6_best_140 : decode cX6_best 140 = .ok (.goto 10, 3) := by decide +kernel
theorem dX6_best_143 : decode cX6_best 143 = .ok (.aload_n 0, 1) := by decide +kernel
theorem dX6_best_144 : decode cX6_best 144 = .ok (.iload 4, 2) := by decide +kernel
theorem dX6_best_146 : decode cX6_best 146 = .ok (.iload_n 3, 1) := by decide +kernel
theorem dX6_best_147 : decode cX6_best 147 = .ok (.invokevirtual 81, 3) := by decide +kernel
theorem dX6_best_150 : decode cX6_best 150 = .ok (.ireturn, 1) := by decide +kernel
theorem dX6_both_0 : decode cX6_both 0 = .ok (.iload_n 1, 1) := by decide +kernel
theorem dX6_both_1 : decode cX6_both 1 = .ok (.invokestatic 252, 3) := by decide +kernel
theorem dX6_both_4 : decode cX6_both 4 = .ok (.ifCond .eq 22, 3) := by decide +kernel
theorem dX6_both_7 : decode cX6_both 7 = .ok (.iload_n 2, 1) := by decide +kernel
theorem dX6_both_8 : decode cX6_both 8 = .ok (.invokestatic 252, 3) := by decide +kernel
theorem dX6_both_11 : decode cX6_both 11 = .ok (.ifCond .eq 15, 3) := by decide +kernel
theorem dX6_both_14 : decode cX6_both 14 = .ok (.iload_n 3, 1) := by decide +kernel
theorem dX6_both_15 : decode cX6_both 15 = .ok (.i2l, 1) := by decide +kernel
theorem dX6_both_16 : decode cX6_both 16 = .ok (.lconst 0, 1) := by decide +kernel
theorem dX6_both_17 : decode cX6_both 17 = .ok (.ldc2_w 214, 3) := by decide +kernel
theorem dX6_both_20 : decode cX6_both 20 = .ok (.invokestatic 63, 3) := by decide +kernel
theorem dX6_both_23 : decode cX6_both 23 = .ok (.ifCond .ne 5, 3) := by decide +kernel
theorem dX6_both_26 : decode cX6_both 26 = .ok (.iconst (-1), 1) := by decide +kernel
theorem dX6_both_27 : decode cX6_both 27 = .ok (.ireturn, 1) := by decide +kernel
theorem dX6_both_28 : decode cX6_both 28 = .ok (.aload_n 0, 1) := by decide +kernel
theorem dX6_both_29 : decode cX6_both 29 = .ok (.invokevirtual 228, 3) := by decide +kernel
theorem dX6_both_32 : decode cX6_both 32 = .ok (.ifCond .eq 6, 3) := by decide +kernel
theorem dX6_both_35 : decode cX6_both 35 = .ok (.bipush (-4), 2) := by decide +kernel
theorem dX6_both_37 : decode cX6_both 37 = .ok (.ireturn, 1) := by decide +kernel
theorem dX6_both_38 : decode cX6_both 38 = .ok (.bipush (-9), 2) := by decide +kernel
theorem dX6_both_40 : decode cX6_both 40 = .ok (.istore 4, 2) := by decide +kernel
theorem dX6_both_42 : decode cX6_both 42 = .ok (.ldc 255, 2) := by decide +kernel
theorem dX6_both_44 : decode cX6_both 44 = .ok (.istore 5, 2) := by decide +kernel
theorem dX6_both_46 : decode cX6_both 46 = .ok (.aload_n 0, 1) := by decide +kernel
theorem dX6_both_47 : decode cX6_both 47 = .ok (.invokevirtual 256, 3) := by decide +kernel
theorem dX6_both_50 : decode cX6_both 50 = .ok (.iconst 0, 1) := by decide +kernel
theorem dX6_both_51 : decode cX6_both 51 = .ok (.istore 6, 2) := by decide +kernel
theorem dX6_both_53 : decode cX6_both 53 = .ok (.iload 6, 2) := by decide +kernel
theorem dX6_both_55 : decode cX6_both 55 = .ok (.aload_n 0, 1) := by decide +kernel
theorem dX6_both_56 : decode cX6_both 56 = .ok (.getfield 7, 3) := by decide +kernel
theorem dX6_both_59 : decode cX6_both 59 = .ok (.iconst 0, 1) := by decide +kernel
theorem dX6_both_60 : decode cX6_both 60 = .ok (.iaload, 1) := by decide +kernel
theorem dX6_both_61 : decode cX6_both 61 = .ok (.aload_n 0, 1) := by decide +kernel
theorem dX6_both_62 : decode cX6_both 62 = .ok (.getfield 7, 3) := by decide +kernel
theorem dX6_both_65 : decode cX6_both 65 = .ok (.iconst 0, 1) := by decide +kernel
theorem dX6_both_66 : decode cX6_both 66 = .ok (.iaload, 1) := by decide +kernel
theorem dX6_both_67 : decode cX6_both 67 = .ok (.imul, 1) := by decide +kernel
theorem dX6_both_68 : decode cX6_both 68 = .ok (.if_icmp .ge 127, 3) := by decide +kernel
theorem dX6_both_71 : decode cX6_both 71 = .ok (.iload 6, 2) := by decide +kernel
theorem dX6_both_73 : decode cX6_both 73 = .ok (.aload_n 0, 1) := by decide +kernel
theorem dX6_both_74 : decode cX6_both 74 = .ok (.getfield 7, 3) := by decide +kernel
theorem dX6_both_77 : decode cX6_both 77 = .ok (.iconst 0, 1) := by decide +kernel
theorem dX6_both_78 : decode cX6_both 78 = .ok (.iaload, 1) := by decide +kernel
theorem dX6_both_79 : decode cX6_both 79 = .ok (.idiv, 1) := by decide +kernel
theorem dX6_both_80 : decode cX6_both 80 = .ok (.istore 7, 2) := by decide +kernel
theorem dX6_both_82 : decode cX6_both 82 = .ok (.iload 6, 2) := by decide +kernel
theorem dX6_both_84 : decode cX6_both 84 = .ok (.aload_n 0, 1) := by decide +kernel
theorem dX6_both_85 : decode cX6_both 85 = .ok (.getfield 7, 3) := by decide +kernel
theorem dX6_both_88 : decode cX6_both 88 = .ok (.iconst 0, 1) := by decide +kernel
theorem dX6_both_89 : decode cX6_both 89 = .ok (.iaload, 1) := by decide +kernel
theorem dX6_both_90 : decode cX6_both 90 = .ok (.irem, 1) := by decide +kernel
theorem dX6_both_91 : decode cX6_both 91 = .ok (.istore 8, 2) := by decide +kernel
theorem dX6_both_93 : decode cX6_both 93 = .ok (.aload_n 0, 1) := by decide +kernel
theorem dX6_both_94 : decode cX6_both 94 = .ok (.iload 7, 2) := by decide +kernel
theorem dX6_both_96 : decode cX6_both 96 = .ok (.invokevirtual 216, 3) := by decide +kernel
theorem dX6_both_99 : decode cX6_both 99 = .ok (.ifCond .eq 90, 3) := by decide +kernel
theorem dX6_both_102 : decode cX6_both 102 = .ok (.aload_n 0, 1) := by decide +kernel
theorem dX6_both_103 : decode cX6_both 103 = .ok (.iconst 0, 1) := by decide +kernel
theorem dX6_both_104 : decode cX6_both 104 = .ok (.iload 7, 2) := by decide +kernel
theorem dX6_both_106 : decode cX6_both 106 = .ok (.iload_n 1, 1) := by decide +kernel
theorem dX6_both_107 : decode cX6_both 107 = .ok (.iload_n 3, 1) := by decide +kernel
theorem dX6_both_108 : decode cX6_both 108 = .ok (.invokevirtual 104, 3) := by decide +kernel
theorem dX6_both_111 : decode cX6_both 111 = .ok (.aload_n 0, 1) := by decide +kernel
theorem dX6_both_112 : decode cX6_both 112 = .ok (.iload 8, 2) := by decide +kernel
theorem dX6_both_114 : decode cX6_both 114 = .ok (.invokevirtual 216, 3) := by decide +kernel
theorem dX6_both_117 : decode cX6_both 117 = .ok (.ifCond .eq 68, 3) := by decide +kernel
theorem dX6_both_120 : decode cX6_both 120 = .ok (.aload_n 0, 1) := by decide +kernel
theorem dX6_both_121 : decode cX6_both 121 = .ok (.iconst 0, 1) := by decide +kernel
theorem dX6_both_122 : decode cX6_both 122 = .ok (.iload 8, 2) := by decide +kernel
theorem dX6_both_124 : decode cX6_both 124 = .ok (.iload_n 2, 1) := by decide +kernel
theorem dX6_both_125 : decode cX6_both 125 = .ok (.iload_n 3, 1) := by decide +kernel
theorem dX6_both_126 : decode cX6_both 126 = .ok (.invokevirtual 104, 3) := by decide +kernel
theorem dX6_both_129 : decode cX6_both 129 = .ok (.aload_n 0, 1) := by decide +kernel
theorem dX6_both_130 : decode cX6_both 130 = .ok (.invokevirtual 246, 3) := by decide +kernel
theorem dX6_both_133 : decode cX6_both 133 = .ok (.ifCond .ne 10, 3) := by decide +kernel
theorem dX6_both_136 : decode cX6_both 136 = .ok (.aload_n 0, 1) := by decide +kernel
theorem dX6_both_137 : decode cX6_both 137 = .ok (.invokevirtual 237, 3) := by decide +kernel
theorem dX6_both_140 : decode cX6_both 140 = .ok (.goto 5, 3) := by decide +kernel
theorem dX6_both_143 : decode cX6_both 143 = .ok (.ldc 255, 2) := by decide +kernel
theorem dX6_both_145 : decode cX6_both 145 = .ok (.istore 9, 2) := by decide +kernel
theorem dX6_both_147 : decode cX6_both 147 = .ok (.iload 9, 2) := by decide +kernel
theorem dX6_both_149 : decode cX6_both 149 = .ok (.iload 5, 2) := by decide +kernel
theorem dX6_both_151 : decode cX6_both 151 = .ok (.if_icmp .ge 14, 3) := by decide +kernel
theorem dX6_both_154 : decode cX6_both 154 = .ok (.bipush 10, 2) := by decide +kernel
theorem dX6_both_156 : decode cX6_both 156 = .ok (.iload 7, 2) := by decide +kernel
theorem dX6_both_158 : decode cX6_both 158 = .ok (.imul, 1) := by decide +kernel
theorem dX6_both_159 : decode cX6_both 159 = .ok (.iload 8, 2) := by decide +kernel
theorem dX6_both_161 : decode cX6_both 161 = .ok (.iadd, 1) := by decide +kernel
theorem dX6_both_162 : decode cX6_both 162 = .ok (.goto 5, 3) := by decide +kernel
theorem dX6_both_165 : decode cX6_both 165 = .ok (.iload 4, 2) := by decide +kernel
theorem dX6_both_167 : decode cX6_both 167 = .ok (.istore 4, 2) := by decide +kernel
theorem dX6_both_169 : decode cX6_both 169 = .ok (.iload 9, 2) := by decide +kernel
theorem dX6_both_171 : decode cX6_both 171 = .ok (.iload 5, 2) := by decide +kernel
theorem dX6_both_173 : decode cX6_both 173 = .ok (.if_icmp .ge 8, 3) := by decide +kernel
theorem dX6_both_176 : decode cX6_both 176 = .ok (.iload 9, 2) := by decide +kernel
theorem dX6_both_178 : decode cX6_both 178 = .ok (.goto 5, 3) := by decide +kernel
theorem dX6_both_181 : decode cX6_both 181 = .ok (.iload 5, 2) := by decide +kernel
theorem dX6_both_183 : decode cX6_both 183 = .ok (.istore 5, 2) := by decide +kernel
theorem dX6_both_185 : decode cX6_both 185 = .ok (.aload_n 0, 1) := by decide +kernel
theorem dX6_both_186 : decode cX6_both 186 = .ok (.invokevirtual 259, 3) := by decide +kernel
theorem dX6_both_189 : decode cX6_both 189 = .ok (.iinc 6 1, 3) := by decide +kernel
theorem dX6_both_192 : decode cX6_both 192 = .ok (.goto (-139), 3) := by decide +kernel
theorem dX6_both_195 : decode cX6_both 195 = .ok (.iload 4, 2) := by decide +kernel
theorem dX6_both_197 : decode cX6_both 197 = .ok (.bipush (-9), 2) := by decide +kernel
theorem dX6_both_199 : decode cX6_both 199 = .ok (.if_icmp .ne 8, 3) := by decide +kernel
theorem dX6_both_202 : decode cX6_both 202 = .ok (.bipush (-9), 2) := by decide +kernel
theorem dX6_both_204 : decode cX6_both 204 = .ok (.goto 11, 3) := by decide +kernel
theorem dX6_both_207 : decode cX6_both 207 = .ok (.aload_n 0, 1) := by decide +kernel
theorem dX6_both_208 : decode cX6_both 208 = .ok (.iload 5, 2) := by decide +kernel
theorem dX6_both_210 : decode cX6_both 210 = .ok (.iload 4, 2) := by decide +kernel
theorem dX6_both_212 : decode cX6_both 212 = .ok (.invokevirtual 81, 3) := by decide +kernel
theorem dX6_both_215 : decode cX6_both 215 = .ok (.ireturn, 1) := by decide +kernel
theorem dX6_leaveAll_0 : decode cX6_leaveAll 0 = .ok (.bipush 11, 2) := by decide +kernel
theorem dX6_leaveAll_2 : decode cX6_leaveAll 2 = .ok (.istore_n 2, 1) := by decide +kernel
theorem dX6_leaveAll_3 : decode cX6_leaveAll 3 = .ok (.iload_n 2, 1) := by decide +kernel
theorem dX6_leaveAll_4 : decode cX6_leaveAll 4 = .ok (.ifCond .lt 31, 3) := by decide +kernel
theorem dX6_leaveAll_7 : decode cX6_leaveAll 7 = .ok (.iload_n 1, 1) := by decide +kernel
theorem dX6_leaveAll_8 : decode cX6_leaveAll 8 = .ok (.iload_n 2, 1) := by decide +kernel
theorem dX6_leaveAll_9 : decode cX6_leaveAll 9 = .ok (.invokestatic 243, 3) := by decide +kernel
theorem dX6_leaveAll_12 : decode cX6_leaveAll 12 = .ok (.ifCond .eq 17, 3) := by decide +kernel
theorem dX6_leaveAll_15 : decode cX6_leaveAll 15 = .ok (.aload_n 0, 1) := by decide +kernel
theorem dX6_leaveAll_16 : decode cX6_leaveAll 16 = .ok (.aload_n 0, 1) := by decide +kernel
theorem dX6_leaveAll_17 : decode cX6_leaveAll 17 = .ok (.iload_n 2, 1) := by decide +kernel
theorem dX6_leaveAll_18 : decode cX6_leaveAll 18 = .ok (.invokevirtual 121, 3) := by decide +kernel
theorem dX6_leaveAll_21 : decode cX6_leaveAll 21 = .ok (.aload_n 0, 1) := by decide +kernel
theorem dX6_leaveAll_22 : decode cX6_leaveAll 22 = .ok (.iload_n 2, 1) := by decide +kernel
theorem dX6_leaveAll_23 : decode cX6_leaveAll 23 = .ok (.invokevirtual 171, 3) := by decide +kernel
theorem dX6_leaveAll_26 : decode cX6_leaveAll 26 = .ok (.invokevirtual 222, 3) := by decide +kernel
theorem dX6_leaveAll_29 : decode cX6_leaveAll 29 = .ok (.iinc 2 (-1), 3) := by decide +kernel
theorem dX6_leaveAll_32 : decode cX6_leaveAll 32 = .ok (.goto (-29), 3) := by decide +kernel
theorem dX6_leaveAll_35 : decode cX6_leaveAll 35 = .ok (.return_, 1) := by decide +kernel
theorem dX6_fewest_0 : decode cX6_fewest 0 = .ok (.iconst (-1), 1) := by decide +kernel
theorem dX6_fewest_1 : decode cX6_fewest 1 = .ok (.istore_n 1, 1) := by decide +kernel
theorem dX6_fewest_2 : decode cX6_fewest 2 = .ok (.iconst 1, 1) := by decide +kernel
theorem dX6_fewest_3 : decode cX6_fewest 3 = .ok (.aload_n 0, 1) := by decide +kernel
theorem dX6_fewest_4 : decode cX6_fewest 4 = .ok (.invokevirtual 177, 3) := by decide +kernel
theorem dX6_fewest_7 : decode cX6_fewest 7 = .ok (.ishl, 1) := by decide +kernel
theorem dX6_fewest_8 : decode cX6_fewest 8 = .ok (.istore_n 2, 1) := by decide +kernel
theorem dX6_fewest_9 : decode cX6_fewest 9 = .ok (.aload_n 0, 1) := by decide +kernel
theorem dX6_fewest_10 : decode cX6_fewest 10 = .ok (.invokevirtual 256, 3) := by decide +kernel
theorem dX6_fewest_13 : decode cX6_fewest 13 = .ok (.iconst 0, 1) := by decide +kernel
theorem dX6_fewest_14 : decode cX6_fewest 14 = .ok (.istore_n 3, 1) := by decide +kernel
theorem dX6_fewest_15 : decode cX6_fewest 15 = .ok (.iload_n 3, 1) := by decide +kernel
theorem dX6_fewest_16 : decode cX6_fewest 16 = .ok (.iload_n 2, 1) := by decide +kernel
theorem dX6_fewest_17 : decode cX6_fewest 17 = .ok (.if_icmp .ge 54, 3) := by decide +kernel
theorem dX6_fewest_20 : decode cX6_fewest 20 = .ok (.iload_n 3, 1) := by decide +kernel
theorem dX6_fewest_21 : decode cX6_fewest 21 = .ok (.invokestatic 162, 3) := by decide +kernel
theorem dX6_fewest_24 : decode cX6_fewest 24 = .ok (.iconst 4, 1) := by decide +kernel
theorem dX6_fewest_25 : decode cX6_fewest 25 = .ok (.if_icmp .ge 40, 3) := by decide +kernel
theorem dX6_fewest_28 : decode cX6_fewest 28 = .ok (.iload_n 1, 1) := by decide +kernel
theorem dX6_fewest_29 : decode cX6_fewest 29 = .ok (.ifCond .lt 14, 3) := by decide +kernel
theorem dX6_fewest_32 : decode cX6_fewest 32 = .ok (.iload_n 3, 1) := by decide +kernel
theorem dX6_fewest_33 : decode cX6_fewest 33 = .ok (.invokestatic 162, 3) := by decide +kernel
theorem dX6_fewest_36 : decode cX6_fewest 36 = .ok (.iload_n 1, 1) := by decide +kernel
theorem dX6_fewest_37 : decode cX6_fewest 37 = .ok (.invokestatic 162, 3) := by decide +kernel
theorem dX6_fewest_40 : decode cX6_fewest 40 = .ok (.if_icmp .ge 25, 3) := by decide +kernel
theorem dX6_fewest_43 : decode cX6_fewest 43 = .ok (.aload_n 0, 1) := by decide +kernel
theorem dX6_fewest_44 : decode cX6_fewest 44 = .ok (.iload_n 3, 1) := by decide +kernel
theorem dX6_fewest_45 : decode cX6_fewest 45 = .ok (.invokevirtual 262, 3) := by decide +kernel
theorem dX6_fewest_48 : decode cX6_fewest 48 = .ok (.aload_n 0, 1) := by decide +kernel
theorem dX6_fewest_49 : decode cX6_fewest 49 = .ok (.invokevirtual 246, 3) := by decide +kernel
theorem dX6_fewest_52 : decode cX6_fewest 52 = .ok (.ifCond .ne 7, 3) := by decide +kernel
theorem dX6_fewest_55 : decode cX6_fewest 55 = .ok (.iload_n 3, 1) := by decide +kernel
theorem dX6_fewest_56 : decode cX6_fewest 56 = .ok (.goto 4, 3) := by decide +kernel
theorem dX6_fewest_59 : decode cX6_fewest 59 = .ok (.iload_n 1, 1) := by decide +kernel
theorem dX6_fewest_60 : decode cX6_fewest 60 = .ok (.istore_n 1, 1) := by decide +kernel
theorem dX6_fewest_61 : decode cX6_fewest 61 = .ok (.aload_n 0, 1) := by decide +kernel
theorem dX6_fewest_62 : decode cX6_fewest 62 = .ok (.invokevirtual 259, 3) := by decide +kernel
theorem dX6_fewest_65 : decode cX6_fewest 65 = .ok (.iinc 3 1, 3) := by decide +kernel
theorem dX6_fewest_68 : decode cX6_fewest 68 = .ok (.goto (-53), 3) := by decide +kernel
theorem dX6_fewest_71 : decode cX6_fewest 71 = .ok (.iload_n 1, 1) := by decide +kernel
theorem dX6_fewest_72 : decode cX6_fewest 72 = .ok (.ifCond .ge 8, 3) := by decide +kernel
theorem dX6_fewest_75 : decode cX6_fewest 75 = .ok (.bipush (-9), 2) := by decide +kernel
theorem dX6_fewest_77 : decode cX6_fewest 77 = .ok (.goto 12, 3) := by decide +kernel
theorem dX6_fewest_80 : decode cX6_fewest 80 = .ok (.aload_n 0, 1) := by decide +kernel
theorem dX6_fewest_81 : decode cX6_fewest 81 = .ok (.iload_n 1, 1) := by decide +kernel
theorem dX6_fewest_82 : decode cX6_fewest 82 = .ok (.iload_n 1, 1) := by decide +kernel
theorem dX6_fewest_83 : decode cX6_fewest 83 = .ok (.invokestatic 162, 3) := by decide +kernel
theorem dX6_fewest_86 : decode cX6_fewest 86 = .ok (.invokevirtual 81, 3) := by decide +kernel
theorem dX6_fewest_89 : decode cX6_fewest 89 = .ok (.ireturn, 1) := by decide +kernel
theorem dX6_relief_0 : decode cX6_relief 0 = .ok (.aload_n 0, 1) := by decide +kernel
theorem dX6_relief_1 : decode cX6_relief 1 = .ok (.invokevirtual 177, 3) := by decide +kernel
theorem dX6_relief_4 : decode cX6_relief 4 = .ok (.istore_n 1, 1) := by decide +kernel
theorem dX6_relief_5 : decode cX6_relief 5 = .ok (.bipush (-9), 2) := by decide +kernel
theorem dX6_relief_7 : decode cX6_relief 7 = .ok (.istore_n 2, 1) := by decide +kernel
theorem dX6_relief_8 : decode cX6_relief 8 = .ok (.ldc_w 266, 3) := by decide +kernel
theorem dX6_relief_11 : decode cX6_relief 11 = .ok (.istore_n 3, 1) := by decide +kernel
theorem dX6_relief_12 : decode cX6_relief 12 = .ok (.aload_n 0, 1) := by decide +kernel
theorem dX6_relief_13 : decode cX6_relief 13 = .ok (.invokevirtual 256, 3) := by decide +kernel
theorem dX6_relief_16 : decode cX6_relief 16 = .ok (.iconst 0, 1) := by decide +kernel
theorem dX6_relief_17 : decode cX6_relief 17 = .ok (.istore 4, 2) := by decide +kernel
theorem dX6_relief_19 : decode cX6_relief 19 = .ok (.iload 4, 2) := by decide +kernel
theorem dX6_relief_21 : decode cX6_relief 21 = .ok (.iload_n 1, 1) := by decide +kernel
theorem dX6_relief_22 : decode cX6_relief 22 = .ok (.if_icmp .ge 77, 3) := by decide +kernel
theorem dX6_relief_25 : decode cX6_relief 25 = .ok (.aload_n 0, 1) := by decide +kernel
theorem dX6_relief_26 : decode cX6_relief 26 = .ok (.invokevirtual 240, 3) := by decide +kernel
theorem dX6_relief_29 : decode cX6_relief 29 = .ok (.aload_n 0, 1) := by decide +kernel
theorem dX6_relief_30 : decode cX6_relief 30 = .ok (.iload 4, 2) := by decide +kernel
theorem dX6_relief_32 : decode cX6_relief 32 = .ok (.invokevirtual 181, 3) := by decide +kernel
theorem dX6_relief_35 : decode cX6_relief 35 = .ok (.isub, 1) := by decide +kernel
theorem dX6_relief_36 : decode cX6_relief 36 = .ok (.istore 5, 2) := by decide +kernel
theorem dX6_relief_38 : decode cX6_relief 38 = .ok (.aload_n 0, 1) := by decide +kernel
theorem dX6_relief_39 : decode cX6_relief 39 = .ok (.aload_n 0, 1) := by decide +kernel
theorem dX6_relief_40 : decode cX6_relief 40 = .ok (.iload 4, 2) := by decide +kernel
theorem dX6_relief_42 : decode cX6_relief 42 = .ok (.invokevirtual 121, 3) := by decide +kernel
theorem dX6_relief_45 : decode cX6_relief 45 = .ok (.aload_n 0, 1) := by decide +kernel
theorem dX6_relief_46 : decode cX6_relief 46 = .ok (.iload 4, 2) := by decide +kernel
theorem dX6_relief_48 : decode cX6_relief 48 = .ok (.invokevirtual 171, 3) := by decide +kernel
theorem dX6_relief_51 : decode cX6_relief 51 = .ok (.invokevirtual 222, 3) := by decide +kernel
theorem dX6_relief_54 : decode cX6_relief 54 = .ok (.aload_n 0, 1) := by decide +kernel
theorem dX6_relief_55 : decode cX6_relief 55 = .ok (.invokevirtual 240, 3) := by decide +kernel
theorem dX6_relief_58 : decode cX6_relief 58 = .ok (.iload 5, 2) := by decide +kernel
theorem dX6_relief_60 : decode cX6_relief 60 = .ok (.isub, 1) := by decide +kernel
theorem dX6_relief_61 : decode cX6_relief 61 = .ok (.istore 6, 2) := by decide +kernel
theorem dX6_relief_63 : decode cX6_relief 63 = .ok (.iload 6, 2) := by decide +kernel
theorem dX6_relief_65 : decode cX6_relief 65 = .ok (.iload_n 3, 1) := by decide +kernel
theorem dX6_relief_66 : decode cX6_relief 66 = .ok (.if_icmp .le 8, 3) := by decide +kernel
theorem dX6_relief_69 : decode cX6_relief 69 = .ok (.iload 4, 2) := by decide +kernel
theorem dX6_relief_71 : decode cX6_relief 71 = .ok (.goto 4, 3) := by decide +kernel
theorem dX6_relief_74 : decode cX6_relief 74 = .ok (.iload_n 2, 1) := by decide +kernel
theorem dX6_relief_75 : decode cX6_relief 75 = .ok (.istore_n 2, 1) := by decide +kernel
theorem dX6_relief_76 : decode cX6_relief 76 = .ok (.iload 6, 2) := by decide +kernel
theorem dX6_relief_78 : decode cX6_relief 78 = .ok (.iload_n 3, 1) := by decide +kernel
theorem dX6_relief_79 : decode cX6_relief 79 = .ok (.if_icmp .le 8, 3) := by decide +kernel
theorem dX6_relief_82 : decode cX6_relief 82 = .ok (.iload 6, 2) := by decide +kernel
theorem dX6_relief_84 : decode cX6_relief 84 = .ok (.goto 4, 3) := by decide +kernel
theorem dX6_relief_87 : decode cX6_relief 87 = .ok (.iload_n 3, 1) := by decide +kernel
theorem dX6_relief_88 : decode cX6_relief 88 = .ok (.istore_n 3, 1) := by decide +kernel
theorem dX6_relief_89 : decode cX6_relief 89 = .ok (.aload_n 0, 1) := by decide +kernel
theorem dX6_relief_90 : decode cX6_relief 90 = .ok (.invokevirtual 259, 3) := by decide +kernel
theorem dX6_relief_93 : decode cX6_relief 93 = .ok (.iinc 4 1, 3) := by decide +kernel
theorem dX6_relief_96 : decode cX6_relief 96 = .ok (.goto (-77), 3) := by decide +kernel
theorem dX6_relief_99 : decode cX6_relief 99 = .ok (.iload_n 2, 1) := by decide +kernel
theorem dX6_relief_100 : decode cX6_relief 100 = .ok (.bipush (-9), 2) := by decide +kernel
theorem dX6_relief_102 : decode cX6_relief 102 = .ok (.if_icmp .ne 8, 3) := by decide +kernel
theorem dX6_relief_105 : decode cX6_relief 105 = .ok (.bipush (-9), 2) := by decide +kernel
theorem dX6_relief_107 : decode cX6_relief 107 = .ok (.goto 9, 3) := by decide +kernel
theorem dX6_relief_110 : decode cX6_relief 110 = .ok (.aload_n 0, 1) := by decide +kernel
theorem dX6_relief_111 : decode cX6_relief 111 = .ok (.iload_n 3, 1) := by decide +kernel
theorem dX6_relief_112 : decode cX6_relief 112 = .ok (.iload_n 2, 1) := by decide +kernel
theorem dX6_relief_113 : decode cX6_relief 113 = .ok (.invokevirtual 81, 3) := by decide +kernel
theorem dX6_relief_116 : decode cX6_relief 116 = .ok (.ireturn, 1) := by decide +kernel
theorem dX6_high_0 : decode cX6_high 0 = .ok (.aload_n 0, 1) := by decide +kernel
theorem dX6_high_1 : decode cX6_high 1 = .ok (.iload_n 1, 1) := by decide +kernel
theorem dX6_high_2 : decode cX6_high 2 = .ok (.invokevirtual 118, 3) := by decide +kernel
theorem dX6_high_5 : decode cX6_high 5 = .ok (.ifCond .eq 15, 3) := by decide +kernel
theorem dX6_high_8 : decode cX6_high 8 = .ok (.iload_n 2, 1) := by decide +kernel
theorem dX6_high_9 : decode cX6_high 9 = .ok (.i2l, 1) := by decide +kernel
theorem dX6_high_10 : decode cX6_high 10 = .ok (.lconst 0, 1) := by decide +kernel
theorem dX6_high_11 : decode cX6_high 11 = .ok (.ldc2_w 214, 3) := by decide +kernel
theorem dX6_high_14 : decode cX6_high 14 = .ok (.invokestatic 63, 3) := by decide +kernel
theorem dX6_high_17 : decode cX6_high 17 = .ok (.ifCond .ne 5, 3) := by decide +kernel
theorem dX6_high_20 : decode cX6_high 20 = .ok (.iconst (-1), 1) := by decide +kernel
theorem dX6_high_21 : decode cX6_high 21 = .ok (.ireturn, 1) := by decide +kernel
theorem dX6_high_22 : decode cX6_high 22 = .ok (.aload_n 0, 1) := by decide +kernel
theorem dX6_high_23 : decode cX6_high 23 = .ok (.invokevirtual 256, 3) := by decide +kernel
theorem dX6_high_26 : decode cX6_high 26 = .ok (.iconst 0, 1) := by decide +kernel
theorem dX6_high_27 : decode cX6_high 27 = .ok (.istore_n 3, 1) := by decide +kernel
theorem dX6_high_28 : decode cX6_high 28 = .ok (.iconst 1, 1) := by decide +kernel
theorem dX6_high_29 : decode cX6_high 29 = .ok (.istore 4, 2) := by decide +kernel
theorem dX6_high_31 : decode cX6_high 31 = .ok (.iload 4, 2) := by decide +kernel
theorem dX6_high_33 : decode cX6_high 33 = .ok (.ifCond .eq 49, 3) := by decide +kernel
theorem dX6_high_36 : decode cX6_high 36 = .ok (.aload_n 0, 1) := by decide +kernel
theorem dX6_high_37 : decode cX6_high 37 = .ok (.iload_n 1, 1) := by decide +kernel
theorem dX6_high_38 : decode cX6_high 38 = .ok (.invokevirtual 216, 3) := by decide +kernel
theorem dX6_high_41 : decode cX6_high 41 = .ok (.ifCond .eq 41, 3) := by decide +kernel
theorem dX6_high_44 : decode cX6_high 44 = .ok (.aload_n 0, 1) := by decide +kernel
theorem dX6_high_45 : decode cX6_high 45 = .ok (.iconst 0, 1) := by decide +kernel
theorem dX6_high_46 : decode cX6_high 46 = .ok (.iload_n 1, 1) := by decide +kernel
theorem dX6_high_47 : decode cX6_high 47 = .ok (.iconst 0, 1) := by decide +kernel
theorem dX6_high_48 : decode cX6_high 48 = .ok (.iload_n 2, 1) := by decide +kernel
theorem dX6_high_49 : decode cX6_high 49 = .ok (.invokevirtual 104, 3) := by decide +kernel
theorem dX6_high_52 : decode cX6_high 52 = .ok (.aload_n 0, 1) := by decide +kernel
theorem dX6_high_53 : decode cX6_high 53 = .ok (.invokevirtual 246, 3) := by decide +kernel
theorem dX6_high_56 : decode cX6_high 56 = .ok (.ifCond .ne 7, 3) := by decide +kernel
theorem dX6_high_59 : decode cX6_high 59 = .ok (.iconst 1, 1) := by decide +kernel
theorem dX6_high_60 : decode cX6_high 60 = .ok (.goto 4, 3) := by decide +kernel
theorem dX6_high_63 : decode cX6_high 63 = .ok (.iconst 0, 1) := by decide +kernel
theorem dX6_high_64 : decode cX6_high 64 = .ok (.istore 4, 2) := by decide +kernel
theorem dX6_high_66 : decode cX6_high 66 = .ok (.iload_n 3, 1) := by decide +kernel
theorem dX6_high_67 : decode cX6_high 67 = .ok (.iload 4, 2) := by decide +kernel
theorem dX6_high_69 : decode cX6_high 69 = .ok (.ifCond .eq 7, 3) := by decide +kernel
theorem dX6_high_72 : decode cX6_high 72 = .ok (.iconst 1, 1) := by decide +kernel
theorem dX6_high_73 : decode cX6_high 73 = .ok (.goto 4, 3) := by decide +kernel
theorem dX6_high_76 : decode cX6_high 76 = .ok (.iconst 0, 1) := by decide +kernel
theorem dX6_high_77 : decode cX6_high 77 = .ok (.iadd, 1) := by decide +kernel
theorem dX6_high_78 : decode cX6_high 78 = .ok (.istore_n 3, 1) := by decide +kernel
theorem dX6_high_79 : decode cX6_high 79 = .ok (.goto (-48), 3) := by decide +kernel
theorem dX6_high_82 : decode cX6_high 82 = .ok (.aload_n 0, 1) := by decide +kernel
theorem dX6_high_83 : decode cX6_high 83 = .ok (.invokevirtual 259, 3) := by decide +kernel
theorem dX6_high_86 : decode cX6_high 86 = .ok (.iload_n 3, 1) := by decide +kernel
theorem dX6_high_87 : decode cX6_high 87 = .ok (.ireturn, 1) := by decide +kernel
theorem dX6_settle_0 : decode cX6_settle 0 = .ok (.aload_n 0, 1) := by decide +kernel
theorem dX6_settle_1 : decode cX6_settle 1 = .ok (.invokevirtual 184, 3) := by decide +kernel
theorem dX6_settle_4 : decode cX6_settle 4 = .ok (.aload_n 0, 1) := by decide +kernel
theorem dX6_settle_5 : decode cX6_settle 5 = .ok (.invokevirtual 177, 3) := by decide +kernel
theorem dX6_settle_8 : decode cX6_settle 8 = .ok (.istore_n 1, 1) := by decide +kernel
theorem dX6_settle_9 : decode cX6_settle 9 = .ok (.iconst 0, 1) := by decide +kernel
theorem dX6_settle_10 : decode cX6_settle 10 = .ok (.istore_n 2, 1) := by decide +kernel
theorem dX6_settle_11 : decode cX6_settle 11 = .ok (.iload_n 2, 1) := by decide +kernel
theorem dX6_settle_12 : decode cX6_settle 12 = .ok (.iconst 1, 1) := by decide +kernel
theorem dX6_settle_13 : decode cX6_settle 13 = .ok (.iload_n 1, 1) := by decide +kernel
theorem dX6_settle_14 : decode cX6_settle 14 = .ok (.ishl, 1) := by decide +kernel
theorem dX6_settle_15 : decode cX6_settle 15 = .ok (.if_icmp .ge 143, 3) := by decide +kernel
theorem dX6_settle_18 : decode cX6_settle 18 = .ok (.aload_n 0, 1) := by decide +kernel
theorem dX6_settle_19 : decode cX6_settle 19 = .ok (.getfield 41, 3) := by decide +kernel
theorem dX6_settle_22 : decode cX6_settle 22 = .ok (.iload_n 2, 1) := by decide +kernel
theorem dX6_settle_23 : decode cX6_settle 23 = .ok (.iconst 0, 1) := by decide +kernel
theorem dX6_settle_24 : decode cX6_settle 24 = .ok (.iastore, 1) := by decide +kernel
theorem dX6_settle_25 : decode cX6_settle 25 = .ok (.aload_n 0, 1) := by decide +kernel
theorem dX6_settle_26 : decode cX6_settle 26 = .ok (.getfield 44, 3) := by decide +kernel
theorem dX6_settle_29 : decode cX6_settle 29 = .ok (.iload_n 2, 1) := by decide +kernel
theorem dX6_settle_30 : decode cX6_settle 30 = .ok (.iconst 0, 1) := by decide +kernel
theorem dX6_settle_31 : decode cX6_settle 31 = .ok (.iastore, 1) := by decide +kernel
theorem dX6_settle_32 : decode cX6_settle 32 = .ok (.iconst 0, 1) := by decide +kernel
theorem dX6_settle_33 : decode cX6_settle 33 = .ok (.istore_n 3, 1) := by decide +kernel
theorem dX6_settle_34 : decode cX6_settle 34 = .ok (.iload_n 3, 1) := by decide +kernel
theorem dX6_settle_35 : decode cX6_settle 35 = .ok (.iload_n 1, 1) := by decide +kernel
theorem dX6_settle_36 : decode cX6_settle 36 = .ok (.if_icmp .ge 89, 3) := by decide +kernel
theorem dX6_settle_39 : decode cX6_settle 39 = .ok (.iload_n 2, 1) := by decide +kernel
theorem dX6_settle_40 : decode cX6_settle 40 = .ok (.iload_n 3, 1) := by decide +kernel
theorem dX6_settle_41 : decode cX6_settle 41 = .ok (.invokestatic 243, 3) := by decide +kernel
theorem dX6_settle_44 : decode cX6_settle 44 = .ok (.ifCond .eq 75, 3) := by decide +kernel
theorem dX6_settle_47 : decode cX6_settle 47 = .ok (.iload_n 2, 1) := by decide +kernel
theorem dX6_settle_48 : decode cX6_settle 48 = .ok (.iconst 1, 1) := by decide +kernel
theorem dX6_settle_49 : decode cX6_settle 49 = .ok (.iload_n 3, 1) := by decide +kernel
theorem dX6_settle_50 : decode cX6_settle 50 = .ok (.ishl, 1) := by decide +kernel
theorem dX6_settle_51 : decode cX6_settle 51 = .ok (.iconst (-1), 1) := by decide +kernel
theorem dX6_settle_52 : decode cX6_settle 52 = .ok (.ixor, 1) := by decide +kernel
theorem dX6_settle_53 : decode cX6_settle 53 = .ok (.iand, 1) := by decide +kernel
theorem dX6_settle_54 : decode cX6_settle 54 = .ok (.istore 4, 2) := by decide +kernel
theorem dX6_settle_56 : decode cX6_settle 56 = .ok (.aload_n 0, 1) := by decide +kernel
theorem dX6_settle_57 : decode cX6_settle 57 = .ok (.getfield 41, 3) := by decide +kernel
theorem dX6_settle_60 : decode cX6_settle 60 = .ok (.iload_n 2, 1) := by decide +kernel
theorem dX6_settle_61 : decode cX6_settle 61 = .ok (.aload_n 0, 1) := by decide +kernel
theorem dX6_settle_62 : decode cX6_settle 62 = .ok (.getfield 41, 3) := by decide +kernel
theorem dX6_settle_65 : decode cX6_settle 65 = .ok (.iload 4, 2) := by decide +kernel
theorem dX6_settle_67 : decode cX6_settle 67 = .ok (.iaload, 1) := by decide +kernel
theorem dX6_settle_68 : decode cX6_settle 68 = .ok (.aload_n 0, 1) := by decide +kernel
theorem dX6_settle_69 : decode cX6_settle 69 = .ok (.iload_n 3, 1) := by decide +kernel
theorem dX6_settle_70 : decode cX6_settle 70 = .ok (.invokevirtual 187, 3) := by decide +kernel
theorem dX6_settle_73 : decode cX6_settle 73 = .ok (.iadd, 1) := by decide +kernel
theorem dX6_settle_74 : decode cX6_settle 74 = .ok (.aload_n 0, 1) := by decide +kernel
theorem dX6_settle_75 : decode cX6_settle 75 = .ok (.iload_n 3, 1) := by decide +kernel
theorem dX6_settle_76 : decode cX6_settle 76 = .ok (.invokevirtual 190, 3) := by decide +kernel
theorem dX6_settle_79 : decode cX6_settle 79 = .ok (.isub, 1) := by decide +kernel
theorem dX6_settle_80 : decode cX6_settle 80 = .ok (.iastore, 1) := by decide +kernel
theorem dX6_settle_81 : decode cX6_settle 81 = .ok (.aload_n 0, 1) := by decide +kernel
theorem dX6_settle_82 : decode cX6_settle 82 = .ok (.getfield 44, 3) := by decide +kernel
theorem dX6_settle_85 : decode cX6_settle 85 = .ok (.iload_n 2, 1) := by decide +kernel
theorem dX6_settle_86 : decode cX6_settle 86 = .ok (.aload_n 0, 1) := by decide +kernel
theorem dX6_settle_87 : decode cX6_settle 87 = .ok (.getfield 44, 3) := by decide +kernel
theorem dX6_settle_90 : decode cX6_settle 90 = .ok (.iload 4, 2) := by decide +kernel
theorem dX6_settle_92 : decode cX6_settle 92 = .ok (.iaload, 1) := by decide +kernel
theorem dX6_settle_93 : decode cX6_settle 93 = .ok (.aload_n 0, 1) := by decide +kernel
theorem dX6_settle_94 : decode cX6_settle 94 = .ok (.getfield 44, 3) := by decide +kernel
theorem dX6_settle_97 : decode cX6_settle 97 = .ok (.iload_n 2, 1) := by decide +kernel
theorem dX6_settle_98 : decode cX6_settle 98 = .ok (.iaload, 1) := by decide +kernel
theorem dX6_settle_99 : decode cX6_settle 99 = .ok (.if_icmp .le 13, 3) := by decide +kernel
theorem dX6_settle_102 : decode cX6_settle 102 = .ok (.aload_n 0, 1) := by decide +kernel
theorem dX6_settle_103 : decode cX6_settle 103 = .ok (.getfield 44, 3) := by decide +kernel
theorem dX6_settle_106 : decode cX6_settle 106 = .ok (.iload 4, 2) := by decide +kernel
theorem dX6_settle_108 : decode cX6_settle 108 = .ok (.iaload, 1) := by decide +kernel
theorem dX6_settle_109 : decode cX6_settle 109 = .ok (.goto 9, 3) := by decide +kernel
theorem dX6_settle_112 : decode cX6_settle 112 = .ok (.aload_n 0, 1) := by decide +kernel
theorem dX6_settle_113 : decode cX6_settle 113 = .ok (.getfield 44, 3) := by decide +kernel
theorem dX6_settle_116 : decode cX6_settle 116 = .ok (.iload_n 2, 1) := by decide +kernel
theorem dX6_settle_117 : decode cX6_settle 117 = .ok (.iaload, 1) := by decide +kernel
theorem dX6_settle_118 : decode cX6_settle 118 = .ok (.iastore, 1) := by decide +kernel
theorem dX6_settle_119 : decode cX6_settle 119 = .ok (.iinc 3 1, 3) := by decide +kernel
theorem dX6_settle_122 : decode cX6_settle 122 = .ok (.goto (-88), 3) := by decide +kernel
theorem dX6_settle_125 : decode cX6_settle 125 = .ok (.aload_n 0, 1) := by decide +kernel
theorem dX6_settle_126 : decode cX6_settle 126 = .ok (.getfield 44, 3) := by decide +kernel
theorem dX6_settle_129 : decode cX6_settle 129 = .ok (.iload_n 2, 1) := by decide +kernel
theorem dX6_settle_130 : decode cX6_settle 130 = .ok (.dup2, 1) := by decide +kernel
theorem dX6_settle_131 : decode cX6_settle 131 = .ok (.iaload, 1) := by decide +kernel
theorem dX6_settle_132 : decode cX6_settle 132 = .ok (.aload_n 0, 1) := by decide +kernel
theorem dX6_settle_133 : decode cX6_settle 133 = .ok (.getfield 41, 3) := by decide +kernel
theorem dX6_settle_136 : decode cX6_settle 136 = .ok (.iload_n 2, 1) := by decide +kernel
theorem dX6_settle_137 : decode cX6_settle 137 = .ok (.iaload, 1) := by decide +kernel
theorem dX6_settle_138 : decode cX6_settle 138 = .ok (.ifCond .ne 11, 3) := by decide +kernel
theorem dX6_settle_141 : decode cX6_settle 141 = .ok (.iload_n 2, 1) := by decide +kernel
theorem dX6_settle_142 : decode cX6_settle 142 = .ok (.ifCond .le 7, 3) := by decide +kernel
theorem dX6_settle_145 : decode cX6_settle 145 = .ok (.iconst 1, 1) := by decide +kernel
theorem dX6_settle_146 : decode cX6_settle 146 = .ok (.goto 4, 3) := by decide +kernel
theorem dX6_settle_149 : decode cX6_settle 149 = .ok (.iconst 0, 1) := by decide +kernel
theorem dX6_settle_150 : decode cX6_settle 150 = .ok (.iadd, 1) := by decide +kernel
theorem dX6_settle_151 : decode cX6_settle 151 = .ok (.iastore, 1) := by decide +kernel
theorem dX6_settle_152 : decode cX6_settle 152 = .ok (.iinc 2 1, 3) := by decide +kernel
theorem dX6_settle_155 : decode cX6_settle 155 = .ok (.goto (-144), 3) := by decide +kernel
theorem dX6_settle_158 : decode cX6_settle 158 = .ok (.iload_n 1, 1) := by decide +kernel
theorem dX6_settle_159 : decode cX6_settle 159 = .ok (.aload_n 0, 1) := by decide +kernel
theorem dX6_settle_160 : decode cX6_settle 160 = .ok (.getfield 44, 3) := by decide +kernel
theorem dX6_settle_163 : decode cX6_settle 163 = .ok (.iconst 1, 1) := by decide +kernel
theorem dX6_settle_164 : decode cX6_settle 164 = .ok (.iload_n 1, 1) := by decide +kernel
theorem dX6_settle_165 : decode cX6_settle 165 = .ok (.ishl, 1) := by decide +kernel
theorem dX6_settle_166 : decode cX6_settle 166 = .ok (.iconst 1, 1) := by decide +kernel
theorem dX6_settle_167 : decode cX6_settle 167 = .ok (.isub, 1) := by decide +kernel
theorem dX6_settle_168 : decode cX6_settle 168 = .ok (.iaload, 1) := by decide +kernel
theorem dX6_settle_169 : decode cX6_settle 169 = .ok (.isub, 1) := by decide +kernel
theorem dX6_settle_170 : decode cX6_settle 170 = .ok (.ireturn, 1) := by decide +kernel
theorem dX6_rings_0 : decode cX6_rings 0 = .ok (.aload_n 0, 1) := by decide +kernel
theorem dX6_rings_1 : decode cX6_rings 1 = .ok (.invokevirtual 184, 3) := by decide +kernel
theorem dX6_rings_4 : decode cX6_rings 4 = .ok (.aload_n 0, 1) := by decide +kernel
theorem dX6_rings_5 : decode cX6_rings 5 = .ok (.invokevirtual 177, 3) := by decide +kernel
theorem dX6_rings_8 : decode cX6_rings 8 = .ok (.istore_n 1, 1) := by decide +kernel
theorem dX6_rings_9 : decode cX6_rings 9 = .ok (.iconst 0, 1) := by decide +kernel
theorem dX6_rings_10 : decode cX6_rings 10 = .ok (.istore_n 2, 1) := by decide +kernel
theorem dX6_rings_11 : decode cX6_rings 11 = .ok (.iconst 0, 1) := by decide +kernel
theorem dX6_rings_12 : decode cX6_rings 12 = .ok (.istore_n 3, 1) := by decide +kernel
theorem dX6_rings_13 : decode cX6_rings 13 = .ok (.iload_n 3, 1) := by decide +kernel
theorem dX6_rings_14 : decode cX6_rings 14 = .ok (.iload_n 1, 1) := by decide +kernel
theorem dX6_rings_15 : decode cX6_rings 15 = .ok (.if_icmp .ge 62, 3) := by decide +kernel
theorem dX6_rings_18 : decode cX6_rings 18 = .ok (.iconst 0, 1) := by decide +kernel
theorem dX6_rings_19 : decode cX6_rings 19 = .ok (.istore 4, 2) := by decide +kernel
theorem dX6_rings_21 : decode cX6_rings 21 = .ok (.iload 4, 2) := by decide +kernel
theorem dX6_rings_23 : decode cX6_rings 23 = .ok (.iload_n 3, 1) := by decide +kernel
theorem dX6_rings_24 : decode cX6_rings 24 = .ok (.if_icmp .ge 47, 3) := by decide +kernel
theorem dX6_rings_27 : decode cX6_rings 27 = .ok (.iload_n 2, 1) := by decide +kernel
theorem dX6_rings_28 : decode cX6_rings 28 = .ok (.aload_n 0, 1) := by decide +kernel
theorem dX6_rings_29 : decode cX6_rings 29 = .ok (.getfield 38, 3) := by decide +kernel
theorem dX6_rings_32 : decode cX6_rings 32 = .ok (.bipush 12, 2) := by decide +kernel
theorem dX6_rings_34 : decode cX6_rings 34 = .ok (.iload_n 3, 1) := by decide +kernel
theorem dX6_rings_35 : decode cX6_rings 35 = .ok (.imul, 1) := by decide +kernel
theorem dX6_rings_36 : decode cX6_rings 36 = .ok (.iload 4, 2) := by decide +kernel
theorem dX6_rings_38 : decode cX6_rings 38 = .ok (.iadd, 1) := by decide +kernel
theorem dX6_rings_39 : decode cX6_rings 39 = .ok (.iaload, 1) := by decide +kernel
theorem dX6_rings_40 : decode cX6_rings 40 = .ok (.ifCond .le 22, 3) := by decide +kernel
theorem dX6_rings_43 : decode cX6_rings 43 = .ok (.aload_n 0, 1) := by decide +kernel
theorem dX6_rings_44 : decode cX6_rings 44 = .ok (.getfield 38, 3) := by decide +kernel
theorem dX6_rings_47 : decode cX6_rings 47 = .ok (.bipush 12, 2) := by decide +kernel
theorem dX6_rings_49 : decode cX6_rings 49 = .ok (.iload 4, 2) := by decide +kernel
theorem dX6_rings_51 : decode cX6_rings 51 = .ok (.imul, 1) := by decide +kernel
theorem dX6_rings_52 : decode cX6_rings 52 = .ok (.iload_n 3, 1) := by decide +kernel
theorem dX6_rings_53 : decode cX6_rings 53 = .ok (.iadd, 1) := by decide +kernel
theorem dX6_rings_54 : decode cX6_rings 54 = .ok (.iaload, 1) := by decide +kernel
theorem dX6_rings_55 : decode cX6_rings 55 = .ok (.ifCond .le 7, 3) := by decide +kernel
theorem dX6_rings_58 : decode cX6_rings 58 = .ok (.iconst 1, 1) := by decide +kernel
theorem dX6_rings_59 : decode cX6_rings 59 = .ok (.goto 4, 3) := by decide +kernel
theorem dX6_rings_62 : decode cX6_rings 62 = .ok (.iconst 0, 1) := by decide +kernel
theorem dX6_rings_63 : decode cX6_rings 63 = .ok (.iadd, 1) := by decide +kernel
theorem dX6_rings_64 : decode cX6_rings 64 = .ok (.istore_n 2, 1) := by decide +kernel
theorem dX6_rings_65 : decode cX6_rings 65 = .ok (.iinc 4 1, 3) := by decide +kernel
theorem dX6_rings_68 : decode cX6_rings 68 = .ok (.goto (-47), 3) := by decide +kernel
theorem dX6_rings_71 : decode cX6_rings 71 = .ok (.iinc 3 1, 3) := by decide +kernel
theorem dX6_rings_74 : decode cX6_rings 74 = .ok (.goto (-61), 3) := by decide +kernel
theorem dX6_rings_77 : decode cX6_rings 77 = .ok (.iconst 0, 1) := by decide +kernel
theorem dX6_rings_78 : decode cX6_rings 78 = .ok (.istore_n 3, 1) := by decide +kernel
theorem dX6_rings_79 : decode cX6_rings 79 = .ok (.iload_n 3, 1) := by decide +kernel
theorem dX6_rings_80 : decode cX6_rings 80 = .ok (.iload_n 1, 1) := by decide +kernel
theorem dX6_rings_81 : decode cX6_rings 81 = .ok (.if_icmp .ge 106, 3) := by decide +kernel
theorem dX6_rings_84 : decode cX6_rings 84 = .ok (.iconst 0, 1) := by decide +kernel
theorem dX6_rings_85 : decode cX6_rings 85 = .ok (.istore 4, 2) := by decide +kernel
theorem dX6_rings_87 : decode cX6_rings 87 = .ok (.iload 4, 2) := by decide +kernel
theorem dX6_rings_89 : decode cX6_rings 89 = .ok (.iload_n 1, 1) := by decide +kernel
theorem dX6_rings_90 : decode cX6_rings 90 = .ok (.if_icmp .ge 91, 3) := by decide +kernel
theorem dX6_rings_93 : decode cX6_rings 93 = .ok (.iconst 0, 1) := by decide +kernel
theorem dX6_rings_94 : decode cX6_rings 94 = .ok (.istore 5, 2) := by decide +kernel
theorem dX6_rings_96 : decode cX6_rings 96 = .ok (.iload 5, 2) := by decide +kernel
theorem dX6_rings_98 : decode cX6_rings 98 = .ok (.iload_n 1, 1) := by decide +kernel
theorem dX6_rings_99 : decode cX6_rings 99 = .ok (.if_icmp .ge 76, 3) := by decide +kernel
theorem dX6_rings_102 : decode cX6_rings 102 = .ok (.aload_n 0, 1) := by decide +kernel
theorem dX6_rings_103 : decode cX6_rings 103 = .ok (.getfield 38, 3) := by decide +kernel
theorem dX6_rings_106 : decode cX6_rings 106 = .ok (.bipush 12, 2) := by decide +kernel
theorem dX6_rings_108 : decode cX6_rings 108 = .ok (.iload 4, 2) := by decide +kernel
theorem dX6_rings_110 : decode cX6_rings 110 = .ok (.imul, 1) := by decide +kernel
theorem dX6_rings_111 : decode cX6_rings 111 = .ok (.iload 5, 2) := by decide +kernel
theorem dX6_rings_113 : decode cX6_rings 113 = .ok (.iadd, 1) := by decide +kernel
theorem dX6_rings_114 : decode cX6_rings 114 = .ok (.dup2, 1) := by decide +kernel
theorem dX6_rings_115 : decode cX6_rings 115 = .ok (.iaload, 1) := by decide +kernel
theorem dX6_rings_116 : decode cX6_rings 116 = .ok (.aload_n 0, 1) := by decide +kernel
theorem dX6_rings_117 : decode cX6_rings 117 = .ok (.getfield 38, 3) := by decide +kernel
theorem dX6_rings_120 : decode cX6_rings 120 = .ok (.bipush 12, 2) := by decide +kernel
theorem dX6_rings_122 : decode cX6_rings 122 = .ok (.iload 4, 2) := by decide +kernel
theorem dX6_rings_124 : decode cX6_rings 124 = .ok (.imul, 1) := by decide +kernel
theorem dX6_rings_125 : decode cX6_rings 125 = .ok (.iload 5, 2) := by decide +kernel
theorem dX6_rings_127 : decode cX6_rings 127 = .ok (.iadd, 1) := by decide +kernel
theorem dX6_rings_128 : decode cX6_rings 128 = .ok (.iaload, 1) := by decide +kernel
theorem dX6_rings_129 : decode cX6_rings 129 = .ok (.ifCond .ne 37, 3) := by decide +kernel
theorem dX6_rings_132 : decode cX6_rings 132 = .ok (.aload_n 0, 1) := by decide +kernel
theorem dX6_rings_133 : decode cX6_rings 133 = .ok (.getfield 38, 3) := by decide +kernel
theorem dX6_rings_136 : decode cX6_rings 136 = .ok (.bipush 12, 2) := by decide +kernel
theorem dX6_rings_138 : decode cX6_rings 138 = .ok (.iload 4, 2) := by decide +kernel
theorem dX6_rings_140 : decode cX6_rings 140 = .ok (.imul, 1) := by decide +kernel
theorem dX6_rings_141 : decode cX6_rings 141 = .ok (.iload_n 3, 1) := by decide +kernel
theorem dX6_rings_142 : decode cX6_rings 142 = .ok (.iadd, 1) := by decide +kernel
theorem dX6_rings_143 : decode cX6_rings 143 = .ok (.iaload, 1) := by decide +kernel
theorem dX6_rings_144 : decode cX6_rings 144 = .ok (.ifCond .le 22, 3) := by decide +kernel
theorem dX6_rings_147 : decode cX6_rings 147 = .ok (.aload_n 0, 1) := by decide +kernel
theorem dX6_rings_148 : decode cX6_rings 148 = .ok (.getfield 38, 3) := by decide +kernel
theorem dX6_rings_151 : decode cX6_rings 151 = .ok (.bipush 12, 2) := by decide +kernel
theorem dX6_rings_153 : decode cX6_rings 153 = .ok (.iload_n 3, 1) := by decide +kernel
theorem dX6_rings_154 : decode cX6_rings 154 = .ok (.imul, 1) := by decide +kernel
theorem dX6_rings_155 : decode cX6_rings 155 = .ok (.iload 5, 2) := by decide +kernel
theorem dX6_rings_157 : decode cX6_rings 157 = .ok (.iadd, 1) := by decide +kernel
theorem dX6_rings_158 : decode cX6_rings 158 = .ok (.iaload, 1) := by decide +kernel
theorem dX6_rings_159 : decode cX6_rings 159 = .ok (.ifCond .le 7, 3) := by decide +kernel
theorem dX6_rings_162 : decode cX6_rings 162 = .ok (.iconst 1, 1) := by decide +kernel
theorem dX6_rings_163 : decode cX6_rings 163 = .ok (.goto 4, 3) := by decide +kernel
theorem dX6_rings_166 : decode cX6_rings 166 = .ok (.iconst 0, 1) := by decide +kernel
theorem dX6_rings_167 : decode cX6_rings 167 = .ok (.iadd, 1) := by decide +kernel
theorem dX6_rings_168 : decode cX6_rings 168 = .ok (.iastore, 1) := by decide +kernel
theorem dX6_rings_169 : decode cX6_rings 169 = .ok (.iinc 5 1, 3) := by decide +kernel
theorem dX6_rings_172 : decode cX6_rings 172 = .ok (.goto (-76), 3) := by decide +kernel
theorem dX6_rings_175 : decode cX6_rings 175 = .ok (.iinc 4 1, 3) := by decide +kernel
theorem dX6_rings_178 : decode cX6_rings 178 = .ok (.goto (-91), 3) := by decide +kernel
theorem dX6_rings_181 : decode cX6_rings 181 = .ok (.iinc 3 1, 3) := by decide +kernel
theorem dX6_rings_184 : decode cX6_rings 184 = .ok (.goto (-105), 3) := by decide +kernel
theorem dX6_rings_187 : decode cX6_rings 187 = .ok (.iconst 0, 1) := by decide +kernel
theorem dX6_rings_188 : decode cX6_rings 188 = .ok (.istore_n 3, 1) := by decide +kernel
theorem dX6_rings_189 : decode cX6_rings 189 = .ok (.iconst 0, 1) := by decide +kernel
theorem dX6_rings_190 : decode cX6_rings 190 = .ok (.istore 4, 2) := by decide +kernel
theorem dX6_rings_192 : decode cX6_rings 192 = .ok (.iload 4, 2) := by decide +kernel
theorem dX6_rings_194 : decode cX6_rings 194 = .ok (.iload_n 1, 1) := by decide +kernel
theorem dX6_rings_195 : decode cX6_rings 195 = .ok (.if_icmp .ge 36, 3) := by decide +kernel
theorem dX6_rings_198 : decode cX6_rings 198 = .ok (.iload_n 3, 1) := by decide +kernel
theorem dX6_rings_199 : decode cX6_rings 199 = .ok (.aload_n 0, 1) := by decide +kernel
theorem dX6_rings_200 : decode cX6_rings 200 = .ok (.getfield 38, 3) := by decide +kernel
theorem dX6_rings_203 : decode cX6_rings 203 = .ok (.bipush 12, 2) := by decide +kernel
theorem dX6_rings_205 : decode cX6_rings 205 = .ok (.iload 4, 2) := by decide +kernel
theorem dX6_rings_207 : decode cX6_rings 207 = .ok (.imul, 1) := by decide +kernel
theorem dX6_rings_208 : decode cX6_rings 208 = .ok (.iload 4, 2) := by decide +kernel
theorem dX6_rings_210 : decode cX6_rings 210 = .ok (.iadd, 1) := by decide +kernel
theorem dX6_rings_211 : decode cX6_rings 211 = .ok (.iaload, 1) := by decide +kernel
theorem dX6_rings_212 : decode cX6_rings 212 = .ok (.ifCond .le 10, 3) := by decide +kernel
theorem dX6_rings_215 : decode cX6_rings 215 = .ok (.iconst 1, 1) := by decide +kernel
theorem dX6_rings_216 : decode cX6_rings 216 = .ok (.iload 4, 2) := by decide +kernel
theorem dX6_rings_218 : decode cX6_rings 218 = .ok (.ishl, 1) := by decide +kernel
theorem dX6_rings_219 : decode cX6_rings 219 = .ok (.goto 4, 3) := by decide +kernel
theorem dX6_rings_222 : decode cX6_rings 222 = .ok (.iconst 0, 1) := by decide +kernel
theorem dX6_rings_223 : decode cX6_rings 223 = .ok (.ior, 1) := by decide +kernel
theorem dX6_rings_224 : decode cX6_rings 224 = .ok (.istore_n 3, 1) := by decide +kernel
theorem dX6_rings_225 : decode cX6_rings 225 = .ok (.iinc 4 1, 3) := by decide +kernel
theorem dX6_rings_228 : decode cX6_rings 228 = .ok (.goto (-36), 3) := by decide +kernel
theorem dX6_rings_231 : decode cX6_rings 231 = .ok (.aload_n 0, 1) := by decide +kernel
theorem dX6_rings_232 : decode cX6_rings 232 = .ok (.iload_n 2, 1) := by decide +kernel
theorem dX6_rings_233 : decode cX6_rings 233 = .ok (.iload_n 3, 1) := by decide +kernel
theorem dX6_rings_234 : decode cX6_rings 234 = .ok (.invokevirtual 81, 3) := by decide +kernel
theorem dX6_rings_237 : decode cX6_rings 237 = .ok (.ireturn, 1) := by decide +kernel
theorem dX6_isBuilt_0 : decode cX6_isBuilt 0 = .ok (.aload_n 0, 1) := by decide +kernel
theorem dX6_isBuilt_1 : decode cX6_isBuilt 1 = .ok (.iload_n 1, 1) := by decide +kernel
theorem dX6_isBuilt_2 : decode cX6_isBuilt 2 = .ok (.invokevirtual 216, 3) := by decide +kernel
theorem dX6_isBuilt_5 : decode cX6_isBuilt 5 = .ok (.istore_n 3, 1) := by decide +kernel
theorem dX6_isBuilt_6 : decode cX6_isBuilt 6 = .ok (.iload_n 3, 1) := by decide +kernel
theorem dX6_isBuilt_7 : decode cX6_isBuilt 7 = .ok (.ifCond .eq 44, 3) := by decide +kernel
theorem dX6_isBuilt_10 : decode cX6_isBuilt 10 = .ok (.aload_n 0, 1) := by decide +kernel
theorem dX6_isBuilt_11 : decode cX6_isBuilt 11 = .ok (.iconst 0, 1) := by decide +kernel
theorem dX6_isBuilt_12 : decode cX6_isBuilt 12 = .ok (.iload_n 1, 1) := by decide +kernel
theorem dX6_isBuilt_13 : decode cX6_isBuilt 13 = .ok (.iconst 0, 1) := by decide +kernel
theorem dX6_isBuilt_14 : decode cX6_isBuilt 14 = .ok (.iload_n 2, 1) := by decide +kernel
theorem dX6_isBuilt_15 : decode cX6_isBuilt 15 = .ok (.invokevirtual 104, 3) := by decide +kernel
theorem dX6_isBuilt_18 : decode cX6_isBuilt 18 = .ok (.aload_n 0, 1) := by decide +kernel
theorem dX6_isBuilt_19 : decode cX6_isBuilt 19 = .ok (.invokevirtual 246, 3) := by decide +kernel
theorem dX6_isBuilt_22 : decode cX6_isBuilt 22 = .ok (.ifCond .ne 7, 3) := by decide +kernel
theorem dX6_isBuilt_25 : decode cX6_isBuilt 25 = .ok (.iconst 1, 1) := by decide +kernel
theorem dX6_isBuilt_26 : decode cX6_isBuilt 26 = .ok (.goto 4, 3) := by decide +kernel
theorem dX6_isBuilt_29 : decode cX6_isBuilt 29 = .ok (.iconst 0, 1) := by decide +kernel
theorem dX6_isBuilt_30 : decode cX6_isBuilt 30 = .ok (.istore_n 3, 1) := by decide +kernel
theorem dX6_isBuilt_31 : decode cX6_isBuilt 31 = .ok (.aload_n 0, 1) := by decide +kernel
theorem dX6_isBuilt_32 : decode cX6_isBuilt 32 = .ok (.getfield 7, 3) := by decide +kernel
theorem dX6_isBuilt_35 : decode cX6_isBuilt 35 = .ok (.iconst 1, 1) := by decide +kernel
theorem dX6_isBuilt_36 : decode cX6_isBuilt 36 = .ok (.iload_n 1, 1) := by decide +kernel
theorem dX6_isBuilt_37 : decode cX6_isBuilt 37 = .ok (.iadd, 1) := by decide +kernel
theorem dX6_isBuilt_38 : decode cX6_isBuilt 38 = .ok (.dup2, 1) := by decide +kernel
theorem dX6_isBuilt_39 : decode cX6_isBuilt 39 = .ok (.iaload, 1) := by decide +kernel
theorem dX6_isBuilt_40 : decode cX6_isBuilt 40 = .ok (.iload_n 3, 1) := by decide +kernel
theorem dX6_isBuilt_41 : decode cX6_isBuilt 41 = .ok (.ifCond .eq 7, 3) := by decide +kernel
theorem dX6_isBuilt_44 : decode cX6_isBuilt 44 = .ok (.iconst 0, 1) := by decide +kernel
theorem dX6_isBuilt_45 : decode cX6_isBuilt 45 = .ok (.goto 4, 3) := by decide +kernel
theorem dX6_isBuilt_48 : decode cX6_isBuilt 48 = .ok (.iconst 1, 1) := by decide +kernel
theorem dX6_isBuilt_49 : decode cX6_isBuilt 49 = .ok (.isub, 1) := by decide +kernel
theorem dX6_isBuilt_50 : decode cX6_isBuilt 50 = .ok (.iastore, 1) := by decide +kernel
theorem dX6_isBuilt_51 : decode cX6_isBuilt 51 = .ok (.iload_n 3, 1) := by decide +kernel
theorem dX6_isBuilt_52 : decode cX6_isBuilt 52 = .ok (.ireturn, 1) := by decide +kernel
theorem dX6_winsBy_0 : decode cX6_winsBy 0 = .ok (.iconst 0, 1) := by decide +kernel
theorem dX6_winsBy_1 : decode cX6_winsBy 1 = .ok (.istore_n 3, 1) := by decide +kernel
theorem dX6_winsBy_2 : decode cX6_winsBy 2 = .ok (.aload_n 0, 1) := by decide +kernel
theorem dX6_winsBy_3 : decode cX6_winsBy 3 = .ok (.getfield 47, 3) := by decide +kernel
theorem dX6_winsBy_6 : decode cX6_winsBy 6 = .ok (.iconst 0, 1) := by decide +kernel
theorem dX6_winsBy_7 : decode cX6_winsBy 7 = .ok (.iconst 0, 1) := by decide +kernel
theorem dX6_winsBy_8 : decode cX6_winsBy 8 = .ok (.iastore, 1) := by decide +kernel
theorem dX6_winsBy_9 : decode cX6_winsBy 9 = .ok (.aload_n 0, 1) := by decide +kernel
theorem dX6_winsBy_10 : decode cX6_winsBy 10 = .ok (.getfield 50, 3) := by decide +kernel
theorem dX6_winsBy_13 : decode cX6_winsBy 13 = .ok (.iconst 0, 1) := by decide +kernel
theorem dX6_winsBy_14 : decode cX6_winsBy 14 = .ok (.iconst 0, 1) := by decide +kernel
theorem dX6_winsBy_15 : decode cX6_winsBy 15 = .ok (.bastore, 1) := by decide +kernel
theorem dX6_winsBy_16 : decode cX6_winsBy 16 = .ok (.iload_n 3, 1) := by decide +kernel
theorem dX6_winsBy_17 : decode cX6_winsBy 17 = .ok (.iload_n 2, 1) := by decide +kernel
theorem dX6_winsBy_18 : decode cX6_winsBy 18 = .ok (.if_icmp .eq 27, 3) := by decide +kernel
theorem dX6_winsBy_21 : decode cX6_winsBy 21 = .ok (.aload_n 0, 1) := by decide +kernel
theorem dX6_winsBy_22 : decode cX6_winsBy 22 = .ok (.getfield 50, 3) := by decide +kernel
theorem dX6_winsBy_25 : decode cX6_winsBy 25 = .ok (.iload_n 3, 1) := by decide +kernel
theorem dX6_winsBy_26 : decode cX6_winsBy 26 = .ok (.baload, 1) := by decide +kernel
theorem dX6_winsBy_27 : decode cX6_winsBy 27 = .ok (.ifCond .ne 18, 3) := by decide +kernel
theorem dX6_winsBy_30 : decode cX6_winsBy 30 = .ok (.aload_n 0, 1) := by decide +kernel
theorem dX6_winsBy_31 : decode cX6_winsBy 31 = .ok (.getfield 47, 3) := by decide +kernel
theorem dX6_winsBy_34 : decode cX6_winsBy 34 = .ok (.iload_n 3, 1) := by decide +kernel
theorem dX6_winsBy_35 : decode cX6_winsBy 35 = .ok (.iaload, 1) := by decide +kernel
theorem dX6_winsBy_36 : decode cX6_winsBy 36 = .ok (.aload_n 0, 1) := by decide +kernel
theorem dX6_winsBy_37 : decode cX6_winsBy 37 = .ok (.getfield 7, 3) := by decide +kernel
theorem dX6_winsBy_40 : decode cX6_winsBy 40 = .ok (.iconst 0, 1) := by decide +kernel
theorem dX6_winsBy_41 : decode cX6_winsBy 41 = .ok (.iaload, 1) := by decide +kernel
theorem dX6_winsBy_42 : decode cX6_winsBy 42 = .ok (.if_icmp .ne 7, 3) := by decide +kernel
theorem dX6_winsBy_45 : decode cX6_winsBy 45 = .ok (.iconst 1, 1) := by decide +kernel
theorem dX6_winsBy_46 : decode cX6_winsBy 46 = .ok (.goto 4, 3) := by decide +kernel
theorem dX6_winsBy_49 : decode cX6_winsBy 49 = .ok (.iconst 0, 1) := by decide +kernel
theorem dX6_winsBy_50 : decode cX6_winsBy 50 = .ok (.istore 4, 2) := by decide +kernel
theorem dX6_winsBy_52 : decode cX6_winsBy 52 = .ok (.iload 4, 2) := by decide +kernel
theorem dX6_winsBy_54 : decode cX6_winsBy 54 = .ok (.ifCond .eq 89, 3) := by decide +kernel
theorem dX6_winsBy_57 : decode cX6_winsBy 57 = .ok (.iload_n 3, 1) := by decide +kernel
theorem dX6_winsBy_58 : decode cX6_winsBy 58 = .ok (.iload_n 2, 1) := by decide +kernel
theorem dX6_winsBy_59 : decode cX6_winsBy 59 = .ok (.if_icmp .ge 16, 3) := by decide +kernel
theorem dX6_winsBy_62 : decode cX6_winsBy 62 = .ok (.aload_n 0, 1) := by decide +kernel
theorem dX6_winsBy_63 : decode cX6_winsBy 63 = .ok (.getfield 50, 3) := by decide +kernel
theorem dX6_winsBy_66 : decode cX6_winsBy 66 = .ok (.iload_n 3, 1) := by decide +kernel
theorem dX6_winsBy_67 : decode cX6_winsBy 67 = .ok (.baload, 1) := by decide +kernel
theorem dX6_winsBy_68 : decode cX6_winsBy 68 = .ok (.ifCond .eq 7, 3) := by decide +kernel
theorem dX6_winsBy_71 : decode cX6_winsBy 71 = .ok (.iconst 1, 1) := by decide +kernel
theorem dX6_winsBy_72 : decode cX6_winsBy 72 = .ok (.goto 4, 3) := by decide +kernel
theorem dX6_winsBy_75 : decode cX6_winsBy 75 = .ok (.iconst 0, 1) := by decide +kernel
theorem dX6_winsBy_76 : decode cX6_winsBy 76 = .ok (.istore 5, 2) := by decide +kernel
theorem dX6_winsBy_78 : decode cX6_winsBy 78 = .ok (.iload_n 3, 1) := by decide +kernel
theorem dX6_winsBy_79 : decode cX6_winsBy 79 = .ok (.ifCond .ne 6, 3) := by decide +kernel
theorem dX6_winsBy_82 : decode cX6_winsBy 82 = .ok (.iload 5, 2) := by decide +kernel
theorem dX6_winsBy_84 : decode cX6_winsBy 84 = .ok (.ireturn, 1) := by decide +kernel
theorem dX6_winsBy_85 : decode cX6_winsBy 85 = .ok (.iinc 3 (-1), 3) := by decide +kernel
theorem dX6_winsBy_88 : decode cX6_winsBy 88 = .ok (.aload_n 0, 1) := by decide +kernel
theorem dX6_winsBy_89 : decode cX6_winsBy 89 = .ok (.getfield 7, 3) := by decide +kernel
theorem dX6_winsBy_92 : decode cX6_winsBy 92 = .ok (.iconst 1, 1) := by decide +kernel
theorem dX6_winsBy_93 : decode cX6_winsBy 93 = .ok (.aload_n 0, 1) := by decide +kernel
theorem dX6_winsBy_94 : decode cX6_winsBy 94 = .ok (.getfield 47, 3) := by decide +kernel
theorem dX6_winsBy_97 : decode cX6_winsBy 97 = .ok (.iload_n 3, 1) := by decide +kernel
theorem dX6_winsBy_98 : decode cX6_winsBy 98 = .ok (.iaload, 1) := by decide +kernel
theorem dX6_winsBy_99 : decode cX6_winsBy 99 = .ok (.iadd, 1) := by decide +kernel
theorem dX6_winsBy_100 : decode cX6_winsBy 100 = .ok (.dup2, 1) := by decide +kernel
theorem dX6_winsBy_101 : decode cX6_winsBy 101 = .ok (.iaload, 1) := by decide +kernel
theorem dX6_winsBy_102 : decode cX6_winsBy 102 = .ok (.iconst 1, 1) := by decide +kernel
theorem dX6_winsBy_103 : decode cX6_winsBy 103 = .ok (.isub, 1) := by decide +kernel
theorem dX6_winsBy_104 : decode cX6_winsBy 104 = .ok (.iastore, 1) := by decide +kernel
theorem dX6_winsBy_105 : decode cX6_winsBy 105 = .ok (.aload_n 0, 1) := by decide +kernel
theorem dX6_winsBy_106 : decode cX6_winsBy 106 = .ok (.getfield 50, 3) := by decide +kernel
theorem dX6_winsBy_109 : decode cX6_winsBy 109 = .ok (.iload_n 3, 1) := by decide +kernel
theorem dX6_winsBy_110 : decode cX6_winsBy 110 = .ok (.aload_n 0, 1) := by decide +kernel
theorem dX6_winsBy_111 : decode cX6_winsBy 111 = .ok (.getfield 50, 3) := by decide +kernel
theorem dX6_winsBy_114 : decode cX6_winsBy 114 = .ok (.iload_n 3, 1) := by decide +kernel
theorem dX6_winsBy_115 : decode cX6_winsBy 115 = .ok (.baload, 1) := by decide +kernel
theorem dX6_winsBy_116 : decode cX6_winsBy 116 = .ok (.ifCond .ne 8, 3) := by decide +kernel
theorem dX6_winsBy_119 : decode cX6_winsBy 119 = .ok (.iload 5, 2) := by decide +kernel
theorem dX6_winsBy_121 : decode cX6_winsBy 121 = .ok (.ifCond .ne 7, 3) := by decide +kernel
theorem dX6_winsBy_124 : decode cX6_winsBy 124 = .ok (.iconst 1, 1) := by decide +kernel
theorem dX6_winsBy_125 : decode cX6_winsBy 125 = .ok (.goto 4, 3) := by decide +kernel
theorem dX6_winsBy_128 : decode cX6_winsBy 128 = .ok (.iconst 0, 1) := by decide +kernel
theorem dX6_winsBy_129 : decode cX6_winsBy 129 = .ok (.bastore, 1) := by decide +kernel
theorem dX6_winsBy_130 : decode cX6_winsBy 130 = .ok (.aload_n 0, 1) := by decide +kernel
theorem dX6_winsBy_131 : decode cX6_winsBy 131 = .ok (.getfield 47, 3) := by decide +kernel
theorem dX6_winsBy_134 : decode cX6_winsBy 134 = .ok (.iload_n 3, 1) := by decide +kernel
theorem dX6_winsBy_135 : decode cX6_winsBy 135 = .ok (.dup2, 1) := by decide +kernel
theorem dX6_winsBy_136 : decode cX6_winsBy 136 = .ok (.iaload, 1) := by decide +kernel
theorem dX6_winsBy_137 : decode cX6_winsBy 137 = .ok (.iconst 1, 1) := by decide +kernel
theorem dX6_winsBy_138 : decode cX6_winsBy 138 = .ok (.iadd, 1) := by decide +kernel
theorem dX6_winsBy_139 : decode cX6_winsBy 139 = .ok (.iastore, 1) := by decide +kernel
theorem dX6_winsBy_140 : decode cX6_winsBy 140 = .ok (.goto 52, 3) := by decide +kernel
theorem dX6_winsBy_143 : decode cX6_winsBy 143 = .ok (.aload_n 0, 1) := by decide +kernel
theorem dX6_winsBy_144 : decode cX6_winsBy 144 = .ok (.aload_n 0, 1) := by decide +kernel
theorem dX6_winsBy_145 : decode cX6_winsBy 145 = .ok (.getfield 47, 3) := by decide +kernel
theorem dX6_winsBy_148 : decode cX6_winsBy 148 = .ok (.iload_n 3, 1) := by decide +kernel
theorem dX6_winsBy_149 : decode cX6_winsBy 149 = .ok (.iaload, 1) := by decide +kernel
theorem dX6_winsBy_150 : decode cX6_winsBy 150 = .ok (.iload_n 1, 1) := by decide +kernel
theorem dX6_winsBy_151 : decode cX6_winsBy 151 = .ok (.invokevirtual 267, 3) := by decide +kernel
theorem dX6_winsBy_154 : decode cX6_winsBy 154 = .ok (.ifCond .eq 28, 3) := by decide +kernel
theorem dX6_winsBy_157 : decode cX6_winsBy 157 = .ok (.iinc 3 1, 3) := by decide +kernel
theorem dX6_winsBy_160 : decode cX6_winsBy 160 = .ok (.iload_n 3, 1) := by decide +kernel
theorem dX6_winsBy_161 : decode cX6_winsBy 161 = .ok (.iload_n 2, 1) := by decide +kernel
theorem dX6_winsBy_162 : decode cX6_winsBy 162 = .ok (.if_icmp .ge 30, 3) := by decide +kernel
theorem dX6_winsBy_165 : decode cX6_winsBy 165 = .ok (.aload_n 0, 1) := by decide +kernel
theorem dX6_winsBy_166 : decode cX6_winsBy 166 = .ok (.getfield 47, 3) := by decide +kernel
theorem dX6_winsBy_169 : decode cX6_winsBy 169 = .ok (.iload_n 3, 1) := by decide +kernel
theorem dX6_winsBy_170 : decode cX6_winsBy 170 = .ok (.iconst 0, 1) := by decide +kernel
theorem dX6_winsBy_171 : decode cX6_winsBy 171 = .ok (.iastore, 1) := by decide +kernel
theorem dX6_winsBy_172 : decode cX6_winsBy 172 = .ok (.aload_n 0, 1) := by decide +kernel
theorem dX6_winsBy_173 : decode cX6_winsBy 173 = .ok (.getfield 50, 3) := by decide +kernel
theorem dX6_winsBy_176 : decode cX6_winsBy 176 = .ok (.iload_n 3, 1) := by decide +kernel
theorem dX6_winsBy_177 : decode cX6_winsBy 177 = .ok (.iconst 0, 1) := by decide +kernel
theorem dX6_winsBy_178 : decode cX6_winsBy 178 = .ok (.bastore, 1) := by decide +kernel
theorem dX6_winsBy_179 : decode cX6_winsBy 179 = .ok (.goto 13, 3) := by decide +kernel
theorem dX6_winsBy_182 : decode cX6_winsBy 182 = .ok (.aload_n 0, 1) := by decide +kernel
theorem dX6_winsBy_183 : decode cX6_winsBy 183 = .ok (.getfield 47, 3) := by decide +kernel
theorem dX6_winsBy_186 : decode cX6_winsBy 186 = .ok (.iload_n 3, 1) := by decide +kernel
theorem dX6_winsBy_187 : decode cX6_winsBy 187 = .ok (.dup2, 1) := by decide +kernel
theorem dX6_winsBy_188 : decode cX6_winsBy 188 = .ok (.iaload, 1) := by decide +kernel
theorem dX6_winsBy_189 : decode cX6_winsBy 189 = .ok (.iconst 1, 1) := by decide +kernel
theorem dX6_winsBy_190 : decode cX6_winsBy 190 = .ok (.iadd, 1) := by decide +kernel
theorem dX6_winsBy_191 : decode cX6_winsBy 191 = .ok (.iastore, 1) := by decide +kernel
theorem dX6_winsBy_192 : decode cX6_winsBy 192 = .ok (.goto (-176), 3) := by decide +kernel
theorem dX6_isGame_0 : decode cX6_isGame 0 = .ok (.iload_n 1, 1) := by decide +kernel
theorem dX6_isGame_1 : decode cX6_isGame 1 = .ok (.i2l, 1) := by decide +kernel
theorem dX6_isGame_2 : decode cX6_isGame 2 = .ok (.lconst 0, 1) := by decide +kernel
theorem dX6_isGame_3 : decode cX6_isGame 3 = .ok (.ldc2_w 214, 3) := by decide +kernel
theorem dX6_isGame_6 : decode cX6_isGame 6 = .ok (.invokestatic 63, 3) := by decide +kernel
theorem dX6_isGame_9 : decode cX6_isGame 9 = .ok (.ifCond .eq 19, 3) := by decide +kernel
theorem dX6_isGame_12 : decode cX6_isGame 12 = .ok (.iload_n 2, 1) := by decide +kernel
theorem dX6_isGame_13 : decode cX6_isGame 13 = .ok (.i2l, 1) := by decide +kernel
theorem dX6_isGame_14 : decode cX6_isGame 14 = .ok (.lconst 0, 1) := by decide +kernel
theorem dX6_isGame_15 : decode cX6_isGame 15 = .ok (.ldc2_w 232, 3) := by decide +kernel
theorem dX6_isGame_18 : decode cX6_isGame 18 = .ok (.invokestatic 63, 3) := by decide +kernel
theorem dX6_isGame_21 : decode cX6_isGame 21 = .ok (.ifCond .eq 7, 3) := by decide +kernel
theorem dX6_isGame_24 : decode cX6_isGame 24 = .ok (.iconst 1, 1) := by decide +kernel
theorem dX6_isGame_25 : decode cX6_isGame 25 = .ok (.goto 4, 3) := by decide +kernel
theorem dX6_isGame_28 : decode cX6_isGame 28 = .ok (.iconst 0, 1) := by decide +kernel
theorem dX6_isGame_29 : decode cX6_isGame 29 = .ok (.ireturn, 1) := by decide +kernel
theorem dX6_game_0 : decode cX6_game 0 = .ok (.aload_n 0, 1) := by decide +kernel
theorem dX6_game_1 : decode cX6_game 1 = .ok (.iload_n 1, 1) := by decide +kernel
theorem dX6_game_2 : decode cX6_game 2 = .ok (.iload_n 2, 1) := by decide +kernel
theorem dX6_game_3 : decode cX6_game 3 = .ok (.invokevirtual 270, 3) := by decide +kernel
theorem dX6_game_6 : decode cX6_game 6 = .ok (.ifCond .ne 5, 3) := by decide +kernel
theorem dX6_game_9 : decode cX6_game 9 = .ok (.iconst (-1), 1) := by decide +kernel
theorem dX6_game_10 : decode cX6_game 10 = .ok (.ireturn, 1) := by decide +kernel
theorem dX6_game_11 : decode cX6_game 11 = .ok (.aload_n 0, 1) := by decide +kernel
theorem dX6_game_12 : decode cX6_game 12 = .ok (.invokevirtual 228, 3) := by decide +kernel
theorem dX6_game_15 : decode cX6_game 15 = .ok (.ifCond .eq 8, 3) := by decide +kernel
theorem dX6_game_18 : decode cX6_game 18 = .ok (.bipush (-4), 2) := by decide +kernel
theorem dX6_game_20 : decode cX6_game 20 = .ok (.goto 17, 3) := by decide +kernel
theorem dX6_game_23 : decode cX6_game 23 = .ok (.aload_n 0, 1) := by decide +kernel
theorem dX6_game_24 : decode cX6_game 24 = .ok (.iload_n 1, 1) := by decide +kernel
theorem dX6_game_25 : decode cX6_game 25 = .ok (.iload_n 2, 1) := by decide +kernel
theorem dX6_game_26 : decode cX6_game 26 = .ok (.invokevirtual 273, 3) := by decide +kernel
theorem dX6_game_29 : decode cX6_game 29 = .ok (.ifCond .eq 7, 3) := by decide +kernel
theorem dX6_game_32 : decode cX6_game 32 = .ok (.iconst 1, 1) := by decide +kernel
theorem dX6_game_33 : decode cX6_game 33 = .ok (.goto 4, 3) := by decide +kernel
theorem dX6_game_36 : decode cX6_game 36 = .ok (.iconst 0, 1) := by decide +kernel
theorem dX6_game_37 : decode cX6_game 37 = .ok (.ireturn, 1) := by decide +kernel
theorem dX6_begin_0 : decode cX6_begin 0 = .ok (.aload_n 0, 1) := by decide +kernel
theorem dX6_begin_1 : decode cX6_begin 1 = .ok (.iload_n 1, 1) := by decide +kernel
theorem dX6_begin_2 : decode cX6_begin 2 = .ok (.iload_n 2, 1) := by decide +kernel
theorem dX6_begin_3 : decode cX6_begin 3 = .ok (.invokevirtual 270, 3) := by decide +kernel
theorem dX6_begin_6 : decode cX6_begin 6 = .ok (.ifCond .ne 5, 3) := by decide +kernel
theorem dX6_begin_9 : decode cX6_begin 9 = .ok (.iconst (-1), 1) := by decide +kernel
theorem dX6_begin_10 : decode cX6_begin 10 = .ok (.ireturn, 1) := by decide +kernel
theorem dX6_begin_11 : decode cX6_begin 11 = .ok (.aload_n 0, 1) := by decide +kernel
theorem dX6_begin_12 : decode cX6_begin 12 = .ok (.invokevirtual 228, 3) := by decide +kernel
theorem dX6_begin_15 : decode cX6_begin 15 = .ok (.ifCond .eq 6, 3) := by decide +kernel
theorem dX6_begin_18 : decode cX6_begin 18 = .ok (.bipush (-4), 2) := by decide +kernel
theorem dX6_begin_20 : decode cX6_begin 20 = .ok (.ireturn, 1) := by decide +kernel
theorem dX6_begin_21 : decode cX6_begin 21 = .ok (.iconst 0, 1) := by decide +kernel
theorem dX6_begin_22 : decode cX6_begin 22 = .ok (.istore_n 3, 1) := by decide +kernel
theorem dX6_begin_23 : decode cX6_begin 23 = .ok (.iload_n 3, 1) := by decide +kernel
theorem dX6_begin_24 : decode cX6_begin 24 = .ok (.aload_n 0, 1) := by decide +kernel
theorem dX6_begin_25 : decode cX6_begin 25 = .ok (.getfield 7, 3) := by decide +kernel
theorem dX6_begin_28 : decode cX6_begin 28 = .ok (.iconst 0, 1) := by decide +kernel
theorem dX6_begin_29 : decode cX6_begin 29 = .ok (.iaload, 1) := by decide +kernel
theorem dX6_begin_30 : decode cX6_begin 30 = .ok (.if_icmp .ge 59, 3) := by decide +kernel
theorem dX6_begin_33 : decode cX6_begin 33 = .ok (.iload_n 2, 1) := by decide +kernel
theorem dX6_begin_34 : decode cX6_begin 34 = .ok (.ifCond .le 55, 3) := by decide +kernel
theorem dX6_begin_37 : decode cX6_begin 37 = .ok (.aload_n 0, 1) := by decide +kernel
theorem dX6_begin_38 : decode cX6_begin 38 = .ok (.iload_n 3, 1) := by decide +kernel
theorem dX6_begin_39 : decode cX6_begin 39 = .ok (.iload_n 1, 1) := by decide +kernel
theorem dX6_begin_40 : decode cX6_begin 40 = .ok (.invokevirtual 267, 3) := by decide +kernel
theorem dX6_begin_43 : decode cX6_begin 43 = .ok (.ifCond .eq 40, 3) := by decide +kernel
theorem dX6_begin_46 : decode cX6_begin 46 = .ok (.aload_n 0, 1) := by decide +kernel
theorem dX6_begin_47 : decode cX6_begin 47 = .ok (.iload_n 1, 1) := by decide +kernel
theorem dX6_begin_48 : decode cX6_begin 48 = .ok (.iload_n 2, 1) := by decide +kernel
theorem dX6_begin_49 : decode cX6_begin 49 = .ok (.iconst 1, 1) := by decide +kernel
theorem dX6_begin_50 : decode cX6_begin 50 = .ok (.isub, 1) := by decide +kernel
theorem dX6_begin_51 : decode cX6_begin 51 = .ok (.invokevirtual 273, 3) := by decide +kernel
theorem dX6_begin_54 : decode cX6_begin 54 = .ok (.ifCond .ne 7, 3) := by decide +kernel
theorem dX6_begin_57 : decode cX6_begin 57 = .ok (.iconst 1, 1) := by decide +kernel
theorem dX6_begin_58 : decode cX6_begin 58 = .ok (.goto 4, 3) := by decide +kernel
theorem dX6_begin_61 : decode cX6_begin 61 = .ok (.iconst 0, 1) := by decide +kernel
theorem dX6_begin_62 : decode cX6_begin 62 = .ok (.istore 4, 2) := by decide +kernel
theorem dX6_begin_64 : decode cX6_begin 64 = .ok (.aload_n 0, 1) := by decide +kernel
theorem dX6_begin_65 : decode cX6_begin 65 = .ok (.getfield 7, 3) := by decide +kernel
theorem dX6_begin_68 : decode cX6_begin 68 = .ok (.iconst 1, 1) := by decide +kernel
theorem dX6_begin_69 : decode cX6_begin 69 = .ok (.iload_n 3, 1) := by decide +kernel
theorem dX6_begin_70 : decode cX6_begin 70 = .ok (.iadd, 1) := by decide +kernel
theorem dX6_begin_71 : decode cX6_begin 71 = .ok (.dup2, 1) := by decide +kernel
theorem dX6_begin_72 : decode cX6_begin 72 = .ok (.iaload, 1) := by decide +kernel
theorem dX6_begin_73 : decode cX6_begin 73 = .ok (.iconst 1, 1) := by decide +kernel
theorem dX6_begin_74 : decode cX6_begin 74 = .ok (.isub, 1) := by decide +kernel
theorem dX6_begin_75 : decode cX6_begin 75 = .ok (.iastore, 1) := by decide +kernel
theorem dX6_begin_76 : decode cX6_begin 76 = .ok (.iload 4, 2) := by decide +kernel
theorem dX6_begin_78 : decode cX6_begin 78 = .ok (.ifCond .eq 5, 3) := by decide +kernel
theorem dX6_begin_81 : decode cX6_begin 81 = .ok (.iload_n 3, 1) := by decide +kernel
theorem dX6_begin_82 : decode cX6_begin 82 = .ok (.ireturn, 1) := by decide +kernel
theorem dX6_begin_83 : decode cX6_begin 83 = .ok (.iinc 3 1, 3) := by decide +kernel
theorem dX6_begin_86 : decode cX6_begin 86 = .ok (.goto (-63), 3) := by decide +kernel
theorem dX6_begin_89 : decode cX6_begin 89 = .ok (.bipush (-9), 2) := by decide +kernel
theorem dX6_begin_91 : decode cX6_begin 91 = .ok (.ireturn, 1) := by decide +kernel
theorem dX6_isSeen_0 : decode cX6_isSeen 0 = .ok (.iconst 1, 1) := by decide +kernel
theorem dX6_isSeen_1 : decode cX6_isSeen 1 = .ok (.istore_n 3, 1) := by decide +kernel
theorem dX6_isSeen_2 : decode cX6_isSeen 2 = .ok (.iconst 0, 1) := by decide +kernel
theorem dX6_isSeen_3 : decode cX6_isSeen 3 = .ok (.istore 4, 2) := by decide +kernel
theorem dX6_isSeen_5 : decode cX6_isSeen 5 = .ok (.iload 4, 2) := by decide +kernel
theorem dX6_isSeen_7 : decode cX6_isSeen 7 = .ok (.aload_n 0, 1) := by decide +kernel
theorem dX6_isSeen_8 : decode cX6_isSeen 8 = .ok (.invokevirtual 177, 3) := by decide +kernel
theorem dX6_isSeen_11 : decode cX6_isSeen 11 = .ok (.if_icmp .ge 51, 3) := by decide +kernel
theorem dX6_isSeen_14 : decode cX6_isSeen 14 = .ok (.iload_n 3, 1) := by decide +kernel
theorem dX6_isSeen_15 : decode cX6_isSeen 15 = .ok (.ifCond .eq 39, 3) := by decide +kernel
theorem dX6_isSeen_18 : decode cX6_isSeen 18 = .ok (.aload_n 0, 1) := by decide +kernel
theorem dX6_isSeen_19 : decode cX6_isSeen 19 = .ok (.aload_n 0, 1) := by decide +kernel
theorem dX6_isSeen_20 : decode cX6_isSeen 20 = .ok (.iload 4, 2) := by decide +kernel
theorem dX6_isSeen_22 : decode cX6_isSeen 22 = .ok (.invokevirtual 121, 3) := by decide +kernel
theorem dX6_isSeen_25 : decode cX6_isSeen 25 = .ok (.aload_n 0, 1) := by decide +kernel
theorem dX6_isSeen_26 : decode cX6_isSeen 26 = .ok (.iload 4, 2) := by decide +kernel
theorem dX6_isSeen_28 : decode cX6_isSeen 28 = .ok (.invokevirtual 171, 3) := by decide +kernel
theorem dX6_isSeen_31 : decode cX6_isSeen 31 = .ok (.iload_n 2, 1) := by decide +kernel
theorem dX6_isSeen_32 : decode cX6_isSeen 32 = .ok (.invokevirtual 174, 3) := by decide +kernel
theorem dX6_isSeen_35 : decode cX6_isSeen 35 = .ok (.aload_n 0, 1) := by decide +kernel
theorem dX6_isSeen_36 : decode cX6_isSeen 36 = .ok (.getfield 16, 3) := by decide +kernel
theorem dX6_isSeen_39 : decode cX6_isSeen 39 = .ok (.bipush 40, 2) := by decide +kernel
theorem dX6_isSeen_41 : decode cX6_isSeen 41 = .ok (.iload_n 1, 1) := by decide +kernel
theorem dX6_isSeen_42 : decode cX6_isSeen 42 = .ok (.imul, 1) := by decide +kernel
theorem dX6_isSeen_43 : decode cX6_isSeen 43 = .ok (.iload 4, 2) := by decide +kernel
theorem dX6_isSeen_45 : decode cX6_isSeen 45 = .ok (.iadd, 1) := by decide +kernel
theorem dX6_isSeen_46 : decode cX6_isSeen 46 = .ok (.iaload, 1) := by decide +kernel
theorem dX6_isSeen_47 : decode cX6_isSeen 47 = .ok (.if_icmp .ne 7, 3) := by decide +kernel
theorem dX6_isSeen_50 : decode cX6_isSeen 50 = .ok (.iconst 1, 1) := by decide +kernel
theorem dX6_isSeen_51 : decode cX6_isSeen 51 = .ok (.goto 4, 3) := by decide +kernel
theorem dX6_isSeen_54 : decode cX6_isSeen 54 = .ok (.iconst 0, 1) := by decide +kernel
theorem dX6_isSeen_55 : decode cX6_isSeen 55 = .ok (.istore_n 3, 1) := by decide +kernel
theorem dX6_isSeen_56 : decode cX6_isSeen 56 = .ok (.iinc 4 1, 3) := by decide +kernel
theorem dX6_isSeen_59 : decode cX6_isSeen 59 = .ok (.goto (-54), 3) := by decide +kernel
theorem dX6_isSeen_62 : decode cX6_isSeen 62 = .ok (.iload_n 3, 1) := by decide +kernel
theorem dX6_isSeen_63 : decode cX6_isSeen 63 = .ok (.ireturn, 1) := by decide +kernel
theorem dX6_fog_0 : decode cX6_fog 0 = .ok (.iload_n 1, 1) := by decide +kernel
theorem dX6_fog_1 : decode cX6_fog 1 = .ok (.invokestatic 69, 3) := by decide +kernel
theorem dX6_fog_4 : decode cX6_fog 4 = .ok (.ifCond .ne 5, 3) := by decide +kernel
theorem dX6_fog_7 : decode cX6_fog 7 = .ok (.iconst (-1), 1) := by decide +kernel
theorem dX6_fog_8 : decode cX6_fog 8 = .ok (.ireturn, 1) := by decide +kernel
theorem dX6_fog_9 : decode cX6_fog 9 = .ok (.aload_n 0, 1) := by decide +kernel
theorem dX6_fog_10 : decode cX6_fog 10 = .ok (.getfield 19, 3) := by decide +kernel
theorem dX6_fog_13 : decode cX6_fog 13 = .ok (.iload_n 1, 1) := by decide +kernel
theorem dX6_fog_14 : decode cX6_fog 14 = .ok (.iaload, 1) := by decide +kernel
theorem dX6_fog_15 : decode cX6_fog 15 = .ok (.ifCond .ge 9, 3) := by decide +kernel
theorem dX6_fog_18 : decode cX6_fog 18 = .ok (.aload_n 0, 1) := by decide +kernel
theorem dX6_fog_19 : decode cX6_fog 19 = .ok (.iconst 1, 1) := by decide +kernel
theorem dX6_fog_20 : decode cX6_fog 20 = .ok (.invokevirtual 73, 3) := by decide +kernel
theorem dX6_fog_23 : decode cX6_fog 23 = .ok (.ireturn, 1) := by decide +kernel
theorem dX6_fog_24 : decode cX6_fog 24 = .ok (.aload_n 0, 1) := by decide +kernel
theorem dX6_fog_25 : decode cX6_fog 25 = .ok (.getfield 19, 3) := by decide +kernel
theorem dX6_fog_28 : decode cX6_fog 28 = .ok (.iload_n 1, 1) := by decide +kernel
theorem dX6_fog_29 : decode cX6_fog 29 = .ok (.iaload, 1) := by decide +kernel
theorem dX6_fog_30 : decode cX6_fog 30 = .ok (.aload_n 0, 1) := by decide +kernel
theorem dX6_fog_31 : decode cX6_fog 31 = .ok (.invokevirtual 177, 3) := by decide +kernel
theorem dX6_fog_34 : decode cX6_fog 34 = .ok (.if_icmp .eq 9, 3) := by decide +kernel
theorem dX6_fog_37 : decode cX6_fog 37 = .ok (.aload_n 0, 1) := by decide +kernel
theorem dX6_fog_38 : decode cX6_fog 38 = .ok (.iconst 5, 1) := by decide +kernel
theorem dX6_fog_39 : decode cX6_fog 39 = .ok (.invokevirtual 73, 3) := by decide +kernel
theorem dX6_fog_42 : decode cX6_fog 42 = .ok (.ireturn, 1) := by decide +kernel
theorem dX6_fog_43 : decode cX6_fog 43 = .ok (.iconst 0, 1) := by decide +kernel
theorem dX6_fog_44 : decode cX6_fog 44 = .ok (.istore_n 2, 1) := by decide +kernel
theorem dX6_fog_45 : decode cX6_fog 45 = .ok (.bipush (-9), 2) := by decide +kernel
theorem dX6_fog_47 : decode cX6_fog 47 = .ok (.istore_n 3, 1) := by decide +kernel
theorem dX6_fog_48 : decode cX6_fog 48 = .ok (.iconst 0, 1) := by decide +kernel
theorem dX6_fog_49 : decode cX6_fog 49 = .ok (.istore 4, 2) := by decide +kernel
theorem dX6_fog_51 : decode cX6_fog 51 = .ok (.iload 4, 2) := by decide +kernel
theorem dX6_fog_53 : decode cX6_fog 53 = .ok (.bipush 32, 2) := by decide +kernel
theorem dX6_fog_55 : decode cX6_fog 55 = .ok (.if_icmp .ge 47, 3) := by decide +kernel
theorem dX6_fog_58 : decode cX6_fog 58 = .ok (.aload_n 0, 1) := by decide +kernel
theorem dX6_fog_59 : decode cX6_fog 59 = .ok (.iload_n 1, 1) := by decide +kernel
theorem dX6_fog_60 : decode cX6_fog 60 = .ok (.iload 4, 2) := by decide +kernel
theorem dX6_fog_62 : decode cX6_fog 62 = .ok (.invokevirtual 276, 3) := by decide +kernel
theorem dX6_fog_65 : decode cX6_fog 65 = .ok (.istore 5, 2) := by decide +kernel
theorem dX6_fog_67 : decode cX6_fog 67 = .ok (.iload 5, 2) := by decide +kernel
theorem dX6_fog_69 : decode cX6_fog 69 = .ok (.ifCond .eq 12, 3) := by decide +kernel
theorem dX6_fog_72 : decode cX6_fog 72 = .ok (.iload_n 2, 1) := by decide +kernel
theorem dX6_fog_73 : decode cX6_fog 73 = .ok (.ifCond .ne 8, 3) := by decide +kernel
theorem dX6_fog_76 : decode cX6_fog 76 = .ok (.iload 4, 2) := by decide +kernel
theorem dX6_fog_78 : decode cX6_fog 78 = .ok (.goto 4, 3) := by decide +kernel
theorem dX6_fog_81 : decode cX6_fog 81 = .ok (.iload_n 3, 1) := by decide +kernel
theorem dX6_fog_82 : decode cX6_fog 82 = .ok (.istore_n 3, 1) := by decide +kernel
theorem dX6_fog_83 : decode cX6_fog 83 = .ok (.iload_n 2, 1) := by decide +kernel
theorem dX6_fog_84 : decode cX6_fog 84 = .ok (.iload 5, 2) := by decide +kernel
theorem dX6_fog_86 : decode cX6_fog 86 = .ok (.ifCond .eq 7, 3) := by decide +kernel
theorem dX6_fog_89 : decode cX6_fog 89 = .ok (.iconst 1, 1) := by decide +kernel
theorem dX6_fog_90 : decode cX6_fog 90 = .ok (.goto 4, 3) := by decide +kernel
theorem dX6_fog_93 : decode cX6_fog 93 = .ok (.iconst 0, 1) := by decide +kernel
theorem dX6_fog_94 : decode cX6_fog 94 = .ok (.iadd, 1) := by decide +kernel
theorem dX6_fog_95 : decode cX6_fog 95 = .ok (.istore_n 2, 1) := by decide +kernel
theorem dX6_fog_96 : decode cX6_fog 96 = .ok (.iinc 4 1, 3) := by decide +kernel
theorem dX6_fog_99 : decode cX6_fog 99 = .ok (.goto (-48), 3) := by decide +kernel
theorem dX6_fog_102 : decode cX6_fog 102 = .ok (.aload_n 0, 1) := by decide +kernel
theorem dX6_fog_103 : decode cX6_fog 103 = .ok (.iload_n 3, 1) := by decide +kernel
theorem dX6_fog_104 : decode cX6_fog 104 = .ok (.iload_n 2, 1) := by decide +kernel
theorem dX6_fog_105 : decode cX6_fog 105 = .ok (.invokevirtual 81, 3) := by decide +kernel
theorem dX6_fog_108 : decode cX6_fog 108 = .ok (.ireturn, 1) := by decide +kernel
theorem dX6_kinds_0 : decode cX6_kinds 0 = .ok (.aload_n 0, 1) := by decide +kernel
theorem dX6_kinds_1 : decode cX6_kinds 1 = .ok (.iload_n 1, 1) := by decide +kernel
theorem dX6_kinds_2 : decode cX6_kinds 2 = .ok (.iload_n 2, 1) := by decide +kernel
theorem dX6_kinds_3 : decode cX6_kinds 3 = .ok (.invokevirtual 193, 3) := by decide +kernel
theorem dX6_kinds_6 : decode cX6_kinds 6 = .ok (.ifCond .eq 10, 3) := by decide +kernel
theorem dX6_kinds_9 : decode cX6_kinds 9 = .ok (.iload_n 3, 1) := by decide +kernel
theorem dX6_kinds_10 : decode cX6_kinds 10 = .ok (.invokestatic 69, 3) := by decide +kernel
theorem dX6_kinds_13 : decode cX6_kinds 13 = .ok (.ifCond .ne 5, 3) := by decide +kernel
theorem dX6_kinds_16 : decode cX6_kinds 16 = .ok (.iconst (-1), 1) := by decide +kernel
theorem dX6_kinds_17 : decode cX6_kinds 17 = .ok (.ireturn, 1) := by decide +kernel
theorem dX6_kinds_18 : decode cX6_kinds 18 = .ok (.aload_n 0, 1) := by decide +kernel
theorem dX6_kinds_19 : decode cX6_kinds 19 = .ok (.iload_n 1, 1) := by decide +kernel
theorem dX6_kinds_20 : decode cX6_kinds 20 = .ok (.iload_n 2, 1) := by decide +kernel
theorem dX6_kinds_21 : decode cX6_kinds 21 = .ok (.invokevirtual 151, 3) := by decide +kernel
theorem dX6_kinds_24 : decode cX6_kinds 24 = .ok (.ifCond .ne 9, 3) := by decide +kernel
theorem dX6_kinds_27 : decode cX6_kinds 27 = .ok (.aload_n 0, 1) := by decide +kernel
theorem dX6_kinds_28 : decode cX6_kinds 28 = .ok (.iconst 2, 1) := by decide +kernel
theorem dX6_kinds_29 : decode cX6_kinds 29 = .ok (.invokevirtual 73, 3) := by decide +kernel
theorem dX6_kinds_32 : decode cX6_kinds 32 = .ok (.ireturn, 1) := by decide +kernel
theorem dX6_kinds_33 : decode cX6_kinds 33 = .ok (.aload_n 0, 1) := by decide +kernel
theorem dX6_kinds_34 : decode cX6_kinds 34 = .ok (.getfield 19, 3) := by decide +kernel
theorem dX6_kinds_37 : decode cX6_kinds 37 = .ok (.iload_n 3, 1) := by decide +kernel
theorem dX6_kinds_38 : decode cX6_kinds 38 = .ok (.iaload, 1) := by decide +kernel
theorem dX6_kinds_39 : decode cX6_kinds 39 = .ok (.ifCond .ge 9, 3) := by decide +kernel
theorem dX6_kinds_42 : decode cX6_kinds 42 = .ok (.aload_n 0, 1) := by decide +kernel
theorem dX6_kinds_43 : decode cX6_kinds 43 = .ok (.iconst 1, 1) := by decide +kernel
theorem dX6_kinds_44 : decode cX6_kinds 44 = .ok (.invokevirtual 73, 3) := by decide +kernel
theorem dX6_kinds_47 : decode cX6_kinds 47 = .ok (.ireturn, 1) := by decide +kernel
theorem dX6_kinds_48 : decode cX6_kinds 48 = .ok (.aload_n 0, 1) := by decide +kernel
theorem dX6_kinds_49 : decode cX6_kinds 49 = .ok (.getfield 19, 3) := by decide +kernel
theorem dX6_kinds_52 : decode cX6_kinds 52 = .ok (.iload_n 3, 1) := by decide +kernel
theorem dX6_kinds_53 : decode cX6_kinds 53 = .ok (.iaload, 1) := by decide +kernel
theorem dX6_kinds_54 : decode cX6_kinds 54 = .ok (.aload_n 0, 1) := by decide +kernel
theorem dX6_kinds_55 : decode cX6_kinds 55 = .ok (.invokevirtual 177, 3) := by decide +kernel
theorem dX6_kinds_58 : decode cX6_kinds 58 = .ok (.if_icmp .eq 9, 3) := by decide +kernel
theorem dX6_kinds_61 : decode cX6_kinds 61 = .ok (.aload_n 0, 1) := by decide +kernel
theorem dX6_kinds_62 : decode cX6_kinds 62 = .ok (.iconst 5, 1) := by decide +kernel
theorem dX6_kinds_63 : decode cX6_kinds 63 = .ok (.invokevirtual 73, 3) := by decide +kernel
theorem dX6_kinds_66 : decode cX6_kinds 66 = .ok (.ireturn, 1) := by decide +kernel
theorem dX6_kinds_67 : decode cX6_kinds 67 = .ok (.aload_n 0, 1) := by decide +kernel
theorem dX6_kinds_68 : decode cX6_kinds 68 = .ok (.iload_n 1, 1) := by decide +kernel
theorem dX6_kinds_69 : decode cX6_kinds 69 = .ok (.iload_n 2, 1) := by decide +kernel
theorem dX6_kinds_70 : decode cX6_kinds 70 = .ok (.invokevirtual 133, 3) := by decide +kernel
theorem dX6_kinds_73 : decode cX6_kinds 73 = .ok (.istore 4, 2) := by decide +kernel
theorem dX6_kinds_75 : decode cX6_kinds 75 = .ok (.iconst 0, 1) := by decide +kernel
theorem dX6_kinds_76 : decode cX6_kinds 76 = .ok (.istore 5, 2) := by decide +kernel
theorem dX6_kinds_78 : decode cX6_kinds 78 = .ok (.iconst 0, 1) := by decide +kernel
theorem dX6_kinds_79 : decode cX6_kinds 79 = .ok (.istore 6, 2) := by decide +kernel
theorem dX6_kinds_81 : decode cX6_kinds 81 = .ok (.iload 6, 2) := by decide +kernel
theorem dX6_kinds_83 : decode cX6_kinds 83 = .ok (.bipush 6, 2) := by decide +kernel
theorem dX6_kinds_85 : decode cX6_kinds 85 = .ok (.if_icmp .ge 47, 3) := by decide +kernel
theorem dX6_kinds_88 : decode cX6_kinds 88 = .ok (.aload_n 0, 1) := by decide +kernel
theorem dX6_kinds_89 : decode cX6_kinds 89 = .ok (.getfield 7, 3) := by decide +kernel
theorem dX6_kinds_92 : decode cX6_kinds 92 = .ok (.bipush 6, 2) := by decide +kernel
theorem dX6_kinds_94 : decode cX6_kinds 94 = .ok (.bipush 6, 2) := by decide +kernel
theorem dX6_kinds_96 : decode cX6_kinds 96 = .ok (.iload_n 1, 1) := by decide +kernel
theorem dX6_kinds_97 : decode cX6_kinds 97 = .ok (.imul, 1) := by decide +kernel
theorem dX6_kinds_98 : decode cX6_kinds 98 = .ok (.iadd, 1) := by decide +kernel
theorem dX6_kinds_99 : decode cX6_kinds 99 = .ok (.iload_n 2, 1) := by decide +kernel
theorem dX6_kinds_100 : decode cX6_kinds 100 = .ok (.iadd, 1) := by decide +kernel
theorem dX6_kinds_101 : decode cX6_kinds 101 = .ok (.iload 6, 2) := by decide +kernel
theorem dX6_kinds_103 : decode cX6_kinds 103 = .ok (.iastore, 1) := by decide +kernel
theorem dX6_kinds_104 : decode cX6_kinds 104 = .ok (.iload 5, 2) := by decide +kernel
theorem dX6_kinds_106 : decode cX6_kinds 106 = .ok (.aload_n 0, 1) := by decide +kernel
theorem dX6_kinds_107 : decode cX6_kinds 107 = .ok (.iload_n 3, 1) := by decide +kernel
theorem dX6_kinds_108 : decode cX6_kinds 108 = .ok (.iconst 0, 1) := by decide +kernel
theorem dX6_kinds_109 : decode cX6_kinds 109 = .ok (.invokevirtual 276, 3) := by decide +kernel
theorem dX6_kinds_112 : decode cX6_kinds 112 = .ok (.ifCond .eq 10, 3) := by decide +kernel
theorem dX6_kinds_115 : decode cX6_kinds 115 = .ok (.iconst 1, 1) := by decide +kernel
theorem dX6_kinds_116 : decode cX6_kinds 116 = .ok (.iload 6, 2) := by decide +kernel
theorem dX6_kinds_118 : decode cX6_kinds 118 = .ok (.ishl, 1) := by decide +kernel
theorem dX6_kinds_119 : decode cX6_kinds 119 = .ok (.goto 4, 3) := by decide +kernel
theorem dX6_kinds_122 : decode cX6_kinds 122 = .ok (.iconst 0, 1) := by decide +kernel
theorem dX6_kinds_123 : decode cX6_kinds 123 = .ok (.ior, 1) := by decide +kernel
theorem dX6_kinds_124 : decode cX6_kinds 124 = .ok (.istore 5, 2) := by decide +kernel
theorem dX6_kinds_126 : decode cX6_kinds 126 = .ok (.iinc 6 1, 3) := by decide +kernel
theorem dX6_kinds_129 : decode cX6_kinds 129 = .ok (.goto (-48), 3) := by decide +kernel
theorem dX6_kinds_132 : decode cX6_kinds 132 = .ok (.aload_n 0, 1) := by decide +kernel
theorem dX6_kinds_133 : decode cX6_kinds 133 = .ok (.getfield 7, 3) := by decide +kernel
theorem dX6_kinds_136 : decode cX6_kinds 136 = .ok (.bipush 6, 2) := by decide +kernel
theorem dX6_kinds_138 : decode cX6_kinds 138 = .ok (.bipush 6, 2) := by decide +kernel
theorem dX6_kinds_140 : decode cX6_kinds 140 = .ok (.iload_n 1, 1) := by decide +kernel
theorem dX6_kinds_141 : decode cX6_kinds 141 = .ok (.imul, 1) := by decide +kernel
theorem dX6_kinds_142 : decode cX6_kinds 142 = .ok (.iadd, 1) := by decide +kernel
theorem dX6_kinds_143 : decode cX6_kinds 143 = .ok (.iload_n 2, 1) := by decide +kernel
theorem dX6_kinds_144 : decode cX6_kinds 144 = .ok (.iadd, 1) := by decide +kernel
theorem dX6_kinds_145 : decode cX6_kinds 145 = .ok (.iload 4, 2) := by decide +kernel
theorem dX6_kinds_147 : decode cX6_kinds 147 = .ok (.iastore, 1) := by decide +kernel
theorem dX6_kinds_148 : decode cX6_kinds 148 = .ok (.iload 5, 2) := by decide +kernel
theorem dX6_kinds_150 : decode cX6_kinds 150 = .ok (.ireturn, 1) := by decide +kernel
theorem dX6_odds_0 : decode cX6_odds 0 = .ok (.aload_n 0, 1) := by decide +kernel
theorem dX6_odds_1 : decode cX6_odds 1 = .ok (.iload_n 1, 1) := by decide +kernel
theorem dX6_odds_2 : decode cX6_odds 2 = .ok (.iload_n 2, 1) := by decide +kernel
theorem dX6_odds_3 : decode cX6_odds 3 = .ok (.invokevirtual 193, 3) := by decide +kernel
theorem dX6_odds_6 : decode cX6_odds 6 = .ok (.ifCond .ne 5, 3) := by decide +kernel
theorem dX6_odds_9 : decode cX6_odds 9 = .ok (.iconst (-1), 1) := by decide +kernel
theorem dX6_odds_10 : decode cX6_odds 10 = .ok (.ireturn, 1) := by decide +kernel
theorem dX6_odds_11 : decode cX6_odds 11 = .ok (.aload_n 0, 1) := by decide +kernel
theorem dX6_odds_12 : decode cX6_odds 12 = .ok (.iload_n 1, 1) := by decide +kernel
theorem dX6_odds_13 : decode cX6_odds 13 = .ok (.iload_n 2, 1) := by decide +kernel
theorem dX6_odds_14 : decode cX6_odds 14 = .ok (.invokevirtual 151, 3) := by decide +kernel
theorem dX6_odds_17 : decode cX6_odds 17 = .ok (.ifCond .ne 9, 3) := by decide +kernel
theorem dX6_odds_20 : decode cX6_odds 20 = .ok (.aload_n 0, 1) := by decide +kernel
theorem dX6_odds_21 : decode cX6_odds 21 = .ok (.iconst 2, 1) := by decide +kernel
theorem dX6_odds_22 : decode cX6_odds 22 = .ok (.invokevirtual 73, 3) := by decide +kernel
theorem dX6_odds_25 : decode cX6_odds 25 = .ok (.ireturn, 1) := by decide +kernel
theorem dX6_odds_26 : decode cX6_odds 26 = .ok (.aload_n 0, 1) := by decide +kernel
theorem dX6_odds_27 : decode cX6_odds 27 = .ok (.iload_n 1, 1) := by decide +kernel
theorem dX6_odds_28 : decode cX6_odds 28 = .ok (.iload_n 2, 1) := by decide +kernel
theorem dX6_odds_29 : decode cX6_odds 29 = .ok (.invokevirtual 159, 3) := by decide +kernel
theorem dX6_odds_32 : decode cX6_odds 32 = .ok (.invokestatic 162, 3) := by decide +kernel
theorem dX6_odds_35 : decode cX6_odds 35 = .ok (.istore_n 3, 1) := by decide +kernel
theorem dX6_odds_36 : decode cX6_odds 36 = .ok (.aload_n 0, 1) := by decide +kernel
theorem dX6_odds_37 : decode cX6_odds 37 = .ok (.iload_n 3, 1) := by decide +kernel
theorem dX6_odds_38 : decode cX6_odds 38 = .ok (.iconst 5, 1) := by decide +kernel
theorem dX6_odds_39 : decode cX6_odds 39 = .ok (.if_icmp .ne 7, 3) := by decide +kernel
theorem dX6_odds_42 : decode cX6_odds 42 = .ok (.lconst 1, 1) := by decide +kernel
theorem dX6_odds_43 : decode cX6_odds 43 = .ok (.goto 5, 3) := by decide +kernel
theorem dX6_odds_46 : decode cX6_odds 46 = .ok (.iload_n 3, 1) := by decide +kernel
theorem dX6_odds_47 : decode cX6_odds 47 = .ok (.i2l, 1) := by decide +kernel
theorem dX6_odds_48 : decode cX6_odds 48 = .ok (.putfield 279, 3) := by decide +kernel
theorem dX6_odds_51 : decode cX6_odds 51 = .ok (.aload_n 0, 1) := by decide +kernel
theorem dX6_odds_52 : decode cX6_odds 52 = .ok (.iload_n 3, 1) := by decide +kernel
theorem dX6_odds_53 : decode cX6_odds 53 = .ok (.iconst 5, 1) := by decide +kernel
theorem dX6_odds_54 : decode cX6_odds 54 = .ok (.if_icmp .eq 7, 3) := by decide +kernel
theorem dX6_odds_57 : decode cX6_odds 57 = .ok (.iload_n 3, 1) := by decide +kernel
theorem dX6_odds_58 : decode cX6_odds 58 = .ok (.ifCond .ne 7, 3) := by decide +kernel
theorem dX6_odds_61 : decode cX6_odds 61 = .ok (.lconst 1, 1) := by decide +kernel
theorem dX6_odds_62 : decode cX6_odds 62 = .ok (.goto 6, 3) := by decide +kernel
theorem dX6_odds_65 : decode cX6_odds 65 = .ok (.ldc2_w 61, 3) := by decide +kernel
theorem dX6_odds_68 : decode cX6_odds 68 = .ok (.putfield 34, 3) := by decide +kernel
theorem dX6_odds_71 : decode cX6_odds 71 = .ok (.iconst 1, 1) := by decide +kernel
theorem dX6_odds_72 : decode cX6_odds 72 = .ok (.ireturn, 1) := by decide +kernel
theorem dX6_lots_0 : decode cX6_lots 0 = .ok (.iload_n 1, 1) := by decide +kernel
theorem dX6_lots_1 : decode cX6_lots 1 = .ok (.i2l, 1) := by decide +kernel
theorem dX6_lots_2 : decode cX6_lots 2 = .ok (.lconst 1, 1) := by decide +kernel
theorem dX6_lots_3 : decode cX6_lots 3 = .ok (.ldc2_w 282, 3) := by decide +kernel
theorem dX6_lots_6 : decode cX6_lots 6 = .ok (.invokestatic 63, 3) := by decide +kernel
theorem dX6_lots_9 : decode cX6_lots 9 = .ok (.ifCond .eq 15, 3) := by decide +kernel
theorem dX6_lots_12 : decode cX6_lots 12 = .ok (.iload_n 2, 1) := by decide +kernel
theorem dX6_lots_13 : decode cX6_lots 13 = .ok (.i2l, 1) := by decide +kernel
theorem dX6_lots_14 : decode cX6_lots 14 = .ok (.lconst 1, 1) := by decide +kernel
theorem dX6_lots_15 : decode cX6_lots 15 = .ok (.ldc2_w 284, 3) := by decide +kernel
theorem dX6_lots_18 : decode cX6_lots 18 = .ok (.invokestatic 63, 3) := by decide +kernel
theorem dX6_lots_21 : decode cX6_lots 21 = .ok (.ifCond .ne 5, 3) := by decide +kernel
theorem dX6_lots_24 : decode cX6_lots 24 = .ok (.iconst (-1), 1) := by decide +kernel
theorem dX6_lots_25 : decode cX6_lots 25 = .ok (.ireturn, 1) := by decide +kernel
theorem dX6_lots_26 : decode cX6_lots 26 = .ok (.aload_n 0, 1) := by decide +kernel
theorem dX6_lots_27 : decode cX6_lots 27 = .ok (.invokevirtual 228, 3) := by decide +kernel
theorem dX6_lots_30 : decode cX6_lots 30 = .ok (.ifCond .eq 6, 3) := by decide +kernel
theorem dX6_lots_33 : decode cX6_lots 33 = .ok (.bipush (-4), 2) := by decide +kernel
theorem dX6_lots_35 : decode cX6_lots 35 = .ok (.ireturn, 1) := by decide +kernel
theorem dX6_lots_36 : decode cX6_lots 36 = .ok (.aload_n 0, 1) := by decide +kernel
theorem dX6_lots_37 : decode cX6_lots 37 = .ok (.getfield 115, 3) := by decide +kernel
theorem dX6_lots_40 : decode cX6_lots 40 = .ok (.iload_n 1, 1) := by decide +kernel
theorem dX6_lots_41 : decode cX6_lots 41 = .ok (.iadd, 1) := by decide +kernel
theorem dX6_lots_42 : decode cX6_lots 42 = .ok (.bipush 40, 2) := by decide +kernel
theorem dX6_lots_44 : decode cX6_lots 44 = .ok (.if_icmp .le 6, 3) := by decide +kernel
theorem dX6_lots_47 : decode cX6_lots 47 = .ok (.bipush (-2), 2) := by decide +kernel
theorem dX6_lots_49 : decode cX6_lots 49 = .ok (.ireturn, 1) := by decide +kernel
theorem dX6_lots_50 : decode cX6_lots 50 = .ok (.iload_n 2, 1) := by decide +kernel
theorem dX6_lots_51 : decode cX6_lots 51 = .ok (.i2l, 1) := by decide +kernel
theorem dX6_lots_52 : decode cX6_lots 52 = .ok (.lstore_n 3, 1) := by decide +kernel
theorem dX6_lots_53 : decode cX6_lots 53 = .ok (.iconst 0, 1) := by decide +kernel
theorem dX6_lots_54 : decode cX6_lots 54 = .ok (.istore 5, 2) := by decide +kernel
theorem dX6_lots_56 : decode cX6_lots 56 = .ok (.iconst 0, 1) := by decide +kernel
theorem dX6_lots_57 : decode cX6_lots 57 = .ok (.istore 6, 2) := by decide +kernel
theorem dX6_lots_59 : decode cX6_lots 59 = .ok (.iload 6, 2) := by decide +kernel
theorem dX6_lots_61 : decode cX6_lots 61 = .ok (.iload_n 1, 1) := by decide +kernel
theorem dX6_lots_62 : decode cX6_lots 62 = .ok (.if_icmp .ge 74, 3) := by decide +kernel
theorem dX6_lots_65 : decode cX6_lots 65 = .ok (.lload_n 3, 1) := by decide +kernel
theorem dX6_lots_66 : decode cX6_lots 66 = .ok (.ldc2_w 286, 3) := by decide +kernel
theorem dX6_lots_69 : decode cX6_lots 69 = .ok (.lmul, 1) := by decide +kernel
theorem dX6_lots_70 : decode cX6_lots 70 = .ok (.ldc2_w 288, 3) := by decide +kernel
theorem dX6_lots_73 : decode cX6_lots 73 = .ok (.lrem, 1) := by decide +kernel
theorem dX6_lots_74 : decode cX6_lots 74 = .ok (.lstore_n 3, 1) := by decide +kernel
theorem dX6_lots_75 : decode cX6_lots 75 = .ok (.lload_n 3, 1) := by decide +kernel
theorem dX6_lots_76 : decode cX6_lots 76 = .ok (.aload_n 0, 1) := by decide +kernel
theorem dX6_lots_77 : decode cX6_lots 77 = .ok (.getfield 7, 3) := by decide +kernel
theorem dX6_lots_80 : decode cX6_lots 80 = .ok (.iconst 0, 1) := by decide +kernel
theorem dX6_lots_81 : decode cX6_lots 81 = .ok (.iaload, 1) := by decide +kernel
theorem dX6_lots_82 : decode cX6_lots 82 = .ok (.i2l, 1) := by decide +kernel
theorem dX6_lots_83 : decode cX6_lots 83 = .ok (.lrem, 1) := by decide +kernel
theorem dX6_lots_84 : decode cX6_lots 84 = .ok (.l2i, 1) := by decide +kernel
theorem dX6_lots_85 : decode cX6_lots 85 = .ok (.istore 7, 2) := by decide +kernel
theorem dX6_lots_87 : decode cX6_lots 87 = .ok (.aload_n 0, 1) := by decide +kernel
theorem dX6_lots_88 : decode cX6_lots 88 = .ok (.iload 7, 2) := by decide +kernel
theorem dX6_lots_90 : decode cX6_lots 90 = .ok (.invokevirtual 216, 3) := by decide +kernel
theorem dX6_lots_93 : decode cX6_lots 93 = .ok (.ifCond .eq 37, 3) := by decide +kernel
theorem dX6_lots_96 : decode cX6_lots 96 = .ok (.aload_n 0, 1) := by decide +kernel
theorem dX6_lots_97 : decode cX6_lots 97 = .ok (.invokevirtual 219, 3) := by decide +kernel
theorem dX6_lots_100 : decode cX6_lots 100 = .ok (.aload_n 0, 1) := by decide +kernel
theorem dX6_lots_101 : decode cX6_lots 101 = .ok (.iconst 0, 1) := by decide +kernel
theorem dX6_lots_102 : decode cX6_lots 102 = .ok (.iload 7, 2) := by decide +kernel
theorem dX6_lots_104 : decode cX6_lots 104 = .ok (.lload_n 3, 1) := by decide +kernel
theorem dX6_lots_105 : decode cX6_lots 105 = .ok (.ldc2_w 290, 3) := by decide +kernel
theorem dX6_lots_108 : decode cX6_lots 108 = .ok (.ldiv, 1) := by decide +kernel
theorem dX6_lots_109 : decode cX6_lots 109 = .ok (.ldc2_w 196, 3) := by decide +kernel
theorem dX6_lots_112 : decode cX6_lots 112 = .ok (.lrem, 1) := by decide +kernel
theorem dX6_lots_113 : decode cX6_lots 113 = .ok (.l2i, 1) := by decide +kernel
theorem dX6_lots_114 : decode cX6_lots 114 = .ok (.lload_n 3, 1) := by decide +kernel
theorem dX6_lots_115 : decode cX6_lots 115 = .ok (.ldc2_w 292, 3) := by decide +kernel
theorem dX6_lots_118 : decode cX6_lots 118 = .ok (.ldiv, 1) := by decide +kernel
theorem dX6_lots_119 : decode cX6_lots 119 = .ok (.ldc2_w 294, 3) := by decide +kernel
theorem dX6_lots_122 : decode cX6_lots 122 = .ok (.lrem, 1) := by decide +kernel
theorem dX6_lots_123 : decode cX6_lots 123 = .ok (.l2i, 1) := by decide +kernel
theorem dX6_lots_124 : decode cX6_lots 124 = .ok (.invokevirtual 104, 3) := by decide +kernel
theorem dX6_lots_127 : decode cX6_lots 127 = .ok (.iinc 5 1, 3) := by decide +kernel
theorem dX6_lots_130 : decode cX6_lots 130 = .ok (.iinc 6 1, 3) := by decide +kernel
theorem dX6_lots_133 : decode cX6_lots 133 = .ok (.goto (-74), 3) := by decide +kernel
theorem dX6_lots_136 : decode cX6_lots 136 = .ok (.iload 5, 2) := by decide +kernel
theorem dX6_lots_138 : decode cX6_lots 138 = .ok (.ireturn, 1) := by decide +kernel
theorem dX6_asked_0 : decode cX6_asked 0 = .ok (.aload_n 0, 1) := by decide +kernel
theorem dX6_asked_1 : decode cX6_asked 1 = .ok (.getfield 58, 3) := by decide +kernel
theorem dX6_asked_4 : decode cX6_asked 4 = .ok (.ireturn, 1) := by decide +kernel
theorem dX6_upper_0 : decode cX6_upper 0 = .ok (.aload_n 0, 1) := by decide +kernel
theorem dX6_upper_1 : decode cX6_upper 1 = .ok (.getfield 279, 3) := by decide +kernel
theorem dX6_upper_4 : decode cX6_upper 4 = .ok (.lreturn, 1) := by decide +kernel
theorem dX6_lower_0 : decode cX6_lower 0 = .ok (.aload_n 0, 1) := by decide +kernel
theorem dX6_lower_1 : decode cX6_lower 1 = .ok (.getfield 34, 3) := by decide +kernel
theorem dX6_lower_4 : decode cX6_lower 4 = .ok (.lreturn, 1) := by decide +kernel
theorem dX6_kindsMany_0 : decode cX6_kindsMany 0 = .ok (.iconst 0, 1) := by decide +kernel
theorem dX6_kindsMany_1 : decode cX6_kindsMany 1 = .ok (.istore_n 2, 1) := by decide +kernel
theorem dX6_kindsMany_2 : decode cX6_kindsMany 2 = .ok (.iconst 0, 1) := by decide +kernel
theorem dX6_kindsMany_3 : decode cX6_kindsMany 3 = .ok (.istore_n 3, 1) := by decide +kernel
theorem dX6_kindsMany_4 : decode cX6_kindsMany 4 = .ok (.iload_n 3, 1) := by decide +kernel
theorem dX6_kindsMany_5 : decode cX6_kindsMany 5 = .ok (.aload_n 0, 1) := by decide +kernel
theorem dX6_kindsMany_6 : decode cX6_kindsMany 6 = .ok (.getfield 7, 3) := by decide +kernel
theorem dX6_kindsMany_9 : decode cX6_kindsMany 9 = .ok (.iconst 0, 1) := by decide +kernel
theorem dX6_kindsMany_10 : decode cX6_kindsMany 10 = .ok (.iaload, 1) := by decide +kernel
theorem dX6_kindsMany_11 : decode cX6_kindsMany 11 = .ok (.if_icmp .ge 72, 3) := by decide +kernel
theorem dX6_kindsMany_14 : decode cX6_kindsMany 14 = .ok (.iconst 0, 1) := by decide +kernel
theorem dX6_kindsMany_15 : decode cX6_kindsMany 15 = .ok (.istore 4, 2) := by decide +kernel
theorem dX6_kindsMany_17 : decode cX6_kindsMany 17 = .ok (.iload 4, 2) := by decide +kernel
theorem dX6_kindsMany_19 : decode cX6_kindsMany 19 = .ok (.aload_n 0, 1) := by decide +kernel
theorem dX6_kindsMany_20 : decode cX6_kindsMany 20 = .ok (.getfield 7, 3) := by decide +kernel
theorem dX6_kindsMany_23 : decode cX6_kindsMany 23 = .ok (.iconst 1, 1) := by decide +kernel
theorem dX6_kindsMany_24 : decode cX6_kindsMany 24 = .ok (.iload_n 3, 1) := by decide +kernel
theorem dX6_kindsMany_25 : decode cX6_kindsMany 25 = .ok (.iadd, 1) := by decide +kernel
theorem dX6_kindsMany_26 : decode cX6_kindsMany 26 = .ok (.iaload, 1) := by decide +kernel
theorem dX6_kindsMany_27 : decode cX6_kindsMany 27 = .ok (.if_icmp .ge 50, 3) := by decide +kernel
theorem dX6_kindsMany_30 : decode cX6_kindsMany 30 = .ok (.iload_n 2, 1) := by decide +kernel
theorem dX6_kindsMany_31 : decode cX6_kindsMany 31 = .ok (.iload_n 1, 1) := by decide +kernel
theorem dX6_kindsMany_32 : decode cX6_kindsMany 32 = .ok (.ifCond .eq 19, 3) := by decide +kernel
theorem dX6_kindsMany_35 : decode cX6_kindsMany 35 = .ok (.aload_n 0, 1) := by decide +kernel
theorem dX6_kindsMany_36 : decode cX6_kindsMany 36 = .ok (.iload_n 3, 1) := by decide +kernel
theorem dX6_kindsMany_37 : decode cX6_kindsMany 37 = .ok (.iload 4, 2) := by decide +kernel
theorem dX6_kindsMany_39 : decode cX6_kindsMany 39 = .ok (.invokevirtual 133, 3) := by decide +kernel
theorem dX6_kindsMany_42 : decode cX6_kindsMany 42 = .ok (.invokestatic 127, 3) := by decide +kernel
theorem dX6_kindsMany_45 : decode cX6_kindsMany 45 = .ok (.ifCond .eq 23, 3) := by decide +kernel
theorem dX6_kindsMany_48 : decode cX6_kindsMany 48 = .ok (.goto 16, 3) := by decide +kernel
theorem dX6_kindsMany_51 : decode cX6_kindsMany 51 = .ok (.aload_n 0, 1) := by decide +kernel
theorem dX6_kindsMany_52 : decode cX6_kindsMany 52 = .ok (.iload_n 3, 1) := by decide +kernel
theorem dX6_kindsMany_53 : decode cX6_kindsMany 53 = .ok (.iload 4, 2) := by decide +kernel
theorem dX6_kindsMany_55 : decode cX6_kindsMany 55 = .ok (.invokevirtual 133, 3) := by decide +kernel
theorem dX6_kindsMany_58 : decode cX6_kindsMany 58 = .ok (.invokestatic 130, 3) := by decide +kernel
theorem dX6_kindsMany_61 : decode cX6_kindsMany 61 = .ok (.ifCond .eq 7, 3) := by decide +kernel
theorem dX6_kindsMany_64 : decode cX6_kindsMany 64 = .ok (.iconst 1, 1) := by decide +kernel
theorem dX6_kindsMany_65 : decode cX6_kindsMany 65 = .ok (.goto 4, 3) := by decide +kernel
theorem dX6_kindsMany_68 : decode cX6_kindsMany 68 = .ok (.iconst 0, 1) := by decide +kernel
theorem dX6_kindsMany_69 : decode cX6_kindsMany 69 = .ok (.iadd, 1) := by decide +kernel
theorem dX6_kindsMany_70 : decode cX6_kindsMany 70 = .ok (.istore_n 2, 1) := by decide +kernel
theorem dX6_kindsMany_71 : decode cX6_kindsMany 71 = .ok (.iinc 4 1, 3) := by decide +kernel
theorem dX6_kindsMany_74 : decode cX6_kindsMany 74 = .ok (.goto (-57), 3) := by decide +kernel
theorem dX6_kindsMany_77 : decode cX6_kindsMany 77 = .ok (.iinc 3 1, 3) := by decide +kernel
theorem dX6_kindsMany_80 : decode cX6_kindsMany 80 = .ok (.goto (-76), 3) := by decide +kernel
theorem dX6_kindsMany_83 : decode cX6_kindsMany 83 = .ok (.iload_n 2, 1) := by decide +kernel
theorem dX6_kindsMany_84 : decode cX6_kindsMany 84 = .ok (.ireturn, 1) := by decide +kernel
theorem dX6_thereOf_0 : decode cX6_thereOf 0 = .ok (.iconst 0, 1) := by decide +kernel
theorem dX6_thereOf_1 : decode cX6_thereOf 1 = .ok (.istore_n 2, 1) := by decide +kernel
theorem dX6_thereOf_2 : decode cX6_thereOf 2 = .ok (.iconst 0, 1) := by decide +kernel
theorem dX6_thereOf_3 : decode cX6_thereOf 3 = .ok (.istore_n 3, 1) := by decide +kernel
theorem dX6_thereOf_4 : decode cX6_thereOf 4 = .ok (.iload_n 3, 1) := by decide +kernel
theorem dX6_thereOf_5 : decode cX6_thereOf 5 = .ok (.iload_n 1, 1) := by decide +kernel
theorem dX6_thereOf_6 : decode cX6_thereOf 6 = .ok (.if_icmp .ge 23, 3) := by decide +kernel
theorem dX6_thereOf_9 : decode cX6_thereOf 9 = .ok (.iload_n 2, 1) := by decide +kernel
theorem dX6_thereOf_10 : decode cX6_thereOf 10 = .ok (.aload_n 0, 1) := by decide +kernel
theorem dX6_thereOf_11 : decode cX6_thereOf 11 = .ok (.iload_n 3, 1) := by decide +kernel
theorem dX6_thereOf_12 : decode cX6_thereOf 12 = .ok (.iaload, 1) := by decide +kernel
theorem dX6_thereOf_13 : decode cX6_thereOf 13 = .ok (.ifCond .ge 7, 3) := by decide +kernel
theorem dX6_thereOf_16 : decode cX6_thereOf 16 = .ok (.iconst 0, 1) := by decide +kernel
theorem dX6_thereOf_17 : decode cX6_thereOf 17 = .ok (.goto 4, 3) := by decide +kernel
theorem dX6_thereOf_20 : decode cX6_thereOf 20 = .ok (.iconst 1, 1) := by decide +kernel
theorem dX6_thereOf_21 : decode cX6_thereOf 21 = .ok (.iadd, 1) := by decide +kernel
theorem dX6_thereOf_22 : decode cX6_thereOf 22 = .ok (.istore_n 2, 1) := by decide +kernel
theorem dX6_thereOf_23 : decode cX6_thereOf 23 = .ok (.iinc 3 1, 3) := by decide +kernel
theorem dX6_thereOf_26 : decode cX6_thereOf 26 = .ok (.goto (-22), 3) := by decide +kernel
theorem dX6_thereOf_29 : decode cX6_thereOf 29 = .ok (.iload_n 2, 1) := by decide +kernel
theorem dX6_thereOf_30 : decode cX6_thereOf 30 = .ok (.ireturn, 1) := by decide +kernel
theorem dX6_highest_0 : decode cX6_highest 0 = .ok (.iconst 0, 1) := by decide +kernel
theorem dX6_highest_1 : decode cX6_highest 1 = .ok (.istore_n 1, 1) := by decide +kernel
theorem dX6_highest_2 : decode cX6_highest 2 = .ok (.iconst 0, 1) := by decide +kernel
theorem dX6_highest_3 : decode cX6_highest 3 = .ok (.istore_n 2, 1) := by decide +kernel
theorem dX6_highest_4 : decode cX6_highest 4 = .ok (.iload_n 2, 1) := by decide +kernel
theorem dX6_highest_5 : decode cX6_highest 5 = .ok (.aload_n 0, 1) := by decide +kernel
theorem dX6_highest_6 : decode cX6_highest 6 = .ok (.getfield 7, 3) := by decide +kernel
theorem dX6_highest_9 : decode cX6_highest 9 = .ok (.iconst 0, 1) := by decide +kernel
theorem dX6_highest_10 : decode cX6_highest 10 = .ok (.iaload, 1) := by decide +kernel
theorem dX6_highest_11 : decode cX6_highest 11 = .ok (.if_icmp .ge 34, 3) := by decide +kernel
theorem dX6_highest_14 : decode cX6_highest 14 = .ok (.aload_n 0, 1) := by decide +kernel
theorem dX6_highest_15 : decode cX6_highest 15 = .ok (.getfield 7, 3) := by decide +kernel
theorem dX6_highest_18 : decode cX6_highest 18 = .ok (.iconst 1, 1) := by decide +kernel
theorem dX6_highest_19 : decode cX6_highest 19 = .ok (.iload_n 2, 1) := by decide +kernel
theorem dX6_highest_20 : decode cX6_highest 20 = .ok (.iadd, 1) := by decide +kernel
theorem dX6_highest_21 : decode cX6_highest 21 = .ok (.iaload, 1) := by decide +kernel
theorem dX6_highest_22 : decode cX6_highest 22 = .ok (.iload_n 1, 1) := by decide +kernel
theorem dX6_highest_23 : decode cX6_highest 23 = .ok (.if_icmp .le 14, 3) := by decide +kernel
theorem dX6_highest_26 : decode cX6_highest 26 = .ok (.aload_n 0, 1) := by decide +kernel
theorem dX6_highest_27 : decode cX6_highest 27 = .ok (.getfield 7, 3) := by decide +kernel
theorem dX6_highest_30 : decode cX6_highest 30 = .ok (.iconst 1, 1) := by decide +kernel
theorem dX6_highest_31 : decode cX6_highest 31 = .ok (.iload_n 2, 1) := by decide +kernel
theorem dX6_highest_32 : decode cX6_highest 32 = .ok (.iadd, 1) := by decide +kernel
theorem dX6_highest_33 : decode cX6_highest 33 = .ok (.iaload, 1) := by decide +kernel
theorem dX6_highest_34 : decode cX6_highest 34 = .ok (.goto 4, 3) := by decide +kernel
theorem dX6_highest_37 : decode cX6_highest 37 = .ok (.iload_n 1, 1) := by decide +kernel
theorem dX6_highest_38 : decode cX6_highest 38 = .ok (.istore_n 1, 1) := by decide +kernel
theorem dX6_highest_39 : decode cX6_highest 39 = .ok (.iinc 2 1, 3) := by decide +kernel
theorem dX6_highest_42 : decode cX6_highest 42 = .ok (.goto (-38), 3) := by decide +kernel
theorem dX6_highest_45 : decode cX6_highest 45 = .ok (.iload_n 1, 1) := by decide +kernel
theorem dX6_highest_46 : decode cX6_highest 46 = .ok (.ireturn, 1) := by decide +kernel
theorem dX6_count_0 : decode cX6_count 0 = .ok (.iload_n 1, 1) := by decide +kernel
theorem dX6_count_1 : decode cX6_count 1 = .ok (.tableswitch 113 0 8 #[51, 58, 63, 68, 73, 79, 85, 95, 104], 51) := by decide +kernel
theorem dX6_count_52 : decode cX6_count 52 = .ok (.aload_n 0, 1) := by decide +kernel
theorem dX6_count_53 : decode cX6_count 53 = .ok (.getfield 7, 3) := by decide +kernel
theorem dX6_count_56 : decode cX6_count 56 = .ok (.iconst 0, 1) := by decide +kernel
theorem dX6_count_57 : decode cX6_count 57 = .ok (.iaload, 1) := by decide +kernel
theorem dX6_count_58 : decode cX6_count 58 = .ok (.ireturn, 1) := by decide +kernel
theorem dX6_count_59 : decode cX6_count 59 = .ok (.aload_n 0, 1) := by decide +kernel
theorem dX6_count_60 : decode cX6_count 60 = .ok (.invokevirtual 177, 3) := by decide +kernel
theorem dX6_count_63 : decode cX6_count 63 = .ok (.ireturn, 1) := by decide +kernel
theorem dX6_count_64 : decode cX6_count 64 = .ok (.aload_n 0, 1) := by decide +kernel
theorem dX6_count_65 : decode cX6_count 65 = .ok (.getfield 115, 3) := by decide +kernel
theorem dX6_count_68 : decode cX6_count 68 = .ok (.ireturn, 1) := by decide +kernel
theorem dX6_count_69 : decode cX6_count 69 = .ok (.aload_n 0, 1) := by decide +kernel
theorem dX6_count_70 : decode cX6_count 70 = .ok (.invokevirtual 296, 3) := by decide +kernel
theorem dX6_count_73 : decode cX6_count 73 = .ok (.ireturn, 1) := by decide +kernel
theorem dX6_count_74 : decode cX6_count 74 = .ok (.aload_n 0, 1) := by decide +kernel
theorem dX6_count_75 : decode cX6_count 75 = .ok (.iconst 1, 1) := by decide +kernel
theorem dX6_count_76 : decode cX6_count 76 = .ok (.invokevirtual 299, 3) := by decide +kernel
theorem dX6_count_79 : decode cX6_count 79 = .ok (.ireturn, 1) := by decide +kernel
theorem dX6_count_80 : decode cX6_count 80 = .ok (.aload_n 0, 1) := by decide +kernel
theorem dX6_count_81 : decode cX6_count 81 = .ok (.iconst 0, 1) := by decide +kernel
theorem dX6_count_82 : decode cX6_count 82 = .ok (.invokevirtual 299, 3) := by decide +kernel
theorem dX6_count_85 : decode cX6_count 85 = .ok (.ireturn, 1) := by decide +kernel
theorem dX6_count_86 : decode cX6_count 86 = .ok (.aload_n 0, 1) := by decide +kernel
theorem dX6_count_87 : decode cX6_count 87 = .ok (.getfield 19, 3) := by decide +kernel
theorem dX6_count_90 : decode cX6_count 90 = .ok (.bipush 6, 2) := by decide +kernel
theorem dX6_count_92 : decode cX6_count 92 = .ok (.invokestatic 303, 3) := by decide +kernel
theorem dX6_count_95 : decode cX6_count 95 = .ok (.ireturn, 1) := by decide +kernel
theorem dX6_count_96 : decode cX6_count 96 = .ok (.aload_n 0, 1) := by decide +kernel
theorem dX6_count_97 : decode cX6_count 97 = .ok (.getfield 25, 3) := by decide +kernel
theorem dX6_count_100 : decode cX6_count 100 = .ok (.iconst 4, 1) := by decide +kernel
theorem dX6_count_101 : decode cX6_count 101 = .ok (.invokestatic 303, 3) := by decide +kernel
theorem dX6_count_104 : decode cX6_count 104 = .ok (.ireturn, 1) := by decide +kernel
theorem dX6_count_105 : decode cX6_count 105 = .ok (.aload_n 0, 1) := by decide +kernel
theorem dX6_count_106 : decode cX6_count 106 = .ok (.getfield 13, 3) := by decide +kernel
theorem dX6_count_109 : decode cX6_count 109 = .ok (.iconst 3, 1) := by decide +kernel
theorem dX6_count_110 : decode cX6_count 110 = .ok (.invokestatic 303, 3) := by decide +kernel
theorem dX6_count_113 : decode cX6_count 113 = .ok (.ireturn, 1) := by decide +kernel
theorem dX6_count_114 : decode cX6_count 114 = .ok (.iconst (-1), 1) := by decide +kernel
theorem dX6_count_115 : decode cX6_count 115 = .ok (.ireturn, 1) := by decide +kernel
theorem dX6_finding_0 : decode cX6_finding 0 = .ok (.aload_n 0, 1) := by decide +kernel
theorem dX6_finding_1 : decode cX6_finding 1 = .ok (.getfield 54, 3) := by decide +kernel
theorem dX6_finding_4 : decode cX6_finding 4 = .ok (.ireturn, 1) := by decide +kernel
theorem dX6_findings_0 : decode cX6_findings 0 = .ok (.iload_n 1, 1) := by decide +kernel
theorem dX6_findings_1 : decode cX6_findings 1 = .ok (.i2l, 1) := by decide +kernel
theorem dX6_findings_2 : decode cX6_findings 2 = .ok (.lconst 1, 1) := by decide +kernel
theorem dX6_findings_3 : decode cX6_findings 3 = .ok (.ldc2_w 61, 3) := by decide +kernel
theorem dX6_findings_6 : decode cX6_findings 6 = .ok (.invokestatic 63, 3) := by decide +kernel
theorem dX6_findings_9 : decode cX6_findings 9 = .ok (.ifCond .eq 12, 3) := by decide +kernel
theorem dX6_findings_12 : decode cX6_findings 12 = .ok (.aload_n 0, 1) := by decide +kernel
theorem dX6_findings_13 : decode cX6_findings 13 = .ok (.getfield 31, 3) := by decide +kernel
theorem dX6_findings_16 : decode cX6_findings 16 = .ok (.iload_n 1, 1) := by decide +kernel
theorem dX6_findings_17 : decode cX6_findings 17 = .ok (.iaload, 1) := by decide +kernel
theorem dX6_findings_18 : decode cX6_findings 18 = .ok (.goto 4, 3) := by decide +kernel
theorem dX6_findings_21 : decode cX6_findings 21 = .ok (.iconst (-1), 1) := by decide +kernel
theorem dX6_findings_22 : decode cX6_findings 22 = .ok (.ireturn, 1) := by decide +kernel
theorem dX6_mix_0 : decode cX6_mix 0 = .ok (.aload_n 0, 1) := by decide +kernel
theorem dX6_mix_1 : decode cX6_mix 1 = .ok (.ldc2_w 307, 3) := by decide +kernel
theorem dX6_mix_4 : decode cX6_mix 4 = .ok (.aload_n 0, 1) := by decide +kernel
theorem dX6_mix_5 : decode cX6_mix 5 = .ok (.getfield 309, 3) := by decide +kernel
theorem dX6_mix_8 : decode cX6_mix 8 = .ok (.lmul, 1) := by decide +kernel
theorem dX6_mix_9 : decode cX6_mix 9 = .ok (.lload_n 1, 1) := by decide +kernel
theorem dX6_mix_10 : decode cX6_mix 10 = .ok (.ladd, 1) := by decide +kernel
theorem dX6_mix_11 : decode cX6_mix 11 = .ok (.putfield 309, 3) := by decide +kernel
theorem dX6_mix_14 : decode cX6_mix 14 = .ok (.return_, 1) := by decide +kernel
theorem dX6_digest_0 : decode cX6_digest 0 = .ok (.aload_n 0, 1) := by decide +kernel
theorem dX6_digest_1 : decode cX6_digest 1 = .ok (.ldc2_w 312, 3) := by decide +kernel
theorem dX6_digest_4 : decode cX6_digest 4 = .ok (.putfield 309, 3) := by decide +kernel
theorem dX6_digest_7 : decode cX6_digest 7 = .ok (.iconst 0, 1) := by decide +kernel
theorem dX6_digest_8 : decode cX6_digest 8 = .ok (.istore_n 1, 1) := by decide +kernel
theorem dX6_digest_9 : decode cX6_digest 9 = .ok (.iload_n 1, 1) := by decide +kernel
theorem dX6_digest_10 : decode cX6_digest 10 = .ok (.bipush 9, 2) := by decide +kernel
theorem dX6_digest_12 : decode cX6_digest 12 = .ok (.if_icmp .ge 19, 3) := by decide +kernel
theorem dX6_digest_15 : decode cX6_digest 15 = .ok (.aload_n 0, 1) := by decide +kernel
theorem dX6_digest_16 : decode cX6_digest 16 = .ok (.aload_n 0, 1) := by decide +kernel
theorem dX6_digest_17 : decode cX6_digest 17 = .ok (.iload_n 1, 1) := by decide +kernel
theorem dX6_digest_18 : decode cX6_digest 18 = .ok (.invokevirtual 314, 3) := by decide +kernel
theorem dX6_digest_21 : decode cX6_digest 21 = .ok (.i2l, 1) := by decide +kernel
theorem dX6_digest_22 : decode cX6_digest 22 = .ok (.invokevirtual 317, 3) := by decide +kernel
theorem dX6_digest_25 : decode cX6_digest 25 = .ok (.iinc 1 1, 3) := by decide +kernel
theorem dX6_digest_28 : decode cX6_digest 28 = .ok (.goto (-19), 3) := by decide +kernel
theorem dX6_digest_31 : decode cX6_digest 31 = .ok (.aload_n 0, 1) := by decide +kernel
theorem dX6_digest_32 : decode cX6_digest 32 = .ok (.invokevirtual 184, 3) := by decide +kernel
theorem dX6_digest_35 : decode cX6_digest 35 = .ok (.iconst 0, 1) := by decide +kernel
theorem dX6_digest_36 : decode cX6_digest 36 = .ok (.istore_n 1, 1) := by decide +kernel
theorem dX6_digest_37 : decode cX6_digest 37 = .ok (.iload_n 1, 1) := by decide +kernel
theorem dX6_digest_38 : decode cX6_digest 38 = .ok (.aload_n 0, 1) := by decide +kernel
theorem dX6_digest_39 : decode cX6_digest 39 = .ok (.getfield 7, 3) := by decide +kernel
theorem dX6_digest_42 : decode cX6_digest 42 = .ok (.iconst 0, 1) := by decide +kernel
theorem dX6_digest_43 : decode cX6_digest 43 = .ok (.iaload, 1) := by decide +kernel
theorem dX6_digest_44 : decode cX6_digest 44 = .ok (.if_icmp .ge 68, 3) := by decide +kernel
theorem dX6_digest_47 : decode cX6_digest 47 = .ok (.aload_n 0, 1) := by decide +kernel
theorem dX6_digest_48 : decode cX6_digest 48 = .ok (.aload_n 0, 1) := by decide +kernel
theorem dX6_digest_49 : decode cX6_digest 49 = .ok (.getfield 7, 3) := by decide +kernel
theorem dX6_digest_52 : decode cX6_digest 52 = .ok (.iconst 1, 1) := by decide +kernel
theorem dX6_digest_53 : decode cX6_digest 53 = .ok (.iload_n 1, 1) := by decide +kernel
theorem dX6_digest_54 : decode cX6_digest 54 = .ok (.iadd, 1) := by decide +kernel
theorem dX6_digest_55 : decode cX6_digest 55 = .ok (.iaload, 1) := by decide +kernel
theorem dX6_digest_56 : decode cX6_digest 56 = .ok (.i2l, 1) := by decide +kernel
theorem dX6_digest_57 : decode cX6_digest 57 = .ok (.invokevirtual 317, 3) := by decide +kernel
theorem dX6_digest_60 : decode cX6_digest 60 = .ok (.iconst 0, 1) := by decide +kernel
theorem dX6_digest_61 : decode cX6_digest 61 = .ok (.istore_n 2, 1) := by decide +kernel
theorem dX6_digest_62 : decode cX6_digest 62 = .ok (.iload_n 2, 1) := by decide +kernel
theorem dX6_digest_63 : decode cX6_digest 63 = .ok (.aload_n 0, 1) := by decide +kernel
theorem dX6_digest_64 : decode cX6_digest 64 = .ok (.getfield 7, 3) := by decide +kernel
theorem dX6_digest_67 : decode cX6_digest 67 = .ok (.iconst 1, 1) := by decide +kernel
theorem dX6_digest_68 : decode cX6_digest 68 = .ok (.iload_n 1, 1) := by decide +kernel
theorem dX6_digest_69 : decode cX6_digest 69 = .ok (.iadd, 1) := by decide +kernel
theorem dX6_digest_70 : decode cX6_digest 70 = .ok (.iaload, 1) := by decide +kernel
theorem dX6_digest_71 : decode cX6_digest 71 = .ok (.if_icmp .ge 35, 3) := by decide +kernel
theorem dX6_digest_74 : decode cX6_digest 74 = .ok (.iconst 0, 1) := by decide +kernel
theorem dX6_digest_75 : decode cX6_digest 75 = .ok (.istore_n 3, 1) := by decide +kernel
theorem dX6_digest_76 : decode cX6_digest 76 = .ok (.iload_n 3, 1) := by decide +kernel
theorem dX6_digest_77 : decode cX6_digest 77 = .ok (.bipush 7, 2) := by decide +kernel
theorem dX6_digest_79 : decode cX6_digest 79 = .ok (.if_icmp .ge 21, 3) := by decide +kernel
theorem dX6_digest_82 : decode cX6_digest 82 = .ok (.aload_n 0, 1) := by decide +kernel
theorem dX6_digest_83 : decode cX6_digest 83 = .ok (.aload_n 0, 1) := by decide +kernel
theorem dX6_digest_84 : decode cX6_digest 84 = .ok (.iload_n 1, 1) := by decide +kernel
theorem dX6_digest_85 : decode cX6_digest 85 = .ok (.iload_n 2, 1) := by decide +kernel
theorem dX6_digest_86 : decode cX6_digest 86 = .ok (.iload_n 3, 1) := by decide +kernel
theorem dX6_digest_87 : decode cX6_digest 87 = .ok (.invokevirtual 198, 3) := by decide +kernel
theorem dX6_digest_90 : decode cX6_digest 90 = .ok (.i2l, 1) := by decide +kernel
theorem dX6_digest_91 : decode cX6_digest 91 = .ok (.invokevirtual 317, 3) := by decide +kernel
theorem dX6_digest_94 : decode cX6_digest 94 = .ok (.iinc 3 1, 3) := by decide +kernel
theorem dX6_digest_97 : decode cX6_digest 97 = .ok (.goto (-21), 3) := by decide +kernel
theorem dX6_digest_100 : decode cX6_digest 100 = .ok (.iinc 2 1, 3) := by decide +kernel
theorem dX6_digest_103 : decode cX6_digest 103 = .ok (.goto (-41), 3) := by decide +kernel
theorem dX6_digest_106 : decode cX6_digest 106 = .ok (.iinc 1 1, 3) := by decide +kernel
theorem dX6_digest_109 : decode cX6_digest 109 = .ok (.goto (-72), 3) := by decide +kernel
theorem dX6_digest_112 : decode cX6_digest 112 = .ok (.iconst 0, 1) := by decide +kernel
theorem dX6_digest_113 : decode cX6_digest 113 = .ok (.istore_n 1, 1) := by decide +kernel
theorem dX6_digest_114 : decode cX6_digest 114 = .ok (.iload_n 1, 1) := by decide +kernel
theorem dX6_digest_115 : decode cX6_digest 115 = .ok (.iconst 3, 1) := by decide +kernel
theorem dX6_digest_116 : decode cX6_digest 116 = .ok (.if_icmp .ge 20, 3) := by decide +kernel
theorem dX6_digest_119 : decode cX6_digest 119 = .ok (.aload_n 0, 1) := by decide +kernel
theorem dX6_digest_120 : decode cX6_digest 120 = .ok (.aload_n 0, 1) := by decide +kernel
theorem dX6_digest_121 : decode cX6_digest 121 = .ok (.getfield 13, 3) := by decide +kernel
theorem dX6_digest_124 : decode cX6_digest 124 = .ok (.iload_n 1, 1) := by decide +kernel
theorem dX6_digest_125 : decode cX6_digest 125 = .ok (.iaload, 1) := by decide +kernel
theorem dX6_digest_126 : decode cX6_digest 126 = .ok (.i2l, 1) := by decide +kernel
theorem dX6_digest_127 : decode cX6_digest 127 = .ok (.invokevirtual 317, 3) := by decide +kernel
theorem dX6_digest_130 : decode cX6_digest 130 = .ok (.iinc 1 1, 3) := by decide +kernel
theorem dX6_digest_133 : decode cX6_digest 133 = .ok (.goto (-19), 3) := by decide +kernel
theorem dX6_digest_136 : decode cX6_digest 136 = .ok (.iconst 0, 1) := by decide +kernel
theorem dX6_digest_137 : decode cX6_digest 137 = .ok (.istore_n 1, 1) := by decide +kernel
theorem dX6_digest_138 : decode cX6_digest 138 = .ok (.iload_n 1, 1) := by decide +kernel
theorem dX6_digest_139 : decode cX6_digest 139 = .ok (.bipush 6, 2) := by decide +kernel
theorem dX6_digest_141 : decode cX6_digest 141 = .ok (.if_icmp .ge 54, 3) := by decide +kernel
theorem dX6_digest_144 : decode cX6_digest 144 = .ok (.aload_n 0, 1) := by decide +kernel
theorem dX6_digest_145 : decode cX6_digest 145 = .ok (.aload_n 0, 1) := by decide +kernel
theorem dX6_digest_146 : decode cX6_digest 146 = .ok (.getfield 19, 3) := by decide +kernel
theorem dX6_digest_149 : decode cX6_digest 149 = .ok (.iload_n 1, 1) := by decide +kernel
theorem dX6_digest_150 : decode cX6_digest 150 = .ok (.iaload, 1) := by decide +kernel
theorem dX6_digest_151 : decode cX6_digest 151 = .ok (.i2l, 1) := by decide +kernel
theorem dX6_digest_152 : decode cX6_digest 152 = .ok (.invokevirtual 317, 3) := by decide +kernel
theorem dX6_digest_155 : decode cX6_digest 155 = .ok (.iconst 0, 1) := by decide +kernel
theorem dX6_digest_156 : decode cX6_digest 156 = .ok (.istore_n 2, 1) := by decide +kernel
theorem dX6_digest_157 : decode cX6_digest 157 = .ok (.iload_n 2, 1) := by decide +kernel
theorem dX6_digest_158 : decode cX6_digest 158 = .ok (.aload_n 0, 1) := by decide +kernel
theorem dX6_digest_159 : decode cX6_digest 159 = .ok (.getfield 19, 3) := by decide +kernel
theorem dX6_digest_162 : decode cX6_digest 162 = .ok (.iload_n 1, 1) := by decide +kernel
theorem dX6_digest_163 : decode cX6_digest 163 = .ok (.iaload, 1) := by decide +kernel
theorem dX6_digest_164 : decode cX6_digest 164 = .ok (.if_icmp .ge 25, 3) := by decide +kernel
theorem dX6_digest_167 : decode cX6_digest 167 = .ok (.aload_n 0, 1) := by decide +kernel
theorem dX6_digest_168 : decode cX6_digest 168 = .ok (.aload_n 0, 1) := by decide +kernel
theorem dX6_digest_169 : decode cX6_digest 169 = .ok (.getfield 16, 3) := by decide +kernel
theorem dX6_digest_172 : decode cX6_digest 172 = .ok (.bipush 40, 2) := by decide +kernel
theorem dX6_digest_174 : decode cX6_digest 174 = .ok (.iload_n 1, 1) := by decide +kernel
theorem dX6_digest_175 : decode cX6_digest 175 = .ok (.imul, 1) := by decide +kernel
theorem dX6_digest_176 : decode cX6_digest 176 = .ok (.iload_n 2, 1) := by decide +kernel
theorem dX6_digest_177 : decode cX6_digest 177 = .ok (.iadd, 1) := by decide +kernel
theorem dX6_digest_178 : decode cX6_digest 178 = .ok (.iaload, 1) := by decide +kernel
theorem dX6_digest_179 : decode cX6_digest 179 = .ok (.i2l, 1) := by decide +kernel
theorem dX6_digest_180 : decode cX6_digest 180 = .ok (.invokevirtual 317, 3) := by decide +kernel
theorem dX6_digest_183 : decode cX6_digest 183 = .ok (.iinc 2 1, 3) := by decide +kernel
theorem dX6_digest_186 : decode cX6_digest 186 = .ok (.goto (-29), 3) := by decide +kernel
theorem dX6_digest_189 : decode cX6_digest 189 = .ok (.iinc 1 1, 3) := by decide +kernel
theorem dX6_digest_192 : decode cX6_digest 192 = .ok (.goto (-54), 3) := by decide +kernel
theorem dX6_digest_195 : decode cX6_digest 195 = .ok (.iconst 0, 1) := by decide +kernel
theorem dX6_digest_196 : decode cX6_digest 196 = .ok (.istore_n 1, 1) := by decide +kernel
theorem dX6_digest_197 : decode cX6_digest 197 = .ok (.iload_n 1, 1) := by decide +kernel
theorem dX6_digest_198 : decode cX6_digest 198 = .ok (.iconst 4, 1) := by decide +kernel
theorem dX6_digest_199 : decode cX6_digest 199 = .ok (.if_icmp .ge 54, 3) := by decide +kernel
theorem dX6_digest_202 : decode cX6_digest 202 = .ok (.aload_n 0, 1) := by decide +kernel
theorem dX6_digest_203 : decode cX6_digest 203 = .ok (.aload_n 0, 1) := by decide +kernel
theorem dX6_digest_204 : decode cX6_digest 204 = .ok (.getfield 25, 3) := by decide +kernel
theorem dX6_digest_207 : decode cX6_digest 207 = .ok (.iload_n 1, 1) := by decide +kernel
theorem dX6_digest_208 : decode cX6_digest 208 = .ok (.iaload, 1) := by decide +kernel
theorem dX6_digest_209 : decode cX6_digest 209 = .ok (.i2l, 1) := by decide +kernel
theorem dX6_digest_210 : decode cX6_digest 210 = .ok (.invokevirtual 317, 3) := by decide +kernel
theorem dX6_digest_213 : decode cX6_digest 213 = .ok (.iconst 0, 1) := by decide +kernel
theorem dX6_digest_214 : decode cX6_digest 214 = .ok (.istore_n 2, 1) := by decide +kernel
theorem dX6_digest_215 : decode cX6_digest 215 = .ok (.iload_n 2, 1) := by decide +kernel
theorem dX6_digest_216 : decode cX6_digest 216 = .ok (.aload_n 0, 1) := by decide +kernel
theorem dX6_digest_217 : decode cX6_digest 217 = .ok (.getfield 25, 3) := by decide +kernel
theorem dX6_digest_220 : decode cX6_digest 220 = .ok (.iload_n 1, 1) := by decide +kernel
theorem dX6_digest_221 : decode cX6_digest 221 = .ok (.iaload, 1) := by decide +kernel
theorem dX6_digest_222 : decode cX6_digest 222 = .ok (.if_icmp .ge 25, 3) := by decide +kernel
theorem dX6_digest_225 : decode cX6_digest 225 = .ok (.aload_n 0, 1) := by decide +kernel
theorem dX6_digest_226 : decode cX6_digest 226 = .ok (.aload_n 0, 1) := by decide +kernel
theorem dX6_digest_227 : decode cX6_digest 227 = .ok (.getfield 22, 3) := by decide +kernel
theorem dX6_digest_230 : decode cX6_digest 230 = .ok (.bipush 60, 2) := by decide +kernel
theorem dX6_digest_232 : decode cX6_digest 232 = .ok (.iload_n 1, 1) := by decide +kernel
theorem dX6_digest_233 : decode cX6_digest 233 = .ok (.imul, 1) := by decide +kernel
theorem dX6_digest_234 : decode cX6_digest 234 = .ok (.iload_n 2, 1) := by decide +kernel
theorem dX6_digest_235 : decode cX6_digest 235 = .ok (.iadd, 1) := by decide +kernel
theorem dX6_digest_236 : decode cX6_digest 236 = .ok (.iaload, 1) := by decide +kernel
theorem dX6_digest_237 : decode cX6_digest 237 = .ok (.i2l, 1) := by decide +kernel
theorem dX6_digest_238 : decode cX6_digest 238 = .ok (.invokevirtual 317, 3) := by decide +kernel
theorem dX6_digest_241 : decode cX6_digest 241 = .ok (.iinc 2 1, 3) := by decide +kernel
theorem dX6_digest_244 : decode cX6_digest 244 = .ok (.goto (-29), 3) := by decide +kernel
theorem dX6_digest_247 : decode cX6_digest 247 = .ok (.iinc 1 1, 3) := by decide +kernel
theorem dX6_digest_250 : decode cX6_digest 250 = .ok (.goto (-53), 3) := by decide +kernel
theorem dX6_digest_253 : decode cX6_digest 253 = .ok (.aload_n 0, 1) := by decide +kernel
theorem dX6_digest_254 : decode cX6_digest 254 = .ok (.getfield 309, 3) := by decide +kernel
theorem dX6_digest_257 : decode cX6_digest 257 = .ok (.lreturn, 1) := by decide +kernel
theorem dJ6_bitCount_0f7a4_0 : decode cJ6_bitCount_0f7a4 0 = .ok (.iload_n 0, 1) := by decide +kernel
theorem dJ6_bitCount_0f7a4_1 : decode cJ6_bitCount_0f7a4 1 = .ok (.iload_n 0, 1) := by decide +kernel
theorem dJ6_bitCount_0f7a4_2 : decode cJ6_bitCount_0f7a4 2 = .ok (.iconst 1, 1) := by decide +kernel
theorem dJ6_bitCount_0f7a4_3 : decode cJ6_bitCount_0f7a4 3 = .ok (.iushr, 1) := by decide +kernel
theorem dJ6_bitCount_0f7a4_4 : decode cJ6_bitCount_0f7a4 4 = .ok (.ldc_w 265, 3) := by decide +kernel
theorem dJ6_bitCount_0f7a4_7 : decode cJ6_bitCount_0f7a4 7 = .ok (.iand, 1) := by decide +kernel
theorem dJ6_bitCount_0f7a4_8 : decode cJ6_bitCount_0f7a4 8 = .ok (.isub, 1) := by decide +kernel
theorem dJ6_bitCount_0f7a4_9 : decode cJ6_bitCount_0f7a4 9 = .ok (.istore_n 0, 1) := by decide +kernel
theorem dJ6_bitCount_0f7a4_10 : decode cJ6_bitCount_0f7a4 10 = .ok (.iload_n 0, 1) := by decide +kernel
theorem dJ6_bitCount_0f7a4_11 : decode cJ6_bitCount_0f7a4 11 = .ok (.ldc_w 266, 3) := by decide +kernel
theorem dJ6_bitCount_0f7a4_14 : decode cJ6_bitCount_0f7a4 14 = .ok (.iand, 1) := by decide +kernel
theorem dJ6_bitCount_0f7a4_15 : decode cJ6_bitCount_0f7a4 15 = .ok (.iload_n 0, 1) := by decide +kernel
theorem dJ6_bitCount_0f7a4_16 : decode cJ6_bitCount_0f7a4 16 = .ok (.iconst 2, 1) := by decide +kernel
theorem dJ6_bitCount_0f7a4_17 : decode cJ6_bitCount_0f7a4 17 = .ok (.iushr, 1) := by decide +kernel
theorem dJ6_bitCount_0f7a4_18 : decode cJ6_bitCount_0f7a4 18 = .ok (.ldc_w 266, 3) := by decide +kernel
theorem dJ6_bitCount_0f7a4_21 : decode cJ6_bitCount_0f7a4 21 = .ok (.iand, 1) := by decide +kernel
theorem dJ6_bitCount_0f7a4_22 : decode cJ6_bitCount_0f7a4 22 = .ok (.iadd, 1) := by decide +kernel
theorem dJ6_bitCount_0f7a4_23 : decode cJ6_bitCount_0f7a4 23 = .ok (.istore_n 0, 1) := by decide +kernel
theorem dJ6_bitCount_0f7a4_24 : decode cJ6_bitCount_0f7a4 24 = .ok (.iload_n 0, 1) := by decide +kernel
theorem dJ6_bitCount_0f7a4_25 : decode cJ6_bitCount_0f7a4 25 = .ok (.iload_n 0, 1) := by decide +kernel
theorem dJ6_bitCount_0f7a4_26 : decode cJ6_bitCount_0f7a4 26 = .ok (.iconst 4, 1) := by decide +kernel
theorem dJ6_bitCount_0f7a4_27 : decode cJ6_bitCount_0f7a4 27 = .ok (.iushr, 1) := by decide +kernel
theorem dJ6_bitCount_0f7a4_28 : decode cJ6_bitCount_0f7a4 28 = .ok (.iadd, 1) := by decide +kernel
theorem dJ6_bitCount_0f7a4_29 : decode cJ6_bitCount_0f7a4 29 = .ok (.ldc_w 267, 3) := by decide +kernel
theorem dJ6_bitCount_0f7a4_32 : decode cJ6_bitCount_0f7a4 32 = .ok (.iand, 1) := by decide +kernel
theorem dJ6_bitCount_0f7a4_33 : decode cJ6_bitCount_0f7a4 33 = .ok (.istore_n 0, 1) := by decide +kernel
theorem dJ6_bitCount_0f7a4_34 : decode cJ6_bitCount_0f7a4 34 = .ok (.iload_n 0, 1) := by decide +kernel
theorem dJ6_bitCount_0f7a4_35 : decode cJ6_bitCount_0f7a4 35 = .ok (.iload_n 0, 1) := by decide +kernel
theorem dJ6_bitCount_0f7a4_36 : decode cJ6_bitCount_0f7a4 36 = .ok (.bipush 8, 2) := by decide +kernel
theorem dJ6_bitCount_0f7a4_38 : decode cJ6_bitCount_0f7a4 38 = .ok (.iushr, 1) := by decide +kernel
theorem dJ6_bitCount_0f7a4_39 : decode cJ6_bitCount_0f7a4 39 = .ok (.iadd, 1) := by decide +kernel
theorem dJ6_bitCount_0f7a4_40 : decode cJ6_bitCount_0f7a4 40 = .ok (.istore_n 0, 1) := by decide +kernel
theorem dJ6_bitCount_0f7a4_41 : decode cJ6_bitCount_0f7a4 41 = .ok (.iload_n 0, 1) := by decide +kernel
theorem dJ6_bitCount_0f7a4_42 : decode cJ6_bitCount_0f7a4 42 = .ok (.iload_n 0, 1) := by decide +kernel
theorem dJ6_bitCount_0f7a4_43 : decode cJ6_bitCount_0f7a4 43 = .ok (.bipush 16, 2) := by decide +kernel
theorem dJ6_bitCount_0f7a4_45 : decode cJ6_bitCount_0f7a4 45 = .ok (.iushr, 1) := by decide +kernel
theorem dJ6_bitCount_0f7a4_46 : decode cJ6_bitCount_0f7a4 46 = .ok (.iadd, 1) := by decide +kernel
theorem dJ6_bitCount_0f7a4_47 : decode cJ6_bitCount_0f7a4 47 = .ok (.istore_n 0, 1) := by decide +kernel
theorem dJ6_bitCount_0f7a4_48 : decode cJ6_bitCount_0f7a4 48 = .ok (.iload_n 0, 1) := by decide +kernel
theorem dJ6_bitCount_0f7a4_49 : decode cJ6_bitCount_0f7a4 49 = .ok (.bipush 63, 2) := by decide +kernel
theorem dJ6_bitCount_0f7a4_51 : decode cJ6_bitCount_0f7a4 51 = .ok (.iand, 1) := by decide +kernel
theorem dJ6_bitCount_0f7a4_52 : decode cJ6_bitCount_0f7a4 52 = .ok (.ireturn, 1) := by decide +kernel
theorem dJ9_max_7cf53_0 : decode cJ9_max_7cf53 0 = .ok (.iload_n 0, 1) := by decide +kernel
theorem dJ9_max_7cf53_1 : decode cJ9_max_7cf53 1 = .ok (.iload_n 1, 1) := by decide +kernel
theorem dJ9_max_7cf53_2 : decode cJ9_max_7cf53 2 = .ok (.if_icmp .lt 7, 3) := by decide +kernel
theorem dJ9_max_7cf53_5 : decode cJ9_max_7cf53 5 = .ok (.iload_n 0, 1) := by decide +kernel
theorem dJ9_max_7cf53_6 : decode cJ9_max_7cf53 6 = .ok (.goto 4, 3) := by decide +kernel
theorem dJ9_max_7cf53_9 : decode cJ9_max_7cf53 9 = .ok (.iload_n 1, 1) := by decide +kernel
theorem dJ9_max_7cf53_10 : decode cJ9_max_7cf53 10 = .ok (.ireturn, 1) := by decide +kernel
theorem dJ9_min_7cf53_0 : decode cJ9_min_7cf53 0 = .ok (.iload_n 0, 1) := by decide +kernel
theorem dJ9_min_7cf53_1 : decode cJ9_min_7cf53 1 = .ok (.iload_n 1, 1) := by decide +kernel
theorem dJ9_min_7cf53_2 : decode cJ9_min_7cf53 2 = .ok (.if_icmp .gt 7, 3) := by decide +kernel
theorem dJ9_min_7cf53_5 : decode cJ9_min_7cf53 5 = .ok (.iload_n 0, 1) := by decide +kernel
theorem dJ9_min_7cf53_6 : decode cJ9_min_7cf53 6 = .ok (.goto 4, 3) := by decide +kernel
theorem dJ9_min_7cf53_9 : decode cJ9_min_7cf53 9 = .ok (.iload_n 1, 1) := by decide +kernel
theorem dJ9_min_7cf53_10 : decode cJ9_min_7cf53 10 = .ok (.ireturn, 1) := by decide +kernel
theorem dL_law_0 : decode cL_law 0 = .ok (.new 7, 3) := by decide +kernel
theorem dL_law_3 : decode cL_law 3 = .ok (.dup, 1) := by decide +kernel
theorem dL_law_4 : decode cL_law 4 = .ok (.invokespecial 9, 3) := by decide +kernel
theorem dL_law_7 : decode cL_law 7 = .ok (.astore_n 1, 1) := by decide +kernel
theorem dL_law_8 : decode cL_law 8 = .ok (.new 10, 3) := by decide +kernel
theorem dL_law_11 : decode cL_law 11 = .ok (.dup, 1) := by decide +kernel
theorem dL_law_12 : decode cL_law 12 = .ok (.invokespecial 12, 3) := by decide +kernel
theorem dL_law_15 : decode cL_law 15 = .ok (.astore_n 2, 1) := by decide +kernel
theorem dL_law_16 : decode cL_law 16 = .ok (.iconst 0, 1) := by decide +kernel
theorem dL_law_17 : decode cL_law 17 = .ok (.istore_n 3, 1) := by decide +kernel
theorem dL_law_18 : decode cL_law 18 = .ok (.iload_n 3, 1) := by decide +kernel
theorem dL_law_19 : decode cL_law 19 = .ok (.aload_n 0, 1) := by decide +kernel
theorem dL_law_20 : decode cL_law 20 = .ok (.arraylength, 1) := by decide +kernel
theorem dL_law_21 : decode cL_law 21 = .ok (.bipush 6, 2) := by decide +kernel
theorem dL_law_23 : decode cL_law 23 = .ok (.isub, 1) := by decide +kernel
theorem dL_law_24 : decode cL_law 24 = .ok (.if_icmp .gt 1495, 3) := by decide +kernel
theorem dL_law_27 : decode cL_law 27 = .ok (.aload_n 0, 1) := by decide +kernel
theorem dL_law_28 : decode cL_law 28 = .ok (.iload_n 3, 1) := by decide +kernel
theorem dL_law_29 : decode cL_law 29 = .ok (.iaload, 1) := by decide +kernel
theorem dL_law_30 : decode cL_law 30 = .ok (.bipush 63, 2) := by decide +kernel
theorem dL_law_32 : decode cL_law 32 = .ok (.iand, 1) := by decide +kernel
theorem dL_law_33 : decode cL_law 33 = .ok (.tableswitch 1480 0 45 #[199, 232, 275, 308, 331, 394, 417, 450, 493, 516, 539, 562, 605, 648, 691, 734, 767, 790, 813, 836, 879, 912, 945, 968, 981, 994, 1007, 1040, 1083, 1096, 1109, 1142, 1155, 1168, 1201, 1234, 1257, 1300, 1333, 1366, 1379, 1393, 1407, 1430, 1443, 1466], 199) := by decide +kernel
theorem dL_law_232 : decode cL_law 232 = .ok (.aload_n 1, 1) := by decide +kernel
theorem dL_law_233 : decode cL_law 233 = .ok (.aload_n 0, 1) := by decide +kernel
theorem dL_law_234 : decode cL_law 234 = .ok (.iload_n 3, 1) := by decide +kernel
theorem dL_law_235 : decode cL_law 235 = .ok (.iconst 1, 1) := by decide +kernel
theorem dL_law_236 : decode cL_law 236 = .ok (.iadd, 1) := by decide +kernel
theorem dL_law_237 : decode cL_law 237 = .ok (.iaload, 1) := by decide +kernel
theorem dL_law_238 : decode cL_law 238 = .ok (.aload_n 0, 1) := by decide +kernel
theorem dL_law_239 : decode cL_law 239 = .ok (.iload_n 3, 1) := by decide +kernel
theorem dL_law_240 : decode cL_law 240 = .ok (.iconst 2, 1) := by decide +kernel
theorem dL_law_241 : decode cL_law 241 = .ok (.iadd, 1) := by decide +kernel
theorem dL_law_242 : decode cL_law 242 = .ok (.iaload, 1) := by decide +kernel
theorem dL_law_243 : decode cL_law 243 = .ok (.invokevirtual 13, 3) := by decide +kernel
theorem dL_law_246 : decode cL_law 246 = .ok (.aload_n 2, 1) := by decide +kernel
theorem dL_law_247 : decode cL_law 247 = .ok (.aload_n 0, 1) := by decide +kernel
theorem dL_law_248 : decode cL_law 248 = .ok (.iload_n 3, 1) := by decide +kernel
theorem dL_law_249 : decode cL_law 249 = .ok (.iconst 1, 1) := by decide +kernel
theorem dL_law_250 : decode cL_law 250 = .ok (.iadd, 1) := by decide +kernel
theorem dL_law_251 : decode cL_law 251 = .ok (.iaload, 1) := by decide +kernel
theorem dL_law_252 : decode cL_law 252 = .ok (.aload_n 0, 1) := by decide +kernel
theorem dL_law_253 : decode cL_law 253 = .ok (.iload_n 3, 1) := by decide +kernel
theorem dL_law_254 : decode cL_law 254 = .ok (.iconst 2, 1) := by decide +kernel
theorem dL_law_255 : decode cL_law 255 = .ok (.iadd, 1) := by decide +kernel
theorem dL_law_256 : decode cL_law 256 = .ok (.iaload, 1) := by decide +kernel
theorem dL_law_257 : decode cL_law 257 = .ok (.invokevirtual 17, 3) := by decide +kernel
theorem dL_law_260 : decode cL_law 260 = .ok (.if_icmp .eq 1253, 3) := by decide +kernel
theorem dL_law_263 : decode cL_law 263 = .ok (.iconst 0, 1) := by decide +kernel
theorem dL_law_264 : decode cL_law 264 = .ok (.ireturn, 1) := by decide +kernel
theorem dL_law_265 : decode cL_law 265 = .ok (.aload_n 1, 1) := by decide +kernel
theorem dL_law_266 : decode cL_law 266 = .ok (.aload_n 0, 1) := by decide +kernel
theorem dL_law_267 : decode cL_law 267 = .ok (.iload_n 3, 1) := by decide +kernel
theorem dL_law_268 : decode cL_law 268 = .ok (.iconst 1, 1) := by decide +kernel
theorem dL_law_269 : decode cL_law 269 = .ok (.iadd, 1) := by decide +kernel
theorem dL_law_270 : decode cL_law 270 = .ok (.iaload, 1) := by decide +kernel
theorem dL_law_271 : decode cL_law 271 = .ok (.aload_n 0, 1) := by decide +kernel
theorem dL_law_272 : decode cL_law 272 = .ok (.iload_n 3, 1) := by decide +kernel
theorem dL_law_273 : decode cL_law 273 = .ok (.iconst 2, 1) := by decide +kernel
theorem dL_law_274 : decode cL_law 274 = .ok (.iadd, 1) := by decide +kernel
theorem dL_law_275 : decode cL_law 275 = .ok (.iaload, 1) := by decide +kernel
theorem dL_law_276 : decode cL_law 276 = .ok (.aload_n 0, 1) := by decide +kernel
theorem dL_law_277 : decode cL_law 277 = .ok (.iload_n 3, 1) := by decide +kernel
theorem dL_law_278 : decode cL_law 278 = .ok (.iconst 3, 1) := by decide +kernel
theorem dL_law_279 : decode cL_law 279 = .ok (.iadd, 1) := by decide +kernel
theorem dL_law_280 : decode cL_law 280 = .ok (.iaload, 1) := by decide +kernel
theorem dL_law_281 : decode cL_law 281 = .ok (.invokevirtual 18, 3) := by decide +kernel
theorem dL_law_284 : decode cL_law 284 = .ok (.aload_n 2, 1) := by decide +kernel
theorem dL_law_285 : decode cL_law 285 = .ok (.aload_n 0, 1) := by decide +kernel
theorem dL_law_286 : decode cL_law 286 = .ok (.iload_n 3, 1) := by decide +kernel
theorem dL_law_287 : decode cL_law 287 = .ok (.iconst 1, 1) := by decide +kernel
theorem dL_law_288 : decode cL_law 288 = .ok (.iadd, 1) := by decide +kernel
theorem dL_law_289 : decode cL_law 289 = .ok (.iaload, 1) := by decide +kernel
theorem dL_law_290 : decode cL_law 290 = .ok (.aload_n 0, 1) := by decide +kernel
theorem dL_law_291 : decode cL_law 291 = .ok (.iload_n 3, 1) := by decide +kernel
theorem dL_law_292 : decode cL_law 292 = .ok (.iconst 2, 1) := by decide +kernel
theorem dL_law_293 : decode cL_law 293 = .ok (.iadd, 1) := by decide +kernel
theorem dL_law_294 : decode cL_law 294 = .ok (.iaload, 1) := by decide +kernel
theorem dL_law_295 : decode cL_law 295 = .ok (.aload_n 0, 1) := by decide +kernel
theorem dL_law_296 : decode cL_law 296 = .ok (.iload_n 3, 1) := by decide +kernel
theorem dL_law_297 : decode cL_law 297 = .ok (.iconst 3, 1) := by decide +kernel
theorem dL_law_298 : decode cL_law 298 = .ok (.iadd, 1) := by decide +kernel
theorem dL_law_299 : decode cL_law 299 = .ok (.iaload, 1) := by decide +kernel
theorem dL_law_300 : decode cL_law 300 = .ok (.invokevirtual 22, 3) := by decide +kernel
theorem dL_law_303 : decode cL_law 303 = .ok (.if_icmp .eq 1210, 3) := by decide +kernel
theorem dL_law_306 : decode cL_law 306 = .ok (.iconst 0, 1) := by decide +kernel
theorem dL_law_307 : decode cL_law 307 = .ok (.ireturn, 1) := by decide +kernel
theorem dL_law_308 : decode cL_law 308 = .ok (.aload_n 1, 1) := by decide +kernel
theorem dL_law_309 : decode cL_law 309 = .ok (.aload_n 0, 1) := by decide +kernel
theorem dL_law_310 : decode cL_law 310 = .ok (.iload_n 3, 1) := by decide +kernel
theorem dL_law_311 : decode cL_law 311 = .ok (.iconst 1, 1) := by decide +kernel
theorem dL_law_312 : decode cL_law 312 = .ok (.iadd, 1) := by decide +kernel
theorem dL_law_313 : decode cL_law 313 = .ok (.iaload, 1) := by decide +kernel
theorem dL_law_314 : decode cL_law 314 = .ok (.aload_n 0, 1) := by decide +kernel
theorem dL_law_315 : decode cL_law 315 = .ok (.iload_n 3, 1) := by decide +kernel
theorem dL_law_316 : decode cL_law 316 = .ok (.iconst 2, 1) := by decide +kernel
theorem dL_law_317 : decode cL_law 317 = .ok (.iadd, 1) := by decide +kernel
theorem dL_law_318 : decode cL_law 318 = .ok (.iaload, 1) := by decide +kernel
theorem dL_law_319 : decode cL_law 319 = .ok (.invokevirtual 23, 3) := by decide +kernel
theorem dL_law_322 : decode cL_law 322 = .ok (.aload_n 2, 1) := by decide +kernel
theorem dL_law_323 : decode cL_law 323 = .ok (.aload_n 0, 1) := by decide +kernel
theorem dL_law_324 : decode cL_law 324 = .ok (.iload_n 3, 1) := by decide +kernel
theorem dL_law_325 : decode cL_law 325 = .ok (.iconst 1, 1) := by decide +kernel
theorem dL_law_326 : decode cL_law 326 = .ok (.iadd, 1) := by decide +kernel
theorem dL_law_327 : decode cL_law 327 = .ok (.iaload, 1) := by decide +kernel
theorem dL_law_328 : decode cL_law 328 = .ok (.aload_n 0, 1) := by decide +kernel
theorem dL_law_329 : decode cL_law 329 = .ok (.iload_n 3, 1) := by decide +kernel
theorem dL_law_330 : decode cL_law 330 = .ok (.iconst 2, 1) := by decide +kernel
theorem dL_law_331 : decode cL_law 331 = .ok (.iadd, 1) := by decide +kernel
theorem dL_law_332 : decode cL_law 332 = .ok (.iaload, 1) := by decide +kernel
theorem dL_law_333 : decode cL_law 333 = .ok (.invokevirtual 26, 3) := by decide +kernel
theorem dL_law_336 : decode cL_law 336 = .ok (.if_icmp .eq 1177, 3) := by decide +kernel
theorem dL_law_339 : decode cL_law 339 = .ok (.iconst 0, 1) := by decide +kernel
theorem dL_law_340 : decode cL_law 340 = .ok (.ireturn, 1) := by decide +kernel
theorem dL_law_341 : decode cL_law 341 = .ok (.aload_n 1, 1) := by decide +kernel
theorem dL_law_342 : decode cL_law 342 = .ok (.aload_n 0, 1) := by decide +kernel
theorem dL_law_343 : decode cL_law 343 = .ok (.iload_n 3, 1) := by decide +kernel
theorem dL_law_344 : decode cL_law 344 = .ok (.iconst 1, 1) := by decide +kernel
theorem dL_law_345 : decode cL_law 345 = .ok (.iadd, 1) := by decide +kernel
theorem dL_law_346 : decode cL_law 346 = .ok (.iaload, 1) := by decide +kernel
theorem dL_law_347 : decode cL_law 347 = .ok (.invokevirtual 27, 3) := by decide +kernel
theorem dL_law_350 : decode cL_law 350 = .ok (.aload_n 2, 1) := by decide +kernel
theorem dL_law_351 : decode cL_law 351 = .ok (.aload_n 0, 1) := by decide +kernel
theorem dL_law_352 : decode cL_law 352 = .ok (.iload_n 3, 1) := by decide +kernel
theorem dL_law_353 : decode cL_law 353 = .ok (.iconst 1, 1) := by decide +kernel
theorem dL_law_354 : decode cL_law 354 = .ok (.iadd, 1) := by decide +kernel
theorem dL_law_355 : decode cL_law 355 = .ok (.iaload, 1) := by decide +kernel
theorem dL_law_356 : decode cL_law 356 = .ok (.invokevirtual 31, 3) := by decide +kernel
theorem dL_law_359 : decode cL_law 359 = .ok (.if_icmp .eq 1154, 3) := by decide +kernel
theorem dL_law_362 : decode cL_law 362 = .ok (.iconst 0, 1) := by decide +kernel
theorem dL_law_363 : decode cL_law 363 = .ok (.ireturn, 1) := by decide +kernel
theorem dL_law_364 : decode cL_law 364 = .ok (.aload_n 1, 1) := by decide +kernel
theorem dL_law_365 : decode cL_law 365 = .ok (.aload_n 0, 1) := by decide +kernel
theorem dL_law_366 : decode cL_law 366 = .ok (.iload_n 3, 1) := by decide +kernel
theorem dL_law_367 : decode cL_law 367 = .ok (.iconst 1, 1) := by decide +kernel
theorem dL_law_368 : decode cL_law 368 = .ok (.iadd, 1) := by decide +kernel
theorem dL_law_369 : decode cL_law 369 = .ok (.iaload, 1) := by decide +kernel
theorem dL_law_370 : decode cL_law 370 = .ok (.aload_n 0, 1) := by decide +kernel
theorem dL_law_371 : decode cL_law 371 = .ok (.iload_n 3, 1) := by decide +kernel
theorem dL_law_372 : decode cL_law 372 = .ok (.iconst 2, 1) := by decide +kernel
theorem dL_law_373 : decode cL_law 373 = .ok (.iadd, 1) := by decide +kernel
theorem dL_law_374 : decode cL_law 374 = .ok (.iaload, 1) := by decide +kernel
theorem dL_law_375 : decode cL_law 375 = .ok (.aload_n 0, 1) := by decide +kernel
theorem dL_law_376 : decode cL_law 376 = .ok (.iload_n 3, 1) := by decide +kernel
theorem dL_law_377 : decode cL_law 377 = .ok (.iconst 3, 1) := by decide +kernel
theorem dL_law_378 : decode cL_law 378 = .ok (.iadd, 1) := by decide +kernel
theorem dL_law_379 : decode cL_law 379 = .ok (.iaload, 1) := by decide +kernel
theorem dL_law_380 : decode cL_law 380 = .ok (.aload_n 0, 1) := by decide +kernel
theorem dL_law_381 : decode cL_law 381 = .ok (.iload_n 3, 1) := by decide +kernel
theorem dL_law_382 : decode cL_law 382 = .ok (.iconst 4, 1) := by decide +kernel
theorem dL_law_383 : decode cL_law 383 = .ok (.iadd, 1) := by decide +kernel
theorem dL_law_384 : decode cL_law 384 = .ok (.iaload, 1) := by decide +kernel
theorem dL_law_385 : decode cL_law 385 = .ok (.aload_n 0, 1) := by decide +kernel
theorem dL_law_386 : decode cL_law 386 = .ok (.iload_n 3, 1) := by decide +kernel
theorem dL_law_387 : decode cL_law 387 = .ok (.iconst 5, 1) := by decide +kernel
theorem dL_law_388 : decode cL_law 388 = .ok (.iadd, 1) := by decide +kernel
theorem dL_law_389 : decode cL_law 389 = .ok (.iaload, 1) := by decide +kernel
theorem dL_law_390 : decode cL_law 390 = .ok (.invokevirtual 32, 3) := by decide +kernel
theorem dL_law_393 : decode cL_law 393 = .ok (.aload_n 2, 1) := by decide +kernel
theorem dL_law_394 : decode cL_law 394 = .ok (.aload_n 0, 1) := by decide +kernel
theorem dL_law_395 : decode cL_law 395 = .ok (.iload_n 3, 1) := by decide +kernel
theorem dL_law_396 : decode cL_law 396 = .ok (.iconst 1, 1) := by decide +kernel
theorem dL_law_397 : decode cL_law 397 = .ok (.iadd, 1) := by decide +kernel
theorem dL_law_398 : decode cL_law 398 = .ok (.iaload, 1) := by decide +kernel
theorem dL_law_399 : decode cL_law 399 = .ok (.aload_n 0, 1) := by decide +kernel
theorem dL_law_400 : decode cL_law 400 = .ok (.iload_n 3, 1) := by decide +kernel
theorem dL_law_401 : decode cL_law 401 = .ok (.iconst 2, 1) := by decide +kernel
theorem dL_law_402 : decode cL_law 402 = .ok (.iadd, 1) := by decide +kernel
theorem dL_law_403 : decode cL_law 403 = .ok (.iaload, 1) := by decide +kernel
theorem dL_law_404 : decode cL_law 404 = .ok (.aload_n 0, 1) := by decide +kernel
theorem dL_law_405 : decode cL_law 405 = .ok (.iload_n 3, 1) := by decide +kernel
theorem dL_law_406 : decode cL_law 406 = .ok (.iconst 3, 1) := by decide +kernel
theorem dL_law_407 : decode cL_law 407 = .ok (.iadd, 1) := by decide +kernel
theorem dL_law_408 : decode cL_law 408 = .ok (.iaload, 1) := by decide +kernel
theorem dL_law_409 : decode cL_law 409 = .ok (.aload_n 0, 1) := by decide +kernel
theorem dL_law_410 : decode cL_law 410 = .ok (.iload_n 3, 1) := by decide +kernel
theorem dL_law_411 : decode cL_law 411 = .ok (.iconst 4, 1) := by decide +kernel
theorem dL_law_412 : decode cL_law 412 = .ok (.iadd, 1) := by decide +kernel
theorem dL_law_413 : decode cL_law 413 = .ok (.iaload, 1) := by decide +kernel
theorem dL_law_414 : decode cL_law 414 = .ok (.aload_n 0, 1) := by decide +kernel
theorem dL_law_415 : decode cL_law 415 = .ok (.iload_n 3, 1) := by decide +kernel
theorem dL_law_416 : decode cL_law 416 = .ok (.iconst 5, 1) := by decide +kernel
theorem dL_law_417 : decode cL_law 417 = .ok (.iadd, 1) := by decide +kernel
theorem dL_law_418 : decode cL_law 418 = .ok (.iaload, 1) := by decide +kernel
theorem dL_law_419 : decode cL_law 419 = .ok (.invokevirtual 36, 3) := by decide +kernel
theorem dL_law_422 : decode cL_law 422 = .ok (.if_icmp .eq 1091, 3) := by decide +kernel
theorem dL_law_425 : decode cL_law 425 = .ok (.iconst 0, 1) := by decide +kernel
theorem dL_law_426 : decode cL_law 426 = .ok (.ireturn, 1) := by decide +kernel
theorem dL_law_427 : decode cL_law 427 = .ok (.aload_n 1, 1) := by decide +kernel
theorem dL_law_428 : decode cL_law 428 = .ok (.aload_n 0, 1) := by decide +kernel
theorem dL_law_429 : decode cL_law 429 = .ok (.iload_n 3, 1) := by decide +kernel
theorem dL_law_430 : decode cL_law 430 = .ok (.iconst 1, 1) := by decide +kernel
theorem dL_law_431 : decode cL_law 431 = .ok (.iadd, 1) := by decide +kernel
theorem dL_law_432 : decode cL_law 432 = .ok (.iaload, 1) := by decide +kernel
theorem dL_law_433 : decode cL_law 433 = .ok (.invokevirtual 37, 3) := by decide +kernel
theorem dL_law_436 : decode cL_law 436 = .ok (.aload_n 2, 1) := by decide +kernel
theorem dL_law_437 : decode cL_law 437 = .ok (.aload_n 0, 1) := by decide +kernel
theorem dL_law_438 : decode cL_law 438 = .ok (.iload_n 3, 1) := by decide +kernel
theorem dL_law_439 : decode cL_law 439 = .ok (.iconst 1, 1) := by decide +kernel
theorem dL_law_440 : decode cL_law 440 = .ok (.iadd, 1) := by decide +kernel
theorem dL_law_441 : decode cL_law 441 = .ok (.iaload, 1) := by decide +kernel
theorem dL_law_442 : decode cL_law 442 = .ok (.invokevirtual 40, 3) := by decide +kernel
theorem dL_law_445 : decode cL_law 445 = .ok (.if_icmp .eq 1068, 3) := by decide +kernel
theorem dL_law_448 : decode cL_law 448 = .ok (.iconst 0, 1) := by decide +kernel
theorem dL_law_449 : decode cL_law 449 = .ok (.ireturn, 1) := by decide +kernel
theorem dL_law_450 : decode cL_law 450 = .ok (.aload_n 1, 1) := by decide +kernel
theorem dL_law_451 : decode cL_law 451 = .ok (.aload_n 0, 1) := by decide +kernel
theorem dL_law_452 : decode cL_law 452 = .ok (.iload_n 3, 1) := by decide +kernel
theorem dL_law_453 : decode cL_law 453 = .ok (.iconst 1, 1) := by decide +kernel
theorem dL_law_454 : decode cL_law 454 = .ok (.iadd, 1) := by decide +kernel
theorem dL_law_455 : decode cL_law 455 = .ok (.iaload, 1) := by decide +kernel
theorem dL_law_456 : decode cL_law 456 = .ok (.aload_n 0, 1) := by decide +kernel
theorem dL_law_457 : decode cL_law 457 = .ok (.iload_n 3, 1) := by decide +kernel
theorem dL_law_458 : decode cL_law 458 = .ok (.iconst 2, 1) := by decide +kernel
theorem dL_law_459 : decode cL_law 459 = .ok (.iadd, 1) := by decide +kernel
theorem dL_law_460 : decode cL_law 460 = .ok (.iaload, 1) := by decide +kernel
theorem dL_law_461 : decode cL_law 461 = .ok (.invokevirtual 41, 3) := by decide +kernel
theorem dL_law_464 : decode cL_law 464 = .ok (.aload_n 2, 1) := by decide +kernel
theorem dL_law_465 : decode cL_law 465 = .ok (.aload_n 0, 1) := by decide +kernel
theorem dL_law_466 : decode cL_law 466 = .ok (.iload_n 3, 1) := by decide +kernel
theorem dL_law_467 : decode cL_law 467 = .ok (.iconst 1, 1) := by decide +kernel
theorem dL_law_468 : decode cL_law 468 = .ok (.iadd, 1) := by decide +kernel
theorem dL_law_469 : decode cL_law 469 = .ok (.iaload, 1) := by decide +kernel
theorem dL_law_470 : decode cL_law 470 = .ok (.aload_n 0, 1) := by decide +kernel
theorem dL_law_471 : decode cL_law 471 = .ok (.iload_n 3, 1) := by decide +kernel
theorem dL_law_472 : decode cL_law 472 = .ok (.iconst 2, 1) := by decide +kernel
theorem dL_law_473 : decode cL_law 473 = .ok (.iadd, 1) := by decide +kernel
theorem dL_law_474 : decode cL_law 474 = .ok (.iaload, 1) := by decide +kernel
theorem dL_law_475 : decode cL_law 475 = .ok (.invokevirtual 44, 3) := by decide +kernel
theorem dL_law_478 : decode cL_law 478 = .ok (.if_icmp .eq 1035, 3) := by decide +kernel
theorem dL_law_481 : decode cL_law 481 = .ok (.iconst 0, 1) := by decide +kernel
theorem dL_law_482 : decode cL_law 482 = .ok (.ireturn, 1) := by decide +kernel
theorem dL_law_483 : decode cL_law 483 = .ok (.aload_n 1, 1) := by decide +kernel
theorem dL_law_484 : decode cL_law 484 = .ok (.aload_n 0, 1) := by decide +kernel
theorem dL_law_485 : decode cL_law 485 = .ok (.iload_n 3, 1) := by decide +kernel
theorem dL_law_486 : decode cL_law 486 = .ok (.iconst 1, 1) := by decide +kernel
theorem dL_law_487 : decode cL_law 487 = .ok (.iadd, 1) := by decide +kernel
theorem dL_law_488 : decode cL_law 488 = .ok (.iaload, 1) := by decide +kernel
theorem dL_law_489 : decode cL_law 489 = .ok (.aload_n 0, 1) := by decide +kernel
theorem dL_law_490 : decode cL_law 490 = .ok (.iload_n 3, 1) := by decide +kernel
theorem dL_law_491 : decode cL_law 491 = .ok (.iconst 2, 1) := by decide +kernel
theorem dL_law_492 : decode cL_law 492 = .ok (.iadd, 1) := by decide +kernel
theorem dL_law_493 : decode cL_law 493 = .ok (.iaload, 1) := by decide +kernel
theorem dL_law_494 : decode cL_law 494 = .ok (.aload_n 0, 1) := by decide +kernel
theorem dL_law_495 : decode cL_law 495 = .ok (.iload_n 3, 1) := by decide +kernel
theorem dL_law_496 : decode cL_law 496 = .ok (.iconst 3, 1) := by decide +kernel
theorem dL_law_497 : decode cL_law 497 = .ok (.iadd, 1) := by decide +kernel
theorem dL_law_498 : decode cL_law 498 = .ok (.iaload, 1) := by decide +kernel
theorem dL_law_499 : decode cL_law 499 = .ok (.invokevirtual 45, 3) := by decide +kernel
theorem dL_law_502 : decode cL_law 502 = .ok (.aload_n 2, 1) := by decide +kernel
theorem dL_law_503 : decode cL_law 503 = .ok (.aload_n 0, 1) := by decide +kernel
theorem dL_law_504 : decode cL_law 504 = .ok (.iload_n 3, 1) := by decide +kernel
theorem dL_law_505 : decode cL_law 505 = .ok (.iconst 1, 1) := by decide +kernel
theorem dL_law_506 : decode cL_law 506 = .ok (.iadd, 1) := by decide +kernel
theorem dL_law_507 : decode cL_law 507 = .ok (.iaload, 1) := by decide +kernel
theorem dL_law_508 : decode cL_law 508 = .ok (.aload_n 0, 1) := by decide +kernel
theorem dL_law_509 : decode cL_law 509 = .ok (.iload_n 3, 1) := by decide +kernel
theorem dL_law_510 : decode cL_law 510 = .ok (.iconst 2, 1) := by decide +kernel
theorem dL_law_511 : decode cL_law 511 = .ok (.iadd, 1) := by decide +kernel
theorem dL_law_512 : decode cL_law 512 = .ok (.iaload, 1) := by decide +kernel
theorem dL_law_513 : decode cL_law 513 = .ok (.aload_n 0, 1) := by decide +kernel
theorem dL_law_514 : decode cL_law 514 = .ok (.iload_n 3, 1) := by decide +kernel
theorem dL_law_515 : decode cL_law 515 = .ok (.iconst 3, 1) := by decide +kernel
theorem dL_law_516 : decode cL_law 516 = .ok (.iadd, 1) := by decide +kernel
theorem dL_law_517 : decode cL_law 517 = .ok (.iaload, 1) := by decide +kernel
theorem dL_law_518 : decode cL_law 518 = .ok (.invokevirtual 48, 3) := by decide +kernel
theorem dL_law_521 : decode cL_law 521 = .ok (.if_icmp .eq 992, 3) := by decide +kernel
theorem dL_law_524 : decode cL_law 524 = .ok (.iconst 0, 1) := by decide +kernel
theorem dL_law_525 : decode cL_law 525 = .ok (.ireturn, 1) := by decide +kernel
theorem dL_law_526 : decode cL_law 526 = .ok (.aload_n 1, 1) := by decide +kernel
theorem dL_law_527 : decode cL_law 527 = .ok (.aload_n 0, 1) := by decide +kernel
theorem dL_law_528 : decode cL_law 528 = .ok (.iload_n 3, 1) := by decide +kernel
theorem dL_law_529 : decode cL_law 529 = .ok (.iconst 1, 1) := by decide +kernel
theorem dL_law_530 : decode cL_law 530 = .ok (.iadd, 1) := by decide +kernel
theorem dL_law_531 : decode cL_law 531 = .ok (.iaload, 1) := by decide +kernel
theorem dL_law_532 : decode cL_law 532 = .ok (.invokevirtual 49, 3) := by decide +kernel
theorem dL_law_535 : decode cL_law 535 = .ok (.aload_n 2, 1) := by decide +kernel
theorem dL_law_536 : decode cL_law 536 = .ok (.aload_n 0, 1) := by decide +kernel
theorem dL_law_537 : decode cL_law 537 = .ok (.iload_n 3, 1) := by decide +kernel
theorem dL_law_538 : decode cL_law 538 = .ok (.iconst 1, 1) := by decide +kernel
theorem dL_law_539 : decode cL_law 539 = .ok (.iadd, 1) := by decide +kernel
theorem dL_law_540 : decode cL_law 540 = .ok (.iaload, 1) := by decide +kernel
theorem dL_law_541 : decode cL_law 541 = .ok (.invokevirtual 52, 3) := by decide +kernel
theorem dL_law_544 : decode cL_law 544 = .ok (.if_icmp .eq 969, 3) := by decide +kernel
theorem dL_law_547 : decode cL_law 547 = .ok (.iconst 0, 1) := by decide +kernel
theorem dL_law_548 : decode cL_law 548 = .ok (.ireturn, 1) := by decide +kernel
theorem dL_law_549 : decode cL_law 549 = .ok (.aload_n 1, 1) := by decide +kernel
theorem dL_law_550 : decode cL_law 550 = .ok (.aload_n 0, 1) := by decide +kernel
theorem dL_law_551 : decode cL_law 551 = .ok (.iload_n 3, 1) := by decide +kernel
theorem dL_law_552 : decode cL_law 552 = .ok (.iconst 1, 1) := by decide +kernel
theorem dL_law_553 : decode cL_law 553 = .ok (.iadd, 1) := by decide +kernel
theorem dL_law_554 : decode cL_law 554 = .ok (.iaload, 1) := by decide +kernel
theorem dL_law_555 : decode cL_law 555 = .ok (.invokevirtual 53, 3) := by decide +kernel
theorem dL_law_558 : decode cL_law 558 = .ok (.aload_n 2, 1) := by decide +kernel
theorem dL_law_559 : decode cL_law 559 = .ok (.aload_n 0, 1) := by decide +kernel
theorem dL_law_560 : decode cL_law 560 = .ok (.iload_n 3, 1) := by decide +kernel
theorem dL_law_561 : decode cL_law 561 = .ok (.iconst 1, 1) := by decide +kernel
theorem dL_law_562 : decode cL_law 562 = .ok (.iadd, 1) := by decide +kernel
theorem dL_law_563 : decode cL_law 563 = .ok (.iaload, 1) := by decide +kernel
theorem dL_law_564 : decode cL_law 564 = .ok (.invokevirtual 56, 3) := by decide +kernel
theorem dL_law_567 : decode cL_law 567 = .ok (.if_icmp .eq 946, 3) := by decide +kernel
theorem dL_law_570 : decode cL_law 570 = .ok (.iconst 0, 1) := by decide +kernel
theorem dL_law_571 : decode cL_law 571 = .ok (.ireturn, 1) := by decide +kernel
theorem dL_law_572 : decode cL_law 572 = .ok (.aload_n 1, 1) := by decide +kernel
theorem dL_law_573 : decode cL_law 573 = .ok (.aload_n 0, 1) := by decide +kernel
theorem dL_law_574 : decode cL_law 574 = .ok (.iload_n 3, 1) := by decide +kernel
theorem dL_law_575 : decode cL_law 575 = .ok (.iconst 1, 1) := by decide +kernel
theorem dL_law_576 : decode cL_law 576 = .ok (.iadd, 1) := by decide +kernel
theorem dL_law_577 : decode cL_law 577 = .ok (.iaload, 1) := by decide +kernel
theorem dL_law_578 : decode cL_law 578 = .ok (.invokevirtual 57, 3) := by decide +kernel
theorem dL_law_581 : decode cL_law 581 = .ok (.aload_n 2, 1) := by decide +kernel
theorem dL_law_582 : decode cL_law 582 = .ok (.aload_n 0, 1) := by decide +kernel
theorem dL_law_583 : decode cL_law 583 = .ok (.iload_n 3, 1) := by decide +kernel
theorem dL_law_584 : decode cL_law 584 = .ok (.iconst 1, 1) := by decide +kernel
theorem dL_law_585 : decode cL_law 585 = .ok (.iadd, 1) := by decide +kernel
theorem dL_law_586 : decode cL_law 586 = .ok (.iaload, 1) := by decide +kernel
theorem dL_law_587 : decode cL_law 587 = .ok (.invokevirtual 60, 3) := by decide +kernel
theorem dL_law_590 : decode cL_law 590 = .ok (.if_icmp .eq 923, 3) := by decide +kernel
theorem dL_law_593 : decode cL_law 593 = .ok (.iconst 0, 1) := by decide +kernel
theorem dL_law_594 : decode cL_law 594 = .ok (.ireturn, 1) := by decide +kernel
theorem dL_law_595 : decode cL_law 595 = .ok (.aload_n 1, 1) := by decide +kernel
theorem dL_law_596 : decode cL_law 596 = .ok (.aload_n 0, 1) := by decide +kernel
theorem dL_law_597 : decode cL_law 597 = .ok (.iload_n 3, 1) := by decide +kernel
theorem dL_law_598 : decode cL_law 598 = .ok (.iconst 1, 1) := by decide +kernel
theorem dL_law_599 : decode cL_law 599 = .ok (.iadd, 1) := by decide +kernel
theorem dL_law_600 : decode cL_law 600 = .ok (.iaload, 1) := by decide +kernel
theorem dL_law_601 : decode cL_law 601 = .ok (.aload_n 0, 1) := by decide +kernel
theorem dL_law_602 : decode cL_law 602 = .ok (.iload_n 3, 1) := by decide +kernel
theorem dL_law_603 : decode cL_law 603 = .ok (.iconst 2, 1) := by decide +kernel
theorem dL_law_604 : decode cL_law 604 = .ok (.iadd, 1) := by decide +kernel
theorem dL_law_605 : decode cL_law 605 = .ok (.iaload, 1) := by decide +kernel
theorem dL_law_606 : decode cL_law 606 = .ok (.aload_n 0, 1) := by decide +kernel
theorem dL_law_607 : decode cL_law 607 = .ok (.iload_n 3, 1) := by decide +kernel
theorem dL_law_608 : decode cL_law 608 = .ok (.iconst 3, 1) := by decide +kernel
theorem dL_law_609 : decode cL_law 609 = .ok (.iadd, 1) := by decide +kernel
theorem dL_law_610 : decode cL_law 610 = .ok (.iaload, 1) := by decide +kernel
theorem dL_law_611 : decode cL_law 611 = .ok (.invokevirtual 61, 3) := by decide +kernel
theorem dL_law_614 : decode cL_law 614 = .ok (.aload_n 2, 1) := by decide +kernel
theorem dL_law_615 : decode cL_law 615 = .ok (.aload_n 0, 1) := by decide +kernel
theorem dL_law_616 : decode cL_law 616 = .ok (.iload_n 3, 1) := by decide +kernel
theorem dL_law_617 : decode cL_law 617 = .ok (.iconst 1, 1) := by decide +kernel
theorem dL_law_618 : decode cL_law 618 = .ok (.iadd, 1) := by decide +kernel
theorem dL_law_619 : decode cL_law 619 = .ok (.iaload, 1) := by decide +kernel
theorem dL_law_620 : decode cL_law 620 = .ok (.aload_n 0, 1) := by decide +kernel
theorem dL_law_621 : decode cL_law 621 = .ok (.iload_n 3, 1) := by decide +kernel
theorem dL_law_622 : decode cL_law 622 = .ok (.iconst 2, 1) := by decide +kernel
theorem dL_law_623 : decode cL_law 623 = .ok (.iadd, 1) := by decide +kernel
theorem dL_law_624 : decode cL_law 624 = .ok (.iaload, 1) := by decide +kernel
theorem dL_law_625 : decode cL_law 625 = .ok (.aload_n 0, 1) := by decide +kernel
theorem dL_law_626 : decode cL_law 626 = .ok (.iload_n 3, 1) := by decide +kernel
theorem dL_law_627 : decode cL_law 627 = .ok (.iconst 3, 1) := by decide +kernel
theorem dL_law_628 : decode cL_law 628 = .ok (.iadd, 1) := by decide +kernel
theorem dL_law_629 : decode cL_law 629 = .ok (.iaload, 1) := by decide +kernel
theorem dL_law_630 : decode cL_law 630 = .ok (.invokevirtual 64, 3) := by decide +kernel
theorem dL_law_633 : decode cL_law 633 = .ok (.if_icmp .eq 880, 3) := by decide +kernel
theorem dL_law_636 : decode cL_law 636 = .ok (.iconst 0, 1) := by decide +kernel
theorem dL_law_637 : decode cL_law 637 = .ok (.ireturn, 1) := by decide +kernel
theorem dL_law_638 : decode cL_law 638 = .ok (.aload_n 1, 1) := by decide +kernel
theorem dL_law_639 : decode cL_law 639 = .ok (.aload_n 0, 1) := by decide +kernel
theorem dL_law_640 : decode cL_law 640 = .ok (.iload_n 3, 1) := by decide +kernel
theorem dL_law_641 : decode cL_law 641 = .ok (.iconst 1, 1) := by decide +kernel
theorem dL_law_642 : decode cL_law 642 = .ok (.iadd, 1) := by decide +kernel
theorem dL_law_643 : decode cL_law 643 = .ok (.iaload, 1) := by decide +kernel
theorem dL_law_644 : decode cL_law 644 = .ok (.aload_n 0, 1) := by decide +kernel
theorem dL_law_645 : decode cL_law 645 = .ok (.iload_n 3, 1) := by decide +kernel
theorem dL_law_646 : decode cL_law 646 = .ok (.iconst 2, 1) := by decide +kernel
theorem dL_law_647 : decode cL_law 647 = .ok (.iadd, 1) := by decide +kernel
theorem dL_law_648 : decode cL_law 648 = .ok (.iaload, 1) := by decide +kernel
theorem dL_law_649 : decode cL_law 649 = .ok (.aload_n 0, 1) := by decide +kernel
theorem dL_law_650 : decode cL_law 650 = .ok (.iload_n 3, 1) := by decide +kernel
theorem dL_law_651 : decode cL_law 651 = .ok (.iconst 3, 1) := by decide +kernel
theorem dL_law_652 : decode cL_law 652 = .ok (.iadd, 1) := by decide +kernel
theorem dL_law_653 : decode cL_law 653 = .ok (.iaload, 1) := by decide +kernel
theorem dL_law_654 : decode cL_law 654 = .ok (.invokevirtual 65, 3) := by decide +kernel
theorem dL_law_657 : decode cL_law 657 = .ok (.aload_n 2, 1) := by decide +kernel
theorem dL_law_658 : decode cL_law 658 = .ok (.aload_n 0, 1) := by decide +kernel
theorem dL_law_659 : decode cL_law 659 = .ok (.iload_n 3, 1) := by decide +kernel
theorem dL_law_660 : decode cL_law 660 = .ok (.iconst 1, 1) := by decide +kernel
theorem dL_law_661 : decode cL_law 661 = .ok (.iadd, 1) := by decide +kernel
theorem dL_law_662 : decode cL_law 662 = .ok (.iaload, 1) := by decide +kernel
theorem dL_law_663 : decode cL_law 663 = .ok (.aload_n 0, 1) := by decide +kernel
theorem dL_law_664 : decode cL_law 664 = .ok (.iload_n 3, 1) := by decide +kernel
theorem dL_law_665 : decode cL_law 665 = .ok (.iconst 2, 1) := by decide +kernel
theorem dL_law_666 : decode cL_law 666 = .ok (.iadd, 1) := by decide +kernel
theorem dL_law_667 : decode cL_law 667 = .ok (.iaload, 1) := by decide +kernel
theorem dL_law_668 : decode cL_law 668 = .ok (.aload_n 0, 1) := by decide +kernel
theorem dL_law_669 : decode cL_law 669 = .ok (.iload_n 3, 1) := by decide +kernel
theorem dL_law_670 : decode cL_law 670 = .ok (.iconst 3, 1) := by decide +kernel
theorem dL_law_671 : decode cL_law 671 = .ok (.iadd, 1) := by decide +kernel
theorem dL_law_672 : decode cL_law 672 = .ok (.iaload, 1) := by decide +kernel
theorem dL_law_673 : decode cL_law 673 = .ok (.invokevirtual 68, 3) := by decide +kernel
theorem dL_law_676 : decode cL_law 676 = .ok (.if_icmp .eq 837, 3) := by decide +kernel
theorem dL_law_679 : decode cL_law 679 = .ok (.iconst 0, 1) := by decide +kernel
theorem dL_law_680 : decode cL_law 680 = .ok (.ireturn, 1) := by decide +kernel
theorem dL_law_681 : decode cL_law 681 = .ok (.aload_n 1, 1) := by decide +kernel
theorem dL_law_682 : decode cL_law 682 = .ok (.aload_n 0, 1) := by decide +kernel
theorem dL_law_683 : decode cL_law 683 = .ok (.iload_n 3, 1) := by decide +kernel
theorem dL_law_684 : decode cL_law 684 = .ok (.iconst 1, 1) := by decide +kernel
theorem dL_law_685 : decode cL_law 685 = .ok (.iadd, 1) := by decide +kernel
theorem dL_law_686 : decode cL_law 686 = .ok (.iaload, 1) := by decide +kernel
theorem dL_law_687 : decode cL_law 687 = .ok (.aload_n 0, 1) := by decide +kernel
theorem dL_law_688 : decode cL_law 688 = .ok (.iload_n 3, 1) := by decide +kernel
theorem dL_law_689 : decode cL_law 689 = .ok (.iconst 2, 1) := by decide +kernel
theorem dL_law_690 : decode cL_law 690 = .ok (.iadd, 1) := by decide +kernel
theorem dL_law_691 : decode cL_law 691 = .ok (.iaload, 1) := by decide +kernel
theorem dL_law_692 : decode cL_law 692 = .ok (.aload_n 0, 1) := by decide +kernel
theorem dL_law_693 : decode cL_law 693 = .ok (.iload_n 3, 1) := by decide +kernel
theorem dL_law_694 : decode cL_law 694 = .ok (.iconst 3, 1) := by decide +kernel
theorem dL_law_695 : decode cL_law 695 = .ok (.iadd, 1) := by decide +kernel
theorem dL_law_696 : decode cL_law 696 = .ok (.iaload, 1) := by decide +kernel
theorem dL_law_697 : decode cL_law 697 = .ok (.invokevirtual 69, 3) := by decide +kernel
theorem dL_law_700 : decode cL_law 700 = .ok (.aload_n 2, 1) := by decide +kernel
theorem dL_law_701 : decode cL_law 701 = .ok (.aload_n 0, 1) := by decide +kernel
theorem dL_law_702 : decode cL_law 702 = .ok (.iload_n 3, 1) := by decide +kernel
theorem dL_law_703 : decode cL_law 703 = .ok (.iconst 1, 1) := by decide +kernel
theorem dL_law_704 : decode cL_law 704 = .ok (.iadd, 1) := by decide +kernel
theorem dL_law_705 : decode cL_law 705 = .ok (.iaload, 1) := by decide +kernel
theorem dL_law_706 : decode cL_law 706 = .ok (.aload_n 0, 1) := by decide +kernel
theorem dL_law_707 : decode cL_law 707 = .ok (.iload_n 3, 1) := by decide +kernel
theorem dL_law_708 : decode cL_law 708 = .ok (.iconst 2, 1) := by decide +kernel
theorem dL_law_709 : decode cL_law 709 = .ok (.iadd, 1) := by decide +kernel
theorem dL_law_710 : decode cL_law 710 = .ok (.iaload, 1) := by decide +kernel
theorem dL_law_711 : decode cL_law 711 = .ok (.aload_n 0, 1) := by decide +kernel
theorem dL_law_712 : decode cL_law 712 = .ok (.iload_n 3, 1) := by decide +kernel
theorem dL_law_713 : decode cL_law 713 = .ok (.iconst 3, 1) := by decide +kernel
theorem dL_law_714 : decode cL_law 714 = .ok (.iadd, 1) := by decide +kernel
theorem dL_law_715 : decode cL_law 715 = .ok (.iaload, 1) := by decide +kernel
theorem dL_law_716 : decode cL_law 716 = .ok (.invokevirtual 72, 3) := by decide +kernel
theorem dL_law_719 : decode cL_law 719 = .ok (.if_icmp .eq 794, 3) := by decide +kernel
theorem dL_law_722 : decode cL_law 722 = .ok (.iconst 0, 1) := by decide +kernel
theorem dL_law_723 : decode cL_law 723 = .ok (.ireturn, 1) := by decide +kernel
theorem dL_law_724 : decode cL_law 724 = .ok (.aload_n 1, 1) := by decide +kernel
theorem dL_law_725 : decode cL_law 725 = .ok (.aload_n 0, 1) := by decide +kernel
theorem dL_law_726 : decode cL_law 726 = .ok (.iload_n 3, 1) := by decide +kernel
theorem dL_law_727 : decode cL_law 727 = .ok (.iconst 1, 1) := by decide +kernel
theorem dL_law_728 : decode cL_law 728 = .ok (.iadd, 1) := by decide +kernel
theorem dL_law_729 : decode cL_law 729 = .ok (.iaload, 1) := by decide +kernel
theorem dL_law_730 : decode cL_law 730 = .ok (.aload_n 0, 1) := by decide +kernel
theorem dL_law_731 : decode cL_law 731 = .ok (.iload_n 3, 1) := by decide +kernel
theorem dL_law_732 : decode cL_law 732 = .ok (.iconst 2, 1) := by decide +kernel
theorem dL_law_733 : decode cL_law 733 = .ok (.iadd, 1) := by decide +kernel
theorem dL_law_734 : decode cL_law 734 = .ok (.iaload, 1) := by decide +kernel
theorem dL_law_735 : decode cL_law 735 = .ok (.aload_n 0, 1) := by decide +kernel
theorem dL_law_736 : decode cL_law 736 = .ok (.iload_n 3, 1) := by decide +kernel
theorem dL_law_737 : decode cL_law 737 = .ok (.iconst 3, 1) := by decide +kernel
theorem dL_law_738 : decode cL_law 738 = .ok (.iadd, 1) := by decide +kernel
theorem dL_law_739 : decode cL_law 739 = .ok (.iaload, 1) := by decide +kernel
theorem dL_law_740 : decode cL_law 740 = .ok (.invokevirtual 73, 3) := by decide +kernel
theorem dL_law_743 : decode cL_law 743 = .ok (.aload_n 2, 1) := by decide +kernel
theorem dL_law_744 : decode cL_law 744 = .ok (.aload_n 0, 1) := by decide +kernel
theorem dL_law_745 : decode cL_law 745 = .ok (.iload_n 3, 1) := by decide +kernel
theorem dL_law_746 : decode cL_law 746 = .ok (.iconst 1, 1) := by decide +kernel
theorem dL_law_747 : decode cL_law 747 = .ok (.iadd, 1) := by decide +kernel
theorem dL_law_748 : decode cL_law 748 = .ok (.iaload, 1) := by decide +kernel
theorem dL_law_749 : decode cL_law 749 = .ok (.aload_n 0, 1) := by decide +kernel
theorem dL_law_750 : decode cL_law 750 = .ok (.iload_n 3, 1) := by decide +kernel
theorem dL_law_751 : decode cL_law 751 = .ok (.iconst 2, 1) := by decide +kernel
theorem dL_law_752 : decode cL_law 752 = .ok (.iadd, 1) := by decide +kernel
theorem dL_law_753 : decode cL_law 753 = .ok (.iaload, 1) := by decide +kernel
theorem dL_law_754 : decode cL_law 754 = .ok (.aload_n 0, 1) := by decide +kernel
theorem dL_law_755 : decode cL_law 755 = .ok (.iload_n 3, 1) := by decide +kernel
theorem dL_law_756 : decode cL_law 756 = .ok (.iconst 3, 1) := by decide +kernel
theorem dL_law_757 : decode cL_law 757 = .ok (.iadd, 1) := by decide +kernel
theorem dL_law_758 : decode cL_law 758 = .ok (.iaload, 1) := by decide +kernel
theorem dL_law_759 : decode cL_law 759 = .ok (.invokevirtual 76, 3) := by decide +kernel
theorem dL_law_762 : decode cL_law 762 = .ok (.if_icmp .eq 751, 3) := by decide +kernel
theorem dL_law_765 : decode cL_law 765 = .ok (.iconst 0, 1) := by decide +kernel
theorem dL_law_766 : decode cL_law 766 = .ok (.ireturn, 1) := by decide +kernel
theorem dL_law_767 : decode cL_law 767 = .ok (.aload_n 1, 1) := by decide +kernel
theorem dL_law_768 : decode cL_law 768 = .ok (.aload_n 0, 1) := by decide +kernel
theorem dL_law_769 : decode cL_law 769 = .ok (.iload_n 3, 1) := by decide +kernel
theorem dL_law_770 : decode cL_law 770 = .ok (.iconst 1, 1) := by decide +kernel
theorem dL_law_771 : decode cL_law 771 = .ok (.iadd, 1) := by decide +kernel
theorem dL_law_772 : decode cL_law 772 = .ok (.iaload, 1) := by decide +kernel
theorem dL_law_773 : decode cL_law 773 = .ok (.aload_n 0, 1) := by decide +kernel
theorem dL_law_774 : decode cL_law 774 = .ok (.iload_n 3, 1) := by decide +kernel
theorem dL_law_775 : decode cL_law 775 = .ok (.iconst 2, 1) := by decide +kernel
theorem dL_law_776 : decode cL_law 776 = .ok (.iadd, 1) := by decide +kernel
theorem dL_law_777 : decode cL_law 777 = .ok (.iaload, 1) := by decide +kernel
theorem dL_law_778 : decode cL_law 778 = .ok (.invokevirtual 77, 3) := by decide +kernel
theorem dL_law_781 : decode cL_law 781 = .ok (.aload_n 2, 1) := by decide +kernel
theorem dL_law_782 : decode cL_law 782 = .ok (.aload_n 0, 1) := by decide +kernel
theorem dL_law_783 : decode cL_law 783 = .ok (.iload_n 3, 1) := by decide +kernel
theorem dL_law_784 : decode cL_law 784 = .ok (.iconst 1, 1) := by decide +kernel
theorem dL_law_785 : decode cL_law 785 = .ok (.iadd, 1) := by decide +kernel
theorem dL_law_786 : decode cL_law 786 = .ok (.iaload, 1) := by decide +kernel
theorem dL_law_787 : decode cL_law 787 = .ok (.aload_n 0, 1) := by decide +kernel
theorem dL_law_788 : decode cL_law 788 = .ok (.iload_n 3, 1) := by decide +kernel
theorem dL_law_789 : decode cL_law 789 = .ok (.iconst 2, 1) := by decide +kernel
theorem dL_law_790 : decode cL_law 790 = .ok (.iadd, 1) := by decide +kernel
theorem dL_law_791 : decode cL_law 791 = .ok (.iaload, 1) := by decide +kernel
theorem dL_law_792 : decode cL_law 792 = .ok (.invokevirtual 80, 3) := by decide +kernel
theorem dL_law_795 : decode cL_law 795 = .ok (.if_icmp .eq 718, 3) := by decide +kernel
theorem dL_law_798 : decode cL_law 798 = .ok (.iconst 0, 1) := by decide +kernel
theorem dL_law_799 : decode cL_law 799 = .ok (.ireturn, 1) := by decide +kernel
theorem dL_law_800 : decode cL_law 800 = .ok (.aload_n 1, 1) := by decide +kernel
theorem dL_law_801 : decode cL_law 801 = .ok (.aload_n 0, 1) := by decide +kernel
theorem dL_law_802 : decode cL_law 802 = .ok (.iload_n 3, 1) := by decide +kernel
theorem dL_law_803 : decode cL_law 803 = .ok (.iconst 1, 1) := by decide +kernel
theorem dL_law_804 : decode cL_law 804 = .ok (.iadd, 1) := by decide +kernel
theorem dL_law_805 : decode cL_law 805 = .ok (.iaload, 1) := by decide +kernel
theorem dL_law_806 : decode cL_law 806 = .ok (.invokevirtual 81, 3) := by decide +kernel
theorem dL_law_809 : decode cL_law 809 = .ok (.aload_n 2, 1) := by decide +kernel
theorem dL_law_810 : decode cL_law 810 = .ok (.aload_n 0, 1) := by decide +kernel
theorem dL_law_811 : decode cL_law 811 = .ok (.iload_n 3, 1) := by decide +kernel
theorem dL_law_812 : decode cL_law 812 = .ok (.iconst 1, 1) := by decide +kernel
theorem dL_law_813 : decode cL_law 813 = .ok (.iadd, 1) := by decide +kernel
theorem dL_law_814 : decode cL_law 814 = .ok (.iaload, 1) := by decide +kernel
theorem dL_law_815 : decode cL_law 815 = .ok (.invokevirtual 84, 3) := by decide +kernel
theorem dL_law_818 : decode cL_law 818 = .ok (.if_icmp .eq 695, 3) := by decide +kernel
theorem dL_law_821 : decode cL_law 821 = .ok (.iconst 0, 1) := by decide +kernel
theorem dL_law_822 : decode cL_law 822 = .ok (.ireturn, 1) := by decide +kernel
theorem dL_law_823 : decode cL_law 823 = .ok (.aload_n 1, 1) := by decide +kernel
theorem dL_law_824 : decode cL_law 824 = .ok (.aload_n 0, 1) := by decide +kernel
theorem dL_law_825 : decode cL_law 825 = .ok (.iload_n 3, 1) := by decide +kernel
theorem dL_law_826 : decode cL_law 826 = .ok (.iconst 1, 1) := by decide +kernel
theorem dL_law_827 : decode cL_law 827 = .ok (.iadd, 1) := by decide +kernel
theorem dL_law_828 : decode cL_law 828 = .ok (.iaload, 1) := by decide +kernel
theorem dL_law_829 : decode cL_law 829 = .ok (.invokevirtual 85, 3) := by decide +kernel
theorem dL_law_832 : decode cL_law 832 = .ok (.aload_n 2, 1) := by decide +kernel
theorem dL_law_833 : decode cL_law 833 = .ok (.aload_n 0, 1) := by decide +kernel
theorem dL_law_834 : decode cL_law 834 = .ok (.iload_n 3, 1) := by decide +kernel
theorem dL_law_835 : decode cL_law 835 = .ok (.iconst 1, 1) := by decide +kernel
theorem dL_law_836 : decode cL_law 836 = .ok (.iadd, 1) := by decide +kernel
theorem dL_law_837 : decode cL_law 837 = .ok (.iaload, 1) := by decide +kernel
theorem dL_law_838 : decode cL_law 838 = .ok (.invokevirtual 88, 3) := by decide +kernel
theorem dL_law_841 : decode cL_law 841 = .ok (.if_icmp .eq 672, 3) := by decide +kernel
theorem dL_law_844 : decode cL_law 844 = .ok (.iconst 0, 1) := by decide +kernel
theorem dL_law_845 : decode cL_law 845 = .ok (.ireturn, 1) := by decide +kernel
theorem dL_law_846 : decode cL_law 846 = .ok (.aload_n 1, 1) := by decide +kernel
theorem dL_law_847 : decode cL_law 847 = .ok (.aload_n 0, 1) := by decide +kernel
theorem dL_law_848 : decode cL_law 848 = .ok (.iload_n 3, 1) := by decide +kernel
theorem dL_law_849 : decode cL_law 849 = .ok (.iconst 1, 1) := by decide +kernel
theorem dL_law_850 : decode cL_law 850 = .ok (.iadd, 1) := by decide +kernel
theorem dL_law_851 : decode cL_law 851 = .ok (.iaload, 1) := by decide +kernel
theorem dL_law_852 : decode cL_law 852 = .ok (.invokevirtual 89, 3) := by decide +kernel
theorem dL_law_855 : decode cL_law 855 = .ok (.aload_n 2, 1) := by decide +kernel
theorem dL_law_856 : decode cL_law 856 = .ok (.aload_n 0, 1) := by decide +kernel
theorem dL_law_857 : decode cL_law 857 = .ok (.iload_n 3, 1) := by decide +kernel
theorem dL_law_858 : decode cL_law 858 = .ok (.iconst 1, 1) := by decide +kernel
theorem dL_law_859 : decode cL_law 859 = .ok (.iadd, 1) := by decide +kernel
theorem dL_law_860 : decode cL_law 860 = .ok (.iaload, 1) := by decide +kernel
theorem dL_law_861 : decode cL_law 861 = .ok (.invokevirtual 92, 3) := by decide +kernel
theorem dL_law_864 : decode cL_law 864 = .ok (.if_icmp .eq 649, 3) := by decide +kernel
theorem dL_law_867 : decode cL_law 867 = .ok (.iconst 0, 1) := by decide +kernel
theorem dL_law_868 : decode cL_law 868 = .ok (.ireturn, 1) := by decide +kernel
theorem dL_law_869 : decode cL_law 869 = .ok (.aload_n 1, 1) := by decide +kernel
theorem dL_law_870 : decode cL_law 870 = .ok (.aload_n 0, 1) := by decide +kernel
theorem dL_law_871 : decode cL_law 871 = .ok (.iload_n 3, 1) := by decide +kernel
theorem dL_law_872 : decode cL_law 872 = .ok (.iconst 1, 1) := by decide +kernel
theorem dL_law_873 : decode cL_law 873 = .ok (.iadd, 1) := by decide +kernel
theorem dL_law_874 : decode cL_law 874 = .ok (.iaload, 1) := by decide +kernel
theorem dL_law_875 : decode cL_law 875 = .ok (.aload_n 0, 1) := by decide +kernel
theorem dL_law_876 : decode cL_law 876 = .ok (.iload_n 3, 1) := by decide +kernel
theorem dL_law_877 : decode cL_law 877 = .ok (.iconst 2, 1) := by decide +kernel
theorem dL_law_878 : decode cL_law 878 = .ok (.iadd, 1) := by decide +kernel
theorem dL_law_879 : decode cL_law 879 = .ok (.iaload, 1) := by decide +kernel
theorem dL_law_880 : decode cL_law 880 = .ok (.aload_n 0, 1) := by decide +kernel
theorem dL_law_881 : decode cL_law 881 = .ok (.iload_n 3, 1) := by decide +kernel
theorem dL_law_882 : decode cL_law 882 = .ok (.iconst 3, 1) := by decide +kernel
theorem dL_law_883 : decode cL_law 883 = .ok (.iadd, 1) := by decide +kernel
theorem dL_law_884 : decode cL_law 884 = .ok (.iaload, 1) := by decide +kernel
theorem dL_law_885 : decode cL_law 885 = .ok (.invokevirtual 93, 3) := by decide +kernel
theorem dL_law_888 : decode cL_law 888 = .ok (.aload_n 2, 1) := by decide +kernel
theorem dL_law_889 : decode cL_law 889 = .ok (.aload_n 0, 1) := by decide +kernel
theorem dL_law_890 : decode cL_law 890 = .ok (.iload_n 3, 1) := by decide +kernel
theorem dL_law_891 : decode cL_law 891 = .ok (.iconst 1, 1) := by decide +kernel
theorem dL_law_892 : decode cL_law 892 = .ok (.iadd, 1) := by decide +kernel
theorem dL_law_893 : decode cL_law 893 = .ok (.iaload, 1) := by decide +kernel
theorem dL_law_894 : decode cL_law 894 = .ok (.aload_n 0, 1) := by decide +kernel
theorem dL_law_895 : decode cL_law 895 = .ok (.iload_n 3, 1) := by decide +kernel
theorem dL_law_896 : decode cL_law 896 = .ok (.iconst 2, 1) := by decide +kernel
theorem dL_law_897 : decode cL_law 897 = .ok (.iadd, 1) := by decide +kernel
theorem dL_law_898 : decode cL_law 898 = .ok (.iaload, 1) := by decide +kernel
theorem dL_law_899 : decode cL_law 899 = .ok (.aload_n 0, 1) := by decide +kernel
theorem dL_law_900 : decode cL_law 900 = .ok (.iload_n 3, 1) := by decide +kernel
theorem dL_law_901 : decode cL_law 901 = .ok (.iconst 3, 1) := by decide +kernel
theorem dL_law_902 : decode cL_law 902 = .ok (.iadd, 1) := by decide +kernel
theorem dL_law_903 : decode cL_law 903 = .ok (.iaload, 1) := by decide +kernel
theorem dL_law_904 : decode cL_law 904 = .ok (.invokevirtual 96, 3) := by decide +kernel
theorem dL_law_907 : decode cL_law 907 = .ok (.if_icmp .eq 606, 3) := by decide +kernel
theorem dL_law_910 : decode cL_law 910 = .ok (.iconst 0, 1) := by decide +kernel
theorem dL_law_911 : decode cL_law 911 = .ok (.ireturn, 1) := by decide +kernel
theorem dL_law_912 : decode cL_law 912 = .ok (.aload_n 1, 1) := by decide +kernel
theorem dL_law_913 : decode cL_law 913 = .ok (.aload_n 0, 1) := by decide +kernel
theorem dL_law_914 : decode cL_law 914 = .ok (.iload_n 3, 1) := by decide +kernel
theorem dL_law_915 : decode cL_law 915 = .ok (.iconst 1, 1) := by decide +kernel
theorem dL_law_916 : decode cL_law 916 = .ok (.iadd, 1) := by decide +kernel
theorem dL_law_917 : decode cL_law 917 = .ok (.iaload, 1) := by decide +kernel
theorem dL_law_918 : decode cL_law 918 = .ok (.aload_n 0, 1) := by decide +kernel
theorem dL_law_919 : decode cL_law 919 = .ok (.iload_n 3, 1) := by decide +kernel
theorem dL_law_920 : decode cL_law 920 = .ok (.iconst 2, 1) := by decide +kernel
theorem dL_law_921 : decode cL_law 921 = .ok (.iadd, 1) := by decide +kernel
theorem dL_law_922 : decode cL_law 922 = .ok (.iaload, 1) := by decide +kernel
theorem dL_law_923 : decode cL_law 923 = .ok (.invokevirtual 97, 3) := by decide +kernel
theorem dL_law_926 : decode cL_law 926 = .ok (.aload_n 2, 1) := by decide +kernel
theorem dL_law_927 : decode cL_law 927 = .ok (.aload_n 0, 1) := by decide +kernel
theorem dL_law_928 : decode cL_law 928 = .ok (.iload_n 3, 1) := by decide +kernel
theorem dL_law_929 : decode cL_law 929 = .ok (.iconst 1, 1) := by decide +kernel
theorem dL_law_930 : decode cL_law 930 = .ok (.iadd, 1) := by decide +kernel
theorem dL_law_931 : decode cL_law 931 = .ok (.iaload, 1) := by decide +kernel
theorem dL_law_932 : decode cL_law 932 = .ok (.aload_n 0, 1) := by decide +kernel
theorem dL_law_933 : decode cL_law 933 = .ok (.iload_n 3, 1) := by decide +kernel
theorem dL_law_934 : decode cL_law 934 = .ok (.iconst 2, 1) := by decide +kernel
theorem dL_law_935 : decode cL_law 935 = .ok (.iadd, 1) := by decide +kernel
theorem dL_law_936 : decode cL_law 936 = .ok (.iaload, 1) := by decide +kernel
theorem dL_law_937 : decode cL_law 937 = .ok (.invokevirtual 100, 3) := by decide +kernel
theorem dL_law_940 : decode cL_law 940 = .ok (.if_icmp .eq 573, 3) := by decide +kernel
theorem dL_law_943 : decode cL_law 943 = .ok (.iconst 0, 1) := by decide +kernel
theorem dL_law_944 : decode cL_law 944 = .ok (.ireturn, 1) := by decide +kernel
theorem dL_law_945 : decode cL_law 945 = .ok (.aload_n 1, 1) := by decide +kernel
theorem dL_law_946 : decode cL_law 946 = .ok (.aload_n 0, 1) := by decide +kernel
theorem dL_law_947 : decode cL_law 947 = .ok (.iload_n 3, 1) := by decide +kernel
theorem dL_law_948 : decode cL_law 948 = .ok (.iconst 1, 1) := by decide +kernel
theorem dL_law_949 : decode cL_law 949 = .ok (.iadd, 1) := by decide +kernel
theorem dL_law_950 : decode cL_law 950 = .ok (.iaload, 1) := by decide +kernel
theorem dL_law_951 : decode cL_law 951 = .ok (.aload_n 0, 1) := by decide +kernel
theorem dL_law_952 : decode cL_law 952 = .ok (.iload_n 3, 1) := by decide +kernel
theorem dL_law_953 : decode cL_law 953 = .ok (.iconst 2, 1) := by decide +kernel
theorem dL_law_954 : decode cL_law 954 = .ok (.iadd, 1) := by decide +kernel
theorem dL_law_955 : decode cL_law 955 = .ok (.iaload, 1) := by decide +kernel
theorem dL_law_956 : decode cL_law 956 = .ok (.invokevirtual 101, 3) := by decide +kernel
theorem dL_law_959 : decode cL_law 959 = .ok (.aload_n 2, 1) := by decide +kernel
theorem dL_law_960 : decode cL_law 960 = .ok (.aload_n 0, 1) := by decide +kernel
theorem dL_law_961 : decode cL_law 961 = .ok (.iload_n 3, 1) := by decide +kernel
theorem dL_law_962 : decode cL_law 962 = .ok (.iconst 1, 1) := by decide +kernel
theorem dL_law_963 : decode cL_law 963 = .ok (.iadd, 1) := by decide +kernel
theorem dL_law_964 : decode cL_law 964 = .ok (.iaload, 1) := by decide +kernel
theorem dL_law_965 : decode cL_law 965 = .ok (.aload_n 0, 1) := by decide +kernel
theorem dL_law_966 : decode cL_law 966 = .ok (.iload_n 3, 1) := by decide +kernel
theorem dL_law_967 : decode cL_law 967 = .ok (.iconst 2, 1) := by decide +kernel
theorem dL_law_968 : decode cL_law 968 = .ok (.iadd, 1) := by decide +kernel
theorem dL_law_969 : decode cL_law 969 = .ok (.iaload, 1) := by decide +kernel
theorem dL_law_970 : decode cL_law 970 = .ok (.invokevirtual 104, 3) := by decide +kernel
theorem dL_law_973 : decode cL_law 973 = .ok (.if_icmp .eq 540, 3) := by decide +kernel
theorem dL_law_976 : decode cL_law 976 = .ok (.iconst 0, 1) := by decide +kernel
theorem dL_law_977 : decode cL_law 977 = .ok (.ireturn, 1) := by decide +kernel
theorem dL_law_978 : decode cL_law 978 = .ok (.aload_n 1, 1) := by decide +kernel
theorem dL_law_979 : decode cL_law 979 = .ok (.aload_n 0, 1) := by decide +kernel
theorem dL_law_980 : decode cL_law 980 = .ok (.iload_n 3, 1) := by decide +kernel
theorem dL_law_981 : decode cL_law 981 = .ok (.iconst 1, 1) := by decide +kernel
theorem dL_law_982 : decode cL_law 982 = .ok (.iadd, 1) := by decide +kernel
theorem dL_law_983 : decode cL_law 983 = .ok (.iaload, 1) := by decide +kernel
theorem dL_law_984 : decode cL_law 984 = .ok (.invokevirtual 105, 3) := by decide +kernel
theorem dL_law_987 : decode cL_law 987 = .ok (.aload_n 2, 1) := by decide +kernel
theorem dL_law_988 : decode cL_law 988 = .ok (.aload_n 0, 1) := by decide +kernel
theorem dL_law_989 : decode cL_law 989 = .ok (.iload_n 3, 1) := by decide +kernel
theorem dL_law_990 : decode cL_law 990 = .ok (.iconst 1, 1) := by decide +kernel
theorem dL_law_991 : decode cL_law 991 = .ok (.iadd, 1) := by decide +kernel
theorem dL_law_992 : decode cL_law 992 = .ok (.iaload, 1) := by decide +kernel
theorem dL_law_993 : decode cL_law 993 = .ok (.invokevirtual 108, 3) := by decide +kernel
theorem dL_law_996 : decode cL_law 996 = .ok (.if_icmp .eq 517, 3) := by decide +kernel
theorem dL_law_999 : decode cL_law 999 = .ok (.iconst 0, 1) := by decide +kernel
theorem dL_law_1000 : decode cL_law 1000 = .ok (.ireturn, 1) := by decide +kernel
theorem dL_law_1001 : decode cL_law 1001 = .ok (.aload_n 1, 1) := by decide +kernel
theorem dL_law_1002 : decode cL_law 1002 = .ok (.invokevirtual 109, 3) := by decide +kernel
theorem dL_law_1005 : decode cL_law 1005 = .ok (.aload_n 2, 1) := by decide +kernel
theorem dL_law_1006 : decode cL_law 1006 = .ok (.invokevirtual 113, 3) := by decide +kernel
theorem dL_law_1009 : decode cL_law 1009 = .ok (.if_icmp .eq 504, 3) := by decide +kernel
theorem dL_law_1012 : decode cL_law 1012 = .ok (.iconst 0, 1) := by decide +kernel
theorem dL_law_1013 : decode cL_law 1013 = .ok (.ireturn, 1) := by decide +kernel
theorem dL_law_1014 : decode cL_law 1014 = .ok (.aload_n 1, 1) := by decide +kernel
theorem dL_law_1015 : decode cL_law 1015 = .ok (.invokevirtual 114, 3) := by decide +kernel
theorem dL_law_1018 : decode cL_law 1018 = .ok (.aload_n 2, 1) := by decide +kernel
theorem dL_law_1019 : decode cL_law 1019 = .ok (.invokevirtual 117, 3) := by decide +kernel
theorem dL_law_1022 : decode cL_law 1022 = .ok (.if_icmp .eq 491, 3) := by decide +kernel
theorem dL_law_1025 : decode cL_law 1025 = .ok (.iconst 0, 1) := by decide +kernel
theorem dL_law_1026 : decode cL_law 1026 = .ok (.ireturn, 1) := by decide +kernel
theorem dL_law_1027 : decode cL_law 1027 = .ok (.aload_n 1, 1) := by decide +kernel
theorem dL_law_1028 : decode cL_law 1028 = .ok (.invokevirtual 118, 3) := by decide +kernel
theorem dL_law_1031 : decode cL_law 1031 = .ok (.aload_n 2, 1) := by decide +kernel
theorem dL_law_1032 : decode cL_law 1032 = .ok (.invokevirtual 121, 3) := by decide +kernel
theorem dL_law_1035 : decode cL_law 1035 = .ok (.if_icmp .eq 478, 3) := by decide +kernel
theorem dL_law_1038 : decode cL_law 1038 = .ok (.iconst 0, 1) := by decide +kernel
theorem dL_law_1039 : decode cL_law 1039 = .ok (.ireturn, 1) := by decide +kernel
theorem dL_law_1040 : decode cL_law 1040 = .ok (.aload_n 1, 1) := by decide +kernel
theorem dL_law_1041 : decode cL_law 1041 = .ok (.aload_n 0, 1) := by decide +kernel
theorem dL_law_1042 : decode cL_law 1042 = .ok (.iload_n 3, 1) := by decide +kernel
theorem dL_law_1043 : decode cL_law 1043 = .ok (.iconst 1, 1) := by decide +kernel
theorem dL_law_1044 : decode cL_law 1044 = .ok (.iadd, 1) := by decide +kernel
theorem dL_law_1045 : decode cL_law 1045 = .ok (.iaload, 1) := by decide +kernel
theorem dL_law_1046 : decode cL_law 1046 = .ok (.aload_n 0, 1) := by decide +kernel
theorem dL_law_1047 : decode cL_law 1047 = .ok (.iload_n 3, 1) := by decide +kernel
theorem dL_law_1048 : decode cL_law 1048 = .ok (.iconst 2, 1) := by decide +kernel
theorem dL_law_1049 : decode cL_law 1049 = .ok (.iadd, 1) := by decide +kernel
theorem dL_law_1050 : decode cL_law 1050 = .ok (.iaload, 1) := by decide +kernel
theorem dL_law_1051 : decode cL_law 1051 = .ok (.invokevirtual 122, 3) := by decide +kernel
theorem dL_law_1054 : decode cL_law 1054 = .ok (.aload_n 2, 1) := by decide +kernel
theorem dL_law_1055 : decode cL_law 1055 = .ok (.aload_n 0, 1) := by decide +kernel
theorem dL_law_1056 : decode cL_law 1056 = .ok (.iload_n 3, 1) := by decide +kernel
theorem dL_law_1057 : decode cL_law 1057 = .ok (.iconst 1, 1) := by decide +kernel
theorem dL_law_1058 : decode cL_law 1058 = .ok (.iadd, 1) := by decide +kernel
theorem dL_law_1059 : decode cL_law 1059 = .ok (.iaload, 1) := by decide +kernel
theorem dL_law_1060 : decode cL_law 1060 = .ok (.aload_n 0, 1) := by decide +kernel
theorem dL_law_1061 : decode cL_law 1061 = .ok (.iload_n 3, 1) := by decide +kernel
theorem dL_law_1062 : decode cL_law 1062 = .ok (.iconst 2, 1) := by decide +kernel
theorem dL_law_1063 : decode cL_law 1063 = .ok (.iadd, 1) := by decide +kernel
theorem dL_law_1064 : decode cL_law 1064 = .ok (.iaload, 1) := by decide +kernel
theorem dL_law_1065 : decode cL_law 1065 = .ok (.invokevirtual 125, 3) := by decide +kernel
theorem dL_law_1068 : decode cL_law 1068 = .ok (.if_icmp .eq 445, 3) := by decide +kernel
theorem dL_law_1071 : decode cL_law 1071 = .ok (.iconst 0, 1) := by decide +kernel
theorem dL_law_1072 : decode cL_law 1072 = .ok (.ireturn, 1) := by decide +kernel
theorem dL_law_1073 : decode cL_law 1073 = .ok (.aload_n 1, 1) := by decide +kernel
theorem dL_law_1074 : decode cL_law 1074 = .ok (.aload_n 0, 1) := by decide +kernel
theorem dL_law_1075 : decode cL_law 1075 = .ok (.iload_n 3, 1) := by decide +kernel
theorem dL_law_1076 : decode cL_law 1076 = .ok (.iconst 1, 1) := by decide +kernel
theorem dL_law_1077 : decode cL_law 1077 = .ok (.iadd, 1) := by decide +kernel
theorem dL_law_1078 : decode cL_law 1078 = .ok (.iaload, 1) := by decide +kernel
theorem dL_law_1079 : decode cL_law 1079 = .ok (.aload_n 0, 1) := by decide +kernel
theorem dL_law_1080 : decode cL_law 1080 = .ok (.iload_n 3, 1) := by decide +kernel
theorem dL_law_1081 : decode cL_law 1081 = .ok (.iconst 2, 1) := by decide +kernel
theorem dL_law_1082 : decode cL_law 1082 = .ok (.iadd, 1) := by decide +kernel
theorem dL_law_1083 : decode cL_law 1083 = .ok (.iaload, 1) := by decide +kernel
theorem dL_law_1084 : decode cL_law 1084 = .ok (.aload_n 0, 1) := by decide +kernel
theorem dL_law_1085 : decode cL_law 1085 = .ok (.iload_n 3, 1) := by decide +kernel
theorem dL_law_1086 : decode cL_law 1086 = .ok (.iconst 3, 1) := by decide +kernel
theorem dL_law_1087 : decode cL_law 1087 = .ok (.iadd, 1) := by decide +kernel
theorem dL_law_1088 : decode cL_law 1088 = .ok (.iaload, 1) := by decide +kernel
theorem dL_law_1089 : decode cL_law 1089 = .ok (.invokevirtual 126, 3) := by decide +kernel
theorem dL_law_1092 : decode cL_law 1092 = .ok (.aload_n 2, 1) := by decide +kernel
theorem dL_law_1093 : decode cL_law 1093 = .ok (.aload_n 0, 1) := by decide +kernel
theorem dL_law_1094 : decode cL_law 1094 = .ok (.iload_n 3, 1) := by decide +kernel
theorem dL_law_1095 : decode cL_law 1095 = .ok (.iconst 1, 1) := by decide +kernel
theorem dL_law_1096 : decode cL_law 1096 = .ok (.iadd, 1) := by decide +kernel
theorem dL_law_1097 : decode cL_law 1097 = .ok (.iaload, 1) := by decide +kernel
theorem dL_law_1098 : decode cL_law 1098 = .ok (.aload_n 0, 1) := by decide +kernel
theorem dL_law_1099 : decode cL_law 1099 = .ok (.iload_n 3, 1) := by decide +kernel
theorem dL_law_1100 : decode cL_law 1100 = .ok (.iconst 2, 1) := by decide +kernel
theorem dL_law_1101 : decode cL_law 1101 = .ok (.iadd, 1) := by decide +kernel
theorem dL_law_1102 : decode cL_law 1102 = .ok (.iaload, 1) := by decide +kernel
theorem dL_law_1103 : decode cL_law 1103 = .ok (.aload_n 0, 1) := by decide +kernel
theorem dL_law_1104 : decode cL_law 1104 = .ok (.iload_n 3, 1) := by decide +kernel
theorem dL_law_1105 : decode cL_law 1105 = .ok (.iconst 3, 1) := by decide +kernel
theorem dL_law_1106 : decode cL_law 1106 = .ok (.iadd, 1) := by decide +kernel
theorem dL_law_1107 : decode cL_law 1107 = .ok (.iaload, 1) := by decide +kernel
theorem dL_law_1108 : decode cL_law 1108 = .ok (.invokevirtual 129, 3) := by decide +kernel
theorem dL_law_1111 : decode cL_law 1111 = .ok (.if_icmp .eq 402, 3) := by decide +kernel
theorem dL_law_1114 : decode cL_law 1114 = .ok (.iconst 0, 1) := by decide +kernel
theorem dL_law_1115 : decode cL_law 1115 = .ok (.ireturn, 1) := by decide +kernel
theorem dL_law_1116 : decode cL_law 1116 = .ok (.aload_n 1, 1) := by decide +kernel
theorem dL_law_1117 : decode cL_law 1117 = .ok (.invokevirtual 130, 3) := by decide +kernel
theorem dL_law_1120 : decode cL_law 1120 = .ok (.aload_n 2, 1) := by decide +kernel
theorem dL_law_1121 : decode cL_law 1121 = .ok (.invokevirtual 133, 3) := by decide +kernel
theorem dL_law_1124 : decode cL_law 1124 = .ok (.if_icmp .eq 389, 3) := by decide +kernel
theorem dL_law_1127 : decode cL_law 1127 = .ok (.iconst 0, 1) := by decide +kernel
theorem dL_law_1128 : decode cL_law 1128 = .ok (.ireturn, 1) := by decide +kernel
theorem dL_law_1129 : decode cL_law 1129 = .ok (.aload_n 1, 1) := by decide +kernel
theorem dL_law_1130 : decode cL_law 1130 = .ok (.invokevirtual 134, 3) := by decide +kernel
theorem dL_law_1133 : decode cL_law 1133 = .ok (.aload_n 2, 1) := by decide +kernel
theorem dL_law_1134 : decode cL_law 1134 = .ok (.invokevirtual 137, 3) := by decide +kernel
theorem dL_law_1137 : decode cL_law 1137 = .ok (.if_icmp .eq 376, 3) := by decide +kernel
theorem dL_law_1140 : decode cL_law 1140 = .ok (.iconst 0, 1) := by decide +kernel
theorem dL_law_1141 : decode cL_law 1141 = .ok (.ireturn, 1) := by decide +kernel
theorem dL_law_1142 : decode cL_law 1142 = .ok (.aload_n 1, 1) := by decide +kernel
theorem dL_law_1143 : decode cL_law 1143 = .ok (.aload_n 0, 1) := by decide +kernel
theorem dL_law_1144 : decode cL_law 1144 = .ok (.iload_n 3, 1) := by decide +kernel
theorem dL_law_1145 : decode cL_law 1145 = .ok (.iconst 1, 1) := by decide +kernel
theorem dL_law_1146 : decode cL_law 1146 = .ok (.iadd, 1) := by decide +kernel
theorem dL_law_1147 : decode cL_law 1147 = .ok (.iaload, 1) := by decide +kernel
theorem dL_law_1148 : decode cL_law 1148 = .ok (.aload_n 0, 1) := by decide +kernel
theorem dL_law_1149 : decode cL_law 1149 = .ok (.iload_n 3, 1) := by decide +kernel
theorem dL_law_1150 : decode cL_law 1150 = .ok (.iconst 2, 1) := by decide +kernel
theorem dL_law_1151 : decode cL_law 1151 = .ok (.iadd, 1) := by decide +kernel
theorem dL_law_1152 : decode cL_law 1152 = .ok (.iaload, 1) := by decide +kernel
theorem dL_law_1153 : decode cL_law 1153 = .ok (.invokevirtual 138, 3) := by decide +kernel
theorem dL_law_1156 : decode cL_law 1156 = .ok (.aload_n 2, 1) := by decide +kernel
theorem dL_law_1157 : decode cL_law 1157 = .ok (.aload_n 0, 1) := by decide +kernel
theorem dL_law_1158 : decode cL_law 1158 = .ok (.iload_n 3, 1) := by decide +kernel
theorem dL_law_1159 : decode cL_law 1159 = .ok (.iconst 1, 1) := by decide +kernel
theorem dL_law_1160 : decode cL_law 1160 = .ok (.iadd, 1) := by decide +kernel
theorem dL_law_1161 : decode cL_law 1161 = .ok (.iaload, 1) := by decide +kernel
theorem dL_law_1162 : decode cL_law 1162 = .ok (.aload_n 0, 1) := by decide +kernel
theorem dL_law_1163 : decode cL_law 1163 = .ok (.iload_n 3, 1) := by decide +kernel
theorem dL_law_1164 : decode cL_law 1164 = .ok (.iconst 2, 1) := by decide +kernel
theorem dL_law_1165 : decode cL_law 1165 = .ok (.iadd, 1) := by decide +kernel
theorem dL_law_1166 : decode cL_law 1166 = .ok (.iaload, 1) := by decide +kernel
theorem dL_law_1167 : decode cL_law 1167 = .ok (.invokevirtual 141, 3) := by decide +kernel
theorem dL_law_1170 : decode cL_law 1170 = .ok (.if_icmp .eq 343, 3) := by decide +kernel
theorem dL_law_1173 : decode cL_law 1173 = .ok (.iconst 0, 1) := by decide +kernel
theorem dL_law_1174 : decode cL_law 1174 = .ok (.ireturn, 1) := by decide +kernel
theorem dL_law_1175 : decode cL_law 1175 = .ok (.aload_n 1, 1) := by decide +kernel
theorem dL_law_1176 : decode cL_law 1176 = .ok (.invokevirtual 142, 3) := by decide +kernel
theorem dL_law_1179 : decode cL_law 1179 = .ok (.aload_n 2, 1) := by decide +kernel
theorem dL_law_1180 : decode cL_law 1180 = .ok (.invokevirtual 145, 3) := by decide +kernel
theorem dL_law_1183 : decode cL_law 1183 = .ok (.if_icmp .eq 330, 3) := by decide +kernel
theorem dL_law_1186 : decode cL_law 1186 = .ok (.iconst 0, 1) := by decide +kernel
theorem dL_law_1187 : decode cL_law 1187 = .ok (.ireturn, 1) := by decide +kernel
theorem dL_law_1188 : decode cL_law 1188 = .ok (.aload_n 1, 1) := by decide +kernel
theorem dL_law_1189 : decode cL_law 1189 = .ok (.invokevirtual 146, 3) := by decide +kernel
theorem dL_law_1192 : decode cL_law 1192 = .ok (.aload_n 2, 1) := by decide +kernel
theorem dL_law_1193 : decode cL_law 1193 = .ok (.invokevirtual 149, 3) := by decide +kernel
theorem dL_law_1196 : decode cL_law 1196 = .ok (.if_icmp .eq 317, 3) := by decide +kernel
theorem dL_law_1199 : decode cL_law 1199 = .ok (.iconst 0, 1) := by decide +kernel
theorem dL_law_1200 : decode cL_law 1200 = .ok (.ireturn, 1) := by decide +kernel
theorem dL_law_1201 : decode cL_law 1201 = .ok (.aload_n 1, 1) := by decide +kernel
theorem dL_law_1202 : decode cL_law 1202 = .ok (.aload_n 0, 1) := by decide +kernel
theorem dL_law_1203 : decode cL_law 1203 = .ok (.iload_n 3, 1) := by decide +kernel
theorem dL_law_1204 : decode cL_law 1204 = .ok (.iconst 1, 1) := by decide +kernel
theorem dL_law_1205 : decode cL_law 1205 = .ok (.iadd, 1) := by decide +kernel
theorem dL_law_1206 : decode cL_law 1206 = .ok (.iaload, 1) := by decide +kernel
theorem dL_law_1207 : decode cL_law 1207 = .ok (.aload_n 0, 1) := by decide +kernel
theorem dL_law_1208 : decode cL_law 1208 = .ok (.iload_n 3, 1) := by decide +kernel
theorem dL_law_1209 : decode cL_law 1209 = .ok (.iconst 2, 1) := by decide +kernel
theorem dL_law_1210 : decode cL_law 1210 = .ok (.iadd, 1) := by decide +kernel
theorem dL_law_1211 : decode cL_law 1211 = .ok (.iaload, 1) := by decide +kernel
theorem dL_law_1212 : decode cL_law 1212 = .ok (.invokevirtual 150, 3) := by decide +kernel
theorem dL_law_1215 : decode cL_law 1215 = .ok (.aload_n 2, 1) := by decide +kernel
theorem dL_law_1216 : decode cL_law 1216 = .ok (.aload_n 0, 1) := by decide +kernel
theorem dL_law_1217 : decode cL_law 1217 = .ok (.iload_n 3, 1) := by decide +kernel
theorem dL_law_1218 : decode cL_law 1218 = .ok (.iconst 1, 1) := by decide +kernel
theorem dL_law_1219 : decode cL_law 1219 = .ok (.iadd, 1) := by decide +kernel
theorem dL_law_1220 : decode cL_law 1220 = .ok (.iaload, 1) := by decide +kernel
theorem dL_law_1221 : decode cL_law 1221 = .ok (.aload_n 0, 1) := by decide +kernel
theorem dL_law_1222 : decode cL_law 1222 = .ok (.iload_n 3, 1) := by decide +kernel
theorem dL_law_1223 : decode cL_law 1223 = .ok (.iconst 2, 1) := by decide +kernel
theorem dL_law_1224 : decode cL_law 1224 = .ok (.iadd, 1) := by decide +kernel
theorem dL_law_1225 : decode cL_law 1225 = .ok (.iaload, 1) := by decide +kernel
theorem dL_law_1226 : decode cL_law 1226 = .ok (.invokevirtual 153, 3) := by decide +kernel
theorem dL_law_1229 : decode cL_law 1229 = .ok (.if_icmp .eq 284, 3) := by decide +kernel
theorem dL_law_1232 : decode cL_law 1232 = .ok (.iconst 0, 1) := by decide +kernel
theorem dL_law_1233 : decode cL_law 1233 = .ok (.ireturn, 1) := by decide +kernel
theorem dL_law_1234 : decode cL_law 1234 = .ok (.aload_n 1, 1) := by decide +kernel
theorem dL_law_1235 : decode cL_law 1235 = .ok (.aload_n 0, 1) := by decide +kernel
theorem dL_law_1236 : decode cL_law 1236 = .ok (.iload_n 3, 1) := by decide +kernel
theorem dL_law_1237 : decode cL_law 1237 = .ok (.iconst 1, 1) := by decide +kernel
theorem dL_law_1238 : decode cL_law 1238 = .ok (.iadd, 1) := by decide +kernel
theorem dL_law_1239 : decode cL_law 1239 = .ok (.iaload, 1) := by decide +kernel
theorem dL_law_1240 : decode cL_law 1240 = .ok (.aload_n 0, 1) := by decide +kernel
theorem dL_law_1241 : decode cL_law 1241 = .ok (.iload_n 3, 1) := by decide +kernel
theorem dL_law_1242 : decode cL_law 1242 = .ok (.iconst 2, 1) := by decide +kernel
theorem dL_law_1243 : decode cL_law 1243 = .ok (.iadd, 1) := by decide +kernel
theorem dL_law_1244 : decode cL_law 1244 = .ok (.iaload, 1) := by decide +kernel
theorem dL_law_1245 : decode cL_law 1245 = .ok (.invokevirtual 154, 3) := by decide +kernel
theorem dL_law_1248 : decode cL_law 1248 = .ok (.aload_n 2, 1) := by decide +kernel
theorem dL_law_1249 : decode cL_law 1249 = .ok (.aload_n 0, 1) := by decide +kernel
theorem dL_law_1250 : decode cL_law 1250 = .ok (.iload_n 3, 1) := by decide +kernel
theorem dL_law_1251 : decode cL_law 1251 = .ok (.iconst 1, 1) := by decide +kernel
theorem dL_law_1252 : decode cL_law 1252 = .ok (.iadd, 1) := by decide +kernel
theorem dL_law_1253 : decode cL_law 1253 = .ok (.iaload, 1) := by decide +kernel
theorem dL_law_1254 : decode cL_law 1254 = .ok (.aload_n 0, 1) := by decide +kernel
theorem dL_law_1255 : decode cL_law 1255 = .ok (.iload_n 3, 1) := by decide +kernel
theorem dL_law_1256 : decode cL_law 1256 = .ok (.iconst 2, 1) := by decide +kernel
theorem dL_law_1257 : decode cL_law 1257 = .ok (.iadd, 1) := by decide +kernel
theorem dL_law_1258 : decode cL_law 1258 = .ok (.iaload, 1) := by decide +kernel
theorem dL_law_1259 : decode cL_law 1259 = .ok (.invokevirtual 157, 3) := by decide +kernel
theorem dL_law_1262 : decode cL_law 1262 = .ok (.if_icmp .eq 251, 3) := by decide +kernel
theorem dL_law_1265 : decode cL_law 1265 = .ok (.iconst 0, 1) := by decide +kernel
theorem dL_law_1266 : decode cL_law 1266 = .ok (.ireturn, 1) := by decide +kernel
theorem dL_law_1267 : decode cL_law 1267 = .ok (.aload_n 1, 1) := by decide +kernel
theorem dL_law_1268 : decode cL_law 1268 = .ok (.aload_n 0, 1) := by decide +kernel
theorem dL_law_1269 : decode cL_law 1269 = .ok (.iload_n 3, 1) := by decide +kernel
theorem dL_law_1270 : decode cL_law 1270 = .ok (.iconst 1, 1) := by decide +kernel
theorem dL_law_1271 : decode cL_law 1271 = .ok (.iadd, 1) := by decide +kernel
theorem dL_law_1272 : decode cL_law 1272 = .ok (.iaload, 1) := by decide +kernel
theorem dL_law_1273 : decode cL_law 1273 = .ok (.invokevirtual 158, 3) := by decide +kernel
theorem dL_law_1276 : decode cL_law 1276 = .ok (.aload_n 2, 1) := by decide +kernel
theorem dL_law_1277 : decode cL_law 1277 = .ok (.aload_n 0, 1) := by decide +kernel
theorem dL_law_1278 : decode cL_law 1278 = .ok (.iload_n 3, 1) := by decide +kernel
theorem dL_law_1279 : decode cL_law 1279 = .ok (.iconst 1, 1) := by decide +kernel
theorem dL_law_1280 : decode cL_law 1280 = .ok (.iadd, 1) := by decide +kernel
theorem dL_law_1281 : decode cL_law 1281 = .ok (.iaload, 1) := by decide +kernel
theorem dL_law_1282 : decode cL_law 1282 = .ok (.invokevirtual 161, 3) := by decide +kernel
theorem dL_law_1285 : decode cL_law 1285 = .ok (.if_icmp .eq 228, 3) := by decide +kernel
theorem dL_law_1288 : decode cL_law 1288 = .ok (.iconst 0, 1) := by decide +kernel
theorem dL_law_1289 : decode cL_law 1289 = .ok (.ireturn, 1) := by decide +kernel
theorem dL_law_1290 : decode cL_law 1290 = .ok (.aload_n 1, 1) := by decide +kernel
theorem dL_law_1291 : decode cL_law 1291 = .ok (.aload_n 0, 1) := by decide +kernel
theorem dL_law_1292 : decode cL_law 1292 = .ok (.iload_n 3, 1) := by decide +kernel
theorem dL_law_1293 : decode cL_law 1293 = .ok (.iconst 1, 1) := by decide +kernel
theorem dL_law_1294 : decode cL_law 1294 = .ok (.iadd, 1) := by decide +kernel
theorem dL_law_1295 : decode cL_law 1295 = .ok (.iaload, 1) := by decide +kernel
theorem dL_law_1296 : decode cL_law 1296 = .ok (.aload_n 0, 1) := by decide +kernel
theorem dL_law_1297 : decode cL_law 1297 = .ok (.iload_n 3, 1) := by decide +kernel
theorem dL_law_1298 : decode cL_law 1298 = .ok (.iconst 2, 1) := by decide +kernel
theorem dL_law_1299 : decode cL_law 1299 = .ok (.iadd, 1) := by decide +kernel
theorem dL_law_1300 : decode cL_law 1300 = .ok (.iaload, 1) := by decide +kernel
theorem dL_law_1301 : decode cL_law 1301 = .ok (.aload_n 0, 1) := by decide +kernel
theorem dL_law_1302 : decode cL_law 1302 = .ok (.iload_n 3, 1) := by decide +kernel
theorem dL_law_1303 : decode cL_law 1303 = .ok (.iconst 3, 1) := by decide +kernel
theorem dL_law_1304 : decode cL_law 1304 = .ok (.iadd, 1) := by decide +kernel
theorem dL_law_1305 : decode cL_law 1305 = .ok (.iaload, 1) := by decide +kernel
theorem dL_law_1306 : decode cL_law 1306 = .ok (.invokevirtual 162, 3) := by decide +kernel
theorem dL_law_1309 : decode cL_law 1309 = .ok (.aload_n 2, 1) := by decide +kernel
theorem dL_law_1310 : decode cL_law 1310 = .ok (.aload_n 0, 1) := by decide +kernel
theorem dL_law_1311 : decode cL_law 1311 = .ok (.iload_n 3, 1) := by decide +kernel
theorem dL_law_1312 : decode cL_law 1312 = .ok (.iconst 1, 1) := by decide +kernel
theorem dL_law_1313 : decode cL_law 1313 = .ok (.iadd, 1) := by decide +kernel
theorem dL_law_1314 : decode cL_law 1314 = .ok (.iaload, 1) := by decide +kernel
theorem dL_law_1315 : decode cL_law 1315 = .ok (.aload_n 0, 1) := by decide +kernel
theorem dL_law_1316 : decode cL_law 1316 = .ok (.iload_n 3, 1) := by decide +kernel
theorem dL_law_1317 : decode cL_law 1317 = .ok (.iconst 2, 1) := by decide +kernel
theorem dL_law_1318 : decode cL_law 1318 = .ok (.iadd, 1) := by decide +kernel
theorem dL_law_1319 : decode cL_law 1319 = .ok (.iaload, 1) := by decide +kernel
theorem dL_law_1320 : decode cL_law 1320 = .ok (.aload_n 0, 1) := by decide +kernel
theorem dL_law_1321 : decode cL_law 1321 = .ok (.iload_n 3, 1) := by decide +kernel
theorem dL_law_1322 : decode cL_law 1322 = .ok (.iconst 3, 1) := by decide +kernel
theorem dL_law_1323 : decode cL_law 1323 = .ok (.iadd, 1) := by decide +kernel
theorem dL_law_1324 : decode cL_law 1324 = .ok (.iaload, 1) := by decide +kernel
theorem dL_law_1325 : decode cL_law 1325 = .ok (.invokevirtual 165, 3) := by decide +kernel
theorem dL_law_1328 : decode cL_law 1328 = .ok (.if_icmp .eq 185, 3) := by decide +kernel
theorem dL_law_1331 : decode cL_law 1331 = .ok (.iconst 0, 1) := by decide +kernel
theorem dL_law_1332 : decode cL_law 1332 = .ok (.ireturn, 1) := by decide +kernel
theorem dL_law_1333 : decode cL_law 1333 = .ok (.aload_n 1, 1) := by decide +kernel
theorem dL_law_1334 : decode cL_law 1334 = .ok (.aload_n 0, 1) := by decide +kernel
theorem dL_law_1335 : decode cL_law 1335 = .ok (.iload_n 3, 1) := by decide +kernel
theorem dL_law_1336 : decode cL_law 1336 = .ok (.iconst 1, 1) := by decide +kernel
theorem dL_law_1337 : decode cL_law 1337 = .ok (.iadd, 1) := by decide +kernel
theorem dL_law_1338 : decode cL_law 1338 = .ok (.iaload, 1) := by decide +kernel
theorem dL_law_1339 : decode cL_law 1339 = .ok (.aload_n 0, 1) := by decide +kernel
theorem dL_law_1340 : decode cL_law 1340 = .ok (.iload_n 3, 1) := by decide +kernel
theorem dL_law_1341 : decode cL_law 1341 = .ok (.iconst 2, 1) := by decide +kernel
theorem dL_law_1342 : decode cL_law 1342 = .ok (.iadd, 1) := by decide +kernel
theorem dL_law_1343 : decode cL_law 1343 = .ok (.iaload, 1) := by decide +kernel
theorem dL_law_1344 : decode cL_law 1344 = .ok (.invokevirtual 166, 3) := by decide +kernel
theorem dL_law_1347 : decode cL_law 1347 = .ok (.aload_n 2, 1) := by decide +kernel
theorem dL_law_1348 : decode cL_law 1348 = .ok (.aload_n 0, 1) := by decide +kernel
theorem dL_law_1349 : decode cL_law 1349 = .ok (.iload_n 3, 1) := by decide +kernel
theorem dL_law_1350 : decode cL_law 1350 = .ok (.iconst 1, 1) := by decide +kernel
theorem dL_law_1351 : decode cL_law 1351 = .ok (.iadd, 1) := by decide +kernel
theorem dL_law_1352 : decode cL_law 1352 = .ok (.iaload, 1) := by decide +kernel
theorem dL_law_1353 : decode cL_law 1353 = .ok (.aload_n 0, 1) := by decide +kernel
theorem dL_law_1354 : decode cL_law 1354 = .ok (.iload_n 3, 1) := by decide +kernel
theorem dL_law_1355 : decode cL_law 1355 = .ok (.iconst 2, 1) := by decide +kernel
theorem dL_law_1356 : decode cL_law 1356 = .ok (.iadd, 1) := by decide +kernel
theorem dL_law_1357 : decode cL_law 1357 = .ok (.iaload, 1) := by decide +kernel
theorem dL_law_1358 : decode cL_law 1358 = .ok (.invokevirtual 169, 3) := by decide +kernel
theorem dL_law_1361 : decode cL_law 1361 = .ok (.if_icmp .eq 152, 3) := by decide +kernel
theorem dL_law_1364 : decode cL_law 1364 = .ok (.iconst 0, 1) := by decide +kernel
theorem dL_law_1365 : decode cL_law 1365 = .ok (.ireturn, 1) := by decide +kernel
theorem dL_law_1366 : decode cL_law 1366 = .ok (.aload_n 1, 1) := by decide +kernel
theorem dL_law_1367 : decode cL_law 1367 = .ok (.aload_n 0, 1) := by decide +kernel
theorem dL_law_1368 : decode cL_law 1368 = .ok (.iload_n 3, 1) := by decide +kernel
theorem dL_law_1369 : decode cL_law 1369 = .ok (.iconst 1, 1) := by decide +kernel
theorem dL_law_1370 : decode cL_law 1370 = .ok (.iadd, 1) := by decide +kernel
theorem dL_law_1371 : decode cL_law 1371 = .ok (.iaload, 1) := by decide +kernel
theorem dL_law_1372 : decode cL_law 1372 = .ok (.aload_n 0, 1) := by decide +kernel
theorem dL_law_1373 : decode cL_law 1373 = .ok (.iload_n 3, 1) := by decide +kernel
theorem dL_law_1374 : decode cL_law 1374 = .ok (.iconst 2, 1) := by decide +kernel
theorem dL_law_1375 : decode cL_law 1375 = .ok (.iadd, 1) := by decide +kernel
theorem dL_law_1376 : decode cL_law 1376 = .ok (.iaload, 1) := by decide +kernel
theorem dL_law_1377 : decode cL_law 1377 = .ok (.invokevirtual 170, 3) := by decide +kernel
theorem dL_law_1380 : decode cL_law 1380 = .ok (.aload_n 2, 1) := by decide +kernel
theorem dL_law_1381 : decode cL_law 1381 = .ok (.aload_n 0, 1) := by decide +kernel
theorem dL_law_1382 : decode cL_law 1382 = .ok (.iload_n 3, 1) := by decide +kernel
theorem dL_law_1383 : decode cL_law 1383 = .ok (.iconst 1, 1) := by decide +kernel
theorem dL_law_1384 : decode cL_law 1384 = .ok (.iadd, 1) := by decide +kernel
theorem dL_law_1385 : decode cL_law 1385 = .ok (.iaload, 1) := by decide +kernel
theorem dL_law_1386 : decode cL_law 1386 = .ok (.aload_n 0, 1) := by decide +kernel
theorem dL_law_1387 : decode cL_law 1387 = .ok (.iload_n 3, 1) := by decide +kernel
theorem dL_law_1388 : decode cL_law 1388 = .ok (.iconst 2, 1) := by decide +kernel
theorem dL_law_1389 : decode cL_law 1389 = .ok (.iadd, 1) := by decide +kernel
theorem dL_law_1390 : decode cL_law 1390 = .ok (.iaload, 1) := by decide +kernel
theorem dL_law_1391 : decode cL_law 1391 = .ok (.invokevirtual 173, 3) := by decide +kernel
theorem dL_law_1394 : decode cL_law 1394 = .ok (.if_icmp .eq 119, 3) := by decide +kernel
theorem dL_law_1397 : decode cL_law 1397 = .ok (.iconst 0, 1) := by decide +kernel
theorem dL_law_1398 : decode cL_law 1398 = .ok (.ireturn, 1) := by decide +kernel
theorem dL_law_1399 : decode cL_law 1399 = .ok (.aload_n 1, 1) := by decide +kernel
theorem dL_law_1400 : decode cL_law 1400 = .ok (.invokevirtual 174, 3) := by decide +kernel
theorem dL_law_1403 : decode cL_law 1403 = .ok (.aload_n 2, 1) := by decide +kernel
theorem dL_law_1404 : decode cL_law 1404 = .ok (.invokevirtual 177, 3) := by decide +kernel
theorem dL_law_1407 : decode cL_law 1407 = .ok (.if_icmp .eq 106, 3) := by decide +kernel
theorem dL_law_1410 : decode cL_law 1410 = .ok (.iconst 0, 1) := by decide +kernel
theorem dL_law_1411 : decode cL_law 1411 = .ok (.ireturn, 1) := by decide +kernel
theorem dL_law_1412 : decode cL_law 1412 = .ok (.aload_n 1, 1) := by decide +kernel
theorem dL_law_1413 : decode cL_law 1413 = .ok (.invokevirtual 178, 3) := by decide +kernel
theorem dL_law_1416 : decode cL_law 1416 = .ok (.aload_n 2, 1) := by decide +kernel
theorem dL_law_1417 : decode cL_law 1417 = .ok (.invokevirtual 182, 3) := by decide +kernel
theorem dL_law_1420 : decode cL_law 1420 = .ok (.lcmp, 1) := by decide +kernel
theorem dL_law_1421 : decode cL_law 1421 = .ok (.ifCond .eq 92, 3) := by decide +kernel
theorem dL_law_1424 : decode cL_law 1424 = .ok (.iconst 0, 1) := by decide +kernel
theorem dL_law_1425 : decode cL_law 1425 = .ok (.ireturn, 1) := by decide +kernel
theorem dL_law_1426 : decode cL_law 1426 = .ok (.aload_n 1, 1) := by decide +kernel
theorem dL_law_1427 : decode cL_law 1427 = .ok (.invokevirtual 183, 3) := by decide +kernel
theorem dL_law_1430 : decode cL_law 1430 = .ok (.aload_n 2, 1) := by decide +kernel
theorem dL_law_1431 : decode cL_law 1431 = .ok (.invokevirtual 186, 3) := by decide +kernel
theorem dL_law_1434 : decode cL_law 1434 = .ok (.lcmp, 1) := by decide +kernel
theorem dL_law_1435 : decode cL_law 1435 = .ok (.ifCond .eq 78, 3) := by decide +kernel
theorem dL_law_1438 : decode cL_law 1438 = .ok (.iconst 0, 1) := by decide +kernel
theorem dL_law_1439 : decode cL_law 1439 = .ok (.ireturn, 1) := by decide +kernel
theorem dL_law_1440 : decode cL_law 1440 = .ok (.aload_n 1, 1) := by decide +kernel
theorem dL_law_1441 : decode cL_law 1441 = .ok (.aload_n 0, 1) := by decide +kernel
theorem dL_law_1442 : decode cL_law 1442 = .ok (.iload_n 3, 1) := by decide +kernel
theorem dL_law_1443 : decode cL_law 1443 = .ok (.iconst 1, 1) := by decide +kernel
theorem dL_law_1444 : decode cL_law 1444 = .ok (.iadd, 1) := by decide +kernel
theorem dL_law_1445 : decode cL_law 1445 = .ok (.iaload, 1) := by decide +kernel
theorem dL_law_1446 : decode cL_law 1446 = .ok (.invokevirtual 187, 3) := by decide +kernel
theorem dL_law_1449 : decode cL_law 1449 = .ok (.aload_n 2, 1) := by decide +kernel
theorem dL_law_1450 : decode cL_law 1450 = .ok (.aload_n 0, 1) := by decide +kernel
theorem dL_law_1451 : decode cL_law 1451 = .ok (.iload_n 3, 1) := by decide +kernel
theorem dL_law_1452 : decode cL_law 1452 = .ok (.iconst 1, 1) := by decide +kernel
theorem dL_law_1453 : decode cL_law 1453 = .ok (.iadd, 1) := by decide +kernel
theorem dL_law_1454 : decode cL_law 1454 = .ok (.iaload, 1) := by decide +kernel
theorem dL_law_1455 : decode cL_law 1455 = .ok (.invokevirtual 190, 3) := by decide +kernel
theorem dL_law_1458 : decode cL_law 1458 = .ok (.if_icmp .eq 55, 3) := by decide +kernel
theorem dL_law_1461 : decode cL_law 1461 = .ok (.iconst 0, 1) := by decide +kernel
theorem dL_law_1462 : decode cL_law 1462 = .ok (.ireturn, 1) := by decide +kernel
theorem dL_law_1463 : decode cL_law 1463 = .ok (.aload_n 1, 1) := by decide +kernel
theorem dL_law_1464 : decode cL_law 1464 = .ok (.invokevirtual 191, 3) := by decide +kernel
theorem dL_law_1467 : decode cL_law 1467 = .ok (.aload_n 2, 1) := by decide +kernel
theorem dL_law_1468 : decode cL_law 1468 = .ok (.invokevirtual 194, 3) := by decide +kernel
theorem dL_law_1471 : decode cL_law 1471 = .ok (.if_icmp .eq 42, 3) := by decide +kernel
theorem dL_law_1474 : decode cL_law 1474 = .ok (.iconst 0, 1) := by decide +kernel
theorem dL_law_1475 : decode cL_law 1475 = .ok (.ireturn, 1) := by decide +kernel
theorem dL_law_1476 : decode cL_law 1476 = .ok (.aload_n 1, 1) := by decide +kernel
theorem dL_law_1477 : decode cL_law 1477 = .ok (.aload_n 0, 1) := by decide +kernel
theorem dL_law_1478 : decode cL_law 1478 = .ok (.iload_n 3, 1) := by decide +kernel
theorem dL_law_1479 : decode cL_law 1479 = .ok (.iconst 1, 1) := by decide +kernel
theorem dL_law_1480 : decode cL_law 1480 = .ok (.iadd, 1) := by decide +kernel
theorem dL_law_1481 : decode cL_law 1481 = .ok (.iaload, 1) := by decide +kernel
theorem dL_law_1482 : decode cL_law 1482 = .ok (.invokevirtual 195, 3) := by decide +kernel
theorem dL_law_1485 : decode cL_law 1485 = .ok (.aload_n 2, 1) := by decide +kernel
theorem dL_law_1486 : decode cL_law 1486 = .ok (.aload_n 0, 1) := by decide +kernel
theorem dL_law_1487 : decode cL_law 1487 = .ok (.iload_n 3, 1) := by decide +kernel
theorem dL_law_1488 : decode cL_law 1488 = .ok (.iconst 1, 1) := by decide +kernel
theorem dL_law_1489 : decode cL_law 1489 = .ok (.iadd, 1) := by decide +kernel
theorem dL_law_1490 : decode cL_law 1490 = .ok (.iaload, 1) := by decide +kernel
theorem dL_law_1491 : decode cL_law 1491 = .ok (.invokevirtual 198, 3) := by decide +kernel
theorem dL_law_1494 : decode cL_law 1494 = .ok (.if_icmp .eq 19, 3) := by decide +kernel
theorem dL_law_1497 : decode cL_law 1497 = .ok (.iconst 0, 1) := by decide +kernel
theorem dL_law_1498 : decode cL_law 1498 = .ok (.ireturn, 1) := by decide +kernel
theorem dL_law_1499 : decode cL_law 1499 = .ok (.aload_n 1, 1) := by decide +kernel
theorem dL_law_1500 : decode cL_law 1500 = .ok (.invokevirtual 199, 3) := by decide +kernel
theorem dL_law_1503 : decode cL_law 1503 = .ok (.aload_n 2, 1) := by decide +kernel
theorem dL_law_1504 : decode cL_law 1504 = .ok (.invokevirtual 202, 3) := by decide +kernel
theorem dL_law_1507 : decode cL_law 1507 = .ok (.lcmp, 1) := by decide +kernel
theorem dL_law_1508 : decode cL_law 1508 = .ok (.ifCond .eq 5, 3) := by decide +kernel
theorem dL_law_1511 : decode cL_law 1511 = .ok (.iconst 0, 1) := by decide +kernel
theorem dL_law_1512 : decode cL_law 1512 = .ok (.ireturn, 1) := by decide +kernel
theorem dL_law_1513 : decode cL_law 1513 = .ok (.iinc 3 6, 3) := by decide +kernel
theorem dL_law_1516 : decode cL_law 1516 = .ok (.goto (-1498), 3) := by decide +kernel
theorem dL_law_1519 : decode cL_law 1519 = .ok (.iconst 1, 1) := by decide +kernel
theorem dL_law_1520 : decode cL_law 1520 = .ok (.ireturn, 1) := by decide +kernel
