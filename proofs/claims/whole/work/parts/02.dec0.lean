theorem dX0_init_0 : decode cX0_init 0 = .ok (.aload_n 0, 1) := by decide +kernel
theorem dX0_init_1 : decode cX0_init 1 = .ok (.invokespecial 3, 3) := by decide +kernel
theorem dX0_init_4 : decode cX0_init 4 = .ok (.aload_n 0, 1) := by decide +kernel
theorem dX0_init_5 : decode cX0_init 5 = .ok (.bipush 12, 2) := by decide +kernel
theorem dX0_init_7 : decode cX0_init 7 = .ok (.newarray .int, 2) := by decide +kernel
theorem dX0_init_9 : decode cX0_init 9 = .ok (.putfield 9, 3) := by decide +kernel
theorem dX0_init_12 : decode cX0_init 12 = .ok (.aload_n 0, 1) := by decide +kernel
theorem dX0_init_13 : decode cX0_init 13 = .ok (.bipush 12, 2) := by decide +kernel
theorem dX0_init_15 : decode cX0_init 15 = .ok (.newarray .int, 2) := by decide +kernel
theorem dX0_init_17 : decode cX0_init 17 = .ok (.putfield 15, 3) := by decide +kernel
theorem dX0_init_20 : decode cX0_init 20 = .ok (.aload_n 0, 1) := by decide +kernel
theorem dX0_init_21 : decode cX0_init 21 = .ok (.bipush 12, 2) := by decide +kernel
theorem dX0_init_23 : decode cX0_init 23 = .ok (.newarray .int, 2) := by decide +kernel
theorem dX0_init_25 : decode cX0_init 25 = .ok (.putfield 18, 3) := by decide +kernel
theorem dX0_init_28 : decode cX0_init 28 = .ok (.aload_n 0, 1) := by decide +kernel
theorem dX0_init_29 : decode cX0_init 29 = .ok (.bipush 12, 2) := by decide +kernel
theorem dX0_init_31 : decode cX0_init 31 = .ok (.newarray .int, 2) := by decide +kernel
theorem dX0_init_33 : decode cX0_init 33 = .ok (.putfield 21, 3) := by decide +kernel
theorem dX0_init_36 : decode cX0_init 36 = .ok (.aload_n 0, 1) := by decide +kernel
theorem dX0_init_37 : decode cX0_init 37 = .ok (.sipush 144, 3) := by decide +kernel
theorem dX0_init_40 : decode cX0_init 40 = .ok (.newarray .int, 2) := by decide +kernel
theorem dX0_init_42 : decode cX0_init 42 = .ok (.putfield 24, 3) := by decide +kernel
theorem dX0_init_45 : decode cX0_init 45 = .ok (.aload_n 0, 1) := by decide +kernel
theorem dX0_init_46 : decode cX0_init 46 = .ok (.bipush 12, 2) := by decide +kernel
theorem dX0_init_48 : decode cX0_init 48 = .ok (.newarray .int, 2) := by decide +kernel
theorem dX0_init_50 : decode cX0_init 50 = .ok (.putfield 27, 3) := by decide +kernel
theorem dX0_init_53 : decode cX0_init 53 = .ok (.return_, 1) := by decide +kernel
theorem dX0_reckon_0 : decode cX0_reckon 0 = .ok (.aload_n 0, 1) := by decide +kernel
theorem dX0_reckon_1 : decode cX0_reckon 1 = .ok (.aload_n 1, 1) := by decide +kernel
theorem dX0_reckon_2 : decode cX0_reckon 2 = .ok (.invokevirtual 30, 3) := by decide +kernel
theorem dX0_reckon_5 : decode cX0_reckon 5 = .ok (.bipush 12, 2) := by decide +kernel
theorem dX0_reckon_7 : decode cX0_reckon 7 = .ok (.invokestatic 36, 3) := by decide +kernel
theorem dX0_reckon_10 : decode cX0_reckon 10 = .ok (.putfield 42, 3) := by decide +kernel
theorem dX0_reckon_13 : decode cX0_reckon 13 = .ok (.aload_n 0, 1) := by decide +kernel
theorem dX0_reckon_14 : decode cX0_reckon 14 = .ok (.iconst 0, 1) := by decide +kernel
theorem dX0_reckon_15 : decode cX0_reckon 15 = .ok (.putfield 46, 3) := by decide +kernel
theorem dX0_reckon_18 : decode cX0_reckon 18 = .ok (.iconst 0, 1) := by decide +kernel
theorem dX0_reckon_19 : decode cX0_reckon 19 = .ok (.istore_n 2, 1) := by decide +kernel
theorem dX0_reckon_20 : decode cX0_reckon 20 = .ok (.iload_n 2, 1) := by decide +kernel
theorem dX0_reckon_21 : decode cX0_reckon 21 = .ok (.bipush 12, 2) := by decide +kernel
theorem dX0_reckon_23 : decode cX0_reckon 23 = .ok (.if_icmp .ge 23, 3) := by decide +kernel
theorem dX0_reckon_26 : decode cX0_reckon 26 = .ok (.aload_n 0, 1) := by decide +kernel
theorem dX0_reckon_27 : decode cX0_reckon 27 = .ok (.getfield 18, 3) := by decide +kernel
theorem dX0_reckon_30 : decode cX0_reckon 30 = .ok (.iload_n 2, 1) := by decide +kernel
theorem dX0_reckon_31 : decode cX0_reckon 31 = .ok (.iconst 0, 1) := by decide +kernel
theorem dX0_reckon_32 : decode cX0_reckon 32 = .ok (.iastore, 1) := by decide +kernel
theorem dX0_reckon_33 : decode cX0_reckon 33 = .ok (.aload_n 0, 1) := by decide +kernel
theorem dX0_reckon_34 : decode cX0_reckon 34 = .ok (.getfield 21, 3) := by decide +kernel
theorem dX0_reckon_37 : decode cX0_reckon 37 = .ok (.iload_n 2, 1) := by decide +kernel
theorem dX0_reckon_38 : decode cX0_reckon 38 = .ok (.iconst 0, 1) := by decide +kernel
theorem dX0_reckon_39 : decode cX0_reckon 39 = .ok (.iastore, 1) := by decide +kernel
theorem dX0_reckon_40 : decode cX0_reckon 40 = .ok (.iinc 2 1, 3) := by decide +kernel
theorem dX0_reckon_43 : decode cX0_reckon 43 = .ok (.goto (-23), 3) := by decide +kernel
theorem dX0_reckon_46 : decode cX0_reckon 46 = .ok (.iconst 0, 1) := by decide +kernel
theorem dX0_reckon_47 : decode cX0_reckon 47 = .ok (.istore_n 2, 1) := by decide +kernel
theorem dX0_reckon_48 : decode cX0_reckon 48 = .ok (.iload_n 2, 1) := by decide +kernel
theorem dX0_reckon_49 : decode cX0_reckon 49 = .ok (.aload_n 0, 1) := by decide +kernel
theorem dX0_reckon_50 : decode cX0_reckon 50 = .ok (.getfield 24, 3) := by decide +kernel
theorem dX0_reckon_53 : decode cX0_reckon 53 = .ok (.arraylength, 1) := by decide +kernel
theorem dX0_reckon_54 : decode cX0_reckon 54 = .ok (.if_icmp .ge 16, 3) := by decide +kernel
theorem dX0_reckon_57 : decode cX0_reckon 57 = .ok (.aload_n 0, 1) := by decide +kernel
theorem dX0_reckon_58 : decode cX0_reckon 58 = .ok (.getfield 24, 3) := by decide +kernel
theorem dX0_reckon_61 : decode cX0_reckon 61 = .ok (.iload_n 2, 1) := by decide +kernel
theorem dX0_reckon_62 : decode cX0_reckon 62 = .ok (.iconst 0, 1) := by decide +kernel
theorem dX0_reckon_63 : decode cX0_reckon 63 = .ok (.iastore, 1) := by decide +kernel
theorem dX0_reckon_64 : decode cX0_reckon 64 = .ok (.iinc 2 1, 3) := by decide +kernel
theorem dX0_reckon_67 : decode cX0_reckon 67 = .ok (.goto (-19), 3) := by decide +kernel
theorem dX0_reckon_70 : decode cX0_reckon 70 = .ok (.iconst 0, 1) := by decide +kernel
theorem dX0_reckon_71 : decode cX0_reckon 71 = .ok (.istore_n 2, 1) := by decide +kernel
theorem dX0_reckon_72 : decode cX0_reckon 72 = .ok (.iconst 0, 1) := by decide +kernel
theorem dX0_reckon_73 : decode cX0_reckon 73 = .ok (.istore_n 3, 1) := by decide +kernel
theorem dX0_reckon_74 : decode cX0_reckon 74 = .ok (.iload_n 3, 1) := by decide +kernel
theorem dX0_reckon_75 : decode cX0_reckon 75 = .ok (.aload_n 1, 1) := by decide +kernel
theorem dX0_reckon_76 : decode cX0_reckon 76 = .ok (.invokevirtual 49, 3) := by decide +kernel
theorem dX0_reckon_79 : decode cX0_reckon 79 = .ok (.if_icmp .ge 40, 3) := by decide +kernel
theorem dX0_reckon_82 : decode cX0_reckon 82 = .ok (.iconst 0, 1) := by decide +kernel
theorem dX0_reckon_83 : decode cX0_reckon 83 = .ok (.istore 4, 2) := by decide +kernel
theorem dX0_reckon_85 : decode cX0_reckon 85 = .ok (.iload 4, 2) := by decide +kernel
theorem dX0_reckon_87 : decode cX0_reckon 87 = .ok (.aload_n 1, 1) := by decide +kernel
theorem dX0_reckon_88 : decode cX0_reckon 88 = .ok (.iload_n 3, 1) := by decide +kernel
theorem dX0_reckon_89 : decode cX0_reckon 89 = .ok (.invokevirtual 52, 3) := by decide +kernel
theorem dX0_reckon_92 : decode cX0_reckon 92 = .ok (.if_icmp .ge 21, 3) := by decide +kernel
theorem dX0_reckon_95 : decode cX0_reckon 95 = .ok (.aload_n 0, 1) := by decide +kernel
theorem dX0_reckon_96 : decode cX0_reckon 96 = .ok (.aload_n 1, 1) := by decide +kernel
theorem dX0_reckon_97 : decode cX0_reckon 97 = .ok (.iload_n 3, 1) := by decide +kernel
theorem dX0_reckon_98 : decode cX0_reckon 98 = .ok (.iload 4, 2) := by decide +kernel
theorem dX0_reckon_100 : decode cX0_reckon 100 = .ok (.iload_n 2, 1) := by decide +kernel
theorem dX0_reckon_101 : decode cX0_reckon 101 = .ok (.invokevirtual 56, 3) := by decide +kernel
theorem dX0_reckon_104 : decode cX0_reckon 104 = .ok (.iinc 2 1, 3) := by decide +kernel
theorem dX0_reckon_107 : decode cX0_reckon 107 = .ok (.iinc 4 1, 3) := by decide +kernel
theorem dX0_reckon_110 : decode cX0_reckon 110 = .ok (.goto (-25), 3) := by decide +kernel
theorem dX0_reckon_113 : decode cX0_reckon 113 = .ok (.iinc 3 1, 3) := by decide +kernel
theorem dX0_reckon_116 : decode cX0_reckon 116 = .ok (.goto (-42), 3) := by decide +kernel
theorem dX0_reckon_119 : decode cX0_reckon 119 = .ok (.return_, 1) := by decide +kernel
theorem dX0_reckonHouse_0 : decode cX0_reckonHouse 0 = .ok (.aload_n 0, 1) := by decide +kernel
theorem dX0_reckonHouse_1 : decode cX0_reckonHouse 1 = .ok (.iload 4, 2) := by decide +kernel
theorem dX0_reckonHouse_3 : decode cX0_reckonHouse 3 = .ok (.invokevirtual 60, 3) := by decide +kernel
theorem dX0_reckonHouse_6 : decode cX0_reckonHouse 6 = .ok (.ifCond .ne 4, 3) := by decide +kernel
theorem dX0_reckonHouse_9 : decode cX0_reckonHouse 9 = .ok (.return_, 1) := by decide +kernel
theorem dX0_reckonHouse_10 : decode cX0_reckonHouse 10 = .ok (.aload_n 0, 1) := by decide +kernel
theorem dX0_reckonHouse_11 : decode cX0_reckonHouse 11 = .ok (.getfield 15, 3) := by decide +kernel
theorem dX0_reckonHouse_14 : decode cX0_reckonHouse 14 = .ok (.iload 4, 2) := by decide +kernel
theorem dX0_reckonHouse_16 : decode cX0_reckonHouse 16 = .ok (.aload_n 1, 1) := by decide +kernel
theorem dX0_reckonHouse_17 : decode cX0_reckonHouse 17 = .ok (.iload_n 2, 1) := by decide +kernel
theorem dX0_reckonHouse_18 : decode cX0_reckonHouse 18 = .ok (.iload_n 3, 1) := by decide +kernel
theorem dX0_reckonHouse_19 : decode cX0_reckonHouse 19 = .ok (.invokevirtual 64, 3) := by decide +kernel
theorem dX0_reckonHouse_22 : decode cX0_reckonHouse 22 = .ok (.iastore, 1) := by decide +kernel
theorem dX0_reckonHouse_23 : decode cX0_reckonHouse 23 = .ok (.aload_n 0, 1) := by decide +kernel
theorem dX0_reckonHouse_24 : decode cX0_reckonHouse 24 = .ok (.getfield 9, 3) := by decide +kernel
theorem dX0_reckonHouse_27 : decode cX0_reckonHouse 27 = .ok (.iload 4, 2) := by decide +kernel
theorem dX0_reckonHouse_29 : decode cX0_reckonHouse 29 = .ok (.iconst 0, 1) := by decide +kernel
theorem dX0_reckonHouse_30 : decode cX0_reckonHouse 30 = .ok (.iastore, 1) := by decide +kernel
theorem dX0_reckonHouse_31 : decode cX0_reckonHouse 31 = .ok (.aload_n 1, 1) := by decide +kernel
theorem dX0_reckonHouse_32 : decode cX0_reckonHouse 32 = .ok (.iload_n 2, 1) := by decide +kernel
theorem dX0_reckonHouse_33 : decode cX0_reckonHouse 33 = .ok (.iload_n 3, 1) := by decide +kernel
theorem dX0_reckonHouse_34 : decode cX0_reckonHouse 34 = .ok (.invokevirtual 67, 3) := by decide +kernel
theorem dX0_reckonHouse_37 : decode cX0_reckonHouse 37 = .ok (.invokestatic 70, 3) := by decide +kernel
theorem dX0_reckonHouse_40 : decode cX0_reckonHouse 40 = .ok (.istore 5, 2) := by decide +kernel
theorem dX0_reckonHouse_42 : decode cX0_reckonHouse 42 = .ok (.iconst 0, 1) := by decide +kernel
theorem dX0_reckonHouse_43 : decode cX0_reckonHouse 43 = .ok (.istore 6, 2) := by decide +kernel
theorem dX0_reckonHouse_45 : decode cX0_reckonHouse 45 = .ok (.iload 6, 2) := by decide +kernel
theorem dX0_reckonHouse_47 : decode cX0_reckonHouse 47 = .ok (.iconst 5, 1) := by decide +kernel
theorem dX0_reckonHouse_48 : decode cX0_reckonHouse 48 = .ok (.if_icmp .ge 53, 3) := by decide +kernel
theorem dX0_reckonHouse_51 : decode cX0_reckonHouse 51 = .ok (.aload_n 1, 1) := by decide +kernel
theorem dX0_reckonHouse_52 : decode cX0_reckonHouse 52 = .ok (.iload_n 2, 1) := by decide +kernel
theorem dX0_reckonHouse_53 : decode cX0_reckonHouse 53 = .ok (.iload_n 3, 1) := by decide +kernel
theorem dX0_reckonHouse_54 : decode cX0_reckonHouse 54 = .ok (.iload 6, 2) := by decide +kernel
theorem dX0_reckonHouse_56 : decode cX0_reckonHouse 56 = .ok (.invokevirtual 73, 3) := by decide +kernel
theorem dX0_reckonHouse_59 : decode cX0_reckonHouse 59 = .ok (.istore 7, 2) := by decide +kernel
theorem dX0_reckonHouse_61 : decode cX0_reckonHouse 61 = .ok (.iload 7, 2) := by decide +kernel
theorem dX0_reckonHouse_63 : decode cX0_reckonHouse 63 = .ok (.bipush (-9), 2) := by decide +kernel
theorem dX0_reckonHouse_65 : decode cX0_reckonHouse 65 = .ok (.if_icmp .ne 20, 3) := by decide +kernel
theorem dX0_reckonHouse_68 : decode cX0_reckonHouse 68 = .ok (.aload_n 0, 1) := by decide +kernel
theorem dX0_reckonHouse_69 : decode cX0_reckonHouse 69 = .ok (.getfield 9, 3) := by decide +kernel
theorem dX0_reckonHouse_72 : decode cX0_reckonHouse 72 = .ok (.iload 4, 2) := by decide +kernel
theorem dX0_reckonHouse_74 : decode cX0_reckonHouse 74 = .ok (.dup2, 1) := by decide +kernel
theorem dX0_reckonHouse_75 : decode cX0_reckonHouse 75 = .ok (.iaload, 1) := by decide +kernel
theorem dX0_reckonHouse_76 : decode cX0_reckonHouse 76 = .ok (.iconst 1, 1) := by decide +kernel
theorem dX0_reckonHouse_77 : decode cX0_reckonHouse 77 = .ok (.iload 6, 2) := by decide +kernel
theorem dX0_reckonHouse_79 : decode cX0_reckonHouse 79 = .ok (.ishl, 1) := by decide +kernel
theorem dX0_reckonHouse_80 : decode cX0_reckonHouse 80 = .ok (.ior, 1) := by decide +kernel
theorem dX0_reckonHouse_81 : decode cX0_reckonHouse 81 = .ok (.iastore, 1) := by decide +kernel
theorem dX0_reckonHouse_82 : decode cX0_reckonHouse 82 = .ok (.goto 13, 3) := by decide +kernel
theorem dX0_reckonHouse_85 : decode cX0_reckonHouse 85 = .ok (.aload_n 0, 1) := by decide +kernel
theorem dX0_reckonHouse_86 : decode cX0_reckonHouse 86 = .ok (.iload 7, 2) := by decide +kernel
theorem dX0_reckonHouse_88 : decode cX0_reckonHouse 88 = .ok (.iload 4, 2) := by decide +kernel
theorem dX0_reckonHouse_90 : decode cX0_reckonHouse 90 = .ok (.iload 5, 2) := by decide +kernel
theorem dX0_reckonHouse_92 : decode cX0_reckonHouse 92 = .ok (.invokevirtual 77, 3) := by decide +kernel
theorem dX0_reckonHouse_95 : decode cX0_reckonHouse 95 = .ok (.iinc 6 1, 3) := by decide +kernel
theorem dX0_reckonHouse_98 : decode cX0_reckonHouse 98 = .ok (.goto (-53), 3) := by decide +kernel
theorem dX0_reckonHouse_101 : decode cX0_reckonHouse 101 = .ok (.return_, 1) := by decide +kernel
theorem dX0_lampsAnHour_0 : decode cX0_lampsAnHour 0 = .ok (.iload_n 0, 1) := by decide +kernel
theorem dX0_lampsAnHour_1 : decode cX0_lampsAnHour 1 = .ok (.iconst 4, 1) := by decide +kernel
theorem dX0_lampsAnHour_2 : decode cX0_lampsAnHour 2 = .ok (.if_icmp .ne 7, 3) := by decide +kernel
theorem dX0_lampsAnHour_5 : decode cX0_lampsAnHour 5 = .ok (.iconst 0, 1) := by decide +kernel
theorem dX0_lampsAnHour_6 : decode cX0_lampsAnHour 6 = .ok (.goto 13, 3) := by decide +kernel
theorem dX0_lampsAnHour_9 : decode cX0_lampsAnHour 9 = .ok (.iload_n 0, 1) := by decide +kernel
theorem dX0_lampsAnHour_10 : decode cX0_lampsAnHour 10 = .ok (.iconst 3, 1) := by decide +kernel
theorem dX0_lampsAnHour_11 : decode cX0_lampsAnHour 11 = .ok (.if_icmp .ne 7, 3) := by decide +kernel
theorem dX0_lampsAnHour_14 : decode cX0_lampsAnHour 14 = .ok (.iconst 2, 1) := by decide +kernel
theorem dX0_lampsAnHour_15 : decode cX0_lampsAnHour 15 = .ok (.goto 4, 3) := by decide +kernel
theorem dX0_lampsAnHour_18 : decode cX0_lampsAnHour 18 = .ok (.iconst 1, 1) := by decide +kernel
theorem dX0_lampsAnHour_19 : decode cX0_lampsAnHour 19 = .ok (.ireturn, 1) := by decide +kernel
theorem dX0_charge_0 : decode cX0_charge 0 = .ok (.aload_n 0, 1) := by decide +kernel
theorem dX0_charge_1 : decode cX0_charge 1 = .ok (.iload_n 1, 1) := by decide +kernel
theorem dX0_charge_2 : decode cX0_charge 2 = .ok (.invokevirtual 60, 3) := by decide +kernel
theorem dX0_charge_5 : decode cX0_charge 5 = .ok (.ifCond .eq 56, 3) := by decide +kernel
theorem dX0_charge_8 : decode cX0_charge 8 = .ok (.aload_n 0, 1) := by decide +kernel
theorem dX0_charge_9 : decode cX0_charge 9 = .ok (.iload_n 2, 1) := by decide +kernel
theorem dX0_charge_10 : decode cX0_charge 10 = .ok (.invokevirtual 60, 3) := by decide +kernel
theorem dX0_charge_13 : decode cX0_charge 13 = .ok (.ifCond .eq 48, 3) := by decide +kernel
theorem dX0_charge_16 : decode cX0_charge 16 = .ok (.aload_n 0, 1) := by decide +kernel
theorem dX0_charge_17 : decode cX0_charge 17 = .ok (.getfield 24, 3) := by decide +kernel
theorem dX0_charge_20 : decode cX0_charge 20 = .ok (.iload_n 1, 1) := by decide +kernel
theorem dX0_charge_21 : decode cX0_charge 21 = .ok (.bipush 12, 2) := by decide +kernel
theorem dX0_charge_23 : decode cX0_charge 23 = .ok (.imul, 1) := by decide +kernel
theorem dX0_charge_24 : decode cX0_charge 24 = .ok (.iload_n 2, 1) := by decide +kernel
theorem dX0_charge_25 : decode cX0_charge 25 = .ok (.iadd, 1) := by decide +kernel
theorem dX0_charge_26 : decode cX0_charge 26 = .ok (.dup2, 1) := by decide +kernel
theorem dX0_charge_27 : decode cX0_charge 27 = .ok (.iaload, 1) := by decide +kernel
theorem dX0_charge_28 : decode cX0_charge 28 = .ok (.iload_n 3, 1) := by decide +kernel
theorem dX0_charge_29 : decode cX0_charge 29 = .ok (.iadd, 1) := by decide +kernel
theorem dX0_charge_30 : decode cX0_charge 30 = .ok (.iastore, 1) := by decide +kernel
theorem dX0_charge_31 : decode cX0_charge 31 = .ok (.aload_n 0, 1) := by decide +kernel
theorem dX0_charge_32 : decode cX0_charge 32 = .ok (.getfield 18, 3) := by decide +kernel
theorem dX0_charge_35 : decode cX0_charge 35 = .ok (.iload_n 1, 1) := by decide +kernel
theorem dX0_charge_36 : decode cX0_charge 36 = .ok (.dup2, 1) := by decide +kernel
theorem dX0_charge_37 : decode cX0_charge 37 = .ok (.iaload, 1) := by decide +kernel
theorem dX0_charge_38 : decode cX0_charge 38 = .ok (.iload_n 3, 1) := by decide +kernel
theorem dX0_charge_39 : decode cX0_charge 39 = .ok (.iadd, 1) := by decide +kernel
theorem dX0_charge_40 : decode cX0_charge 40 = .ok (.iastore, 1) := by decide +kernel
theorem dX0_charge_41 : decode cX0_charge 41 = .ok (.aload_n 0, 1) := by decide +kernel
theorem dX0_charge_42 : decode cX0_charge 42 = .ok (.getfield 21, 3) := by decide +kernel
theorem dX0_charge_45 : decode cX0_charge 45 = .ok (.iload_n 2, 1) := by decide +kernel
theorem dX0_charge_46 : decode cX0_charge 46 = .ok (.dup2, 1) := by decide +kernel
theorem dX0_charge_47 : decode cX0_charge 47 = .ok (.iaload, 1) := by decide +kernel
theorem dX0_charge_48 : decode cX0_charge 48 = .ok (.iload_n 3, 1) := by decide +kernel
theorem dX0_charge_49 : decode cX0_charge 49 = .ok (.iadd, 1) := by decide +kernel
theorem dX0_charge_50 : decode cX0_charge 50 = .ok (.iastore, 1) := by decide +kernel
theorem dX0_charge_51 : decode cX0_charge 51 = .ok (.aload_n 0, 1) := by decide +kernel
theorem dX0_charge_52 : decode cX0_charge 52 = .ok (.dup, 1) := by decide +kernel
theorem dX0_charge_53 : decode cX0_charge 53 = .ok (.getfield 46, 3) := by decide +kernel
theorem dX0_charge_56 : decode cX0_charge 56 = .ok (.iload_n 3, 1) := by decide +kernel
theorem dX0_charge_57 : decode cX0_charge 57 = .ok (.iadd, 1) := by decide +kernel
theorem dX0_charge_58 : decode cX0_charge 58 = .ok (.putfield 46, 3) := by decide +kernel
theorem dX0_charge_61 : decode cX0_charge 61 = .ok (.return_, 1) := by decide +kernel
theorem dX0_isNumber_0 : decode cX0_isNumber 0 = .ok (.iload_n 1, 1) := by decide +kernel
theorem dX0_isNumber_1 : decode cX0_isNumber 1 = .ok (.ifCond .lt 15, 3) := by decide +kernel
theorem dX0_isNumber_4 : decode cX0_isNumber 4 = .ok (.iload_n 1, 1) := by decide +kernel
theorem dX0_isNumber_5 : decode cX0_isNumber 5 = .ok (.aload_n 0, 1) := by decide +kernel
theorem dX0_isNumber_6 : decode cX0_isNumber 6 = .ok (.getfield 42, 3) := by decide +kernel
theorem dX0_isNumber_9 : decode cX0_isNumber 9 = .ok (.if_icmp .ge 7, 3) := by decide +kernel
theorem dX0_isNumber_12 : decode cX0_isNumber 12 = .ok (.iconst 1, 1) := by decide +kernel
theorem dX0_isNumber_13 : decode cX0_isNumber 13 = .ok (.goto 4, 3) := by decide +kernel
theorem dX0_isNumber_16 : decode cX0_isNumber 16 = .ok (.iconst 0, 1) := by decide +kernel
theorem dX0_isNumber_17 : decode cX0_isNumber 17 = .ok (.ireturn, 1) := by decide +kernel
theorem dX0_lampsFromTo_0 : decode cX0_lampsFromTo 0 = .ok (.aload_n 0, 1) := by decide +kernel
theorem dX0_lampsFromTo_1 : decode cX0_lampsFromTo 1 = .ok (.iload_n 1, 1) := by decide +kernel
theorem dX0_lampsFromTo_2 : decode cX0_lampsFromTo 2 = .ok (.invokevirtual 60, 3) := by decide +kernel
theorem dX0_lampsFromTo_5 : decode cX0_lampsFromTo 5 = .ok (.ifCond .eq 25, 3) := by decide +kernel
theorem dX0_lampsFromTo_8 : decode cX0_lampsFromTo 8 = .ok (.aload_n 0, 1) := by decide +kernel
theorem dX0_lampsFromTo_9 : decode cX0_lampsFromTo 9 = .ok (.iload_n 2, 1) := by decide +kernel
theorem dX0_lampsFromTo_10 : decode cX0_lampsFromTo 10 = .ok (.invokevirtual 60, 3) := by decide +kernel
theorem dX0_lampsFromTo_13 : decode cX0_lampsFromTo 13 = .ok (.ifCond .eq 17, 3) := by decide +kernel
theorem dX0_lampsFromTo_16 : decode cX0_lampsFromTo 16 = .ok (.aload_n 0, 1) := by decide +kernel
theorem dX0_lampsFromTo_17 : decode cX0_lampsFromTo 17 = .ok (.getfield 24, 3) := by decide +kernel
theorem dX0_lampsFromTo_20 : decode cX0_lampsFromTo 20 = .ok (.iload_n 1, 1) := by decide +kernel
theorem dX0_lampsFromTo_21 : decode cX0_lampsFromTo 21 = .ok (.bipush 12, 2) := by decide +kernel
theorem dX0_lampsFromTo_23 : decode cX0_lampsFromTo 23 = .ok (.imul, 1) := by decide +kernel
theorem dX0_lampsFromTo_24 : decode cX0_lampsFromTo 24 = .ok (.iload_n 2, 1) := by decide +kernel
theorem dX0_lampsFromTo_25 : decode cX0_lampsFromTo 25 = .ok (.iadd, 1) := by decide +kernel
theorem dX0_lampsFromTo_26 : decode cX0_lampsFromTo 26 = .ok (.iaload, 1) := by decide +kernel
theorem dX0_lampsFromTo_27 : decode cX0_lampsFromTo 27 = .ok (.goto 4, 3) := by decide +kernel
theorem dX0_lampsFromTo_30 : decode cX0_lampsFromTo 30 = .ok (.iconst 0, 1) := by decide +kernel
theorem dX0_lampsFromTo_31 : decode cX0_lampsFromTo 31 = .ok (.ireturn, 1) := by decide +kernel
theorem dX0_owingOf_0 : decode cX0_owingOf 0 = .ok (.aload_n 0, 1) := by decide +kernel
theorem dX0_owingOf_1 : decode cX0_owingOf 1 = .ok (.iload_n 1, 1) := by decide +kernel
theorem dX0_owingOf_2 : decode cX0_owingOf 2 = .ok (.invokevirtual 60, 3) := by decide +kernel
theorem dX0_owingOf_5 : decode cX0_owingOf 5 = .ok (.ifCond .eq 12, 3) := by decide +kernel
theorem dX0_owingOf_8 : decode cX0_owingOf 8 = .ok (.aload_n 0, 1) := by decide +kernel
theorem dX0_owingOf_9 : decode cX0_owingOf 9 = .ok (.getfield 18, 3) := by decide +kernel
theorem dX0_owingOf_12 : decode cX0_owingOf 12 = .ok (.iload_n 1, 1) := by decide +kernel
theorem dX0_owingOf_13 : decode cX0_owingOf 13 = .ok (.iaload, 1) := by decide +kernel
theorem dX0_owingOf_14 : decode cX0_owingOf 14 = .ok (.goto 4, 3) := by decide +kernel
theorem dX0_owingOf_17 : decode cX0_owingOf 17 = .ok (.iconst 0, 1) := by decide +kernel
theorem dX0_owingOf_18 : decode cX0_owingOf 18 = .ok (.ireturn, 1) := by decide +kernel
theorem dX0_owedOf_0 : decode cX0_owedOf 0 = .ok (.aload_n 0, 1) := by decide +kernel
theorem dX0_owedOf_1 : decode cX0_owedOf 1 = .ok (.iload_n 1, 1) := by decide +kernel
theorem dX0_owedOf_2 : decode cX0_owedOf 2 = .ok (.invokevirtual 60, 3) := by decide +kernel
theorem dX0_owedOf_5 : decode cX0_owedOf 5 = .ok (.ifCond .eq 12, 3) := by decide +kernel
theorem dX0_owedOf_8 : decode cX0_owedOf 8 = .ok (.aload_n 0, 1) := by decide +kernel
theorem dX0_owedOf_9 : decode cX0_owedOf 9 = .ok (.getfield 21, 3) := by decide +kernel
theorem dX0_owedOf_12 : decode cX0_owedOf 12 = .ok (.iload_n 1, 1) := by decide +kernel
theorem dX0_owedOf_13 : decode cX0_owedOf 13 = .ok (.iaload, 1) := by decide +kernel
theorem dX0_owedOf_14 : decode cX0_owedOf 14 = .ok (.goto 4, 3) := by decide +kernel
theorem dX0_owedOf_17 : decode cX0_owedOf 17 = .ok (.iconst 0, 1) := by decide +kernel
theorem dX0_owedOf_18 : decode cX0_owedOf 18 = .ok (.ireturn, 1) := by decide +kernel
theorem dX0_debtOf_0 : decode cX0_debtOf 0 = .ok (.aload_n 0, 1) := by decide +kernel
theorem dX0_debtOf_1 : decode cX0_debtOf 1 = .ok (.iload_n 1, 1) := by decide +kernel
theorem dX0_debtOf_2 : decode cX0_debtOf 2 = .ok (.invokevirtual 81, 3) := by decide +kernel
theorem dX0_debtOf_5 : decode cX0_debtOf 5 = .ok (.aload_n 0, 1) := by decide +kernel
theorem dX0_debtOf_6 : decode cX0_debtOf 6 = .ok (.iload_n 1, 1) := by decide +kernel
theorem dX0_debtOf_7 : decode cX0_debtOf 7 = .ok (.invokevirtual 84, 3) := by decide +kernel
theorem dX0_debtOf_10 : decode cX0_debtOf 10 = .ok (.isub, 1) := by decide +kernel
theorem dX0_debtOf_11 : decode cX0_debtOf 11 = .ok (.ireturn, 1) := by decide +kernel
theorem dX0_lightOf_0 : decode cX0_lightOf 0 = .ok (.aload_n 0, 1) := by decide +kernel
theorem dX0_lightOf_1 : decode cX0_lightOf 1 = .ok (.iload_n 1, 1) := by decide +kernel
theorem dX0_lightOf_2 : decode cX0_lightOf 2 = .ok (.iconst 0, 1) := by decide +kernel
theorem dX0_lightOf_3 : decode cX0_lightOf 3 = .ok (.invokevirtual 87, 3) := by decide +kernel
theorem dX0_lightOf_6 : decode cX0_lightOf 6 = .ok (.ireturn, 1) := by decide +kernel
theorem dX0_lightIn_0 : decode cX0_lightIn 0 = .ok (.aload_n 0, 1) := by decide +kernel
theorem dX0_lightIn_1 : decode cX0_lightIn 1 = .ok (.iload_n 1, 1) := by decide +kernel
theorem dX0_lightIn_2 : decode cX0_lightIn 2 = .ok (.invokevirtual 60, 3) := by decide +kernel
theorem dX0_lightIn_5 : decode cX0_lightIn 5 = .ok (.ifCond .eq 30, 3) := by decide +kernel
theorem dX0_lightIn_8 : decode cX0_lightIn 8 = .ok (.iconst 5, 1) := by decide +kernel
theorem dX0_lightIn_9 : decode cX0_lightIn 9 = .ok (.aload_n 0, 1) := by decide +kernel
theorem dX0_lightIn_10 : decode cX0_lightIn 10 = .ok (.getfield 9, 3) := by decide +kernel
theorem dX0_lightIn_13 : decode cX0_lightIn 13 = .ok (.iload_n 1, 1) := by decide +kernel
theorem dX0_lightIn_14 : decode cX0_lightIn 14 = .ok (.iaload, 1) := by decide +kernel
theorem dX0_lightIn_15 : decode cX0_lightIn 15 = .ok (.iload_n 2, 1) := by decide +kernel
theorem dX0_lightIn_16 : decode cX0_lightIn 16 = .ok (.iconst (-1), 1) := by decide +kernel
theorem dX0_lightIn_17 : decode cX0_lightIn 17 = .ok (.ixor, 1) := by decide +kernel
theorem dX0_lightIn_18 : decode cX0_lightIn 18 = .ok (.iand, 1) := by decide +kernel
theorem dX0_lightIn_19 : decode cX0_lightIn 19 = .ok (.invokestatic 90, 3) := by decide +kernel
theorem dX0_lightIn_22 : decode cX0_lightIn 22 = .ok (.aload_n 0, 1) := by decide +kernel
theorem dX0_lightIn_23 : decode cX0_lightIn 23 = .ok (.getfield 15, 3) := by decide +kernel
theorem dX0_lightIn_26 : decode cX0_lightIn 26 = .ok (.iload_n 1, 1) := by decide +kernel
theorem dX0_lightIn_27 : decode cX0_lightIn 27 = .ok (.iaload, 1) := by decide +kernel
theorem dX0_lightIn_28 : decode cX0_lightIn 28 = .ok (.iadd, 1) := by decide +kernel
theorem dX0_lightIn_29 : decode cX0_lightIn 29 = .ok (.invokestatic 36, 3) := by decide +kernel
theorem dX0_lightIn_32 : decode cX0_lightIn 32 = .ok (.goto 4, 3) := by decide +kernel
theorem dX0_lightIn_35 : decode cX0_lightIn 35 = .ok (.iconst 0, 1) := by decide +kernel
theorem dX0_lightIn_36 : decode cX0_lightIn 36 = .ok (.ireturn, 1) := by decide +kernel
theorem dX0_allLight_0 : decode cX0_allLight 0 = .ok (.iconst 0, 1) := by decide +kernel
theorem dX0_allLight_1 : decode cX0_allLight 1 = .ok (.istore_n 1, 1) := by decide +kernel
theorem dX0_allLight_2 : decode cX0_allLight 2 = .ok (.iconst 0, 1) := by decide +kernel
theorem dX0_allLight_3 : decode cX0_allLight 3 = .ok (.istore_n 2, 1) := by decide +kernel
theorem dX0_allLight_4 : decode cX0_allLight 4 = .ok (.iload_n 2, 1) := by decide +kernel
theorem dX0_allLight_5 : decode cX0_allLight 5 = .ok (.aload_n 0, 1) := by decide +kernel
theorem dX0_allLight_6 : decode cX0_allLight 6 = .ok (.getfield 42, 3) := by decide +kernel
theorem dX0_allLight_9 : decode cX0_allLight 9 = .ok (.if_icmp .ge 17, 3) := by decide +kernel
theorem dX0_allLight_12 : decode cX0_allLight 12 = .ok (.iload_n 1, 1) := by decide +kernel
theorem dX0_allLight_13 : decode cX0_allLight 13 = .ok (.aload_n 0, 1) := by decide +kernel
theorem dX0_allLight_14 : decode cX0_allLight 14 = .ok (.iload_n 2, 1) := by decide +kernel
theorem dX0_allLight_15 : decode cX0_allLight 15 = .ok (.invokevirtual 95, 3) := by decide +kernel
theorem dX0_allLight_18 : decode cX0_allLight 18 = .ok (.iadd, 1) := by decide +kernel
theorem dX0_allLight_19 : decode cX0_allLight 19 = .ok (.istore_n 1, 1) := by decide +kernel
theorem dX0_allLight_20 : decode cX0_allLight 20 = .ok (.iinc 2 1, 3) := by decide +kernel
theorem dX0_allLight_23 : decode cX0_allLight 23 = .ok (.goto (-19), 3) := by decide +kernel
theorem dX0_allLight_26 : decode cX0_allLight 26 = .ok (.iload_n 1, 1) := by decide +kernel
theorem dX0_allLight_27 : decode cX0_allLight 27 = .ok (.ireturn, 1) := by decide +kernel
theorem dX0_mutualPairs_0 : decode cX0_mutualPairs 0 = .ok (.iconst 0, 1) := by decide +kernel
theorem dX0_mutualPairs_1 : decode cX0_mutualPairs 1 = .ok (.istore_n 1, 1) := by decide +kernel
theorem dX0_mutualPairs_2 : decode cX0_mutualPairs 2 = .ok (.iconst 0, 1) := by decide +kernel
theorem dX0_mutualPairs_3 : decode cX0_mutualPairs 3 = .ok (.istore_n 2, 1) := by decide +kernel
theorem dX0_mutualPairs_4 : decode cX0_mutualPairs 4 = .ok (.iload_n 2, 1) := by decide +kernel
theorem dX0_mutualPairs_5 : decode cX0_mutualPairs 5 = .ok (.aload_n 0, 1) := by decide +kernel
theorem dX0_mutualPairs_6 : decode cX0_mutualPairs 6 = .ok (.getfield 42, 3) := by decide +kernel
theorem dX0_mutualPairs_9 : decode cX0_mutualPairs 9 = .ok (.if_icmp .ge 48, 3) := by decide +kernel
theorem dX0_mutualPairs_12 : decode cX0_mutualPairs 12 = .ok (.iload_n 2, 1) := by decide +kernel
theorem dX0_mutualPairs_13 : decode cX0_mutualPairs 13 = .ok (.iconst 1, 1) := by decide +kernel
theorem dX0_mutualPairs_14 : decode cX0_mutualPairs 14 = .ok (.iadd, 1) := by decide +kernel
theorem dX0_mutualPairs_15 : decode cX0_mutualPairs 15 = .ok (.istore_n 3, 1) := by decide +kernel
theorem dX0_mutualPairs_16 : decode cX0_mutualPairs 16 = .ok (.iload_n 3, 1) := by decide +kernel
theorem dX0_mutualPairs_17 : decode cX0_mutualPairs 17 = .ok (.aload_n 0, 1) := by decide +kernel
theorem dX0_mutualPairs_18 : decode cX0_mutualPairs 18 = .ok (.getfield 42, 3) := by decide +kernel
theorem dX0_mutualPairs_21 : decode cX0_mutualPairs 21 = .ok (.if_icmp .ge 30, 3) := by decide +kernel
theorem dX0_mutualPairs_24 : decode cX0_mutualPairs 24 = .ok (.aload_n 0, 1) := by decide +kernel
theorem dX0_mutualPairs_25 : decode cX0_mutualPairs 25 = .ok (.iload_n 2, 1) := by decide +kernel
theorem dX0_mutualPairs_26 : decode cX0_mutualPairs 26 = .ok (.iload_n 3, 1) := by decide +kernel
theorem dX0_mutualPairs_27 : decode cX0_mutualPairs 27 = .ok (.invokevirtual 98, 3) := by decide +kernel
theorem dX0_mutualPairs_30 : decode cX0_mutualPairs 30 = .ok (.ifCond .le 15, 3) := by decide +kernel
theorem dX0_mutualPairs_33 : decode cX0_mutualPairs 33 = .ok (.aload_n 0, 1) := by decide +kernel
theorem dX0_mutualPairs_34 : decode cX0_mutualPairs 34 = .ok (.iload_n 3, 1) := by decide +kernel
theorem dX0_mutualPairs_35 : decode cX0_mutualPairs 35 = .ok (.iload_n 2, 1) := by decide +kernel
theorem dX0_mutualPairs_36 : decode cX0_mutualPairs 36 = .ok (.invokevirtual 98, 3) := by decide +kernel
theorem dX0_mutualPairs_39 : decode cX0_mutualPairs 39 = .ok (.ifCond .le 6, 3) := by decide +kernel
theorem dX0_mutualPairs_42 : decode cX0_mutualPairs 42 = .ok (.iinc 1 1, 3) := by decide +kernel
theorem dX0_mutualPairs_45 : decode cX0_mutualPairs 45 = .ok (.iinc 3 1, 3) := by decide +kernel
theorem dX0_mutualPairs_48 : decode cX0_mutualPairs 48 = .ok (.goto (-32), 3) := by decide +kernel
theorem dX0_mutualPairs_51 : decode cX0_mutualPairs 51 = .ok (.iinc 2 1, 3) := by decide +kernel
theorem dX0_mutualPairs_54 : decode cX0_mutualPairs 54 = .ok (.goto (-50), 3) := by decide +kernel
theorem dX0_mutualPairs_57 : decode cX0_mutualPairs 57 = .ok (.iload_n 1, 1) := by decide +kernel
theorem dX0_mutualPairs_58 : decode cX0_mutualPairs 58 = .ok (.ireturn, 1) := by decide +kernel
theorem dX0_ringed_0 : decode cX0_ringed 0 = .ok (.iconst 0, 1) := by decide +kernel
theorem dX0_ringed_1 : decode cX0_ringed 1 = .ok (.istore_n 1, 1) := by decide +kernel
theorem dX0_ringed_2 : decode cX0_ringed 2 = .ok (.iload_n 1, 1) := by decide +kernel
theorem dX0_ringed_3 : decode cX0_ringed 3 = .ok (.aload_n 0, 1) := by decide +kernel
theorem dX0_ringed_4 : decode cX0_ringed 4 = .ok (.getfield 42, 3) := by decide +kernel
theorem dX0_ringed_7 : decode cX0_ringed 7 = .ok (.if_icmp .ge 20, 3) := by decide +kernel
theorem dX0_ringed_10 : decode cX0_ringed 10 = .ok (.aload_n 0, 1) := by decide +kernel
theorem dX0_ringed_11 : decode cX0_ringed 11 = .ok (.getfield 27, 3) := by decide +kernel
theorem dX0_ringed_14 : decode cX0_ringed 14 = .ok (.iload_n 1, 1) := by decide +kernel
theorem dX0_ringed_15 : decode cX0_ringed 15 = .ok (.aload_n 0, 1) := by decide +kernel
theorem dX0_ringed_16 : decode cX0_ringed 16 = .ok (.iload_n 1, 1) := by decide +kernel
theorem dX0_ringed_17 : decode cX0_ringed 17 = .ok (.invokevirtual 101, 3) := by decide +kernel
theorem dX0_ringed_20 : decode cX0_ringed 20 = .ok (.iastore, 1) := by decide +kernel
theorem dX0_ringed_21 : decode cX0_ringed 21 = .ok (.iinc 1 1, 3) := by decide +kernel
theorem dX0_ringed_24 : decode cX0_ringed 24 = .ok (.goto (-22), 3) := by decide +kernel
theorem dX0_ringed_27 : decode cX0_ringed 27 = .ok (.iconst 0, 1) := by decide +kernel
theorem dX0_ringed_28 : decode cX0_ringed 28 = .ok (.istore_n 1, 1) := by decide +kernel
theorem dX0_ringed_29 : decode cX0_ringed 29 = .ok (.iload_n 1, 1) := by decide +kernel
theorem dX0_ringed_30 : decode cX0_ringed 30 = .ok (.aload_n 0, 1) := by decide +kernel
theorem dX0_ringed_31 : decode cX0_ringed 31 = .ok (.getfield 42, 3) := by decide +kernel
theorem dX0_ringed_34 : decode cX0_ringed 34 = .ok (.if_icmp .ge 53, 3) := by decide +kernel
theorem dX0_ringed_37 : decode cX0_ringed 37 = .ok (.iconst 0, 1) := by decide +kernel
theorem dX0_ringed_38 : decode cX0_ringed 38 = .ok (.istore_n 2, 1) := by decide +kernel
theorem dX0_ringed_39 : decode cX0_ringed 39 = .ok (.iload_n 2, 1) := by decide +kernel
theorem dX0_ringed_40 : decode cX0_ringed 40 = .ok (.aload_n 0, 1) := by decide +kernel
theorem dX0_ringed_41 : decode cX0_ringed 41 = .ok (.getfield 42, 3) := by decide +kernel
theorem dX0_ringed_44 : decode cX0_ringed 44 = .ok (.if_icmp .ge 37, 3) := by decide +kernel
theorem dX0_ringed_47 : decode cX0_ringed 47 = .ok (.aload_n 0, 1) := by decide +kernel
theorem dX0_ringed_48 : decode cX0_ringed 48 = .ok (.getfield 27, 3) := by decide +kernel
theorem dX0_ringed_51 : decode cX0_ringed 51 = .ok (.iload_n 2, 1) := by decide +kernel
theorem dX0_ringed_52 : decode cX0_ringed 52 = .ok (.iaload, 1) := by decide +kernel
theorem dX0_ringed_53 : decode cX0_ringed 53 = .ok (.iload_n 1, 1) := by decide +kernel
theorem dX0_ringed_54 : decode cX0_ringed 54 = .ok (.ishr, 1) := by decide +kernel
theorem dX0_ringed_55 : decode cX0_ringed 55 = .ok (.iconst 1, 1) := by decide +kernel
theorem dX0_ringed_56 : decode cX0_ringed 56 = .ok (.iand, 1) := by decide +kernel
theorem dX0_ringed_57 : decode cX0_ringed 57 = .ok (.ifCond .eq 18, 3) := by decide +kernel
theorem dX0_ringed_60 : decode cX0_ringed 60 = .ok (.aload_n 0, 1) := by decide +kernel
theorem dX0_ringed_61 : decode cX0_ringed 61 = .ok (.getfield 27, 3) := by decide +kernel
theorem dX0_ringed_64 : decode cX0_ringed 64 = .ok (.iload_n 2, 1) := by decide +kernel
theorem dX0_ringed_65 : decode cX0_ringed 65 = .ok (.dup2, 1) := by decide +kernel
theorem dX0_ringed_66 : decode cX0_ringed 66 = .ok (.iaload, 1) := by decide +kernel
theorem dX0_ringed_67 : decode cX0_ringed 67 = .ok (.aload_n 0, 1) := by decide +kernel
theorem dX0_ringed_68 : decode cX0_ringed 68 = .ok (.getfield 27, 3) := by decide +kernel
theorem dX0_ringed_71 : decode cX0_ringed 71 = .ok (.iload_n 1, 1) := by decide +kernel
theorem dX0_ringed_72 : decode cX0_ringed 72 = .ok (.iaload, 1) := by decide +kernel
theorem dX0_ringed_73 : decode cX0_ringed 73 = .ok (.ior, 1) := by decide +kernel
theorem dX0_ringed_74 : decode cX0_ringed 74 = .ok (.iastore, 1) := by decide +kernel
theorem dX0_ringed_75 : decode cX0_ringed 75 = .ok (.iinc 2 1, 3) := by decide +kernel
theorem dX0_ringed_78 : decode cX0_ringed 78 = .ok (.goto (-39), 3) := by decide +kernel
theorem dX0_ringed_81 : decode cX0_ringed 81 = .ok (.iinc 1 1, 3) := by decide +kernel
theorem dX0_ringed_84 : decode cX0_ringed 84 = .ok (.goto (-55), 3) := by decide +kernel
theorem dX0_ringed_87 : decode cX0_ringed 87 = .ok (.iconst 0, 1) := by decide +kernel
theorem dX0_ringed_88 : decode cX0_ringed 88 = .ok (.istore_n 1, 1) := by decide +kernel
theorem dX0_ringed_89 : decode cX0_ringed 89 = .ok (.iconst 0, 1) := by decide +kernel
theorem dX0_ringed_90 : decode cX0_ringed 90 = .ok (.istore_n 2, 1) := by decide +kernel
theorem dX0_ringed_91 : decode cX0_ringed 91 = .ok (.iload_n 2, 1) := by decide +kernel
theorem dX0_ringed_92 : decode cX0_ringed 92 = .ok (.aload_n 0, 1) := by decide +kernel
theorem dX0_ringed_93 : decode cX0_ringed 93 = .ok (.getfield 42, 3) := by decide +kernel
theorem dX0_ringed_96 : decode cX0_ringed 96 = .ok (.if_icmp .ge 22, 3) := by decide +kernel
theorem dX0_ringed_99 : decode cX0_ringed 99 = .ok (.iload_n 1, 1) := by decide +kernel
theorem dX0_ringed_100 : decode cX0_ringed 100 = .ok (.aload_n 0, 1) := by decide +kernel
theorem dX0_ringed_101 : decode cX0_ringed 101 = .ok (.getfield 27, 3) := by decide +kernel
theorem dX0_ringed_104 : decode cX0_ringed 104 = .ok (.iload_n 2, 1) := by decide +kernel
theorem dX0_ringed_105 : decode cX0_ringed 105 = .ok (.iaload, 1) := by decide +kernel
theorem dX0_ringed_106 : decode cX0_ringed 106 = .ok (.iconst 1, 1) := by decide +kernel
theorem dX0_ringed_107 : decode cX0_ringed 107 = .ok (.iload_n 2, 1) := by decide +kernel
theorem dX0_ringed_108 : decode cX0_ringed 108 = .ok (.ishl, 1) := by decide +kernel
theorem dX0_ringed_109 : decode cX0_ringed 109 = .ok (.iand, 1) := by decide +kernel
theorem dX0_ringed_110 : decode cX0_ringed 110 = .ok (.ior, 1) := by decide +kernel
theorem dX0_ringed_111 : decode cX0_ringed 111 = .ok (.istore_n 1, 1) := by decide +kernel
theorem dX0_ringed_112 : decode cX0_ringed 112 = .ok (.iinc 2 1, 3) := by decide +kernel
theorem dX0_ringed_115 : decode cX0_ringed 115 = .ok (.goto (-24), 3) := by decide +kernel
theorem dX0_ringed_118 : decode cX0_ringed 118 = .ok (.iload_n 1, 1) := by decide +kernel
theorem dX0_ringed_119 : decode cX0_ringed 119 = .ok (.ireturn, 1) := by decide +kernel
theorem dX0_owedBy_0 : decode cX0_owedBy 0 = .ok (.iconst 0, 1) := by decide +kernel
theorem dX0_owedBy_1 : decode cX0_owedBy 1 = .ok (.istore_n 2, 1) := by decide +kernel
theorem dX0_owedBy_2 : decode cX0_owedBy 2 = .ok (.iconst 0, 1) := by decide +kernel
theorem dX0_owedBy_3 : decode cX0_owedBy 3 = .ok (.istore_n 3, 1) := by decide +kernel
theorem dX0_owedBy_4 : decode cX0_owedBy 4 = .ok (.iload_n 3, 1) := by decide +kernel
theorem dX0_owedBy_5 : decode cX0_owedBy 5 = .ok (.aload_n 0, 1) := by decide +kernel
theorem dX0_owedBy_6 : decode cX0_owedBy 6 = .ok (.getfield 42, 3) := by decide +kernel
theorem dX0_owedBy_9 : decode cX0_owedBy 9 = .ok (.if_icmp .ge 24, 3) := by decide +kernel
theorem dX0_owedBy_12 : decode cX0_owedBy 12 = .ok (.aload_n 0, 1) := by decide +kernel
theorem dX0_owedBy_13 : decode cX0_owedBy 13 = .ok (.iload_n 1, 1) := by decide +kernel
theorem dX0_owedBy_14 : decode cX0_owedBy 14 = .ok (.iload_n 3, 1) := by decide +kernel
theorem dX0_owedBy_15 : decode cX0_owedBy 15 = .ok (.invokevirtual 98, 3) := by decide +kernel
theorem dX0_owedBy_18 : decode cX0_owedBy 18 = .ok (.ifCond .le 9, 3) := by decide +kernel
theorem dX0_owedBy_21 : decode cX0_owedBy 21 = .ok (.iload_n 2, 1) := by decide +kernel
theorem dX0_owedBy_22 : decode cX0_owedBy 22 = .ok (.iconst 1, 1) := by decide +kernel
theorem dX0_owedBy_23 : decode cX0_owedBy 23 = .ok (.iload_n 3, 1) := by decide +kernel
theorem dX0_owedBy_24 : decode cX0_owedBy 24 = .ok (.ishl, 1) := by decide +kernel
theorem dX0_owedBy_25 : decode cX0_owedBy 25 = .ok (.ior, 1) := by decide +kernel
theorem dX0_owedBy_26 : decode cX0_owedBy 26 = .ok (.istore_n 2, 1) := by decide +kernel
theorem dX0_owedBy_27 : decode cX0_owedBy 27 = .ok (.iinc 3 1, 3) := by decide +kernel
theorem dX0_owedBy_30 : decode cX0_owedBy 30 = .ok (.goto (-26), 3) := by decide +kernel
theorem dX0_owedBy_33 : decode cX0_owedBy 33 = .ok (.iload_n 2, 1) := by decide +kernel
theorem dX0_owedBy_34 : decode cX0_owedBy 34 = .ok (.ireturn, 1) := by decide +kernel
theorem dX1_init_0 : decode cX1_init 0 = .ok (.aload_n 0, 1) := by decide +kernel
theorem dX1_init_1 : decode cX1_init 1 = .ok (.invokespecial 3, 3) := by decide +kernel
theorem dX1_init_4 : decode cX1_init 4 = .ok (.aload_n 0, 1) := by decide +kernel
theorem dX1_init_5 : decode cX1_init 5 = .ok (.iconst 5, 1) := by decide +kernel
theorem dX1_init_6 : decode cX1_init 6 = .ok (.newarray .int, 2) := by decide +kernel
theorem dX1_init_8 : decode cX1_init 8 = .ok (.putfield 9, 3) := by decide +kernel
theorem dX1_init_11 : decode cX1_init 11 = .ok (.aload_n 0, 1) := by decide +kernel
theorem dX1_init_12 : decode cX1_init 12 = .ok (.bipush 30, 2) := by decide +kernel
theorem dX1_init_14 : decode cX1_init 14 = .ok (.newarray .int, 2) := by decide +kernel
theorem dX1_init_16 : decode cX1_init 16 = .ok (.putfield 15, 3) := by decide +kernel
theorem dX1_init_19 : decode cX1_init 19 = .ok (.return_, 1) := by decide +kernel
theorem dX1_clear_0 : decode cX1_clear 0 = .ok (.aload_n 0, 1) := by decide +kernel
theorem dX1_clear_1 : decode cX1_clear 1 = .ok (.iconst 0, 1) := by decide +kernel
theorem dX1_clear_2 : decode cX1_clear 2 = .ok (.putfield 18, 3) := by decide +kernel
theorem dX1_clear_5 : decode cX1_clear 5 = .ok (.aload_n 0, 1) := by decide +kernel
theorem dX1_clear_6 : decode cX1_clear 6 = .ok (.iconst 0, 1) := by decide +kernel
theorem dX1_clear_7 : decode cX1_clear 7 = .ok (.putfield 22, 3) := by decide +kernel
theorem dX1_clear_10 : decode cX1_clear 10 = .ok (.iconst 0, 1) := by decide +kernel
theorem dX1_clear_11 : decode cX1_clear 11 = .ok (.istore_n 1, 1) := by decide +kernel
theorem dX1_clear_12 : decode cX1_clear 12 = .ok (.iload_n 1, 1) := by decide +kernel
theorem dX1_clear_13 : decode cX1_clear 13 = .ok (.aload_n 0, 1) := by decide +kernel
theorem dX1_clear_14 : decode cX1_clear 14 = .ok (.getfield 9, 3) := by decide +kernel
theorem dX1_clear_17 : decode cX1_clear 17 = .ok (.arraylength, 1) := by decide +kernel
theorem dX1_clear_18 : decode cX1_clear 18 = .ok (.if_icmp .ge 16, 3) := by decide +kernel
theorem dX1_clear_21 : decode cX1_clear 21 = .ok (.aload_n 0, 1) := by decide +kernel
theorem dX1_clear_22 : decode cX1_clear 22 = .ok (.getfield 9, 3) := by decide +kernel
theorem dX1_clear_25 : decode cX1_clear 25 = .ok (.iload_n 1, 1) := by decide +kernel
theorem dX1_clear_26 : decode cX1_clear 26 = .ok (.iconst 0, 1) := by decide +kernel
theorem dX1_clear_27 : decode cX1_clear 27 = .ok (.iastore, 1) := by decide +kernel
theorem dX1_clear_28 : decode cX1_clear 28 = .ok (.iinc 1 1, 3) := by decide +kernel
theorem dX1_clear_31 : decode cX1_clear 31 = .ok (.goto (-19), 3) := by decide +kernel
theorem dX1_clear_34 : decode cX1_clear 34 = .ok (.iconst 0, 1) := by decide +kernel
theorem dX1_clear_35 : decode cX1_clear 35 = .ok (.istore_n 1, 1) := by decide +kernel
theorem dX1_clear_36 : decode cX1_clear 36 = .ok (.iload_n 1, 1) := by decide +kernel
theorem dX1_clear_37 : decode cX1_clear 37 = .ok (.aload_n 0, 1) := by decide +kernel
theorem dX1_clear_38 : decode cX1_clear 38 = .ok (.getfield 15, 3) := by decide +kernel
theorem dX1_clear_41 : decode cX1_clear 41 = .ok (.arraylength, 1) := by decide +kernel
theorem dX1_clear_42 : decode cX1_clear 42 = .ok (.if_icmp .ge 16, 3) := by decide +kernel
theorem dX1_clear_45 : decode cX1_clear 45 = .ok (.aload_n 0, 1) := by decide +kernel
theorem dX1_clear_46 : decode cX1_clear 46 = .ok (.getfield 15, 3) := by decide +kernel
theorem dX1_clear_49 : decode cX1_clear 49 = .ok (.iload_n 1, 1) := by decide +kernel
theorem dX1_clear_50 : decode cX1_clear 50 = .ok (.iconst 0, 1) := by decide +kernel
theorem dX1_clear_51 : decode cX1_clear 51 = .ok (.iastore, 1) := by decide +kernel
theorem dX1_clear_52 : decode cX1_clear 52 = .ok (.iinc 1 1, 3) := by decide +kernel
theorem dX1_clear_55 : decode cX1_clear 55 = .ok (.goto (-19), 3) := by decide +kernel
theorem dX1_clear_58 : decode cX1_clear 58 = .ok (.return_, 1) := by decide +kernel
theorem dX1_addTower_0 : decode cX1_addTower 0 = .ok (.aload_n 0, 1) := by decide +kernel
theorem dX1_addTower_1 : decode cX1_addTower 1 = .ok (.getfield 18, 3) := by decide +kernel
theorem dX1_addTower_4 : decode cX1_addTower 4 = .ok (.iconst 5, 1) := by decide +kernel
theorem dX1_addTower_5 : decode cX1_addTower 5 = .ok (.if_icmp .lt 5, 3) := by decide +kernel
theorem dX1_addTower_8 : decode cX1_addTower 8 = .ok (.iconst 0, 1) := by decide +kernel
theorem dX1_addTower_9 : decode cX1_addTower 9 = .ok (.ireturn, 1) := by decide +kernel
theorem dX1_addTower_10 : decode cX1_addTower 10 = .ok (.aload_n 0, 1) := by decide +kernel
theorem dX1_addTower_11 : decode cX1_addTower 11 = .ok (.dup, 1) := by decide +kernel
theorem dX1_addTower_12 : decode cX1_addTower 12 = .ok (.getfield 18, 3) := by decide +kernel
theorem dX1_addTower_15 : decode cX1_addTower 15 = .ok (.iconst 1, 1) := by decide +kernel
theorem dX1_addTower_16 : decode cX1_addTower 16 = .ok (.iadd, 1) := by decide +kernel
theorem dX1_addTower_17 : decode cX1_addTower 17 = .ok (.putfield 18, 3) := by decide +kernel
theorem dX1_addTower_20 : decode cX1_addTower 20 = .ok (.iconst 1, 1) := by decide +kernel
theorem dX1_addTower_21 : decode cX1_addTower 21 = .ok (.ireturn, 1) := by decide +kernel
theorem dX1_towerCount_0 : decode cX1_towerCount 0 = .ok (.aload_n 0, 1) := by decide +kernel
theorem dX1_towerCount_1 : decode cX1_towerCount 1 = .ok (.getfield 18, 3) := by decide +kernel
theorem dX1_towerCount_4 : decode cX1_towerCount 4 = .ok (.ireturn, 1) := by decide +kernel
theorem dX1_houseCount_0 : decode cX1_houseCount 0 = .ok (.aload_n 0, 1) := by decide +kernel
theorem dX1_houseCount_1 : decode cX1_houseCount 1 = .ok (.getfield 22, 3) := by decide +kernel
theorem dX1_houseCount_4 : decode cX1_houseCount 4 = .ok (.ireturn, 1) := by decide +kernel
theorem dX1_isTower_0 : decode cX1_isTower 0 = .ok (.iload_n 1, 1) := by decide +kernel
theorem dX1_isTower_1 : decode cX1_isTower 1 = .ok (.ifCond .lt 15, 3) := by decide +kernel
theorem dX1_isTower_4 : decode cX1_isTower 4 = .ok (.iload_n 1, 1) := by decide +kernel
theorem dX1_isTower_5 : decode cX1_isTower 5 = .ok (.aload_n 0, 1) := by decide +kernel
theorem dX1_isTower_6 : decode cX1_isTower 6 = .ok (.getfield 18, 3) := by decide +kernel
theorem dX1_isTower_9 : decode cX1_isTower 9 = .ok (.if_icmp .ge 7, 3) := by decide +kernel
theorem dX1_isTower_12 : decode cX1_isTower 12 = .ok (.iconst 1, 1) := by decide +kernel
theorem dX1_isTower_13 : decode cX1_isTower 13 = .ok (.goto 4, 3) := by decide +kernel
theorem dX1_isTower_16 : decode cX1_isTower 16 = .ok (.iconst 0, 1) := by decide +kernel
theorem dX1_isTower_17 : decode cX1_isTower 17 = .ok (.ireturn, 1) := by decide +kernel
theorem dX1_isNumber_0 : decode cX1_isNumber 0 = .ok (.iload_n 1, 1) := by decide +kernel
theorem dX1_isNumber_1 : decode cX1_isNumber 1 = .ok (.ifCond .lt 15, 3) := by decide +kernel
theorem dX1_isNumber_4 : decode cX1_isNumber 4 = .ok (.iload_n 1, 1) := by decide +kernel
theorem dX1_isNumber_5 : decode cX1_isNumber 5 = .ok (.aload_n 0, 1) := by decide +kernel
theorem dX1_isNumber_6 : decode cX1_isNumber 6 = .ok (.getfield 22, 3) := by decide +kernel
theorem dX1_isNumber_9 : decode cX1_isNumber 9 = .ok (.if_icmp .ge 7, 3) := by decide +kernel
theorem dX1_isNumber_12 : decode cX1_isNumber 12 = .ok (.iconst 1, 1) := by decide +kernel
theorem dX1_isNumber_13 : decode cX1_isNumber 13 = .ok (.goto 4, 3) := by decide +kernel
theorem dX1_isNumber_16 : decode cX1_isNumber 16 = .ok (.iconst 0, 1) := by decide +kernel
theorem dX1_isNumber_17 : decode cX1_isNumber 17 = .ok (.ireturn, 1) := by decide +kernel
theorem dX1_heightOf_0 : decode cX1_heightOf 0 = .ok (.iload_n 1, 1) := by decide +kernel
theorem dX1_heightOf_1 : decode cX1_heightOf 1 = .ok (.ifCond .lt 21, 3) := by decide +kernel
theorem dX1_heightOf_4 : decode cX1_heightOf 4 = .ok (.iload_n 1, 1) := by decide +kernel
theorem dX1_heightOf_5 : decode cX1_heightOf 5 = .ok (.aload_n 0, 1) := by decide +kernel
theorem dX1_heightOf_6 : decode cX1_heightOf 6 = .ok (.getfield 9, 3) := by decide +kernel
theorem dX1_heightOf_9 : decode cX1_heightOf 9 = .ok (.arraylength, 1) := by decide +kernel
theorem dX1_heightOf_10 : decode cX1_heightOf 10 = .ok (.if_icmp .ge 12, 3) := by decide +kernel
theorem dX1_heightOf_13 : decode cX1_heightOf 13 = .ok (.aload_n 0, 1) := by decide +kernel
theorem dX1_heightOf_14 : decode cX1_heightOf 14 = .ok (.getfield 9, 3) := by decide +kernel
theorem dX1_heightOf_17 : decode cX1_heightOf 17 = .ok (.iload_n 1, 1) := by decide +kernel
theorem dX1_heightOf_18 : decode cX1_heightOf 18 = .ok (.iaload, 1) := by decide +kernel
theorem dX1_heightOf_19 : decode cX1_heightOf 19 = .ok (.goto 4, 3) := by decide +kernel
theorem dX1_heightOf_22 : decode cX1_heightOf 22 = .ok (.iconst 0, 1) := by decide +kernel
theorem dX1_heightOf_23 : decode cX1_heightOf 23 = .ok (.ireturn, 1) := by decide +kernel
theorem dX1_has_0 : decode cX1_has 0 = .ok (.iload_n 1, 1) := by decide +kernel
theorem dX1_has_1 : decode cX1_has 1 = .ok (.ifCond .lt 30, 3) := by decide +kernel
theorem dX1_has_4 : decode cX1_has 4 = .ok (.iload_n 1, 1) := by decide +kernel
theorem dX1_has_5 : decode cX1_has 5 = .ok (.aload_n 0, 1) := by decide +kernel
theorem dX1_has_6 : decode cX1_has 6 = .ok (.getfield 9, 3) := by decide +kernel
theorem dX1_has_9 : decode cX1_has 9 = .ok (.arraylength, 1) := by decide +kernel
theorem dX1_has_10 : decode cX1_has 10 = .ok (.if_icmp .ge 21, 3) := by decide +kernel
theorem dX1_has_13 : decode cX1_has 13 = .ok (.iload_n 2, 1) := by decide +kernel
theorem dX1_has_14 : decode cX1_has 14 = .ok (.ifCond .lt 17, 3) := by decide +kernel
theorem dX1_has_17 : decode cX1_has 17 = .ok (.iload_n 2, 1) := by decide +kernel
theorem dX1_has_18 : decode cX1_has 18 = .ok (.aload_n 0, 1) := by decide +kernel
theorem dX1_has_19 : decode cX1_has 19 = .ok (.getfield 9, 3) := by decide +kernel
theorem dX1_has_22 : decode cX1_has 22 = .ok (.iload_n 1, 1) := by decide +kernel
theorem dX1_has_23 : decode cX1_has 23 = .ok (.iaload, 1) := by decide +kernel
theorem dX1_has_24 : decode cX1_has 24 = .ok (.if_icmp .ge 7, 3) := by decide +kernel
theorem dX1_has_27 : decode cX1_has 27 = .ok (.iconst 1, 1) := by decide +kernel
theorem dX1_has_28 : decode cX1_has 28 = .ok (.goto 4, 3) := by decide +kernel
theorem dX1_has_31 : decode cX1_has 31 = .ok (.iconst 0, 1) := by decide +kernel
theorem dX1_has_32 : decode cX1_has 32 = .ok (.ireturn, 1) := by decide +kernel
theorem dX1_hasRoom_0 : decode cX1_hasRoom 0 = .ok (.aload_n 0, 1) := by decide +kernel
theorem dX1_hasRoom_1 : decode cX1_hasRoom 1 = .ok (.iload_n 1, 1) := by decide +kernel
theorem dX1_hasRoom_2 : decode cX1_hasRoom 2 = .ok (.invokevirtual 25, 3) := by decide +kernel
theorem dX1_hasRoom_5 : decode cX1_hasRoom 5 = .ok (.ifCond .eq 26, 3) := by decide +kernel
theorem dX1_hasRoom_8 : decode cX1_hasRoom 8 = .ok (.aload_n 0, 1) := by decide +kernel
theorem dX1_hasRoom_9 : decode cX1_hasRoom 9 = .ok (.iload_n 1, 1) := by decide +kernel
theorem dX1_hasRoom_10 : decode cX1_hasRoom 10 = .ok (.invokevirtual 29, 3) := by decide +kernel
theorem dX1_hasRoom_13 : decode cX1_hasRoom 13 = .ok (.bipush 6, 2) := by decide +kernel
theorem dX1_hasRoom_15 : decode cX1_hasRoom 15 = .ok (.if_icmp .ge 16, 3) := by decide +kernel
theorem dX1_hasRoom_18 : decode cX1_hasRoom 18 = .ok (.aload_n 0, 1) := by decide +kernel
theorem dX1_hasRoom_19 : decode cX1_hasRoom 19 = .ok (.getfield 22, 3) := by decide +kernel
theorem dX1_hasRoom_22 : decode cX1_hasRoom 22 = .ok (.bipush 12, 2) := by decide +kernel
theorem dX1_hasRoom_24 : decode cX1_hasRoom 24 = .ok (.if_icmp .ge 7, 3) := by decide +kernel
theorem dX1_hasRoom_27 : decode cX1_hasRoom 27 = .ok (.iconst 1, 1) := by decide +kernel
theorem dX1_hasRoom_28 : decode cX1_hasRoom 28 = .ok (.goto 4, 3) := by decide +kernel
theorem dX1_hasRoom_31 : decode cX1_hasRoom 31 = .ok (.iconst 0, 1) := by decide +kernel
theorem dX1_hasRoom_32 : decode cX1_hasRoom 32 = .ok (.ireturn, 1) := by decide +kernel
theorem dX1_kindAt_0 : decode cX1_kindAt 0 = .ok (.aload_n 0, 1) := by decide +kernel
theorem dX1_kindAt_1 : decode cX1_kindAt 1 = .ok (.iload_n 1, 1) := by decide +kernel
theorem dX1_kindAt_2 : decode cX1_kindAt 2 = .ok (.iload_n 2, 1) := by decide +kernel
theorem dX1_kindAt_3 : decode cX1_kindAt 3 = .ok (.invokevirtual 33, 3) := by decide +kernel
theorem dX1_kindAt_6 : decode cX1_kindAt 6 = .ok (.ifCond .eq 22, 3) := by decide +kernel
theorem dX1_kindAt_9 : decode cX1_kindAt 9 = .ok (.aload_n 0, 1) := by decide +kernel
theorem dX1_kindAt_10 : decode cX1_kindAt 10 = .ok (.getfield 15, 3) := by decide +kernel
theorem dX1_kindAt_13 : decode cX1_kindAt 13 = .ok (.iload_n 1, 1) := by decide +kernel
theorem dX1_kindAt_14 : decode cX1_kindAt 14 = .ok (.bipush 6, 2) := by decide +kernel
theorem dX1_kindAt_16 : decode cX1_kindAt 16 = .ok (.imul, 1) := by decide +kernel
theorem dX1_kindAt_17 : decode cX1_kindAt 17 = .ok (.iload_n 2, 1) := by decide +kernel
theorem dX1_kindAt_18 : decode cX1_kindAt 18 = .ok (.iadd, 1) := by decide +kernel
theorem dX1_kindAt_19 : decode cX1_kindAt 19 = .ok (.iaload, 1) := by decide +kernel
theorem dX1_kindAt_20 : decode cX1_kindAt 20 = .ok (.iconst 1, 1) := by decide +kernel
theorem dX1_kindAt_21 : decode cX1_kindAt 21 = .ok (.isub, 1) := by decide +kernel
theorem dX1_kindAt_22 : decode cX1_kindAt 22 = .ok (.bipush 10, 2) := by decide +kernel
theorem dX1_kindAt_24 : decode cX1_kindAt 24 = .ok (.idiv, 1) := by decide +kernel
theorem dX1_kindAt_25 : decode cX1_kindAt 25 = .ok (.goto 4, 3) := by decide +kernel
theorem dX1_kindAt_28 : decode cX1_kindAt 28 = .ok (.iconst (-1), 1) := by decide +kernel
theorem dX1_kindAt_29 : decode cX1_kindAt 29 = .ok (.ireturn, 1) := by decide +kernel
theorem dX1_borneAt_0 : decode cX1_borneAt 0 = .ok (.aload_n 0, 1) := by decide +kernel
theorem dX1_borneAt_1 : decode cX1_borneAt 1 = .ok (.iload_n 1, 1) := by decide +kernel
theorem dX1_borneAt_2 : decode cX1_borneAt 2 = .ok (.iload_n 2, 1) := by decide +kernel
theorem dX1_borneAt_3 : decode cX1_borneAt 3 = .ok (.invokevirtual 33, 3) := by decide +kernel
theorem dX1_borneAt_6 : decode cX1_borneAt 6 = .ok (.ifCond .eq 22, 3) := by decide +kernel
theorem dX1_borneAt_9 : decode cX1_borneAt 9 = .ok (.aload_n 0, 1) := by decide +kernel
theorem dX1_borneAt_10 : decode cX1_borneAt 10 = .ok (.getfield 15, 3) := by decide +kernel
theorem dX1_borneAt_13 : decode cX1_borneAt 13 = .ok (.iload_n 1, 1) := by decide +kernel
theorem dX1_borneAt_14 : decode cX1_borneAt 14 = .ok (.bipush 6, 2) := by decide +kernel
theorem dX1_borneAt_16 : decode cX1_borneAt 16 = .ok (.imul, 1) := by decide +kernel
theorem dX1_borneAt_17 : decode cX1_borneAt 17 = .ok (.iload_n 2, 1) := by decide +kernel
theorem dX1_borneAt_18 : decode cX1_borneAt 18 = .ok (.iadd, 1) := by decide +kernel
theorem dX1_borneAt_19 : decode cX1_borneAt 19 = .ok (.iaload, 1) := by decide +kernel
theorem dX1_borneAt_20 : decode cX1_borneAt 20 = .ok (.iconst 1, 1) := by decide +kernel
theorem dX1_borneAt_21 : decode cX1_borneAt 21 = .ok (.isub, 1) := by decide +kernel
theorem dX1_borneAt_22 : decode cX1_borneAt 22 = .ok (.bipush 10, 2) := by decide +kernel
theorem dX1_borneAt_24 : decode cX1_borneAt 24 = .ok (.irem, 1) := by decide +kernel
theorem dX1_borneAt_25 : decode cX1_borneAt 25 = .ok (.goto 4, 3) := by decide +kernel
theorem dX1_borneAt_28 : decode cX1_borneAt 28 = .ok (.iconst 0, 1) := by decide +kernel
theorem dX1_borneAt_29 : decode cX1_borneAt 29 = .ok (.ireturn, 1) := by decide +kernel
theorem dX1_change_0 : decode cX1_change 0 = .ok (.aload_n 0, 1) := by decide +kernel
theorem dX1_change_1 : decode cX1_change 1 = .ok (.iload_n 1, 1) := by decide +kernel
theorem dX1_change_2 : decode cX1_change 2 = .ok (.iload_n 2, 1) := by decide +kernel
theorem dX1_change_3 : decode cX1_change 3 = .ok (.invokevirtual 33, 3) := by decide +kernel
theorem dX1_change_6 : decode cX1_change 6 = .ok (.ifCond .eq 23, 3) := by decide +kernel
theorem dX1_change_9 : decode cX1_change 9 = .ok (.aload_n 0, 1) := by decide +kernel
theorem dX1_change_10 : decode cX1_change 10 = .ok (.getfield 15, 3) := by decide +kernel
theorem dX1_change_13 : decode cX1_change 13 = .ok (.iload_n 1, 1) := by decide +kernel
theorem dX1_change_14 : decode cX1_change 14 = .ok (.bipush 6, 2) := by decide +kernel
theorem dX1_change_16 : decode cX1_change 16 = .ok (.imul, 1) := by decide +kernel
theorem dX1_change_17 : decode cX1_change 17 = .ok (.iload_n 2, 1) := by decide +kernel
theorem dX1_change_18 : decode cX1_change 18 = .ok (.iadd, 1) := by decide +kernel
theorem dX1_change_19 : decode cX1_change 19 = .ok (.bipush 10, 2) := by decide +kernel
theorem dX1_change_21 : decode cX1_change 21 = .ok (.iload_n 3, 1) := by decide +kernel
theorem dX1_change_22 : decode cX1_change 22 = .ok (.imul, 1) := by decide +kernel
theorem dX1_change_23 : decode cX1_change 23 = .ok (.iload 4, 2) := by decide +kernel
theorem dX1_change_25 : decode cX1_change 25 = .ok (.iadd, 1) := by decide +kernel
theorem dX1_change_26 : decode cX1_change 26 = .ok (.iconst 1, 1) := by decide +kernel
theorem dX1_change_27 : decode cX1_change 27 = .ok (.iadd, 1) := by decide +kernel
theorem dX1_change_28 : decode cX1_change 28 = .ok (.iastore, 1) := by decide +kernel
theorem dX1_change_29 : decode cX1_change 29 = .ok (.return_, 1) := by decide +kernel
theorem dX1_push_0 : decode cX1_push 0 = .ok (.aload_n 0, 1) := by decide +kernel
theorem dX1_push_1 : decode cX1_push 1 = .ok (.iload_n 1, 1) := by decide +kernel
theorem dX1_push_2 : decode cX1_push 2 = .ok (.invokevirtual 37, 3) := by decide +kernel
theorem dX1_push_5 : decode cX1_push 5 = .ok (.ifCond .ne 5, 3) := by decide +kernel
theorem dX1_push_8 : decode cX1_push 8 = .ok (.iconst 0, 1) := by decide +kernel
theorem dX1_push_9 : decode cX1_push 9 = .ok (.ireturn, 1) := by decide +kernel
theorem dX1_push_10 : decode cX1_push 10 = .ok (.aload_n 0, 1) := by decide +kernel
theorem dX1_push_11 : decode cX1_push 11 = .ok (.getfield 9, 3) := by decide +kernel
theorem dX1_push_14 : decode cX1_push 14 = .ok (.iload_n 1, 1) := by decide +kernel
theorem dX1_push_15 : decode cX1_push 15 = .ok (.dup2, 1) := by decide +kernel
theorem dX1_push_16 : decode cX1_push 16 = .ok (.iaload, 1) := by decide +kernel
theorem dX1_push_17 : decode cX1_push 17 = .ok (.iconst 1, 1) := by decide +kernel
theorem dX1_push_18 : decode cX1_push 18 = .ok (.iadd, 1) := by decide +kernel
theorem dX1_push_19 : decode cX1_push 19 = .ok (.iastore, 1) := by decide +kernel
theorem dX1_push_20 : decode cX1_push 20 = .ok (.aload_n 0, 1) := by decide +kernel
theorem dX1_push_21 : decode cX1_push 21 = .ok (.dup, 1) := by decide +kernel
theorem dX1_push_22 : decode cX1_push 22 = .ok (.getfield 22, 3) := by decide +kernel
theorem dX1_push_25 : decode cX1_push 25 = .ok (.iconst 1, 1) := by decide +kernel
theorem dX1_push_26 : decode cX1_push 26 = .ok (.iadd, 1) := by decide +kernel
theorem dX1_push_27 : decode cX1_push 27 = .ok (.putfield 22, 3) := by decide +kernel
theorem dX1_push_30 : decode cX1_push 30 = .ok (.aload_n 0, 1) := by decide +kernel
theorem dX1_push_31 : decode cX1_push 31 = .ok (.iload_n 1, 1) := by decide +kernel
theorem dX1_push_32 : decode cX1_push 32 = .ok (.aload_n 0, 1) := by decide +kernel
theorem dX1_push_33 : decode cX1_push 33 = .ok (.getfield 9, 3) := by decide +kernel
theorem dX1_push_36 : decode cX1_push 36 = .ok (.iload_n 1, 1) := by decide +kernel
theorem dX1_push_37 : decode cX1_push 37 = .ok (.iaload, 1) := by decide +kernel
theorem dX1_push_38 : decode cX1_push 38 = .ok (.iconst 1, 1) := by decide +kernel
theorem dX1_push_39 : decode cX1_push 39 = .ok (.isub, 1) := by decide +kernel
theorem dX1_push_40 : decode cX1_push 40 = .ok (.iload_n 2, 1) := by decide +kernel
theorem dX1_push_41 : decode cX1_push 41 = .ok (.iload_n 3, 1) := by decide +kernel
theorem dX1_push_42 : decode cX1_push 42 = .ok (.invokevirtual 40, 3) := by decide +kernel
theorem dX1_push_45 : decode cX1_push 45 = .ok (.iconst 1, 1) := by decide +kernel
theorem dX1_push_46 : decode cX1_push 46 = .ok (.ireturn, 1) := by decide +kernel
theorem dX1_pop_0 : decode cX1_pop 0 = .ok (.aload_n 0, 1) := by decide +kernel
theorem dX1_pop_1 : decode cX1_pop 1 = .ok (.iload_n 1, 1) := by decide +kernel
theorem dX1_pop_2 : decode cX1_pop 2 = .ok (.aload_n 0, 1) := by decide +kernel
theorem dX1_pop_3 : decode cX1_pop 3 = .ok (.iload_n 1, 1) := by decide +kernel
theorem dX1_pop_4 : decode cX1_pop 4 = .ok (.invokevirtual 29, 3) := by decide +kernel
theorem dX1_pop_7 : decode cX1_pop 7 = .ok (.iconst 1, 1) := by decide +kernel
theorem dX1_pop_8 : decode cX1_pop 8 = .ok (.isub, 1) := by decide +kernel
theorem dX1_pop_9 : decode cX1_pop 9 = .ok (.invokevirtual 44, 3) := by decide +kernel
theorem dX1_pop_12 : decode cX1_pop 12 = .ok (.return_, 1) := by decide +kernel
theorem dX1_remove_0 : decode cX1_remove 0 = .ok (.aload_n 0, 1) := by decide +kernel
theorem dX1_remove_1 : decode cX1_remove 1 = .ok (.iload_n 1, 1) := by decide +kernel
theorem dX1_remove_2 : decode cX1_remove 2 = .ok (.iload_n 2, 1) := by decide +kernel
theorem dX1_remove_3 : decode cX1_remove 3 = .ok (.invokevirtual 33, 3) := by decide +kernel
theorem dX1_remove_6 : decode cX1_remove 6 = .ok (.ifCond .ne 4, 3) := by decide +kernel
theorem dX1_remove_9 : decode cX1_remove 9 = .ok (.return_, 1) := by decide +kernel
theorem dX1_remove_10 : decode cX1_remove 10 = .ok (.aload_n 0, 1) := by decide +kernel
theorem dX1_remove_11 : decode cX1_remove 11 = .ok (.getfield 9, 3) := by decide +kernel
theorem dX1_remove_14 : decode cX1_remove 14 = .ok (.iload_n 1, 1) := by decide +kernel
theorem dX1_remove_15 : decode cX1_remove 15 = .ok (.iaload, 1) := by decide +kernel
theorem dX1_remove_16 : decode cX1_remove 16 = .ok (.iconst 1, 1) := by decide +kernel
theorem dX1_remove_17 : decode cX1_remove 17 = .ok (.isub, 1) := by decide +kernel
theorem dX1_remove_18 : decode cX1_remove 18 = .ok (.istore_n 3, 1) := by decide +kernel
theorem dX1_remove_19 : decode cX1_remove 19 = .ok (.iload_n 2, 1) := by decide +kernel
theorem dX1_remove_20 : decode cX1_remove 20 = .ok (.istore 4, 2) := by decide +kernel
theorem dX1_remove_22 : decode cX1_remove 22 = .ok (.iload 4, 2) := by decide +kernel
theorem dX1_remove_24 : decode cX1_remove 24 = .ok (.iload_n 3, 1) := by decide +kernel
theorem dX1_remove_25 : decode cX1_remove 25 = .ok (.if_icmp .ge 34, 3) := by decide +kernel
theorem dX1_remove_28 : decode cX1_remove 28 = .ok (.aload_n 0, 1) := by decide +kernel
theorem dX1_remove_29 : decode cX1_remove 29 = .ok (.iload_n 1, 1) := by decide +kernel
theorem dX1_remove_30 : decode cX1_remove 30 = .ok (.iload 4, 2) := by decide +kernel
theorem dX1_remove_32 : decode cX1_remove 32 = .ok (.aload_n 0, 1) := by decide +kernel
theorem dX1_remove_33 : decode cX1_remove 33 = .ok (.iload_n 1, 1) := by decide +kernel
theorem dX1_remove_34 : decode cX1_remove 34 = .ok (.iload 4, 2) := by decide +kernel
theorem dX1_remove_36 : decode cX1_remove 36 = .ok (.iconst 1, 1) := by decide +kernel
theorem dX1_remove_37 : decode cX1_remove 37 = .ok (.iadd, 1) := by decide +kernel
theorem dX1_remove_38 : decode cX1_remove 38 = .ok (.invokevirtual 48, 3) := by decide +kernel
theorem dX1_remove_41 : decode cX1_remove 41 = .ok (.aload_n 0, 1) := by decide +kernel
theorem dX1_remove_42 : decode cX1_remove 42 = .ok (.iload_n 1, 1) := by decide +kernel
theorem dX1_remove_43 : decode cX1_remove 43 = .ok (.iload 4, 2) := by decide +kernel
theorem dX1_remove_45 : decode cX1_remove 45 = .ok (.iconst 1, 1) := by decide +kernel
theorem dX1_remove_46 : decode cX1_remove 46 = .ok (.iadd, 1) := by decide +kernel
theorem dX1_remove_47 : decode cX1_remove 47 = .ok (.invokevirtual 52, 3) := by decide +kernel
theorem dX1_remove_50 : decode cX1_remove 50 = .ok (.invokevirtual 40, 3) := by decide +kernel
theorem dX1_remove_53 : decode cX1_remove 53 = .ok (.iinc 4 1, 3) := by decide +kernel
theorem dX1_remove_56 : decode cX1_remove 56 = .ok (.goto (-34), 3) := by decide +kernel
theorem dX1_remove_59 : decode cX1_remove 59 = .ok (.aload_n 0, 1) := by decide +kernel
theorem dX1_remove_60 : decode cX1_remove 60 = .ok (.getfield 15, 3) := by decide +kernel
theorem dX1_remove_63 : decode cX1_remove 63 = .ok (.iload_n 1, 1) := by decide +kernel
theorem dX1_remove_64 : decode cX1_remove 64 = .ok (.bipush 6, 2) := by decide +kernel
theorem dX1_remove_66 : decode cX1_remove 66 = .ok (.imul, 1) := by decide +kernel
theorem dX1_remove_67 : decode cX1_remove 67 = .ok (.iload_n 3, 1) := by decide +kernel
theorem dX1_remove_68 : decode cX1_remove 68 = .ok (.iadd, 1) := by decide +kernel
theorem dX1_remove_69 : decode cX1_remove 69 = .ok (.iconst 0, 1) := by decide +kernel
theorem dX1_remove_70 : decode cX1_remove 70 = .ok (.iastore, 1) := by decide +kernel
theorem dX1_remove_71 : decode cX1_remove 71 = .ok (.aload_n 0, 1) := by decide +kernel
theorem dX1_remove_72 : decode cX1_remove 72 = .ok (.getfield 9, 3) := by decide +kernel
theorem dX1_remove_75 : decode cX1_remove 75 = .ok (.iload_n 1, 1) := by decide +kernel
theorem dX1_remove_76 : decode cX1_remove 76 = .ok (.dup2, 1) := by decide +kernel
theorem dX1_remove_77 : decode cX1_remove 77 = .ok (.iaload, 1) := by decide +kernel
theorem dX1_remove_78 : decode cX1_remove 78 = .ok (.iconst 1, 1) := by decide +kernel
theorem dX1_remove_79 : decode cX1_remove 79 = .ok (.isub, 1) := by decide +kernel
theorem dX1_remove_80 : decode cX1_remove 80 = .ok (.iastore, 1) := by decide +kernel
theorem dX1_remove_81 : decode cX1_remove 81 = .ok (.aload_n 0, 1) := by decide +kernel
theorem dX1_remove_82 : decode cX1_remove 82 = .ok (.dup, 1) := by decide +kernel
theorem dX1_remove_83 : decode cX1_remove 83 = .ok (.getfield 22, 3) := by decide +kernel
theorem dX1_remove_86 : decode cX1_remove 86 = .ok (.iconst 1, 1) := by decide +kernel
theorem dX1_remove_87 : decode cX1_remove 87 = .ok (.isub, 1) := by decide +kernel
theorem dX1_remove_88 : decode cX1_remove 88 = .ok (.putfield 22, 3) := by decide +kernel
theorem dX1_remove_91 : decode cX1_remove 91 = .ok (.return_, 1) := by decide +kernel
theorem dX1_takeFrom_0 : decode cX1_takeFrom 0 = .ok (.aload_n 0, 1) := by decide +kernel
theorem dX1_takeFrom_1 : decode cX1_takeFrom 1 = .ok (.aload_n 1, 1) := by decide +kernel
theorem dX1_takeFrom_2 : decode cX1_takeFrom 2 = .ok (.iconst 0, 1) := by decide +kernel
theorem dX1_takeFrom_3 : decode cX1_takeFrom 3 = .ok (.invokevirtual 55, 3) := by decide +kernel
theorem dX1_takeFrom_6 : decode cX1_takeFrom 6 = .ok (.return_, 1) := by decide +kernel
theorem dX1_takeWithout_0 : decode cX1_takeWithout 0 = .ok (.aload_n 0, 1) := by decide +kernel
theorem dX1_takeWithout_1 : decode cX1_takeWithout 1 = .ok (.invokevirtual 59, 3) := by decide +kernel
theorem dX1_takeWithout_4 : decode cX1_takeWithout 4 = .ok (.iconst 0, 1) := by decide +kernel
theorem dX1_takeWithout_5 : decode cX1_takeWithout 5 = .ok (.istore_n 3, 1) := by decide +kernel
theorem dX1_takeWithout_6 : decode cX1_takeWithout 6 = .ok (.iconst 0, 1) := by decide +kernel
theorem dX1_takeWithout_7 : decode cX1_takeWithout 7 = .ok (.istore 4, 2) := by decide +kernel
theorem dX1_takeWithout_9 : decode cX1_takeWithout 9 = .ok (.iload 4, 2) := by decide +kernel
theorem dX1_takeWithout_11 : decode cX1_takeWithout 11 = .ok (.aload_n 1, 1) := by decide +kernel
theorem dX1_takeWithout_12 : decode cX1_takeWithout 12 = .ok (.getfield 18, 3) := by decide +kernel
theorem dX1_takeWithout_15 : decode cX1_takeWithout 15 = .ok (.if_icmp .ge 68, 3) := by decide +kernel
theorem dX1_takeWithout_18 : decode cX1_takeWithout 18 = .ok (.aload_n 0, 1) := by decide +kernel
theorem dX1_takeWithout_19 : decode cX1_takeWithout 19 = .ok (.invokevirtual 62, 3) := by decide +kernel
theorem dX1_takeWithout_22 : decode cX1_takeWithout 22 = .ok (.pop, 1) := by decide +kernel
theorem dX1_takeWithout_23 : decode cX1_takeWithout 23 = .ok (.iconst 0, 1) := by decide +kernel
theorem dX1_takeWithout_24 : decode cX1_takeWithout 24 = .ok (.istore 5, 2) := by decide +kernel
theorem dX1_takeWithout_26 : decode cX1_takeWithout 26 = .ok (.iload 5, 2) := by decide +kernel
theorem dX1_takeWithout_28 : decode cX1_takeWithout 28 = .ok (.aload_n 1, 1) := by decide +kernel
theorem dX1_takeWithout_29 : decode cX1_takeWithout 29 = .ok (.iload 4, 2) := by decide +kernel
theorem dX1_takeWithout_31 : decode cX1_takeWithout 31 = .ok (.invokevirtual 29, 3) := by decide +kernel
theorem dX1_takeWithout_34 : decode cX1_takeWithout 34 = .ok (.if_icmp .ge 43, 3) := by decide +kernel
theorem dX1_takeWithout_37 : decode cX1_takeWithout 37 = .ok (.iload_n 2, 1) := by decide +kernel
theorem dX1_takeWithout_38 : decode cX1_takeWithout 38 = .ok (.iload_n 3, 1) := by decide +kernel
theorem dX1_takeWithout_39 : decode cX1_takeWithout 39 = .ok (.ishr, 1) := by decide +kernel
theorem dX1_takeWithout_40 : decode cX1_takeWithout 40 = .ok (.iconst 1, 1) := by decide +kernel
theorem dX1_takeWithout_41 : decode cX1_takeWithout 41 = .ok (.iand, 1) := by decide +kernel
theorem dX1_takeWithout_42 : decode cX1_takeWithout 42 = .ok (.ifCond .ne 26, 3) := by decide +kernel
theorem dX1_takeWithout_45 : decode cX1_takeWithout 45 = .ok (.aload_n 0, 1) := by decide +kernel
theorem dX1_takeWithout_46 : decode cX1_takeWithout 46 = .ok (.iload 4, 2) := by decide +kernel
theorem dX1_takeWithout_48 : decode cX1_takeWithout 48 = .ok (.aload_n 1, 1) := by decide +kernel
theorem dX1_takeWithout_49 : decode cX1_takeWithout 49 = .ok (.iload 4, 2) := by decide +kernel
theorem dX1_takeWithout_51 : decode cX1_takeWithout 51 = .ok (.iload 5, 2) := by decide +kernel
theorem dX1_takeWithout_53 : decode cX1_takeWithout 53 = .ok (.invokevirtual 48, 3) := by decide +kernel
theorem dX1_takeWithout_56 : decode cX1_takeWithout 56 = .ok (.aload_n 1, 1) := by decide +kernel
theorem dX1_takeWithout_57 : decode cX1_takeWithout 57 = .ok (.iload 4, 2) := by decide +kernel
theorem dX1_takeWithout_59 : decode cX1_takeWithout 59 = .ok (.iload 5, 2) := by decide +kernel
theorem dX1_takeWithout_61 : decode cX1_takeWithout 61 = .ok (.invokevirtual 52, 3) := by decide +kernel
theorem dX1_takeWithout_64 : decode cX1_takeWithout 64 = .ok (.invokevirtual 66, 3) := by decide +kernel
theorem dX1_takeWithout_67 : decode cX1_takeWithout 67 = .ok (.pop, 1) := by decide +kernel
theorem dX1_takeWithout_68 : decode cX1_takeWithout 68 = .ok (.iinc 3 1, 3) := by decide +kernel
theorem dX1_takeWithout_71 : decode cX1_takeWithout 71 = .ok (.iinc 5 1, 3) := by decide +kernel
theorem dX1_takeWithout_74 : decode cX1_takeWithout 74 = .ok (.goto (-48), 3) := by decide +kernel
theorem dX1_takeWithout_77 : decode cX1_takeWithout 77 = .ok (.iinc 4 1, 3) := by decide +kernel
theorem dX1_takeWithout_80 : decode cX1_takeWithout 80 = .ok (.goto (-71), 3) := by decide +kernel
theorem dX1_takeWithout_83 : decode cX1_takeWithout 83 = .ok (.return_, 1) := by decide +kernel
theorem dX1_saveTo_0 : decode cX1_saveTo 0 = .ok (.iload_n 2, 1) := by decide +kernel
theorem dX1_saveTo_1 : decode cX1_saveTo 1 = .ok (.ifCond .lt 24, 3) := by decide +kernel
theorem dX1_saveTo_4 : decode cX1_saveTo 4 = .ok (.iload_n 2, 1) := by decide +kernel
theorem dX1_saveTo_5 : decode cX1_saveTo 5 = .ok (.aload_n 1, 1) := by decide +kernel
theorem dX1_saveTo_6 : decode cX1_saveTo 6 = .ok (.arraylength, 1) := by decide +kernel
theorem dX1_saveTo_7 : decode cX1_saveTo 7 = .ok (.bipush 30, 2) := by decide +kernel
theorem dX1_saveTo_9 : decode cX1_saveTo 9 = .ok (.isub, 1) := by decide +kernel
theorem dX1_saveTo_10 : decode cX1_saveTo 10 = .ok (.if_icmp .gt 15, 3) := by decide +kernel
theorem dX1_saveTo_13 : decode cX1_saveTo 13 = .ok (.aload_n 0, 1) := by decide +kernel
theorem dX1_saveTo_14 : decode cX1_saveTo 14 = .ok (.getfield 15, 3) := by decide +kernel
theorem dX1_saveTo_17 : decode cX1_saveTo 17 = .ok (.iconst 0, 1) := by decide +kernel
theorem dX1_saveTo_18 : decode cX1_saveTo 18 = .ok (.aload_n 1, 1) := by decide +kernel
theorem dX1_saveTo_19 : decode cX1_saveTo 19 = .ok (.iload_n 2, 1) := by decide +kernel
theorem dX1_saveTo_20 : decode cX1_saveTo 20 = .ok (.bipush 30, 2) := by decide +kernel
theorem dX1_saveTo_22 : decode cX1_saveTo 22 = .ok (.invokestatic 70, 3) := by decide +kernel
theorem dX1_saveTo_25 : decode cX1_saveTo 25 = .ok (.return_, 1) := by decide +kernel
theorem dX1_loadFrom_0 : decode cX1_loadFrom 0 = .ok (.iload_n 2, 1) := by decide +kernel
theorem dX1_loadFrom_1 : decode cX1_loadFrom 1 = .ok (.ifCond .lt 12, 3) := by decide +kernel
theorem dX1_loadFrom_4 : decode cX1_loadFrom 4 = .ok (.iload_n 2, 1) := by decide +kernel
theorem dX1_loadFrom_5 : decode cX1_loadFrom 5 = .ok (.aload_n 1, 1) := by decide +kernel
theorem dX1_loadFrom_6 : decode cX1_loadFrom 6 = .ok (.arraylength, 1) := by decide +kernel
theorem dX1_loadFrom_7 : decode cX1_loadFrom 7 = .ok (.bipush 30, 2) := by decide +kernel
theorem dX1_loadFrom_9 : decode cX1_loadFrom 9 = .ok (.isub, 1) := by decide +kernel
theorem dX1_loadFrom_10 : decode cX1_loadFrom 10 = .ok (.if_icmp .le 4, 3) := by decide +kernel
theorem dX1_loadFrom_13 : decode cX1_loadFrom 13 = .ok (.return_, 1) := by decide +kernel
theorem dX1_loadFrom_14 : decode cX1_loadFrom 14 = .ok (.aload_n 1, 1) := by decide +kernel
theorem dX1_loadFrom_15 : decode cX1_loadFrom 15 = .ok (.iload_n 2, 1) := by decide +kernel
theorem dX1_loadFrom_16 : decode cX1_loadFrom 16 = .ok (.aload_n 0, 1) := by decide +kernel
theorem dX1_loadFrom_17 : decode cX1_loadFrom 17 = .ok (.getfield 15, 3) := by decide +kernel
theorem dX1_loadFrom_20 : decode cX1_loadFrom 20 = .ok (.iconst 0, 1) := by decide +kernel
theorem dX1_loadFrom_21 : decode cX1_loadFrom 21 = .ok (.bipush 30, 2) := by decide +kernel
theorem dX1_loadFrom_23 : decode cX1_loadFrom 23 = .ok (.invokestatic 70, 3) := by decide +kernel
theorem dX1_loadFrom_26 : decode cX1_loadFrom 26 = .ok (.aload_n 0, 1) := by decide +kernel
theorem dX1_loadFrom_27 : decode cX1_loadFrom 27 = .ok (.iconst 0, 1) := by decide +kernel
theorem dX1_loadFrom_28 : decode cX1_loadFrom 28 = .ok (.putfield 22, 3) := by decide +kernel
theorem dX1_loadFrom_31 : decode cX1_loadFrom 31 = .ok (.iconst 0, 1) := by decide +kernel
theorem dX1_loadFrom_32 : decode cX1_loadFrom 32 = .ok (.istore_n 3, 1) := by decide +kernel
theorem dX1_loadFrom_33 : decode cX1_loadFrom 33 = .ok (.iload_n 3, 1) := by decide +kernel
theorem dX1_loadFrom_34 : decode cX1_loadFrom 34 = .ok (.aload_n 0, 1) := by decide +kernel
theorem dX1_loadFrom_35 : decode cX1_loadFrom 35 = .ok (.getfield 9, 3) := by decide +kernel
theorem dX1_loadFrom_38 : decode cX1_loadFrom 38 = .ok (.arraylength, 1) := by decide +kernel
theorem dX1_loadFrom_39 : decode cX1_loadFrom 39 = .ok (.if_icmp .ge 35, 3) := by decide +kernel
theorem dX1_loadFrom_42 : decode cX1_loadFrom 42 = .ok (.aload_n 0, 1) := by decide +kernel
theorem dX1_loadFrom_43 : decode cX1_loadFrom 43 = .ok (.getfield 9, 3) := by decide +kernel
theorem dX1_loadFrom_46 : decode cX1_loadFrom 46 = .ok (.iload_n 3, 1) := by decide +kernel
theorem dX1_loadFrom_47 : decode cX1_loadFrom 47 = .ok (.aload_n 0, 1) := by decide +kernel
theorem dX1_loadFrom_48 : decode cX1_loadFrom 48 = .ok (.iload_n 3, 1) := by decide +kernel
theorem dX1_loadFrom_49 : decode cX1_loadFrom 49 = .ok (.invokevirtual 76, 3) := by decide +kernel
theorem dX1_loadFrom_52 : decode cX1_loadFrom 52 = .ok (.iastore, 1) := by decide +kernel
theorem dX1_loadFrom_53 : decode cX1_loadFrom 53 = .ok (.aload_n 0, 1) := by decide +kernel
theorem dX1_loadFrom_54 : decode cX1_loadFrom 54 = .ok (.dup, 1) := by decide +kernel
theorem dX1_loadFrom_55 : decode cX1_loadFrom 55 = .ok (.getfield 22, 3) := by decide +kernel
theorem dX1_loadFrom_58 : decode cX1_loadFrom 58 = .ok (.aload_n 0, 1) := by decide +kernel
theorem dX1_loadFrom_59 : decode cX1_loadFrom 59 = .ok (.getfield 9, 3) := by decide +kernel
theorem dX1_loadFrom_62 : decode cX1_loadFrom 62 = .ok (.iload_n 3, 1) := by decide +kernel
theorem dX1_loadFrom_63 : decode cX1_loadFrom 63 = .ok (.iaload, 1) := by decide +kernel
theorem dX1_loadFrom_64 : decode cX1_loadFrom 64 = .ok (.iadd, 1) := by decide +kernel
theorem dX1_loadFrom_65 : decode cX1_loadFrom 65 = .ok (.putfield 22, 3) := by decide +kernel
theorem dX1_loadFrom_68 : decode cX1_loadFrom 68 = .ok (.iinc 3 1, 3) := by decide +kernel
theorem dX1_loadFrom_71 : decode cX1_loadFrom 71 = .ok (.goto (-38), 3) := by decide +kernel
theorem dX1_loadFrom_74 : decode cX1_loadFrom 74 = .ok (.return_, 1) := by decide +kernel
theorem dX1_housesIn_0 : decode cX1_housesIn 0 = .ok (.iconst 0, 1) := by decide +kernel
theorem dX1_housesIn_1 : decode cX1_housesIn 1 = .ok (.istore_n 2, 1) := by decide +kernel
theorem dX1_housesIn_2 : decode cX1_housesIn 2 = .ok (.iconst 0, 1) := by decide +kernel
theorem dX1_housesIn_3 : decode cX1_housesIn 3 = .ok (.istore_n 3, 1) := by decide +kernel
theorem dX1_housesIn_4 : decode cX1_housesIn 4 = .ok (.iload_n 3, 1) := by decide +kernel
theorem dX1_housesIn_5 : decode cX1_housesIn 5 = .ok (.bipush 6, 2) := by decide +kernel
theorem dX1_housesIn_7 : decode cX1_housesIn 7 = .ok (.if_icmp .ge 45, 3) := by decide +kernel
theorem dX1_housesIn_10 : decode cX1_housesIn 10 = .ok (.iload_n 1, 1) := by decide +kernel
theorem dX1_housesIn_11 : decode cX1_housesIn 11 = .ok (.bipush 6, 2) := by decide +kernel
theorem dX1_housesIn_13 : decode cX1_housesIn 13 = .ok (.imul, 1) := by decide +kernel
theorem dX1_housesIn_14 : decode cX1_housesIn 14 = .ok (.iload_n 3, 1) := by decide +kernel
theorem dX1_housesIn_15 : decode cX1_housesIn 15 = .ok (.iadd, 1) := by decide +kernel
theorem dX1_housesIn_16 : decode cX1_housesIn 16 = .ok (.istore 4, 2) := by decide +kernel
theorem dX1_housesIn_18 : decode cX1_housesIn 18 = .ok (.iload 4, 2) := by decide +kernel
theorem dX1_housesIn_20 : decode cX1_housesIn 20 = .ok (.ifCond .lt 26, 3) := by decide +kernel
theorem dX1_housesIn_23 : decode cX1_housesIn 23 = .ok (.iload 4, 2) := by decide +kernel
theorem dX1_housesIn_25 : decode cX1_housesIn 25 = .ok (.aload_n 0, 1) := by decide +kernel
theorem dX1_housesIn_26 : decode cX1_housesIn 26 = .ok (.getfield 15, 3) := by decide +kernel
theorem dX1_housesIn_29 : decode cX1_housesIn 29 = .ok (.arraylength, 1) := by decide +kernel
theorem dX1_housesIn_30 : decode cX1_housesIn 30 = .ok (.if_icmp .ge 16, 3) := by decide +kernel
theorem dX1_housesIn_33 : decode cX1_housesIn 33 = .ok (.aload_n 0, 1) := by decide +kernel
theorem dX1_housesIn_34 : decode cX1_housesIn 34 = .ok (.getfield 15, 3) := by decide +kernel
theorem dX1_housesIn_37 : decode cX1_housesIn 37 = .ok (.iload 4, 2) := by decide +kernel
theorem dX1_housesIn_39 : decode cX1_housesIn 39 = .ok (.iaload, 1) := by decide +kernel
theorem dX1_housesIn_40 : decode cX1_housesIn 40 = .ok (.ifCond .eq 6, 3) := by decide +kernel
theorem dX1_housesIn_43 : decode cX1_housesIn 43 = .ok (.iinc 2 1, 3) := by decide +kernel
theorem dX1_housesIn_46 : decode cX1_housesIn 46 = .ok (.iinc 3 1, 3) := by decide +kernel
theorem dX1_housesIn_49 : decode cX1_housesIn 49 = .ok (.goto (-45), 3) := by decide +kernel
theorem dX1_housesIn_52 : decode cX1_housesIn 52 = .ok (.iload_n 2, 1) := by decide +kernel
theorem dX1_housesIn_53 : decode cX1_housesIn 53 = .ok (.ireturn, 1) := by decide +kernel
theorem dX1_numberOf_0 : decode cX1_numberOf 0 = .ok (.iload_n 2, 1) := by decide +kernel
theorem dX1_numberOf_1 : decode cX1_numberOf 1 = .ok (.istore_n 3, 1) := by decide +kernel
theorem dX1_numberOf_2 : decode cX1_numberOf 2 = .ok (.iconst 0, 1) := by decide +kernel
theorem dX1_numberOf_3 : decode cX1_numberOf 3 = .ok (.istore 4, 2) := by decide +kernel
theorem dX1_numberOf_5 : decode cX1_numberOf 5 = .ok (.iload 4, 2) := by decide +kernel
theorem dX1_numberOf_7 : decode cX1_numberOf 7 = .ok (.iload_n 1, 1) := by decide +kernel
theorem dX1_numberOf_8 : decode cX1_numberOf 8 = .ok (.if_icmp .ge 18, 3) := by decide +kernel
theorem dX1_numberOf_11 : decode cX1_numberOf 11 = .ok (.iload_n 3, 1) := by decide +kernel
theorem dX1_numberOf_12 : decode cX1_numberOf 12 = .ok (.aload_n 0, 1) := by decide +kernel
theorem dX1_numberOf_13 : decode cX1_numberOf 13 = .ok (.iload 4, 2) := by decide +kernel
theorem dX1_numberOf_15 : decode cX1_numberOf 15 = .ok (.invokevirtual 29, 3) := by decide +kernel
theorem dX1_numberOf_18 : decode cX1_numberOf 18 = .ok (.iadd, 1) := by decide +kernel
theorem dX1_numberOf_19 : decode cX1_numberOf 19 = .ok (.istore_n 3, 1) := by decide +kernel
theorem dX1_numberOf_20 : decode cX1_numberOf 20 = .ok (.iinc 4 1, 3) := by decide +kernel
theorem dX1_numberOf_23 : decode cX1_numberOf 23 = .ok (.goto (-18), 3) := by decide +kernel
theorem dX1_numberOf_26 : decode cX1_numberOf 26 = .ok (.iload_n 3, 1) := by decide +kernel
theorem dX1_numberOf_27 : decode cX1_numberOf 27 = .ok (.ireturn, 1) := by decide +kernel
theorem dX1_mostStoreys_0 : decode cX1_mostStoreys 0 = .ok (.iconst 0, 1) := by decide +kernel
theorem dX1_mostStoreys_1 : decode cX1_mostStoreys 1 = .ok (.istore_n 1, 1) := by decide +kernel
theorem dX1_mostStoreys_2 : decode cX1_mostStoreys 2 = .ok (.iconst 0, 1) := by decide +kernel
theorem dX1_mostStoreys_3 : decode cX1_mostStoreys 3 = .ok (.istore_n 2, 1) := by decide +kernel
theorem dX1_mostStoreys_4 : decode cX1_mostStoreys 4 = .ok (.iload_n 2, 1) := by decide +kernel
theorem dX1_mostStoreys_5 : decode cX1_mostStoreys 5 = .ok (.aload_n 0, 1) := by decide +kernel
theorem dX1_mostStoreys_6 : decode cX1_mostStoreys 6 = .ok (.getfield 18, 3) := by decide +kernel
theorem dX1_mostStoreys_9 : decode cX1_mostStoreys 9 = .ok (.if_icmp .ge 19, 3) := by decide +kernel
theorem dX1_mostStoreys_12 : decode cX1_mostStoreys 12 = .ok (.iload_n 1, 1) := by decide +kernel
theorem dX1_mostStoreys_13 : decode cX1_mostStoreys 13 = .ok (.aload_n 0, 1) := by decide +kernel
theorem dX1_mostStoreys_14 : decode cX1_mostStoreys 14 = .ok (.iload_n 2, 1) := by decide +kernel
theorem dX1_mostStoreys_15 : decode cX1_mostStoreys 15 = .ok (.invokevirtual 29, 3) := by decide +kernel
theorem dX1_mostStoreys_18 : decode cX1_mostStoreys 18 = .ok (.invokestatic 79, 3) := by decide +kernel
theorem dX1_mostStoreys_21 : decode cX1_mostStoreys 21 = .ok (.istore_n 1, 1) := by decide +kernel
theorem dX1_mostStoreys_22 : decode cX1_mostStoreys 22 = .ok (.iinc 2 1, 3) := by decide +kernel
theorem dX1_mostStoreys_25 : decode cX1_mostStoreys 25 = .ok (.goto (-21), 3) := by decide +kernel
theorem dX1_mostStoreys_28 : decode cX1_mostStoreys 28 = .ok (.iload_n 1, 1) := by decide +kernel
theorem dX1_mostStoreys_29 : decode cX1_mostStoreys 29 = .ok (.ireturn, 1) := by decide +kernel
theorem dX1_countOf_0 : decode cX1_countOf 0 = .ok (.iconst 0, 1) := by decide +kernel
theorem dX1_countOf_1 : decode cX1_countOf 1 = .ok (.istore_n 2, 1) := by decide +kernel
theorem dX1_countOf_2 : decode cX1_countOf 2 = .ok (.iconst 0, 1) := by decide +kernel
theorem dX1_countOf_3 : decode cX1_countOf 3 = .ok (.istore_n 3, 1) := by decide +kernel
theorem dX1_countOf_4 : decode cX1_countOf 4 = .ok (.iload_n 3, 1) := by decide +kernel
theorem dX1_countOf_5 : decode cX1_countOf 5 = .ok (.aload_n 0, 1) := by decide +kernel
theorem dX1_countOf_6 : decode cX1_countOf 6 = .ok (.getfield 18, 3) := by decide +kernel
theorem dX1_countOf_9 : decode cX1_countOf 9 = .ok (.if_icmp .ge 45, 3) := by decide +kernel
theorem dX1_countOf_12 : decode cX1_countOf 12 = .ok (.iconst 0, 1) := by decide +kernel
theorem dX1_countOf_13 : decode cX1_countOf 13 = .ok (.istore 4, 2) := by decide +kernel
theorem dX1_countOf_15 : decode cX1_countOf 15 = .ok (.iload 4, 2) := by decide +kernel
theorem dX1_countOf_17 : decode cX1_countOf 17 = .ok (.aload_n 0, 1) := by decide +kernel
theorem dX1_countOf_18 : decode cX1_countOf 18 = .ok (.iload_n 3, 1) := by decide +kernel
theorem dX1_countOf_19 : decode cX1_countOf 19 = .ok (.invokevirtual 29, 3) := by decide +kernel
theorem dX1_countOf_22 : decode cX1_countOf 22 = .ok (.if_icmp .ge 26, 3) := by decide +kernel
theorem dX1_countOf_25 : decode cX1_countOf 25 = .ok (.aload_n 0, 1) := by decide +kernel
theorem dX1_countOf_26 : decode cX1_countOf 26 = .ok (.iload_n 3, 1) := by decide +kernel
theorem dX1_countOf_27 : decode cX1_countOf 27 = .ok (.iload 4, 2) := by decide +kernel
theorem dX1_countOf_29 : decode cX1_countOf 29 = .ok (.invokevirtual 48, 3) := by decide +kernel
theorem dX1_countOf_32 : decode cX1_countOf 32 = .ok (.iload_n 1, 1) := by decide +kernel
theorem dX1_countOf_33 : decode cX1_countOf 33 = .ok (.invokestatic 84, 3) := by decide +kernel
theorem dX1_countOf_36 : decode cX1_countOf 36 = .ok (.ifCond .eq 6, 3) := by decide +kernel
theorem dX1_countOf_39 : decode cX1_countOf 39 = .ok (.iinc 2 1, 3) := by decide +kernel
theorem dX1_countOf_42 : decode cX1_countOf 42 = .ok (.iinc 4 1, 3) := by decide +kernel
theorem dX1_countOf_45 : decode cX1_countOf 45 = .ok (.goto (-30), 3) := by decide +kernel
theorem dX1_countOf_48 : decode cX1_countOf 48 = .ok (.iinc 3 1, 3) := by decide +kernel
theorem dX1_countOf_51 : decode cX1_countOf 51 = .ok (.goto (-47), 3) := by decide +kernel
theorem dX1_countOf_54 : decode cX1_countOf 54 = .ok (.iload_n 2, 1) := by decide +kernel
theorem dX1_countOf_55 : decode cX1_countOf 55 = .ok (.ireturn, 1) := by decide +kernel
theorem dX1_weightOn_0 : decode cX1_weightOn 0 = .ok (.iconst 0, 1) := by decide +kernel
theorem dX1_weightOn_1 : decode cX1_weightOn 1 = .ok (.istore_n 3, 1) := by decide +kernel
theorem dX1_weightOn_2 : decode cX1_weightOn 2 = .ok (.iload_n 2, 1) := by decide +kernel
theorem dX1_weightOn_3 : decode cX1_weightOn 3 = .ok (.iconst 1, 1) := by decide +kernel
theorem dX1_weightOn_4 : decode cX1_weightOn 4 = .ok (.iadd, 1) := by decide +kernel
theorem dX1_weightOn_5 : decode cX1_weightOn 5 = .ok (.istore 4, 2) := by decide +kernel
theorem dX1_weightOn_7 : decode cX1_weightOn 7 = .ok (.iload 4, 2) := by decide +kernel
theorem dX1_weightOn_9 : decode cX1_weightOn 9 = .ok (.aload_n 0, 1) := by decide +kernel
theorem dX1_weightOn_10 : decode cX1_weightOn 10 = .ok (.iload_n 1, 1) := by decide +kernel
theorem dX1_weightOn_11 : decode cX1_weightOn 11 = .ok (.invokevirtual 29, 3) := by decide +kernel
theorem dX1_weightOn_14 : decode cX1_weightOn 14 = .ok (.if_icmp .ge 24, 3) := by decide +kernel
theorem dX1_weightOn_17 : decode cX1_weightOn 17 = .ok (.iload_n 3, 1) := by decide +kernel
theorem dX1_weightOn_18 : decode cX1_weightOn 18 = .ok (.aload_n 0, 1) := by decide +kernel
theorem dX1_weightOn_19 : decode cX1_weightOn 19 = .ok (.iload_n 1, 1) := by decide +kernel
theorem dX1_weightOn_20 : decode cX1_weightOn 20 = .ok (.aload_n 0, 1) := by decide +kernel
theorem dX1_weightOn_21 : decode cX1_weightOn 21 = .ok (.iload_n 1, 1) := by decide +kernel
theorem dX1_weightOn_22 : decode cX1_weightOn 22 = .ok (.iload 4, 2) := by decide +kernel
theorem dX1_weightOn_24 : decode cX1_weightOn 24 = .ok (.invokevirtual 48, 3) := by decide +kernel
theorem dX1_weightOn_27 : decode cX1_weightOn 27 = .ok (.invokevirtual 87, 3) := by decide +kernel
theorem dX1_weightOn_30 : decode cX1_weightOn 30 = .ok (.iadd, 1) := by decide +kernel
theorem dX1_weightOn_31 : decode cX1_weightOn 31 = .ok (.istore_n 3, 1) := by decide +kernel
theorem dX1_weightOn_32 : decode cX1_weightOn 32 = .ok (.iinc 4 1, 3) := by decide +kernel
theorem dX1_weightOn_35 : decode cX1_weightOn 35 = .ok (.goto (-28), 3) := by decide +kernel
theorem dX1_weightOn_38 : decode cX1_weightOn 38 = .ok (.iload_n 2, 1) := by decide +kernel
theorem dX1_weightOn_39 : decode cX1_weightOn 39 = .ok (.istore 4, 2) := by decide +kernel
theorem dX1_weightOn_41 : decode cX1_weightOn 41 = .ok (.iload 4, 2) := by decide +kernel
theorem dX1_weightOn_43 : decode cX1_weightOn 43 = .ok (.aload_n 0, 1) := by decide +kernel
theorem dX1_weightOn_44 : decode cX1_weightOn 44 = .ok (.iload_n 1, 1) := by decide +kernel
theorem dX1_weightOn_45 : decode cX1_weightOn 45 = .ok (.iconst 1, 1) := by decide +kernel
theorem dX1_weightOn_46 : decode cX1_weightOn 46 = .ok (.isub, 1) := by decide +kernel
theorem dX1_weightOn_47 : decode cX1_weightOn 47 = .ok (.invokevirtual 29, 3) := by decide +kernel
theorem dX1_weightOn_50 : decode cX1_weightOn 50 = .ok (.if_icmp .ge 28, 3) := by decide +kernel
theorem dX1_weightOn_53 : decode cX1_weightOn 53 = .ok (.aload_n 0, 1) := by decide +kernel
theorem dX1_weightOn_54 : decode cX1_weightOn 54 = .ok (.iload_n 1, 1) := by decide +kernel
theorem dX1_weightOn_55 : decode cX1_weightOn 55 = .ok (.iconst 1, 1) := by decide +kernel
theorem dX1_weightOn_56 : decode cX1_weightOn 56 = .ok (.isub, 1) := by decide +kernel
theorem dX1_weightOn_57 : decode cX1_weightOn 57 = .ok (.iload 4, 2) := by decide +kernel
theorem dX1_weightOn_59 : decode cX1_weightOn 59 = .ok (.invokevirtual 48, 3) := by decide +kernel
theorem dX1_weightOn_62 : decode cX1_weightOn 62 = .ok (.iconst 2, 1) := by decide +kernel
theorem dX1_weightOn_63 : decode cX1_weightOn 63 = .ok (.invokestatic 84, 3) := by decide +kernel
theorem dX1_weightOn_66 : decode cX1_weightOn 66 = .ok (.ifCond .eq 6, 3) := by decide +kernel
theorem dX1_weightOn_69 : decode cX1_weightOn 69 = .ok (.iinc 3 1, 3) := by decide +kernel
theorem dX1_weightOn_72 : decode cX1_weightOn 72 = .ok (.iinc 4 1, 3) := by decide +kernel
theorem dX1_weightOn_75 : decode cX1_weightOn 75 = .ok (.goto (-34), 3) := by decide +kernel
theorem dX1_weightOn_78 : decode cX1_weightOn 78 = .ok (.iload_n 3, 1) := by decide +kernel
theorem dX1_weightOn_79 : decode cX1_weightOn 79 = .ok (.ireturn, 1) := by decide +kernel
theorem dX1_weightInOwnTower_0 : decode cX1_weightInOwnTower 0 = .ok (.iload_n 2, 1) := by decide +kernel
theorem dX1_weightInOwnTower_1 : decode cX1_weightInOwnTower 1 = .ok (.ifCond .lt 11, 3) := by decide +kernel
theorem dX1_weightInOwnTower_4 : decode cX1_weightInOwnTower 4 = .ok (.iload_n 2, 1) := by decide +kernel
theorem dX1_weightInOwnTower_5 : decode cX1_weightInOwnTower 5 = .ok (.getstatic 90, 3) := by decide +kernel
theorem dX1_weightInOwnTower_8 : decode cX1_weightInOwnTower 8 = .ok (.arraylength, 1) := by decide +kernel
theorem dX1_weightInOwnTower_9 : decode cX1_weightInOwnTower 9 = .ok (.if_icmp .lt 5, 3) := by decide +kernel
theorem dX1_weightInOwnTower_12 : decode cX1_weightInOwnTower 12 = .ok (.iconst 0, 1) := by decide +kernel
theorem dX1_weightInOwnTower_13 : decode cX1_weightInOwnTower 13 = .ok (.ireturn, 1) := by decide +kernel
theorem dX1_weightInOwnTower_14 : decode cX1_weightInOwnTower 14 = .ok (.iload_n 2, 1) := by decide +kernel
theorem dX1_weightInOwnTower_15 : decode cX1_weightInOwnTower 15 = .ok (.iconst 2, 1) := by decide +kernel
theorem dX1_weightInOwnTower_16 : decode cX1_weightInOwnTower 16 = .ok (.invokestatic 84, 3) := by decide +kernel
theorem dX1_weightInOwnTower_19 : decode cX1_weightInOwnTower 19 = .ok (.ifCond .eq 17, 3) := by decide +kernel
theorem dX1_weightInOwnTower_22 : decode cX1_weightInOwnTower 22 = .ok (.aload_n 0, 1) := by decide +kernel
theorem dX1_weightInOwnTower_23 : decode cX1_weightInOwnTower 23 = .ok (.iload_n 1, 1) := by decide +kernel
theorem dX1_weightInOwnTower_24 : decode cX1_weightInOwnTower 24 = .ok (.iconst 1, 1) := by decide +kernel
theorem dX1_weightInOwnTower_25 : decode cX1_weightInOwnTower 25 = .ok (.iadd, 1) := by decide +kernel
theorem dX1_weightInOwnTower_26 : decode cX1_weightInOwnTower 26 = .ok (.invokevirtual 25, 3) := by decide +kernel
theorem dX1_weightInOwnTower_29 : decode cX1_weightInOwnTower 29 = .ok (.ifCond .ne 7, 3) := by decide +kernel
theorem dX1_weightInOwnTower_32 : decode cX1_weightInOwnTower 32 = .ok (.iconst 1, 1) := by decide +kernel
theorem dX1_weightInOwnTower_33 : decode cX1_weightInOwnTower 33 = .ok (.goto 4, 3) := by decide +kernel
theorem dX1_weightInOwnTower_36 : decode cX1_weightInOwnTower 36 = .ok (.iconst 0, 1) := by decide +kernel
theorem dX1_weightInOwnTower_37 : decode cX1_weightInOwnTower 37 = .ok (.istore_n 3, 1) := by decide +kernel
theorem dX1_weightInOwnTower_38 : decode cX1_weightInOwnTower 38 = .ok (.getstatic 90, 3) := by decide +kernel
theorem dX1_weightInOwnTower_41 : decode cX1_weightInOwnTower 41 = .ok (.iload_n 2, 1) := by decide +kernel
theorem dX1_weightInOwnTower_42 : decode cX1_weightInOwnTower 42 = .ok (.iaload, 1) := by decide +kernel
theorem dX1_weightInOwnTower_43 : decode cX1_weightInOwnTower 43 = .ok (.iload_n 3, 1) := by decide +kernel
theorem dX1_weightInOwnTower_44 : decode cX1_weightInOwnTower 44 = .ok (.ifCond .eq 7, 3) := by decide +kernel
theorem dX1_weightInOwnTower_47 : decode cX1_weightInOwnTower 47 = .ok (.iconst 1, 1) := by decide +kernel
theorem dX1_weightInOwnTower_48 : decode cX1_weightInOwnTower 48 = .ok (.goto 4, 3) := by decide +kernel
theorem dX1_weightInOwnTower_51 : decode cX1_weightInOwnTower 51 = .ok (.iconst 0, 1) := by decide +kernel
theorem dX1_weightInOwnTower_52 : decode cX1_weightInOwnTower 52 = .ok (.iadd, 1) := by decide +kernel
theorem dX1_weightInOwnTower_53 : decode cX1_weightInOwnTower 53 = .ok (.ireturn, 1) := by decide +kernel
theorem dX1_isSwaying_0 : decode cX1_isSwaying 0 = .ok (.aload_n 0, 1) := by decide +kernel
theorem dX1_isSwaying_1 : decode cX1_isSwaying 1 = .ok (.iload_n 1, 1) := by decide +kernel
theorem dX1_isSwaying_2 : decode cX1_isSwaying 2 = .ok (.iload_n 2, 1) := by decide +kernel
theorem dX1_isSwaying_3 : decode cX1_isSwaying 3 = .ok (.invokevirtual 33, 3) := by decide +kernel
theorem dX1_isSwaying_6 : decode cX1_isSwaying 6 = .ok (.ifCond .eq 22, 3) := by decide +kernel
theorem dX1_isSwaying_9 : decode cX1_isSwaying 9 = .ok (.aload_n 0, 1) := by decide +kernel
theorem dX1_isSwaying_10 : decode cX1_isSwaying 10 = .ok (.iload_n 1, 1) := by decide +kernel
theorem dX1_isSwaying_11 : decode cX1_isSwaying 11 = .ok (.iload_n 2, 1) := by decide +kernel
theorem dX1_isSwaying_12 : decode cX1_isSwaying 12 = .ok (.invokevirtual 93, 3) := by decide +kernel
theorem dX1_isSwaying_15 : decode cX1_isSwaying 15 = .ok (.aload_n 0, 1) := by decide +kernel
theorem dX1_isSwaying_16 : decode cX1_isSwaying 16 = .ok (.iload_n 1, 1) := by decide +kernel
theorem dX1_isSwaying_17 : decode cX1_isSwaying 17 = .ok (.iload_n 2, 1) := by decide +kernel
theorem dX1_isSwaying_18 : decode cX1_isSwaying 18 = .ok (.invokevirtual 52, 3) := by decide +kernel
theorem dX1_isSwaying_21 : decode cX1_isSwaying 21 = .ok (.if_icmp .le 7, 3) := by decide +kernel
theorem dX1_isSwaying_24 : decode cX1_isSwaying 24 = .ok (.iconst 1, 1) := by decide +kernel
theorem dX1_isSwaying_25 : decode cX1_isSwaying 25 = .ok (.goto 4, 3) := by decide +kernel
theorem dX1_isSwaying_28 : decode cX1_isSwaying 28 = .ok (.iconst 0, 1) := by decide +kernel
theorem dX1_isSwaying_29 : decode cX1_isSwaying 29 = .ok (.ireturn, 1) := by decide +kernel
theorem dX1_isSteady_0 : decode cX1_isSteady 0 = .ok (.iconst 0, 1) := by decide +kernel
theorem dX1_isSteady_1 : decode cX1_isSteady 1 = .ok (.istore_n 1, 1) := by decide +kernel
theorem dX1_isSteady_2 : decode cX1_isSteady 2 = .ok (.iload_n 1, 1) := by decide +kernel
theorem dX1_isSteady_3 : decode cX1_isSteady 3 = .ok (.aload_n 0, 1) := by decide +kernel
theorem dX1_isSteady_4 : decode cX1_isSteady 4 = .ok (.getfield 18, 3) := by decide +kernel
theorem dX1_isSteady_7 : decode cX1_isSteady 7 = .ok (.if_icmp .ge 37, 3) := by decide +kernel
theorem dX1_isSteady_10 : decode cX1_isSteady 10 = .ok (.iconst 0, 1) := by decide +kernel
theorem dX1_isSteady_11 : decode cX1_isSteady 11 = .ok (.istore_n 2, 1) := by decide +kernel
theorem dX1_isSteady_12 : decode cX1_isSteady 12 = .ok (.iload_n 2, 1) := by decide +kernel
theorem dX1_isSteady_13 : decode cX1_isSteady 13 = .ok (.aload_n 0, 1) := by decide +kernel
theorem dX1_isSteady_14 : decode cX1_isSteady 14 = .ok (.iload_n 1, 1) := by decide +kernel
theorem dX1_isSteady_15 : decode cX1_isSteady 15 = .ok (.invokevirtual 29, 3) := by decide +kernel
theorem dX1_isSteady_18 : decode cX1_isSteady 18 = .ok (.if_icmp .ge 20, 3) := by decide +kernel
theorem dX1_isSteady_21 : decode cX1_isSteady 21 = .ok (.aload_n 0, 1) := by decide +kernel
theorem dX1_isSteady_22 : decode cX1_isSteady 22 = .ok (.iload_n 1, 1) := by decide +kernel
theorem dX1_isSteady_23 : decode cX1_isSteady 23 = .ok (.iload_n 2, 1) := by decide +kernel
theorem dX1_isSteady_24 : decode cX1_isSteady 24 = .ok (.invokevirtual 96, 3) := by decide +kernel
theorem dX1_isSteady_27 : decode cX1_isSteady 27 = .ok (.ifCond .eq 5, 3) := by decide +kernel
theorem dX1_isSteady_30 : decode cX1_isSteady 30 = .ok (.iconst 0, 1) := by decide +kernel
theorem dX1_isSteady_31 : decode cX1_isSteady 31 = .ok (.ireturn, 1) := by decide +kernel
theorem dX1_isSteady_32 : decode cX1_isSteady 32 = .ok (.iinc 2 1, 3) := by decide +kernel
theorem dX1_isSteady_35 : decode cX1_isSteady 35 = .ok (.goto (-23), 3) := by decide +kernel
theorem dX1_isSteady_38 : decode cX1_isSteady 38 = .ok (.iinc 1 1, 3) := by decide +kernel
theorem dX1_isSteady_41 : decode cX1_isSteady 41 = .ok (.goto (-39), 3) := by decide +kernel
theorem dX1_isSteady_44 : decode cX1_isSteady 44 = .ok (.iconst 1, 1) := by decide +kernel
theorem dX1_isSteady_45 : decode cX1_isSteady 45 = .ok (.ireturn, 1) := by decide +kernel
theorem dX1_shaderOf_0 : decode cX1_shaderOf 0 = .ok (.iload_n 3, 1) := by decide +kernel
theorem dX1_shaderOf_1 : decode cX1_shaderOf 1 = .ok (.ifCond .lt 19, 3) := by decide +kernel
theorem dX1_shaderOf_4 : decode cX1_shaderOf 4 = .ok (.iload_n 3, 1) := by decide +kernel
theorem dX1_shaderOf_5 : decode cX1_shaderOf 5 = .ok (.getstatic 99, 3) := by decide +kernel
theorem dX1_shaderOf_8 : decode cX1_shaderOf 8 = .ok (.arraylength, 1) := by decide +kernel
theorem dX1_shaderOf_9 : decode cX1_shaderOf 9 = .ok (.if_icmp .ge 11, 3) := by decide +kernel
theorem dX1_shaderOf_12 : decode cX1_shaderOf 12 = .ok (.iload_n 3, 1) := by decide +kernel
theorem dX1_shaderOf_13 : decode cX1_shaderOf 13 = .ok (.getstatic 102, 3) := by decide +kernel
theorem dX1_shaderOf_16 : decode cX1_shaderOf 16 = .ok (.arraylength, 1) := by decide +kernel
theorem dX1_shaderOf_17 : decode cX1_shaderOf 17 = .ok (.if_icmp .lt 6, 3) := by decide +kernel
theorem dX1_shaderOf_20 : decode cX1_shaderOf 20 = .ok (.bipush (-9), 2) := by decide +kernel
theorem dX1_shaderOf_22 : decode cX1_shaderOf 22 = .ok (.ireturn, 1) := by decide +kernel
theorem dX1_shaderOf_23 : decode cX1_shaderOf 23 = .ok (.iconst 1, 1) := by decide +kernel
theorem dX1_shaderOf_24 : decode cX1_shaderOf 24 = .ok (.istore 4, 2) := by decide +kernel
theorem dX1_shaderOf_26 : decode cX1_shaderOf 26 = .ok (.iload 4, 2) := by decide +kernel
theorem dX1_shaderOf_28 : decode cX1_shaderOf 28 = .ok (.bipush 6, 2) := by decide +kernel
theorem dX1_shaderOf_30 : decode cX1_shaderOf 30 = .ok (.if_icmp .ge 68, 3) := by decide +kernel
theorem dX1_shaderOf_33 : decode cX1_shaderOf 33 = .ok (.iload_n 1, 1) := by decide +kernel
theorem dX1_shaderOf_34 : decode cX1_shaderOf 34 = .ok (.iload 4, 2) := by decide +kernel
theorem dX1_shaderOf_36 : decode cX1_shaderOf 36 = .ok (.getstatic 99, 3) := by decide +kernel
theorem dX1_shaderOf_39 : decode cX1_shaderOf 39 = .ok (.iload_n 3, 1) := by decide +kernel
theorem dX1_shaderOf_40 : decode cX1_shaderOf 40 = .ok (.iaload, 1) := by decide +kernel
theorem dX1_shaderOf_41 : decode cX1_shaderOf 41 = .ok (.imul, 1) := by decide +kernel
theorem dX1_shaderOf_42 : decode cX1_shaderOf 42 = .ok (.iadd, 1) := by decide +kernel
theorem dX1_shaderOf_43 : decode cX1_shaderOf 43 = .ok (.istore 5, 2) := by decide +kernel
theorem dX1_shaderOf_45 : decode cX1_shaderOf 45 = .ok (.iload_n 2, 1) := by decide +kernel
theorem dX1_shaderOf_46 : decode cX1_shaderOf 46 = .ok (.iload 4, 2) := by decide +kernel
theorem dX1_shaderOf_48 : decode cX1_shaderOf 48 = .ok (.getstatic 102, 3) := by decide +kernel
theorem dX1_shaderOf_51 : decode cX1_shaderOf 51 = .ok (.iload_n 3, 1) := by decide +kernel
theorem dX1_shaderOf_52 : decode cX1_shaderOf 52 = .ok (.iaload, 1) := by decide +kernel
theorem dX1_shaderOf_53 : decode cX1_shaderOf 53 = .ok (.imul, 1) := by decide +kernel
theorem dX1_shaderOf_54 : decode cX1_shaderOf 54 = .ok (.iadd, 1) := by decide +kernel
theorem dX1_shaderOf_55 : decode cX1_shaderOf 55 = .ok (.istore 6, 2) := by decide +kernel
theorem dX1_shaderOf_57 : decode cX1_shaderOf 57 = .ok (.aload_n 0, 1) := by decide +kernel
theorem dX1_shaderOf_58 : decode cX1_shaderOf 58 = .ok (.iload 5, 2) := by decide +kernel
theorem dX1_shaderOf_60 : decode cX1_shaderOf 60 = .ok (.iload 6, 2) := by decide +kernel
theorem dX1_shaderOf_62 : decode cX1_shaderOf 62 = .ok (.invokevirtual 33, 3) := by decide +kernel
theorem dX1_shaderOf_65 : decode cX1_shaderOf 65 = .ok (.ifCond .eq 27, 3) := by decide +kernel
theorem dX1_shaderOf_68 : decode cX1_shaderOf 68 = .ok (.aload_n 0, 1) := by decide +kernel
theorem dX1_shaderOf_69 : decode cX1_shaderOf 69 = .ok (.iload 5, 2) := by decide +kernel
theorem dX1_shaderOf_71 : decode cX1_shaderOf 71 = .ok (.iload 6, 2) := by decide +kernel
theorem dX1_shaderOf_73 : decode cX1_shaderOf 73 = .ok (.invokevirtual 48, 3) := by decide +kernel
theorem dX1_shaderOf_76 : decode cX1_shaderOf 76 = .ok (.iconst 1, 1) := by decide +kernel
theorem dX1_shaderOf_77 : decode cX1_shaderOf 77 = .ok (.invokestatic 84, 3) := by decide +kernel
theorem dX1_shaderOf_80 : decode cX1_shaderOf 80 = .ok (.ifCond .ne 12, 3) := by decide +kernel
theorem dX1_shaderOf_83 : decode cX1_shaderOf 83 = .ok (.aload_n 0, 1) := by decide +kernel
theorem dX1_shaderOf_84 : decode cX1_shaderOf 84 = .ok (.iload 5, 2) := by decide +kernel
theorem dX1_shaderOf_86 : decode cX1_shaderOf 86 = .ok (.iload 6, 2) := by decide +kernel
theorem dX1_shaderOf_88 : decode cX1_shaderOf 88 = .ok (.invokevirtual 105, 3) := by decide +kernel
theorem dX1_shaderOf_91 : decode cX1_shaderOf 91 = .ok (.ireturn, 1) := by decide +kernel
theorem dX1_shaderOf_92 : decode cX1_shaderOf 92 = .ok (.iinc 4 1, 3) := by decide +kernel
theorem dX1_shaderOf_95 : decode cX1_shaderOf 95 = .ok (.goto (-69), 3) := by decide +kernel
theorem dX1_shaderOf_98 : decode cX1_shaderOf 98 = .ok (.bipush (-9), 2) := by decide +kernel
theorem dX1_shaderOf_100 : decode cX1_shaderOf 100 = .ok (.ireturn, 1) := by decide +kernel
theorem dX1_hoursSeen_0 : decode cX1_hoursSeen 0 = .ok (.iconst 0, 1) := by decide +kernel
theorem dX1_hoursSeen_1 : decode cX1_hoursSeen 1 = .ok (.istore_n 3, 1) := by decide +kernel
theorem dX1_hoursSeen_2 : decode cX1_hoursSeen 2 = .ok (.iconst 0, 1) := by decide +kernel
theorem dX1_hoursSeen_3 : decode cX1_hoursSeen 3 = .ok (.istore 4, 2) := by decide +kernel
theorem dX1_hoursSeen_5 : decode cX1_hoursSeen 5 = .ok (.iload 4, 2) := by decide +kernel
theorem dX1_hoursSeen_7 : decode cX1_hoursSeen 7 = .ok (.iconst 5, 1) := by decide +kernel
theorem dX1_hoursSeen_8 : decode cX1_hoursSeen 8 = .ok (.if_icmp .ge 29, 3) := by decide +kernel
theorem dX1_hoursSeen_11 : decode cX1_hoursSeen 11 = .ok (.aload_n 0, 1) := by decide +kernel
theorem dX1_hoursSeen_12 : decode cX1_hoursSeen 12 = .ok (.iload_n 1, 1) := by decide +kernel
theorem dX1_hoursSeen_13 : decode cX1_hoursSeen 13 = .ok (.iload_n 2, 1) := by decide +kernel
theorem dX1_hoursSeen_14 : decode cX1_hoursSeen 14 = .ok (.iload 4, 2) := by decide +kernel
theorem dX1_hoursSeen_16 : decode cX1_hoursSeen 16 = .ok (.invokevirtual 108, 3) := by decide +kernel
theorem dX1_hoursSeen_19 : decode cX1_hoursSeen 19 = .ok (.bipush (-9), 2) := by decide +kernel
theorem dX1_hoursSeen_21 : decode cX1_hoursSeen 21 = .ok (.if_icmp .ne 10, 3) := by decide +kernel
theorem dX1_hoursSeen_24 : decode cX1_hoursSeen 24 = .ok (.iload_n 3, 1) := by decide +kernel
theorem dX1_hoursSeen_25 : decode cX1_hoursSeen 25 = .ok (.iconst 1, 1) := by decide +kernel
theorem dX1_hoursSeen_26 : decode cX1_hoursSeen 26 = .ok (.iload 4, 2) := by decide +kernel
theorem dX1_hoursSeen_28 : decode cX1_hoursSeen 28 = .ok (.ishl, 1) := by decide +kernel
theorem dX1_hoursSeen_29 : decode cX1_hoursSeen 29 = .ok (.ior, 1) := by decide +kernel
theorem dX1_hoursSeen_30 : decode cX1_hoursSeen 30 = .ok (.istore_n 3, 1) := by decide +kernel
theorem dX1_hoursSeen_31 : decode cX1_hoursSeen 31 = .ok (.iinc 4 1, 3) := by decide +kernel
theorem dX1_hoursSeen_34 : decode cX1_hoursSeen 34 = .ok (.goto (-29), 3) := by decide +kernel
theorem dX1_hoursSeen_37 : decode cX1_hoursSeen 37 = .ok (.iload_n 3, 1) := by decide +kernel
theorem dX1_hoursSeen_38 : decode cX1_hoursSeen 38 = .ok (.ireturn, 1) := by decide +kernel
theorem dX1_lampedAbove_0 : decode cX1_lampedAbove 0 = .ok (.iconst 0, 1) := by decide +kernel
theorem dX1_lampedAbove_1 : decode cX1_lampedAbove 1 = .ok (.istore_n 3, 1) := by decide +kernel
theorem dX1_lampedAbove_2 : decode cX1_lampedAbove 2 = .ok (.iload_n 2, 1) := by decide +kernel
theorem dX1_lampedAbove_3 : decode cX1_lampedAbove 3 = .ok (.iconst 1, 1) := by decide +kernel
theorem dX1_lampedAbove_4 : decode cX1_lampedAbove 4 = .ok (.iadd, 1) := by decide +kernel
theorem dX1_lampedAbove_5 : decode cX1_lampedAbove 5 = .ok (.istore 4, 2) := by decide +kernel
theorem dX1_lampedAbove_7 : decode cX1_lampedAbove 7 = .ok (.iload 4, 2) := by decide +kernel
theorem dX1_lampedAbove_9 : decode cX1_lampedAbove 9 = .ok (.aload_n 0, 1) := by decide +kernel
theorem dX1_lampedAbove_10 : decode cX1_lampedAbove 10 = .ok (.iload_n 1, 1) := by decide +kernel
theorem dX1_lampedAbove_11 : decode cX1_lampedAbove 11 = .ok (.invokevirtual 29, 3) := by decide +kernel
theorem dX1_lampedAbove_14 : decode cX1_lampedAbove 14 = .ok (.if_icmp .ge 23, 3) := by decide +kernel
theorem dX1_lampedAbove_17 : decode cX1_lampedAbove 17 = .ok (.aload_n 0, 1) := by decide +kernel
theorem dX1_lampedAbove_18 : decode cX1_lampedAbove 18 = .ok (.iload_n 1, 1) := by decide +kernel
theorem dX1_lampedAbove_19 : decode cX1_lampedAbove 19 = .ok (.iload 4, 2) := by decide +kernel
theorem dX1_lampedAbove_21 : decode cX1_lampedAbove 21 = .ok (.invokevirtual 48, 3) := by decide +kernel
theorem dX1_lampedAbove_24 : decode cX1_lampedAbove 24 = .ok (.iconst 5, 1) := by decide +kernel
theorem dX1_lampedAbove_25 : decode cX1_lampedAbove 25 = .ok (.if_icmp .ne 6, 3) := by decide +kernel
theorem dX1_lampedAbove_28 : decode cX1_lampedAbove 28 = .ok (.iinc 3 1, 3) := by decide +kernel
theorem dX1_lampedAbove_31 : decode cX1_lampedAbove 31 = .ok (.iinc 4 1, 3) := by decide +kernel
theorem dX1_lampedAbove_34 : decode cX1_lampedAbove 34 = .ok (.goto (-27), 3) := by decide +kernel
theorem dX1_lampedAbove_37 : decode cX1_lampedAbove 37 = .ok (.iload_n 3, 1) := by decide +kernel
theorem dX1_lampedAbove_38 : decode cX1_lampedAbove 38 = .ok (.ireturn, 1) := by decide +kernel
theorem dX2_init_0 : decode cX2_init 0 = .ok (.aload_n 0, 1) := by decide +kernel
theorem dX2_init_1 : decode cX2_init 1 = .ok (.invokespecial 3, 3) := by decide +kernel
theorem dX2_init_4 : decode cX2_init 4 = .ok (.aload_n 0, 1) := by decide +kernel
theorem dX2_init_5 : decode cX2_init 5 = .ok (.bipush 12, 2) := by decide +kernel
theorem dX2_init_7 : decode cX2_init 7 = .ok (.newarray .int, 2) := by decide +kernel
theorem dX2_init_9 : decode cX2_init 9 = .ok (.putfield 9, 3) := by decide +kernel
theorem dX2_init_12 : decode cX2_init 12 = .ok (.aload_n 0, 1) := by decide +kernel
theorem dX2_init_13 : decode cX2_init 13 = .ok (.sipush 4096, 3) := by decide +kernel
theorem dX2_init_16 : decode cX2_init 16 = .ok (.newarray .int, 2) := by decide +kernel
theorem dX2_init_18 : decode cX2_init 18 = .ok (.putfield 15, 3) := by decide +kernel
theorem dX2_init_21 : decode cX2_init 21 = .ok (.return_, 1) := by decide +kernel
theorem dX2_clear_0 : decode cX2_clear 0 = .ok (.aload_n 0, 1) := by decide +kernel
theorem dX2_clear_1 : decode cX2_clear 1 = .ok (.iconst 0, 1) := by decide +kernel
theorem dX2_clear_2 : decode cX2_clear 2 = .ok (.putfield 18, 3) := by decide +kernel
theorem dX2_clear_5 : decode cX2_clear 5 = .ok (.return_, 1) := by decide +kernel
theorem dX2_add_0 : decode cX2_add 0 = .ok (.iload_n 1, 1) := by decide +kernel
theorem dX2_add_1 : decode cX2_add 1 = .ok (.ifCond .eq 35, 3) := by decide +kernel
theorem dX2_add_4 : decode cX2_add 4 = .ok (.aload_n 0, 1) := by decide +kernel
theorem dX2_add_5 : decode cX2_add 5 = .ok (.getfield 18, 3) := by decide +kernel
theorem dX2_add_8 : decode cX2_add 8 = .ok (.aload_n 0, 1) := by decide +kernel
theorem dX2_add_9 : decode cX2_add 9 = .ok (.getfield 9, 3) := by decide +kernel
theorem dX2_add_12 : decode cX2_add 12 = .ok (.arraylength, 1) := by decide +kernel
theorem dX2_add_13 : decode cX2_add 13 = .ok (.if_icmp .ge 23, 3) := by decide +kernel
theorem dX2_add_16 : decode cX2_add 16 = .ok (.aload_n 0, 1) := by decide +kernel
theorem dX2_add_17 : decode cX2_add 17 = .ok (.getfield 9, 3) := by decide +kernel
theorem dX2_add_20 : decode cX2_add 20 = .ok (.aload_n 0, 1) := by decide +kernel
theorem dX2_add_21 : decode cX2_add 21 = .ok (.getfield 18, 3) := by decide +kernel
theorem dX2_add_24 : decode cX2_add 24 = .ok (.iload_n 1, 1) := by decide +kernel
theorem dX2_add_25 : decode cX2_add 25 = .ok (.iastore, 1) := by decide +kernel
theorem dX2_add_26 : decode cX2_add 26 = .ok (.aload_n 0, 1) := by decide +kernel
theorem dX2_add_27 : decode cX2_add 27 = .ok (.dup, 1) := by decide +kernel
theorem dX2_add_28 : decode cX2_add 28 = .ok (.getfield 18, 3) := by decide +kernel
theorem dX2_add_31 : decode cX2_add 31 = .ok (.iconst 1, 1) := by decide +kernel
theorem dX2_add_32 : decode cX2_add 32 = .ok (.iadd, 1) := by decide +kernel
theorem dX2_add_33 : decode cX2_add 33 = .ok (.putfield 18, 3) := by decide +kernel
theorem dX2_add_36 : decode cX2_add 36 = .ok (.return_, 1) := by decide +kernel
theorem dX2_fewestPayments_0 : decode cX2_fewestPayments 0 = .ok (.iconst 1, 1) := by decide +kernel
theorem dX2_fewestPayments_1 : decode cX2_fewestPayments 1 = .ok (.aload_n 0, 1) := by decide +kernel
theorem dX2_fewestPayments_2 : decode cX2_fewestPayments 2 = .ok (.getfield 18, 3) := by decide +kernel
theorem dX2_fewestPayments_5 : decode cX2_fewestPayments 5 = .ok (.ishl, 1) := by decide +kernel
theorem dX2_fewestPayments_6 : decode cX2_fewestPayments 6 = .ok (.iconst 1, 1) := by decide +kernel
theorem dX2_fewestPayments_7 : decode cX2_fewestPayments 7 = .ok (.isub, 1) := by decide +kernel
theorem dX2_fewestPayments_8 : decode cX2_fewestPayments 8 = .ok (.istore_n 1, 1) := by decide +kernel
theorem dX2_fewestPayments_9 : decode cX2_fewestPayments 9 = .ok (.iconst 1, 1) := by decide +kernel
theorem dX2_fewestPayments_10 : decode cX2_fewestPayments 10 = .ok (.istore_n 2, 1) := by decide +kernel
theorem dX2_fewestPayments_11 : decode cX2_fewestPayments 11 = .ok (.iload_n 2, 1) := by decide +kernel
theorem dX2_fewestPayments_12 : decode cX2_fewestPayments 12 = .ok (.iload_n 1, 1) := by decide +kernel
theorem dX2_fewestPayments_13 : decode cX2_fewestPayments 13 = .ok (.if_icmp .gt 29, 3) := by decide +kernel
theorem dX2_fewestPayments_16 : decode cX2_fewestPayments 16 = .ok (.iload_n 2, 1) := by decide +kernel
theorem dX2_fewestPayments_17 : decode cX2_fewestPayments 17 = .ok (.aload_n 0, 1) := by decide +kernel
theorem dX2_fewestPayments_18 : decode cX2_fewestPayments 18 = .ok (.getfield 15, 3) := by decide +kernel
theorem dX2_fewestPayments_21 : decode cX2_fewestPayments 21 = .ok (.arraylength, 1) := by decide +kernel
theorem dX2_fewestPayments_22 : decode cX2_fewestPayments 22 = .ok (.if_icmp .ge 20, 3) := by decide +kernel
theorem dX2_fewestPayments_25 : decode cX2_fewestPayments 25 = .ok (.aload_n 0, 1) := by decide +kernel
theorem dX2_fewestPayments_26 : decode cX2_fewestPayments 26 = .ok (.getfield 15, 3) := by decide +kernel
theorem dX2_fewestPayments_29 : decode cX2_fewestPayments 29 = .ok (.iload_n 2, 1) := by decide +kernel
theorem dX2_fewestPayments_30 : decode cX2_fewestPayments 30 = .ok (.aload_n 0, 1) := by decide +kernel
theorem dX2_fewestPayments_31 : decode cX2_fewestPayments 31 = .ok (.iload_n 2, 1) := by decide +kernel
theorem dX2_fewestPayments_32 : decode cX2_fewestPayments 32 = .ok (.invokevirtual 22, 3) := by decide +kernel
theorem dX2_fewestPayments_35 : decode cX2_fewestPayments 35 = .ok (.iastore, 1) := by decide +kernel
theorem dX2_fewestPayments_36 : decode cX2_fewestPayments 36 = .ok (.iinc 2 1, 3) := by decide +kernel
theorem dX2_fewestPayments_39 : decode cX2_fewestPayments 39 = .ok (.goto (-28), 3) := by decide +kernel
theorem dX2_fewestPayments_42 : decode cX2_fewestPayments 42 = .ok (.iload_n 1, 1) := by decide +kernel
theorem dX2_fewestPayments_43 : decode cX2_fewestPayments 43 = .ok (.ifCond .le 26, 3) := by decide +kernel
theorem dX2_fewestPayments_46 : decode cX2_fewestPayments 46 = .ok (.iload_n 1, 1) := by decide +kernel
theorem dX2_fewestPayments_47 : decode cX2_fewestPayments 47 = .ok (.aload_n 0, 1) := by decide +kernel
theorem dX2_fewestPayments_48 : decode cX2_fewestPayments 48 = .ok (.getfield 15, 3) := by decide +kernel
theorem dX2_fewestPayments_51 : decode cX2_fewestPayments 51 = .ok (.arraylength, 1) := by decide +kernel
theorem dX2_fewestPayments_52 : decode cX2_fewestPayments 52 = .ok (.if_icmp .ge 17, 3) := by decide +kernel
theorem dX2_fewestPayments_55 : decode cX2_fewestPayments 55 = .ok (.aload_n 0, 1) := by decide +kernel
theorem dX2_fewestPayments_56 : decode cX2_fewestPayments 56 = .ok (.getfield 18, 3) := by decide +kernel
theorem dX2_fewestPayments_59 : decode cX2_fewestPayments 59 = .ok (.aload_n 0, 1) := by decide +kernel
theorem dX2_fewestPayments_60 : decode cX2_fewestPayments 60 = .ok (.getfield 15, 3) := by decide +kernel
theorem dX2_fewestPayments_63 : decode cX2_fewestPayments 63 = .ok (.iload_n 1, 1) := by decide +kernel
theorem dX2_fewestPayments_64 : decode cX2_fewestPayments 64 = .ok (.iaload, 1) := by decide +kernel
theorem dX2_fewestPayments_65 : decode cX2_fewestPayments 65 = .ok (.isub, 1) := by decide +kernel
theorem dX2_fewestPayments_66 : decode cX2_fewestPayments 66 = .ok (.goto 4, 3) := by decide +kernel
theorem dX2_fewestPayments_69 : decode cX2_fewestPayments 69 = .ok (.iconst 0, 1) := by decide +kernel
theorem dX2_fewestPayments_70 : decode cX2_fewestPayments 70 = .ok (.ireturn, 1) := by decide +kernel
theorem dX2_mostGroups_0 : decode cX2_mostGroups 0 = .ok (.iconst 0, 1) := by decide +kernel
theorem dX2_mostGroups_1 : decode cX2_mostGroups 1 = .ok (.istore_n 2, 1) := by decide +kernel
theorem dX2_mostGroups_2 : decode cX2_mostGroups 2 = .ok (.iconst 0, 1) := by decide +kernel
theorem dX2_mostGroups_3 : decode cX2_mostGroups 3 = .ok (.istore_n 3, 1) := by decide +kernel
theorem dX2_mostGroups_4 : decode cX2_mostGroups 4 = .ok (.iconst 0, 1) := by decide +kernel
theorem dX2_mostGroups_5 : decode cX2_mostGroups 5 = .ok (.istore 4, 2) := by decide +kernel
theorem dX2_mostGroups_7 : decode cX2_mostGroups 7 = .ok (.iload 4, 2) := by decide +kernel
theorem dX2_mostGroups_9 : decode cX2_mostGroups 9 = .ok (.aload_n 0, 1) := by decide +kernel
theorem dX2_mostGroups_10 : decode cX2_mostGroups 10 = .ok (.getfield 18, 3) := by decide +kernel
theorem dX2_mostGroups_13 : decode cX2_mostGroups 13 = .ok (.if_icmp .ge 58, 3) := by decide +kernel
theorem dX2_mostGroups_16 : decode cX2_mostGroups 16 = .ok (.iload_n 1, 1) := by decide +kernel
theorem dX2_mostGroups_17 : decode cX2_mostGroups 17 = .ok (.iconst 1, 1) := by decide +kernel
theorem dX2_mostGroups_18 : decode cX2_mostGroups 18 = .ok (.iload 4, 2) := by decide +kernel
theorem dX2_mostGroups_20 : decode cX2_mostGroups 20 = .ok (.ishl, 1) := by decide +kernel
theorem dX2_mostGroups_21 : decode cX2_mostGroups 21 = .ok (.iconst (-1), 1) := by decide +kernel
theorem dX2_mostGroups_22 : decode cX2_mostGroups 22 = .ok (.ixor, 1) := by decide +kernel
theorem dX2_mostGroups_23 : decode cX2_mostGroups 23 = .ok (.iand, 1) := by decide +kernel
theorem dX2_mostGroups_24 : decode cX2_mostGroups 24 = .ok (.istore 5, 2) := by decide +kernel
theorem dX2_mostGroups_26 : decode cX2_mostGroups 26 = .ok (.iload 5, 2) := by decide +kernel
theorem dX2_mostGroups_28 : decode cX2_mostGroups 28 = .ok (.ifCond .le 21, 3) := by decide +kernel
theorem dX2_mostGroups_31 : decode cX2_mostGroups 31 = .ok (.iload 5, 2) := by decide +kernel
theorem dX2_mostGroups_33 : decode cX2_mostGroups 33 = .ok (.iload_n 1, 1) := by decide +kernel
theorem dX2_mostGroups_34 : decode cX2_mostGroups 34 = .ok (.if_icmp .ge 15, 3) := by decide +kernel
theorem dX2_mostGroups_37 : decode cX2_mostGroups 37 = .ok (.iload_n 3, 1) := by decide +kernel
theorem dX2_mostGroups_38 : decode cX2_mostGroups 38 = .ok (.aload_n 0, 1) := by decide +kernel
theorem dX2_mostGroups_39 : decode cX2_mostGroups 39 = .ok (.getfield 15, 3) := by decide +kernel
theorem dX2_mostGroups_42 : decode cX2_mostGroups 42 = .ok (.iload 5, 2) := by decide +kernel
theorem dX2_mostGroups_44 : decode cX2_mostGroups 44 = .ok (.iaload, 1) := by decide +kernel
theorem dX2_mostGroups_45 : decode cX2_mostGroups 45 = .ok (.invokestatic 26, 3) := by decide +kernel
theorem dX2_mostGroups_48 : decode cX2_mostGroups 48 = .ok (.istore_n 3, 1) := by decide +kernel
theorem dX2_mostGroups_49 : decode cX2_mostGroups 49 = .ok (.iload 5, 2) := by decide +kernel
theorem dX2_mostGroups_51 : decode cX2_mostGroups 51 = .ok (.iload_n 1, 1) := by decide +kernel
theorem dX2_mostGroups_52 : decode cX2_mostGroups 52 = .ok (.if_icmp .ge 13, 3) := by decide +kernel
theorem dX2_mostGroups_55 : decode cX2_mostGroups 55 = .ok (.iload_n 2, 1) := by decide +kernel
theorem dX2_mostGroups_56 : decode cX2_mostGroups 56 = .ok (.aload_n 0, 1) := by decide +kernel
theorem dX2_mostGroups_57 : decode cX2_mostGroups 57 = .ok (.getfield 9, 3) := by decide +kernel
theorem dX2_mostGroups_60 : decode cX2_mostGroups 60 = .ok (.iload 4, 2) := by decide +kernel
theorem dX2_mostGroups_62 : decode cX2_mostGroups 62 = .ok (.iaload, 1) := by decide +kernel
theorem dX2_mostGroups_63 : decode cX2_mostGroups 63 = .ok (.iadd, 1) := by decide +kernel
theorem dX2_mostGroups_64 : decode cX2_mostGroups 64 = .ok (.istore_n 2, 1) := by decide +kernel
theorem dX2_mostGroups_65 : decode cX2_mostGroups 65 = .ok (.iinc 4 1, 3) := by decide +kernel
theorem dX2_mostGroups_68 : decode cX2_mostGroups 68 = .ok (.goto (-61), 3) := by decide +kernel
theorem dX2_mostGroups_71 : decode cX2_mostGroups 71 = .ok (.iload_n 2, 1) := by decide +kernel
theorem dX2_mostGroups_72 : decode cX2_mostGroups 72 = .ok (.ifCond .ne 9, 3) := by decide +kernel
theorem dX2_mostGroups_75 : decode cX2_mostGroups 75 = .ok (.iload_n 3, 1) := by decide +kernel
theorem dX2_mostGroups_76 : decode cX2_mostGroups 76 = .ok (.iconst 1, 1) := by decide +kernel
theorem dX2_mostGroups_77 : decode cX2_mostGroups 77 = .ok (.iadd, 1) := by decide +kernel
theorem dX2_mostGroups_78 : decode cX2_mostGroups 78 = .ok (.goto 4, 3) := by decide +kernel
theorem dX2_mostGroups_81 : decode cX2_mostGroups 81 = .ok (.iload_n 3, 1) := by decide +kernel
theorem dX2_mostGroups_82 : decode cX2_mostGroups 82 = .ok (.ireturn, 1) := by decide +kernel
theorem dX3_init_0 : decode cX3_init 0 = .ok (.aload_n 0, 1) := by decide +kernel
theorem dX3_init_1 : decode cX3_init 1 = .ok (.invokespecial 3, 3) := by decide +kernel
theorem dX3_init_4 : decode cX3_init 4 = .ok (.aload_n 0, 1) := by decide +kernel
theorem dX3_init_5 : decode cX3_init 5 = .ok (.iconst 0, 1) := by decide +kernel
theorem dX3_init_6 : decode cX3_init 6 = .ok (.iload_n 2, 1) := by decide +kernel
theorem dX3_init_7 : decode cX3_init 7 = .ok (.invokestatic 9, 3) := by decide +kernel
theorem dX3_init_10 : decode cX3_init 10 = .ok (.putfield 15, 3) := by decide +kernel
theorem dX3_init_13 : decode cX3_init 13 = .ok (.aload_n 0, 1) := by decide +kernel
theorem dX3_init_14 : decode cX3_init 14 = .ok (.iload_n 3, 1) := by decide +kernel
theorem dX3_init_15 : decode cX3_init 15 = .ok (.putfield 21, 3) := by decide +kernel
theorem dX3_init_18 : decode cX3_init 18 = .ok (.aload_n 0, 1) := by decide +kernel
theorem dX3_init_19 : decode cX3_init 19 = .ok (.iconst 0, 1) := by decide +kernel
theorem dX3_init_20 : decode cX3_init 20 = .ok (.iload_n 1, 1) := by decide +kernel
theorem dX3_init_21 : decode cX3_init 21 = .ok (.invokestatic 9, 3) := by decide +kernel
theorem dX3_init_24 : decode cX3_init 24 = .ok (.newarray .int, 2) := by decide +kernel
theorem dX3_init_26 : decode cX3_init 26 = .ok (.putfield 24, 3) := by decide +kernel
theorem dX3_init_29 : decode cX3_init 29 = .ok (.aload_n 0, 1) := by decide +kernel
theorem dX3_init_30 : decode cX3_init 30 = .ok (.aload_n 0, 1) := by decide +kernel
theorem dX3_init_31 : decode cX3_init 31 = .ok (.getfield 24, 3) := by decide +kernel
theorem dX3_init_34 : decode cX3_init 34 = .ok (.arraylength, 1) := by decide +kernel
theorem dX3_init_35 : decode cX3_init 35 = .ok (.aload_n 0, 1) := by decide +kernel
theorem dX3_init_36 : decode cX3_init 36 = .ok (.getfield 15, 3) := by decide +kernel
theorem dX3_init_39 : decode cX3_init 39 = .ok (.imul, 1) := by decide +kernel
theorem dX3_init_40 : decode cX3_init 40 = .ok (.newarray .int, 2) := by decide +kernel
theorem dX3_init_42 : decode cX3_init 42 = .ok (.putfield 28, 3) := by decide +kernel
theorem dX3_init_45 : decode cX3_init 45 = .ok (.iconst 0, 1) := by decide +kernel
theorem dX3_init_46 : decode cX3_init 46 = .ok (.istore 4, 2) := by decide +kernel
theorem dX3_init_48 : decode cX3_init 48 = .ok (.iload 4, 2) := by decide +kernel
theorem dX3_init_50 : decode cX3_init 50 = .ok (.aload_n 0, 1) := by decide +kernel
theorem dX3_init_51 : decode cX3_init 51 = .ok (.getfield 24, 3) := by decide +kernel
theorem dX3_init_54 : decode cX3_init 54 = .ok (.arraylength, 1) := by decide +kernel
theorem dX3_init_55 : decode cX3_init 55 = .ok (.if_icmp .ge 17, 3) := by decide +kernel
theorem dX3_init_58 : decode cX3_init 58 = .ok (.aload_n 0, 1) := by decide +kernel
theorem dX3_init_59 : decode cX3_init 59 = .ok (.getfield 24, 3) := by decide +kernel
theorem dX3_init_62 : decode cX3_init 62 = .ok (.iload 4, 2) := by decide +kernel
theorem dX3_init_64 : decode cX3_init 64 = .ok (.iconst (-1), 1) := by decide +kernel
theorem dX3_init_65 : decode cX3_init 65 = .ok (.iastore, 1) := by decide +kernel
theorem dX3_init_66 : decode cX3_init 66 = .ok (.iinc 4 1, 3) := by decide +kernel
theorem dX3_init_69 : decode cX3_init 69 = .ok (.goto (-21), 3) := by decide +kernel
theorem dX3_init_72 : decode cX3_init 72 = .ok (.return_, 1) := by decide +kernel
theorem dX3_knows_0 : decode cX3_knows 0 = .ok (.iload_n 1, 1) := by decide +kernel
theorem dX3_knows_1 : decode cX3_knows 1 = .ok (.ifCond .lt 16, 3) := by decide +kernel
theorem dX3_knows_4 : decode cX3_knows 4 = .ok (.iload_n 1, 1) := by decide +kernel
theorem dX3_knows_5 : decode cX3_knows 5 = .ok (.aload_n 0, 1) := by decide +kernel
theorem dX3_knows_6 : decode cX3_knows 6 = .ok (.getfield 24, 3) := by decide +kernel
theorem dX3_knows_9 : decode cX3_knows 9 = .ok (.arraylength, 1) := by decide +kernel
theorem dX3_knows_10 : decode cX3_knows 10 = .ok (.if_icmp .ge 7, 3) := by decide +kernel
theorem dX3_knows_13 : decode cX3_knows 13 = .ok (.iconst 1, 1) := by decide +kernel
theorem dX3_knows_14 : decode cX3_knows 14 = .ok (.goto 4, 3) := by decide +kernel
theorem dX3_knows_17 : decode cX3_knows 17 = .ok (.iconst 0, 1) := by decide +kernel
theorem dX3_knows_18 : decode cX3_knows 18 = .ok (.ireturn, 1) := by decide +kernel
theorem dX3_sizeOf_0 : decode cX3_sizeOf 0 = .ok (.aload_n 0, 1) := by decide +kernel
theorem dX3_sizeOf_1 : decode cX3_sizeOf 1 = .ok (.iload_n 1, 1) := by decide +kernel
theorem dX3_sizeOf_2 : decode cX3_sizeOf 2 = .ok (.invokevirtual 31, 3) := by decide +kernel
theorem dX3_sizeOf_5 : decode cX3_sizeOf 5 = .ok (.ifCond .eq 12, 3) := by decide +kernel
theorem dX3_sizeOf_8 : decode cX3_sizeOf 8 = .ok (.aload_n 0, 1) := by decide +kernel
theorem dX3_sizeOf_9 : decode cX3_sizeOf 9 = .ok (.getfield 24, 3) := by decide +kernel
theorem dX3_sizeOf_12 : decode cX3_sizeOf 12 = .ok (.iload_n 1, 1) := by decide +kernel
theorem dX3_sizeOf_13 : decode cX3_sizeOf 13 = .ok (.iaload, 1) := by decide +kernel
theorem dX3_sizeOf_14 : decode cX3_sizeOf 14 = .ok (.goto 4, 3) := by decide +kernel
theorem dX3_sizeOf_17 : decode cX3_sizeOf 17 = .ok (.iconst (-1), 1) := by decide +kernel
theorem dX3_sizeOf_18 : decode cX3_sizeOf 18 = .ok (.ireturn, 1) := by decide +kernel
theorem dX3_isThere_0 : decode cX3_isThere 0 = .ok (.aload_n 0, 1) := by decide +kernel
theorem dX3_isThere_1 : decode cX3_isThere 1 = .ok (.iload_n 1, 1) := by decide +kernel
theorem dX3_isThere_2 : decode cX3_isThere 2 = .ok (.invokevirtual 35, 3) := by decide +kernel
theorem dX3_isThere_5 : decode cX3_isThere 5 = .ok (.ifCond .lt 7, 3) := by decide +kernel
theorem dX3_isThere_8 : decode cX3_isThere 8 = .ok (.iconst 1, 1) := by decide +kernel
theorem dX3_isThere_9 : decode cX3_isThere 9 = .ok (.goto 4, 3) := by decide +kernel
theorem dX3_isThere_12 : decode cX3_isThere 12 = .ok (.iconst 0, 1) := by decide +kernel
theorem dX3_isThere_13 : decode cX3_isThere 13 = .ok (.ireturn, 1) := by decide +kernel
theorem dX3_has_0 : decode cX3_has 0 = .ok (.iload_n 2, 1) := by decide +kernel
theorem dX3_has_1 : decode cX3_has 1 = .ok (.ifCond .lt 16, 3) := by decide +kernel
theorem dX3_has_4 : decode cX3_has 4 = .ok (.iload_n 2, 1) := by decide +kernel
theorem dX3_has_5 : decode cX3_has 5 = .ok (.aload_n 0, 1) := by decide +kernel
theorem dX3_has_6 : decode cX3_has 6 = .ok (.iload_n 1, 1) := by decide +kernel
theorem dX3_has_7 : decode cX3_has 7 = .ok (.invokevirtual 35, 3) := by decide +kernel
theorem dX3_has_10 : decode cX3_has 10 = .ok (.if_icmp .ge 7, 3) := by decide +kernel
theorem dX3_has_13 : decode cX3_has 13 = .ok (.iconst 1, 1) := by decide +kernel
theorem dX3_has_14 : decode cX3_has 14 = .ok (.goto 4, 3) := by decide +kernel
theorem dX3_has_17 : decode cX3_has 17 = .ok (.iconst 0, 1) := by decide +kernel
theorem dX3_has_18 : decode cX3_has 18 = .ok (.ireturn, 1) := by decide +kernel
theorem dX3_hasSpan_0 : decode cX3_hasSpan 0 = .ok (.aload_n 0, 1) := by decide +kernel
theorem dX3_hasSpan_1 : decode cX3_hasSpan 1 = .ok (.iload_n 1, 1) := by decide +kernel
theorem dX3_hasSpan_2 : decode cX3_hasSpan 2 = .ok (.invokevirtual 35, 3) := by decide +kernel
theorem dX3_hasSpan_5 : decode cX3_hasSpan 5 = .ok (.istore 4, 2) := by decide +kernel
theorem dX3_hasSpan_7 : decode cX3_hasSpan 7 = .ok (.iload_n 2, 1) := by decide +kernel
theorem dX3_hasSpan_8 : decode cX3_hasSpan 8 = .ok (.ifCond .lt 25, 3) := by decide +kernel
theorem dX3_hasSpan_11 : decode cX3_hasSpan 11 = .ok (.iload_n 3, 1) := by decide +kernel
theorem dX3_hasSpan_12 : decode cX3_hasSpan 12 = .ok (.ifCond .lt 21, 3) := by decide +kernel
theorem dX3_hasSpan_15 : decode cX3_hasSpan 15 = .ok (.iload_n 2, 1) := by decide +kernel
theorem dX3_hasSpan_16 : decode cX3_hasSpan 16 = .ok (.iload 4, 2) := by decide +kernel
theorem dX3_hasSpan_18 : decode cX3_hasSpan 18 = .ok (.if_icmp .gt 15, 3) := by decide +kernel
theorem dX3_hasSpan_21 : decode cX3_hasSpan 21 = .ok (.iload_n 3, 1) := by decide +kernel
theorem dX3_hasSpan_22 : decode cX3_hasSpan 22 = .ok (.iload 4, 2) := by decide +kernel
theorem dX3_hasSpan_24 : decode cX3_hasSpan 24 = .ok (.iload_n 2, 1) := by decide +kernel
theorem dX3_hasSpan_25 : decode cX3_hasSpan 25 = .ok (.isub, 1) := by decide +kernel
theorem dX3_hasSpan_26 : decode cX3_hasSpan 26 = .ok (.if_icmp .gt 7, 3) := by decide +kernel
theorem dX3_hasSpan_29 : decode cX3_hasSpan 29 = .ok (.iconst 1, 1) := by decide +kernel
theorem dX3_hasSpan_30 : decode cX3_hasSpan 30 = .ok (.goto 4, 3) := by decide +kernel
theorem dX3_hasSpan_33 : decode cX3_hasSpan 33 = .ok (.iconst 0, 1) := by decide +kernel
theorem dX3_hasSpan_34 : decode cX3_hasSpan 34 = .ok (.ireturn, 1) := by decide +kernel
theorem dX3_get_0 : decode cX3_get 0 = .ok (.aload_n 0, 1) := by decide +kernel
theorem dX3_get_1 : decode cX3_get 1 = .ok (.iload_n 1, 1) := by decide +kernel
theorem dX3_get_2 : decode cX3_get 2 = .ok (.iload_n 2, 1) := by decide +kernel
theorem dX3_get_3 : decode cX3_get 3 = .ok (.invokevirtual 39, 3) := by decide +kernel
theorem dX3_get_6 : decode cX3_get 6 = .ok (.ifCond .eq 19, 3) := by decide +kernel
theorem dX3_get_9 : decode cX3_get 9 = .ok (.aload_n 0, 1) := by decide +kernel
theorem dX3_get_10 : decode cX3_get 10 = .ok (.getfield 28, 3) := by decide +kernel
theorem dX3_get_13 : decode cX3_get 13 = .ok (.iload_n 1, 1) := by decide +kernel
theorem dX3_get_14 : decode cX3_get 14 = .ok (.aload_n 0, 1) := by decide +kernel
theorem dX3_get_15 : decode cX3_get 15 = .ok (.getfield 15, 3) := by decide +kernel
theorem dX3_get_18 : decode cX3_get 18 = .ok (.imul, 1) := by decide +kernel
theorem dX3_get_19 : decode cX3_get 19 = .ok (.iload_n 2, 1) := by decide +kernel
theorem dX3_get_20 : decode cX3_get 20 = .ok (.iadd, 1) := by decide +kernel
theorem dX3_get_21 : decode cX3_get 21 = .ok (.iaload, 1) := by decide +kernel
theorem dX3_get_22 : decode cX3_get 22 = .ok (.goto 7, 3) := by decide +kernel
theorem dX3_get_25 : decode cX3_get 25 = .ok (.aload_n 0, 1) := by decide +kernel
theorem dX3_get_26 : decode cX3_get 26 = .ok (.getfield 21, 3) := by decide +kernel
theorem dX3_get_29 : decode cX3_get 29 = .ok (.ireturn, 1) := by decide +kernel
theorem dX3_set_0 : decode cX3_set 0 = .ok (.aload_n 0, 1) := by decide +kernel
theorem dX3_set_1 : decode cX3_set 1 = .ok (.iload_n 1, 1) := by decide +kernel
theorem dX3_set_2 : decode cX3_set 2 = .ok (.iload_n 2, 1) := by decide +kernel
theorem dX3_set_3 : decode cX3_set 3 = .ok (.invokevirtual 39, 3) := by decide +kernel
theorem dX3_set_6 : decode cX3_set 6 = .ok (.ifCond .eq 17, 3) := by decide +kernel
theorem dX3_set_9 : decode cX3_set 9 = .ok (.aload_n 0, 1) := by decide +kernel
theorem dX3_set_10 : decode cX3_set 10 = .ok (.getfield 28, 3) := by decide +kernel
theorem dX3_set_13 : decode cX3_set 13 = .ok (.iload_n 1, 1) := by decide +kernel
theorem dX3_set_14 : decode cX3_set 14 = .ok (.aload_n 0, 1) := by decide +kernel
theorem dX3_set_15 : decode cX3_set 15 = .ok (.getfield 15, 3) := by decide +kernel
theorem dX3_set_18 : decode cX3_set 18 = .ok (.imul, 1) := by decide +kernel
theorem dX3_set_19 : decode cX3_set 19 = .ok (.iload_n 2, 1) := by decide +kernel
theorem dX3_set_20 : decode cX3_set 20 = .ok (.iadd, 1) := by decide +kernel
theorem dX3_set_21 : decode cX3_set 21 = .ok (.iload_n 3, 1) := by decide +kernel
theorem dX3_set_22 : decode cX3_set 22 = .ok (.iastore, 1) := by decide +kernel
theorem dX3_set_23 : decode cX3_set 23 = .ok (.return_, 1) := by decide +kernel
theorem dX3_make_0 : decode cX3_make 0 = .ok (.aload_n 0, 1) := by decide +kernel
theorem dX3_make_1 : decode cX3_make 1 = .ok (.iload_n 1, 1) := by decide +kernel
theorem dX3_make_2 : decode cX3_make 2 = .ok (.invokevirtual 31, 3) := by decide +kernel
theorem dX3_make_5 : decode cX3_make 5 = .ok (.ifCond .eq 15, 3) := by decide +kernel
theorem dX3_make_8 : decode cX3_make 8 = .ok (.iload_n 2, 1) := by decide +kernel
theorem dX3_make_9 : decode cX3_make 9 = .ok (.ifCond .lt 11, 3) := by decide +kernel
theorem dX3_make_12 : decode cX3_make 12 = .ok (.iload_n 2, 1) := by decide +kernel
theorem dX3_make_13 : decode cX3_make 13 = .ok (.aload_n 0, 1) := by decide +kernel
theorem dX3_make_14 : decode cX3_make 14 = .ok (.getfield 15, 3) := by decide +kernel
theorem dX3_make_17 : decode cX3_make 17 = .ok (.if_icmp .le 4, 3) := by decide +kernel
theorem dX3_make_20 : decode cX3_make 20 = .ok (.return_, 1) := by decide +kernel
theorem dX3_make_21 : decode cX3_make 21 = .ok (.aload_n 0, 1) := by decide +kernel
theorem dX3_make_22 : decode cX3_make 22 = .ok (.getfield 24, 3) := by decide +kernel
theorem dX3_make_25 : decode cX3_make 25 = .ok (.iload_n 1, 1) := by decide +kernel
theorem dX3_make_26 : decode cX3_make 26 = .ok (.iload_n 2, 1) := by decide +kernel
theorem dX3_make_27 : decode cX3_make 27 = .ok (.iastore, 1) := by decide +kernel
theorem dX3_make_28 : decode cX3_make 28 = .ok (.iconst 0, 1) := by decide +kernel
theorem dX3_make_29 : decode cX3_make 29 = .ok (.istore_n 3, 1) := by decide +kernel
theorem dX3_make_30 : decode cX3_make 30 = .ok (.iload_n 3, 1) := by decide +kernel
theorem dX3_make_31 : decode cX3_make 31 = .ok (.iload_n 2, 1) := by decide +kernel
theorem dX3_make_32 : decode cX3_make 32 = .ok (.if_icmp .ge 19, 3) := by decide +kernel
theorem dX3_make_35 : decode cX3_make 35 = .ok (.aload_n 0, 1) := by decide +kernel
theorem dX3_make_36 : decode cX3_make 36 = .ok (.iload_n 1, 1) := by decide +kernel
theorem dX3_make_37 : decode cX3_make 37 = .ok (.iload_n 3, 1) := by decide +kernel
theorem dX3_make_38 : decode cX3_make 38 = .ok (.aload_n 0, 1) := by decide +kernel
theorem dX3_make_39 : decode cX3_make 39 = .ok (.getfield 21, 3) := by decide +kernel
theorem dX3_make_42 : decode cX3_make 42 = .ok (.invokevirtual 43, 3) := by decide +kernel
theorem dX3_make_45 : decode cX3_make 45 = .ok (.iinc 3 1, 3) := by decide +kernel
theorem dX3_make_48 : decode cX3_make 48 = .ok (.goto (-18), 3) := by decide +kernel
theorem dX3_make_51 : decode cX3_make 51 = .ok (.return_, 1) := by decide +kernel
theorem dX3_drop_0 : decode cX3_drop 0 = .ok (.aload_n 0, 1) := by decide +kernel
theorem dX3_drop_1 : decode cX3_drop 1 = .ok (.iload_n 1, 1) := by decide +kernel
theorem dX3_drop_2 : decode cX3_drop 2 = .ok (.invokevirtual 31, 3) := by decide +kernel
theorem dX3_drop_5 : decode cX3_drop 5 = .ok (.ifCond .eq 10, 3) := by decide +kernel
theorem dX3_drop_8 : decode cX3_drop 8 = .ok (.aload_n 0, 1) := by decide +kernel
theorem dX3_drop_9 : decode cX3_drop 9 = .ok (.getfield 24, 3) := by decide +kernel
theorem dX3_drop_12 : decode cX3_drop 12 = .ok (.iload_n 1, 1) := by decide +kernel
theorem dX3_drop_13 : decode cX3_drop 13 = .ok (.iconst (-1), 1) := by decide +kernel
theorem dX3_drop_14 : decode cX3_drop 14 = .ok (.iastore, 1) := by decide +kernel
theorem dX3_drop_15 : decode cX3_drop 15 = .ok (.return_, 1) := by decide +kernel
theorem dX3_move_0 : decode cX3_move 0 = .ok (.aload_n 0, 1) := by decide +kernel
theorem dX3_move_1 : decode cX3_move 1 = .ok (.iload_n 1, 1) := by decide +kernel
theorem dX3_move_2 : decode cX3_move 2 = .ok (.iload_n 2, 1) := by decide +kernel
theorem dX3_move_3 : decode cX3_move 3 = .ok (.iload 5, 2) := by decide +kernel
theorem dX3_move_5 : decode cX3_move 5 = .ok (.invokevirtual 47, 3) := by decide +kernel
theorem dX3_move_8 : decode cX3_move 8 = .ok (.ifCond .eq 45, 3) := by decide +kernel
theorem dX3_move_11 : decode cX3_move 11 = .ok (.aload_n 0, 1) := by decide +kernel
theorem dX3_move_12 : decode cX3_move 12 = .ok (.iload_n 3, 1) := by decide +kernel
theorem dX3_move_13 : decode cX3_move 13 = .ok (.iload 4, 2) := by decide +kernel
theorem dX3_move_15 : decode cX3_move 15 = .ok (.iload 5, 2) := by decide +kernel
theorem dX3_move_17 : decode cX3_move 17 = .ok (.invokevirtual 47, 3) := by decide +kernel
theorem dX3_move_20 : decode cX3_move 20 = .ok (.ifCond .eq 33, 3) := by decide +kernel
theorem dX3_move_23 : decode cX3_move 23 = .ok (.aload_n 0, 1) := by decide +kernel
theorem dX3_move_24 : decode cX3_move 24 = .ok (.getfield 28, 3) := by decide +kernel
theorem dX3_move_27 : decode cX3_move 27 = .ok (.iload_n 1, 1) := by decide +kernel
theorem dX3_move_28 : decode cX3_move 28 = .ok (.aload_n 0, 1) := by decide +kernel
theorem dX3_move_29 : decode cX3_move 29 = .ok (.getfield 15, 3) := by decide +kernel
theorem dX3_move_32 : decode cX3_move 32 = .ok (.imul, 1) := by decide +kernel
theorem dX3_move_33 : decode cX3_move 33 = .ok (.iload_n 2, 1) := by decide +kernel
theorem dX3_move_34 : decode cX3_move 34 = .ok (.iadd, 1) := by decide +kernel
theorem dX3_move_35 : decode cX3_move 35 = .ok (.aload_n 0, 1) := by decide +kernel
theorem dX3_move_36 : decode cX3_move 36 = .ok (.getfield 28, 3) := by decide +kernel
theorem dX3_move_39 : decode cX3_move 39 = .ok (.iload_n 3, 1) := by decide +kernel
theorem dX3_move_40 : decode cX3_move 40 = .ok (.aload_n 0, 1) := by decide +kernel
theorem dX3_move_41 : decode cX3_move 41 = .ok (.getfield 15, 3) := by decide +kernel
theorem dX3_move_44 : decode cX3_move 44 = .ok (.imul, 1) := by decide +kernel
theorem dX3_move_45 : decode cX3_move 45 = .ok (.iload 4, 2) := by decide +kernel
theorem dX3_move_47 : decode cX3_move 47 = .ok (.iadd, 1) := by decide +kernel
theorem dX3_move_48 : decode cX3_move 48 = .ok (.iload 5, 2) := by decide +kernel
theorem dX3_move_50 : decode cX3_move 50 = .ok (.invokestatic 51, 3) := by decide +kernel
theorem dX3_move_53 : decode cX3_move 53 = .ok (.return_, 1) := by decide +kernel
theorem dX3_sumOf_0 : decode cX3_sumOf 0 = .ok (.lconst 0, 1) := by decide +kernel
theorem dX3_sumOf_1 : decode cX3_sumOf 1 = .ok (.lstore_n 2, 1) := by decide +kernel
theorem dX3_sumOf_2 : decode cX3_sumOf 2 = .ok (.iconst 0, 1) := by decide +kernel
theorem dX3_sumOf_3 : decode cX3_sumOf 3 = .ok (.istore 4, 2) := by decide +kernel
theorem dX3_sumOf_5 : decode cX3_sumOf 5 = .ok (.iload 4, 2) := by decide +kernel
theorem dX3_sumOf_7 : decode cX3_sumOf 7 = .ok (.aload_n 0, 1) := by decide +kernel
theorem dX3_sumOf_8 : decode cX3_sumOf 8 = .ok (.iload_n 1, 1) := by decide +kernel
theorem dX3_sumOf_9 : decode cX3_sumOf 9 = .ok (.invokevirtual 35, 3) := by decide +kernel
theorem dX3_sumOf_12 : decode cX3_sumOf 12 = .ok (.if_icmp .ge 20, 3) := by decide +kernel
theorem dX3_sumOf_15 : decode cX3_sumOf 15 = .ok (.lload_n 2, 1) := by decide +kernel
theorem dX3_sumOf_16 : decode cX3_sumOf 16 = .ok (.aload_n 0, 1) := by decide +kernel
theorem dX3_sumOf_17 : decode cX3_sumOf 17 = .ok (.iload_n 1, 1) := by decide +kernel
theorem dX3_sumOf_18 : decode cX3_sumOf 18 = .ok (.iload 4, 2) := by decide +kernel
theorem dX3_sumOf_20 : decode cX3_sumOf 20 = .ok (.invokevirtual 57, 3) := by decide +kernel
theorem dX3_sumOf_23 : decode cX3_sumOf 23 = .ok (.i2l, 1) := by decide +kernel
theorem dX3_sumOf_24 : decode cX3_sumOf 24 = .ok (.ladd, 1) := by decide +kernel
theorem dX3_sumOf_25 : decode cX3_sumOf 25 = .ok (.lstore_n 2, 1) := by decide +kernel
theorem dX3_sumOf_26 : decode cX3_sumOf 26 = .ok (.iinc 4 1, 3) := by decide +kernel
theorem dX3_sumOf_29 : decode cX3_sumOf 29 = .ok (.goto (-24), 3) := by decide +kernel
theorem dX3_sumOf_32 : decode cX3_sumOf 32 = .ok (.lload_n 2, 1) := by decide +kernel
theorem dX3_sumOf_33 : decode cX3_sumOf 33 = .ok (.lreturn, 1) := by decide +kernel
theorem dX3_thereCount_0 : decode cX3_thereCount 0 = .ok (.iconst 0, 1) := by decide +kernel
theorem dX3_thereCount_1 : decode cX3_thereCount 1 = .ok (.istore_n 1, 1) := by decide +kernel
theorem dX3_thereCount_2 : decode cX3_thereCount 2 = .ok (.iconst 0, 1) := by decide +kernel
theorem dX3_thereCount_3 : decode cX3_thereCount 3 = .ok (.istore_n 2, 1) := by decide +kernel
theorem dX3_thereCount_4 : decode cX3_thereCount 4 = .ok (.iload_n 2, 1) := by decide +kernel
theorem dX3_thereCount_5 : decode cX3_thereCount 5 = .ok (.aload_n 0, 1) := by decide +kernel
theorem dX3_thereCount_6 : decode cX3_thereCount 6 = .ok (.getfield 24, 3) := by decide +kernel
theorem dX3_thereCount_9 : decode cX3_thereCount 9 = .ok (.arraylength, 1) := by decide +kernel
theorem dX3_thereCount_10 : decode cX3_thereCount 10 = .ok (.if_icmp .ge 20, 3) := by decide +kernel
theorem dX3_thereCount_13 : decode cX3_thereCount 13 = .ok (.aload_n 0, 1) := by decide +kernel
theorem dX3_thereCount_14 : decode cX3_thereCount 14 = .ok (.iload_n 2, 1) := by decide +kernel
theorem dX3_thereCount_15 : decode cX3_thereCount 15 = .ok (.invokevirtual 60, 3) := by decide +kernel
theorem dX3_thereCount_18 : decode cX3_thereCount 18 = .ok (.ifCond .eq 6, 3) := by decide +kernel
theorem dX3_thereCount_21 : decode cX3_thereCount 21 = .ok (.iinc 1 1, 3) := by decide +kernel
theorem dX3_thereCount_24 : decode cX3_thereCount 24 = .ok (.iinc 2 1, 3) := by decide +kernel
theorem dX3_thereCount_27 : decode cX3_thereCount 27 = .ok (.goto (-23), 3) := by decide +kernel
theorem dX3_thereCount_30 : decode cX3_thereCount 30 = .ok (.iload_n 1, 1) := by decide +kernel
theorem dX3_thereCount_31 : decode cX3_thereCount 31 = .ok (.ireturn, 1) := by decide +kernel
theorem dX3_digestAll_0 : decode cX3_digestAll 0 = .ok (.lload_n 1, 1) := by decide +kernel
theorem dX3_digestAll_1 : decode cX3_digestAll 1 = .ok (.lstore_n 3, 1) := by decide +kernel
theorem dX3_digestAll_2 : decode cX3_digestAll 2 = .ok (.iconst 0, 1) := by decide +kernel
theorem dX3_digestAll_3 : decode cX3_digestAll 3 = .ok (.istore 5, 2) := by decide +kernel
theorem dX3_digestAll_5 : decode cX3_digestAll 5 = .ok (.iload 5, 2) := by decide +kernel
theorem dX3_digestAll_7 : decode cX3_digestAll 7 = .ok (.aload_n 0, 1) := by decide +kernel
theorem dX3_digestAll_8 : decode cX3_digestAll 8 = .ok (.getfield 24, 3) := by decide +kernel
theorem dX3_digestAll_11 : decode cX3_digestAll 11 = .ok (.arraylength, 1) := by decide +kernel
theorem dX3_digestAll_12 : decode cX3_digestAll 12 = .ok (.if_icmp .ge 59, 3) := by decide +kernel
theorem dX3_digestAll_15 : decode cX3_digestAll 15 = .ok (.ldc2_w 63, 3) := by decide +kernel
theorem dX3_digestAll_18 : decode cX3_digestAll 18 = .ok (.lload_n 3, 1) := by decide +kernel
theorem dX3_digestAll_19 : decode cX3_digestAll 19 = .ok (.lmul, 1) := by decide +kernel
theorem dX3_digestAll_20 : decode cX3_digestAll 20 = .ok (.aload_n 0, 1) := by decide +kernel
theorem dX3_digestAll_21 : decode cX3_digestAll 21 = .ok (.iload 5, 2) := by decide +kernel
theorem dX3_digestAll_23 : decode cX3_digestAll 23 = .ok (.invokevirtual 35, 3) := by decide +kernel
theorem dX3_digestAll_26 : decode cX3_digestAll 26 = .ok (.i2l, 1) := by decide +kernel
theorem dX3_digestAll_27 : decode cX3_digestAll 27 = .ok (.ladd, 1) := by decide +kernel
theorem dX3_digestAll_28 : decode cX3_digestAll 28 = .ok (.lstore_n 3, 1) := by decide +kernel
theorem dX3_digestAll_29 : decode cX3_digestAll 29 = .ok (.iconst 0, 1) := by decide +kernel
theorem dX3_digestAll_30 : decode cX3_digestAll 30 = .ok (.istore 6, 2) := by decide +kernel
theorem dX3_digestAll_32 : decode cX3_digestAll 32 = .ok (.iload 6, 2) := by decide +kernel
theorem dX3_digestAll_34 : decode cX3_digestAll 34 = .ok (.aload_n 0, 1) := by decide +kernel
theorem dX3_digestAll_35 : decode cX3_digestAll 35 = .ok (.iload 5, 2) := by decide +kernel
theorem dX3_digestAll_37 : decode cX3_digestAll 37 = .ok (.invokevirtual 35, 3) := by decide +kernel
theorem dX3_digestAll_40 : decode cX3_digestAll 40 = .ok (.if_icmp .ge 25, 3) := by decide +kernel
theorem dX3_digestAll_43 : decode cX3_digestAll 43 = .ok (.ldc2_w 63, 3) := by decide +kernel
theorem dX3_digestAll_46 : decode cX3_digestAll 46 = .ok (.lload_n 3, 1) := by decide +kernel
theorem dX3_digestAll_47 : decode cX3_digestAll 47 = .ok (.lmul, 1) := by decide +kernel
theorem dX3_digestAll_48 : decode cX3_digestAll 48 = .ok (.aload_n 0, 1) := by decide +kernel
theorem dX3_digestAll_49 : decode cX3_digestAll 49 = .ok (.iload 5, 2) := by decide +kernel
theorem dX3_digestAll_51 : decode cX3_digestAll 51 = .ok (.iload 6, 2) := by decide +kernel
theorem dX3_digestAll_53 : decode cX3_digestAll 53 = .ok (.invokevirtual 57, 3) := by decide +kernel
theorem dX3_digestAll_56 : decode cX3_digestAll 56 = .ok (.i2l, 1) := by decide +kernel
theorem dX3_digestAll_57 : decode cX3_digestAll 57 = .ok (.ladd, 1) := by decide +kernel
theorem dX3_digestAll_58 : decode cX3_digestAll 58 = .ok (.lstore_n 3, 1) := by decide +kernel
theorem dX3_digestAll_59 : decode cX3_digestAll 59 = .ok (.iinc 6 1, 3) := by decide +kernel
theorem dX3_digestAll_62 : decode cX3_digestAll 62 = .ok (.goto (-30), 3) := by decide +kernel
theorem dX3_digestAll_65 : decode cX3_digestAll 65 = .ok (.iinc 5 1, 3) := by decide +kernel
theorem dX3_digestAll_68 : decode cX3_digestAll 68 = .ok (.goto (-63), 3) := by decide +kernel
theorem dX3_digestAll_71 : decode cX3_digestAll 71 = .ok (.lload_n 3, 1) := by decide +kernel
theorem dX3_digestAll_72 : decode cX3_digestAll 72 = .ok (.lreturn, 1) := by decide +kernel
theorem dX4_init_0 : decode cX4_init 0 = .ok (.aload_n 0, 1) := by decide +kernel
theorem dX4_init_1 : decode cX4_init 1 = .ok (.invokespecial 3, 3) := by decide +kernel
theorem dX4_init_4 : decode cX4_init 4 = .ok (.aload_n 0, 1) := by decide +kernel
theorem dX4_init_5 : decode cX4_init 5 = .ok (.new 9, 3) := by decide +kernel
theorem dX4_init_8 : decode cX4_init 8 = .ok (.dup, 1) := by decide +kernel
theorem dX4_init_9 : decode cX4_init 9 = .ok (.invokespecial 11, 3) := by decide +kernel
theorem dX4_init_12 : decode cX4_init 12 = .ok (.putfield 12, 3) := by decide +kernel
theorem dX4_init_15 : decode cX4_init 15 = .ok (.aload_n 0, 1) := by decide +kernel
theorem dX4_init_16 : decode cX4_init 16 = .ok (.sipush 1200, 3) := by decide +kernel
theorem dX4_init_19 : decode cX4_init 19 = .ok (.newarray .int, 2) := by decide +kernel
theorem dX4_init_21 : decode cX4_init 21 = .ok (.putfield 18, 3) := by decide +kernel
theorem dX4_init_24 : decode cX4_init 24 = .ok (.aload_n 0, 1) := by decide +kernel
theorem dX4_init_25 : decode cX4_init 25 = .ok (.iload_n 1, 1) := by decide +kernel
theorem dX4_init_26 : decode cX4_init 26 = .ok (.putfield 22, 3) := by decide +kernel
theorem dX4_init_29 : decode cX4_init 29 = .ok (.return_, 1) := by decide +kernel
theorem dX4_isThere_0 : decode cX4_isThere 0 = .ok (.aload_n 0, 1) := by decide +kernel
theorem dX4_isThere_1 : decode cX4_isThere 1 = .ok (.getfield 22, 3) := by decide +kernel
theorem dX4_isThere_4 : decode cX4_isThere 4 = .ok (.ifCond .lt 7, 3) := by decide +kernel
theorem dX4_isThere_7 : decode cX4_isThere 7 = .ok (.iconst 1, 1) := by decide +kernel
theorem dX4_isThere_8 : decode cX4_isThere 8 = .ok (.goto 4, 3) := by decide +kernel
theorem dX4_isThere_11 : decode cX4_isThere 11 = .ok (.iconst 0, 1) := by decide +kernel
theorem dX4_isThere_12 : decode cX4_isThere 12 = .ok (.ireturn, 1) := by decide +kernel
theorem dX4_forget_0 : decode cX4_forget 0 = .ok (.aload_n 0, 1) := by decide +kernel
theorem dX4_forget_1 : decode cX4_forget 1 = .ok (.iconst (-1), 1) := by decide +kernel
theorem dX4_forget_2 : decode cX4_forget 2 = .ok (.putfield 22, 3) := by decide +kernel
theorem dX4_forget_5 : decode cX4_forget 5 = .ok (.return_, 1) := by decide +kernel
theorem dX4_startWith_0 : decode cX4_startWith 0 = .ok (.aload_n 0, 1) := by decide +kernel
theorem dX4_startWith_1 : decode cX4_startWith 1 = .ok (.getfield 12, 3) := by decide +kernel
theorem dX4_startWith_4 : decode cX4_startWith 4 = .ok (.aload_n 1, 1) := by decide +kernel
theorem dX4_startWith_5 : decode cX4_startWith 5 = .ok (.invokevirtual 26, 3) := by decide +kernel
theorem dX4_startWith_8 : decode cX4_startWith 8 = .ok (.aload_n 0, 1) := by decide +kernel
theorem dX4_startWith_9 : decode cX4_startWith 9 = .ok (.iconst 0, 1) := by decide +kernel
theorem dX4_startWith_10 : decode cX4_startWith 10 = .ok (.putfield 22, 3) := by decide +kernel
theorem dX4_startWith_13 : decode cX4_startWith 13 = .ok (.return_, 1) := by decide +kernel
theorem dX4_hasRoomFor_0 : decode cX4_hasRoomFor 0 = .ok (.aload_n 0, 1) := by decide +kernel
theorem dX4_hasRoomFor_1 : decode cX4_hasRoomFor 1 = .ok (.getfield 22, 3) := by decide +kernel
theorem dX4_hasRoomFor_4 : decode cX4_hasRoomFor 4 = .ok (.iload_n 1, 1) := by decide +kernel
theorem dX4_hasRoomFor_5 : decode cX4_hasRoomFor 5 = .ok (.iadd, 1) := by decide +kernel
theorem dX4_hasRoomFor_6 : decode cX4_hasRoomFor 6 = .ok (.bipush 40, 2) := by decide +kernel
theorem dX4_hasRoomFor_8 : decode cX4_hasRoomFor 8 = .ok (.if_icmp .gt 7, 3) := by decide +kernel
theorem dX4_hasRoomFor_11 : decode cX4_hasRoomFor 11 = .ok (.iconst 1, 1) := by decide +kernel
theorem dX4_hasRoomFor_12 : decode cX4_hasRoomFor 12 = .ok (.goto 4, 3) := by decide +kernel
theorem dX4_hasRoomFor_15 : decode cX4_hasRoomFor 15 = .ok (.iconst 0, 1) := by decide +kernel
theorem dX4_hasRoomFor_16 : decode cX4_hasRoomFor 16 = .ok (.ireturn, 1) := by decide +kernel
theorem dX4_noteDeed_0 : decode cX4_noteDeed 0 = .ok (.aload_n 0, 1) := by decide +kernel
theorem dX4_noteDeed_1 : decode cX4_noteDeed 1 = .ok (.iconst 1, 1) := by decide +kernel
theorem dX4_noteDeed_2 : decode cX4_noteDeed 2 = .ok (.invokevirtual 30, 3) := by decide +kernel
theorem dX4_noteDeed_5 : decode cX4_noteDeed 5 = .ok (.ifCond .eq 31, 3) := by decide +kernel
theorem dX4_noteDeed_8 : decode cX4_noteDeed 8 = .ok (.aload_n 0, 1) := by decide +kernel
theorem dX4_noteDeed_9 : decode cX4_noteDeed 9 = .ok (.getfield 12, 3) := by decide +kernel
theorem dX4_noteDeed_12 : decode cX4_noteDeed 12 = .ok (.aload_n 0, 1) := by decide +kernel
theorem dX4_noteDeed_13 : decode cX4_noteDeed 13 = .ok (.getfield 18, 3) := by decide +kernel
theorem dX4_noteDeed_16 : decode cX4_noteDeed 16 = .ok (.aload_n 0, 1) := by decide +kernel
theorem dX4_noteDeed_17 : decode cX4_noteDeed 17 = .ok (.getfield 22, 3) := by decide +kernel
theorem dX4_noteDeed_20 : decode cX4_noteDeed 20 = .ok (.bipush 30, 2) := by decide +kernel
theorem dX4_noteDeed_22 : decode cX4_noteDeed 22 = .ok (.imul, 1) := by decide +kernel
theorem dX4_noteDeed_23 : decode cX4_noteDeed 23 = .ok (.invokevirtual 34, 3) := by decide +kernel
theorem dX4_noteDeed_26 : decode cX4_noteDeed 26 = .ok (.aload_n 0, 1) := by decide +kernel
theorem dX4_noteDeed_27 : decode cX4_noteDeed 27 = .ok (.dup, 1) := by decide +kernel
theorem dX4_noteDeed_28 : decode cX4_noteDeed 28 = .ok (.getfield 22, 3) := by decide +kernel
theorem dX4_noteDeed_31 : decode cX4_noteDeed 31 = .ok (.iconst 1, 1) := by decide +kernel
theorem dX4_noteDeed_32 : decode cX4_noteDeed 32 = .ok (.iadd, 1) := by decide +kernel
theorem dX4_noteDeed_33 : decode cX4_noteDeed 33 = .ok (.putfield 22, 3) := by decide +kernel
theorem dX4_noteDeed_36 : decode cX4_noteDeed 36 = .ok (.return_, 1) := by decide +kernel
theorem dX4_goBackTo_0 : decode cX4_goBackTo 0 = .ok (.iload_n 1, 1) := by decide +kernel
theorem dX4_goBackTo_1 : decode cX4_goBackTo 1 = .ok (.ifCond .lt 31, 3) := by decide +kernel
theorem dX4_goBackTo_4 : decode cX4_goBackTo 4 = .ok (.iload_n 1, 1) := by decide +kernel
theorem dX4_goBackTo_5 : decode cX4_goBackTo 5 = .ok (.aload_n 0, 1) := by decide +kernel
theorem dX4_goBackTo_6 : decode cX4_goBackTo 6 = .ok (.getfield 22, 3) := by decide +kernel
theorem dX4_goBackTo_9 : decode cX4_goBackTo 9 = .ok (.if_icmp .ge 23, 3) := by decide +kernel
theorem dX4_goBackTo_12 : decode cX4_goBackTo 12 = .ok (.aload_n 0, 1) := by decide +kernel
theorem dX4_goBackTo_13 : decode cX4_goBackTo 13 = .ok (.getfield 12, 3) := by decide +kernel
theorem dX4_goBackTo_16 : decode cX4_goBackTo 16 = .ok (.aload_n 0, 1) := by decide +kernel
theorem dX4_goBackTo_17 : decode cX4_goBackTo 17 = .ok (.getfield 18, 3) := by decide +kernel
theorem dX4_goBackTo_20 : decode cX4_goBackTo 20 = .ok (.iload_n 1, 1) := by decide +kernel
theorem dX4_goBackTo_21 : decode cX4_goBackTo 21 = .ok (.bipush 30, 2) := by decide +kernel
theorem dX4_goBackTo_23 : decode cX4_goBackTo 23 = .ok (.imul, 1) := by decide +kernel
theorem dX4_goBackTo_24 : decode cX4_goBackTo 24 = .ok (.invokevirtual 38, 3) := by decide +kernel
theorem dX4_goBackTo_27 : decode cX4_goBackTo 27 = .ok (.aload_n 0, 1) := by decide +kernel
theorem dX4_goBackTo_28 : decode cX4_goBackTo 28 = .ok (.iload_n 1, 1) := by decide +kernel
theorem dX4_goBackTo_29 : decode cX4_goBackTo 29 = .ok (.putfield 22, 3) := by decide +kernel
theorem dX4_goBackTo_32 : decode cX4_goBackTo 32 = .ok (.return_, 1) := by decide +kernel
theorem dX4_takeFrom_0 : decode cX4_takeFrom 0 = .ok (.aload_n 0, 1) := by decide +kernel
theorem dX4_takeFrom_1 : decode cX4_takeFrom 1 = .ok (.getfield 12, 3) := by decide +kernel
theorem dX4_takeFrom_4 : decode cX4_takeFrom 4 = .ok (.aload_n 1, 1) := by decide +kernel
theorem dX4_takeFrom_5 : decode cX4_takeFrom 5 = .ok (.getfield 12, 3) := by decide +kernel
theorem dX4_takeFrom_8 : decode cX4_takeFrom 8 = .ok (.invokevirtual 26, 3) := by decide +kernel
theorem dX4_takeFrom_11 : decode cX4_takeFrom 11 = .ok (.aload_n 0, 1) := by decide +kernel
theorem dX4_takeFrom_12 : decode cX4_takeFrom 12 = .ok (.aload_n 1, 1) := by decide +kernel
theorem dX4_takeFrom_13 : decode cX4_takeFrom 13 = .ok (.getfield 22, 3) := by decide +kernel
theorem dX4_takeFrom_16 : decode cX4_takeFrom 16 = .ok (.putfield 22, 3) := by decide +kernel
theorem dX4_takeFrom_19 : decode cX4_takeFrom 19 = .ok (.aload_n 1, 1) := by decide +kernel
theorem dX4_takeFrom_20 : decode cX4_takeFrom 20 = .ok (.getfield 18, 3) := by decide +kernel
theorem dX4_takeFrom_23 : decode cX4_takeFrom 23 = .ok (.iconst 0, 1) := by decide +kernel
theorem dX4_takeFrom_24 : decode cX4_takeFrom 24 = .ok (.aload_n 0, 1) := by decide +kernel
theorem dX4_takeFrom_25 : decode cX4_takeFrom 25 = .ok (.getfield 18, 3) := by decide +kernel
theorem dX4_takeFrom_28 : decode cX4_takeFrom 28 = .ok (.iconst 0, 1) := by decide +kernel
theorem dX4_takeFrom_29 : decode cX4_takeFrom 29 = .ok (.aload_n 0, 1) := by decide +kernel
theorem dX4_takeFrom_30 : decode cX4_takeFrom 30 = .ok (.getfield 18, 3) := by decide +kernel
theorem dX4_takeFrom_33 : decode cX4_takeFrom 33 = .ok (.arraylength, 1) := by decide +kernel
theorem dX4_takeFrom_34 : decode cX4_takeFrom 34 = .ok (.invokestatic 41, 3) := by decide +kernel
theorem dX4_takeFrom_37 : decode cX4_takeFrom 37 = .ok (.return_, 1) := by decide +kernel
theorem dX5_init_0 : decode cX5_init 0 = .ok (.aload_n 0, 1) := by decide +kernel
theorem dX5_init_1 : decode cX5_init 1 = .ok (.invokespecial 3, 3) := by decide +kernel
theorem dX5_init_4 : decode cX5_init 4 = .ok (.aload_n 0, 1) := by decide +kernel
theorem dX5_init_5 : decode cX5_init 5 = .ok (.new 9, 3) := by decide +kernel
theorem dX5_init_8 : decode cX5_init 8 = .ok (.dup, 1) := by decide +kernel
theorem dX5_init_9 : decode cX5_init 9 = .ok (.bipush 6, 2) := by decide +kernel
theorem dX5_init_11 : decode cX5_init 11 = .ok (.bipush 40, 2) := by decide +kernel
theorem dX5_init_13 : decode cX5_init 13 = .ok (.iconst 0, 1) := by decide +kernel
theorem dX5_init_14 : decode cX5_init 14 = .ok (.invokespecial 11, 3) := by decide +kernel
theorem dX5_init_17 : decode cX5_init 17 = .ok (.putfield 14, 3) := by decide +kernel
theorem dX5_init_20 : decode cX5_init 20 = .ok (.aload_n 0, 1) := by decide +kernel
theorem dX5_init_21 : decode cX5_init 21 = .ok (.new 9, 3) := by decide +kernel
theorem dX5_init_24 : decode cX5_init 24 = .ok (.dup, 1) := by decide +kernel
theorem dX5_init_25 : decode cX5_init 25 = .ok (.iconst 4, 1) := by decide +kernel
theorem dX5_init_26 : decode cX5_init 26 = .ok (.bipush 60, 2) := by decide +kernel
theorem dX5_init_28 : decode cX5_init 28 = .ok (.bipush 32, 2) := by decide +kernel
theorem dX5_init_30 : decode cX5_init 30 = .ok (.invokespecial 11, 3) := by decide +kernel
theorem dX5_init_33 : decode cX5_init 33 = .ok (.putfield 18, 3) := by decide +kernel
theorem dX5_init_36 : decode cX5_init 36 = .ok (.aload_n 0, 1) := by decide +kernel
theorem dX5_init_37 : decode cX5_init 37 = .ok (.new 21, 3) := by decide +kernel
theorem dX5_init_40 : decode cX5_init 40 = .ok (.dup, 1) := by decide +kernel
theorem dX5_init_41 : decode cX5_init 41 = .ok (.iconst 0, 1) := by decide +kernel
theorem dX5_init_42 : decode cX5_init 42 = .ok (.invokespecial 23, 3) := by decide +kernel
theorem dX5_init_45 : decode cX5_init 45 = .ok (.putfield 26, 3) := by decide +kernel
theorem dX5_init_48 : decode cX5_init 48 = .ok (.aload_n 0, 1) := by decide +kernel
theorem dX5_init_49 : decode cX5_init 49 = .ok (.iconst 3, 1) := by decide +kernel
theorem dX5_init_50 : decode cX5_init 50 = .ok (.anewarray 21, 3) := by decide +kernel
theorem dX5_init_53 : decode cX5_init 53 = .ok (.putfield 30, 3) := by decide +kernel
theorem dX5_init_56 : decode cX5_init 56 = .ok (.aload_n 0, 1) := by decide +kernel
theorem dX5_init_57 : decode cX5_init 57 = .ok (.new 34, 3) := by decide +kernel
theorem dX5_init_60 : decode cX5_init 60 = .ok (.dup, 1) := by decide +kernel
theorem dX5_init_61 : decode cX5_init 61 = .ok (.invokespecial 36, 3) := by decide +kernel
theorem dX5_init_64 : decode cX5_init 64 = .ok (.putfield 37, 3) := by decide +kernel
theorem dX5_init_67 : decode cX5_init 67 = .ok (.aload_n 0, 1) := by decide +kernel
theorem dX5_init_68 : decode cX5_init 68 = .ok (.new 41, 3) := by decide +kernel
theorem dX5_init_71 : decode cX5_init 71 = .ok (.dup, 1) := by decide +kernel
theorem dX5_init_72 : decode cX5_init 72 = .ok (.invokespecial 43, 3) := by decide +kernel
theorem dX5_init_75 : decode cX5_init 75 = .ok (.putfield 44, 3) := by decide +kernel
theorem dX5_init_78 : decode cX5_init 78 = .ok (.aload_n 0, 1) := by decide +kernel
theorem dX5_init_79 : decode cX5_init 79 = .ok (.new 48, 3) := by decide +kernel
theorem dX5_init_82 : decode cX5_init 82 = .ok (.dup, 1) := by decide +kernel
theorem dX5_init_83 : decode cX5_init 83 = .ok (.invokespecial 50, 3) := by decide +kernel
theorem dX5_init_86 : decode cX5_init 86 = .ok (.putfield 51, 3) := by decide +kernel
theorem dX5_init_89 : decode cX5_init 89 = .ok (.aload_n 0, 1) := by decide +kernel
theorem dX5_init_90 : decode cX5_init 90 = .ok (.bipush 6, 2) := by decide +kernel
theorem dX5_init_92 : decode cX5_init 92 = .ok (.newarray .int, 2) := by decide +kernel
theorem dX5_init_94 : decode cX5_init 94 = .ok (.putfield 55, 3) := by decide +kernel
theorem dX5_init_97 : decode cX5_init 97 = .ok (.aload_n 0, 1) := by decide +kernel
theorem dX5_init_98 : decode cX5_init 98 = .ok (.lconst 1, 1) := by decide +kernel
theorem dX5_init_99 : decode cX5_init 99 = .ok (.putfield 59, 3) := by decide +kernel
theorem dX5_init_102 : decode cX5_init 102 = .ok (.iconst 0, 1) := by decide +kernel
theorem dX5_init_103 : decode cX5_init 103 = .ok (.istore_n 1, 1) := by decide +kernel
theorem dX5_init_104 : decode cX5_init 104 = .ok (.iload_n 1, 1) := by decide +kernel
theorem dX5_init_105 : decode cX5_init 105 = .ok (.aload_n 0, 1) := by decide +kernel
theorem dX5_init_106 : decode cX5_init 106 = .ok (.getfield 30, 3) := by decide +kernel
theorem dX5_init_109 : decode cX5_init 109 = .ok (.arraylength, 1) := by decide +kernel
theorem dX5_init_110 : decode cX5_init 110 = .ok (.if_icmp .ge 23, 3) := by decide +kernel
theorem dX5_init_113 : decode cX5_init 113 = .ok (.aload_n 0, 1) := by decide +kernel
theorem dX5_init_114 : decode cX5_init 114 = .ok (.getfield 30, 3) := by decide +kernel
theorem dX5_init_117 : decode cX5_init 117 = .ok (.iload_n 1, 1) := by decide +kernel
theorem dX5_init_118 : decode cX5_init 118 = .ok (.new 21, 3) := by decide +kernel
theorem dX5_init_121 : decode cX5_init 121 = .ok (.dup, 1) := by decide +kernel
theorem dX5_init_122 : decode cX5_init 122 = .ok (.iconst (-1), 1) := by decide +kernel
theorem dX5_init_123 : decode cX5_init 123 = .ok (.invokespecial 23, 3) := by decide +kernel
theorem dX5_init_126 : decode cX5_init 126 = .ok (.aastore, 1) := by decide +kernel
theorem dX5_init_127 : decode cX5_init 127 = .ok (.iinc 1 1, 3) := by decide +kernel
theorem dX5_init_130 : decode cX5_init 130 = .ok (.goto (-26), 3) := by decide +kernel
theorem dX5_init_133 : decode cX5_init 133 = .ok (.return_, 1) := by decide +kernel
theorem dX5_row_0 : decode cX5_row 0 = .ok (.aload_n 0, 1) := by decide +kernel
theorem dX5_row_1 : decode cX5_row 1 = .ok (.getfield 14, 3) := by decide +kernel
theorem dX5_row_4 : decode cX5_row 4 = .ok (.iload_n 1, 1) := by decide +kernel
theorem dX5_row_5 : decode cX5_row 5 = .ok (.invokevirtual 63, 3) := by decide +kernel
theorem dX5_row_8 : decode cX5_row 8 = .ok (.ifCond .eq 9, 3) := by decide +kernel
theorem dX5_row_11 : decode cX5_row 11 = .ok (.iload_n 2, 1) := by decide +kernel
theorem dX5_row_12 : decode cX5_row 12 = .ok (.bipush 40, 2) := by decide +kernel
theorem dX5_row_14 : decode cX5_row 14 = .ok (.if_icmp .le 5, 3) := by decide +kernel
theorem dX5_row_17 : decode cX5_row 17 = .ok (.iconst (-1), 1) := by decide +kernel
theorem dX5_row_18 : decode cX5_row 18 = .ok (.ireturn, 1) := by decide +kernel
theorem dX5_row_19 : decode cX5_row 19 = .ok (.iload_n 2, 1) := by decide +kernel
theorem dX5_row_20 : decode cX5_row 20 = .ok (.ifCond .ge 9, 3) := by decide +kernel
theorem dX5_row_23 : decode cX5_row 23 = .ok (.aload_n 0, 1) := by decide +kernel
theorem dX5_row_24 : decode cX5_row 24 = .ok (.iconst 5, 1) := by decide +kernel
theorem dX5_row_25 : decode cX5_row 25 = .ok (.invokevirtual 67, 3) := by decide +kernel
theorem dX5_row_28 : decode cX5_row 28 = .ok (.ireturn, 1) := by decide +kernel
theorem dX5_row_29 : decode cX5_row 29 = .ok (.aload_n 0, 1) := by decide +kernel
theorem dX5_row_30 : decode cX5_row 30 = .ok (.getfield 14, 3) := by decide +kernel
theorem dX5_row_33 : decode cX5_row 33 = .ok (.iload_n 1, 1) := by decide +kernel
theorem dX5_row_34 : decode cX5_row 34 = .ok (.iload_n 2, 1) := by decide +kernel
theorem dX5_row_35 : decode cX5_row 35 = .ok (.invokevirtual 71, 3) := by decide +kernel
theorem dX5_row_38 : decode cX5_row 38 = .ok (.iload_n 2, 1) := by decide +kernel
theorem dX5_row_39 : decode cX5_row 39 = .ok (.ireturn, 1) := by decide +kernel
theorem dX5_lay_0 : decode cX5_lay 0 = .ok (.aload_n 0, 1) := by decide +kernel
theorem dX5_lay_1 : decode cX5_lay 1 = .ok (.getfield 14, 3) := by decide +kernel
theorem dX5_lay_4 : decode cX5_lay 4 = .ok (.iload_n 1, 1) := by decide +kernel
theorem dX5_lay_5 : decode cX5_lay 5 = .ok (.invokevirtual 63, 3) := by decide +kernel
theorem dX5_lay_8 : decode cX5_lay 8 = .ok (.ifCond .ne 5, 3) := by decide +kernel
theorem dX5_lay_11 : decode cX5_lay 11 = .ok (.iconst (-1), 1) := by decide +kernel
theorem dX5_lay_12 : decode cX5_lay 12 = .ok (.ireturn, 1) := by decide +kernel
theorem dX5_lay_13 : decode cX5_lay 13 = .ok (.aload_n 0, 1) := by decide +kernel
theorem dX5_lay_14 : decode cX5_lay 14 = .ok (.getfield 14, 3) := by decide +kernel
theorem dX5_lay_17 : decode cX5_lay 17 = .ok (.iload_n 1, 1) := by decide +kernel
theorem dX5_lay_18 : decode cX5_lay 18 = .ok (.invokevirtual 75, 3) := by decide +kernel
theorem dX5_lay_21 : decode cX5_lay 21 = .ok (.ifCond .ne 9, 3) := by decide +kernel
theorem dX5_lay_24 : decode cX5_lay 24 = .ok (.aload_n 0, 1) := by decide +kernel
theorem dX5_lay_25 : decode cX5_lay 25 = .ok (.iconst 1, 1) := by decide +kernel
theorem dX5_lay_26 : decode cX5_lay 26 = .ok (.invokevirtual 67, 3) := by decide +kernel
theorem dX5_lay_29 : decode cX5_lay 29 = .ok (.ireturn, 1) := by decide +kernel
theorem dX5_lay_30 : decode cX5_lay 30 = .ok (.aload_n 0, 1) := by decide +kernel
theorem dX5_lay_31 : decode cX5_lay 31 = .ok (.getfield 14, 3) := by decide +kernel
theorem dX5_lay_34 : decode cX5_lay 34 = .ok (.iload_n 1, 1) := by decide +kernel
theorem dX5_lay_35 : decode cX5_lay 35 = .ok (.iload_n 2, 1) := by decide +kernel
theorem dX5_lay_36 : decode cX5_lay 36 = .ok (.invokevirtual 78, 3) := by decide +kernel
theorem dX5_lay_39 : decode cX5_lay 39 = .ok (.ifCond .ne 9, 3) := by decide +kernel
theorem dX5_lay_42 : decode cX5_lay 42 = .ok (.aload_n 0, 1) := by decide +kernel
theorem dX5_lay_43 : decode cX5_lay 43 = .ok (.iconst 2, 1) := by decide +kernel
theorem dX5_lay_44 : decode cX5_lay 44 = .ok (.invokevirtual 67, 3) := by decide +kernel
theorem dX5_lay_47 : decode cX5_lay 47 = .ok (.ireturn, 1) := by decide +kernel
theorem dX5_lay_48 : decode cX5_lay 48 = .ok (.aload_n 0, 1) := by decide +kernel
theorem dX5_lay_49 : decode cX5_lay 49 = .ok (.aload_n 0, 1) := by decide +kernel
theorem dX5_lay_50 : decode cX5_lay 50 = .ok (.getfield 14, 3) := by decide +kernel
theorem dX5_lay_53 : decode cX5_lay 53 = .ok (.iload_n 1, 1) := by decide +kernel
theorem dX5_lay_54 : decode cX5_lay 54 = .ok (.iload_n 2, 1) := by decide +kernel
theorem dX5_lay_55 : decode cX5_lay 55 = .ok (.invokevirtual 82, 3) := by decide +kernel
theorem dX5_lay_58 : decode cX5_lay 58 = .ok (.putfield 86, 3) := by decide +kernel
theorem dX5_lay_61 : decode cX5_lay 61 = .ok (.aload_n 0, 1) := by decide +kernel
theorem dX5_lay_62 : decode cX5_lay 62 = .ok (.getfield 14, 3) := by decide +kernel
theorem dX5_lay_65 : decode cX5_lay 65 = .ok (.iload_n 1, 1) := by decide +kernel
theorem dX5_lay_66 : decode cX5_lay 66 = .ok (.iload_n 2, 1) := by decide +kernel
theorem dX5_lay_67 : decode cX5_lay 67 = .ok (.iload_n 3, 1) := by decide +kernel
theorem dX5_lay_68 : decode cX5_lay 68 = .ok (.invokevirtual 90, 3) := by decide +kernel
theorem dX5_lay_71 : decode cX5_lay 71 = .ok (.iconst 1, 1) := by decide +kernel
theorem dX5_lay_72 : decode cX5_lay 72 = .ok (.ireturn, 1) := by decide +kernel
theorem dX5_at_0 : decode cX5_at 0 = .ok (.aload_n 0, 1) := by decide +kernel
theorem dX5_at_1 : decode cX5_at 1 = .ok (.getfield 14, 3) := by decide +kernel
theorem dX5_at_4 : decode cX5_at 4 = .ok (.iload_n 1, 1) := by decide +kernel
theorem dX5_at_5 : decode cX5_at 5 = .ok (.invokevirtual 63, 3) := by decide +kernel
theorem dX5_at_8 : decode cX5_at 8 = .ok (.ifCond .ne 5, 3) := by decide +kernel
theorem dX5_at_11 : decode cX5_at 11 = .ok (.iconst (-1), 1) := by decide +kernel
theorem dX5_at_12 : decode cX5_at 12 = .ok (.ireturn, 1) := by decide +kernel
theorem dX5_at_13 : decode cX5_at 13 = .ok (.aload_n 0, 1) := by decide +kernel
theorem dX5_at_14 : decode cX5_at 14 = .ok (.getfield 14, 3) := by decide +kernel
theorem dX5_at_17 : decode cX5_at 17 = .ok (.iload_n 1, 1) := by decide +kernel
theorem dX5_at_18 : decode cX5_at 18 = .ok (.invokevirtual 75, 3) := by decide +kernel
theorem dX5_at_21 : decode cX5_at 21 = .ok (.ifCond .ne 9, 3) := by decide +kernel
theorem dX5_at_24 : decode cX5_at 24 = .ok (.aload_n 0, 1) := by decide +kernel
theorem dX5_at_25 : decode cX5_at 25 = .ok (.iconst 1, 1) := by decide +kernel
theorem dX5_at_26 : decode cX5_at 26 = .ok (.invokevirtual 67, 3) := by decide +kernel
theorem dX5_at_29 : decode cX5_at 29 = .ok (.ireturn, 1) := by decide +kernel
theorem dX5_at_30 : decode cX5_at 30 = .ok (.aload_n 0, 1) := by decide +kernel
theorem dX5_at_31 : decode cX5_at 31 = .ok (.getfield 14, 3) := by decide +kernel
theorem dX5_at_34 : decode cX5_at 34 = .ok (.iload_n 1, 1) := by decide +kernel
theorem dX5_at_35 : decode cX5_at 35 = .ok (.iload_n 2, 1) := by decide +kernel
theorem dX5_at_36 : decode cX5_at 36 = .ok (.invokevirtual 78, 3) := by decide +kernel
theorem dX5_at_39 : decode cX5_at 39 = .ok (.ifCond .ne 9, 3) := by decide +kernel
theorem dX5_at_42 : decode cX5_at 42 = .ok (.aload_n 0, 1) := by decide +kernel
theorem dX5_at_43 : decode cX5_at 43 = .ok (.iconst 2, 1) := by decide +kernel
theorem dX5_at_44 : decode cX5_at 44 = .ok (.invokevirtual 67, 3) := by decide +kernel
theorem dX5_at_47 : decode cX5_at 47 = .ok (.ireturn, 1) := by decide +kernel
theorem dX5_at_48 : decode cX5_at 48 = .ok (.aload_n 0, 1) := by decide +kernel
theorem dX5_at_49 : decode cX5_at 49 = .ok (.aload_n 0, 1) := by decide +kernel
theorem dX5_at_50 : decode cX5_at 50 = .ok (.getfield 14, 3) := by decide +kernel
theorem dX5_at_53 : decode cX5_at 53 = .ok (.iload_n 1, 1) := by decide +kernel
theorem dX5_at_54 : decode cX5_at 54 = .ok (.iload_n 2, 1) := by decide +kernel
theorem dX5_at_55 : decode cX5_at 55 = .ok (.invokevirtual 82, 3) := by decide +kernel
theorem dX5_at_58 : decode cX5_at 58 = .ok (.putfield 86, 3) := by decide +kernel
theorem dX5_at_61 : decode cX5_at 61 = .ok (.iconst 1, 1) := by decide +kernel
theorem dX5_at_62 : decode cX5_at 62 = .ok (.ireturn, 1) := by decide +kernel
theorem dX5_tear_0 : decode cX5_tear 0 = .ok (.aload_n 0, 1) := by decide +kernel
theorem dX5_tear_1 : decode cX5_tear 1 = .ok (.getfield 14, 3) := by decide +kernel
theorem dX5_tear_4 : decode cX5_tear 4 = .ok (.iload_n 1, 1) := by decide +kernel
theorem dX5_tear_5 : decode cX5_tear 5 = .ok (.invokevirtual 63, 3) := by decide +kernel
theorem dX5_tear_8 : decode cX5_tear 8 = .ok (.ifCond .ne 5, 3) := by decide +kernel
theorem dX5_tear_11 : decode cX5_tear 11 = .ok (.iconst (-1), 1) := by decide +kernel
theorem dX5_tear_12 : decode cX5_tear 12 = .ok (.ireturn, 1) := by decide +kernel
theorem dX5_tear_13 : decode cX5_tear 13 = .ok (.aload_n 0, 1) := by decide +kernel
theorem dX5_tear_14 : decode cX5_tear 14 = .ok (.getfield 14, 3) := by decide +kernel
theorem dX5_tear_17 : decode cX5_tear 17 = .ok (.iload_n 1, 1) := by decide +kernel
theorem dX5_tear_18 : decode cX5_tear 18 = .ok (.invokevirtual 75, 3) := by decide +kernel
theorem dX5_tear_21 : decode cX5_tear 21 = .ok (.ifCond .ne 9, 3) := by decide +kernel
theorem dX5_tear_24 : decode cX5_tear 24 = .ok (.aload_n 0, 1) := by decide +kernel
theorem dX5_tear_25 : decode cX5_tear 25 = .ok (.iconst 1, 1) := by decide +kernel
theorem dX5_tear_26 : decode cX5_tear 26 = .ok (.invokevirtual 67, 3) := by decide +kernel
theorem dX5_tear_29 : decode cX5_tear 29 = .ok (.ireturn, 1) := by decide +kernel
theorem dX5_tear_30 : decode cX5_tear 30 = .ok (.aload_n 0, 1) := by decide +kernel
theorem dX5_tear_31 : decode cX5_tear 31 = .ok (.getfield 14, 3) := by decide +kernel
theorem dX5_tear_34 : decode cX5_tear 34 = .ok (.iload_n 1, 1) := by decide +kernel
theorem dX5_tear_35 : decode cX5_tear 35 = .ok (.invokevirtual 93, 3) := by decide +kernel
theorem dX5_tear_38 : decode cX5_tear 38 = .ok (.iconst 1, 1) := by decide +kernel
theorem dX5_tear_39 : decode cX5_tear 39 = .ok (.ireturn, 1) := by decide +kernel
theorem dX5_copy_0 : decode cX5_copy 0 = .ok (.aload_n 0, 1) := by decide +kernel
theorem dX5_copy_1 : decode cX5_copy 1 = .ok (.getfield 14, 3) := by decide +kernel
theorem dX5_copy_4 : decode cX5_copy 4 = .ok (.iload_n 1, 1) := by decide +kernel
theorem dX5_copy_5 : decode cX5_copy 5 = .ok (.invokevirtual 63, 3) := by decide +kernel
theorem dX5_copy_8 : decode cX5_copy 8 = .ok (.ifCond .eq 14, 3) := by decide +kernel
theorem dX5_copy_11 : decode cX5_copy 11 = .ok (.aload_n 0, 1) := by decide +kernel
theorem dX5_copy_12 : decode cX5_copy 12 = .ok (.getfield 14, 3) := by decide +kernel
theorem dX5_copy_15 : decode cX5_copy 15 = .ok (.iload_n 3, 1) := by decide +kernel
theorem dX5_copy_16 : decode cX5_copy 16 = .ok (.invokevirtual 63, 3) := by decide +kernel
theorem dX5_copy_19 : decode cX5_copy 19 = .ok (.ifCond .ne 5, 3) := by decide +kernel
theorem dX5_copy_22 : decode cX5_copy 22 = .ok (.iconst (-1), 1) := by decide +kernel
theorem dX5_copy_23 : decode cX5_copy 23 = .ok (.ireturn, 1) := by decide +kernel
theorem dX5_copy_24 : decode cX5_copy 24 = .ok (.iload 5, 2) := by decide +kernel
theorem dX5_copy_26 : decode cX5_copy 26 = .ok (.ifCond .ge 9, 3) := by decide +kernel
theorem dX5_copy_29 : decode cX5_copy 29 = .ok (.aload_n 0, 1) := by decide +kernel
theorem dX5_copy_30 : decode cX5_copy 30 = .ok (.iconst 5, 1) := by decide +kernel
theorem dX5_copy_31 : decode cX5_copy 31 = .ok (.invokevirtual 67, 3) := by decide +kernel
theorem dX5_copy_34 : decode cX5_copy 34 = .ok (.ireturn, 1) := by decide +kernel
theorem dX5_copy_35 : decode cX5_copy 35 = .ok (.aload_n 0, 1) := by decide +kernel
theorem dX5_copy_36 : decode cX5_copy 36 = .ok (.getfield 14, 3) := by decide +kernel
theorem dX5_copy_39 : decode cX5_copy 39 = .ok (.iload_n 1, 1) := by decide +kernel
theorem dX5_copy_40 : decode cX5_copy 40 = .ok (.invokevirtual 75, 3) := by decide +kernel
theorem dX5_copy_43 : decode cX5_copy 43 = .ok (.ifCond .eq 14, 3) := by decide +kernel
theorem dX5_copy_46 : decode cX5_copy 46 = .ok (.aload_n 0, 1) := by decide +kernel
theorem dX5_copy_47 : decode cX5_copy 47 = .ok (.getfield 14, 3) := by decide +kernel
theorem dX5_copy_50 : decode cX5_copy 50 = .ok (.iload_n 3, 1) := by decide +kernel
theorem dX5_copy_51 : decode cX5_copy 51 = .ok (.invokevirtual 75, 3) := by decide +kernel
theorem dX5_copy_54 : decode cX5_copy 54 = .ok (.ifCond .ne 9, 3) := by decide +kernel
theorem dX5_copy_57 : decode cX5_copy 57 = .ok (.aload_n 0, 1) := by decide +kernel
theorem dX5_copy_58 : decode cX5_copy 58 = .ok (.iconst 1, 1) := by decide +kernel
theorem dX5_copy_59 : decode cX5_copy 59 = .ok (.invokevirtual 67, 3) := by decide +kernel
theorem dX5_copy_62 : decode cX5_copy 62 = .ok (.ireturn, 1) := by decide +kernel
theorem dX5_copy_63 : decode cX5_copy 63 = .ok (.aload_n 0, 1) := by decide +kernel
theorem dX5_copy_64 : decode cX5_copy 64 = .ok (.getfield 14, 3) := by decide +kernel
theorem dX5_copy_67 : decode cX5_copy 67 = .ok (.iload_n 1, 1) := by decide +kernel
theorem dX5_copy_68 : decode cX5_copy 68 = .ok (.iload_n 2, 1) := by decide +kernel
theorem dX5_copy_69 : decode cX5_copy 69 = .ok (.iload 5, 2) := by decide +kernel
theorem dX5_copy_71 : decode cX5_copy 71 = .ok (.invokevirtual 96, 3) := by decide +kernel
theorem dX5_copy_74 : decode cX5_copy 74 = .ok (.ifCond .eq 18, 3) := by decide +kernel
theorem dX5_copy_77 : decode cX5_copy 77 = .ok (.aload_n 0, 1) := by decide +kernel
theorem dX5_copy_78 : decode cX5_copy 78 = .ok (.getfield 14, 3) := by decide +kernel
theorem dX5_copy_81 : decode cX5_copy 81 = .ok (.iload_n 3, 1) := by decide +kernel
theorem dX5_copy_82 : decode cX5_copy 82 = .ok (.iload 4, 2) := by decide +kernel
theorem dX5_copy_84 : decode cX5_copy 84 = .ok (.iload 5, 2) := by decide +kernel
theorem dX5_copy_86 : decode cX5_copy 86 = .ok (.invokevirtual 96, 3) := by decide +kernel
theorem dX5_copy_89 : decode cX5_copy 89 = .ok (.ifCond .ne 9, 3) := by decide +kernel
theorem dX5_copy_92 : decode cX5_copy 92 = .ok (.aload_n 0, 1) := by decide +kernel
theorem dX5_copy_93 : decode cX5_copy 93 = .ok (.iconst 2, 1) := by decide +kernel
theorem dX5_copy_94 : decode cX5_copy 94 = .ok (.invokevirtual 67, 3) := by decide +kernel
theorem dX5_copy_97 : decode cX5_copy 97 = .ok (.ireturn, 1) := by decide +kernel
theorem dX5_copy_98 : decode cX5_copy 98 = .ok (.aload_n 0, 1) := by decide +kernel
theorem dX5_copy_99 : decode cX5_copy 99 = .ok (.getfield 14, 3) := by decide +kernel
theorem dX5_copy_102 : decode cX5_copy 102 = .ok (.iload_n 1, 1) := by decide +kernel
theorem dX5_copy_103 : decode cX5_copy 103 = .ok (.iload_n 2, 1) := by decide +kernel
theorem dX5_copy_104 : decode cX5_copy 104 = .ok (.iload_n 3, 1) := by decide +kernel
theorem dX5_copy_105 : decode cX5_copy 105 = .ok (.iload 4, 2) := by decide +kernel
theorem dX5_copy_107 : decode cX5_copy 107 = .ok (.iload 5, 2) := by decide +kernel
theorem dX5_copy_109 : decode cX5_copy 109 = .ok (.invokevirtual 100, 3) := by decide +kernel
theorem dX5_copy_112 : decode cX5_copy 112 = .ok (.iconst 1, 1) := by decide +kernel
theorem dX5_copy_113 : decode cX5_copy 113 = .ok (.ireturn, 1) := by decide +kernel
theorem dX5_mean_0 : decode cX5_mean 0 = .ok (.aload_n 0, 1) := by decide +kernel
theorem dX5_mean_1 : decode cX5_mean 1 = .ok (.getfield 14, 3) := by decide +kernel
theorem dX5_mean_4 : decode cX5_mean 4 = .ok (.iload_n 1, 1) := by decide +kernel
theorem dX5_mean_5 : decode cX5_mean 5 = .ok (.invokevirtual 63, 3) := by decide +kernel
theorem dX5_mean_8 : decode cX5_mean 8 = .ok (.ifCond .ne 5, 3) := by decide +kernel
theorem dX5_mean_11 : decode cX5_mean 11 = .ok (.iconst (-1), 1) := by decide +kernel
theorem dX5_mean_12 : decode cX5_mean 12 = .ok (.ireturn, 1) := by decide +kernel
theorem dX5_mean_13 : decode cX5_mean 13 = .ok (.aload_n 0, 1) := by decide +kernel
theorem dX5_mean_14 : decode cX5_mean 14 = .ok (.getfield 14, 3) := by decide +kernel
theorem dX5_mean_17 : decode cX5_mean 17 = .ok (.iload_n 1, 1) := by decide +kernel
theorem dX5_mean_18 : decode cX5_mean 18 = .ok (.invokevirtual 75, 3) := by decide +kernel
theorem dX5_mean_21 : decode cX5_mean 21 = .ok (.ifCond .ne 9, 3) := by decide +kernel
theorem dX5_mean_24 : decode cX5_mean 24 = .ok (.aload_n 0, 1) := by decide +kernel
theorem dX5_mean_25 : decode cX5_mean 25 = .ok (.iconst 1, 1) := by decide +kernel
theorem dX5_mean_26 : decode cX5_mean 26 = .ok (.invokevirtual 67, 3) := by decide +kernel
theorem dX5_mean_29 : decode cX5_mean 29 = .ok (.ireturn, 1) := by decide +kernel
theorem dX5_mean_30 : decode cX5_mean 30 = .ok (.aload_n 0, 1) := by decide +kernel
theorem dX5_mean_31 : decode cX5_mean 31 = .ok (.getfield 14, 3) := by decide +kernel
theorem dX5_mean_34 : decode cX5_mean 34 = .ok (.iload_n 1, 1) := by decide +kernel
theorem dX5_mean_35 : decode cX5_mean 35 = .ok (.invokevirtual 104, 3) := by decide +kernel
theorem dX5_mean_38 : decode cX5_mean 38 = .ok (.istore_n 2, 1) := by decide +kernel
theorem dX5_mean_39 : decode cX5_mean 39 = .ok (.iload_n 2, 1) := by decide +kernel
theorem dX5_mean_40 : decode cX5_mean 40 = .ok (.ifCond .ne 9, 3) := by decide +kernel
theorem dX5_mean_43 : decode cX5_mean 43 = .ok (.aload_n 0, 1) := by decide +kernel
theorem dX5_mean_44 : decode cX5_mean 44 = .ok (.iconst 4, 1) := by decide +kernel
theorem dX5_mean_45 : decode cX5_mean 45 = .ok (.invokevirtual 67, 3) := by decide +kernel
theorem dX5_mean_48 : decode cX5_mean 48 = .ok (.ireturn, 1) := by decide +kernel
theorem dX5_mean_49 : decode cX5_mean 49 = .ok (.aload_n 0, 1) := by decide +kernel
theorem dX5_mean_50 : decode cX5_mean 50 = .ok (.aload_n 0, 1) := by decide +kernel
theorem dX5_mean_51 : decode cX5_mean 51 = .ok (.getfield 14, 3) := by decide +kernel
theorem dX5_mean_54 : decode cX5_mean 54 = .ok (.iload_n 1, 1) := by decide +kernel
theorem dX5_mean_55 : decode cX5_mean 55 = .ok (.invokevirtual 107, 3) := by decide +kernel
theorem dX5_mean_58 : decode cX5_mean 58 = .ok (.iload_n 2, 1) := by decide +kernel
theorem dX5_mean_59 : decode cX5_mean 59 = .ok (.i2l, 1) := by decide +kernel
theorem dX5_mean_60 : decode cX5_mean 60 = .ok (.ldiv, 1) := by decide +kernel
theorem dX5_mean_61 : decode cX5_mean 61 = .ok (.l2i, 1) := by decide +kernel
theorem dX5_mean_62 : decode cX5_mean 62 = .ok (.putfield 86, 3) := by decide +kernel
theorem dX5_mean_65 : decode cX5_mean 65 = .ok (.iconst 1, 1) := by decide +kernel
theorem dX5_mean_66 : decode cX5_mean 66 = .ok (.ireturn, 1) := by decide +kernel
theorem dX5_text_0 : decode cX5_text 0 = .ok (.aload_n 0, 1) := by decide +kernel
theorem dX5_text_1 : decode cX5_text 1 = .ok (.getfield 18, 3) := by decide +kernel
theorem dX5_text_4 : decode cX5_text 4 = .ok (.iload_n 1, 1) := by decide +kernel
theorem dX5_text_5 : decode cX5_text 5 = .ok (.invokevirtual 63, 3) := by decide +kernel
theorem dX5_text_8 : decode cX5_text 8 = .ok (.ifCond .eq 9, 3) := by decide +kernel
theorem dX5_text_11 : decode cX5_text 11 = .ok (.iload_n 2, 1) := by decide +kernel
theorem dX5_text_12 : decode cX5_text 12 = .ok (.bipush 60, 2) := by decide +kernel
theorem dX5_text_14 : decode cX5_text 14 = .ok (.if_icmp .le 5, 3) := by decide +kernel
theorem dX5_text_17 : decode cX5_text 17 = .ok (.iconst (-1), 1) := by decide +kernel
theorem dX5_text_18 : decode cX5_text 18 = .ok (.ireturn, 1) := by decide +kernel
theorem dX5_text_19 : decode cX5_text 19 = .ok (.iload_n 2, 1) := by decide +kernel
theorem dX5_text_20 : decode cX5_text 20 = .ok (.ifCond .ge 9, 3) := by decide +kernel
theorem dX5_text_23 : decode cX5_text 23 = .ok (.aload_n 0, 1) := by decide +kernel
theorem dX5_text_24 : decode cX5_text 24 = .ok (.iconst 5, 1) := by decide +kernel
theorem dX5_text_25 : decode cX5_text 25 = .ok (.invokevirtual 67, 3) := by decide +kernel
theorem dX5_text_28 : decode cX5_text 28 = .ok (.ireturn, 1) := by decide +kernel
theorem dX5_text_29 : decode cX5_text 29 = .ok (.aload_n 0, 1) := by decide +kernel
theorem dX5_text_30 : decode cX5_text 30 = .ok (.getfield 18, 3) := by decide +kernel
theorem dX5_text_33 : decode cX5_text 33 = .ok (.iload_n 1, 1) := by decide +kernel
theorem dX5_text_34 : decode cX5_text 34 = .ok (.iload_n 2, 1) := by decide +kernel
theorem dX5_text_35 : decode cX5_text 35 = .ok (.invokevirtual 71, 3) := by decide +kernel
theorem dX5_text_38 : decode cX5_text 38 = .ok (.iload_n 2, 1) := by decide +kernel
theorem dX5_text_39 : decode cX5_text 39 = .ok (.ireturn, 1) := by decide +kernel
theorem dX5_put_0 : decode cX5_put 0 = .ok (.aload_n 0, 1) := by decide +kernel
theorem dX5_put_1 : decode cX5_put 1 = .ok (.getfield 18, 3) := by decide +kernel
theorem dX5_put_4 : decode cX5_put 4 = .ok (.iload_n 1, 1) := by decide +kernel
theorem dX5_put_5 : decode cX5_put 5 = .ok (.invokevirtual 63, 3) := by decide +kernel
theorem dX5_put_8 : decode cX5_put 8 = .ok (.ifCond .ne 5, 3) := by decide +kernel
theorem dX5_put_11 : decode cX5_put 11 = .ok (.iconst (-1), 1) := by decide +kernel
theorem dX5_put_12 : decode cX5_put 12 = .ok (.ireturn, 1) := by decide +kernel
theorem dX5_put_13 : decode cX5_put 13 = .ok (.aload_n 0, 1) := by decide +kernel
theorem dX5_put_14 : decode cX5_put 14 = .ok (.getfield 18, 3) := by decide +kernel
theorem dX5_put_17 : decode cX5_put 17 = .ok (.iload_n 1, 1) := by decide +kernel
theorem dX5_put_18 : decode cX5_put 18 = .ok (.invokevirtual 75, 3) := by decide +kernel
theorem dX5_put_21 : decode cX5_put 21 = .ok (.ifCond .ne 9, 3) := by decide +kernel
theorem dX5_put_24 : decode cX5_put 24 = .ok (.aload_n 0, 1) := by decide +kernel
theorem dX5_put_25 : decode cX5_put 25 = .ok (.iconst 1, 1) := by decide +kernel
theorem dX5_put_26 : decode cX5_put 26 = .ok (.invokevirtual 67, 3) := by decide +kernel
theorem dX5_put_29 : decode cX5_put 29 = .ok (.ireturn, 1) := by decide +kernel
theorem dX5_put_30 : decode cX5_put 30 = .ok (.aload_n 0, 1) := by decide +kernel
theorem dX5_put_31 : decode cX5_put 31 = .ok (.getfield 18, 3) := by decide +kernel
theorem dX5_put_34 : decode cX5_put 34 = .ok (.iload_n 1, 1) := by decide +kernel
theorem dX5_put_35 : decode cX5_put 35 = .ok (.iload_n 2, 1) := by decide +kernel
theorem dX5_put_36 : decode cX5_put 36 = .ok (.invokevirtual 78, 3) := by decide +kernel
theorem dX5_put_39 : decode cX5_put 39 = .ok (.ifCond .ne 9, 3) := by decide +kernel
theorem dX5_put_42 : decode cX5_put 42 = .ok (.aload_n 0, 1) := by decide +kernel
theorem dX5_put_43 : decode cX5_put 43 = .ok (.iconst 2, 1) := by decide +kernel
theorem dX5_put_44 : decode cX5_put 44 = .ok (.invokevirtual 67, 3) := by decide +kernel
theorem dX5_put_47 : decode cX5_put 47 = .ok (.ireturn, 1) := by decide +kernel
theorem dX5_put_48 : decode cX5_put 48 = .ok (.aload_n 0, 1) := by decide +kernel
theorem dX5_put_49 : decode cX5_put 49 = .ok (.getfield 18, 3) := by decide +kernel
theorem dX5_put_52 : decode cX5_put 52 = .ok (.iload_n 1, 1) := by decide +kernel
theorem dX5_put_53 : decode cX5_put 53 = .ok (.iload_n 2, 1) := by decide +kernel
theorem dX5_put_54 : decode cX5_put 54 = .ok (.invokevirtual 82, 3) := by decide +kernel
theorem dX5_put_57 : decode cX5_put 57 = .ok (.istore 4, 2) := by decide +kernel
theorem dX5_put_59 : decode cX5_put 59 = .ok (.aload_n 0, 1) := by decide +kernel
theorem dX5_put_60 : decode cX5_put 60 = .ok (.getfield 18, 3) := by decide +kernel
theorem dX5_put_63 : decode cX5_put 63 = .ok (.iload_n 1, 1) := by decide +kernel
theorem dX5_put_64 : decode cX5_put 64 = .ok (.iload_n 2, 1) := by decide +kernel
theorem dX5_put_65 : decode cX5_put 65 = .ok (.iload_n 3, 1) := by decide +kernel
theorem dX5_put_66 : decode cX5_put 66 = .ok (.i2b, 1) := by decide +kernel
theorem dX5_put_67 : decode cX5_put 67 = .ok (.invokevirtual 90, 3) := by decide +kernel
theorem dX5_put_70 : decode cX5_put 70 = .ok (.iload 4, 2) := by decide +kernel
theorem dX5_put_72 : decode cX5_put 72 = .ok (.sipush 1000, 3) := by decide +kernel
theorem dX5_put_75 : decode cX5_put 75 = .ok (.iadd, 1) := by decide +kernel
theorem dX5_put_76 : decode cX5_put 76 = .ok (.ireturn, 1) := by decide +kernel
theorem dX5_fault_0 : decode cX5_fault 0 = .ok (.aload_n 0, 1) := by decide +kernel
theorem dX5_fault_1 : decode cX5_fault 1 = .ok (.getfield 18, 3) := by decide +kernel
theorem dX5_fault_4 : decode cX5_fault 4 = .ok (.iload_n 1, 1) := by decide +kernel
theorem dX5_fault_5 : decode cX5_fault 5 = .ok (.invokevirtual 63, 3) := by decide +kernel
theorem dX5_fault_8 : decode cX5_fault 8 = .ok (.ifCond .ne 5, 3) := by decide +kernel
theorem dX5_fault_11 : decode cX5_fault 11 = .ok (.iconst (-1), 1) := by decide +kernel
theorem dX5_fault_12 : decode cX5_fault 12 = .ok (.ireturn, 1) := by decide +kernel
theorem dX5_fault_13 : decode cX5_fault 13 = .ok (.aload_n 0, 1) := by decide +kernel
theorem dX5_fault_14 : decode cX5_fault 14 = .ok (.getfield 18, 3) := by decide +kernel
theorem dX5_fault_17 : decode cX5_fault 17 = .ok (.iload_n 1, 1) := by decide +kernel
theorem dX5_fault_18 : decode cX5_fault 18 = .ok (.invokevirtual 75, 3) := by decide +kernel
theorem dX5_fault_21 : decode cX5_fault 21 = .ok (.ifCond .ne 9, 3) := by decide +kernel
theorem dX5_fault_24 : decode cX5_fault 24 = .ok (.aload_n 0, 1) := by decide +kernel
theorem dX5_fault_25 : decode cX5_fault 25 = .ok (.iconst 1, 1) := by decide +kernel
theorem dX5_fault_26 : decode cX5_fault 26 = .ok (.invokevirtual 67, 3) := by decide +kernel
theorem dX5_fault_29 : decode cX5_fault 29 = .ok (.ireturn, 1) := by decide +kernel
theorem dX5_fault_30 : decode cX5_fault 30 = .ok (.aload_n 0, 1) := by decide +kernel
theorem dX5_fault_31 : decode cX5_fault 31 = .ok (.iload_n 1, 1) := by decide +kernel
theorem dX5_fault_32 : decode cX5_fault 32 = .ok (.invokevirtual 111, 3) := by decide +kernel
theorem dX5_fault_35 : decode cX5_fault 35 = .ok (.ireturn, 1) := by decide +kernel
theorem dX5_rock_0 : decode cX5_rock 0 = .ok (.aload_n 0, 1) := by decide +kernel
theorem dX5_rock_1 : decode cX5_rock 1 = .ok (.getfield 18, 3) := by decide +kernel
theorem dX5_rock_4 : decode cX5_rock 4 = .ok (.iload_n 1, 1) := by decide +kernel
theorem dX5_rock_5 : decode cX5_rock 5 = .ok (.invokevirtual 63, 3) := by decide +kernel
theorem dX5_rock_8 : decode cX5_rock 8 = .ok (.ifCond .ne 5, 3) := by decide +kernel
theorem dX5_rock_11 : decode cX5_rock 11 = .ok (.iconst (-1), 1) := by decide +kernel
theorem dX5_rock_12 : decode cX5_rock 12 = .ok (.ireturn, 1) := by decide +kernel
theorem dX5_rock_13 : decode cX5_rock 13 = .ok (.aload_n 0, 1) := by decide +kernel
theorem dX5_rock_14 : decode cX5_rock 14 = .ok (.getfield 18, 3) := by decide +kernel
theorem dX5_rock_17 : decode cX5_rock 17 = .ok (.iload_n 1, 1) := by decide +kernel
theorem dX5_rock_18 : decode cX5_rock 18 = .ok (.invokevirtual 75, 3) := by decide +kernel
theorem dX5_rock_21 : decode cX5_rock 21 = .ok (.ifCond .ne 9, 3) := by decide +kernel
theorem dX5_rock_24 : decode cX5_rock 24 = .ok (.aload_n 0, 1) := by decide +kernel
theorem dX5_rock_25 : decode cX5_rock 25 = .ok (.iconst 1, 1) := by decide +kernel
theorem dX5_rock_26 : decode cX5_rock 26 = .ok (.invokevirtual 67, 3) := by decide +kernel
theorem dX5_rock_29 : decode cX5_rock 29 = .ok (.ireturn, 1) := by decide +kernel
theorem dX5_rock_30 : decode cX5_rock 30 = .ok (.aload_n 0, 1) := by decide +kernel
theorem dX5_rock_31 : decode cX5_rock 31 = .ok (.iload_n 1, 1) := by decide +kernel
theorem dX5_rock_32 : decode cX5_rock 32 = .ok (.invokevirtual 111, 3) := by decide +kernel
theorem dX5_rock_35 : decode cX5_rock 35 = .ok (.bipush (-9), 2) := by decide +kernel
theorem dX5_rock_37 : decode cX5_rock 37 = .ok (.if_icmp .eq 6, 3) := by decide +kernel
theorem dX5_rock_40 : decode cX5_rock 40 = .ok (.bipush (-4), 2) := by decide +kernel
theorem dX5_rock_42 : decode cX5_rock 42 = .ok (.ireturn, 1) := by decide +kernel
theorem dX5_rock_43 : decode cX5_rock 43 = .ok (.aload_n 0, 1) := by decide +kernel
theorem dX5_rock_44 : decode cX5_rock 44 = .ok (.getfield 26, 3) := by decide +kernel
theorem dX5_rock_47 : decode cX5_rock 47 = .ok (.aload_n 0, 1) := by decide +kernel
theorem dX5_rock_48 : decode cX5_rock 48 = .ok (.getfield 37, 3) := by decide +kernel
theorem dX5_rock_51 : decode cX5_rock 51 = .ok (.invokevirtual 114, 3) := by decide +kernel
theorem dX5_rock_54 : decode cX5_rock 54 = .ok (.aload_n 0, 1) := by decide +kernel
theorem dX5_rock_55 : decode cX5_rock 55 = .ok (.invokevirtual 118, 3) := by decide +kernel
theorem dX5_rock_58 : decode cX5_rock 58 = .ok (.aload_n 0, 1) := by decide +kernel
theorem dX5_rock_59 : decode cX5_rock 59 = .ok (.getfield 37, 3) := by decide +kernel
theorem dX5_rock_62 : decode cX5_rock 62 = .ok (.invokevirtual 121, 3) := by decide +kernel
theorem dX5_rock_65 : decode cX5_rock 65 = .ok (.ireturn, 1) := by decide +kernel
theorem dX5_tower_0 : decode cX5_tower 0 = .ok (.aload_n 0, 1) := by decide +kernel
theorem dX5_tower_1 : decode cX5_tower 1 = .ok (.getfield 26, 3) := by decide +kernel
theorem dX5_tower_4 : decode cX5_tower 4 = .ok (.getfield 125, 3) := by decide +kernel
theorem dX5_tower_7 : decode cX5_tower 7 = .ok (.iload_n 1, 1) := by decide +kernel
theorem dX5_tower_8 : decode cX5_tower 8 = .ok (.invokevirtual 128, 3) := by decide +kernel
theorem dX5_tower_11 : decode cX5_tower 11 = .ok (.ifCond .eq 17, 3) := by decide +kernel
theorem dX5_tower_14 : decode cX5_tower 14 = .ok (.aload_n 0, 1) := by decide +kernel
theorem dX5_tower_15 : decode cX5_tower 15 = .ok (.getfield 26, 3) := by decide +kernel
theorem dX5_tower_18 : decode cX5_tower 18 = .ok (.getfield 125, 3) := by decide +kernel
theorem dX5_tower_21 : decode cX5_tower 21 = .ok (.iload_n 1, 1) := by decide +kernel
theorem dX5_tower_22 : decode cX5_tower 22 = .ok (.invokevirtual 131, 3) := by decide +kernel
theorem dX5_tower_25 : decode cX5_tower 25 = .ok (.goto 4, 3) := by decide +kernel
theorem dX5_tower_28 : decode cX5_tower 28 = .ok (.iconst (-1), 1) := by decide +kernel
theorem dX5_tower_29 : decode cX5_tower 29 = .ok (.ireturn, 1) := by decide +kernel
theorem dX5_house_0 : decode cX5_house 0 = .ok (.aload_n 0, 1) := by decide +kernel
theorem dX5_house_1 : decode cX5_house 1 = .ok (.iload_n 1, 1) := by decide +kernel
theorem dX5_house_2 : decode cX5_house 2 = .ok (.iload_n 2, 1) := by decide +kernel
theorem dX5_house_3 : decode cX5_house 3 = .ok (.invokevirtual 134, 3) := by decide +kernel
theorem dX5_house_6 : decode cX5_house 6 = .ok (.ifCond .ne 13, 3) := by decide +kernel
theorem dX5_house_9 : decode cX5_house 9 = .ok (.iload_n 3, 1) := by decide +kernel
theorem dX5_house_10 : decode cX5_house 10 = .ok (.ifCond .lt 9, 3) := by decide +kernel
theorem dX5_house_13 : decode cX5_house 13 = .ok (.iload_n 3, 1) := by decide +kernel
theorem dX5_house_14 : decode cX5_house 14 = .ok (.bipush 6, 2) := by decide +kernel
theorem dX5_house_16 : decode cX5_house 16 = .ok (.if_icmp .le 5, 3) := by decide +kernel
theorem dX5_house_19 : decode cX5_house 19 = .ok (.iconst (-1), 1) := by decide +kernel
theorem dX5_house_20 : decode cX5_house 20 = .ok (.ireturn, 1) := by decide +kernel
theorem dX5_house_21 : decode cX5_house 21 = .ok (.aload_n 0, 1) := by decide +kernel
theorem dX5_house_22 : decode cX5_house 22 = .ok (.getfield 26, 3) := by decide +kernel
theorem dX5_house_25 : decode cX5_house 25 = .ok (.getfield 125, 3) := by decide +kernel
theorem dX5_house_28 : decode cX5_house 28 = .ok (.iload_n 1, 1) := by decide +kernel
theorem dX5_house_29 : decode cX5_house 29 = .ok (.iload_n 2, 1) := by decide +kernel
theorem dX5_house_30 : decode cX5_house 30 = .ok (.invokevirtual 137, 3) := by decide +kernel
theorem dX5_house_33 : decode cX5_house 33 = .ok (.ifCond .ne 9, 3) := by decide +kernel
theorem dX5_house_36 : decode cX5_house 36 = .ok (.aload_n 0, 1) := by decide +kernel
theorem dX5_house_37 : decode cX5_house 37 = .ok (.iconst 2, 1) := by decide +kernel
theorem dX5_house_38 : decode cX5_house 38 = .ok (.invokevirtual 67, 3) := by decide +kernel
theorem dX5_house_41 : decode cX5_house 41 = .ok (.ireturn, 1) := by decide +kernel
theorem dX5_house_42 : decode cX5_house 42 = .ok (.aload_n 0, 1) := by decide +kernel
theorem dX5_house_43 : decode cX5_house 43 = .ok (.getfield 44, 3) := by decide +kernel
theorem dX5_house_46 : decode cX5_house 46 = .ok (.aload_n 0, 1) := by decide +kernel
theorem dX5_house_47 : decode cX5_house 47 = .ok (.getfield 26, 3) := by decide +kernel
theorem dX5_house_50 : decode cX5_house 50 = .ok (.getfield 125, 3) := by decide +kernel
theorem dX5_house_53 : decode cX5_house 53 = .ok (.invokevirtual 138, 3) := by decide +kernel
theorem dX5_house_56 : decode cX5_house 56 = .ok (.aload_n 0, 1) := by decide +kernel
theorem dX5_house_57 : decode cX5_house 57 = .ok (.aload_n 0, 1) := by decide +kernel
theorem dX5_house_58 : decode cX5_house 58 = .ok (.iload_n 1, 1) := by decide +kernel
theorem dX5_house_59 : decode cX5_house 59 = .ok (.iload_n 2, 1) := by decide +kernel
theorem dX5_house_60 : decode cX5_house 60 = .ok (.iload_n 3, 1) := by decide +kernel
theorem dX5_house_61 : decode cX5_house 61 = .ok (.invokevirtual 141, 3) := by decide +kernel
theorem dX5_house_64 : decode cX5_house 64 = .ok (.putfield 86, 3) := by decide +kernel
theorem dX5_house_67 : decode cX5_house 67 = .ok (.iconst 1, 1) := by decide +kernel
theorem dX5_house_68 : decode cX5_house 68 = .ok (.ireturn, 1) := by decide +kernel
theorem dX5_mark_0 : decode cX5_mark 0 = .ok (.aload_n 0, 1) := by decide +kernel
theorem dX5_mark_1 : decode cX5_mark 1 = .ok (.iload_n 1, 1) := by decide +kernel
theorem dX5_mark_2 : decode cX5_mark 2 = .ok (.iload_n 2, 1) := by decide +kernel
theorem dX5_mark_3 : decode cX5_mark 3 = .ok (.invokevirtual 134, 3) := by decide +kernel
theorem dX5_mark_6 : decode cX5_mark 6 = .ok (.ifCond .ne 14, 3) := by decide +kernel
theorem dX5_mark_9 : decode cX5_mark 9 = .ok (.iload_n 3, 1) := by decide +kernel
theorem dX5_mark_10 : decode cX5_mark 10 = .ok (.invokestatic 145, 3) := by decide +kernel
theorem dX5_mark_13 : decode cX5_mark 13 = .ok (.ifCond .eq 7, 3) := by decide +kernel
theorem dX5_mark_16 : decode cX5_mark 16 = .ok (.iload_n 3, 1) := by decide +kernel
theorem dX5_mark_17 : decode cX5_mark 17 = .ok (.ifCond .ne 5, 3) := by decide +kernel
theorem dX5_mark_20 : decode cX5_mark 20 = .ok (.iconst (-1), 1) := by decide +kernel
theorem dX5_mark_21 : decode cX5_mark 21 = .ok (.ireturn, 1) := by decide +kernel
theorem dX5_mark_22 : decode cX5_mark 22 = .ok (.aload_n 0, 1) := by decide +kernel
theorem dX5_mark_23 : decode cX5_mark 23 = .ok (.getfield 26, 3) := by decide +kernel
theorem dX5_mark_26 : decode cX5_mark 26 = .ok (.getfield 125, 3) := by decide +kernel
theorem dX5_mark_29 : decode cX5_mark 29 = .ok (.iload_n 1, 1) := by decide +kernel
theorem dX5_mark_30 : decode cX5_mark 30 = .ok (.iload_n 2, 1) := by decide +kernel
theorem dX5_mark_31 : decode cX5_mark 31 = .ok (.invokevirtual 137, 3) := by decide +kernel
theorem dX5_mark_34 : decode cX5_mark 34 = .ok (.ifCond .ne 9, 3) := by decide +kernel
theorem dX5_mark_37 : decode cX5_mark 37 = .ok (.aload_n 0, 1) := by decide +kernel
theorem dX5_mark_38 : decode cX5_mark 38 = .ok (.iconst 2, 1) := by decide +kernel
theorem dX5_mark_39 : decode cX5_mark 39 = .ok (.invokevirtual 67, 3) := by decide +kernel
theorem dX5_mark_42 : decode cX5_mark 42 = .ok (.ireturn, 1) := by decide +kernel
theorem dX5_mark_43 : decode cX5_mark 43 = .ok (.aload_n 0, 1) := by decide +kernel
theorem dX5_mark_44 : decode cX5_mark 44 = .ok (.getfield 26, 3) := by decide +kernel
theorem dX5_mark_47 : decode cX5_mark 47 = .ok (.getfield 125, 3) := by decide +kernel
theorem dX5_mark_50 : decode cX5_mark 50 = .ok (.iload_n 1, 1) := by decide +kernel
theorem dX5_mark_51 : decode cX5_mark 51 = .ok (.iload_n 2, 1) := by decide +kernel
theorem dX5_mark_52 : decode cX5_mark 52 = .ok (.invokevirtual 148, 3) := by decide +kernel
theorem dX5_mark_55 : decode cX5_mark 55 = .ok (.iload_n 3, 1) := by decide +kernel
theorem dX5_mark_56 : decode cX5_mark 56 = .ok (.invokestatic 151, 3) := by decide +kernel
theorem dX5_mark_59 : decode cX5_mark 59 = .ok (.ifCond .ne 9, 3) := by decide +kernel
theorem dX5_mark_62 : decode cX5_mark 62 = .ok (.aload_n 0, 1) := by decide +kernel
theorem dX5_mark_63 : decode cX5_mark 63 = .ok (.iconst 3, 1) := by decide +kernel
theorem dX5_mark_64 : decode cX5_mark 64 = .ok (.invokevirtual 67, 3) := by decide +kernel
theorem dX5_mark_67 : decode cX5_mark 67 = .ok (.ireturn, 1) := by decide +kernel
theorem dX5_mark_68 : decode cX5_mark 68 = .ok (.aload_n 0, 1) := by decide +kernel
theorem dX5_mark_69 : decode cX5_mark 69 = .ok (.iload_n 1, 1) := by decide +kernel
theorem dX5_mark_70 : decode cX5_mark 70 = .ok (.iload_n 2, 1) := by decide +kernel
theorem dX5_mark_71 : decode cX5_mark 71 = .ok (.iload_n 3, 1) := by decide +kernel
theorem dX5_mark_72 : decode cX5_mark 72 = .ok (.invokevirtual 154, 3) := by decide +kernel
theorem dX5_mark_75 : decode cX5_mark 75 = .ok (.ireturn, 1) := by decide +kernel
theorem dX5_bear_0 : decode cX5_bear 0 = .ok (.aload_n 0, 1) := by decide +kernel
theorem dX5_bear_1 : decode cX5_bear 1 = .ok (.iload_n 1, 1) := by decide +kernel
theorem dX5_bear_2 : decode cX5_bear 2 = .ok (.iload_n 2, 1) := by decide +kernel
theorem dX5_bear_3 : decode cX5_bear 3 = .ok (.invokevirtual 134, 3) := by decide +kernel
theorem dX5_bear_6 : decode cX5_bear 6 = .ok (.ifCond .ne 10, 3) := by decide +kernel
theorem dX5_bear_9 : decode cX5_bear 9 = .ok (.iload_n 3, 1) := by decide +kernel
theorem dX5_bear_10 : decode cX5_bear 10 = .ok (.invokestatic 157, 3) := by decide +kernel
theorem dX5_bear_13 : decode cX5_bear 13 = .ok (.ifCond .ne 5, 3) := by decide +kernel
theorem dX5_bear_16 : decode cX5_bear 16 = .ok (.iconst (-1), 1) := by decide +kernel
theorem dX5_bear_17 : decode cX5_bear 17 = .ok (.ireturn, 1) := by decide +kernel
theorem dX5_bear_18 : decode cX5_bear 18 = .ok (.aload_n 0, 1) := by decide +kernel
theorem dX5_bear_19 : decode cX5_bear 19 = .ok (.getfield 26, 3) := by decide +kernel
theorem dX5_bear_22 : decode cX5_bear 22 = .ok (.getfield 125, 3) := by decide +kernel
theorem dX5_bear_25 : decode cX5_bear 25 = .ok (.iload_n 1, 1) := by decide +kernel
theorem dX5_bear_26 : decode cX5_bear 26 = .ok (.iload_n 2, 1) := by decide +kernel
theorem dX5_bear_27 : decode cX5_bear 27 = .ok (.invokevirtual 137, 3) := by decide +kernel
theorem dX5_bear_30 : decode cX5_bear 30 = .ok (.ifCond .ne 9, 3) := by decide +kernel
theorem dX5_bear_33 : decode cX5_bear 33 = .ok (.aload_n 0, 1) := by decide +kernel
theorem dX5_bear_34 : decode cX5_bear 34 = .ok (.iconst 2, 1) := by decide +kernel
theorem dX5_bear_35 : decode cX5_bear 35 = .ok (.invokevirtual 67, 3) := by decide +kernel
theorem dX5_bear_38 : decode cX5_bear 38 = .ok (.ireturn, 1) := by decide +kernel
theorem dX5_bear_39 : decode cX5_bear 39 = .ok (.aload_n 0, 1) := by decide +kernel
theorem dX5_bear_40 : decode cX5_bear 40 = .ok (.getfield 26, 3) := by decide +kernel
theorem dX5_bear_43 : decode cX5_bear 43 = .ok (.getfield 125, 3) := by decide +kernel
theorem dX5_bear_46 : decode cX5_bear 46 = .ok (.iload_n 1, 1) := by decide +kernel
theorem dX5_bear_47 : decode cX5_bear 47 = .ok (.iload_n 2, 1) := by decide +kernel
theorem dX5_bear_48 : decode cX5_bear 48 = .ok (.invokevirtual 160, 3) := by decide +kernel
theorem dX5_bear_51 : decode cX5_bear 51 = .ok (.istore 4, 2) := by decide +kernel
theorem dX5_bear_53 : decode cX5_bear 53 = .ok (.aload_n 0, 1) := by decide +kernel
theorem dX5_bear_54 : decode cX5_bear 54 = .ok (.getfield 26, 3) := by decide +kernel
theorem dX5_bear_57 : decode cX5_bear 57 = .ok (.getfield 125, 3) := by decide +kernel
theorem dX5_bear_60 : decode cX5_bear 60 = .ok (.iload_n 1, 1) := by decide +kernel
theorem dX5_bear_61 : decode cX5_bear 61 = .ok (.iload_n 2, 1) := by decide +kernel
theorem dX5_bear_62 : decode cX5_bear 62 = .ok (.aload_n 0, 1) := by decide +kernel
theorem dX5_bear_63 : decode cX5_bear 63 = .ok (.getfield 26, 3) := by decide +kernel
theorem dX5_bear_66 : decode cX5_bear 66 = .ok (.getfield 125, 3) := by decide +kernel
theorem dX5_bear_69 : decode cX5_bear 69 = .ok (.iload_n 1, 1) := by decide +kernel
theorem dX5_bear_70 : decode cX5_bear 70 = .ok (.iload_n 2, 1) := by decide +kernel
theorem dX5_bear_71 : decode cX5_bear 71 = .ok (.invokevirtual 148, 3) := by decide +kernel
theorem dX5_bear_74 : decode cX5_bear 74 = .ok (.iload_n 3, 1) := by decide +kernel
theorem dX5_bear_75 : decode cX5_bear 75 = .ok (.invokevirtual 163, 3) := by decide +kernel
theorem dX5_bear_78 : decode cX5_bear 78 = .ok (.iload 4, 2) := by decide +kernel
theorem dX5_bear_80 : decode cX5_bear 80 = .ok (.ireturn, 1) := by decide +kernel
theorem dX5_build_0 : decode cX5_build 0 = .ok (.aload_n 0, 1) := by decide +kernel
theorem dX5_build_1 : decode cX5_build 1 = .ok (.getfield 26, 3) := by decide +kernel
theorem dX5_build_4 : decode cX5_build 4 = .ok (.getfield 125, 3) := by decide +kernel
theorem dX5_build_7 : decode cX5_build 7 = .ok (.iload_n 1, 1) := by decide +kernel
theorem dX5_build_8 : decode cX5_build 8 = .ok (.invokevirtual 128, 3) := by decide +kernel
theorem dX5_build_11 : decode cX5_build 11 = .ok (.ifCond .eq 17, 3) := by decide +kernel
theorem dX5_build_14 : decode cX5_build 14 = .ok (.iload_n 2, 1) := by decide +kernel
theorem dX5_build_15 : decode cX5_build 15 = .ok (.invokestatic 145, 3) := by decide +kernel
theorem dX5_build_18 : decode cX5_build 18 = .ok (.ifCond .eq 10, 3) := by decide +kernel
theorem dX5_build_21 : decode cX5_build 21 = .ok (.iload_n 3, 1) := by decide +kernel
theorem dX5_build_22 : decode cX5_build 22 = .ok (.invokestatic 157, 3) := by decide +kernel
theorem dX5_build_25 : decode cX5_build 25 = .ok (.ifCond .ne 5, 3) := by decide +kernel
theorem dX5_build_28 : decode cX5_build 28 = .ok (.iconst (-1), 1) := by decide +kernel
theorem dX5_build_29 : decode cX5_build 29 = .ok (.ireturn, 1) := by decide +kernel
theorem dX5_build_30 : decode cX5_build 30 = .ok (.aload_n 0, 1) := by decide +kernel
theorem dX5_build_31 : decode cX5_build 31 = .ok (.getfield 26, 3) := by decide +kernel
theorem dX5_build_34 : decode cX5_build 34 = .ok (.getfield 125, 3) := by decide +kernel
theorem dX5_build_37 : decode cX5_build 37 = .ok (.iload_n 1, 1) := by decide +kernel
theorem dX5_build_38 : decode cX5_build 38 = .ok (.invokevirtual 167, 3) := by decide +kernel
theorem dX5_build_41 : decode cX5_build 41 = .ok (.ifCond .eq 14, 3) := by decide +kernel
theorem dX5_build_44 : decode cX5_build 44 = .ok (.aload_n 0, 1) := by decide +kernel
theorem dX5_build_45 : decode cX5_build 45 = .ok (.getfield 26, 3) := by decide +kernel
theorem dX5_build_48 : decode cX5_build 48 = .ok (.iconst 1, 1) := by decide +kernel
theorem dX5_build_49 : decode cX5_build 49 = .ok (.invokevirtual 170, 3) := by decide +kernel
theorem dX5_build_52 : decode cX5_build 52 = .ok (.ifCond .ne 6, 3) := by decide +kernel
theorem dX5_build_55 : decode cX5_build 55 = .ok (.bipush (-2), 2) := by decide +kernel
theorem dX5_build_57 : decode cX5_build 57 = .ok (.ireturn, 1) := by decide +kernel
theorem dX5_build_58 : decode cX5_build 58 = .ok (.aload_n 0, 1) := by decide +kernel
theorem dX5_build_59 : decode cX5_build 59 = .ok (.getfield 26, 3) := by decide +kernel
theorem dX5_build_62 : decode cX5_build 62 = .ok (.invokevirtual 173, 3) := by decide +kernel
theorem dX5_build_65 : decode cX5_build 65 = .ok (.aload_n 0, 1) := by decide +kernel
theorem dX5_build_66 : decode cX5_build 66 = .ok (.getfield 26, 3) := by decide +kernel
theorem dX5_build_69 : decode cX5_build 69 = .ok (.getfield 125, 3) := by decide +kernel
theorem dX5_build_72 : decode cX5_build 72 = .ok (.iload_n 1, 1) := by decide +kernel
theorem dX5_build_73 : decode cX5_build 73 = .ok (.iload_n 2, 1) := by decide +kernel
theorem dX5_build_74 : decode cX5_build 74 = .ok (.iload_n 3, 1) := by decide +kernel
theorem dX5_build_75 : decode cX5_build 75 = .ok (.invokevirtual 176, 3) := by decide +kernel
theorem dX5_build_78 : decode cX5_build 78 = .ok (.pop, 1) := by decide +kernel
theorem dX5_build_79 : decode cX5_build 79 = .ok (.aload_n 0, 1) := by decide +kernel
theorem dX5_build_80 : decode cX5_build 80 = .ok (.getfield 26, 3) := by decide +kernel
theorem dX5_build_83 : decode cX5_build 83 = .ok (.getfield 125, 3) := by decide +kernel
theorem dX5_build_86 : decode cX5_build 86 = .ok (.iload_n 1, 1) := by decide +kernel
theorem dX5_build_87 : decode cX5_build 87 = .ok (.invokevirtual 131, 3) := by decide +kernel
theorem dX5_build_90 : decode cX5_build 90 = .ok (.iconst 1, 1) := by decide +kernel
theorem dX5_build_91 : decode cX5_build 91 = .ok (.isub, 1) := by decide +kernel
theorem dX5_build_92 : decode cX5_build 92 = .ok (.ireturn, 1) := by decide +kernel
theorem dX5_leave_0 : decode cX5_leave 0 = .ok (.aload_n 0, 1) := by decide +kernel
theorem dX5_leave_1 : decode cX5_leave 1 = .ok (.iload_n 1, 1) := by decide +kernel
theorem dX5_leave_2 : decode cX5_leave 2 = .ok (.iload_n 2, 1) := by decide +kernel
theorem dX5_leave_3 : decode cX5_leave 3 = .ok (.invokevirtual 134, 3) := by decide +kernel
theorem dX5_leave_6 : decode cX5_leave 6 = .ok (.ifCond .eq 5, 3) := by decide +kernel
theorem dX5_leave_9 : decode cX5_leave 9 = .ok (.iconst (-1), 1) := by decide +kernel
theorem dX5_leave_10 : decode cX5_leave 10 = .ok (.ireturn, 1) := by decide +kernel
theorem dX5_leave_11 : decode cX5_leave 11 = .ok (.aload_n 0, 1) := by decide +kernel
theorem dX5_leave_12 : decode cX5_leave 12 = .ok (.getfield 26, 3) := by decide +kernel
theorem dX5_leave_15 : decode cX5_leave 15 = .ok (.getfield 125, 3) := by decide +kernel
theorem dX5_leave_18 : decode cX5_leave 18 = .ok (.iload_n 1, 1) := by decide +kernel
theorem dX5_leave_19 : decode cX5_leave 19 = .ok (.iload_n 2, 1) := by decide +kernel
theorem dX5_leave_20 : decode cX5_leave 20 = .ok (.invokevirtual 137, 3) := by decide +kernel
theorem dX5_leave_23 : decode cX5_leave 23 = .ok (.ifCond .ne 9, 3) := by decide +kernel
theorem dX5_leave_26 : decode cX5_leave 26 = .ok (.aload_n 0, 1) := by decide +kernel
theorem dX5_leave_27 : decode cX5_leave 27 = .ok (.iconst 2, 1) := by decide +kernel
theorem dX5_leave_28 : decode cX5_leave 28 = .ok (.invokevirtual 67, 3) := by decide +kernel
theorem dX5_leave_31 : decode cX5_leave 31 = .ok (.ireturn, 1) := by decide +kernel
theorem dX5_leave_32 : decode cX5_leave 32 = .ok (.aload_n 0, 1) := by decide +kernel
theorem dX5_leave_33 : decode cX5_leave 33 = .ok (.getfield 26, 3) := by decide +kernel
theorem dX5_leave_36 : decode cX5_leave 36 = .ok (.iconst 1, 1) := by decide +kernel
theorem dX5_leave_37 : decode cX5_leave 37 = .ok (.invokevirtual 170, 3) := by decide +kernel
theorem dX5_leave_40 : decode cX5_leave 40 = .ok (.ifCond .ne 6, 3) := by decide +kernel
theorem dX5_leave_43 : decode cX5_leave 43 = .ok (.bipush (-2), 2) := by decide +kernel
theorem dX5_leave_45 : decode cX5_leave 45 = .ok (.ireturn, 1) := by decide +kernel
theorem dX5_leave_46 : decode cX5_leave 46 = .ok (.aload_n 0, 1) := by decide +kernel
theorem dX5_leave_47 : decode cX5_leave 47 = .ok (.getfield 26, 3) := by decide +kernel
theorem dX5_leave_50 : decode cX5_leave 50 = .ok (.invokevirtual 173, 3) := by decide +kernel
theorem dX5_leave_53 : decode cX5_leave 53 = .ok (.aload_n 0, 1) := by decide +kernel
theorem dX5_leave_54 : decode cX5_leave 54 = .ok (.getfield 26, 3) := by decide +kernel
theorem dX5_leave_57 : decode cX5_leave 57 = .ok (.getfield 125, 3) := by decide +kernel
theorem dX5_leave_60 : decode cX5_leave 60 = .ok (.iload_n 1, 1) := by decide +kernel
theorem dX5_leave_61 : decode cX5_leave 61 = .ok (.iload_n 2, 1) := by decide +kernel
theorem dX5_leave_62 : decode cX5_leave 62 = .ok (.invokevirtual 179, 3) := by decide +kernel
theorem dX5_leave_65 : decode cX5_leave 65 = .ok (.aload_n 0, 1) := by decide +kernel
theorem dX5_leave_66 : decode cX5_leave 66 = .ok (.getfield 26, 3) := by decide +kernel
theorem dX5_leave_69 : decode cX5_leave 69 = .ok (.getfield 125, 3) := by decide +kernel
theorem dX5_leave_72 : decode cX5_leave 72 = .ok (.iload_n 1, 1) := by decide +kernel
theorem dX5_leave_73 : decode cX5_leave 73 = .ok (.invokevirtual 131, 3) := by decide +kernel
theorem dX5_leave_76 : decode cX5_leave 76 = .ok (.iload_n 2, 1) := by decide +kernel
theorem dX5_leave_77 : decode cX5_leave 77 = .ok (.isub, 1) := by decide +kernel
theorem dX5_leave_78 : decode cX5_leave 78 = .ok (.ireturn, 1) := by decide +kernel
theorem dX5_undo_0 : decode cX5_undo 0 = .ok (.iload_n 1, 1) := by decide +kernel
theorem dX5_undo_1 : decode cX5_undo 1 = .ok (.ifCond .lt 14, 3) := by decide +kernel
theorem dX5_undo_4 : decode cX5_undo 4 = .ok (.iload_n 1, 1) := by decide +kernel
theorem dX5_undo_5 : decode cX5_undo 5 = .ok (.aload_n 0, 1) := by decide +kernel
theorem dX5_undo_6 : decode cX5_undo 6 = .ok (.getfield 26, 3) := by decide +kernel
theorem dX5_undo_9 : decode cX5_undo 9 = .ok (.getfield 182, 3) := by decide +kernel
theorem dX5_undo_12 : decode cX5_undo 12 = .ok (.if_icmp .le 5, 3) := by decide +kernel
theorem dX5_undo_15 : decode cX5_undo 15 = .ok (.iconst (-1), 1) := by decide +kernel
theorem dX5_undo_16 : decode cX5_undo 16 = .ok (.ireturn, 1) := by decide +kernel
theorem dX5_undo_17 : decode cX5_undo 17 = .ok (.aload_n 0, 1) := by decide +kernel
theorem dX5_undo_18 : decode cX5_undo 18 = .ok (.getfield 26, 3) := by decide +kernel
theorem dX5_undo_21 : decode cX5_undo 21 = .ok (.getfield 182, 3) := by decide +kernel
theorem dX5_undo_24 : decode cX5_undo 24 = .ok (.iload_n 1, 1) := by decide +kernel
theorem dX5_undo_25 : decode cX5_undo 25 = .ok (.isub, 1) := by decide +kernel
theorem dX5_undo_26 : decode cX5_undo 26 = .ok (.istore_n 2, 1) := by decide +kernel
theorem dX5_undo_27 : decode cX5_undo 27 = .ok (.aload_n 0, 1) := by decide +kernel
theorem dX5_undo_28 : decode cX5_undo 28 = .ok (.getfield 26, 3) := by decide +kernel
theorem dX5_undo_31 : decode cX5_undo 31 = .ok (.iload_n 1, 1) := by decide +kernel
theorem dX5_undo_32 : decode cX5_undo 32 = .ok (.invokevirtual 185, 3) := by decide +kernel
theorem dX5_undo_35 : decode cX5_undo 35 = .ok (.iload_n 2, 1) := by decide +kernel
theorem dX5_undo_36 : decode cX5_undo 36 = .ok (.ireturn, 1) := by decide +kernel
theorem dX5_keep_0 : decode cX5_keep 0 = .ok (.aload_n 0, 1) := by decide +kernel
theorem dX5_keep_1 : decode cX5_keep 1 = .ok (.iload_n 1, 1) := by decide +kernel
theorem dX5_keep_2 : decode cX5_keep 2 = .ok (.invokevirtual 188, 3) := by decide +kernel
theorem dX5_keep_5 : decode cX5_keep 5 = .ok (.astore_n 2, 1) := by decide +kernel
theorem dX5_keep_6 : decode cX5_keep 6 = .ok (.aload_n 2, 1) := by decide +kernel
theorem dX5_keep_7 : decode cX5_keep 7 = .ok (.ifnonnull 5, 3) := by decide +kernel
theorem dX5_keep_10 : decode cX5_keep 10 = .ok (.iconst (-1), 1) := by decide +kernel
theorem dX5_keep_11 : decode cX5_keep 11 = .ok (.ireturn, 1) := by decide +kernel
theorem dX5_keep_12 : decode cX5_keep 12 = .ok (.aload_n 0, 1) := by decide +kernel
theorem dX5_keep_13 : decode cX5_keep 13 = .ok (.getfield 26, 3) := by decide +kernel
theorem dX5_keep_16 : decode cX5_keep 16 = .ok (.getfield 125, 3) := by decide +kernel
theorem dX5_keep_19 : decode cX5_keep 19 = .ok (.invokevirtual 121, 3) := by decide +kernel
theorem dX5_keep_22 : decode cX5_keep 22 = .ok (.ifCond .ne 6, 3) := by decide +kernel
theorem dX5_keep_25 : decode cX5_keep 25 = .ok (.bipush (-4), 2) := by decide +kernel
theorem dX5_keep_27 : decode cX5_keep 27 = .ok (.ireturn, 1) := by decide +kernel
theorem dX5_keep_28 : decode cX5_keep 28 = .ok (.aload_n 2, 1) := by decide +kernel
theorem dX5_keep_29 : decode cX5_keep 29 = .ok (.aload_n 0, 1) := by decide +kernel
theorem dX5_keep_30 : decode cX5_keep 30 = .ok (.getfield 26, 3) := by decide +kernel
theorem dX5_keep_33 : decode cX5_keep 33 = .ok (.invokevirtual 192, 3) := by decide +kernel
theorem dX5_keep_36 : decode cX5_keep 36 = .ok (.aload_n 0, 1) := by decide +kernel
theorem dX5_keep_37 : decode cX5_keep 37 = .ok (.getfield 26, 3) := by decide +kernel
theorem dX5_keep_40 : decode cX5_keep 40 = .ok (.getfield 182, 3) := by decide +kernel
theorem dX5_keep_43 : decode cX5_keep 43 = .ok (.ireturn, 1) := by decide +kernel
theorem dX5_on_0 : decode cX5_on 0 = .ok (.aload_n 0, 1) := by decide +kernel
theorem dX5_on_1 : decode cX5_on 1 = .ok (.iload_n 1, 1) := by decide +kernel
theorem dX5_on_2 : decode cX5_on 2 = .ok (.invokevirtual 188, 3) := by decide +kernel
theorem dX5_on_5 : decode cX5_on 5 = .ok (.astore_n 2, 1) := by decide +kernel
theorem dX5_on_6 : decode cX5_on 6 = .ok (.aload_n 2, 1) := by decide +kernel
theorem dX5_on_7 : decode cX5_on 7 = .ok (.ifnonnull 5, 3) := by decide +kernel
theorem dX5_on_10 : decode cX5_on 10 = .ok (.iconst (-1), 1) := by decide +kernel
theorem dX5_on_11 : decode cX5_on 11 = .ok (.ireturn, 1) := by decide +kernel
theorem dX5_on_12 : decode cX5_on 12 = .ok (.aload_n 2, 1) := by decide +kernel
theorem dX5_on_13 : decode cX5_on 13 = .ok (.invokevirtual 196, 3) := by decide +kernel
theorem dX5_on_16 : decode cX5_on 16 = .ok (.ifCond .ne 9, 3) := by decide +kernel
theorem dX5_on_19 : decode cX5_on 19 = .ok (.aload_n 0, 1) := by decide +kernel
theorem dX5_on_20 : decode cX5_on 20 = .ok (.iconst 1, 1) := by decide +kernel
theorem dX5_on_21 : decode cX5_on 21 = .ok (.invokevirtual 67, 3) := by decide +kernel
theorem dX5_on_24 : decode cX5_on 24 = .ok (.ireturn, 1) := by decide +kernel
theorem dX5_on_25 : decode cX5_on 25 = .ok (.aload_n 0, 1) := by decide +kernel
theorem dX5_on_26 : decode cX5_on 26 = .ok (.getfield 26, 3) := by decide +kernel
theorem dX5_on_29 : decode cX5_on 29 = .ok (.aload_n 2, 1) := by decide +kernel
theorem dX5_on_30 : decode cX5_on 30 = .ok (.invokevirtual 192, 3) := by decide +kernel
theorem dX5_on_33 : decode cX5_on 33 = .ok (.aload_n 0, 1) := by decide +kernel
theorem dX5_on_34 : decode cX5_on 34 = .ok (.getfield 26, 3) := by decide +kernel
theorem dX5_on_37 : decode cX5_on 37 = .ok (.getfield 182, 3) := by decide +kernel
theorem dX5_on_40 : decode cX5_on 40 = .ok (.ireturn, 1) := by decide +kernel
theorem dX5_shades_0 : decode cX5_shades 0 = .ok (.aload_n 0, 1) := by decide +kernel
theorem dX5_shades_1 : decode cX5_shades 1 = .ok (.iload_n 1, 1) := by decide +kernel
theorem dX5_shades_2 : decode cX5_shades 2 = .ok (.iload_n 2, 1) := by decide +kernel
theorem dX5_shades_3 : decode cX5_shades 3 = .ok (.invokevirtual 134, 3) := by decide +kernel
theorem dX5_shades_6 : decode cX5_shades 6 = .ok (.ifCond .ne 12, 3) := by decide +kernel
theorem dX5_shades_9 : decode cX5_shades 9 = .ok (.iload_n 3, 1) := by decide +kernel
theorem dX5_shades_10 : decode cX5_shades 10 = .ok (.ifCond .lt 8, 3) := by decide +kernel
theorem dX5_shades_13 : decode cX5_shades 13 = .ok (.iload_n 3, 1) := by decide +kernel
theorem dX5_shades_14 : decode cX5_shades 14 = .ok (.iconst 5, 1) := by decide +kernel
theorem dX5_shades_15 : decode cX5_shades 15 = .ok (.if_icmp .lt 5, 3) := by decide +kernel
theorem dX5_shades_18 : decode cX5_shades 18 = .ok (.iconst (-1), 1) := by decide +kernel
theorem dX5_shades_19 : decode cX5_shades 19 = .ok (.ireturn, 1) := by decide +kernel
theorem dX5_shades_20 : decode cX5_shades 20 = .ok (.aload_n 0, 1) := by decide +kernel
theorem dX5_shades_21 : decode cX5_shades 21 = .ok (.getfield 26, 3) := by decide +kernel
theorem dX5_shades_24 : decode cX5_shades 24 = .ok (.getfield 125, 3) := by decide +kernel
theorem dX5_shades_27 : decode cX5_shades 27 = .ok (.iload_n 1, 1) := by decide +kernel
theorem dX5_shades_28 : decode cX5_shades 28 = .ok (.iload_n 2, 1) := by decide +kernel
theorem dX5_shades_29 : decode cX5_shades 29 = .ok (.invokevirtual 137, 3) := by decide +kernel
theorem dX5_shades_32 : decode cX5_shades 32 = .ok (.ifCond .ne 9, 3) := by decide +kernel
theorem dX5_shades_35 : decode cX5_shades 35 = .ok (.aload_n 0, 1) := by decide +kernel
theorem dX5_shades_36 : decode cX5_shades 36 = .ok (.iconst 2, 1) := by decide +kernel
theorem dX5_shades_37 : decode cX5_shades 37 = .ok (.invokevirtual 67, 3) := by decide +kernel
theorem dX5_shades_40 : decode cX5_shades 40 = .ok (.ireturn, 1) := by decide +kernel
theorem dX5_shades_41 : decode cX5_shades 41 = .ok (.aload_n 0, 1) := by decide +kernel
theorem dX5_shades_42 : decode cX5_shades 42 = .ok (.getfield 26, 3) := by decide +kernel
theorem dX5_shades_45 : decode cX5_shades 45 = .ok (.getfield 125, 3) := by decide +kernel
theorem dX5_shades_48 : decode cX5_shades 48 = .ok (.iload_n 1, 1) := by decide +kernel
theorem dX5_shades_49 : decode cX5_shades 49 = .ok (.iload_n 2, 1) := by decide +kernel
theorem dX5_shades_50 : decode cX5_shades 50 = .ok (.iload_n 3, 1) := by decide +kernel
theorem dX5_shades_51 : decode cX5_shades 51 = .ok (.invokevirtual 199, 3) := by decide +kernel
theorem dX5_shades_54 : decode cX5_shades 54 = .ok (.ireturn, 1) := by decide +kernel
theorem dX5_sees_0 : decode cX5_sees 0 = .ok (.aload_n 0, 1) := by decide +kernel
theorem dX5_sees_1 : decode cX5_sees 1 = .ok (.iload_n 1, 1) := by decide +kernel
theorem dX5_sees_2 : decode cX5_sees 2 = .ok (.iload_n 2, 1) := by decide +kernel
theorem dX5_sees_3 : decode cX5_sees 3 = .ok (.invokevirtual 134, 3) := by decide +kernel
theorem dX5_sees_6 : decode cX5_sees 6 = .ok (.ifCond .eq 5, 3) := by decide +kernel
theorem dX5_sees_9 : decode cX5_sees 9 = .ok (.iconst (-1), 1) := by decide +kernel
theorem dX5_sees_10 : decode cX5_sees 10 = .ok (.ireturn, 1) := by decide +kernel
theorem dX5_sees_11 : decode cX5_sees 11 = .ok (.aload_n 0, 1) := by decide +kernel
theorem dX5_sees_12 : decode cX5_sees 12 = .ok (.getfield 26, 3) := by decide +kernel
theorem dX5_sees_15 : decode cX5_sees 15 = .ok (.getfield 125, 3) := by decide +kernel
theorem dX5_sees_18 : decode cX5_sees 18 = .ok (.iload_n 1, 1) := by decide +kernel
theorem dX5_sees_19 : decode cX5_sees 19 = .ok (.iload_n 2, 1) := by decide +kernel
theorem dX5_sees_20 : decode cX5_sees 20 = .ok (.invokevirtual 137, 3) := by decide +kernel
theorem dX5_sees_23 : decode cX5_sees 23 = .ok (.ifCond .ne 9, 3) := by decide +kernel
theorem dX5_sees_26 : decode cX5_sees 26 = .ok (.aload_n 0, 1) := by decide +kernel
theorem dX5_sees_27 : decode cX5_sees 27 = .ok (.iconst 2, 1) := by decide +kernel
theorem dX5_sees_28 : decode cX5_sees 28 = .ok (.invokevirtual 67, 3) := by decide +kernel
theorem dX5_sees_31 : decode cX5_sees 31 = .ok (.ireturn, 1) := by decide +kernel
theorem dX5_sees_32 : decode cX5_sees 32 = .ok (.aload_n 0, 1) := by decide +kernel
theorem dX5_sees_33 : decode cX5_sees 33 = .ok (.aload_n 0, 1) := by decide +kernel
theorem dX5_sees_34 : decode cX5_sees 34 = .ok (.getfield 26, 3) := by decide +kernel
theorem dX5_sees_37 : decode cX5_sees 37 = .ok (.getfield 125, 3) := by decide +kernel
theorem dX5_sees_40 : decode cX5_sees 40 = .ok (.iload_n 1, 1) := by decide +kernel
theorem dX5_sees_41 : decode cX5_sees 41 = .ok (.iload_n 2, 1) := by decide +kernel
theorem dX5_sees_42 : decode cX5_sees 42 = .ok (.invokevirtual 202, 3) := by decide +kernel
theorem dX5_sees_45 : decode cX5_sees 45 = .ok (.putfield 86, 3) := by decide +kernel
theorem dX5_sees_48 : decode cX5_sees 48 = .ok (.aload_n 0, 1) := by decide +kernel
theorem dX5_sees_49 : decode cX5_sees 49 = .ok (.getfield 26, 3) := by decide +kernel
theorem dX5_sees_52 : decode cX5_sees 52 = .ok (.getfield 125, 3) := by decide +kernel
theorem dX5_sees_55 : decode cX5_sees 55 = .ok (.iload_n 1, 1) := by decide +kernel
theorem dX5_sees_56 : decode cX5_sees 56 = .ok (.iload_n 2, 1) := by decide +kernel
theorem dX5_sees_57 : decode cX5_sees 57 = .ok (.invokevirtual 205, 3) := by decide +kernel
theorem dX5_sees_60 : decode cX5_sees 60 = .ok (.ireturn, 1) := by decide +kernel
theorem dX5_owes_0 : decode cX5_owes 0 = .ok (.aload_n 0, 1) := by decide +kernel
theorem dX5_owes_1 : decode cX5_owes 1 = .ok (.getfield 26, 3) := by decide +kernel
theorem dX5_owes_4 : decode cX5_owes 4 = .ok (.getfield 125, 3) := by decide +kernel
theorem dX5_owes_7 : decode cX5_owes 7 = .ok (.iload_n 1, 1) := by decide +kernel
theorem dX5_owes_8 : decode cX5_owes 8 = .ok (.invokevirtual 208, 3) := by decide +kernel
theorem dX5_owes_11 : decode cX5_owes 11 = .ok (.ifCond .eq 22, 3) := by decide +kernel
theorem dX5_owes_14 : decode cX5_owes 14 = .ok (.aload_n 0, 1) := by decide +kernel
theorem dX5_owes_15 : decode cX5_owes 15 = .ok (.getfield 26, 3) := by decide +kernel
theorem dX5_owes_18 : decode cX5_owes 18 = .ok (.getfield 125, 3) := by decide +kernel
theorem dX5_owes_21 : decode cX5_owes 21 = .ok (.iload_n 2, 1) := by decide +kernel
theorem dX5_owes_22 : decode cX5_owes 22 = .ok (.invokevirtual 208, 3) := by decide +kernel
theorem dX5_owes_25 : decode cX5_owes 25 = .ok (.ifCond .eq 8, 3) := by decide +kernel
theorem dX5_owes_28 : decode cX5_owes 28 = .ok (.iload_n 1, 1) := by decide +kernel
theorem dX5_owes_29 : decode cX5_owes 29 = .ok (.iload_n 2, 1) := by decide +kernel
theorem dX5_owes_30 : decode cX5_owes 30 = .ok (.if_icmp .ne 5, 3) := by decide +kernel
theorem dX5_owes_33 : decode cX5_owes 33 = .ok (.iconst (-1), 1) := by decide +kernel
theorem dX5_owes_34 : decode cX5_owes 34 = .ok (.ireturn, 1) := by decide +kernel
theorem dX5_owes_35 : decode cX5_owes 35 = .ok (.aload_n 0, 1) := by decide +kernel
theorem dX5_owes_36 : decode cX5_owes 36 = .ok (.getfield 44, 3) := by decide +kernel
theorem dX5_owes_39 : decode cX5_owes 39 = .ok (.aload_n 0, 1) := by decide +kernel
theorem dX5_owes_40 : decode cX5_owes 40 = .ok (.getfield 26, 3) := by decide +kernel
theorem dX5_owes_43 : decode cX5_owes 43 = .ok (.getfield 125, 3) := by decide +kernel
theorem dX5_owes_46 : decode cX5_owes 46 = .ok (.invokevirtual 138, 3) := by decide +kernel
theorem dX5_owes_49 : decode cX5_owes 49 = .ok (.aload_n 0, 1) := by decide +kernel
theorem dX5_owes_50 : decode cX5_owes 50 = .ok (.getfield 44, 3) := by decide +kernel
theorem dX5_owes_53 : decode cX5_owes 53 = .ok (.iload_n 1, 1) := by decide +kernel
theorem dX5_owes_54 : decode cX5_owes 54 = .ok (.iload_n 2, 1) := by decide +kernel
theorem dX5_owes_55 : decode cX5_owes 55 = .ok (.invokevirtual 211, 3) := by decide +kernel
theorem dX5_owes_58 : decode cX5_owes 58 = .ok (.ireturn, 1) := by decide +kernel
theorem dX5_debt_0 : decode cX5_debt 0 = .ok (.aload_n 0, 1) := by decide +kernel
theorem dX5_debt_1 : decode cX5_debt 1 = .ok (.getfield 26, 3) := by decide +kernel
theorem dX5_debt_4 : decode cX5_debt 4 = .ok (.getfield 125, 3) := by decide +kernel
theorem dX5_debt_7 : decode cX5_debt 7 = .ok (.iload_n 1, 1) := by decide +kernel
theorem dX5_debt_8 : decode cX5_debt 8 = .ok (.invokevirtual 208, 3) := by decide +kernel
theorem dX5_debt_11 : decode cX5_debt 11 = .ok (.ifCond .ne 5, 3) := by decide +kernel
theorem dX5_debt_14 : decode cX5_debt 14 = .ok (.iconst (-1), 1) := by decide +kernel
theorem dX5_debt_15 : decode cX5_debt 15 = .ok (.ireturn, 1) := by decide +kernel
theorem dX5_debt_16 : decode cX5_debt 16 = .ok (.aload_n 0, 1) := by decide +kernel
theorem dX5_debt_17 : decode cX5_debt 17 = .ok (.getfield 44, 3) := by decide +kernel
theorem dX5_debt_20 : decode cX5_debt 20 = .ok (.aload_n 0, 1) := by decide +kernel
theorem dX5_debt_21 : decode cX5_debt 21 = .ok (.getfield 26, 3) := by decide +kernel
theorem dX5_debt_24 : decode cX5_debt 24 = .ok (.getfield 125, 3) := by decide +kernel
theorem dX5_debt_27 : decode cX5_debt 27 = .ok (.invokevirtual 138, 3) := by decide +kernel
theorem dX5_debt_30 : decode cX5_debt 30 = .ok (.aload_n 0, 1) := by decide +kernel
theorem dX5_debt_31 : decode cX5_debt 31 = .ok (.aload_n 0, 1) := by decide +kernel
theorem dX5_debt_32 : decode cX5_debt 32 = .ok (.getfield 44, 3) := by decide +kernel
theorem dX5_debt_35 : decode cX5_debt 35 = .ok (.iload_n 1, 1) := by decide +kernel
theorem dX5_debt_36 : decode cX5_debt 36 = .ok (.invokevirtual 214, 3) := by decide +kernel
theorem dX5_debt_39 : decode cX5_debt 39 = .ok (.putfield 86, 3) := by decide +kernel
theorem dX5_debt_42 : decode cX5_debt 42 = .ok (.iconst 1, 1) := by decide +kernel
theorem dX5_debt_43 : decode cX5_debt 43 = .ok (.ireturn, 1) := by decide +kernel
theorem dX5_light_0 : decode cX5_light 0 = .ok (.aload_n 0, 1) := by decide +kernel
theorem dX5_light_1 : decode cX5_light 1 = .ok (.getfield 44, 3) := by decide +kernel
theorem dX5_light_4 : decode cX5_light 4 = .ok (.aload_n 0, 1) := by decide +kernel
theorem dX5_light_5 : decode cX5_light 5 = .ok (.getfield 26, 3) := by decide +kernel
theorem dX5_light_8 : decode cX5_light 8 = .ok (.getfield 125, 3) := by decide +kernel
theorem dX5_light_11 : decode cX5_light 11 = .ok (.invokevirtual 138, 3) := by decide +kernel
theorem dX5_light_14 : decode cX5_light 14 = .ok (.aload_n 0, 1) := by decide +kernel
theorem dX5_light_15 : decode cX5_light 15 = .ok (.aload_n 0, 1) := by decide +kernel
theorem dX5_light_16 : decode cX5_light 16 = .ok (.getfield 44, 3) := by decide +kernel
theorem dX5_light_19 : decode cX5_light 19 = .ok (.getfield 217, 3) := by decide +kernel
theorem dX5_light_22 : decode cX5_light 22 = .ok (.putfield 86, 3) := by decide +kernel
theorem dX5_light_25 : decode cX5_light 25 = .ok (.aload_n 0, 1) := by decide +kernel
theorem dX5_light_26 : decode cX5_light 26 = .ok (.getfield 44, 3) := by decide +kernel
theorem dX5_light_29 : decode cX5_light 29 = .ok (.invokevirtual 220, 3) := by decide +kernel
theorem dX5_light_32 : decode cX5_light 32 = .ok (.ireturn, 1) := by decide +kernel
theorem dX5_ruined_0 : decode cX5_ruined 0 = .ok (.aload_n 0, 1) := by decide +kernel
theorem dX5_ruined_1 : decode cX5_ruined 1 = .ok (.getfield 44, 3) := by decide +kernel
theorem dX5_ruined_4 : decode cX5_ruined 4 = .ok (.aload_n 0, 1) := by decide +kernel
theorem dX5_ruined_5 : decode cX5_ruined 5 = .ok (.getfield 26, 3) := by decide +kernel
theorem dX5_ruined_8 : decode cX5_ruined 8 = .ok (.getfield 125, 3) := by decide +kernel
theorem dX5_ruined_11 : decode cX5_ruined 11 = .ok (.invokevirtual 138, 3) := by decide +kernel
theorem dX5_ruined_14 : decode cX5_ruined 14 = .ok (.bipush (-9), 2) := by decide +kernel
theorem dX5_ruined_16 : decode cX5_ruined 16 = .ok (.istore_n 1, 1) := by decide +kernel
theorem dX5_ruined_17 : decode cX5_ruined 17 = .ok (.iconst 0, 1) := by decide +kernel
theorem dX5_ruined_18 : decode cX5_ruined 18 = .ok (.istore_n 2, 1) := by decide +kernel
theorem dX5_ruined_19 : decode cX5_ruined 19 = .ok (.iload_n 2, 1) := by decide +kernel
theorem dX5_ruined_20 : decode cX5_ruined 20 = .ok (.aload_n 0, 1) := by decide +kernel
theorem dX5_ruined_21 : decode cX5_ruined 21 = .ok (.getfield 26, 3) := by decide +kernel
theorem dX5_ruined_24 : decode cX5_ruined 24 = .ok (.getfield 125, 3) := by decide +kernel
theorem dX5_ruined_27 : decode cX5_ruined 27 = .ok (.invokevirtual 223, 3) := by decide +kernel
theorem dX5_ruined_30 : decode cX5_ruined 30 = .ok (.if_icmp .ge 36, 3) := by decide +kernel
theorem dX5_ruined_33 : decode cX5_ruined 33 = .ok (.iload_n 1, 1) := by decide +kernel
theorem dX5_ruined_34 : decode cX5_ruined 34 = .ok (.bipush (-9), 2) := by decide +kernel
theorem dX5_ruined_36 : decode cX5_ruined 36 = .ok (.if_icmp .eq 22, 3) := by decide +kernel
theorem dX5_ruined_39 : decode cX5_ruined 39 = .ok (.aload_n 0, 1) := by decide +kernel
theorem dX5_ruined_40 : decode cX5_ruined 40 = .ok (.getfield 44, 3) := by decide +kernel
theorem dX5_ruined_43 : decode cX5_ruined 43 = .ok (.iload_n 2, 1) := by decide +kernel
theorem dX5_ruined_44 : decode cX5_ruined 44 = .ok (.invokevirtual 226, 3) := by decide +kernel
theorem dX5_ruined_47 : decode cX5_ruined 47 = .ok (.aload_n 0, 1) := by decide +kernel
theorem dX5_ruined_48 : decode cX5_ruined 48 = .ok (.getfield 44, 3) := by decide +kernel
theorem dX5_ruined_51 : decode cX5_ruined 51 = .ok (.iload_n 1, 1) := by decide +kernel
theorem dX5_ruined_52 : decode cX5_ruined 52 = .ok (.invokevirtual 226, 3) := by decide +kernel
theorem dX5_ruined_55 : decode cX5_ruined 55 = .ok (.if_icmp .le 5, 3) := by decide +kernel
theorem dX5_ruined_58 : decode cX5_ruined 58 = .ok (.iload_n 2, 1) := by decide +kernel
theorem dX5_ruined_59 : decode cX5_ruined 59 = .ok (.istore_n 1, 1) := by decide +kernel
theorem dX5_ruined_60 : decode cX5_ruined 60 = .ok (.iinc 2 1, 3) := by decide +kernel
theorem dX5_ruined_63 : decode cX5_ruined 63 = .ok (.goto (-44), 3) := by decide +kernel
theorem dX5_ruined_66 : decode cX5_ruined 66 = .ok (.iload_n 1, 1) := by decide +kernel
theorem dX5_ruined_67 : decode cX5_ruined 67 = .ok (.bipush (-9), 2) := by decide +kernel
theorem dX5_ruined_69 : decode cX5_ruined 69 = .ok (.if_icmp .eq 15, 3) := by decide +kernel
theorem dX5_ruined_72 : decode cX5_ruined 72 = .ok (.aload_n 0, 1) := by decide +kernel
theorem dX5_ruined_73 : decode cX5_ruined 73 = .ok (.aload_n 0, 1) := by decide +kernel
theorem dX5_ruined_74 : decode cX5_ruined 74 = .ok (.getfield 44, 3) := by decide +kernel
theorem dX5_ruined_77 : decode cX5_ruined 77 = .ok (.iload_n 1, 1) := by decide +kernel
theorem dX5_ruined_78 : decode cX5_ruined 78 = .ok (.invokevirtual 226, 3) := by decide +kernel
theorem dX5_ruined_81 : decode cX5_ruined 81 = .ok (.putfield 86, 3) := by decide +kernel
theorem dX5_ruined_84 : decode cX5_ruined 84 = .ok (.iload_n 1, 1) := by decide +kernel
theorem dX5_ruined_85 : decode cX5_ruined 85 = .ok (.ireturn, 1) := by decide +kernel
theorem dX5_sways_0 : decode cX5_sways 0 = .ok (.bipush (-9), 2) := by decide +kernel
theorem dX5_sways_2 : decode cX5_sways 2 = .ok (.istore_n 1, 1) := by decide +kernel
theorem dX5_sways_3 : decode cX5_sways 3 = .ok (.iconst 0, 1) := by decide +kernel
theorem dX5_sways_4 : decode cX5_sways 4 = .ok (.istore_n 2, 1) := by decide +kernel
theorem dX5_sways_5 : decode cX5_sways 5 = .ok (.aload_n 0, 1) := by decide +kernel
theorem dX5_sways_6 : decode cX5_sways 6 = .ok (.getfield 26, 3) := by decide +kernel
theorem dX5_sways_9 : decode cX5_sways 9 = .ok (.getfield 125, 3) := by decide +kernel
theorem dX5_sways_12 : decode cX5_sways 12 = .ok (.astore_n 3, 1) := by decide +kernel
theorem dX5_sways_13 : decode cX5_sways 13 = .ok (.iconst 0, 1) := by decide +kernel
theorem dX5_sways_14 : decode cX5_sways 14 = .ok (.istore 4, 2) := by decide +kernel
theorem dX5_sways_16 : decode cX5_sways 16 = .ok (.iload 4, 2) := by decide +kernel
theorem dX5_sways_18 : decode cX5_sways 18 = .ok (.aload_n 3, 1) := by decide +kernel
theorem dX5_sways_19 : decode cX5_sways 19 = .ok (.invokevirtual 121, 3) := by decide +kernel
theorem dX5_sways_22 : decode cX5_sways 22 = .ok (.if_icmp .ge 60, 3) := by decide +kernel
theorem dX5_sways_25 : decode cX5_sways 25 = .ok (.iconst 0, 1) := by decide +kernel
theorem dX5_sways_26 : decode cX5_sways 26 = .ok (.istore 5, 2) := by decide +kernel
theorem dX5_sways_28 : decode cX5_sways 28 = .ok (.iload 5, 2) := by decide +kernel
theorem dX5_sways_30 : decode cX5_sways 30 = .ok (.aload_n 3, 1) := by decide +kernel
theorem dX5_sways_31 : decode cX5_sways 31 = .ok (.iload 4, 2) := by decide +kernel
theorem dX5_sways_33 : decode cX5_sways 33 = .ok (.invokevirtual 131, 3) := by decide +kernel
theorem dX5_sways_36 : decode cX5_sways 36 = .ok (.if_icmp .ge 40, 3) := by decide +kernel
theorem dX5_sways_39 : decode cX5_sways 39 = .ok (.aload_n 3, 1) := by decide +kernel
theorem dX5_sways_40 : decode cX5_sways 40 = .ok (.iload 4, 2) := by decide +kernel
theorem dX5_sways_42 : decode cX5_sways 42 = .ok (.iload 5, 2) := by decide +kernel
theorem dX5_sways_44 : decode cX5_sways 44 = .ok (.invokevirtual 229, 3) := by decide +kernel
theorem dX5_sways_47 : decode cX5_sways 47 = .ok (.ifCond .eq 23, 3) := by decide +kernel
theorem dX5_sways_50 : decode cX5_sways 50 = .ok (.iload_n 2, 1) := by decide +kernel
theorem dX5_sways_51 : decode cX5_sways 51 = .ok (.ifCond .ne 14, 3) := by decide +kernel
theorem dX5_sways_54 : decode cX5_sways 54 = .ok (.aload_n 3, 1) := by decide +kernel
theorem dX5_sways_55 : decode cX5_sways 55 = .ok (.iload 4, 2) := by decide +kernel
theorem dX5_sways_57 : decode cX5_sways 57 = .ok (.iload 5, 2) := by decide +kernel
theorem dX5_sways_59 : decode cX5_sways 59 = .ok (.invokevirtual 232, 3) := by decide +kernel
theorem dX5_sways_62 : decode cX5_sways 62 = .ok (.goto 4, 3) := by decide +kernel
theorem dX5_sways_65 : decode cX5_sways 65 = .ok (.iload_n 1, 1) := by decide +kernel
theorem dX5_sways_66 : decode cX5_sways 66 = .ok (.istore_n 1, 1) := by decide +kernel
theorem dX5_sways_67 : decode cX5_sways 67 = .ok (.iinc 2 1, 3) := by decide +kernel
theorem dX5_sways_70 : decode cX5_sways 70 = .ok (.iinc 5 1, 3) := by decide +kernel
theorem dX5_sways_73 : decode cX5_sways 73 = .ok (.goto (-45), 3) := by decide +kernel
theorem dX5_sways_76 : decode cX5_sways 76 = .ok (.iinc 4 1, 3) := by decide +kernel
theorem dX5_sways_79 : decode cX5_sways 79 = .ok (.goto (-63), 3) := by decide +kernel
theorem dX5_sways_82 : decode cX5_sways 82 = .ok (.aload_n 0, 1) := by decide +kernel
theorem dX5_sways_83 : decode cX5_sways 83 = .ok (.iload_n 2, 1) := by decide +kernel
theorem dX5_sways_84 : decode cX5_sways 84 = .ok (.putfield 86, 3) := by decide +kernel
theorem dX5_sways_87 : decode cX5_sways 87 = .ok (.iload_n 1, 1) := by decide +kernel
theorem dX5_sways_88 : decode cX5_sways 88 = .ok (.ireturn, 1) := by decide +kernel
theorem dX5_best_0 : decode cX5_best 0 = .ok (.iload_n 1, 1) := by decide +kernel
theorem dX5_best_1 : decode cX5_best 1 = .ok (.invokestatic 145, 3) := by decide +kernel
theorem dX5_best_4 : decode cX5_best 4 = .ok (.ifCond .eq 10, 3) := by decide +kernel
theorem dX5_best_7 : decode cX5_best 7 = .ok (.iload_n 2, 1) := by decide +kernel
theorem dX5_best_8 : decode cX5_best 8 = .ok (.invokestatic 157, 3) := by decide +kernel
theorem dX5_best_11 : decode cX5_best 11 = .ok (.ifCond .ne 5, 3) := by decide +kernel
theorem dX5_best_14 : decode cX5_best 14 = .ok (.iconst (-1), 1) := by decide +kernel
theorem dX5_best_15 : decode cX5_best 15 = .ok (.ireturn, 1) := by decide +kernel
theorem dX5_best_16 : decode cX5_best 16 = .ok (.aload_n 0, 1) := by decide +kernel
theorem dX5_best_17 : decode cX5_best 17 = .ok (.getfield 26, 3) := by decide +kernel
theorem dX5_best_20 : decode cX5_best 20 = .ok (.getfield 125, 3) := by decide +kernel
theorem dX5_best_23 : decode cX5_best 23 = .ok (.invokevirtual 121, 3) := by decide +kernel
theorem dX5_best_26 : decode cX5_best 26 = .ok (.ifCond .ne 6, 3) := by decide +kernel
theorem dX5_best_29 : decode cX5_best 29 = .ok (.bipush (-4), 2) := by decide +kernel
theorem dX5_best_31 : decode cX5_best 31 = .ok (.ireturn, 1) := by decide +kernel
theorem dX5_best_32 : decode cX5_best 32 = .ok (.aload_n 0, 1) := by decide +kernel
theorem dX5_best_33 : decode cX5_best 33 = .ok (.getfield 37, 3) := by decide +kernel
theorem dX5_best_36 : decode cX5_best 36 = .ok (.aload_n 0, 1) := by decide +kernel
theorem dX5_best_37 : decode cX5_best 37 = .ok (.getfield 26, 3) := by decide +kernel
theorem dX5_best_40 : decode cX5_best 40 = .ok (.getfield 125, 3) := by decide +kernel
theorem dX5_best_43 : decode cX5_best 43 = .ok (.invokevirtual 235, 3) := by decide +kernel
theorem dX5_best_46 : decode cX5_best 46 = .ok (.bipush (-9), 2) := by decide +kernel
theorem dX5_best_48 : decode cX5_best 48 = .ok (.istore_n 3, 1) := by decide +kernel
theorem dX5_best_49 : decode cX5_best 49 = .ok (.iconst 0, 1) := by decide +kernel
theorem dX5_best_50 : decode cX5_best 50 = .ok (.istore 4, 2) := by decide +kernel
theorem dX5_best_52 : decode cX5_best 52 = .ok (.iconst 0, 1) := by decide +kernel
theorem dX5_best_53 : decode cX5_best 53 = .ok (.istore 5, 2) := by decide +kernel
theorem dX5_best_55 : decode cX5_best 55 = .ok (.iload 5, 2) := by decide +kernel
theorem dX5_best_57 : decode cX5_best 57 = .ok (.aload_n 0, 1) := by decide +kernel
theorem dX5_best_58 : decode cX5_best 58 = .ok (.getfield 37, 3) := by decide +kernel
theorem dX5_best_61 : decode cX5_best 61 = .ok (.invokevirtual 121, 3) := by decide +kernel
theorem dX5_best_64 : decode cX5_best 64 = .ok (.if_icmp .ge 69, 3) := by decide +kernel
theorem dX5_best_67 : decode cX5_best 67 = .ok (.aload_n 0, 1) := by decide +kernel
theorem dX5_best_68 : decode cX5_best 68 = .ok (.getfield 37, 3) := by decide +kernel
theorem dX5_best_71 : decode cX5_best 71 = .ok (.iload 5, 2) := by decide +kernel
theorem dX5_best_73 : decode cX5_best 73 = .ok (.iload_n 1, 1) := by decide +kernel
theorem dX5_best_74 : decode cX5_best 74 = .ok (.iload_n 2, 1) := by decide +kernel
theorem dX5_best_75 : decode cX5_best 75 = .ok (.invokevirtual 176, 3) := by decide +kernel
theorem dX5_best_78 : decode cX5_best 78 = .ok (.ifCond .eq 49, 3) := by decide +kernel
theorem dX5_best_81 : decode cX5_best 81 = .ok (.aload_n 0, 1) := by decide +kernel
theorem dX5_best_82 : decode cX5_best 82 = .ok (.aload_n 0, 1) := by decide +kernel
theorem dX5_best_83 : decode cX5_best 83 = .ok (.getfield 37, 3) := by decide +kernel
theorem dX5_best_86 : decode cX5_best 86 = .ok (.invokevirtual 237, 3) := by decide +kernel
theorem dX5_best_89 : decode cX5_best 89 = .ok (.istore 6, 2) := by decide +kernel
theorem dX5_best_91 : decode cX5_best 91 = .ok (.iload 6, 2) := by decide +kernel
theorem dX5_best_93 : decode cX5_best 93 = .ok (.bipush (-9), 2) := by decide +kernel
theorem dX5_best_95 : decode cX5_best 95 = .ok (.if_icmp .eq 23, 3) := by decide +kernel
theorem dX5_best_98 : decode cX5_best 98 = .ok (.iload_n 3, 1) := by decide +kernel
theorem dX5_best_99 : decode cX5_best 99 = .ok (.bipush (-9), 2) := by decide +kernel
theorem dX5_best_101 : decode cX5_best 101 = .ok (.if_icmp .eq 10, 3) := by decide +kernel
theorem dX5_best_104 : decode cX5_best 104 = .ok (.iload 6, 2) := by decide +kernel
theorem dX5_best_106 : decode cX5_best 106 = .ok (.iload 4, 2) := by decide +kernel
theorem dX5_best_108 : decode cX5_best 108 = .ok (.if_icmp .ge 10, 3) := by decide +kernel
theorem dX5_best_111 : decode cX5_best 111 = .ok (.iload 5, 2) := by decide +kernel
theorem dX5_best_113 : decode cX5_best 113 = .ok (.istore_n 3, 1) := by decide +kernel
theorem dX5_best_114 : decode cX5_best 114 = .ok (.iload 6, 2) := by decide +kernel
theorem dX5_best_116 : decode cX5_best 116 = .ok (.istore 4, 2) := by decide +kernel
theorem dX5_best_118 : decode cX5_best 118 = .ok (.aload_n 0, 1) := by decide +kernel
theorem dX5_best_119 : decode cX5_best 119 = .ok (.getfield 37, 3) := by decide +kernel
theorem dX5_best_122 : decode cX5_best 122 = .ok (.iload 5, 2) := by decide +kernel
theorem dX5_best_124 : decode cX5_best 124 = .ok (.invokevirtual 241, 3) := by decide +kernel
theorem dX5_best_127 : decode cX5_best 127 = .ok (.iinc 5 1, 3) := by decide +kernel
theorem dX5_best_130 : decode cX5_best 130 = .ok (.goto (-75), 3) := by decide +kernel
theorem dX5_best_133 : decode cX5_best 133 = .ok (.iload_n 3, 1) := by decide +kernel
theorem dX5_best_134 : decode cX5_best 134 = .ok (.bipush (-9), 2) := by decide +kernel
theorem dX5_best_136 : decode cX5_best 136 = .ok (.if_icmp .eq 9, 3) := by decide +kernel
theorem dX5_best_139 : decode cX5_best 139 = .ok (.aload_n 0, 1) := by decide +kernel
theorem dX5_best_140 : decode cX5_best 140 = .ok (.iload 4, 2) := by decide +kernel
theorem dX5_best_142 : decode cX5_best 142 = .ok (.putfield 86, 3) := by decide +kernel
theorem dX5_best_145 : decode cX5_best 145 = .ok (.iload_n 3, 1) := by decide +kernel
theorem dX5_best_146 : decode cX5_best 146 = .ok (.ireturn, 1) := by decide +kernel
theorem dX5_both_0 : decode cX5_both 0 = .ok (.iload_n 1, 1) := by decide +kernel
theorem dX5_both_1 : decode cX5_both 1 = .ok (.invokestatic 145, 3) := by decide +kernel
theorem dX5_both_4 : decode cX5_both 4 = .ok (.ifCond .eq 17, 3) := by decide +kernel
theorem dX5_both_7 : decode cX5_both 7 = .ok (.iload_n 2, 1) := by decide +kernel
theorem dX5_both_8 : decode cX5_both 8 = .ok (.invokestatic 145, 3) := by decide +kernel
theorem dX5_both_11 : decode cX5_both 11 = .ok (.ifCond .eq 10, 3) := by decide +kernel
theorem dX5_both_14 : decode cX5_both 14 = .ok (.iload_n 3, 1) := by decide +kernel
theorem dX5_both_15 : decode cX5_both 15 = .ok (.invokestatic 157, 3) := by decide +kernel
theorem dX5_both_18 : decode cX5_both 18 = .ok (.ifCond .ne 5, 3) := by decide +kernel
theorem dX5_both_21 : decode cX5_both 21 = .ok (.iconst (-1), 1) := by decide +kernel
theorem dX5_both_22 : decode cX5_both 22 = .ok (.ireturn, 1) := by decide +kernel
theorem dX5_both_23 : decode cX5_both 23 = .ok (.aload_n 0, 1) := by decide +kernel
theorem dX5_both_24 : decode cX5_both 24 = .ok (.getfield 26, 3) := by decide +kernel
theorem dX5_both_27 : decode cX5_both 27 = .ok (.getfield 125, 3) := by decide +kernel
theorem dX5_both_30 : decode cX5_both 30 = .ok (.invokevirtual 121, 3) := by decide +kernel
theorem dX5_both_33 : decode cX5_both 33 = .ok (.istore 4, 2) := by decide +kernel
theorem dX5_both_35 : decode cX5_both 35 = .ok (.iload 4, 2) := by decide +kernel
theorem dX5_both_37 : decode cX5_both 37 = .ok (.ifCond .ne 6, 3) := by decide +kernel
theorem dX5_both_40 : decode cX5_both 40 = .ok (.bipush (-4), 2) := by decide +kernel
theorem dX5_both_42 : decode cX5_both 42 = .ok (.ireturn, 1) := by decide +kernel
theorem dX5_both_43 : decode cX5_both 43 = .ok (.aload_n 0, 1) := by decide +kernel
theorem dX5_both_44 : decode cX5_both 44 = .ok (.getfield 37, 3) := by decide +kernel
theorem dX5_both_47 : decode cX5_both 47 = .ok (.aload_n 0, 1) := by decide +kernel
theorem dX5_both_48 : decode cX5_both 48 = .ok (.getfield 26, 3) := by decide +kernel
theorem dX5_both_51 : decode cX5_both 51 = .ok (.getfield 125, 3) := by decide +kernel
theorem dX5_both_54 : decode cX5_both 54 = .ok (.invokevirtual 235, 3) := by decide +kernel
theorem dX5_both_57 : decode cX5_both 57 = .ok (.bipush (-9), 2) := by decide +kernel
theorem dX5_both_59 : decode cX5_both 59 = .ok (.istore 5, 2) := by decide +kernel
theorem dX5_both_61 : decode cX5_both 61 = .ok (.iconst 0, 1) := by decide +kernel
theorem dX5_both_62 : decode cX5_both 62 = .ok (.istore 6, 2) := by decide +kernel
theorem dX5_both_64 : decode cX5_both 64 = .ok (.iconst 0, 1) := by decide +kernel
theorem dX5_both_65 : decode cX5_both 65 = .ok (.istore 7, 2) := by decide +kernel
theorem dX5_both_67 : decode cX5_both 67 = .ok (.iload 7, 2) := by decide +kernel
theorem dX5_both_69 : decode cX5_both 69 = .ok (.iload 4, 2) := by decide +kernel
theorem dX5_both_71 : decode cX5_both 71 = .ok (.if_icmp .ge 119, 3) := by decide +kernel
theorem dX5_both_74 : decode cX5_both 74 = .ok (.aload_n 0, 1) := by decide +kernel
theorem dX5_both_75 : decode cX5_both 75 = .ok (.getfield 37, 3) := by decide +kernel
theorem dX5_both_78 : decode cX5_both 78 = .ok (.iload 7, 2) := by decide +kernel
theorem dX5_both_80 : decode cX5_both 80 = .ok (.iload_n 1, 1) := by decide +kernel
theorem dX5_both_81 : decode cX5_both 81 = .ok (.iload_n 3, 1) := by decide +kernel
theorem dX5_both_82 : decode cX5_both 82 = .ok (.invokevirtual 176, 3) := by decide +kernel
theorem dX5_both_85 : decode cX5_both 85 = .ok (.ifCond .ne 6, 3) := by decide +kernel
theorem dX5_both_88 : decode cX5_both 88 = .ok (.goto 96, 3) := by decide +kernel
theorem dX5_both_91 : decode cX5_both 91 = .ok (.iconst 0, 1) := by decide +kernel
theorem dX5_both_92 : decode cX5_both 92 = .ok (.istore 8, 2) := by decide +kernel
theorem dX5_both_94 : decode cX5_both 94 = .ok (.iload 8, 2) := by decide +kernel
theorem dX5_both_96 : decode cX5_both 96 = .ok (.iload 4, 2) := by decide +kernel
theorem dX5_both_98 : decode cX5_both 98 = .ok (.if_icmp .ge 77, 3) := by decide +kernel
theorem dX5_both_101 : decode cX5_both 101 = .ok (.aload_n 0, 1) := by decide +kernel
theorem dX5_both_102 : decode cX5_both 102 = .ok (.getfield 37, 3) := by decide +kernel
theorem dX5_both_105 : decode cX5_both 105 = .ok (.iload 8, 2) := by decide +kernel
theorem dX5_both_107 : decode cX5_both 107 = .ok (.iload_n 2, 1) := by decide +kernel
theorem dX5_both_108 : decode cX5_both 108 = .ok (.iload_n 3, 1) := by decide +kernel
theorem dX5_both_109 : decode cX5_both 109 = .ok (.invokevirtual 176, 3) := by decide +kernel
theorem dX5_both_112 : decode cX5_both 112 = .ok (.ifCond .eq 57, 3) := by decide +kernel
theorem dX5_both_115 : decode cX5_both 115 = .ok (.aload_n 0, 1) := by decide +kernel
theorem dX5_both_116 : decode cX5_both 116 = .ok (.aload_n 0, 1) := by decide +kernel
theorem dX5_both_117 : decode cX5_both 117 = .ok (.getfield 37, 3) := by decide +kernel
theorem dX5_both_120 : decode cX5_both 120 = .ok (.invokevirtual 237, 3) := by decide +kernel
theorem dX5_both_123 : decode cX5_both 123 = .ok (.istore 9, 2) := by decide +kernel
theorem dX5_both_125 : decode cX5_both 125 = .ok (.iload 9, 2) := by decide +kernel
theorem dX5_both_127 : decode cX5_both 127 = .ok (.bipush (-9), 2) := by decide +kernel
theorem dX5_both_129 : decode cX5_both 129 = .ok (.if_icmp .eq 31, 3) := by decide +kernel
theorem dX5_both_132 : decode cX5_both 132 = .ok (.iload 5, 2) := by decide +kernel
theorem dX5_both_134 : decode cX5_both 134 = .ok (.bipush (-9), 2) := by decide +kernel
theorem dX5_both_136 : decode cX5_both 136 = .ok (.if_icmp .eq 10, 3) := by decide +kernel
theorem dX5_both_139 : decode cX5_both 139 = .ok (.iload 9, 2) := by decide +kernel
theorem dX5_both_141 : decode cX5_both 141 = .ok (.iload 6, 2) := by decide +kernel
theorem dX5_both_143 : decode cX5_both 143 = .ok (.if_icmp .ge 17, 3) := by decide +kernel
theorem dX5_both_146 : decode cX5_both 146 = .ok (.bipush 10, 2) := by decide +kernel
theorem dX5_both_148 : decode cX5_both 148 = .ok (.iload 7, 2) := by decide +kernel
theorem dX5_both_150 : decode cX5_both 150 = .ok (.imul, 1) := by decide +kernel
theorem dX5_both_151 : decode cX5_both 151 = .ok (.iload 8, 2) := by decide +kernel
theorem dX5_both_153 : decode cX5_both 153 = .ok (.iadd, 1) := by decide +kernel
theorem dX5_both_154 : decode cX5_both 154 = .ok (.istore 5, 2) := by decide +kernel
theorem dX5_both_156 : decode cX5_both 156 = .ok (.iload 9, 2) := by decide +kernel
theorem dX5_both_158 : decode cX5_both 158 = .ok (.istore 6, 2) := by decide +kernel
theorem dX5_both_160 : decode cX5_both 160 = .ok (.aload_n 0, 1) := by decide +kernel
theorem dX5_both_161 : decode cX5_both 161 = .ok (.getfield 37, 3) := by decide +kernel
theorem dX5_both_164 : decode cX5_both 164 = .ok (.iload 8, 2) := by decide +kernel
theorem dX5_both_166 : decode cX5_both 166 = .ok (.invokevirtual 241, 3) := by decide +kernel
theorem dX5_both_169 : decode cX5_both 169 = .ok (.iinc 8 1, 3) := by decide +kernel
theorem dX5_both_172 : decode cX5_both 172 = .ok (.goto (-78), 3) := by decide +kernel
theorem dX5_both_175 : decode cX5_both 175 = .ok (.aload_n 0, 1) := by decide +kernel
theorem dX5_both_176 : decode cX5_both 176 = .ok (.getfield 37, 3) := by decide +kernel
theorem dX5_both_179 : decode cX5_both 179 = .ok (.iload 7, 2) := by decide +kernel
theorem dX5_both_181 : decode cX5_both 181 = .ok (.invokevirtual 241, 3) := by decide +kernel
theorem dX5_both_184 : decode cX5_both 184 = .ok (.iinc 7 1, 3) := by decide +kernel
theorem dX5_both_187 : decode cX5_both 187 = .ok (.goto (-120), 3) := by decide +kernel
theorem dX5_both_190 : decode cX5_both 190 = .ok (.iload 5, 2) := by decide +kernel
theorem dX5_both_192 : decode cX5_both 192 = .ok (.bipush (-9), 2) := by decide +kernel
theorem dX5_both_194 : decode cX5_both 194 = .ok (.if_icmp .eq 9, 3) := by decide +kernel
theorem dX5_both_197 : decode cX5_both 197 = .ok (.aload_n 0, 1) := by decide +kernel
theorem dX5_both_198 : decode cX5_both 198 = .ok (.iload 6, 2) := by decide +kernel
theorem dX5_both_200 : decode cX5_both 200 = .ok (.putfield 86, 3) := by decide +kernel
theorem dX5_both_203 : decode cX5_both 203 = .ok (.iload 5, 2) := by decide +kernel
theorem dX5_both_205 : decode cX5_both 205 = .ok (.ireturn, 1) := by decide +kernel
theorem dX5_fewest_0 : decode cX5_fewest 0 = .ok (.iconst 4, 1) := by decide +kernel
theorem dX5_fewest_1 : decode cX5_fewest 1 = .ok (.istore_n 1, 1) := by decide +kernel
theorem dX5_fewest_2 : decode cX5_fewest 2 = .ok (.iconst 0, 1) := by decide +kernel
theorem dX5_fewest_3 : decode cX5_fewest 3 = .ok (.istore_n 2, 1) := by decide +kernel
theorem dX5_fewest_4 : decode cX5_fewest 4 = .ok (.iconst 1, 1) := by decide +kernel
theorem dX5_fewest_5 : decode cX5_fewest 5 = .ok (.aload_n 0, 1) := by decide +kernel
theorem dX5_fewest_6 : decode cX5_fewest 6 = .ok (.getfield 26, 3) := by decide +kernel
theorem dX5_fewest_9 : decode cX5_fewest 9 = .ok (.getfield 125, 3) := by decide +kernel
theorem dX5_fewest_12 : decode cX5_fewest 12 = .ok (.invokevirtual 223, 3) := by decide +kernel
theorem dX5_fewest_15 : decode cX5_fewest 15 = .ok (.ishl, 1) := by decide +kernel
theorem dX5_fewest_16 : decode cX5_fewest 16 = .ok (.istore_n 3, 1) := by decide +kernel
theorem dX5_fewest_17 : decode cX5_fewest 17 = .ok (.iconst 0, 1) := by decide +kernel
theorem dX5_fewest_18 : decode cX5_fewest 18 = .ok (.istore 4, 2) := by decide +kernel
theorem dX5_fewest_20 : decode cX5_fewest 20 = .ok (.iload 4, 2) := by decide +kernel
theorem dX5_fewest_22 : decode cX5_fewest 22 = .ok (.iload_n 3, 1) := by decide +kernel
theorem dX5_fewest_23 : decode cX5_fewest 23 = .ok (.if_icmp .ge 58, 3) := by decide +kernel
theorem dX5_fewest_26 : decode cX5_fewest 26 = .ok (.iload_n 1, 1) := by decide +kernel
theorem dX5_fewest_27 : decode cX5_fewest 27 = .ok (.ifCond .le 54, 3) := by decide +kernel
theorem dX5_fewest_30 : decode cX5_fewest 30 = .ok (.iload 4, 2) := by decide +kernel
theorem dX5_fewest_32 : decode cX5_fewest 32 = .ok (.invokestatic 244, 3) := by decide +kernel
theorem dX5_fewest_35 : decode cX5_fewest 35 = .ok (.istore 5, 2) := by decide +kernel
theorem dX5_fewest_37 : decode cX5_fewest 37 = .ok (.iload 5, 2) := by decide +kernel
theorem dX5_fewest_39 : decode cX5_fewest 39 = .ok (.iload_n 1, 1) := by decide +kernel
theorem dX5_fewest_40 : decode cX5_fewest 40 = .ok (.if_icmp .ge 35, 3) := by decide +kernel
theorem dX5_fewest_43 : decode cX5_fewest 43 = .ok (.aload_n 0, 1) := by decide +kernel
theorem dX5_fewest_44 : decode cX5_fewest 44 = .ok (.getfield 37, 3) := by decide +kernel
theorem dX5_fewest_47 : decode cX5_fewest 47 = .ok (.aload_n 0, 1) := by decide +kernel
theorem dX5_fewest_48 : decode cX5_fewest 48 = .ok (.getfield 26, 3) := by decide +kernel
theorem dX5_fewest_51 : decode cX5_fewest 51 = .ok (.getfield 125, 3) := by decide +kernel
theorem dX5_fewest_54 : decode cX5_fewest 54 = .ok (.iload 4, 2) := by decide +kernel
theorem dX5_fewest_56 : decode cX5_fewest 56 = .ok (.invokevirtual 249, 3) := by decide +kernel
theorem dX5_fewest_59 : decode cX5_fewest 59 = .ok (.aload_n 0, 1) := by decide +kernel
theorem dX5_fewest_60 : decode cX5_fewest 60 = .ok (.getfield 37, 3) := by decide +kernel
theorem dX5_fewest_63 : decode cX5_fewest 63 = .ok (.invokevirtual 253, 3) := by decide +kernel
theorem dX5_fewest_66 : decode cX5_fewest 66 = .ok (.ifCond .eq 9, 3) := by decide +kernel
theorem dX5_fewest_69 : decode cX5_fewest 69 = .ok (.iload 5, 2) := by decide +kernel
theorem dX5_fewest_71 : decode cX5_fewest 71 = .ok (.istore_n 1, 1) := by decide +kernel
theorem dX5_fewest_72 : decode cX5_fewest 72 = .ok (.iload 4, 2) := by decide +kernel
theorem dX5_fewest_74 : decode cX5_fewest 74 = .ok (.istore_n 2, 1) := by decide +kernel
theorem dX5_fewest_75 : decode cX5_fewest 75 = .ok (.iinc 4 1, 3) := by decide +kernel
theorem dX5_fewest_78 : decode cX5_fewest 78 = .ok (.goto (-58), 3) := by decide +kernel
theorem dX5_fewest_81 : decode cX5_fewest 81 = .ok (.iload_n 1, 1) := by decide +kernel
theorem dX5_fewest_82 : decode cX5_fewest 82 = .ok (.iconst 3, 1) := by decide +kernel
theorem dX5_fewest_83 : decode cX5_fewest 83 = .ok (.if_icmp .le 6, 3) := by decide +kernel
theorem dX5_fewest_86 : decode cX5_fewest 86 = .ok (.bipush (-9), 2) := by decide +kernel
theorem dX5_fewest_88 : decode cX5_fewest 88 = .ok (.ireturn, 1) := by decide +kernel
theorem dX5_fewest_89 : decode cX5_fewest 89 = .ok (.aload_n 0, 1) := by decide +kernel
theorem dX5_fewest_90 : decode cX5_fewest 90 = .ok (.iload_n 2, 1) := by decide +kernel
theorem dX5_fewest_91 : decode cX5_fewest 91 = .ok (.putfield 86, 3) := by decide +kernel
theorem dX5_fewest_94 : decode cX5_fewest 94 = .ok (.iload_n 1, 1) := by decide +kernel
theorem dX5_fewest_95 : decode cX5_fewest 95 = .ok (.ireturn, 1) := by decide +kernel
theorem dX5_relief_0 : decode cX5_relief 0 = .ok (.aload_n 0, 1) := by decide +kernel
theorem dX5_relief_1 : decode cX5_relief 1 = .ok (.getfield 44, 3) := by decide +kernel
theorem dX5_relief_4 : decode cX5_relief 4 = .ok (.aload_n 0, 1) := by decide +kernel
theorem dX5_relief_5 : decode cX5_relief 5 = .ok (.getfield 26, 3) := by decide +kernel
theorem dX5_relief_8 : decode cX5_relief 8 = .ok (.getfield 125, 3) := by decide +kernel
theorem dX5_relief_11 : decode cX5_relief 11 = .ok (.invokevirtual 138, 3) := by decide +kernel
theorem dX5_relief_14 : decode cX5_relief 14 = .ok (.aload_n 0, 1) := by decide +kernel
theorem dX5_relief_15 : decode cX5_relief 15 = .ok (.getfield 44, 3) := by decide +kernel
theorem dX5_relief_18 : decode cX5_relief 18 = .ok (.invokevirtual 220, 3) := by decide +kernel
theorem dX5_relief_21 : decode cX5_relief 21 = .ok (.istore_n 1, 1) := by decide +kernel
theorem dX5_relief_22 : decode cX5_relief 22 = .ok (.bipush (-9), 2) := by decide +kernel
theorem dX5_relief_24 : decode cX5_relief 24 = .ok (.istore_n 2, 1) := by decide +kernel
theorem dX5_relief_25 : decode cX5_relief 25 = .ok (.iconst 0, 1) := by decide +kernel
theorem dX5_relief_26 : decode cX5_relief 26 = .ok (.istore_n 3, 1) := by decide +kernel
theorem dX5_relief_27 : decode cX5_relief 27 = .ok (.iconst 0, 1) := by decide +kernel
theorem dX5_relief_28 : decode cX5_relief 28 = .ok (.istore 4, 2) := by decide +kernel
theorem dX5_relief_30 : decode cX5_relief 30 = .ok (.iload 4, 2) := by decide +kernel
theorem dX5_relief_32 : decode cX5_relief 32 = .ok (.aload_n 0, 1) := by decide +kernel
theorem dX5_relief_33 : decode cX5_relief 33 = .ok (.getfield 26, 3) := by decide +kernel
theorem dX5_relief_36 : decode cX5_relief 36 = .ok (.getfield 125, 3) := by decide +kernel
theorem dX5_relief_39 : decode cX5_relief 39 = .ok (.invokevirtual 223, 3) := by decide +kernel
theorem dX5_relief_42 : decode cX5_relief 42 = .ok (.if_icmp .ge 95, 3) := by decide +kernel
theorem dX5_relief_45 : decode cX5_relief 45 = .ok (.aload_n 0, 1) := by decide +kernel
theorem dX5_relief_46 : decode cX5_relief 46 = .ok (.getfield 44, 3) := by decide +kernel
theorem dX5_relief_49 : decode cX5_relief 49 = .ok (.aload_n 0, 1) := by decide +kernel
theorem dX5_relief_50 : decode cX5_relief 50 = .ok (.getfield 26, 3) := by decide +kernel
theorem dX5_relief_53 : decode cX5_relief 53 = .ok (.getfield 125, 3) := by decide +kernel
theorem dX5_relief_56 : decode cX5_relief 56 = .ok (.invokevirtual 138, 3) := by decide +kernel
theorem dX5_relief_59 : decode cX5_relief 59 = .ok (.iload_n 1, 1) := by decide +kernel
theorem dX5_relief_60 : decode cX5_relief 60 = .ok (.aload_n 0, 1) := by decide +kernel
theorem dX5_relief_61 : decode cX5_relief 61 = .ok (.getfield 44, 3) := by decide +kernel
theorem dX5_relief_64 : decode cX5_relief 64 = .ok (.iload 4, 2) := by decide +kernel
theorem dX5_relief_66 : decode cX5_relief 66 = .ok (.invokevirtual 256, 3) := by decide +kernel
theorem dX5_relief_69 : decode cX5_relief 69 = .ok (.isub, 1) := by decide +kernel
theorem dX5_relief_70 : decode cX5_relief 70 = .ok (.istore 5, 2) := by decide +kernel
theorem dX5_relief_72 : decode cX5_relief 72 = .ok (.aload_n 0, 1) := by decide +kernel
theorem dX5_relief_73 : decode cX5_relief 73 = .ok (.getfield 37, 3) := by decide +kernel
theorem dX5_relief_76 : decode cX5_relief 76 = .ok (.aload_n 0, 1) := by decide +kernel
theorem dX5_relief_77 : decode cX5_relief 77 = .ok (.getfield 26, 3) := by decide +kernel
theorem dX5_relief_80 : decode cX5_relief 80 = .ok (.getfield 125, 3) := by decide +kernel
theorem dX5_relief_83 : decode cX5_relief 83 = .ok (.iconst 1, 1) := by decide +kernel
theorem dX5_relief_84 : decode cX5_relief 84 = .ok (.iload 4, 2) := by decide +kernel
theorem dX5_relief_86 : decode cX5_relief 86 = .ok (.ishl, 1) := by decide +kernel
theorem dX5_relief_87 : decode cX5_relief 87 = .ok (.invokevirtual 249, 3) := by decide +kernel
theorem dX5_relief_90 : decode cX5_relief 90 = .ok (.aload_n 0, 1) := by decide +kernel
theorem dX5_relief_91 : decode cX5_relief 91 = .ok (.getfield 44, 3) := by decide +kernel
theorem dX5_relief_94 : decode cX5_relief 94 = .ok (.aload_n 0, 1) := by decide +kernel
theorem dX5_relief_95 : decode cX5_relief 95 = .ok (.getfield 37, 3) := by decide +kernel
theorem dX5_relief_98 : decode cX5_relief 98 = .ok (.invokevirtual 138, 3) := by decide +kernel
theorem dX5_relief_101 : decode cX5_relief 101 = .ok (.aload_n 0, 1) := by decide +kernel
theorem dX5_relief_102 : decode cX5_relief 102 = .ok (.getfield 44, 3) := by decide +kernel
theorem dX5_relief_105 : decode cX5_relief 105 = .ok (.invokevirtual 220, 3) := by decide +kernel
theorem dX5_relief_108 : decode cX5_relief 108 = .ok (.iload 5, 2) := by decide +kernel
theorem dX5_relief_110 : decode cX5_relief 110 = .ok (.isub, 1) := by decide +kernel
theorem dX5_relief_111 : decode cX5_relief 111 = .ok (.istore 6, 2) := by decide +kernel
theorem dX5_relief_113 : decode cX5_relief 113 = .ok (.iload_n 2, 1) := by decide +kernel
theorem dX5_relief_114 : decode cX5_relief 114 = .ok (.bipush (-9), 2) := by decide +kernel
theorem dX5_relief_116 : decode cX5_relief 116 = .ok (.if_icmp .eq 9, 3) := by decide +kernel
theorem dX5_relief_119 : decode cX5_relief 119 = .ok (.iload 6, 2) := by decide +kernel
theorem dX5_relief_121 : decode cX5_relief 121 = .ok (.iload_n 3, 1) := by decide +kernel
theorem dX5_relief_122 : decode cX5_relief 122 = .ok (.if_icmp .le 9, 3) := by decide +kernel
theorem dX5_relief_125 : decode cX5_relief 125 = .ok (.iload 4, 2) := by decide +kernel
theorem dX5_relief_127 : decode cX5_relief 127 = .ok (.istore_n 2, 1) := by decide +kernel
theorem dX5_relief_128 : decode cX5_relief 128 = .ok (.iload 6, 2) := by decide +kernel
theorem dX5_relief_130 : decode cX5_relief 130 = .ok (.istore_n 3, 1) := by decide +kernel
theorem dX5_relief_131 : decode cX5_relief 131 = .ok (.iinc 4 1, 3) := by decide +kernel
theorem dX5_relief_134 : decode cX5_relief 134 = .ok (.goto (-104), 3) := by decide +kernel
theorem dX5_relief_137 : decode cX5_relief 137 = .ok (.iload_n 2, 1) := by decide +kernel
theorem dX5_relief_138 : decode cX5_relief 138 = .ok (.bipush (-9), 2) := by decide +kernel
theorem dX5_relief_140 : decode cX5_relief 140 = .ok (.if_icmp .eq 8, 3) := by decide +kernel
theorem dX5_relief_143 : decode cX5_relief 143 = .ok (.aload_n 0, 1) := by decide +kernel
theorem dX5_relief_144 : decode cX5_relief 144 = .ok (.iload_n 3, 1) := by decide +kernel
theorem dX5_relief_145 : decode cX5_relief 145 = .ok (.putfield 86, 3) := by decide +kernel
theorem dX5_relief_148 : decode cX5_relief 148 = .ok (.iload_n 2, 1) := by decide +kernel
theorem dX5_relief_149 : decode cX5_relief 149 = .ok (.ireturn, 1) := by decide +kernel
theorem dX5_high_0 : decode cX5_high 0 = .ok (.aload_n 0, 1) := by decide +kernel
theorem dX5_high_1 : decode cX5_high 1 = .ok (.getfield 26, 3) := by decide +kernel
theorem dX5_high_4 : decode cX5_high 4 = .ok (.getfield 125, 3) := by decide +kernel
theorem dX5_high_7 : decode cX5_high 7 = .ok (.iload_n 1, 1) := by decide +kernel
theorem dX5_high_8 : decode cX5_high 8 = .ok (.invokevirtual 128, 3) := by decide +kernel
theorem dX5_high_11 : decode cX5_high 11 = .ok (.ifCond .eq 10, 3) := by decide +kernel
theorem dX5_high_14 : decode cX5_high 14 = .ok (.iload_n 2, 1) := by decide +kernel
theorem dX5_high_15 : decode cX5_high 15 = .ok (.invokestatic 157, 3) := by decide +kernel
theorem dX5_high_18 : decode cX5_high 18 = .ok (.ifCond .ne 5, 3) := by decide +kernel
theorem dX5_high_21 : decode cX5_high 21 = .ok (.iconst (-1), 1) := by decide +kernel
theorem dX5_high_22 : decode cX5_high 22 = .ok (.ireturn, 1) := by decide +kernel
theorem dX5_high_23 : decode cX5_high 23 = .ok (.aload_n 0, 1) := by decide +kernel
theorem dX5_high_24 : decode cX5_high 24 = .ok (.getfield 37, 3) := by decide +kernel
theorem dX5_high_27 : decode cX5_high 27 = .ok (.aload_n 0, 1) := by decide +kernel
theorem dX5_high_28 : decode cX5_high 28 = .ok (.getfield 26, 3) := by decide +kernel
theorem dX5_high_31 : decode cX5_high 31 = .ok (.getfield 125, 3) := by decide +kernel
theorem dX5_high_34 : decode cX5_high 34 = .ok (.invokevirtual 235, 3) := by decide +kernel
theorem dX5_high_37 : decode cX5_high 37 = .ok (.iconst 0, 1) := by decide +kernel
theorem dX5_high_38 : decode cX5_high 38 = .ok (.istore_n 3, 1) := by decide +kernel
theorem dX5_high_39 : decode cX5_high 39 = .ok (.iload_n 3, 1) := by decide +kernel
theorem dX5_high_40 : decode cX5_high 40 = .ok (.bipush 6, 2) := by decide +kernel
theorem dX5_high_42 : decode cX5_high 42 = .ok (.if_icmp .ge 32, 3) := by decide +kernel
theorem dX5_high_45 : decode cX5_high 45 = .ok (.aload_n 0, 1) := by decide +kernel
theorem dX5_high_46 : decode cX5_high 46 = .ok (.getfield 37, 3) := by decide +kernel
theorem dX5_high_49 : decode cX5_high 49 = .ok (.iload_n 1, 1) := by decide +kernel
theorem dX5_high_50 : decode cX5_high 50 = .ok (.iconst 0, 1) := by decide +kernel
theorem dX5_high_51 : decode cX5_high 51 = .ok (.iload_n 2, 1) := by decide +kernel
theorem dX5_high_52 : decode cX5_high 52 = .ok (.invokevirtual 176, 3) := by decide +kernel
theorem dX5_high_55 : decode cX5_high 55 = .ok (.ifCond .eq 19, 3) := by decide +kernel
theorem dX5_high_58 : decode cX5_high 58 = .ok (.aload_n 0, 1) := by decide +kernel
theorem dX5_high_59 : decode cX5_high 59 = .ok (.getfield 37, 3) := by decide +kernel
theorem dX5_high_62 : decode cX5_high 62 = .ok (.invokevirtual 253, 3) := by decide +kernel
theorem dX5_high_65 : decode cX5_high 65 = .ok (.ifCond .eq 9, 3) := by decide +kernel
theorem dX5_high_68 : decode cX5_high 68 = .ok (.iinc 3 1, 3) := by decide +kernel
theorem dX5_high_71 : decode cX5_high 71 = .ok (.goto (-32), 3) := by decide +kernel
theorem dX5_high_74 : decode cX5_high 74 = .ok (.iload_n 3, 1) := by decide +kernel
theorem dX5_high_75 : decode cX5_high 75 = .ok (.ireturn, 1) := by decide +kernel
theorem dX5_settle_0 : decode cX5_settle 0 = .ok (.aload_n 0, 1) := by decide +kernel
theorem dX5_settle_1 : decode cX5_settle 1 = .ok (.getfield 44, 3) := by decide +kernel
theorem dX5_settle_4 : decode cX5_settle 4 = .ok (.aload_n 0, 1) := by decide +kernel
theorem dX5_settle_5 : decode cX5_settle 5 = .ok (.getfield 26, 3) := by decide +kernel
theorem dX5_settle_8 : decode cX5_settle 8 = .ok (.getfield 125, 3) := by decide +kernel
theorem dX5_settle_11 : decode cX5_settle 11 = .ok (.invokevirtual 138, 3) := by decide +kernel
theorem dX5_settle_14 : decode cX5_settle 14 = .ok (.aload_n 0, 1) := by decide +kernel
theorem dX5_settle_15 : decode cX5_settle 15 = .ok (.getfield 51, 3) := by decide +kernel
theorem dX5_settle_18 : decode cX5_settle 18 = .ok (.invokevirtual 259, 3) := by decide +kernel
theorem dX5_settle_21 : decode cX5_settle 21 = .ok (.iconst 0, 1) := by decide +kernel
theorem dX5_settle_22 : decode cX5_settle 22 = .ok (.istore_n 1, 1) := by decide +kernel
theorem dX5_settle_23 : decode cX5_settle 23 = .ok (.iload_n 1, 1) := by decide +kernel
theorem dX5_settle_24 : decode cX5_settle 24 = .ok (.aload_n 0, 1) := by decide +kernel
theorem dX5_settle_25 : decode cX5_settle 25 = .ok (.getfield 26, 3) := by decide +kernel
theorem dX5_settle_28 : decode cX5_settle 28 = .ok (.getfield 125, 3) := by decide +kernel
theorem dX5_settle_31 : decode cX5_settle 31 = .ok (.invokevirtual 223, 3) := by decide +kernel
theorem dX5_settle_34 : decode cX5_settle 34 = .ok (.if_icmp .ge 24, 3) := by decide +kernel
theorem dX5_settle_37 : decode cX5_settle 37 = .ok (.aload_n 0, 1) := by decide +kernel
theorem dX5_settle_38 : decode cX5_settle 38 = .ok (.getfield 51, 3) := by decide +kernel
theorem dX5_settle_41 : decode cX5_settle 41 = .ok (.aload_n 0, 1) := by decide +kernel
theorem dX5_settle_42 : decode cX5_settle 42 = .ok (.getfield 44, 3) := by decide +kernel
theorem dX5_settle_45 : decode cX5_settle 45 = .ok (.iload_n 1, 1) := by decide +kernel
theorem dX5_settle_46 : decode cX5_settle 46 = .ok (.invokevirtual 214, 3) := by decide +kernel
theorem dX5_settle_49 : decode cX5_settle 49 = .ok (.invokevirtual 262, 3) := by decide +kernel
theorem dX5_settle_52 : decode cX5_settle 52 = .ok (.iinc 1 1, 3) := by decide +kernel
theorem dX5_settle_55 : decode cX5_settle 55 = .ok (.goto (-32), 3) := by decide +kernel
theorem dX5_settle_58 : decode cX5_settle 58 = .ok (.aload_n 0, 1) := by decide +kernel
theorem dX5_settle_59 : decode cX5_settle 59 = .ok (.getfield 51, 3) := by decide +kernel
theorem dX5_settle_62 : decode cX5_settle 62 = .ok (.invokevirtual 265, 3) := by decide +kernel
theorem dX5_settle_65 : decode cX5_settle 65 = .ok (.ireturn, 1) := by decide +kernel
theorem dX5_rings_0 : decode cX5_rings 0 = .ok (.aload_n 0, 1) := by decide +kernel
theorem dX5_rings_1 : decode cX5_rings 1 = .ok (.getfield 44, 3) := by decide +kernel
theorem dX5_rings_4 : decode cX5_rings 4 = .ok (.aload_n 0, 1) := by decide +kernel
theorem dX5_rings_5 : decode cX5_rings 5 = .ok (.getfield 26, 3) := by decide +kernel
theorem dX5_rings_8 : decode cX5_rings 8 = .ok (.getfield 125, 3) := by decide +kernel
theorem dX5_rings_11 : decode cX5_rings 11 = .ok (.invokevirtual 138, 3) := by decide +kernel
theorem dX5_rings_14 : decode cX5_rings 14 = .ok (.aload_n 0, 1) := by decide +kernel
theorem dX5_rings_15 : decode cX5_rings 15 = .ok (.aload_n 0, 1) := by decide +kernel
theorem dX5_rings_16 : decode cX5_rings 16 = .ok (.getfield 44, 3) := by decide +kernel
theorem dX5_rings_19 : decode cX5_rings 19 = .ok (.invokevirtual 268, 3) := by decide +kernel
theorem dX5_rings_22 : decode cX5_rings 22 = .ok (.putfield 86, 3) := by decide +kernel
theorem dX5_rings_25 : decode cX5_rings 25 = .ok (.aload_n 0, 1) := by decide +kernel
theorem dX5_rings_26 : decode cX5_rings 26 = .ok (.getfield 44, 3) := by decide +kernel
theorem dX5_rings_29 : decode cX5_rings 29 = .ok (.invokevirtual 271, 3) := by decide +kernel
theorem dX5_rings_32 : decode cX5_rings 32 = .ok (.ireturn, 1) := by decide +kernel
theorem dX5_game_0 : decode cX5_game 0 = .ok (.iload_n 1, 1) := by decide +kernel
theorem dX5_game_1 : decode cX5_game 1 = .ok (.invokestatic 157, 3) := by decide +kernel
theorem dX5_game_4 : decode cX5_game 4 = .ok (.ifCond .eq 12, 3) := by decide +kernel
theorem dX5_game_7 : decode cX5_game 7 = .ok (.iload_n 2, 1) := by decide +kernel
theorem dX5_game_8 : decode cX5_game 8 = .ok (.ifCond .lt 8, 3) := by decide +kernel
theorem dX5_game_11 : decode cX5_game 11 = .ok (.iload_n 2, 1) := by decide +kernel
theorem dX5_game_12 : decode cX5_game 12 = .ok (.iconst 4, 1) := by decide +kernel
theorem dX5_game_13 : decode cX5_game 13 = .ok (.if_icmp .le 5, 3) := by decide +kernel
theorem dX5_game_16 : decode cX5_game 16 = .ok (.iconst (-1), 1) := by decide +kernel
theorem dX5_game_17 : decode cX5_game 17 = .ok (.ireturn, 1) := by decide +kernel
theorem dX5_game_18 : decode cX5_game 18 = .ok (.aload_n 0, 1) := by decide +kernel
theorem dX5_game_19 : decode cX5_game 19 = .ok (.getfield 26, 3) := by decide +kernel
theorem dX5_game_22 : decode cX5_game 22 = .ok (.getfield 125, 3) := by decide +kernel
theorem dX5_game_25 : decode cX5_game 25 = .ok (.invokevirtual 121, 3) := by decide +kernel
theorem dX5_game_28 : decode cX5_game 28 = .ok (.ifCond .ne 6, 3) := by decide +kernel
theorem dX5_game_31 : decode cX5_game 31 = .ok (.bipush (-4), 2) := by decide +kernel
theorem dX5_game_33 : decode cX5_game 33 = .ok (.ireturn, 1) := by decide +kernel
theorem dX5_game_34 : decode cX5_game 34 = .ok (.aload_n 0, 1) := by decide +kernel
theorem dX5_game_35 : decode cX5_game 35 = .ok (.getfield 37, 3) := by decide +kernel
theorem dX5_game_38 : decode cX5_game 38 = .ok (.aload_n 0, 1) := by decide +kernel
theorem dX5_game_39 : decode cX5_game 39 = .ok (.getfield 26, 3) := by decide +kernel
theorem dX5_game_42 : decode cX5_game 42 = .ok (.getfield 125, 3) := by decide +kernel
theorem dX5_game_45 : decode cX5_game 45 = .ok (.invokevirtual 235, 3) := by decide +kernel
