theorem dX0_init_0 : decode cX0_init 0 = .ok (.aload_n 0, 1) := by decide +kernel
theorem dX0_init_1 : decode cX0_init 1 = .ok (.invokespecial 3, 3) := by decide +kernel
theorem dX0_init_4 : decode cX0_init 4 = .ok (.aload_n 0, 1) := by decide +kernel
theorem dX0_init_5 : decode cX0_init 5 = .ok (.sipush 201, 3) := by decide +kernel
theorem dX0_init_8 : decode cX0_init 8 = .ok (.newarray .long, 2) := by decide +kernel
theorem dX0_init_10 : decode cX0_init 10 = .ok (.putfield 11, 3) := by decide +kernel
theorem dX0_init_13 : decode cX0_init 13 = .ok (.aload_n 0, 1) := by decide +kernel
theorem dX0_init_14 : decode cX0_init 14 = .ok (.sipush 201, 3) := by decide +kernel
theorem dX0_init_17 : decode cX0_init 17 = .ok (.newarray .long, 2) := by decide +kernel
theorem dX0_init_19 : decode cX0_init 19 = .ok (.putfield 15, 3) := by decide +kernel
theorem dX0_init_22 : decode cX0_init 22 = .ok (.aload_n 0, 1) := by decide +kernel
theorem dX0_init_23 : decode cX0_init 23 = .ok (.bipush 25, 2) := by decide +kernel
theorem dX0_init_25 : decode cX0_init 25 = .ok (.newarray .long, 2) := by decide +kernel
theorem dX0_init_27 : decode cX0_init 27 = .ok (.putfield 18, 3) := by decide +kernel
theorem dX0_init_30 : decode cX0_init 30 = .ok (.aload_n 0, 1) := by decide +kernel
theorem dX0_init_31 : decode cX0_init 31 = .ok (.bipush 25, 2) := by decide +kernel
theorem dX0_init_33 : decode cX0_init 33 = .ok (.newarray .boolean, 2) := by decide +kernel
theorem dX0_init_35 : decode cX0_init 35 = .ok (.putfield 21, 3) := by decide +kernel
theorem dX0_init_38 : decode cX0_init 38 = .ok (.return_, 1) := by decide +kernel
theorem dX0_ringOf_0 : decode cX0_ringOf 0 = .ok (.iconst 0, 1) := by decide +kernel
theorem dX0_ringOf_1 : decode cX0_ringOf 1 = .ok (.istore_n 2, 1) := by decide +kernel
theorem dX0_ringOf_2 : decode cX0_ringOf 2 = .ok (.iload_n 2, 1) := by decide +kernel
theorem dX0_ringOf_3 : decode cX0_ringOf 3 = .ok (.sipush 200, 3) := by decide +kernel
theorem dX0_ringOf_6 : decode cX0_ringOf 6 = .ok (.if_icmp .gt 108, 3) := by decide +kernel
theorem dX0_ringOf_9 : decode cX0_ringOf 9 = .ok (.aload_n 0, 1) := by decide +kernel
theorem dX0_ringOf_10 : decode cX0_ringOf 10 = .ok (.getfield 11, 3) := by decide +kernel
theorem dX0_ringOf_13 : decode cX0_ringOf 13 = .ok (.iload_n 2, 1) := by decide +kernel
theorem dX0_ringOf_14 : decode cX0_ringOf 14 = .ok (.aload_n 1, 1) := by decide +kernel
theorem dX0_ringOf_15 : decode cX0_ringOf 15 = .ok (.getfield 25, 3) := by decide +kernel
theorem dX0_ringOf_18 : decode cX0_ringOf 18 = .ok (.iconst 0, 1) := by decide +kernel
theorem dX0_ringOf_19 : decode cX0_ringOf 19 = .ok (.invokevirtual 31, 3) := by decide +kernel
theorem dX0_ringOf_22 : decode cX0_ringOf 22 = .ok (.iconst 4, 1) := by decide +kernel
theorem dX0_ringOf_23 : decode cX0_ringOf 23 = .ok (.lshl, 1) := by decide +kernel
theorem dX0_ringOf_24 : decode cX0_ringOf 24 = .ok (.aload_n 1, 1) := by decide +kernel
theorem dX0_ringOf_25 : decode cX0_ringOf 25 = .ok (.getfield 37, 3) := by decide +kernel
theorem dX0_ringOf_28 : decode cX0_ringOf 28 = .ok (.i2l, 1) := by decide +kernel
theorem dX0_ringOf_29 : decode cX0_ringOf 29 = .ok (.lor, 1) := by decide +kernel
theorem dX0_ringOf_30 : decode cX0_ringOf 30 = .ok (.iconst 1, 1) := by decide +kernel
theorem dX0_ringOf_31 : decode cX0_ringOf 31 = .ok (.lshl, 1) := by decide +kernel
theorem dX0_ringOf_32 : decode cX0_ringOf 32 = .ok (.aload_n 1, 1) := by decide +kernel
theorem dX0_ringOf_33 : decode cX0_ringOf 33 = .ok (.getfield 41, 3) := by decide +kernel
theorem dX0_ringOf_36 : decode cX0_ringOf 36 = .ok (.i2l, 1) := by decide +kernel
theorem dX0_ringOf_37 : decode cX0_ringOf 37 = .ok (.lor, 1) := by decide +kernel
theorem dX0_ringOf_38 : decode cX0_ringOf 38 = .ok (.lastore, 1) := by decide +kernel
theorem dX0_ringOf_39 : decode cX0_ringOf 39 = .ok (.aload_n 0, 1) := by decide +kernel
theorem dX0_ringOf_40 : decode cX0_ringOf 40 = .ok (.getfield 15, 3) := by decide +kernel
theorem dX0_ringOf_43 : decode cX0_ringOf 43 = .ok (.iload_n 2, 1) := by decide +kernel
theorem dX0_ringOf_44 : decode cX0_ringOf 44 = .ok (.aload_n 1, 1) := by decide +kernel
theorem dX0_ringOf_45 : decode cX0_ringOf 45 = .ok (.getfield 25, 3) := by decide +kernel
theorem dX0_ringOf_48 : decode cX0_ringOf 48 = .ok (.iconst 4, 1) := by decide +kernel
theorem dX0_ringOf_49 : decode cX0_ringOf 49 = .ok (.invokevirtual 31, 3) := by decide +kernel
theorem dX0_ringOf_52 : decode cX0_ringOf 52 = .ok (.lastore, 1) := by decide +kernel
theorem dX0_ringOf_53 : decode cX0_ringOf 53 = .ok (.iload_n 2, 1) := by decide +kernel
theorem dX0_ringOf_54 : decode cX0_ringOf 54 = .ok (.iconst 1, 1) := by decide +kernel
theorem dX0_ringOf_55 : decode cX0_ringOf 55 = .ok (.isub, 1) := by decide +kernel
theorem dX0_ringOf_56 : decode cX0_ringOf 56 = .ok (.istore_n 3, 1) := by decide +kernel
theorem dX0_ringOf_57 : decode cX0_ringOf 57 = .ok (.iload_n 3, 1) := by decide +kernel
theorem dX0_ringOf_58 : decode cX0_ringOf 58 = .ok (.ifCond .lt 45, 3) := by decide +kernel
theorem dX0_ringOf_61 : decode cX0_ringOf 61 = .ok (.aload_n 0, 1) := by decide +kernel
theorem dX0_ringOf_62 : decode cX0_ringOf 62 = .ok (.getfield 11, 3) := by decide +kernel
theorem dX0_ringOf_65 : decode cX0_ringOf 65 = .ok (.iload_n 3, 1) := by decide +kernel
theorem dX0_ringOf_66 : decode cX0_ringOf 66 = .ok (.laload, 1) := by decide +kernel
theorem dX0_ringOf_67 : decode cX0_ringOf 67 = .ok (.aload_n 0, 1) := by decide +kernel
theorem dX0_ringOf_68 : decode cX0_ringOf 68 = .ok (.getfield 11, 3) := by decide +kernel
theorem dX0_ringOf_71 : decode cX0_ringOf 71 = .ok (.iload_n 2, 1) := by decide +kernel
theorem dX0_ringOf_72 : decode cX0_ringOf 72 = .ok (.laload, 1) := by decide +kernel
theorem dX0_ringOf_73 : decode cX0_ringOf 73 = .ok (.lcmp, 1) := by decide +kernel
theorem dX0_ringOf_74 : decode cX0_ringOf 74 = .ok (.ifCond .ne 23, 3) := by decide +kernel
theorem dX0_ringOf_77 : decode cX0_ringOf 77 = .ok (.aload_n 0, 1) := by decide +kernel
theorem dX0_ringOf_78 : decode cX0_ringOf 78 = .ok (.getfield 15, 3) := by decide +kernel
theorem dX0_ringOf_81 : decode cX0_ringOf 81 = .ok (.iload_n 3, 1) := by decide +kernel
theorem dX0_ringOf_82 : decode cX0_ringOf 82 = .ok (.laload, 1) := by decide +kernel
theorem dX0_ringOf_83 : decode cX0_ringOf 83 = .ok (.aload_n 0, 1) := by decide +kernel
theorem dX0_ringOf_84 : decode cX0_ringOf 84 = .ok (.getfield 15, 3) := by decide +kernel
theorem dX0_ringOf_87 : decode cX0_ringOf 87 = .ok (.iload_n 2, 1) := by decide +kernel
theorem dX0_ringOf_88 : decode cX0_ringOf 88 = .ok (.laload, 1) := by decide +kernel
theorem dX0_ringOf_89 : decode cX0_ringOf 89 = .ok (.lcmp, 1) := by decide +kernel
theorem dX0_ringOf_90 : decode cX0_ringOf 90 = .ok (.ifCond .ne 7, 3) := by decide +kernel
theorem dX0_ringOf_93 : decode cX0_ringOf 93 = .ok (.iload_n 2, 1) := by decide +kernel
theorem dX0_ringOf_94 : decode cX0_ringOf 94 = .ok (.iload_n 3, 1) := by decide +kernel
theorem dX0_ringOf_95 : decode cX0_ringOf 95 = .ok (.isub, 1) := by decide +kernel
theorem dX0_ringOf_96 : decode cX0_ringOf 96 = .ok (.ireturn, 1) := by decide +kernel
theorem dX0_ringOf_97 : decode cX0_ringOf 97 = .ok (.iinc 3 (-1), 3) := by decide +kernel
theorem dX0_ringOf_100 : decode cX0_ringOf 100 = .ok (.goto (-43), 3) := by decide +kernel
theorem dX0_ringOf_103 : decode cX0_ringOf 103 = .ok (.aload_n 1, 1) := by decide +kernel
theorem dX0_ringOf_104 : decode cX0_ringOf 104 = .ok (.invokevirtual 44, 3) := by decide +kernel
theorem dX0_ringOf_107 : decode cX0_ringOf 107 = .ok (.pop, 1) := by decide +kernel
theorem dX0_ringOf_108 : decode cX0_ringOf 108 = .ok (.iinc 2 1, 3) := by decide +kernel
theorem dX0_ringOf_111 : decode cX0_ringOf 111 = .ok (.goto (-109), 3) := by decide +kernel
theorem dX0_ringOf_114 : decode cX0_ringOf 114 = .ok (.iconst (-1), 1) := by decide +kernel
theorem dX0_ringOf_115 : decode cX0_ringOf 115 = .ok (.ireturn, 1) := by decide +kernel
theorem dX0_cellToTurnIn_0 : decode cX0_cellToTurnIn 0 = .ok (.aload_n 2, 1) := by decide +kernel
theorem dX0_cellToTurnIn_1 : decode cX0_cellToTurnIn 1 = .ok (.aload_n 1, 1) := by decide +kernel
theorem dX0_cellToTurnIn_2 : decode cX0_cellToTurnIn 2 = .ok (.invokevirtual 48, 3) := by decide +kernel
theorem dX0_cellToTurnIn_5 : decode cX0_cellToTurnIn 5 = .ok (.iconst 0, 1) := by decide +kernel
theorem dX0_cellToTurnIn_6 : decode cX0_cellToTurnIn 6 = .ok (.istore 5, 2) := by decide +kernel
theorem dX0_cellToTurnIn_8 : decode cX0_cellToTurnIn 8 = .ok (.iload 5, 2) := by decide +kernel
theorem dX0_cellToTurnIn_10 : decode cX0_cellToTurnIn 10 = .ok (.aload_n 1, 1) := by decide +kernel
theorem dX0_cellToTurnIn_11 : decode cX0_cellToTurnIn 11 = .ok (.getfield 52, 3) := by decide +kernel
theorem dX0_cellToTurnIn_14 : decode cX0_cellToTurnIn 14 = .ok (.if_icmp .ge 40, 3) := by decide +kernel
theorem dX0_cellToTurnIn_17 : decode cX0_cellToTurnIn 17 = .ok (.aload_n 2, 1) := by decide +kernel
theorem dX0_cellToTurnIn_18 : decode cX0_cellToTurnIn 18 = .ok (.aload_n 1, 1) := by decide +kernel
theorem dX0_cellToTurnIn_19 : decode cX0_cellToTurnIn 19 = .ok (.invokevirtual 55, 3) := by decide +kernel
theorem dX0_cellToTurnIn_22 : decode cX0_cellToTurnIn 22 = .ok (.aload_n 2, 1) := by decide +kernel
theorem dX0_cellToTurnIn_23 : decode cX0_cellToTurnIn 23 = .ok (.getfield 25, 3) := by decide +kernel
theorem dX0_cellToTurnIn_26 : decode cX0_cellToTurnIn 26 = .ok (.iload_n 3, 1) := by decide +kernel
theorem dX0_cellToTurnIn_27 : decode cX0_cellToTurnIn 27 = .ok (.iload 5, 2) := by decide +kernel
theorem dX0_cellToTurnIn_29 : decode cX0_cellToTurnIn 29 = .ok (.invokevirtual 58, 3) := by decide +kernel
theorem dX0_cellToTurnIn_32 : decode cX0_cellToTurnIn 32 = .ok (.aload_n 2, 1) := by decide +kernel
theorem dX0_cellToTurnIn_33 : decode cX0_cellToTurnIn 33 = .ok (.iload 4, 2) := by decide +kernel
theorem dX0_cellToTurnIn_35 : decode cX0_cellToTurnIn 35 = .ok (.iconst 1, 1) := by decide +kernel
theorem dX0_cellToTurnIn_36 : decode cX0_cellToTurnIn 36 = .ok (.iadd, 1) := by decide +kernel
theorem dX0_cellToTurnIn_37 : decode cX0_cellToTurnIn 37 = .ok (.invokevirtual 62, 3) := by decide +kernel
theorem dX0_cellToTurnIn_40 : decode cX0_cellToTurnIn 40 = .ok (.iload 4, 2) := by decide +kernel
theorem dX0_cellToTurnIn_42 : decode cX0_cellToTurnIn 42 = .ok (.if_icmp .ne 6, 3) := by decide +kernel
theorem dX0_cellToTurnIn_45 : decode cX0_cellToTurnIn 45 = .ok (.iload 5, 2) := by decide +kernel
theorem dX0_cellToTurnIn_47 : decode cX0_cellToTurnIn 47 = .ok (.ireturn, 1) := by decide +kernel
theorem dX0_cellToTurnIn_48 : decode cX0_cellToTurnIn 48 = .ok (.iinc 5 1, 3) := by decide +kernel
theorem dX0_cellToTurnIn_51 : decode cX0_cellToTurnIn 51 = .ok (.goto (-43), 3) := by decide +kernel
theorem dX0_cellToTurnIn_54 : decode cX0_cellToTurnIn 54 = .ok (.iconst (-1), 1) := by decide +kernel
theorem dX0_cellToTurnIn_55 : decode cX0_cellToTurnIn 55 = .ok (.ireturn, 1) := by decide +kernel
theorem dX0_findSoonest_0 : decode cX0_findSoonest 0 = .ok (.aload_n 0, 1) := by decide +kernel
theorem dX0_findSoonest_1 : decode cX0_findSoonest 1 = .ok (.iconst (-1), 1) := by decide +kernel
theorem dX0_findSoonest_2 : decode cX0_findSoonest 2 = .ok (.putfield 66, 3) := by decide +kernel
theorem dX0_findSoonest_5 : decode cX0_findSoonest 5 = .ok (.aload_n 0, 1) := by decide +kernel
theorem dX0_findSoonest_6 : decode cX0_findSoonest 6 = .ok (.iconst (-1), 1) := by decide +kernel
theorem dX0_findSoonest_7 : decode cX0_findSoonest 7 = .ok (.putfield 69, 3) := by decide +kernel
theorem dX0_findSoonest_10 : decode cX0_findSoonest 10 = .ok (.aload_n 2, 1) := by decide +kernel
theorem dX0_findSoonest_11 : decode cX0_findSoonest 11 = .ok (.aload_n 1, 1) := by decide +kernel
theorem dX0_findSoonest_12 : decode cX0_findSoonest 12 = .ok (.invokevirtual 48, 3) := by decide +kernel
theorem dX0_findSoonest_15 : decode cX0_findSoonest 15 = .ok (.iconst 0, 1) := by decide +kernel
theorem dX0_findSoonest_16 : decode cX0_findSoonest 16 = .ok (.istore 4, 2) := by decide +kernel
theorem dX0_findSoonest_18 : decode cX0_findSoonest 18 = .ok (.iload 4, 2) := by decide +kernel
theorem dX0_findSoonest_20 : decode cX0_findSoonest 20 = .ok (.aload_n 1, 1) := by decide +kernel
theorem dX0_findSoonest_21 : decode cX0_findSoonest 21 = .ok (.getfield 52, 3) := by decide +kernel
theorem dX0_findSoonest_24 : decode cX0_findSoonest 24 = .ok (.if_icmp .ge 69, 3) := by decide +kernel
theorem dX0_findSoonest_27 : decode cX0_findSoonest 27 = .ok (.aload_n 2, 1) := by decide +kernel
theorem dX0_findSoonest_28 : decode cX0_findSoonest 28 = .ok (.aload_n 1, 1) := by decide +kernel
theorem dX0_findSoonest_29 : decode cX0_findSoonest 29 = .ok (.invokevirtual 55, 3) := by decide +kernel
theorem dX0_findSoonest_32 : decode cX0_findSoonest 32 = .ok (.aload_n 2, 1) := by decide +kernel
theorem dX0_findSoonest_33 : decode cX0_findSoonest 33 = .ok (.getfield 25, 3) := by decide +kernel
theorem dX0_findSoonest_36 : decode cX0_findSoonest 36 = .ok (.iload_n 3, 1) := by decide +kernel
theorem dX0_findSoonest_37 : decode cX0_findSoonest 37 = .ok (.iload 4, 2) := by decide +kernel
theorem dX0_findSoonest_39 : decode cX0_findSoonest 39 = .ok (.invokevirtual 58, 3) := by decide +kernel
theorem dX0_findSoonest_42 : decode cX0_findSoonest 42 = .ok (.aload_n 2, 1) := by decide +kernel
theorem dX0_findSoonest_43 : decode cX0_findSoonest 43 = .ok (.iload_n 3, 1) := by decide +kernel
theorem dX0_findSoonest_44 : decode cX0_findSoonest 44 = .ok (.aload_n 0, 1) := by decide +kernel
theorem dX0_findSoonest_45 : decode cX0_findSoonest 45 = .ok (.getfield 66, 3) := by decide +kernel
theorem dX0_findSoonest_48 : decode cX0_findSoonest 48 = .ok (.iconst (-1), 1) := by decide +kernel
theorem dX0_findSoonest_49 : decode cX0_findSoonest 49 = .ok (.if_icmp .ne 9, 3) := by decide +kernel
theorem dX0_findSoonest_52 : decode cX0_findSoonest 52 = .ok (.sipush 400, 3) := by decide +kernel
theorem dX0_findSoonest_55 : decode cX0_findSoonest 55 = .ok (.goto 9, 3) := by decide +kernel
theorem dX0_findSoonest_58 : decode cX0_findSoonest 58 = .ok (.aload_n 0, 1) := by decide +kernel
theorem dX0_findSoonest_59 : decode cX0_findSoonest 59 = .ok (.getfield 66, 3) := by decide +kernel
theorem dX0_findSoonest_62 : decode cX0_findSoonest 62 = .ok (.iconst 1, 1) := by decide +kernel
theorem dX0_findSoonest_63 : decode cX0_findSoonest 63 = .ok (.isub, 1) := by decide +kernel
theorem dX0_findSoonest_64 : decode cX0_findSoonest 64 = .ok (.invokevirtual 72, 3) := by decide +kernel
theorem dX0_findSoonest_67 : decode cX0_findSoonest 67 = .ok (.istore 5, 2) := by decide +kernel
theorem dX0_findSoonest_69 : decode cX0_findSoonest 69 = .ok (.iload 5, 2) := by decide +kernel
theorem dX0_findSoonest_71 : decode cX0_findSoonest 71 = .ok (.iconst (-1), 1) := by decide +kernel
theorem dX0_findSoonest_72 : decode cX0_findSoonest 72 = .ok (.if_icmp .eq 15, 3) := by decide +kernel
theorem dX0_findSoonest_75 : decode cX0_findSoonest 75 = .ok (.aload_n 0, 1) := by decide +kernel
theorem dX0_findSoonest_76 : decode cX0_findSoonest 76 = .ok (.iload 5, 2) := by decide +kernel
theorem dX0_findSoonest_78 : decode cX0_findSoonest 78 = .ok (.putfield 66, 3) := by decide +kernel
theorem dX0_findSoonest_81 : decode cX0_findSoonest 81 = .ok (.aload_n 0, 1) := by decide +kernel
theorem dX0_findSoonest_82 : decode cX0_findSoonest 82 = .ok (.iload 4, 2) := by decide +kernel
theorem dX0_findSoonest_84 : decode cX0_findSoonest 84 = .ok (.putfield 69, 3) := by decide +kernel
theorem dX0_findSoonest_87 : decode cX0_findSoonest 87 = .ok (.iinc 4 1, 3) := by decide +kernel
theorem dX0_findSoonest_90 : decode cX0_findSoonest 90 = .ok (.goto (-72), 3) := by decide +kernel
theorem dX0_findSoonest_93 : decode cX0_findSoonest 93 = .ok (.return_, 1) := by decide +kernel
theorem dX0_findDrive_0 : decode cX0_findDrive 0 = .ok (.aload_n 0, 1) := by decide +kernel
theorem dX0_findDrive_1 : decode cX0_findDrive 1 = .ok (.iconst (-1), 1) := by decide +kernel
theorem dX0_findDrive_2 : decode cX0_findDrive 2 = .ok (.putfield 66, 3) := by decide +kernel
theorem dX0_findDrive_5 : decode cX0_findDrive 5 = .ok (.aload_n 2, 1) := by decide +kernel
theorem dX0_findDrive_6 : decode cX0_findDrive 6 = .ok (.aload_n 1, 1) := by decide +kernel
theorem dX0_findDrive_7 : decode cX0_findDrive 7 = .ok (.invokevirtual 48, 3) := by decide +kernel
theorem dX0_findDrive_10 : decode cX0_findDrive 10 = .ok (.iconst 0, 1) := by decide +kernel
theorem dX0_findDrive_11 : decode cX0_findDrive 11 = .ok (.istore 7, 2) := by decide +kernel
theorem dX0_findDrive_13 : decode cX0_findDrive 13 = .ok (.iload 7, 2) := by decide +kernel
theorem dX0_findDrive_15 : decode cX0_findDrive 15 = .ok (.aload_n 1, 1) := by decide +kernel
theorem dX0_findDrive_16 : decode cX0_findDrive 16 = .ok (.getfield 52, 3) := by decide +kernel
theorem dX0_findDrive_19 : decode cX0_findDrive 19 = .ok (.if_icmp .ge 109, 3) := by decide +kernel
theorem dX0_findDrive_22 : decode cX0_findDrive 22 = .ok (.iconst 0, 1) := by decide +kernel
theorem dX0_findDrive_23 : decode cX0_findDrive 23 = .ok (.istore 8, 2) := by decide +kernel
theorem dX0_findDrive_25 : decode cX0_findDrive 25 = .ok (.iload 8, 2) := by decide +kernel
theorem dX0_findDrive_27 : decode cX0_findDrive 27 = .ok (.aload_n 1, 1) := by decide +kernel
theorem dX0_findDrive_28 : decode cX0_findDrive 28 = .ok (.getfield 52, 3) := by decide +kernel
theorem dX0_findDrive_31 : decode cX0_findDrive 31 = .ok (.if_icmp .ge 91, 3) := by decide +kernel
theorem dX0_findDrive_34 : decode cX0_findDrive 34 = .ok (.aload_n 2, 1) := by decide +kernel
theorem dX0_findDrive_35 : decode cX0_findDrive 35 = .ok (.aload_n 1, 1) := by decide +kernel
theorem dX0_findDrive_36 : decode cX0_findDrive 36 = .ok (.invokevirtual 55, 3) := by decide +kernel
theorem dX0_findDrive_39 : decode cX0_findDrive 39 = .ok (.aload_n 2, 1) := by decide +kernel
theorem dX0_findDrive_40 : decode cX0_findDrive 40 = .ok (.getfield 25, 3) := by decide +kernel
theorem dX0_findDrive_43 : decode cX0_findDrive 43 = .ok (.iload 4, 2) := by decide +kernel
theorem dX0_findDrive_45 : decode cX0_findDrive 45 = .ok (.iload 7, 2) := by decide +kernel
theorem dX0_findDrive_47 : decode cX0_findDrive 47 = .ok (.invokevirtual 58, 3) := by decide +kernel
theorem dX0_findDrive_50 : decode cX0_findDrive 50 = .ok (.aload_n 2, 1) := by decide +kernel
theorem dX0_findDrive_51 : decode cX0_findDrive 51 = .ok (.getfield 25, 3) := by decide +kernel
theorem dX0_findDrive_54 : decode cX0_findDrive 54 = .ok (.iload 5, 2) := by decide +kernel
theorem dX0_findDrive_56 : decode cX0_findDrive 56 = .ok (.iload 8, 2) := by decide +kernel
theorem dX0_findDrive_58 : decode cX0_findDrive 58 = .ok (.invokevirtual 58, 3) := by decide +kernel
theorem dX0_findDrive_61 : decode cX0_findDrive 61 = .ok (.aload_n 2, 1) := by decide +kernel
theorem dX0_findDrive_62 : decode cX0_findDrive 62 = .ok (.iload 6, 2) := by decide +kernel
theorem dX0_findDrive_64 : decode cX0_findDrive 64 = .ok (.invokevirtual 76, 3) := by decide +kernel
theorem dX0_findDrive_67 : decode cX0_findDrive 67 = .ok (.pop, 1) := by decide +kernel
theorem dX0_findDrive_68 : decode cX0_findDrive 68 = .ok (.aload_n 2, 1) := by decide +kernel
theorem dX0_findDrive_69 : decode cX0_findDrive 69 = .ok (.getfield 79, 3) := by decide +kernel
theorem dX0_findDrive_72 : decode cX0_findDrive 72 = .ok (.getfield 83, 3) := by decide +kernel
theorem dX0_findDrive_75 : decode cX0_findDrive 75 = .ok (.iload_n 3, 1) := by decide +kernel
theorem dX0_findDrive_76 : decode cX0_findDrive 76 = .ok (.iaload, 1) := by decide +kernel
theorem dX0_findDrive_77 : decode cX0_findDrive 77 = .ok (.aload_n 1, 1) := by decide +kernel
theorem dX0_findDrive_78 : decode cX0_findDrive 78 = .ok (.getfield 79, 3) := by decide +kernel
theorem dX0_findDrive_81 : decode cX0_findDrive 81 = .ok (.getfield 83, 3) := by decide +kernel
theorem dX0_findDrive_84 : decode cX0_findDrive 84 = .ok (.iload_n 3, 1) := by decide +kernel
theorem dX0_findDrive_85 : decode cX0_findDrive 85 = .ok (.iaload, 1) := by decide +kernel
theorem dX0_findDrive_86 : decode cX0_findDrive 86 = .ok (.isub, 1) := by decide +kernel
theorem dX0_findDrive_87 : decode cX0_findDrive 87 = .ok (.istore 9, 2) := by decide +kernel
theorem dX0_findDrive_89 : decode cX0_findDrive 89 = .ok (.iload 9, 2) := by decide +kernel
theorem dX0_findDrive_91 : decode cX0_findDrive 91 = .ok (.aload_n 0, 1) := by decide +kernel
theorem dX0_findDrive_92 : decode cX0_findDrive 92 = .ok (.getfield 66, 3) := by decide +kernel
theorem dX0_findDrive_95 : decode cX0_findDrive 95 = .ok (.if_icmp .le 21, 3) := by decide +kernel
theorem dX0_findDrive_98 : decode cX0_findDrive 98 = .ok (.aload_n 0, 1) := by decide +kernel
theorem dX0_findDrive_99 : decode cX0_findDrive 99 = .ok (.iload 9, 2) := by decide +kernel
theorem dX0_findDrive_101 : decode cX0_findDrive 101 = .ok (.putfield 66, 3) := by decide +kernel
theorem dX0_findDrive_104 : decode cX0_findDrive 104 = .ok (.aload_n 0, 1) := by decide +kernel
theorem dX0_findDrive_105 : decode cX0_findDrive 105 = .ok (.iload 7, 2) := by decide +kernel
theorem dX0_findDrive_107 : decode cX0_findDrive 107 = .ok (.putfield 69, 3) := by decide +kernel
theorem dX0_findDrive_110 : decode cX0_findDrive 110 = .ok (.aload_n 0, 1) := by decide +kernel
theorem dX0_findDrive_111 : decode cX0_findDrive 111 = .ok (.iload 8, 2) := by decide +kernel
theorem dX0_findDrive_113 : decode cX0_findDrive 113 = .ok (.putfield 89, 3) := by decide +kernel
theorem dX0_findDrive_116 : decode cX0_findDrive 116 = .ok (.iinc 8 1, 3) := by decide +kernel
theorem dX0_findDrive_119 : decode cX0_findDrive 119 = .ok (.goto (-94), 3) := by decide +kernel
theorem dX0_findDrive_122 : decode cX0_findDrive 122 = .ok (.iinc 7 1, 3) := by decide +kernel
theorem dX0_findDrive_125 : decode cX0_findDrive 125 = .ok (.goto (-112), 3) := by decide +kernel
theorem dX0_findDrive_128 : decode cX0_findDrive 128 = .ok (.return_, 1) := by decide +kernel
theorem dX0_canBeSeen_0 : decode cX0_canBeSeen 0 = .ok (.iconst 0, 1) := by decide +kernel
theorem dX0_canBeSeen_1 : decode cX0_canBeSeen 1 = .ok (.istore_n 2, 1) := by decide +kernel
theorem dX0_canBeSeen_2 : decode cX0_canBeSeen 2 = .ok (.iload_n 2, 1) := by decide +kernel
theorem dX0_canBeSeen_3 : decode cX0_canBeSeen 3 = .ok (.iload_n 1, 1) := by decide +kernel
theorem dX0_canBeSeen_4 : decode cX0_canBeSeen 4 = .ok (.if_icmp .ge 54, 3) := by decide +kernel
theorem dX0_canBeSeen_7 : decode cX0_canBeSeen 7 = .ok (.aload_n 0, 1) := by decide +kernel
theorem dX0_canBeSeen_8 : decode cX0_canBeSeen 8 = .ok (.iconst 2, 1) := by decide +kernel
theorem dX0_canBeSeen_9 : decode cX0_canBeSeen 9 = .ok (.iload_n 2, 1) := by decide +kernel
theorem dX0_canBeSeen_10 : decode cX0_canBeSeen 10 = .ok (.imul, 1) := by decide +kernel
theorem dX0_canBeSeen_11 : decode cX0_canBeSeen 11 = .ok (.laload, 1) := by decide +kernel
theorem dX0_canBeSeen_12 : decode cX0_canBeSeen 12 = .ok (.lstore_n 3, 1) := by decide +kernel
theorem dX0_canBeSeen_13 : decode cX0_canBeSeen 13 = .ok (.aload_n 0, 1) := by decide +kernel
theorem dX0_canBeSeen_14 : decode cX0_canBeSeen 14 = .ok (.iconst 2, 1) := by decide +kernel
theorem dX0_canBeSeen_15 : decode cX0_canBeSeen 15 = .ok (.iload_n 2, 1) := by decide +kernel
theorem dX0_canBeSeen_16 : decode cX0_canBeSeen 16 = .ok (.imul, 1) := by decide +kernel
theorem dX0_canBeSeen_17 : decode cX0_canBeSeen 17 = .ok (.iconst 1, 1) := by decide +kernel
theorem dX0_canBeSeen_18 : decode cX0_canBeSeen 18 = .ok (.iadd, 1) := by decide +kernel
theorem dX0_canBeSeen_19 : decode cX0_canBeSeen 19 = .ok (.laload, 1) := by decide +kernel
theorem dX0_canBeSeen_20 : decode cX0_canBeSeen 20 = .ok (.lstore 5, 2) := by decide +kernel
theorem dX0_canBeSeen_22 : decode cX0_canBeSeen 22 = .ok (.lload_n 3, 1) := by decide +kernel
theorem dX0_canBeSeen_23 : decode cX0_canBeSeen 23 = .ok (.lconst 0, 1) := by decide +kernel
theorem dX0_canBeSeen_24 : decode cX0_canBeSeen 24 = .ok (.lcmp, 1) := by decide +kernel
theorem dX0_canBeSeen_25 : decode cX0_canBeSeen 25 = .ok (.ifCond .lt 25, 3) := by decide +kernel
theorem dX0_canBeSeen_28 : decode cX0_canBeSeen 28 = .ok (.lload_n 3, 1) := by decide +kernel
theorem dX0_canBeSeen_29 : decode cX0_canBeSeen 29 = .ok (.ldc2_w 92, 3) := by decide +kernel
theorem dX0_canBeSeen_32 : decode cX0_canBeSeen 32 = .ok (.lcmp, 1) := by decide +kernel
theorem dX0_canBeSeen_33 : decode cX0_canBeSeen 33 = .ok (.ifCond .gt 17, 3) := by decide +kernel
theorem dX0_canBeSeen_36 : decode cX0_canBeSeen 36 = .ok (.lload 5, 2) := by decide +kernel
theorem dX0_canBeSeen_38 : decode cX0_canBeSeen 38 = .ok (.lconst 0, 1) := by decide +kernel
theorem dX0_canBeSeen_39 : decode cX0_canBeSeen 39 = .ok (.lcmp, 1) := by decide +kernel
theorem dX0_canBeSeen_40 : decode cX0_canBeSeen 40 = .ok (.ifCond .lt 10, 3) := by decide +kernel
theorem dX0_canBeSeen_43 : decode cX0_canBeSeen 43 = .ok (.lload 5, 2) := by decide +kernel
theorem dX0_canBeSeen_45 : decode cX0_canBeSeen 45 = .ok (.lconst 1, 1) := by decide +kernel
theorem dX0_canBeSeen_46 : decode cX0_canBeSeen 46 = .ok (.lcmp, 1) := by decide +kernel
theorem dX0_canBeSeen_47 : decode cX0_canBeSeen 47 = .ok (.ifCond .le 5, 3) := by decide +kernel
theorem dX0_canBeSeen_50 : decode cX0_canBeSeen 50 = .ok (.iconst 0, 1) := by decide +kernel
theorem dX0_canBeSeen_51 : decode cX0_canBeSeen 51 = .ok (.ireturn, 1) := by decide +kernel
theorem dX0_canBeSeen_52 : decode cX0_canBeSeen 52 = .ok (.iinc 2 1, 3) := by decide +kernel
theorem dX0_canBeSeen_55 : decode cX0_canBeSeen 55 = .ok (.goto (-53), 3) := by decide +kernel
theorem dX0_canBeSeen_58 : decode cX0_canBeSeen 58 = .ok (.iconst 1, 1) := by decide +kernel
theorem dX0_canBeSeen_59 : decode cX0_canBeSeen 59 = .ok (.ireturn, 1) := by decide +kernel
theorem dX0_findMinds_0 : decode cX0_findMinds 0 = .ok (.aload_n 2, 1) := by decide +kernel
theorem dX0_findMinds_1 : decode cX0_findMinds 1 = .ok (.aload_n 1, 1) := by decide +kernel
theorem dX0_findMinds_2 : decode cX0_findMinds 2 = .ok (.invokevirtual 48, 3) := by decide +kernel
theorem dX0_findMinds_5 : decode cX0_findMinds 5 = .ok (.iconst 1, 1) := by decide +kernel
theorem dX0_findMinds_6 : decode cX0_findMinds 6 = .ok (.istore 6, 2) := by decide +kernel
theorem dX0_findMinds_8 : decode cX0_findMinds 8 = .ok (.iload 6, 2) := by decide +kernel
theorem dX0_findMinds_10 : decode cX0_findMinds 10 = .ok (.bipush 24, 2) := by decide +kernel
theorem dX0_findMinds_12 : decode cX0_findMinds 12 = .ok (.if_icmp .gt 91, 3) := by decide +kernel
theorem dX0_findMinds_15 : decode cX0_findMinds 15 = .ok (.aload_n 2, 1) := by decide +kernel
theorem dX0_findMinds_16 : decode cX0_findMinds 16 = .ok (.aload_n 1, 1) := by decide +kernel
theorem dX0_findMinds_17 : decode cX0_findMinds 17 = .ok (.invokevirtual 55, 3) := by decide +kernel
theorem dX0_findMinds_20 : decode cX0_findMinds 20 = .ok (.aload_n 2, 1) := by decide +kernel
theorem dX0_findMinds_21 : decode cX0_findMinds 21 = .ok (.getfield 25, 3) := by decide +kernel
theorem dX0_findMinds_24 : decode cX0_findMinds 24 = .ok (.getfield 94, 3) := by decide +kernel
theorem dX0_findMinds_27 : decode cX0_findMinds 27 = .ok (.iload_n 3, 1) := by decide +kernel
theorem dX0_findMinds_28 : decode cX0_findMinds 28 = .ok (.iload 6, 2) := by decide +kernel
theorem dX0_findMinds_30 : decode cX0_findMinds 30 = .ok (.iastore, 1) := by decide +kernel
theorem dX0_findMinds_31 : decode cX0_findMinds 31 = .ok (.aload_n 0, 1) := by decide +kernel
theorem dX0_findMinds_32 : decode cX0_findMinds 32 = .ok (.getfield 18, 3) := by decide +kernel
theorem dX0_findMinds_35 : decode cX0_findMinds 35 = .ok (.iload 6, 2) := by decide +kernel
theorem dX0_findMinds_37 : decode cX0_findMinds 37 = .ok (.lconst 0, 1) := by decide +kernel
theorem dX0_findMinds_38 : decode cX0_findMinds 38 = .ok (.lastore, 1) := by decide +kernel
theorem dX0_findMinds_39 : decode cX0_findMinds 39 = .ok (.iconst 0, 1) := by decide +kernel
theorem dX0_findMinds_40 : decode cX0_findMinds 40 = .ok (.istore 7, 2) := by decide +kernel
theorem dX0_findMinds_42 : decode cX0_findMinds 42 = .ok (.iload 7, 2) := by decide +kernel
theorem dX0_findMinds_44 : decode cX0_findMinds 44 = .ok (.bipush 60, 2) := by decide +kernel
theorem dX0_findMinds_46 : decode cX0_findMinds 46 = .ok (.if_icmp .gt 30, 3) := by decide +kernel
theorem dX0_findMinds_49 : decode cX0_findMinds 49 = .ok (.aload_n 2, 1) := by decide +kernel
theorem dX0_findMinds_50 : decode cX0_findMinds 50 = .ok (.invokevirtual 44, 3) := by decide +kernel
theorem dX0_findMinds_53 : decode cX0_findMinds 53 = .ok (.ifCond .eq 17, 3) := by decide +kernel
theorem dX0_findMinds_56 : decode cX0_findMinds 56 = .ok (.aload_n 0, 1) := by decide +kernel
theorem dX0_findMinds_57 : decode cX0_findMinds 57 = .ok (.getfield 18, 3) := by decide +kernel
theorem dX0_findMinds_60 : decode cX0_findMinds 60 = .ok (.iload 6, 2) := by decide +kernel
theorem dX0_findMinds_62 : decode cX0_findMinds 62 = .ok (.dup2, 1) := by decide +kernel
theorem dX0_findMinds_63 : decode cX0_findMinds 63 = .ok (.laload, 1) := by decide +kernel
theorem dX0_findMinds_64 : decode cX0_findMinds 64 = .ok (.lconst 1, 1) := by decide +kernel
theorem dX0_findMinds_65 : decode cX0_findMinds 65 = .ok (.iload 7, 2) := by decide +kernel
theorem dX0_findMinds_67 : decode cX0_findMinds 67 = .ok (.lshl, 1) := by decide +kernel
theorem dX0_findMinds_68 : decode cX0_findMinds 68 = .ok (.lor, 1) := by decide +kernel
theorem dX0_findMinds_69 : decode cX0_findMinds 69 = .ok (.lastore, 1) := by decide +kernel
theorem dX0_findMinds_70 : decode cX0_findMinds 70 = .ok (.iinc 7 1, 3) := by decide +kernel
theorem dX0_findMinds_73 : decode cX0_findMinds 73 = .ok (.goto (-31), 3) := by decide +kernel
theorem dX0_findMinds_76 : decode cX0_findMinds 76 = .ok (.aload_n 0, 1) := by decide +kernel
theorem dX0_findMinds_77 : decode cX0_findMinds 77 = .ok (.getfield 21, 3) := by decide +kernel
theorem dX0_findMinds_80 : decode cX0_findMinds 80 = .ok (.iload 6, 2) := by decide +kernel
theorem dX0_findMinds_82 : decode cX0_findMinds 82 = .ok (.aload_n 0, 1) := by decide +kernel
theorem dX0_findMinds_83 : decode cX0_findMinds 83 = .ok (.getfield 18, 3) := by decide +kernel
theorem dX0_findMinds_86 : decode cX0_findMinds 86 = .ok (.iload 6, 2) := by decide +kernel
theorem dX0_findMinds_88 : decode cX0_findMinds 88 = .ok (.laload, 1) := by decide +kernel
theorem dX0_findMinds_89 : decode cX0_findMinds 89 = .ok (.aload 4, 2) := by decide +kernel
theorem dX0_findMinds_91 : decode cX0_findMinds 91 = .ok (.iload 5, 2) := by decide +kernel
theorem dX0_findMinds_93 : decode cX0_findMinds 93 = .ok (.invokestatic 97, 3) := by decide +kernel
theorem dX0_findMinds_96 : decode cX0_findMinds 96 = .ok (.bastore, 1) := by decide +kernel
theorem dX0_findMinds_97 : decode cX0_findMinds 97 = .ok (.iinc 6 1, 3) := by decide +kernel
theorem dX0_findMinds_100 : decode cX0_findMinds 100 = .ok (.goto (-92), 3) := by decide +kernel
theorem dX0_findMinds_103 : decode cX0_findMinds 103 = .ok (.return_, 1) := by decide +kernel
theorem dX0_fitsAll_0 : decode cX0_fitsAll 0 = .ok (.iconst 0, 1) := by decide +kernel
theorem dX0_fitsAll_1 : decode cX0_fitsAll 1 = .ok (.istore 4, 2) := by decide +kernel
theorem dX0_fitsAll_3 : decode cX0_fitsAll 3 = .ok (.iload 4, 2) := by decide +kernel
theorem dX0_fitsAll_5 : decode cX0_fitsAll 5 = .ok (.iload_n 3, 1) := by decide +kernel
theorem dX0_fitsAll_6 : decode cX0_fitsAll 6 = .ok (.if_icmp .ge 34, 3) := by decide +kernel
theorem dX0_fitsAll_9 : decode cX0_fitsAll 9 = .ok (.lload_n 0, 1) := by decide +kernel
theorem dX0_fitsAll_10 : decode cX0_fitsAll 10 = .ok (.aload_n 2, 1) := by decide +kernel
theorem dX0_fitsAll_11 : decode cX0_fitsAll 11 = .ok (.iconst 2, 1) := by decide +kernel
theorem dX0_fitsAll_12 : decode cX0_fitsAll 12 = .ok (.iload 4, 2) := by decide +kernel
theorem dX0_fitsAll_14 : decode cX0_fitsAll 14 = .ok (.imul, 1) := by decide +kernel
theorem dX0_fitsAll_15 : decode cX0_fitsAll 15 = .ok (.laload, 1) := by decide +kernel
theorem dX0_fitsAll_16 : decode cX0_fitsAll 16 = .ok (.l2i, 1) := by decide +kernel
theorem dX0_fitsAll_17 : decode cX0_fitsAll 17 = .ok (.lshr, 1) := by decide +kernel
theorem dX0_fitsAll_18 : decode cX0_fitsAll 18 = .ok (.lconst 1, 1) := by decide +kernel
theorem dX0_fitsAll_19 : decode cX0_fitsAll 19 = .ok (.land, 1) := by decide +kernel
theorem dX0_fitsAll_20 : decode cX0_fitsAll 20 = .ok (.aload_n 2, 1) := by decide +kernel
theorem dX0_fitsAll_21 : decode cX0_fitsAll 21 = .ok (.iconst 2, 1) := by decide +kernel
theorem dX0_fitsAll_22 : decode cX0_fitsAll 22 = .ok (.iload 4, 2) := by decide +kernel
theorem dX0_fitsAll_24 : decode cX0_fitsAll 24 = .ok (.imul, 1) := by decide +kernel
theorem dX0_fitsAll_25 : decode cX0_fitsAll 25 = .ok (.iconst 1, 1) := by decide +kernel
theorem dX0_fitsAll_26 : decode cX0_fitsAll 26 = .ok (.iadd, 1) := by decide +kernel
theorem dX0_fitsAll_27 : decode cX0_fitsAll 27 = .ok (.laload, 1) := by decide +kernel
theorem dX0_fitsAll_28 : decode cX0_fitsAll 28 = .ok (.lcmp, 1) := by decide +kernel
theorem dX0_fitsAll_29 : decode cX0_fitsAll 29 = .ok (.ifCond .eq 5, 3) := by decide +kernel
theorem dX0_fitsAll_32 : decode cX0_fitsAll 32 = .ok (.iconst 0, 1) := by decide +kernel
theorem dX0_fitsAll_33 : decode cX0_fitsAll 33 = .ok (.ireturn, 1) := by decide +kernel
theorem dX0_fitsAll_34 : decode cX0_fitsAll 34 = .ok (.iinc 4 1, 3) := by decide +kernel
theorem dX0_fitsAll_37 : decode cX0_fitsAll 37 = .ok (.goto (-34), 3) := by decide +kernel
theorem dX0_fitsAll_40 : decode cX0_fitsAll 40 = .ok (.iconst 1, 1) := by decide +kernel
theorem dX0_fitsAll_41 : decode cX0_fitsAll 41 = .ok (.ireturn, 1) := by decide +kernel
theorem dX0_countMinds_0 : decode cX0_countMinds 0 = .ok (.iconst 0, 1) := by decide +kernel
theorem dX0_countMinds_1 : decode cX0_countMinds 1 = .ok (.istore_n 1, 1) := by decide +kernel
theorem dX0_countMinds_2 : decode cX0_countMinds 2 = .ok (.iconst 1, 1) := by decide +kernel
theorem dX0_countMinds_3 : decode cX0_countMinds 3 = .ok (.istore_n 2, 1) := by decide +kernel
theorem dX0_countMinds_4 : decode cX0_countMinds 4 = .ok (.iload_n 2, 1) := by decide +kernel
theorem dX0_countMinds_5 : decode cX0_countMinds 5 = .ok (.bipush 24, 2) := by decide +kernel
theorem dX0_countMinds_7 : decode cX0_countMinds 7 = .ok (.if_icmp .gt 26, 3) := by decide +kernel
theorem dX0_countMinds_10 : decode cX0_countMinds 10 = .ok (.iload_n 1, 1) := by decide +kernel
theorem dX0_countMinds_11 : decode cX0_countMinds 11 = .ok (.aload_n 0, 1) := by decide +kernel
theorem dX0_countMinds_12 : decode cX0_countMinds 12 = .ok (.getfield 21, 3) := by decide +kernel
theorem dX0_countMinds_15 : decode cX0_countMinds 15 = .ok (.iload_n 2, 1) := by decide +kernel
theorem dX0_countMinds_16 : decode cX0_countMinds 16 = .ok (.baload, 1) := by decide +kernel
theorem dX0_countMinds_17 : decode cX0_countMinds 17 = .ok (.ifCond .eq 7, 3) := by decide +kernel
theorem dX0_countMinds_20 : decode cX0_countMinds 20 = .ok (.iconst 1, 1) := by decide +kernel
theorem dX0_countMinds_21 : decode cX0_countMinds 21 = .ok (.goto 4, 3) := by decide +kernel
theorem dX0_countMinds_24 : decode cX0_countMinds 24 = .ok (.iconst 0, 1) := by decide +kernel
theorem dX0_countMinds_25 : decode cX0_countMinds 25 = .ok (.iadd, 1) := by decide +kernel
theorem dX0_countMinds_26 : decode cX0_countMinds 26 = .ok (.istore_n 1, 1) := by decide +kernel
theorem dX0_countMinds_27 : decode cX0_countMinds 27 = .ok (.iinc 2 1, 3) := by decide +kernel
theorem dX0_countMinds_30 : decode cX0_countMinds 30 = .ok (.goto (-26), 3) := by decide +kernel
theorem dX0_countMinds_33 : decode cX0_countMinds 33 = .ok (.iload_n 1, 1) := by decide +kernel
theorem dX0_countMinds_34 : decode cX0_countMinds 34 = .ok (.ireturn, 1) := by decide +kernel
theorem dX0_leastMind_0 : decode cX0_leastMind 0 = .ok (.iconst 1, 1) := by decide +kernel
theorem dX0_leastMind_1 : decode cX0_leastMind 1 = .ok (.istore_n 1, 1) := by decide +kernel
theorem dX0_leastMind_2 : decode cX0_leastMind 2 = .ok (.iload_n 1, 1) := by decide +kernel
theorem dX0_leastMind_3 : decode cX0_leastMind 3 = .ok (.bipush 24, 2) := by decide +kernel
theorem dX0_leastMind_5 : decode cX0_leastMind 5 = .ok (.if_icmp .gt 20, 3) := by decide +kernel
theorem dX0_leastMind_8 : decode cX0_leastMind 8 = .ok (.aload_n 0, 1) := by decide +kernel
theorem dX0_leastMind_9 : decode cX0_leastMind 9 = .ok (.getfield 21, 3) := by decide +kernel
theorem dX0_leastMind_12 : decode cX0_leastMind 12 = .ok (.iload_n 1, 1) := by decide +kernel
theorem dX0_leastMind_13 : decode cX0_leastMind 13 = .ok (.baload, 1) := by decide +kernel
theorem dX0_leastMind_14 : decode cX0_leastMind 14 = .ok (.ifCond .eq 5, 3) := by decide +kernel
theorem dX0_leastMind_17 : decode cX0_leastMind 17 = .ok (.iload_n 1, 1) := by decide +kernel
theorem dX0_leastMind_18 : decode cX0_leastMind 18 = .ok (.ireturn, 1) := by decide +kernel
theorem dX0_leastMind_19 : decode cX0_leastMind 19 = .ok (.iinc 1 1, 3) := by decide +kernel
theorem dX0_leastMind_22 : decode cX0_leastMind 22 = .ok (.goto (-20), 3) := by decide +kernel
theorem dX0_leastMind_25 : decode cX0_leastMind 25 = .ok (.iconst (-1), 1) := by decide +kernel
theorem dX0_leastMind_26 : decode cX0_leastMind 26 = .ok (.ireturn, 1) := by decide +kernel
theorem dX0_greatestMind_0 : decode cX0_greatestMind 0 = .ok (.bipush 24, 2) := by decide +kernel
theorem dX0_greatestMind_2 : decode cX0_greatestMind 2 = .ok (.istore_n 1, 1) := by decide +kernel
theorem dX0_greatestMind_3 : decode cX0_greatestMind 3 = .ok (.iload_n 1, 1) := by decide +kernel
theorem dX0_greatestMind_4 : decode cX0_greatestMind 4 = .ok (.iconst 1, 1) := by decide +kernel
theorem dX0_greatestMind_5 : decode cX0_greatestMind 5 = .ok (.if_icmp .lt 20, 3) := by decide +kernel
theorem dX0_greatestMind_8 : decode cX0_greatestMind 8 = .ok (.aload_n 0, 1) := by decide +kernel
theorem dX0_greatestMind_9 : decode cX0_greatestMind 9 = .ok (.getfield 21, 3) := by decide +kernel
theorem dX0_greatestMind_12 : decode cX0_greatestMind 12 = .ok (.iload_n 1, 1) := by decide +kernel
theorem dX0_greatestMind_13 : decode cX0_greatestMind 13 = .ok (.baload, 1) := by decide +kernel
theorem dX0_greatestMind_14 : decode cX0_greatestMind 14 = .ok (.ifCond .eq 5, 3) := by decide +kernel
theorem dX0_greatestMind_17 : decode cX0_greatestMind 17 = .ok (.iload_n 1, 1) := by decide +kernel
theorem dX0_greatestMind_18 : decode cX0_greatestMind 18 = .ok (.ireturn, 1) := by decide +kernel
theorem dX0_greatestMind_19 : decode cX0_greatestMind 19 = .ok (.iinc 1 (-1), 3) := by decide +kernel
theorem dX0_greatestMind_22 : decode cX0_greatestMind 22 = .ok (.goto (-19), 3) := by decide +kernel
theorem dX0_greatestMind_25 : decode cX0_greatestMind 25 = .ok (.iconst (-1), 1) := by decide +kernel
theorem dX0_greatestMind_26 : decode cX0_greatestMind 26 = .ok (.ireturn, 1) := by decide +kernel
theorem dX0_bestQuestion_0 : decode cX0_bestQuestion 0 = .ok (.aload_n 0, 1) := by decide +kernel
theorem dX0_bestQuestion_1 : decode cX0_bestQuestion 1 = .ok (.invokevirtual 101, 3) := by decide +kernel
theorem dX0_bestQuestion_4 : decode cX0_bestQuestion 4 = .ok (.istore_n 1, 1) := by decide +kernel
theorem dX0_bestQuestion_5 : decode cX0_bestQuestion 5 = .ok (.iload_n 1, 1) := by decide +kernel
theorem dX0_bestQuestion_6 : decode cX0_bestQuestion 6 = .ok (.iconst 2, 1) := by decide +kernel
theorem dX0_bestQuestion_7 : decode cX0_bestQuestion 7 = .ok (.if_icmp .ge 5, 3) := by decide +kernel
theorem dX0_bestQuestion_10 : decode cX0_bestQuestion 10 = .ok (.iconst (-1), 1) := by decide +kernel
theorem dX0_bestQuestion_11 : decode cX0_bestQuestion 11 = .ok (.ireturn, 1) := by decide +kernel
theorem dX0_bestQuestion_12 : decode cX0_bestQuestion 12 = .ok (.iload_n 1, 1) := by decide +kernel
theorem dX0_bestQuestion_13 : decode cX0_bestQuestion 13 = .ok (.iconst 1, 1) := by decide +kernel
theorem dX0_bestQuestion_14 : decode cX0_bestQuestion 14 = .ok (.iadd, 1) := by decide +kernel
theorem dX0_bestQuestion_15 : decode cX0_bestQuestion 15 = .ok (.istore_n 2, 1) := by decide +kernel
theorem dX0_bestQuestion_16 : decode cX0_bestQuestion 16 = .ok (.iconst (-1), 1) := by decide +kernel
theorem dX0_bestQuestion_17 : decode cX0_bestQuestion 17 = .ok (.istore_n 3, 1) := by decide +kernel
theorem dX0_bestQuestion_18 : decode cX0_bestQuestion 18 = .ok (.iconst 0, 1) := by decide +kernel
theorem dX0_bestQuestion_19 : decode cX0_bestQuestion 19 = .ok (.istore 4, 2) := by decide +kernel
theorem dX0_bestQuestion_21 : decode cX0_bestQuestion 21 = .ok (.iload 4, 2) := by decide +kernel
theorem dX0_bestQuestion_23 : decode cX0_bestQuestion 23 = .ok (.bipush 60, 2) := by decide +kernel
theorem dX0_bestQuestion_25 : decode cX0_bestQuestion 25 = .ok (.if_icmp .gt 40, 3) := by decide +kernel
theorem dX0_bestQuestion_28 : decode cX0_bestQuestion 28 = .ok (.aload_n 0, 1) := by decide +kernel
theorem dX0_bestQuestion_29 : decode cX0_bestQuestion 29 = .ok (.iload 4, 2) := by decide +kernel
theorem dX0_bestQuestion_31 : decode cX0_bestQuestion 31 = .ok (.invokevirtual 105, 3) := by decide +kernel
theorem dX0_bestQuestion_34 : decode cX0_bestQuestion 34 = .ok (.istore 5, 2) := by decide +kernel
theorem dX0_bestQuestion_36 : decode cX0_bestQuestion 36 = .ok (.iload 5, 2) := by decide +kernel
theorem dX0_bestQuestion_38 : decode cX0_bestQuestion 38 = .ok (.iload_n 1, 1) := by decide +kernel
theorem dX0_bestQuestion_39 : decode cX0_bestQuestion 39 = .ok (.iload 5, 2) := by decide +kernel
theorem dX0_bestQuestion_41 : decode cX0_bestQuestion 41 = .ok (.isub, 1) := by decide +kernel
theorem dX0_bestQuestion_42 : decode cX0_bestQuestion 42 = .ok (.invokestatic 108, 3) := by decide +kernel
theorem dX0_bestQuestion_45 : decode cX0_bestQuestion 45 = .ok (.istore 6, 2) := by decide +kernel
theorem dX0_bestQuestion_47 : decode cX0_bestQuestion 47 = .ok (.iload 6, 2) := by decide +kernel
theorem dX0_bestQuestion_49 : decode cX0_bestQuestion 49 = .ok (.iload_n 2, 1) := by decide +kernel
theorem dX0_bestQuestion_50 : decode cX0_bestQuestion 50 = .ok (.if_icmp .ge 9, 3) := by decide +kernel
theorem dX0_bestQuestion_53 : decode cX0_bestQuestion 53 = .ok (.iload 6, 2) := by decide +kernel
theorem dX0_bestQuestion_55 : decode cX0_bestQuestion 55 = .ok (.istore_n 2, 1) := by decide +kernel
theorem dX0_bestQuestion_56 : decode cX0_bestQuestion 56 = .ok (.iload 4, 2) := by decide +kernel
theorem dX0_bestQuestion_58 : decode cX0_bestQuestion 58 = .ok (.istore_n 3, 1) := by decide +kernel
theorem dX0_bestQuestion_59 : decode cX0_bestQuestion 59 = .ok (.iinc 4 1, 3) := by decide +kernel
theorem dX0_bestQuestion_62 : decode cX0_bestQuestion 62 = .ok (.goto (-41), 3) := by decide +kernel
theorem dX0_bestQuestion_65 : decode cX0_bestQuestion 65 = .ok (.iload_n 3, 1) := by decide +kernel
theorem dX0_bestQuestion_66 : decode cX0_bestQuestion 66 = .ok (.ireturn, 1) := by decide +kernel
theorem dX0_countTurning_0 : decode cX0_countTurning 0 = .ok (.iconst 0, 1) := by decide +kernel
theorem dX0_countTurning_1 : decode cX0_countTurning 1 = .ok (.istore_n 2, 1) := by decide +kernel
theorem dX0_countTurning_2 : decode cX0_countTurning 2 = .ok (.iconst 1, 1) := by decide +kernel
theorem dX0_countTurning_3 : decode cX0_countTurning 3 = .ok (.istore_n 3, 1) := by decide +kernel
theorem dX0_countTurning_4 : decode cX0_countTurning 4 = .ok (.iload_n 3, 1) := by decide +kernel
theorem dX0_countTurning_5 : decode cX0_countTurning 5 = .ok (.bipush 24, 2) := by decide +kernel
theorem dX0_countTurning_7 : decode cX0_countTurning 7 = .ok (.if_icmp .gt 36, 3) := by decide +kernel
theorem dX0_countTurning_10 : decode cX0_countTurning 10 = .ok (.aload_n 0, 1) := by decide +kernel
theorem dX0_countTurning_11 : decode cX0_countTurning 11 = .ok (.getfield 21, 3) := by decide +kernel
theorem dX0_countTurning_14 : decode cX0_countTurning 14 = .ok (.iload_n 3, 1) := by decide +kernel
theorem dX0_countTurning_15 : decode cX0_countTurning 15 = .ok (.baload, 1) := by decide +kernel
theorem dX0_countTurning_16 : decode cX0_countTurning 16 = .ok (.ifCond .eq 21, 3) := by decide +kernel
theorem dX0_countTurning_19 : decode cX0_countTurning 19 = .ok (.aload_n 0, 1) := by decide +kernel
theorem dX0_countTurning_20 : decode cX0_countTurning 20 = .ok (.getfield 18, 3) := by decide +kernel
theorem dX0_countTurning_23 : decode cX0_countTurning 23 = .ok (.iload_n 3, 1) := by decide +kernel
theorem dX0_countTurning_24 : decode cX0_countTurning 24 = .ok (.laload, 1) := by decide +kernel
theorem dX0_countTurning_25 : decode cX0_countTurning 25 = .ok (.iload_n 1, 1) := by decide +kernel
theorem dX0_countTurning_26 : decode cX0_countTurning 26 = .ok (.lshr, 1) := by decide +kernel
theorem dX0_countTurning_27 : decode cX0_countTurning 27 = .ok (.lconst 1, 1) := by decide +kernel
theorem dX0_countTurning_28 : decode cX0_countTurning 28 = .ok (.land, 1) := by decide +kernel
theorem dX0_countTurning_29 : decode cX0_countTurning 29 = .ok (.lconst 1, 1) := by decide +kernel
theorem dX0_countTurning_30 : decode cX0_countTurning 30 = .ok (.lcmp, 1) := by decide +kernel
theorem dX0_countTurning_31 : decode cX0_countTurning 31 = .ok (.ifCond .ne 6, 3) := by decide +kernel
theorem dX0_countTurning_34 : decode cX0_countTurning 34 = .ok (.iinc 2 1, 3) := by decide +kernel
theorem dX0_countTurning_37 : decode cX0_countTurning 37 = .ok (.iinc 3 1, 3) := by decide +kernel
theorem dX0_countTurning_40 : decode cX0_countTurning 40 = .ok (.goto (-36), 3) := by decide +kernel
theorem dX0_countTurning_43 : decode cX0_countTurning 43 = .ok (.iload_n 2, 1) := by decide +kernel
theorem dX0_countTurning_44 : decode cX0_countTurning 44 = .ok (.ireturn, 1) := by decide +kernel
theorem dX0_sail_0 : decode cX0_sail 0 = .ok (.aload_n 0, 1) := by decide +kernel
theorem dX0_sail_1 : decode cX0_sail 1 = .ok (.iconst (-1), 1) := by decide +kernel
theorem dX0_sail_2 : decode cX0_sail 2 = .ok (.putfield 66, 3) := by decide +kernel
theorem dX0_sail_5 : decode cX0_sail 5 = .ok (.aload_n 0, 1) := by decide +kernel
theorem dX0_sail_6 : decode cX0_sail 6 = .ok (.iconst (-1), 1) := by decide +kernel
theorem dX0_sail_7 : decode cX0_sail 7 = .ok (.putfield 113, 3) := by decide +kernel
theorem dX0_sail_10 : decode cX0_sail 10 = .ok (.iconst 0, 1) := by decide +kernel
theorem dX0_sail_11 : decode cX0_sail 11 = .ok (.istore 4, 2) := by decide +kernel
theorem dX0_sail_13 : decode cX0_sail 13 = .ok (.iload 4, 2) := by decide +kernel
theorem dX0_sail_15 : decode cX0_sail 15 = .ok (.sipush 400, 3) := by decide +kernel
theorem dX0_sail_18 : decode cX0_sail 18 = .ok (.if_icmp .gt 66, 3) := by decide +kernel
theorem dX0_sail_21 : decode cX0_sail 21 = .ok (.aload_n 0, 1) := by decide +kernel
theorem dX0_sail_22 : decode cX0_sail 22 = .ok (.getfield 66, 3) := by decide +kernel
theorem dX0_sail_25 : decode cX0_sail 25 = .ok (.iconst (-1), 1) := by decide +kernel
theorem dX0_sail_26 : decode cX0_sail 26 = .ok (.if_icmp .ne 58, 3) := by decide +kernel
theorem dX0_sail_29 : decode cX0_sail 29 = .ok (.aload_n 0, 1) := by decide +kernel
theorem dX0_sail_30 : decode cX0_sail 30 = .ok (.getfield 113, 3) := by decide +kernel
theorem dX0_sail_33 : decode cX0_sail 33 = .ok (.iconst (-1), 1) := by decide +kernel
theorem dX0_sail_34 : decode cX0_sail 34 = .ok (.if_icmp .ne 17, 3) := by decide +kernel
theorem dX0_sail_37 : decode cX0_sail 37 = .ok (.aload_n 1, 1) := by decide +kernel
theorem dX0_sail_38 : decode cX0_sail 38 = .ok (.getfield 37, 3) := by decide +kernel
theorem dX0_sail_41 : decode cX0_sail 41 = .ok (.iload_n 2, 1) := by decide +kernel
theorem dX0_sail_42 : decode cX0_sail 42 = .ok (.if_icmp .ne 9, 3) := by decide +kernel
theorem dX0_sail_45 : decode cX0_sail 45 = .ok (.aload_n 0, 1) := by decide +kernel
theorem dX0_sail_46 : decode cX0_sail 46 = .ok (.iload 4, 2) := by decide +kernel
theorem dX0_sail_48 : decode cX0_sail 48 = .ok (.putfield 113, 3) := by decide +kernel
theorem dX0_sail_51 : decode cX0_sail 51 = .ok (.aload_n 0, 1) := by decide +kernel
theorem dX0_sail_52 : decode cX0_sail 52 = .ok (.getfield 113, 3) := by decide +kernel
theorem dX0_sail_55 : decode cX0_sail 55 = .ok (.iconst (-1), 1) := by decide +kernel
theorem dX0_sail_56 : decode cX0_sail 56 = .ok (.if_icmp .eq 17, 3) := by decide +kernel
theorem dX0_sail_59 : decode cX0_sail 59 = .ok (.aload_n 1, 1) := by decide +kernel
theorem dX0_sail_60 : decode cX0_sail 60 = .ok (.getfield 37, 3) := by decide +kernel
theorem dX0_sail_63 : decode cX0_sail 63 = .ok (.iload_n 3, 1) := by decide +kernel
theorem dX0_sail_64 : decode cX0_sail 64 = .ok (.if_icmp .ne 9, 3) := by decide +kernel
theorem dX0_sail_67 : decode cX0_sail 67 = .ok (.aload_n 0, 1) := by decide +kernel
theorem dX0_sail_68 : decode cX0_sail 68 = .ok (.iload 4, 2) := by decide +kernel
theorem dX0_sail_70 : decode cX0_sail 70 = .ok (.putfield 66, 3) := by decide +kernel
theorem dX0_sail_73 : decode cX0_sail 73 = .ok (.aload_n 1, 1) := by decide +kernel
theorem dX0_sail_74 : decode cX0_sail 74 = .ok (.invokevirtual 44, 3) := by decide +kernel
theorem dX0_sail_77 : decode cX0_sail 77 = .ok (.pop, 1) := by decide +kernel
theorem dX0_sail_78 : decode cX0_sail 78 = .ok (.iinc 4 1, 3) := by decide +kernel
theorem dX0_sail_81 : decode cX0_sail 81 = .ok (.goto (-68), 3) := by decide +kernel
theorem dX0_sail_84 : decode cX0_sail 84 = .ok (.return_, 1) := by decide +kernel
theorem dX1_init_0 : decode cX1_init 0 = .ok (.aload_n 0, 1) := by decide +kernel
theorem dX1_init_1 : decode cX1_init 1 = .ok (.invokespecial 1, 3) := by decide +kernel
theorem dX1_init_4 : decode cX1_init 4 = .ok (.aload_n 0, 1) := by decide +kernel
theorem dX1_init_5 : decode cX1_init 5 = .ok (.iconst 0, 1) := by decide +kernel
theorem dX1_init_6 : decode cX1_init 6 = .ok (.putfield 7, 3) := by decide +kernel
theorem dX1_init_9 : decode cX1_init 9 = .ok (.aload_n 0, 1) := by decide +kernel
theorem dX1_init_10 : decode cX1_init 10 = .ok (.iconst 0, 1) := by decide +kernel
theorem dX1_init_11 : decode cX1_init 11 = .ok (.putfield 13, 3) := by decide +kernel
theorem dX1_init_14 : decode cX1_init 14 = .ok (.aload_n 0, 1) := by decide +kernel
theorem dX1_init_15 : decode cX1_init 15 = .ok (.iconst 0, 1) := by decide +kernel
theorem dX1_init_16 : decode cX1_init 16 = .ok (.putfield 17, 3) := by decide +kernel
theorem dX1_init_19 : decode cX1_init 19 = .ok (.aload_n 0, 1) := by decide +kernel
theorem dX1_init_20 : decode cX1_init 20 = .ok (.bipush 60, 2) := by decide +kernel
theorem dX1_init_22 : decode cX1_init 22 = .ok (.newarray .int, 2) := by decide +kernel
theorem dX1_init_24 : decode cX1_init 24 = .ok (.putfield 20, 3) := by decide +kernel
theorem dX1_init_27 : decode cX1_init 27 = .ok (.aload_n 0, 1) := by decide +kernel
theorem dX1_init_28 : decode cX1_init 28 = .ok (.bipush 60, 2) := by decide +kernel
theorem dX1_init_30 : decode cX1_init 30 = .ok (.newarray .int, 2) := by decide +kernel
theorem dX1_init_32 : decode cX1_init 32 = .ok (.putfield 24, 3) := by decide +kernel
theorem dX1_init_35 : decode cX1_init 35 = .ok (.aload_n 0, 1) := by decide +kernel
theorem dX1_init_36 : decode cX1_init 36 = .ok (.bipush 60, 2) := by decide +kernel
theorem dX1_init_38 : decode cX1_init 38 = .ok (.newarray .int, 2) := by decide +kernel
theorem dX1_init_40 : decode cX1_init 40 = .ok (.putfield 27, 3) := by decide +kernel
theorem dX1_init_43 : decode cX1_init 43 = .ok (.aload_n 0, 1) := by decide +kernel
theorem dX1_init_44 : decode cX1_init 44 = .ok (.bipush 60, 2) := by decide +kernel
theorem dX1_init_46 : decode cX1_init 46 = .ok (.newarray .int, 2) := by decide +kernel
theorem dX1_init_48 : decode cX1_init 48 = .ok (.putfield 30, 3) := by decide +kernel
theorem dX1_init_51 : decode cX1_init 51 = .ok (.aload_n 0, 1) := by decide +kernel
theorem dX1_init_52 : decode cX1_init 52 = .ok (.bipush 60, 2) := by decide +kernel
theorem dX1_init_54 : decode cX1_init 54 = .ok (.newarray .int, 2) := by decide +kernel
theorem dX1_init_56 : decode cX1_init 56 = .ok (.putfield 33, 3) := by decide +kernel
theorem dX1_init_59 : decode cX1_init 59 = .ok (.return_, 1) := by decide +kernel
theorem dX1_clear_0 : decode cX1_clear 0 = .ok (.aload_n 0, 1) := by decide +kernel
theorem dX1_clear_1 : decode cX1_clear 1 = .ok (.iconst 0, 1) := by decide +kernel
theorem dX1_clear_2 : decode cX1_clear 2 = .ok (.putfield 7, 3) := by decide +kernel
theorem dX1_clear_5 : decode cX1_clear 5 = .ok (.aload_n 0, 1) := by decide +kernel
theorem dX1_clear_6 : decode cX1_clear 6 = .ok (.iconst 0, 1) := by decide +kernel
theorem dX1_clear_7 : decode cX1_clear 7 = .ok (.putfield 13, 3) := by decide +kernel
theorem dX1_clear_10 : decode cX1_clear 10 = .ok (.aload_n 0, 1) := by decide +kernel
theorem dX1_clear_11 : decode cX1_clear 11 = .ok (.iconst 0, 1) := by decide +kernel
theorem dX1_clear_12 : decode cX1_clear 12 = .ok (.putfield 17, 3) := by decide +kernel
theorem dX1_clear_15 : decode cX1_clear 15 = .ok (.return_, 1) := by decide +kernel
theorem dX1_copyFrom_0 : decode cX1_copyFrom 0 = .ok (.aload_n 0, 1) := by decide +kernel
theorem dX1_copyFrom_1 : decode cX1_copyFrom 1 = .ok (.aload_n 1, 1) := by decide +kernel
theorem dX1_copyFrom_2 : decode cX1_copyFrom 2 = .ok (.getfield 7, 3) := by decide +kernel
theorem dX1_copyFrom_5 : decode cX1_copyFrom 5 = .ok (.putfield 7, 3) := by decide +kernel
theorem dX1_copyFrom_8 : decode cX1_copyFrom 8 = .ok (.aload_n 0, 1) := by decide +kernel
theorem dX1_copyFrom_9 : decode cX1_copyFrom 9 = .ok (.aload_n 1, 1) := by decide +kernel
theorem dX1_copyFrom_10 : decode cX1_copyFrom 10 = .ok (.getfield 13, 3) := by decide +kernel
theorem dX1_copyFrom_13 : decode cX1_copyFrom 13 = .ok (.putfield 13, 3) := by decide +kernel
theorem dX1_copyFrom_16 : decode cX1_copyFrom 16 = .ok (.aload_n 0, 1) := by decide +kernel
theorem dX1_copyFrom_17 : decode cX1_copyFrom 17 = .ok (.aload_n 1, 1) := by decide +kernel
theorem dX1_copyFrom_18 : decode cX1_copyFrom 18 = .ok (.getfield 17, 3) := by decide +kernel
theorem dX1_copyFrom_21 : decode cX1_copyFrom 21 = .ok (.putfield 17, 3) := by decide +kernel
theorem dX1_copyFrom_24 : decode cX1_copyFrom 24 = .ok (.aload_n 1, 1) := by decide +kernel
theorem dX1_copyFrom_25 : decode cX1_copyFrom 25 = .ok (.getfield 20, 3) := by decide +kernel
theorem dX1_copyFrom_28 : decode cX1_copyFrom 28 = .ok (.iconst 0, 1) := by decide +kernel
theorem dX1_copyFrom_29 : decode cX1_copyFrom 29 = .ok (.aload_n 0, 1) := by decide +kernel
theorem dX1_copyFrom_30 : decode cX1_copyFrom 30 = .ok (.getfield 20, 3) := by decide +kernel
theorem dX1_copyFrom_33 : decode cX1_copyFrom 33 = .ok (.iconst 0, 1) := by decide +kernel
theorem dX1_copyFrom_34 : decode cX1_copyFrom 34 = .ok (.aload_n 0, 1) := by decide +kernel
theorem dX1_copyFrom_35 : decode cX1_copyFrom 35 = .ok (.getfield 17, 3) := by decide +kernel
theorem dX1_copyFrom_38 : decode cX1_copyFrom 38 = .ok (.invokestatic 36, 3) := by decide +kernel
theorem dX1_copyFrom_41 : decode cX1_copyFrom 41 = .ok (.aload_n 1, 1) := by decide +kernel
theorem dX1_copyFrom_42 : decode cX1_copyFrom 42 = .ok (.getfield 24, 3) := by decide +kernel
theorem dX1_copyFrom_45 : decode cX1_copyFrom 45 = .ok (.iconst 0, 1) := by decide +kernel
theorem dX1_copyFrom_46 : decode cX1_copyFrom 46 = .ok (.aload_n 0, 1) := by decide +kernel
theorem dX1_copyFrom_47 : decode cX1_copyFrom 47 = .ok (.getfield 24, 3) := by decide +kernel
theorem dX1_copyFrom_50 : decode cX1_copyFrom 50 = .ok (.iconst 0, 1) := by decide +kernel
theorem dX1_copyFrom_51 : decode cX1_copyFrom 51 = .ok (.aload_n 0, 1) := by decide +kernel
theorem dX1_copyFrom_52 : decode cX1_copyFrom 52 = .ok (.getfield 17, 3) := by decide +kernel
theorem dX1_copyFrom_55 : decode cX1_copyFrom 55 = .ok (.invokestatic 36, 3) := by decide +kernel
theorem dX1_copyFrom_58 : decode cX1_copyFrom 58 = .ok (.aload_n 1, 1) := by decide +kernel
theorem dX1_copyFrom_59 : decode cX1_copyFrom 59 = .ok (.getfield 27, 3) := by decide +kernel
theorem dX1_copyFrom_62 : decode cX1_copyFrom 62 = .ok (.iconst 0, 1) := by decide +kernel
theorem dX1_copyFrom_63 : decode cX1_copyFrom 63 = .ok (.aload_n 0, 1) := by decide +kernel
theorem dX1_copyFrom_64 : decode cX1_copyFrom 64 = .ok (.getfield 27, 3) := by decide +kernel
theorem dX1_copyFrom_67 : decode cX1_copyFrom 67 = .ok (.iconst 0, 1) := by decide +kernel
theorem dX1_copyFrom_68 : decode cX1_copyFrom 68 = .ok (.aload_n 0, 1) := by decide +kernel
theorem dX1_copyFrom_69 : decode cX1_copyFrom 69 = .ok (.getfield 17, 3) := by decide +kernel
theorem dX1_copyFrom_72 : decode cX1_copyFrom 72 = .ok (.invokestatic 36, 3) := by decide +kernel
theorem dX1_copyFrom_75 : decode cX1_copyFrom 75 = .ok (.aload_n 1, 1) := by decide +kernel
theorem dX1_copyFrom_76 : decode cX1_copyFrom 76 = .ok (.getfield 30, 3) := by decide +kernel
theorem dX1_copyFrom_79 : decode cX1_copyFrom 79 = .ok (.iconst 0, 1) := by decide +kernel
theorem dX1_copyFrom_80 : decode cX1_copyFrom 80 = .ok (.aload_n 0, 1) := by decide +kernel
theorem dX1_copyFrom_81 : decode cX1_copyFrom 81 = .ok (.getfield 30, 3) := by decide +kernel
theorem dX1_copyFrom_84 : decode cX1_copyFrom 84 = .ok (.iconst 0, 1) := by decide +kernel
theorem dX1_copyFrom_85 : decode cX1_copyFrom 85 = .ok (.aload_n 0, 1) := by decide +kernel
theorem dX1_copyFrom_86 : decode cX1_copyFrom 86 = .ok (.getfield 17, 3) := by decide +kernel
theorem dX1_copyFrom_89 : decode cX1_copyFrom 89 = .ok (.invokestatic 36, 3) := by decide +kernel
theorem dX1_copyFrom_92 : decode cX1_copyFrom 92 = .ok (.aload_n 1, 1) := by decide +kernel
theorem dX1_copyFrom_93 : decode cX1_copyFrom 93 = .ok (.getfield 33, 3) := by decide +kernel
theorem dX1_copyFrom_96 : decode cX1_copyFrom 96 = .ok (.iconst 0, 1) := by decide +kernel
theorem dX1_copyFrom_97 : decode cX1_copyFrom 97 = .ok (.aload_n 0, 1) := by decide +kernel
theorem dX1_copyFrom_98 : decode cX1_copyFrom 98 = .ok (.getfield 33, 3) := by decide +kernel
theorem dX1_copyFrom_101 : decode cX1_copyFrom 101 = .ok (.iconst 0, 1) := by decide +kernel
theorem dX1_copyFrom_102 : decode cX1_copyFrom 102 = .ok (.aload_n 0, 1) := by decide +kernel
theorem dX1_copyFrom_103 : decode cX1_copyFrom 103 = .ok (.getfield 17, 3) := by decide +kernel
theorem dX1_copyFrom_106 : decode cX1_copyFrom 106 = .ok (.invokestatic 36, 3) := by decide +kernel
theorem dX1_copyFrom_109 : decode cX1_copyFrom 109 = .ok (.return_, 1) := by decide +kernel
theorem dX1_addEntry_0 : decode cX1_addEntry 0 = .ok (.aload_n 0, 1) := by decide +kernel
theorem dX1_addEntry_1 : decode cX1_addEntry 1 = .ok (.getfield 17, 3) := by decide +kernel
theorem dX1_addEntry_4 : decode cX1_addEntry 4 = .ok (.bipush 60, 2) := by decide +kernel
theorem dX1_addEntry_6 : decode cX1_addEntry 6 = .ok (.if_icmp .lt 6, 3) := by decide +kernel
theorem dX1_addEntry_9 : decode cX1_addEntry 9 = .ok (.bipush 59, 2) := by decide +kernel
theorem dX1_addEntry_11 : decode cX1_addEntry 11 = .ok (.ireturn, 1) := by decide +kernel
theorem dX1_addEntry_12 : decode cX1_addEntry 12 = .ok (.aload_n 0, 1) := by decide +kernel
theorem dX1_addEntry_13 : decode cX1_addEntry 13 = .ok (.getfield 20, 3) := by decide +kernel
theorem dX1_addEntry_16 : decode cX1_addEntry 16 = .ok (.aload_n 0, 1) := by decide +kernel
theorem dX1_addEntry_17 : decode cX1_addEntry 17 = .ok (.getfield 17, 3) := by decide +kernel
theorem dX1_addEntry_20 : decode cX1_addEntry 20 = .ok (.iload_n 1, 1) := by decide +kernel
theorem dX1_addEntry_21 : decode cX1_addEntry 21 = .ok (.iastore, 1) := by decide +kernel
theorem dX1_addEntry_22 : decode cX1_addEntry 22 = .ok (.aload_n 0, 1) := by decide +kernel
theorem dX1_addEntry_23 : decode cX1_addEntry 23 = .ok (.getfield 24, 3) := by decide +kernel
theorem dX1_addEntry_26 : decode cX1_addEntry 26 = .ok (.aload_n 0, 1) := by decide +kernel
theorem dX1_addEntry_27 : decode cX1_addEntry 27 = .ok (.getfield 17, 3) := by decide +kernel
theorem dX1_addEntry_30 : decode cX1_addEntry 30 = .ok (.iload_n 2, 1) := by decide +kernel
theorem dX1_addEntry_31 : decode cX1_addEntry 31 = .ok (.iastore, 1) := by decide +kernel
theorem dX1_addEntry_32 : decode cX1_addEntry 32 = .ok (.aload_n 0, 1) := by decide +kernel
theorem dX1_addEntry_33 : decode cX1_addEntry 33 = .ok (.getfield 27, 3) := by decide +kernel
theorem dX1_addEntry_36 : decode cX1_addEntry 36 = .ok (.aload_n 0, 1) := by decide +kernel
theorem dX1_addEntry_37 : decode cX1_addEntry 37 = .ok (.getfield 17, 3) := by decide +kernel
theorem dX1_addEntry_40 : decode cX1_addEntry 40 = .ok (.iload_n 3, 1) := by decide +kernel
theorem dX1_addEntry_41 : decode cX1_addEntry 41 = .ok (.iastore, 1) := by decide +kernel
theorem dX1_addEntry_42 : decode cX1_addEntry 42 = .ok (.aload_n 0, 1) := by decide +kernel
theorem dX1_addEntry_43 : decode cX1_addEntry 43 = .ok (.getfield 30, 3) := by decide +kernel
theorem dX1_addEntry_46 : decode cX1_addEntry 46 = .ok (.aload_n 0, 1) := by decide +kernel
theorem dX1_addEntry_47 : decode cX1_addEntry 47 = .ok (.getfield 17, 3) := by decide +kernel
theorem dX1_addEntry_50 : decode cX1_addEntry 50 = .ok (.iload 4, 2) := by decide +kernel
theorem dX1_addEntry_52 : decode cX1_addEntry 52 = .ok (.iastore, 1) := by decide +kernel
theorem dX1_addEntry_53 : decode cX1_addEntry 53 = .ok (.aload_n 0, 1) := by decide +kernel
theorem dX1_addEntry_54 : decode cX1_addEntry 54 = .ok (.getfield 33, 3) := by decide +kernel
theorem dX1_addEntry_57 : decode cX1_addEntry 57 = .ok (.aload_n 0, 1) := by decide +kernel
theorem dX1_addEntry_58 : decode cX1_addEntry 58 = .ok (.getfield 17, 3) := by decide +kernel
theorem dX1_addEntry_61 : decode cX1_addEntry 61 = .ok (.aload_n 0, 1) := by decide +kernel
theorem dX1_addEntry_62 : decode cX1_addEntry 62 = .ok (.getfield 17, 3) := by decide +kernel
theorem dX1_addEntry_65 : decode cX1_addEntry 65 = .ok (.iastore, 1) := by decide +kernel
theorem dX1_addEntry_66 : decode cX1_addEntry 66 = .ok (.aload_n 0, 1) := by decide +kernel
theorem dX1_addEntry_67 : decode cX1_addEntry 67 = .ok (.dup, 1) := by decide +kernel
theorem dX1_addEntry_68 : decode cX1_addEntry 68 = .ok (.getfield 17, 3) := by decide +kernel
theorem dX1_addEntry_71 : decode cX1_addEntry 71 = .ok (.iconst 1, 1) := by decide +kernel
theorem dX1_addEntry_72 : decode cX1_addEntry 72 = .ok (.iadd, 1) := by decide +kernel
theorem dX1_addEntry_73 : decode cX1_addEntry 73 = .ok (.putfield 17, 3) := by decide +kernel
theorem dX1_addEntry_76 : decode cX1_addEntry 76 = .ok (.aload_n 0, 1) := by decide +kernel
theorem dX1_addEntry_77 : decode cX1_addEntry 77 = .ok (.getfield 17, 3) := by decide +kernel
theorem dX1_addEntry_80 : decode cX1_addEntry 80 = .ok (.iconst 1, 1) := by decide +kernel
theorem dX1_addEntry_81 : decode cX1_addEntry 81 = .ok (.isub, 1) := by decide +kernel
theorem dX1_addEntry_82 : decode cX1_addEntry 82 = .ok (.ireturn, 1) := by decide +kernel
theorem dX1_pair_0 : decode cX1_pair 0 = .ok (.aload_n 0, 1) := by decide +kernel
theorem dX1_pair_1 : decode cX1_pair 1 = .ok (.getfield 33, 3) := by decide +kernel
theorem dX1_pair_4 : decode cX1_pair 4 = .ok (.iload_n 1, 1) := by decide +kernel
theorem dX1_pair_5 : decode cX1_pair 5 = .ok (.iload_n 2, 1) := by decide +kernel
theorem dX1_pair_6 : decode cX1_pair 6 = .ok (.iastore, 1) := by decide +kernel
theorem dX1_pair_7 : decode cX1_pair 7 = .ok (.aload_n 0, 1) := by decide +kernel
theorem dX1_pair_8 : decode cX1_pair 8 = .ok (.getfield 33, 3) := by decide +kernel
theorem dX1_pair_11 : decode cX1_pair 11 = .ok (.iload_n 2, 1) := by decide +kernel
theorem dX1_pair_12 : decode cX1_pair 12 = .ok (.iload_n 1, 1) := by decide +kernel
theorem dX1_pair_13 : decode cX1_pair 13 = .ok (.iastore, 1) := by decide +kernel
theorem dX1_pair_14 : decode cX1_pair 14 = .ok (.return_, 1) := by decide +kernel
theorem dX1_drawsLots_0 : decode cX1_drawsLots 0 = .ok (.iconst 0, 1) := by decide +kernel
theorem dX1_drawsLots_1 : decode cX1_drawsLots 1 = .ok (.istore_n 1, 1) := by decide +kernel
theorem dX1_drawsLots_2 : decode cX1_drawsLots 2 = .ok (.iload_n 1, 1) := by decide +kernel
theorem dX1_drawsLots_3 : decode cX1_drawsLots 3 = .ok (.aload_n 0, 1) := by decide +kernel
theorem dX1_drawsLots_4 : decode cX1_drawsLots 4 = .ok (.getfield 17, 3) := by decide +kernel
theorem dX1_drawsLots_7 : decode cX1_drawsLots 7 = .ok (.if_icmp .ge 21, 3) := by decide +kernel
theorem dX1_drawsLots_10 : decode cX1_drawsLots 10 = .ok (.aload_n 0, 1) := by decide +kernel
theorem dX1_drawsLots_11 : decode cX1_drawsLots 11 = .ok (.getfield 20, 3) := by decide +kernel
theorem dX1_drawsLots_14 : decode cX1_drawsLots 14 = .ok (.iload_n 1, 1) := by decide +kernel
theorem dX1_drawsLots_15 : decode cX1_drawsLots 15 = .ok (.iaload, 1) := by decide +kernel
theorem dX1_drawsLots_16 : decode cX1_drawsLots 16 = .ok (.iconst 3, 1) := by decide +kernel
theorem dX1_drawsLots_17 : decode cX1_drawsLots 17 = .ok (.if_icmp .ne 5, 3) := by decide +kernel
theorem dX1_drawsLots_20 : decode cX1_drawsLots 20 = .ok (.iconst 1, 1) := by decide +kernel
theorem dX1_drawsLots_21 : decode cX1_drawsLots 21 = .ok (.ireturn, 1) := by decide +kernel
theorem dX1_drawsLots_22 : decode cX1_drawsLots 22 = .ok (.iinc 1 1, 3) := by decide +kernel
theorem dX1_drawsLots_25 : decode cX1_drawsLots 25 = .ok (.goto (-23), 3) := by decide +kernel
theorem dX1_drawsLots_28 : decode cX1_drawsLots 28 = .ok (.iconst 0, 1) := by decide +kernel
theorem dX1_drawsLots_29 : decode cX1_drawsLots 29 = .ok (.ireturn, 1) := by decide +kernel
theorem dX2_init_0 : decode cX2_init 0 = .ok (.aload_n 0, 1) := by decide +kernel
theorem dX2_init_1 : decode cX2_init 1 = .ok (.invokespecial 3, 3) := by decide +kernel
theorem dX2_init_4 : decode cX2_init 4 = .ok (.aload_n 0, 1) := by decide +kernel
theorem dX2_init_5 : decode cX2_init 5 = .ok (.new 9, 3) := by decide +kernel
theorem dX2_init_8 : decode cX2_init 8 = .ok (.dup, 1) := by decide +kernel
theorem dX2_init_9 : decode cX2_init 9 = .ok (.invokespecial 11, 3) := by decide +kernel
theorem dX2_init_12 : decode cX2_init 12 = .ok (.putfield 12, 3) := by decide +kernel
theorem dX2_init_15 : decode cX2_init 15 = .ok (.aload_n 0, 1) := by decide +kernel
theorem dX2_init_16 : decode cX2_init 16 = .ok (.iconst 3, 1) := by decide +kernel
theorem dX2_init_17 : decode cX2_init 17 = .ok (.newarray .int, 2) := by decide +kernel
theorem dX2_init_19 : decode cX2_init 19 = .ok (.putfield 18, 3) := by decide +kernel
theorem dX2_init_22 : decode cX2_init 22 = .ok (.return_, 1) := by decide +kernel
theorem dX2_readFor_0 : decode cX2_readFor 0 = .ok (.aload_n 0, 1) := by decide +kernel
theorem dX2_readFor_1 : decode cX2_readFor 1 = .ok (.aload_n 2, 1) := by decide +kernel
theorem dX2_readFor_2 : decode cX2_readFor 2 = .ok (.putfield 22, 3) := by decide +kernel
theorem dX2_readFor_5 : decode cX2_readFor 5 = .ok (.aload_n 0, 1) := by decide +kernel
theorem dX2_readFor_6 : decode cX2_readFor 6 = .ok (.aload_n 1, 1) := by decide +kernel
theorem dX2_readFor_7 : decode cX2_readFor 7 = .ok (.putfield 26, 3) := by decide +kernel
theorem dX2_readFor_10 : decode cX2_readFor 10 = .ok (.aload_n 0, 1) := by decide +kernel
theorem dX2_readFor_11 : decode cX2_readFor 11 = .ok (.iconst 0, 1) := by decide +kernel
theorem dX2_readFor_12 : decode cX2_readFor 12 = .ok (.putfield 30, 3) := by decide +kernel
theorem dX2_readFor_15 : decode cX2_readFor 15 = .ok (.aload_n 0, 1) := by decide +kernel
theorem dX2_readFor_16 : decode cX2_readFor 16 = .ok (.getfield 12, 3) := by decide +kernel
theorem dX2_readFor_19 : decode cX2_readFor 19 = .ok (.invokevirtual 34, 3) := by decide +kernel
theorem dX2_readFor_22 : decode cX2_readFor 22 = .ok (.aload_n 0, 1) := by decide +kernel
theorem dX2_readFor_23 : decode cX2_readFor 23 = .ok (.getfield 12, 3) := by decide +kernel
theorem dX2_readFor_26 : decode cX2_readFor 26 = .ok (.iconst 1, 1) := by decide +kernel
theorem dX2_readFor_27 : decode cX2_readFor 27 = .ok (.putfield 37, 3) := by decide +kernel
theorem dX2_readFor_30 : decode cX2_readFor 30 = .ok (.iconst 0, 1) := by decide +kernel
theorem dX2_readFor_31 : decode cX2_readFor 31 = .ok (.istore_n 3, 1) := by decide +kernel
theorem dX2_readFor_32 : decode cX2_readFor 32 = .ok (.iload_n 3, 1) := by decide +kernel
theorem dX2_readFor_33 : decode cX2_readFor 33 = .ok (.sipush 300, 3) := by decide +kernel
theorem dX2_readFor_36 : decode cX2_readFor 36 = .ok (.if_icmp .ge 88, 3) := by decide +kernel
theorem dX2_readFor_39 : decode cX2_readFor 39 = .ok (.aload_n 0, 1) := by decide +kernel
theorem dX2_readFor_40 : decode cX2_readFor 40 = .ok (.getfield 22, 3) := by decide +kernel
theorem dX2_readFor_43 : decode cX2_readFor 43 = .ok (.invokevirtual 41, 3) := by decide +kernel
theorem dX2_readFor_46 : decode cX2_readFor 46 = .ok (.ifCond .eq 78, 3) := by decide +kernel
theorem dX2_readFor_49 : decode cX2_readFor 49 = .ok (.aload_n 0, 1) := by decide +kernel
theorem dX2_readFor_50 : decode cX2_readFor 50 = .ok (.getfield 22, 3) := by decide +kernel
theorem dX2_readFor_53 : decode cX2_readFor 53 = .ok (.invokevirtual 47, 3) := by decide +kernel
theorem dX2_readFor_56 : decode cX2_readFor 56 = .ok (.istore 4, 2) := by decide +kernel
theorem dX2_readFor_58 : decode cX2_readFor 58 = .ok (.iload 4, 2) := by decide +kernel
theorem dX2_readFor_60 : decode cX2_readFor 60 = .ok (.bipush 22, 2) := by decide +kernel
theorem dX2_readFor_62 : decode cX2_readFor 62 = .ok (.if_icmp .ne 24, 3) := by decide +kernel
theorem dX2_readFor_65 : decode cX2_readFor 65 = .ok (.aload_n 0, 1) := by decide +kernel
theorem dX2_readFor_66 : decode cX2_readFor 66 = .ok (.getfield 30, 3) := by decide +kernel
theorem dX2_readFor_69 : decode cX2_readFor 69 = .ok (.ifCond .le 17, 3) := by decide +kernel
theorem dX2_readFor_72 : decode cX2_readFor 72 = .ok (.aload_n 0, 1) := by decide +kernel
theorem dX2_readFor_73 : decode cX2_readFor 73 = .ok (.getfield 22, 3) := by decide +kernel
theorem dX2_readFor_76 : decode cX2_readFor 76 = .ok (.invokevirtual 51, 3) := by decide +kernel
theorem dX2_readFor_79 : decode cX2_readFor 79 = .ok (.aload_n 0, 1) := by decide +kernel
theorem dX2_readFor_80 : decode cX2_readFor 80 = .ok (.invokevirtual 54, 3) := by decide +kernel
theorem dX2_readFor_83 : decode cX2_readFor 83 = .ok (.goto 28, 3) := by decide +kernel
theorem dX2_readFor_86 : decode cX2_readFor 86 = .ok (.aload_n 0, 1) := by decide +kernel
theorem dX2_readFor_87 : decode cX2_readFor 87 = .ok (.iload 4, 2) := by decide +kernel
theorem dX2_readFor_89 : decode cX2_readFor 89 = .ok (.invokevirtual 57, 3) := by decide +kernel
theorem dX2_readFor_92 : decode cX2_readFor 92 = .ok (.aload_n 0, 1) := by decide +kernel
theorem dX2_readFor_93 : decode cX2_readFor 93 = .ok (.getfield 22, 3) := by decide +kernel
theorem dX2_readFor_96 : decode cX2_readFor 96 = .ok (.invokevirtual 51, 3) := by decide +kernel
theorem dX2_readFor_99 : decode cX2_readFor 99 = .ok (.aload_n 0, 1) := by decide +kernel
theorem dX2_readFor_100 : decode cX2_readFor 100 = .ok (.iload 4, 2) := by decide +kernel
theorem dX2_readFor_102 : decode cX2_readFor 102 = .ok (.aload_n 0, 1) := by decide +kernel
theorem dX2_readFor_103 : decode cX2_readFor 103 = .ok (.iload 4, 2) := by decide +kernel
theorem dX2_readFor_105 : decode cX2_readFor 105 = .ok (.invokevirtual 61, 3) := by decide +kernel
theorem dX2_readFor_108 : decode cX2_readFor 108 = .ok (.invokevirtual 65, 3) := by decide +kernel
theorem dX2_readFor_111 : decode cX2_readFor 111 = .ok (.aload_n 0, 1) := by decide +kernel
theorem dX2_readFor_112 : decode cX2_readFor 112 = .ok (.getfield 22, 3) := by decide +kernel
theorem dX2_readFor_115 : decode cX2_readFor 115 = .ok (.invokevirtual 69, 3) := by decide +kernel
theorem dX2_readFor_118 : decode cX2_readFor 118 = .ok (.iinc 3 1, 3) := by decide +kernel
theorem dX2_readFor_121 : decode cX2_readFor 121 = .ok (.goto (-89), 3) := by decide +kernel
theorem dX2_readFor_124 : decode cX2_readFor 124 = .ok (.aload_n 0, 1) := by decide +kernel
theorem dX2_readFor_125 : decode cX2_readFor 125 = .ok (.getfield 30, 3) := by decide +kernel
theorem dX2_readFor_128 : decode cX2_readFor 128 = .ok (.ifCond .le 11, 3) := by decide +kernel
theorem dX2_readFor_131 : decode cX2_readFor 131 = .ok (.aload_n 0, 1) := by decide +kernel
theorem dX2_readFor_132 : decode cX2_readFor 132 = .ok (.getfield 22, 3) := by decide +kernel
theorem dX2_readFor_135 : decode cX2_readFor 135 = .ok (.iconst 2, 1) := by decide +kernel
theorem dX2_readFor_136 : decode cX2_readFor 136 = .ok (.invokevirtual 72, 3) := by decide +kernel
theorem dX2_readFor_139 : decode cX2_readFor 139 = .ok (.return_, 1) := by decide +kernel
theorem dX2_closeLatest_0 : decode cX2_closeLatest 0 = .ok (.aload_n 0, 1) := by decide +kernel
theorem dX2_closeLatest_1 : decode cX2_closeLatest 1 = .ok (.dup, 1) := by decide +kernel
theorem dX2_closeLatest_2 : decode cX2_closeLatest 2 = .ok (.getfield 30, 3) := by decide +kernel
theorem dX2_closeLatest_5 : decode cX2_closeLatest 5 = .ok (.iconst 1, 1) := by decide +kernel
theorem dX2_closeLatest_6 : decode cX2_closeLatest 6 = .ok (.isub, 1) := by decide +kernel
theorem dX2_closeLatest_7 : decode cX2_closeLatest 7 = .ok (.putfield 30, 3) := by decide +kernel
theorem dX2_closeLatest_10 : decode cX2_closeLatest 10 = .ok (.aload_n 0, 1) := by decide +kernel
theorem dX2_closeLatest_11 : decode cX2_closeLatest 11 = .ok (.getfield 12, 3) := by decide +kernel
theorem dX2_closeLatest_14 : decode cX2_closeLatest 14 = .ok (.aload_n 0, 1) := by decide +kernel
theorem dX2_closeLatest_15 : decode cX2_closeLatest 15 = .ok (.getfield 18, 3) := by decide +kernel
theorem dX2_closeLatest_18 : decode cX2_closeLatest 18 = .ok (.aload_n 0, 1) := by decide +kernel
theorem dX2_closeLatest_19 : decode cX2_closeLatest 19 = .ok (.getfield 30, 3) := by decide +kernel
theorem dX2_closeLatest_22 : decode cX2_closeLatest 22 = .ok (.iaload, 1) := by decide +kernel
theorem dX2_closeLatest_23 : decode cX2_closeLatest 23 = .ok (.aload_n 0, 1) := by decide +kernel
theorem dX2_closeLatest_24 : decode cX2_closeLatest 24 = .ok (.getfield 12, 3) := by decide +kernel
theorem dX2_closeLatest_27 : decode cX2_closeLatest 27 = .ok (.bipush 10, 2) := by decide +kernel
theorem dX2_closeLatest_29 : decode cX2_closeLatest 29 = .ok (.iconst 0, 1) := by decide +kernel
theorem dX2_closeLatest_30 : decode cX2_closeLatest 30 = .ok (.iconst 0, 1) := by decide +kernel
theorem dX2_closeLatest_31 : decode cX2_closeLatest 31 = .ok (.iconst 0, 1) := by decide +kernel
theorem dX2_closeLatest_32 : decode cX2_closeLatest 32 = .ok (.invokevirtual 75, 3) := by decide +kernel
theorem dX2_closeLatest_35 : decode cX2_closeLatest 35 = .ok (.invokevirtual 79, 3) := by decide +kernel
theorem dX2_closeLatest_38 : decode cX2_closeLatest 38 = .ok (.return_, 1) := by decide +kernel
theorem dX2_lookAtStep_0 : decode cX2_lookAtStep 0 = .ok (.iload_n 1, 1) := by decide +kernel
theorem dX2_lookAtStep_1 : decode cX2_lookAtStep 1 = .ok (.invokestatic 82, 3) := by decide +kernel
theorem dX2_lookAtStep_4 : decode cX2_lookAtStep 4 = .ok (.ifCond .ne 14, 3) := by decide +kernel
theorem dX2_lookAtStep_7 : decode cX2_lookAtStep 7 = .ok (.aload_n 0, 1) := by decide +kernel
theorem dX2_lookAtStep_8 : decode cX2_lookAtStep 8 = .ok (.getfield 22, 3) := by decide +kernel
theorem dX2_lookAtStep_11 : decode cX2_lookAtStep 11 = .ok (.iconst 2, 1) := by decide +kernel
theorem dX2_lookAtStep_12 : decode cX2_lookAtStep 12 = .ok (.invokevirtual 72, 3) := by decide +kernel
theorem dX2_lookAtStep_15 : decode cX2_lookAtStep 15 = .ok (.goto 51, 3) := by decide +kernel
theorem dX2_lookAtStep_18 : decode cX2_lookAtStep 18 = .ok (.aload_n 0, 1) := by decide +kernel
theorem dX2_lookAtStep_19 : decode cX2_lookAtStep 19 = .ok (.getfield 12, 3) := by decide +kernel
theorem dX2_lookAtStep_22 : decode cX2_lookAtStep 22 = .ok (.getfield 86, 3) := by decide +kernel
theorem dX2_lookAtStep_25 : decode cX2_lookAtStep 25 = .ok (.bipush 30, 2) := by decide +kernel
theorem dX2_lookAtStep_27 : decode cX2_lookAtStep 27 = .ok (.if_icmp .lt 15, 3) := by decide +kernel
theorem dX2_lookAtStep_30 : decode cX2_lookAtStep 30 = .ok (.aload_n 0, 1) := by decide +kernel
theorem dX2_lookAtStep_31 : decode cX2_lookAtStep 31 = .ok (.getfield 22, 3) := by decide +kernel
theorem dX2_lookAtStep_34 : decode cX2_lookAtStep 34 = .ok (.bipush 6, 2) := by decide +kernel
theorem dX2_lookAtStep_36 : decode cX2_lookAtStep 36 = .ok (.invokevirtual 72, 3) := by decide +kernel
theorem dX2_lookAtStep_39 : decode cX2_lookAtStep 39 = .ok (.goto 27, 3) := by decide +kernel
theorem dX2_lookAtStep_42 : decode cX2_lookAtStep 42 = .ok (.iload_n 1, 1) := by decide +kernel
theorem dX2_lookAtStep_43 : decode cX2_lookAtStep 43 = .ok (.invokestatic 89, 3) := by decide +kernel
theorem dX2_lookAtStep_46 : decode cX2_lookAtStep 46 = .ok (.ifCond .eq 20, 3) := by decide +kernel
theorem dX2_lookAtStep_49 : decode cX2_lookAtStep 49 = .ok (.aload_n 0, 1) := by decide +kernel
theorem dX2_lookAtStep_50 : decode cX2_lookAtStep 50 = .ok (.getfield 30, 3) := by decide +kernel
theorem dX2_lookAtStep_53 : decode cX2_lookAtStep 53 = .ok (.iconst 3, 1) := by decide +kernel
theorem dX2_lookAtStep_54 : decode cX2_lookAtStep 54 = .ok (.if_icmp .lt 12, 3) := by decide +kernel
theorem dX2_lookAtStep_57 : decode cX2_lookAtStep 57 = .ok (.aload_n 0, 1) := by decide +kernel
theorem dX2_lookAtStep_58 : decode cX2_lookAtStep 58 = .ok (.getfield 22, 3) := by decide +kernel
theorem dX2_lookAtStep_61 : decode cX2_lookAtStep 61 = .ok (.bipush 7, 2) := by decide +kernel
theorem dX2_lookAtStep_63 : decode cX2_lookAtStep 63 = .ok (.invokevirtual 72, 3) := by decide +kernel
theorem dX2_lookAtStep_66 : decode cX2_lookAtStep 66 = .ok (.return_, 1) := by decide +kernel
theorem dX2_addStep_0 : decode cX2_addStep 0 = .ok (.aload_n 0, 1) := by decide +kernel
theorem dX2_addStep_1 : decode cX2_addStep 1 = .ok (.getfield 12, 3) := by decide +kernel
theorem dX2_addStep_4 : decode cX2_addStep 4 = .ok (.dup, 1) := by decide +kernel
theorem dX2_addStep_5 : decode cX2_addStep 5 = .ok (.getfield 86, 3) := by decide +kernel
theorem dX2_addStep_8 : decode cX2_addStep 8 = .ok (.iconst 1, 1) := by decide +kernel
theorem dX2_addStep_9 : decode cX2_addStep 9 = .ok (.iadd, 1) := by decide +kernel
theorem dX2_addStep_10 : decode cX2_addStep 10 = .ok (.putfield 86, 3) := by decide +kernel
theorem dX2_addStep_13 : decode cX2_addStep 13 = .ok (.iload_n 1, 1) := by decide +kernel
theorem dX2_addStep_14 : decode cX2_addStep 14 = .ok (.invokestatic 89, 3) := by decide +kernel
theorem dX2_addStep_17 : decode cX2_addStep 17 = .ok (.ifCond .eq 31, 3) := by decide +kernel
theorem dX2_addStep_20 : decode cX2_addStep 20 = .ok (.aload_n 0, 1) := by decide +kernel
theorem dX2_addStep_21 : decode cX2_addStep 21 = .ok (.getfield 30, 3) := by decide +kernel
theorem dX2_addStep_24 : decode cX2_addStep 24 = .ok (.iconst 3, 1) := by decide +kernel
theorem dX2_addStep_25 : decode cX2_addStep 25 = .ok (.if_icmp .ge 23, 3) := by decide +kernel
theorem dX2_addStep_28 : decode cX2_addStep 28 = .ok (.aload_n 0, 1) := by decide +kernel
theorem dX2_addStep_29 : decode cX2_addStep 29 = .ok (.getfield 18, 3) := by decide +kernel
theorem dX2_addStep_32 : decode cX2_addStep 32 = .ok (.aload_n 0, 1) := by decide +kernel
theorem dX2_addStep_33 : decode cX2_addStep 33 = .ok (.getfield 30, 3) := by decide +kernel
theorem dX2_addStep_36 : decode cX2_addStep 36 = .ok (.iload_n 2, 1) := by decide +kernel
theorem dX2_addStep_37 : decode cX2_addStep 37 = .ok (.iastore, 1) := by decide +kernel
theorem dX2_addStep_38 : decode cX2_addStep 38 = .ok (.aload_n 0, 1) := by decide +kernel
theorem dX2_addStep_39 : decode cX2_addStep 39 = .ok (.dup, 1) := by decide +kernel
theorem dX2_addStep_40 : decode cX2_addStep 40 = .ok (.getfield 30, 3) := by decide +kernel
theorem dX2_addStep_43 : decode cX2_addStep 43 = .ok (.iconst 1, 1) := by decide +kernel
theorem dX2_addStep_44 : decode cX2_addStep 44 = .ok (.iadd, 1) := by decide +kernel
theorem dX2_addStep_45 : decode cX2_addStep 45 = .ok (.putfield 30, 3) := by decide +kernel
theorem dX2_addStep_48 : decode cX2_addStep 48 = .ok (.return_, 1) := by decide +kernel
theorem dX2_opens_0 : decode cX2_opens 0 = .ok (.iload_n 0, 1) := by decide +kernel
theorem dX2_opens_1 : decode cX2_opens 1 = .ok (.bipush 18, 2) := by decide +kernel
theorem dX2_opens_3 : decode cX2_opens 3 = .ok (.if_icmp .eq 9, 3) := by decide +kernel
theorem dX2_opens_6 : decode cX2_opens 6 = .ok (.iload_n 0, 1) := by decide +kernel
theorem dX2_opens_7 : decode cX2_opens 7 = .ok (.bipush 21, 2) := by decide +kernel
theorem dX2_opens_9 : decode cX2_opens 9 = .ok (.if_icmp .ne 7, 3) := by decide +kernel
theorem dX2_opens_12 : decode cX2_opens 12 = .ok (.iconst 1, 1) := by decide +kernel
theorem dX2_opens_13 : decode cX2_opens 13 = .ok (.goto 4, 3) := by decide +kernel
theorem dX2_opens_16 : decode cX2_opens 16 = .ok (.iconst 0, 1) := by decide +kernel
theorem dX2_opens_17 : decode cX2_opens 17 = .ok (.ireturn, 1) := by decide +kernel
theorem dX2_isStep_0 : decode cX2_isStep 0 = .ok (.iload_n 0, 1) := by decide +kernel
theorem dX2_isStep_1 : decode cX2_isStep 1 = .ok (.tableswitch 57 14 23 #[55, 55, 55, 55, 55, 57, 57, 55, 57, 55], 55) := by decide +kernel
theorem dX2_isStep_56 : decode cX2_isStep 56 = .ok (.iconst 1, 1) := by decide +kernel
theorem dX2_isStep_57 : decode cX2_isStep 57 = .ok (.ireturn, 1) := by decide +kernel
theorem dX2_isStep_58 : decode cX2_isStep 58 = .ok (.iconst 0, 1) := by decide +kernel
theorem dX2_isStep_59 : decode cX2_isStep 59 = .ok (.ireturn, 1) := by decide +kernel
theorem dX2_readRest_0 : decode cX2_readRest 0 = .ok (.iload_n 1, 1) := by decide +kernel
theorem dX2_readRest_1 : decode cX2_readRest 1 = .ok (.tableswitch 153 14 21 #[47, 68, 99, 114, 126, 153, 153, 131], 47) := by decide +kernel
theorem dX2_readRest_48 : decode cX2_readRest 48 = .ok (.aload_n 0, 1) := by decide +kernel
theorem dX2_readRest_49 : decode cX2_readRest 49 = .ok (.getfield 12, 3) := by decide +kernel
theorem dX2_readRest_52 : decode cX2_readRest 52 = .ok (.iconst 0, 1) := by decide +kernel
theorem dX2_readRest_53 : decode cX2_readRest 53 = .ok (.aload_n 0, 1) := by decide +kernel
theorem dX2_readRest_54 : decode cX2_readRest 54 = .ok (.getfield 22, 3) := by decide +kernel
theorem dX2_readRest_57 : decode cX2_readRest 57 = .ok (.iconst 1, 1) := by decide +kernel
theorem dX2_readRest_58 : decode cX2_readRest 58 = .ok (.bipush 24, 2) := by decide +kernel
theorem dX2_readRest_60 : decode cX2_readRest 60 = .ok (.invokevirtual 92, 3) := by decide +kernel
theorem dX2_readRest_63 : decode cX2_readRest 63 = .ok (.iconst 0, 1) := by decide +kernel
theorem dX2_readRest_64 : decode cX2_readRest 64 = .ok (.iconst 0, 1) := by decide +kernel
theorem dX2_readRest_65 : decode cX2_readRest 65 = .ok (.invokevirtual 75, 3) := by decide +kernel
theorem dX2_readRest_68 : decode cX2_readRest 68 = .ok (.ireturn, 1) := by decide +kernel
theorem dX2_readRest_69 : decode cX2_readRest 69 = .ok (.aload_n 0, 1) := by decide +kernel
theorem dX2_readRest_70 : decode cX2_readRest 70 = .ok (.getfield 12, 3) := by decide +kernel
theorem dX2_readRest_73 : decode cX2_readRest 73 = .ok (.iconst 1, 1) := by decide +kernel
theorem dX2_readRest_74 : decode cX2_readRest 74 = .ok (.aload_n 0, 1) := by decide +kernel
theorem dX2_readRest_75 : decode cX2_readRest 75 = .ok (.invokevirtual 96, 3) := by decide +kernel
theorem dX2_readRest_78 : decode cX2_readRest 78 = .ok (.aload_n 0, 1) := by decide +kernel
theorem dX2_readRest_79 : decode cX2_readRest 79 = .ok (.getfield 22, 3) := by decide +kernel
theorem dX2_readRest_82 : decode cX2_readRest 82 = .ok (.iconst 0, 1) := by decide +kernel
theorem dX2_readRest_83 : decode cX2_readRest 83 = .ok (.aload_n 0, 1) := by decide +kernel
theorem dX2_readRest_84 : decode cX2_readRest 84 = .ok (.getfield 26, 3) := by decide +kernel
theorem dX2_readRest_87 : decode cX2_readRest 87 = .ok (.getfield 99, 3) := by decide +kernel
theorem dX2_readRest_90 : decode cX2_readRest 90 = .ok (.iconst 1, 1) := by decide +kernel
theorem dX2_readRest_91 : decode cX2_readRest 91 = .ok (.isub, 1) := by decide +kernel
theorem dX2_readRest_92 : decode cX2_readRest 92 = .ok (.invokevirtual 92, 3) := by decide +kernel
theorem dX2_readRest_95 : decode cX2_readRest 95 = .ok (.iconst 0, 1) := by decide +kernel
theorem dX2_readRest_96 : decode cX2_readRest 96 = .ok (.invokevirtual 75, 3) := by decide +kernel
theorem dX2_readRest_99 : decode cX2_readRest 99 = .ok (.ireturn, 1) := by decide +kernel
theorem dX2_readRest_100 : decode cX2_readRest 100 = .ok (.aload_n 0, 1) := by decide +kernel
theorem dX2_readRest_101 : decode cX2_readRest 101 = .ok (.getfield 12, 3) := by decide +kernel
theorem dX2_readRest_104 : decode cX2_readRest 104 = .ok (.iconst 2, 1) := by decide +kernel
theorem dX2_readRest_105 : decode cX2_readRest 105 = .ok (.aload_n 0, 1) := by decide +kernel
theorem dX2_readRest_106 : decode cX2_readRest 106 = .ok (.invokevirtual 96, 3) := by decide +kernel
theorem dX2_readRest_109 : decode cX2_readRest 109 = .ok (.iconst 0, 1) := by decide +kernel
theorem dX2_readRest_110 : decode cX2_readRest 110 = .ok (.iconst 0, 1) := by decide +kernel
theorem dX2_readRest_111 : decode cX2_readRest 111 = .ok (.invokevirtual 75, 3) := by decide +kernel
theorem dX2_readRest_114 : decode cX2_readRest 114 = .ok (.ireturn, 1) := by decide +kernel
theorem dX2_readRest_115 : decode cX2_readRest 115 = .ok (.aload_n 0, 1) := by decide +kernel
theorem dX2_readRest_116 : decode cX2_readRest 116 = .ok (.getfield 12, 3) := by decide +kernel
theorem dX2_readRest_119 : decode cX2_readRest 119 = .ok (.iconst 3, 1) := by decide +kernel
theorem dX2_readRest_120 : decode cX2_readRest 120 = .ok (.iconst 0, 1) := by decide +kernel
theorem dX2_readRest_121 : decode cX2_readRest 121 = .ok (.iconst 0, 1) := by decide +kernel
theorem dX2_readRest_122 : decode cX2_readRest 122 = .ok (.iconst 0, 1) := by decide +kernel
theorem dX2_readRest_123 : decode cX2_readRest 123 = .ok (.invokevirtual 75, 3) := by decide +kernel
theorem dX2_readRest_126 : decode cX2_readRest 126 = .ok (.ireturn, 1) := by decide +kernel
theorem dX2_readRest_127 : decode cX2_readRest 127 = .ok (.aload_n 0, 1) := by decide +kernel
theorem dX2_readRest_128 : decode cX2_readRest 128 = .ok (.invokevirtual 104, 3) := by decide +kernel
theorem dX2_readRest_131 : decode cX2_readRest 131 = .ok (.ireturn, 1) := by decide +kernel
theorem dX2_readRest_132 : decode cX2_readRest 132 = .ok (.aload_n 0, 1) := by decide +kernel
theorem dX2_readRest_133 : decode cX2_readRest 133 = .ok (.getfield 12, 3) := by decide +kernel
theorem dX2_readRest_136 : decode cX2_readRest 136 = .ok (.bipush 8, 2) := by decide +kernel
theorem dX2_readRest_138 : decode cX2_readRest 138 = .ok (.aload_n 0, 1) := by decide +kernel
theorem dX2_readRest_139 : decode cX2_readRest 139 = .ok (.getfield 22, 3) := by decide +kernel
theorem dX2_readRest_142 : decode cX2_readRest 142 = .ok (.iconst 1, 1) := by decide +kernel
theorem dX2_readRest_143 : decode cX2_readRest 143 = .ok (.bipush 99, 2) := by decide +kernel
theorem dX2_readRest_145 : decode cX2_readRest 145 = .ok (.invokevirtual 92, 3) := by decide +kernel
theorem dX2_readRest_148 : decode cX2_readRest 148 = .ok (.iconst 0, 1) := by decide +kernel
theorem dX2_readRest_149 : decode cX2_readRest 149 = .ok (.iconst 0, 1) := by decide +kernel
theorem dX2_readRest_150 : decode cX2_readRest 150 = .ok (.invokevirtual 75, 3) := by decide +kernel
theorem dX2_readRest_153 : decode cX2_readRest 153 = .ok (.ireturn, 1) := by decide +kernel
theorem dX2_readRest_154 : decode cX2_readRest 154 = .ok (.aload_n 0, 1) := by decide +kernel
theorem dX2_readRest_155 : decode cX2_readRest 155 = .ok (.getfield 12, 3) := by decide +kernel
theorem dX2_readRest_158 : decode cX2_readRest 158 = .ok (.bipush 9, 2) := by decide +kernel
theorem dX2_readRest_160 : decode cX2_readRest 160 = .ok (.iconst 0, 1) := by decide +kernel
theorem dX2_readRest_161 : decode cX2_readRest 161 = .ok (.iconst 0, 1) := by decide +kernel
theorem dX2_readRest_162 : decode cX2_readRest 162 = .ok (.iconst 0, 1) := by decide +kernel
theorem dX2_readRest_163 : decode cX2_readRest 163 = .ok (.invokevirtual 75, 3) := by decide +kernel
theorem dX2_readRest_166 : decode cX2_readRest 166 = .ok (.ireturn, 1) := by decide +kernel
theorem dX2_readTest_0 : decode cX2_readTest 0 = .ok (.aload_n 0, 1) := by decide +kernel
theorem dX2_readTest_1 : decode cX2_readTest 1 = .ok (.getfield 22, 3) := by decide +kernel
theorem dX2_readTest_4 : decode cX2_readTest 4 = .ok (.invokevirtual 47, 3) := by decide +kernel
theorem dX2_readTest_7 : decode cX2_readTest 7 = .ok (.istore_n 1, 1) := by decide +kernel
theorem dX2_readTest_8 : decode cX2_readTest 8 = .ok (.iload_n 1, 1) := by decide +kernel
theorem dX2_readTest_9 : decode cX2_readTest 9 = .ok (.invokestatic 107, 3) := by decide +kernel
theorem dX2_readTest_12 : decode cX2_readTest 12 = .ok (.ifCond .ne 11, 3) := by decide +kernel
theorem dX2_readTest_15 : decode cX2_readTest 15 = .ok (.aload_n 0, 1) := by decide +kernel
theorem dX2_readTest_16 : decode cX2_readTest 16 = .ok (.getfield 22, 3) := by decide +kernel
theorem dX2_readTest_19 : decode cX2_readTest 19 = .ok (.iconst 2, 1) := by decide +kernel
theorem dX2_readTest_20 : decode cX2_readTest 20 = .ok (.invokevirtual 72, 3) := by decide +kernel
theorem dX2_readTest_23 : decode cX2_readTest 23 = .ok (.aload_n 0, 1) := by decide +kernel
theorem dX2_readTest_24 : decode cX2_readTest 24 = .ok (.getfield 22, 3) := by decide +kernel
theorem dX2_readTest_27 : decode cX2_readTest 27 = .ok (.invokevirtual 51, 3) := by decide +kernel
theorem dX2_readTest_30 : decode cX2_readTest 30 = .ok (.iload_n 1, 1) := by decide +kernel
theorem dX2_readTest_31 : decode cX2_readTest 31 = .ok (.bipush 11, 2) := by decide +kernel
theorem dX2_readTest_33 : decode cX2_readTest 33 = .ok (.if_icmp .ne 18, 3) := by decide +kernel
theorem dX2_readTest_36 : decode cX2_readTest 36 = .ok (.aload_n 0, 1) := by decide +kernel
theorem dX2_readTest_37 : decode cX2_readTest 37 = .ok (.getfield 12, 3) := by decide +kernel
theorem dX2_readTest_40 : decode cX2_readTest 40 = .ok (.iconst 4, 1) := by decide +kernel
theorem dX2_readTest_41 : decode cX2_readTest 41 = .ok (.aload_n 0, 1) := by decide +kernel
theorem dX2_readTest_42 : decode cX2_readTest 42 = .ok (.invokevirtual 96, 3) := by decide +kernel
theorem dX2_readTest_45 : decode cX2_readTest 45 = .ok (.iconst 0, 1) := by decide +kernel
theorem dX2_readTest_46 : decode cX2_readTest 46 = .ok (.iconst 0, 1) := by decide +kernel
theorem dX2_readTest_47 : decode cX2_readTest 47 = .ok (.invokevirtual 75, 3) := by decide +kernel
theorem dX2_readTest_50 : decode cX2_readTest 50 = .ok (.ireturn, 1) := by decide +kernel
theorem dX2_readTest_51 : decode cX2_readTest 51 = .ok (.iload_n 1, 1) := by decide +kernel
theorem dX2_readTest_52 : decode cX2_readTest 52 = .ok (.bipush 19, 2) := by decide +kernel
theorem dX2_readTest_54 : decode cX2_readTest 54 = .ok (.if_icmp .ne 18, 3) := by decide +kernel
theorem dX2_readTest_57 : decode cX2_readTest 57 = .ok (.aload_n 0, 1) := by decide +kernel
theorem dX2_readTest_58 : decode cX2_readTest 58 = .ok (.getfield 12, 3) := by decide +kernel
theorem dX2_readTest_61 : decode cX2_readTest 61 = .ok (.iconst 5, 1) := by decide +kernel
theorem dX2_readTest_62 : decode cX2_readTest 62 = .ok (.aload_n 0, 1) := by decide +kernel
theorem dX2_readTest_63 : decode cX2_readTest 63 = .ok (.invokevirtual 110, 3) := by decide +kernel
theorem dX2_readTest_66 : decode cX2_readTest 66 = .ok (.iconst 0, 1) := by decide +kernel
theorem dX2_readTest_67 : decode cX2_readTest 67 = .ok (.iconst 0, 1) := by decide +kernel
theorem dX2_readTest_68 : decode cX2_readTest 68 = .ok (.invokevirtual 75, 3) := by decide +kernel
theorem dX2_readTest_71 : decode cX2_readTest 71 = .ok (.ireturn, 1) := by decide +kernel
theorem dX2_readTest_72 : decode cX2_readTest 72 = .ok (.iload_n 1, 1) := by decide +kernel
theorem dX2_readTest_73 : decode cX2_readTest 73 = .ok (.bipush 20, 2) := by decide +kernel
theorem dX2_readTest_75 : decode cX2_readTest 75 = .ok (.if_icmp .ne 10, 3) := by decide +kernel
theorem dX2_readTest_78 : decode cX2_readTest 78 = .ok (.aload_n 0, 1) := by decide +kernel
theorem dX2_readTest_79 : decode cX2_readTest 79 = .ok (.invokevirtual 113, 3) := by decide +kernel
theorem dX2_readTest_82 : decode cX2_readTest 82 = .ok (.goto 4, 3) := by decide +kernel
theorem dX2_readTest_85 : decode cX2_readTest 85 = .ok (.iconst (-1), 1) := by decide +kernel
theorem dX2_readTest_86 : decode cX2_readTest 86 = .ok (.istore_n 2, 1) := by decide +kernel
theorem dX2_readTest_87 : decode cX2_readTest 87 = .ok (.aload_n 0, 1) := by decide +kernel
theorem dX2_readTest_88 : decode cX2_readTest 88 = .ok (.invokevirtual 116, 3) := by decide +kernel
theorem dX2_readTest_91 : decode cX2_readTest 91 = .ok (.istore_n 3, 1) := by decide +kernel
theorem dX2_readTest_92 : decode cX2_readTest 92 = .ok (.iload_n 1, 1) := by decide +kernel
theorem dX2_readTest_93 : decode cX2_readTest 93 = .ok (.bipush 20, 2) := by decide +kernel
theorem dX2_readTest_95 : decode cX2_readTest 95 = .ok (.if_icmp .ne 26, 3) := by decide +kernel
theorem dX2_readTest_98 : decode cX2_readTest 98 = .ok (.aload_n 0, 1) := by decide +kernel
theorem dX2_readTest_99 : decode cX2_readTest 99 = .ok (.getfield 12, 3) := by decide +kernel
theorem dX2_readTest_102 : decode cX2_readTest 102 = .ok (.bipush 7, 2) := by decide +kernel
theorem dX2_readTest_104 : decode cX2_readTest 104 = .ok (.iload_n 2, 1) := by decide +kernel
theorem dX2_readTest_105 : decode cX2_readTest 105 = .ok (.aload_n 0, 1) := by decide +kernel
theorem dX2_readTest_106 : decode cX2_readTest 106 = .ok (.getfield 22, 3) := by decide +kernel
theorem dX2_readTest_109 : decode cX2_readTest 109 = .ok (.iconst 0, 1) := by decide +kernel
theorem dX2_readTest_110 : decode cX2_readTest 110 = .ok (.sipush 9999, 3) := by decide +kernel
theorem dX2_readTest_113 : decode cX2_readTest 113 = .ok (.invokevirtual 92, 3) := by decide +kernel
theorem dX2_readTest_116 : decode cX2_readTest 116 = .ok (.iload_n 3, 1) := by decide +kernel
theorem dX2_readTest_117 : decode cX2_readTest 117 = .ok (.invokevirtual 75, 3) := by decide +kernel
theorem dX2_readTest_120 : decode cX2_readTest 120 = .ok (.ireturn, 1) := by decide +kernel
theorem dX2_readTest_121 : decode cX2_readTest 121 = .ok (.aload_n 0, 1) := by decide +kernel
theorem dX2_readTest_122 : decode cX2_readTest 122 = .ok (.getfield 12, 3) := by decide +kernel
theorem dX2_readTest_125 : decode cX2_readTest 125 = .ok (.bipush 6, 2) := by decide +kernel
theorem dX2_readTest_127 : decode cX2_readTest 127 = .ok (.iconst (-1), 1) := by decide +kernel
theorem dX2_readTest_128 : decode cX2_readTest 128 = .ok (.aload_n 0, 1) := by decide +kernel
theorem dX2_readTest_129 : decode cX2_readTest 129 = .ok (.getfield 22, 3) := by decide +kernel
theorem dX2_readTest_132 : decode cX2_readTest 132 = .ok (.iconst 0, 1) := by decide +kernel
theorem dX2_readTest_133 : decode cX2_readTest 133 = .ok (.bipush 15, 2) := by decide +kernel
theorem dX2_readTest_135 : decode cX2_readTest 135 = .ok (.invokevirtual 92, 3) := by decide +kernel
theorem dX2_readTest_138 : decode cX2_readTest 138 = .ok (.iload_n 3, 1) := by decide +kernel
theorem dX2_readTest_139 : decode cX2_readTest 139 = .ok (.invokevirtual 75, 3) := by decide +kernel
theorem dX2_readTest_142 : decode cX2_readTest 142 = .ok (.ireturn, 1) := by decide +kernel
theorem dX2_isTest_0 : decode cX2_isTest 0 = .ok (.iload_n 0, 1) := by decide +kernel
theorem dX2_isTest_1 : decode cX2_isTest 1 = .ok (.bipush 11, 2) := by decide +kernel
theorem dX2_isTest_3 : decode cX2_isTest 3 = .ok (.if_icmp .eq 21, 3) := by decide +kernel
theorem dX2_isTest_6 : decode cX2_isTest 6 = .ok (.iload_n 0, 1) := by decide +kernel
theorem dX2_isTest_7 : decode cX2_isTest 7 = .ok (.bipush 19, 2) := by decide +kernel
theorem dX2_isTest_9 : decode cX2_isTest 9 = .ok (.if_icmp .eq 15, 3) := by decide +kernel
theorem dX2_isTest_12 : decode cX2_isTest 12 = .ok (.iload_n 0, 1) := by decide +kernel
theorem dX2_isTest_13 : decode cX2_isTest 13 = .ok (.bipush 13, 2) := by decide +kernel
theorem dX2_isTest_15 : decode cX2_isTest 15 = .ok (.if_icmp .eq 9, 3) := by decide +kernel
theorem dX2_isTest_18 : decode cX2_isTest 18 = .ok (.iload_n 0, 1) := by decide +kernel
theorem dX2_isTest_19 : decode cX2_isTest 19 = .ok (.bipush 20, 2) := by decide +kernel
theorem dX2_isTest_21 : decode cX2_isTest 21 = .ok (.if_icmp .ne 7, 3) := by decide +kernel
theorem dX2_isTest_24 : decode cX2_isTest 24 = .ok (.iconst 1, 1) := by decide +kernel
theorem dX2_isTest_25 : decode cX2_isTest 25 = .ok (.goto 4, 3) := by decide +kernel
theorem dX2_isTest_28 : decode cX2_isTest 28 = .ok (.iconst 0, 1) := by decide +kernel
theorem dX2_isTest_29 : decode cX2_isTest 29 = .ok (.ireturn, 1) := by decide +kernel
theorem dX2_takeThing_0 : decode cX2_takeThing 0 = .ok (.aload_n 0, 1) := by decide +kernel
theorem dX2_takeThing_1 : decode cX2_takeThing 1 = .ok (.getfield 26, 3) := by decide +kernel
theorem dX2_takeThing_4 : decode cX2_takeThing 4 = .ok (.getfield 119, 3) := by decide +kernel
theorem dX2_takeThing_7 : decode cX2_takeThing 7 = .ok (.aload_n 0, 1) := by decide +kernel
theorem dX2_takeThing_8 : decode cX2_takeThing 8 = .ok (.getfield 22, 3) := by decide +kernel
theorem dX2_takeThing_11 : decode cX2_takeThing 11 = .ok (.invokevirtual 123, 3) := by decide +kernel
theorem dX2_takeThing_14 : decode cX2_takeThing 14 = .ok (.invokevirtual 127, 3) := by decide +kernel
theorem dX2_takeThing_17 : decode cX2_takeThing 17 = .ok (.istore_n 1, 1) := by decide +kernel
theorem dX2_takeThing_18 : decode cX2_takeThing 18 = .ok (.iload_n 1, 1) := by decide +kernel
theorem dX2_takeThing_19 : decode cX2_takeThing 19 = .ok (.iconst (-1), 1) := by decide +kernel
theorem dX2_takeThing_20 : decode cX2_takeThing 20 = .ok (.if_icmp .ne 11, 3) := by decide +kernel
theorem dX2_takeThing_23 : decode cX2_takeThing 23 = .ok (.aload_n 0, 1) := by decide +kernel
theorem dX2_takeThing_24 : decode cX2_takeThing 24 = .ok (.getfield 22, 3) := by decide +kernel
theorem dX2_takeThing_27 : decode cX2_takeThing 27 = .ok (.iconst 3, 1) := by decide +kernel
theorem dX2_takeThing_28 : decode cX2_takeThing 28 = .ok (.invokevirtual 72, 3) := by decide +kernel
theorem dX2_takeThing_31 : decode cX2_takeThing 31 = .ok (.aload_n 0, 1) := by decide +kernel
theorem dX2_takeThing_32 : decode cX2_takeThing 32 = .ok (.getfield 22, 3) := by decide +kernel
theorem dX2_takeThing_35 : decode cX2_takeThing 35 = .ok (.invokevirtual 51, 3) := by decide +kernel
theorem dX2_takeThing_38 : decode cX2_takeThing 38 = .ok (.iload_n 1, 1) := by decide +kernel
theorem dX2_takeThing_39 : decode cX2_takeThing 39 = .ok (.ireturn, 1) := by decide +kernel
theorem dX2_takeMill_0 : decode cX2_takeMill 0 = .ok (.aload_n 0, 1) := by decide +kernel
theorem dX2_takeMill_1 : decode cX2_takeMill 1 = .ok (.getfield 26, 3) := by decide +kernel
theorem dX2_takeMill_4 : decode cX2_takeMill 4 = .ok (.getfield 133, 3) := by decide +kernel
theorem dX2_takeMill_7 : decode cX2_takeMill 7 = .ok (.aload_n 0, 1) := by decide +kernel
theorem dX2_takeMill_8 : decode cX2_takeMill 8 = .ok (.getfield 22, 3) := by decide +kernel
theorem dX2_takeMill_11 : decode cX2_takeMill 11 = .ok (.invokevirtual 123, 3) := by decide +kernel
theorem dX2_takeMill_14 : decode cX2_takeMill 14 = .ok (.invokevirtual 137, 3) := by decide +kernel
theorem dX2_takeMill_17 : decode cX2_takeMill 17 = .ok (.istore_n 1, 1) := by decide +kernel
theorem dX2_takeMill_18 : decode cX2_takeMill 18 = .ok (.iload_n 1, 1) := by decide +kernel
theorem dX2_takeMill_19 : decode cX2_takeMill 19 = .ok (.iconst (-1), 1) := by decide +kernel
theorem dX2_takeMill_20 : decode cX2_takeMill 20 = .ok (.if_icmp .ne 11, 3) := by decide +kernel
theorem dX2_takeMill_23 : decode cX2_takeMill 23 = .ok (.aload_n 0, 1) := by decide +kernel
theorem dX2_takeMill_24 : decode cX2_takeMill 24 = .ok (.getfield 22, 3) := by decide +kernel
theorem dX2_takeMill_27 : decode cX2_takeMill 27 = .ok (.iconst 3, 1) := by decide +kernel
theorem dX2_takeMill_28 : decode cX2_takeMill 28 = .ok (.invokevirtual 72, 3) := by decide +kernel
theorem dX2_takeMill_31 : decode cX2_takeMill 31 = .ok (.aload_n 0, 1) := by decide +kernel
theorem dX2_takeMill_32 : decode cX2_takeMill 32 = .ok (.getfield 22, 3) := by decide +kernel
theorem dX2_takeMill_35 : decode cX2_takeMill 35 = .ok (.invokevirtual 51, 3) := by decide +kernel
theorem dX2_takeMill_38 : decode cX2_takeMill 38 = .ok (.iload_n 1, 1) := by decide +kernel
theorem dX2_takeMill_39 : decode cX2_takeMill 39 = .ok (.ireturn, 1) := by decide +kernel
theorem dX2_takeWay_0 : decode cX2_takeWay 0 = .ok (.aload_n 0, 1) := by decide +kernel
theorem dX2_takeWay_1 : decode cX2_takeWay 1 = .ok (.getfield 22, 3) := by decide +kernel
theorem dX2_takeWay_4 : decode cX2_takeWay 4 = .ok (.invokevirtual 47, 3) := by decide +kernel
theorem dX2_takeWay_7 : decode cX2_takeWay 7 = .ok (.istore_n 1, 1) := by decide +kernel
theorem dX2_takeWay_8 : decode cX2_takeWay 8 = .ok (.iload_n 1, 1) := by decide +kernel
theorem dX2_takeWay_9 : decode cX2_takeWay 9 = .ok (.iconst 4, 1) := by decide +kernel
theorem dX2_takeWay_10 : decode cX2_takeWay 10 = .ok (.if_icmp .eq 16, 3) := by decide +kernel
theorem dX2_takeWay_13 : decode cX2_takeWay 13 = .ok (.iload_n 1, 1) := by decide +kernel
theorem dX2_takeWay_14 : decode cX2_takeWay 14 = .ok (.iconst 5, 1) := by decide +kernel
theorem dX2_takeWay_15 : decode cX2_takeWay 15 = .ok (.if_icmp .eq 11, 3) := by decide +kernel
theorem dX2_takeWay_18 : decode cX2_takeWay 18 = .ok (.aload_n 0, 1) := by decide +kernel
theorem dX2_takeWay_19 : decode cX2_takeWay 19 = .ok (.getfield 22, 3) := by decide +kernel
theorem dX2_takeWay_22 : decode cX2_takeWay 22 = .ok (.iconst 2, 1) := by decide +kernel
theorem dX2_takeWay_23 : decode cX2_takeWay 23 = .ok (.invokevirtual 72, 3) := by decide +kernel
theorem dX2_takeWay_26 : decode cX2_takeWay 26 = .ok (.aload_n 0, 1) := by decide +kernel
theorem dX2_takeWay_27 : decode cX2_takeWay 27 = .ok (.getfield 22, 3) := by decide +kernel
theorem dX2_takeWay_30 : decode cX2_takeWay 30 = .ok (.invokevirtual 51, 3) := by decide +kernel
theorem dX2_takeWay_33 : decode cX2_takeWay 33 = .ok (.iload_n 1, 1) := by decide +kernel
theorem dX2_takeWay_34 : decode cX2_takeWay 34 = .ok (.iconst 4, 1) := by decide +kernel
theorem dX2_takeWay_35 : decode cX2_takeWay 35 = .ok (.if_icmp .ne 7, 3) := by decide +kernel
theorem dX2_takeWay_38 : decode cX2_takeWay 38 = .ok (.iconst 0, 1) := by decide +kernel
theorem dX2_takeWay_39 : decode cX2_takeWay 39 = .ok (.goto 4, 3) := by decide +kernel
theorem dX2_takeWay_42 : decode cX2_takeWay 42 = .ok (.iconst 1, 1) := by decide +kernel
theorem dX2_takeWay_43 : decode cX2_takeWay 43 = .ok (.ireturn, 1) := by decide +kernel
theorem dX2_takeCompares_0 : decode cX2_takeCompares 0 = .ok (.aload_n 0, 1) := by decide +kernel
theorem dX2_takeCompares_1 : decode cX2_takeCompares 1 = .ok (.getfield 22, 3) := by decide +kernel
theorem dX2_takeCompares_4 : decode cX2_takeCompares 4 = .ok (.getfield 140, 3) := by decide +kernel
theorem dX2_takeCompares_7 : decode cX2_takeCompares 7 = .ok (.istore_n 1, 1) := by decide +kernel
theorem dX2_takeCompares_8 : decode cX2_takeCompares 8 = .ok (.aload_n 0, 1) := by decide +kernel
theorem dX2_takeCompares_9 : decode cX2_takeCompares 9 = .ok (.getfield 22, 3) := by decide +kernel
theorem dX2_takeCompares_12 : decode cX2_takeCompares 12 = .ok (.getfield 143, 3) := by decide +kernel
theorem dX2_takeCompares_15 : decode cX2_takeCompares 15 = .ok (.iconst 3, 1) := by decide +kernel
theorem dX2_takeCompares_16 : decode cX2_takeCompares 16 = .ok (.if_icmp .ne 9, 3) := by decide +kernel
theorem dX2_takeCompares_19 : decode cX2_takeCompares 19 = .ok (.iload_n 1, 1) := by decide +kernel
theorem dX2_takeCompares_20 : decode cX2_takeCompares 20 = .ok (.bipush 59, 2) := by decide +kernel
theorem dX2_takeCompares_22 : decode cX2_takeCompares 22 = .ok (.if_icmp .ne 11, 3) := by decide +kernel
theorem dX2_takeCompares_25 : decode cX2_takeCompares 25 = .ok (.aload_n 0, 1) := by decide +kernel
theorem dX2_takeCompares_26 : decode cX2_takeCompares 26 = .ok (.getfield 22, 3) := by decide +kernel
theorem dX2_takeCompares_29 : decode cX2_takeCompares 29 = .ok (.iconst 2, 1) := by decide +kernel
theorem dX2_takeCompares_30 : decode cX2_takeCompares 30 = .ok (.invokevirtual 72, 3) := by decide +kernel
theorem dX2_takeCompares_33 : decode cX2_takeCompares 33 = .ok (.aload_n 0, 1) := by decide +kernel
theorem dX2_takeCompares_34 : decode cX2_takeCompares 34 = .ok (.getfield 22, 3) := by decide +kernel
theorem dX2_takeCompares_37 : decode cX2_takeCompares 37 = .ok (.invokevirtual 51, 3) := by decide +kernel
theorem dX2_takeCompares_40 : decode cX2_takeCompares 40 = .ok (.iload_n 1, 1) := by decide +kernel
theorem dX2_takeCompares_41 : decode cX2_takeCompares 41 = .ok (.ireturn, 1) := by decide +kernel
theorem dX3_init_0 : decode cX3_init 0 = .ok (.aload_n 0, 1) := by decide +kernel
theorem dX3_init_1 : decode cX3_init 1 = .ok (.invokespecial 3, 3) := by decide +kernel
theorem dX3_init_4 : decode cX3_init 4 = .ok (.aload_n 0, 1) := by decide +kernel
theorem dX3_init_5 : decode cX3_init 5 = .ok (.new 9, 3) := by decide +kernel
theorem dX3_init_8 : decode cX3_init 8 = .ok (.dup, 1) := by decide +kernel
theorem dX3_init_9 : decode cX3_init 9 = .ok (.invokespecial 11, 3) := by decide +kernel
theorem dX3_init_12 : decode cX3_init 12 = .ok (.putfield 12, 3) := by decide +kernel
theorem dX3_init_15 : decode cX3_init 15 = .ok (.aload_n 0, 1) := by decide +kernel
theorem dX3_init_16 : decode cX3_init 16 = .ok (.new 9, 3) := by decide +kernel
theorem dX3_init_19 : decode cX3_init 19 = .ok (.dup, 1) := by decide +kernel
theorem dX3_init_20 : decode cX3_init 20 = .ok (.invokespecial 11, 3) := by decide +kernel
theorem dX3_init_23 : decode cX3_init 23 = .ok (.putfield 18, 3) := by decide +kernel
theorem dX3_init_26 : decode cX3_init 26 = .ok (.return_, 1) := by decide +kernel
theorem dX3_play_0 : decode cX3_play 0 = .ok (.aload_n 0, 1) := by decide +kernel
theorem dX3_play_1 : decode cX3_play 1 = .ok (.aload_n 1, 1) := by decide +kernel
theorem dX3_play_2 : decode cX3_play 2 = .ok (.putfield 21, 3) := by decide +kernel
theorem dX3_play_5 : decode cX3_play 5 = .ok (.aload_n 0, 1) := by decide +kernel
theorem dX3_play_6 : decode cX3_play 6 = .ok (.iload_n 2, 1) := by decide +kernel
theorem dX3_play_7 : decode cX3_play 7 = .ok (.putfield 24, 3) := by decide +kernel
theorem dX3_play_10 : decode cX3_play 10 = .ok (.aload_n 0, 1) := by decide +kernel
theorem dX3_play_11 : decode cX3_play 11 = .ok (.iload_n 3, 1) := by decide +kernel
theorem dX3_play_12 : decode cX3_play 12 = .ok (.putfield 28, 3) := by decide +kernel
theorem dX3_play_15 : decode cX3_play 15 = .ok (.aload_n 0, 1) := by decide +kernel
theorem dX3_play_16 : decode cX3_play 16 = .ok (.iload 4, 2) := by decide +kernel
theorem dX3_play_18 : decode cX3_play 18 = .ok (.putfield 31, 3) := by decide +kernel
theorem dX3_play_21 : decode cX3_play 21 = .ok (.aload_n 0, 1) := by decide +kernel
theorem dX3_play_22 : decode cX3_play 22 = .ok (.iload 4, 2) := by decide +kernel
theorem dX3_play_24 : decode cX3_play 24 = .ok (.ifCond .ne 7, 3) := by decide +kernel
theorem dX3_play_27 : decode cX3_play 27 = .ok (.iconst 0, 1) := by decide +kernel
theorem dX3_play_28 : decode cX3_play 28 = .ok (.goto 5, 3) := by decide +kernel
theorem dX3_play_31 : decode cX3_play 31 = .ok (.bipush (-100), 2) := by decide +kernel
theorem dX3_play_33 : decode cX3_play 33 = .ok (.putfield 34, 3) := by decide +kernel
theorem dX3_play_36 : decode cX3_play 36 = .ok (.aload_n 0, 1) := by decide +kernel
theorem dX3_play_37 : decode cX3_play 37 = .ok (.iconst (-1), 1) := by decide +kernel
theorem dX3_play_38 : decode cX3_play 38 = .ok (.putfield 37, 3) := by decide +kernel
theorem dX3_play_41 : decode cX3_play 41 = .ok (.aload_n 0, 1) := by decide +kernel
theorem dX3_play_42 : decode cX3_play 42 = .ok (.iconst (-1), 1) := by decide +kernel
theorem dX3_play_43 : decode cX3_play 43 = .ok (.putfield 40, 3) := by decide +kernel
theorem dX3_play_46 : decode cX3_play 46 = .ok (.iload 4, 2) := by decide +kernel
theorem dX3_play_48 : decode cX3_play 48 = .ok (.ifCond .ne 4, 3) := by decide +kernel
theorem dX3_play_51 : decode cX3_play 51 = .ok (.return_, 1) := by decide +kernel
theorem dX3_play_52 : decode cX3_play 52 = .ok (.aload_n 0, 1) := by decide +kernel
theorem dX3_play_53 : decode cX3_play 53 = .ok (.getfield 12, 3) := by decide +kernel
theorem dX3_play_56 : decode cX3_play 56 = .ok (.aload_n 0, 1) := by decide +kernel
theorem dX3_play_57 : decode cX3_play 57 = .ok (.getfield 21, 3) := by decide +kernel
theorem dX3_play_60 : decode cX3_play 60 = .ok (.invokevirtual 43, 3) := by decide +kernel
theorem dX3_play_63 : decode cX3_play 63 = .ok (.aload_n 0, 1) := by decide +kernel
theorem dX3_play_64 : decode cX3_play 64 = .ok (.getfield 18, 3) := by decide +kernel
theorem dX3_play_67 : decode cX3_play 67 = .ok (.aload_n 0, 1) := by decide +kernel
theorem dX3_play_68 : decode cX3_play 68 = .ok (.getfield 21, 3) := by decide +kernel
theorem dX3_play_71 : decode cX3_play 71 = .ok (.invokevirtual 43, 3) := by decide +kernel
theorem dX3_play_74 : decode cX3_play 74 = .ok (.iconst 0, 1) := by decide +kernel
theorem dX3_play_75 : decode cX3_play 75 = .ok (.istore 5, 2) := by decide +kernel
theorem dX3_play_77 : decode cX3_play 77 = .ok (.iload 5, 2) := by decide +kernel
theorem dX3_play_79 : decode cX3_play 79 = .ok (.aload_n 0, 1) := by decide +kernel
theorem dX3_play_80 : decode cX3_play 80 = .ok (.getfield 21, 3) := by decide +kernel
theorem dX3_play_83 : decode cX3_play 83 = .ok (.getfield 47, 3) := by decide +kernel
theorem dX3_play_86 : decode cX3_play 86 = .ok (.getfield 51, 3) := by decide +kernel
theorem dX3_play_89 : decode cX3_play 89 = .ok (.if_icmp .ge 53, 3) := by decide +kernel
theorem dX3_play_92 : decode cX3_play 92 = .ok (.iconst 0, 1) := by decide +kernel
theorem dX3_play_93 : decode cX3_play 93 = .ok (.istore 6, 2) := by decide +kernel
theorem dX3_play_95 : decode cX3_play 95 = .ok (.iload 6, 2) := by decide +kernel
theorem dX3_play_97 : decode cX3_play 97 = .ok (.aload_n 0, 1) := by decide +kernel
theorem dX3_play_98 : decode cX3_play 98 = .ok (.getfield 21, 3) := by decide +kernel
theorem dX3_play_101 : decode cX3_play 101 = .ok (.getfield 56, 3) := by decide +kernel
theorem dX3_play_104 : decode cX3_play 104 = .ok (.if_icmp .ge 32, 3) := by decide +kernel
theorem dX3_play_107 : decode cX3_play 107 = .ok (.aload_n 0, 1) := by decide +kernel
theorem dX3_play_108 : decode cX3_play 108 = .ok (.getfield 21, 3) := by decide +kernel
theorem dX3_play_111 : decode cX3_play 111 = .ok (.getfield 47, 3) := by decide +kernel
theorem dX3_play_114 : decode cX3_play 114 = .ok (.iload 5, 2) := by decide +kernel
theorem dX3_play_116 : decode cX3_play 116 = .ok (.invokevirtual 59, 3) := by decide +kernel
theorem dX3_play_119 : decode cX3_play 119 = .ok (.ifCond .eq 17, 3) := by decide +kernel
theorem dX3_play_122 : decode cX3_play 122 = .ok (.aload_n 0, 1) := by decide +kernel
theorem dX3_play_123 : decode cX3_play 123 = .ok (.iload 5, 2) := by decide +kernel
theorem dX3_play_125 : decode cX3_play 125 = .ok (.iload 6, 2) := by decide +kernel
theorem dX3_play_127 : decode cX3_play 127 = .ok (.invokevirtual 63, 3) := by decide +kernel
theorem dX3_play_130 : decode cX3_play 130 = .ok (.iinc 6 1, 3) := by decide +kernel
theorem dX3_play_133 : decode cX3_play 133 = .ok (.goto (-38), 3) := by decide +kernel
theorem dX3_play_136 : decode cX3_play 136 = .ok (.iinc 5 1, 3) := by decide +kernel
theorem dX3_play_139 : decode cX3_play 139 = .ok (.goto (-62), 3) := by decide +kernel
theorem dX3_play_142 : decode cX3_play 142 = .ok (.aload_n 0, 1) := by decide +kernel
theorem dX3_play_143 : decode cX3_play 143 = .ok (.iconst (-1), 1) := by decide +kernel
theorem dX3_play_144 : decode cX3_play 144 = .ok (.iconst (-1), 1) := by decide +kernel
theorem dX3_play_145 : decode cX3_play 145 = .ok (.invokevirtual 63, 3) := by decide +kernel
theorem dX3_play_148 : decode cX3_play 148 = .ok (.return_, 1) := by decide +kernel
theorem dX3_weighMove_0 : decode cX3_weighMove 0 = .ok (.aload_n 0, 1) := by decide +kernel
theorem dX3_weighMove_1 : decode cX3_weighMove 1 = .ok (.getfield 21, 3) := by decide +kernel
theorem dX3_weighMove_4 : decode cX3_weighMove 4 = .ok (.aload_n 0, 1) := by decide +kernel
theorem dX3_weighMove_5 : decode cX3_weighMove 5 = .ok (.getfield 12, 3) := by decide +kernel
theorem dX3_weighMove_8 : decode cX3_weighMove 8 = .ok (.iload_n 1, 1) := by decide +kernel
theorem dX3_weighMove_9 : decode cX3_weighMove 9 = .ok (.iload_n 2, 1) := by decide +kernel
theorem dX3_weighMove_10 : decode cX3_weighMove 10 = .ok (.invokestatic 67, 3) := by decide +kernel
theorem dX3_weighMove_13 : decode cX3_weighMove 13 = .ok (.aload_n 0, 1) := by decide +kernel
theorem dX3_weighMove_14 : decode cX3_weighMove 14 = .ok (.getfield 31, 3) := by decide +kernel
theorem dX3_weighMove_17 : decode cX3_weighMove 17 = .ok (.iconst 1, 1) := by decide +kernel
theorem dX3_weighMove_18 : decode cX3_weighMove 18 = .ok (.if_icmp .ne 14, 3) := by decide +kernel
theorem dX3_weighMove_21 : decode cX3_weighMove 21 = .ok (.aload_n 0, 1) := by decide +kernel
theorem dX3_weighMove_22 : decode cX3_weighMove 22 = .ok (.aload_n 0, 1) := by decide +kernel
theorem dX3_weighMove_23 : decode cX3_weighMove 23 = .ok (.getfield 12, 3) := by decide +kernel
theorem dX3_weighMove_26 : decode cX3_weighMove 26 = .ok (.invokevirtual 71, 3) := by decide +kernel
theorem dX3_weighMove_29 : decode cX3_weighMove 29 = .ok (.goto 7, 3) := by decide +kernel
theorem dX3_weighMove_32 : decode cX3_weighMove 32 = .ok (.aload_n 0, 1) := by decide +kernel
theorem dX3_weighMove_33 : decode cX3_weighMove 33 = .ok (.invokevirtual 75, 3) := by decide +kernel
theorem dX3_weighMove_36 : decode cX3_weighMove 36 = .ok (.istore_n 3, 1) := by decide +kernel
theorem dX3_weighMove_37 : decode cX3_weighMove 37 = .ok (.iload_n 3, 1) := by decide +kernel
theorem dX3_weighMove_38 : decode cX3_weighMove 38 = .ok (.aload_n 0, 1) := by decide +kernel
theorem dX3_weighMove_39 : decode cX3_weighMove 39 = .ok (.getfield 34, 3) := by decide +kernel
theorem dX3_weighMove_42 : decode cX3_weighMove 42 = .ok (.if_icmp .le 18, 3) := by decide +kernel
theorem dX3_weighMove_45 : decode cX3_weighMove 45 = .ok (.aload_n 0, 1) := by decide +kernel
theorem dX3_weighMove_46 : decode cX3_weighMove 46 = .ok (.iload_n 3, 1) := by decide +kernel
theorem dX3_weighMove_47 : decode cX3_weighMove 47 = .ok (.putfield 34, 3) := by decide +kernel
theorem dX3_weighMove_50 : decode cX3_weighMove 50 = .ok (.aload_n 0, 1) := by decide +kernel
theorem dX3_weighMove_51 : decode cX3_weighMove 51 = .ok (.iload_n 1, 1) := by decide +kernel
theorem dX3_weighMove_52 : decode cX3_weighMove 52 = .ok (.putfield 37, 3) := by decide +kernel
theorem dX3_weighMove_55 : decode cX3_weighMove 55 = .ok (.aload_n 0, 1) := by decide +kernel
theorem dX3_weighMove_56 : decode cX3_weighMove 56 = .ok (.iload_n 2, 1) := by decide +kernel
theorem dX3_weighMove_57 : decode cX3_weighMove 57 = .ok (.putfield 40, 3) := by decide +kernel
theorem dX3_weighMove_60 : decode cX3_weighMove 60 = .ok (.return_, 1) := by decide +kernel
theorem dX3_takeTurn_0 : decode cX3_takeTurn 0 = .ok (.aload_n 1, 1) := by decide +kernel
theorem dX3_takeTurn_1 : decode cX3_takeTurn 1 = .ok (.aload_n 0, 1) := by decide +kernel
theorem dX3_takeTurn_2 : decode cX3_takeTurn 2 = .ok (.invokevirtual 79, 3) := by decide +kernel
theorem dX3_takeTurn_5 : decode cX3_takeTurn 5 = .ok (.iload_n 2, 1) := by decide +kernel
theorem dX3_takeTurn_6 : decode cX3_takeTurn 6 = .ok (.iconst (-1), 1) := by decide +kernel
theorem dX3_takeTurn_7 : decode cX3_takeTurn 7 = .ok (.if_icmp .eq 12, 3) := by decide +kernel
theorem dX3_takeTurn_10 : decode cX3_takeTurn 10 = .ok (.aload_n 1, 1) := by decide +kernel
theorem dX3_takeTurn_11 : decode cX3_takeTurn 11 = .ok (.getfield 47, 3) := by decide +kernel
theorem dX3_takeTurn_14 : decode cX3_takeTurn 14 = .ok (.iload_n 2, 1) := by decide +kernel
theorem dX3_takeTurn_15 : decode cX3_takeTurn 15 = .ok (.iload_n 3, 1) := by decide +kernel
theorem dX3_takeTurn_16 : decode cX3_takeTurn 16 = .ok (.invokevirtual 82, 3) := by decide +kernel
theorem dX3_takeTurn_19 : decode cX3_takeTurn 19 = .ok (.iconst 0, 1) := by decide +kernel
theorem dX3_takeTurn_20 : decode cX3_takeTurn 20 = .ok (.istore 4, 2) := by decide +kernel
theorem dX3_takeTurn_22 : decode cX3_takeTurn 22 = .ok (.iload 4, 2) := by decide +kernel
theorem dX3_takeTurn_24 : decode cX3_takeTurn 24 = .ok (.bipush 6, 2) := by decide +kernel
theorem dX3_takeTurn_26 : decode cX3_takeTurn 26 = .ok (.if_icmp .ge 14, 3) := by decide +kernel
theorem dX3_takeTurn_29 : decode cX3_takeTurn 29 = .ok (.aload_n 1, 1) := by decide +kernel
theorem dX3_takeTurn_30 : decode cX3_takeTurn 30 = .ok (.invokevirtual 85, 3) := by decide +kernel
theorem dX3_takeTurn_33 : decode cX3_takeTurn 33 = .ok (.pop, 1) := by decide +kernel
theorem dX3_takeTurn_34 : decode cX3_takeTurn 34 = .ok (.iinc 4 1, 3) := by decide +kernel
theorem dX3_takeTurn_37 : decode cX3_takeTurn 37 = .ok (.goto (-15), 3) := by decide +kernel
theorem dX3_takeTurn_40 : decode cX3_takeTurn 40 = .ok (.return_, 1) := by decide +kernel
theorem dX3_leadIn_0 : decode cX3_leadIn 0 = .ok (.aload_n 1, 1) := by decide +kernel
theorem dX3_leadIn_1 : decode cX3_leadIn 1 = .ok (.getfield 89, 3) := by decide +kernel
theorem dX3_leadIn_4 : decode cX3_leadIn 4 = .ok (.getfield 93, 3) := by decide +kernel
theorem dX3_leadIn_7 : decode cX3_leadIn 7 = .ok (.aload_n 0, 1) := by decide +kernel
theorem dX3_leadIn_8 : decode cX3_leadIn 8 = .ok (.getfield 24, 3) := by decide +kernel
theorem dX3_leadIn_11 : decode cX3_leadIn 11 = .ok (.iaload, 1) := by decide +kernel
theorem dX3_leadIn_12 : decode cX3_leadIn 12 = .ok (.aload_n 0, 1) := by decide +kernel
theorem dX3_leadIn_13 : decode cX3_leadIn 13 = .ok (.getfield 21, 3) := by decide +kernel
theorem dX3_leadIn_16 : decode cX3_leadIn 16 = .ok (.getfield 89, 3) := by decide +kernel
theorem dX3_leadIn_19 : decode cX3_leadIn 19 = .ok (.getfield 93, 3) := by decide +kernel
theorem dX3_leadIn_22 : decode cX3_leadIn 22 = .ok (.aload_n 0, 1) := by decide +kernel
theorem dX3_leadIn_23 : decode cX3_leadIn 23 = .ok (.getfield 24, 3) := by decide +kernel
theorem dX3_leadIn_26 : decode cX3_leadIn 26 = .ok (.iaload, 1) := by decide +kernel
theorem dX3_leadIn_27 : decode cX3_leadIn 27 = .ok (.isub, 1) := by decide +kernel
theorem dX3_leadIn_28 : decode cX3_leadIn 28 = .ok (.istore_n 2, 1) := by decide +kernel
theorem dX3_leadIn_29 : decode cX3_leadIn 29 = .ok (.aload_n 1, 1) := by decide +kernel
theorem dX3_leadIn_30 : decode cX3_leadIn 30 = .ok (.getfield 89, 3) := by decide +kernel
theorem dX3_leadIn_33 : decode cX3_leadIn 33 = .ok (.getfield 93, 3) := by decide +kernel
theorem dX3_leadIn_36 : decode cX3_leadIn 36 = .ok (.aload_n 0, 1) := by decide +kernel
theorem dX3_leadIn_37 : decode cX3_leadIn 37 = .ok (.getfield 28, 3) := by decide +kernel
theorem dX3_leadIn_40 : decode cX3_leadIn 40 = .ok (.iaload, 1) := by decide +kernel
theorem dX3_leadIn_41 : decode cX3_leadIn 41 = .ok (.aload_n 0, 1) := by decide +kernel
theorem dX3_leadIn_42 : decode cX3_leadIn 42 = .ok (.getfield 21, 3) := by decide +kernel
theorem dX3_leadIn_45 : decode cX3_leadIn 45 = .ok (.getfield 89, 3) := by decide +kernel
theorem dX3_leadIn_48 : decode cX3_leadIn 48 = .ok (.getfield 93, 3) := by decide +kernel
theorem dX3_leadIn_51 : decode cX3_leadIn 51 = .ok (.aload_n 0, 1) := by decide +kernel
theorem dX3_leadIn_52 : decode cX3_leadIn 52 = .ok (.getfield 28, 3) := by decide +kernel
theorem dX3_leadIn_55 : decode cX3_leadIn 55 = .ok (.iaload, 1) := by decide +kernel
theorem dX3_leadIn_56 : decode cX3_leadIn 56 = .ok (.isub, 1) := by decide +kernel
theorem dX3_leadIn_57 : decode cX3_leadIn 57 = .ok (.istore_n 3, 1) := by decide +kernel
theorem dX3_leadIn_58 : decode cX3_leadIn 58 = .ok (.iload_n 2, 1) := by decide +kernel
theorem dX3_leadIn_59 : decode cX3_leadIn 59 = .ok (.iload_n 3, 1) := by decide +kernel
theorem dX3_leadIn_60 : decode cX3_leadIn 60 = .ok (.isub, 1) := by decide +kernel
theorem dX3_leadIn_61 : decode cX3_leadIn 61 = .ok (.ireturn, 1) := by decide +kernel
theorem dX3_worstReply_0 : decode cX3_worstReply 0 = .ok (.aload_n 0, 1) := by decide +kernel
theorem dX3_worstReply_1 : decode cX3_worstReply 1 = .ok (.getfield 12, 3) := by decide +kernel
theorem dX3_worstReply_4 : decode cX3_worstReply 4 = .ok (.aload_n 0, 1) := by decide +kernel
theorem dX3_worstReply_5 : decode cX3_worstReply 5 = .ok (.getfield 18, 3) := by decide +kernel
theorem dX3_worstReply_8 : decode cX3_worstReply 8 = .ok (.iconst (-1), 1) := by decide +kernel
theorem dX3_worstReply_9 : decode cX3_worstReply 9 = .ok (.iconst (-1), 1) := by decide +kernel
theorem dX3_worstReply_10 : decode cX3_worstReply 10 = .ok (.invokestatic 67, 3) := by decide +kernel
theorem dX3_worstReply_13 : decode cX3_worstReply 13 = .ok (.aload_n 0, 1) := by decide +kernel
theorem dX3_worstReply_14 : decode cX3_worstReply 14 = .ok (.aload_n 0, 1) := by decide +kernel
theorem dX3_worstReply_15 : decode cX3_worstReply 15 = .ok (.getfield 18, 3) := by decide +kernel
theorem dX3_worstReply_18 : decode cX3_worstReply 18 = .ok (.invokevirtual 71, 3) := by decide +kernel
theorem dX3_worstReply_21 : decode cX3_worstReply 21 = .ok (.istore_n 1, 1) := by decide +kernel
theorem dX3_worstReply_22 : decode cX3_worstReply 22 = .ok (.iconst 0, 1) := by decide +kernel
theorem dX3_worstReply_23 : decode cX3_worstReply 23 = .ok (.istore_n 2, 1) := by decide +kernel
theorem dX3_worstReply_24 : decode cX3_worstReply 24 = .ok (.iload_n 2, 1) := by decide +kernel
theorem dX3_worstReply_25 : decode cX3_worstReply 25 = .ok (.aload_n 0, 1) := by decide +kernel
theorem dX3_worstReply_26 : decode cX3_worstReply 26 = .ok (.getfield 21, 3) := by decide +kernel
theorem dX3_worstReply_29 : decode cX3_worstReply 29 = .ok (.getfield 47, 3) := by decide +kernel
theorem dX3_worstReply_32 : decode cX3_worstReply 32 = .ok (.getfield 51, 3) := by decide +kernel
theorem dX3_worstReply_35 : decode cX3_worstReply 35 = .ok (.if_icmp .ge 87, 3) := by decide +kernel
theorem dX3_worstReply_38 : decode cX3_worstReply 38 = .ok (.aload_n 0, 1) := by decide +kernel
theorem dX3_worstReply_39 : decode cX3_worstReply 39 = .ok (.getfield 12, 3) := by decide +kernel
theorem dX3_worstReply_42 : decode cX3_worstReply 42 = .ok (.getfield 47, 3) := by decide +kernel
theorem dX3_worstReply_45 : decode cX3_worstReply 45 = .ok (.iload_n 2, 1) := by decide +kernel
theorem dX3_worstReply_46 : decode cX3_worstReply 46 = .ok (.invokevirtual 59, 3) := by decide +kernel
theorem dX3_worstReply_49 : decode cX3_worstReply 49 = .ok (.ifCond .eq 67, 3) := by decide +kernel
theorem dX3_worstReply_52 : decode cX3_worstReply 52 = .ok (.aload_n 0, 1) := by decide +kernel
theorem dX3_worstReply_53 : decode cX3_worstReply 53 = .ok (.iload_n 2, 1) := by decide +kernel
theorem dX3_worstReply_54 : decode cX3_worstReply 54 = .ok (.invokevirtual 99, 3) := by decide +kernel
theorem dX3_worstReply_57 : decode cX3_worstReply 57 = .ok (.ifCond .eq 6, 3) := by decide +kernel
theorem dX3_worstReply_60 : decode cX3_worstReply 60 = .ok (.goto 56, 3) := by decide +kernel
theorem dX3_worstReply_63 : decode cX3_worstReply 63 = .ok (.iconst 0, 1) := by decide +kernel
theorem dX3_worstReply_64 : decode cX3_worstReply 64 = .ok (.istore_n 3, 1) := by decide +kernel
theorem dX3_worstReply_65 : decode cX3_worstReply 65 = .ok (.iload_n 3, 1) := by decide +kernel
theorem dX3_worstReply_66 : decode cX3_worstReply 66 = .ok (.aload_n 0, 1) := by decide +kernel
theorem dX3_worstReply_67 : decode cX3_worstReply 67 = .ok (.getfield 21, 3) := by decide +kernel
theorem dX3_worstReply_70 : decode cX3_worstReply 70 = .ok (.getfield 56, 3) := by decide +kernel
theorem dX3_worstReply_73 : decode cX3_worstReply 73 = .ok (.if_icmp .ge 43, 3) := by decide +kernel
theorem dX3_worstReply_76 : decode cX3_worstReply 76 = .ok (.iload_n 1, 1) := by decide +kernel
theorem dX3_worstReply_77 : decode cX3_worstReply 77 = .ok (.aload_n 0, 1) := by decide +kernel
theorem dX3_worstReply_78 : decode cX3_worstReply 78 = .ok (.getfield 34, 3) := by decide +kernel
theorem dX3_worstReply_81 : decode cX3_worstReply 81 = .ok (.if_icmp .le 35, 3) := by decide +kernel
theorem dX3_worstReply_84 : decode cX3_worstReply 84 = .ok (.aload_n 0, 1) := by decide +kernel
theorem dX3_worstReply_85 : decode cX3_worstReply 85 = .ok (.getfield 12, 3) := by decide +kernel
theorem dX3_worstReply_88 : decode cX3_worstReply 88 = .ok (.aload_n 0, 1) := by decide +kernel
theorem dX3_worstReply_89 : decode cX3_worstReply 89 = .ok (.getfield 18, 3) := by decide +kernel
theorem dX3_worstReply_92 : decode cX3_worstReply 92 = .ok (.iload_n 2, 1) := by decide +kernel
theorem dX3_worstReply_93 : decode cX3_worstReply 93 = .ok (.iload_n 3, 1) := by decide +kernel
theorem dX3_worstReply_94 : decode cX3_worstReply 94 = .ok (.invokestatic 67, 3) := by decide +kernel
theorem dX3_worstReply_97 : decode cX3_worstReply 97 = .ok (.iload_n 1, 1) := by decide +kernel
theorem dX3_worstReply_98 : decode cX3_worstReply 98 = .ok (.aload_n 0, 1) := by decide +kernel
theorem dX3_worstReply_99 : decode cX3_worstReply 99 = .ok (.aload_n 0, 1) := by decide +kernel
theorem dX3_worstReply_100 : decode cX3_worstReply 100 = .ok (.getfield 18, 3) := by decide +kernel
theorem dX3_worstReply_103 : decode cX3_worstReply 103 = .ok (.invokevirtual 71, 3) := by decide +kernel
theorem dX3_worstReply_106 : decode cX3_worstReply 106 = .ok (.invokestatic 102, 3) := by decide +kernel
theorem dX3_worstReply_109 : decode cX3_worstReply 109 = .ok (.istore_n 1, 1) := by decide +kernel
theorem dX3_worstReply_110 : decode cX3_worstReply 110 = .ok (.iinc 3 1, 3) := by decide +kernel
theorem dX3_worstReply_113 : decode cX3_worstReply 113 = .ok (.goto (-48), 3) := by decide +kernel
theorem dX3_worstReply_116 : decode cX3_worstReply 116 = .ok (.iinc 2 1, 3) := by decide +kernel
theorem dX3_worstReply_119 : decode cX3_worstReply 119 = .ok (.goto (-95), 3) := by decide +kernel
theorem dX3_worstReply_122 : decode cX3_worstReply 122 = .ok (.iload_n 1, 1) := by decide +kernel
theorem dX3_worstReply_123 : decode cX3_worstReply 123 = .ok (.ireturn, 1) := by decide +kernel
theorem dX3_comesToMindTooLate_0 : decode cX3_comesToMindTooLate 0 = .ok (.aload_n 0, 1) := by decide +kernel
theorem dX3_comesToMindTooLate_1 : decode cX3_comesToMindTooLate 1 = .ok (.getfield 21, 3) := by decide +kernel
theorem dX3_comesToMindTooLate_4 : decode cX3_comesToMindTooLate 4 = .ok (.getfield 47, 3) := by decide +kernel
theorem dX3_comesToMindTooLate_7 : decode cX3_comesToMindTooLate 7 = .ok (.getfield 108, 3) := by decide +kernel
theorem dX3_comesToMindTooLate_10 : decode cX3_comesToMindTooLate 10 = .ok (.iload_n 1, 1) := by decide +kernel
theorem dX3_comesToMindTooLate_11 : decode cX3_comesToMindTooLate 11 = .ok (.iaload, 1) := by decide +kernel
theorem dX3_comesToMindTooLate_12 : decode cX3_comesToMindTooLate 12 = .ok (.bipush 6, 2) := by decide +kernel
theorem dX3_comesToMindTooLate_14 : decode cX3_comesToMindTooLate 14 = .ok (.if_icmp .lt 7, 3) := by decide +kernel
theorem dX3_comesToMindTooLate_17 : decode cX3_comesToMindTooLate 17 = .ok (.iconst 1, 1) := by decide +kernel
theorem dX3_comesToMindTooLate_18 : decode cX3_comesToMindTooLate 18 = .ok (.goto 4, 3) := by decide +kernel
theorem dX3_comesToMindTooLate_21 : decode cX3_comesToMindTooLate 21 = .ok (.iconst 0, 1) := by decide +kernel
theorem dX3_comesToMindTooLate_22 : decode cX3_comesToMindTooLate 22 = .ok (.ireturn, 1) := by decide +kernel
theorem dX4_init_0 : decode cX4_init 0 = .ok (.aload_n 0, 1) := by decide +kernel
theorem dX4_init_1 : decode cX4_init 1 = .ok (.invokespecial 3, 3) := by decide +kernel
theorem dX4_init_4 : decode cX4_init 4 = .ok (.aload_n 0, 1) := by decide +kernel
theorem dX4_init_5 : decode cX4_init 5 = .ok (.new 9, 3) := by decide +kernel
theorem dX4_init_8 : decode cX4_init 8 = .ok (.dup, 1) := by decide +kernel
theorem dX4_init_9 : decode cX4_init 9 = .ok (.invokespecial 11, 3) := by decide +kernel
theorem dX4_init_12 : decode cX4_init 12 = .ok (.putfield 12, 3) := by decide +kernel
theorem dX4_init_15 : decode cX4_init 15 = .ok (.aload_n 0, 1) := by decide +kernel
theorem dX4_init_16 : decode cX4_init 16 = .ok (.new 18, 3) := by decide +kernel
theorem dX4_init_19 : decode cX4_init 19 = .ok (.dup, 1) := by decide +kernel
theorem dX4_init_20 : decode cX4_init 20 = .ok (.invokespecial 20, 3) := by decide +kernel
theorem dX4_init_23 : decode cX4_init 23 = .ok (.putfield 21, 3) := by decide +kernel
theorem dX4_init_26 : decode cX4_init 26 = .ok (.aload_n 0, 1) := by decide +kernel
theorem dX4_init_27 : decode cX4_init 27 = .ok (.invokevirtual 25, 3) := by decide +kernel
theorem dX4_init_30 : decode cX4_init 30 = .ok (.return_, 1) := by decide +kernel
theorem dX4_clear_0 : decode cX4_clear 0 = .ok (.aload_n 0, 1) := by decide +kernel
theorem dX4_clear_1 : decode cX4_clear 1 = .ok (.bipush 8, 2) := by decide +kernel
theorem dX4_clear_3 : decode cX4_clear 3 = .ok (.putfield 28, 3) := by decide +kernel
theorem dX4_clear_6 : decode cX4_clear 6 = .ok (.aload_n 0, 1) := by decide +kernel
theorem dX4_clear_7 : decode cX4_clear 7 = .ok (.bipush 10, 2) := by decide +kernel
theorem dX4_clear_9 : decode cX4_clear 9 = .ok (.putfield 32, 3) := by decide +kernel
theorem dX4_clear_12 : decode cX4_clear 12 = .ok (.aload_n 0, 1) := by decide +kernel
theorem dX4_clear_13 : decode cX4_clear 13 = .ok (.iconst 4, 1) := by decide +kernel
theorem dX4_clear_14 : decode cX4_clear 14 = .ok (.putfield 35, 3) := by decide +kernel
theorem dX4_clear_17 : decode cX4_clear 17 = .ok (.aload_n 0, 1) := by decide +kernel
theorem dX4_clear_18 : decode cX4_clear 18 = .ok (.iconst 0, 1) := by decide +kernel
theorem dX4_clear_19 : decode cX4_clear 19 = .ok (.putfield 38, 3) := by decide +kernel
theorem dX4_clear_22 : decode cX4_clear 22 = .ok (.aload_n 0, 1) := by decide +kernel
theorem dX4_clear_23 : decode cX4_clear 23 = .ok (.iconst 1, 1) := by decide +kernel
theorem dX4_clear_24 : decode cX4_clear 24 = .ok (.putfield 41, 3) := by decide +kernel
theorem dX4_clear_27 : decode cX4_clear 27 = .ok (.aload_n 0, 1) := by decide +kernel
theorem dX4_clear_28 : decode cX4_clear 28 = .ok (.iconst 0, 1) := by decide +kernel
theorem dX4_clear_29 : decode cX4_clear 29 = .ok (.putfield 44, 3) := by decide +kernel
theorem dX4_clear_32 : decode cX4_clear 32 = .ok (.aload_n 0, 1) := by decide +kernel
theorem dX4_clear_33 : decode cX4_clear 33 = .ok (.iconst 0, 1) := by decide +kernel
theorem dX4_clear_34 : decode cX4_clear 34 = .ok (.putfield 47, 3) := by decide +kernel
theorem dX4_clear_37 : decode cX4_clear 37 = .ok (.aload_n 0, 1) := by decide +kernel
theorem dX4_clear_38 : decode cX4_clear 38 = .ok (.getfield 12, 3) := by decide +kernel
theorem dX4_clear_41 : decode cX4_clear 41 = .ok (.iconst 0, 1) := by decide +kernel
theorem dX4_clear_42 : decode cX4_clear 42 = .ok (.putfield 50, 3) := by decide +kernel
theorem dX4_clear_45 : decode cX4_clear 45 = .ok (.aload_n 0, 1) := by decide +kernel
theorem dX4_clear_46 : decode cX4_clear 46 = .ok (.getfield 21, 3) := by decide +kernel
theorem dX4_clear_49 : decode cX4_clear 49 = .ok (.iconst 0, 1) := by decide +kernel
theorem dX4_clear_50 : decode cX4_clear 50 = .ok (.putfield 53, 3) := by decide +kernel
theorem dX4_clear_53 : decode cX4_clear 53 = .ok (.return_, 1) := by decide +kernel
theorem dX4_copyFrom_0 : decode cX4_copyFrom 0 = .ok (.aload_n 0, 1) := by decide +kernel
theorem dX4_copyFrom_1 : decode cX4_copyFrom 1 = .ok (.aload_n 1, 1) := by decide +kernel
theorem dX4_copyFrom_2 : decode cX4_copyFrom 2 = .ok (.getfield 28, 3) := by decide +kernel
theorem dX4_copyFrom_5 : decode cX4_copyFrom 5 = .ok (.putfield 28, 3) := by decide +kernel
theorem dX4_copyFrom_8 : decode cX4_copyFrom 8 = .ok (.aload_n 0, 1) := by decide +kernel
theorem dX4_copyFrom_9 : decode cX4_copyFrom 9 = .ok (.aload_n 1, 1) := by decide +kernel
theorem dX4_copyFrom_10 : decode cX4_copyFrom 10 = .ok (.getfield 32, 3) := by decide +kernel
theorem dX4_copyFrom_13 : decode cX4_copyFrom 13 = .ok (.putfield 32, 3) := by decide +kernel
theorem dX4_copyFrom_16 : decode cX4_copyFrom 16 = .ok (.aload_n 0, 1) := by decide +kernel
theorem dX4_copyFrom_17 : decode cX4_copyFrom 17 = .ok (.aload_n 1, 1) := by decide +kernel
theorem dX4_copyFrom_18 : decode cX4_copyFrom 18 = .ok (.getfield 35, 3) := by decide +kernel
theorem dX4_copyFrom_21 : decode cX4_copyFrom 21 = .ok (.putfield 35, 3) := by decide +kernel
theorem dX4_copyFrom_24 : decode cX4_copyFrom 24 = .ok (.aload_n 0, 1) := by decide +kernel
theorem dX4_copyFrom_25 : decode cX4_copyFrom 25 = .ok (.aload_n 1, 1) := by decide +kernel
theorem dX4_copyFrom_26 : decode cX4_copyFrom 26 = .ok (.getfield 38, 3) := by decide +kernel
theorem dX4_copyFrom_29 : decode cX4_copyFrom 29 = .ok (.putfield 38, 3) := by decide +kernel
theorem dX4_copyFrom_32 : decode cX4_copyFrom 32 = .ok (.aload_n 0, 1) := by decide +kernel
theorem dX4_copyFrom_33 : decode cX4_copyFrom 33 = .ok (.aload_n 1, 1) := by decide +kernel
theorem dX4_copyFrom_34 : decode cX4_copyFrom 34 = .ok (.getfield 41, 3) := by decide +kernel
theorem dX4_copyFrom_37 : decode cX4_copyFrom 37 = .ok (.putfield 41, 3) := by decide +kernel
theorem dX4_copyFrom_40 : decode cX4_copyFrom 40 = .ok (.aload_n 0, 1) := by decide +kernel
theorem dX4_copyFrom_41 : decode cX4_copyFrom 41 = .ok (.aload_n 1, 1) := by decide +kernel
theorem dX4_copyFrom_42 : decode cX4_copyFrom 42 = .ok (.getfield 44, 3) := by decide +kernel
theorem dX4_copyFrom_45 : decode cX4_copyFrom 45 = .ok (.putfield 44, 3) := by decide +kernel
theorem dX4_copyFrom_48 : decode cX4_copyFrom 48 = .ok (.aload_n 0, 1) := by decide +kernel
theorem dX4_copyFrom_49 : decode cX4_copyFrom 49 = .ok (.aload_n 1, 1) := by decide +kernel
theorem dX4_copyFrom_50 : decode cX4_copyFrom 50 = .ok (.getfield 47, 3) := by decide +kernel
theorem dX4_copyFrom_53 : decode cX4_copyFrom 53 = .ok (.putfield 47, 3) := by decide +kernel
theorem dX4_copyFrom_56 : decode cX4_copyFrom 56 = .ok (.aload_n 0, 1) := by decide +kernel
theorem dX4_copyFrom_57 : decode cX4_copyFrom 57 = .ok (.getfield 12, 3) := by decide +kernel
theorem dX4_copyFrom_60 : decode cX4_copyFrom 60 = .ok (.aload_n 1, 1) := by decide +kernel
theorem dX4_copyFrom_61 : decode cX4_copyFrom 61 = .ok (.getfield 12, 3) := by decide +kernel
theorem dX4_copyFrom_64 : decode cX4_copyFrom 64 = .ok (.invokevirtual 54, 3) := by decide +kernel
theorem dX4_copyFrom_67 : decode cX4_copyFrom 67 = .ok (.aload_n 0, 1) := by decide +kernel
theorem dX4_copyFrom_68 : decode cX4_copyFrom 68 = .ok (.getfield 21, 3) := by decide +kernel
theorem dX4_copyFrom_71 : decode cX4_copyFrom 71 = .ok (.aload_n 1, 1) := by decide +kernel
theorem dX4_copyFrom_72 : decode cX4_copyFrom 72 = .ok (.getfield 21, 3) := by decide +kernel
theorem dX4_copyFrom_75 : decode cX4_copyFrom 75 = .ok (.invokevirtual 58, 3) := by decide +kernel
theorem dX4_copyFrom_78 : decode cX4_copyFrom 78 = .ok (.return_, 1) := by decide +kernel
theorem dX4_goBackTo_0 : decode cX4_goBackTo 0 = .ok (.aload_n 0, 1) := by decide +kernel
theorem dX4_goBackTo_1 : decode cX4_goBackTo 1 = .ok (.aload_n 1, 1) := by decide +kernel
theorem dX4_goBackTo_2 : decode cX4_goBackTo 2 = .ok (.getfield 38, 3) := by decide +kernel
theorem dX4_goBackTo_5 : decode cX4_goBackTo 5 = .ok (.putfield 38, 3) := by decide +kernel
theorem dX4_goBackTo_8 : decode cX4_goBackTo 8 = .ok (.aload_n 0, 1) := by decide +kernel
theorem dX4_goBackTo_9 : decode cX4_goBackTo 9 = .ok (.aload_n 1, 1) := by decide +kernel
theorem dX4_goBackTo_10 : decode cX4_goBackTo 10 = .ok (.getfield 41, 3) := by decide +kernel
theorem dX4_goBackTo_13 : decode cX4_goBackTo 13 = .ok (.putfield 41, 3) := by decide +kernel
theorem dX4_goBackTo_16 : decode cX4_goBackTo 16 = .ok (.aload_n 0, 1) := by decide +kernel
theorem dX4_goBackTo_17 : decode cX4_goBackTo 17 = .ok (.aload_n 1, 1) := by decide +kernel
theorem dX4_goBackTo_18 : decode cX4_goBackTo 18 = .ok (.getfield 44, 3) := by decide +kernel
theorem dX4_goBackTo_21 : decode cX4_goBackTo 21 = .ok (.putfield 44, 3) := by decide +kernel
theorem dX4_goBackTo_24 : decode cX4_goBackTo 24 = .ok (.aload_n 0, 1) := by decide +kernel
theorem dX4_goBackTo_25 : decode cX4_goBackTo 25 = .ok (.aload_n 1, 1) := by decide +kernel
theorem dX4_goBackTo_26 : decode cX4_goBackTo 26 = .ok (.getfield 47, 3) := by decide +kernel
theorem dX4_goBackTo_29 : decode cX4_goBackTo 29 = .ok (.putfield 47, 3) := by decide +kernel
theorem dX4_goBackTo_32 : decode cX4_goBackTo 32 = .ok (.aload_n 0, 1) := by decide +kernel
theorem dX4_goBackTo_33 : decode cX4_goBackTo 33 = .ok (.getfield 12, 3) := by decide +kernel
theorem dX4_goBackTo_36 : decode cX4_goBackTo 36 = .ok (.aload_n 1, 1) := by decide +kernel
theorem dX4_goBackTo_37 : decode cX4_goBackTo 37 = .ok (.getfield 12, 3) := by decide +kernel
theorem dX4_goBackTo_40 : decode cX4_goBackTo 40 = .ok (.invokevirtual 61, 3) := by decide +kernel
theorem dX4_goBackTo_43 : decode cX4_goBackTo 43 = .ok (.aload_n 0, 1) := by decide +kernel
theorem dX4_goBackTo_44 : decode cX4_goBackTo 44 = .ok (.getfield 21, 3) := by decide +kernel
theorem dX4_goBackTo_47 : decode cX4_goBackTo 47 = .ok (.aload_n 1, 1) := by decide +kernel
theorem dX4_goBackTo_48 : decode cX4_goBackTo 48 = .ok (.getfield 21, 3) := by decide +kernel
theorem dX4_goBackTo_51 : decode cX4_goBackTo 51 = .ok (.invokevirtual 64, 3) := by decide +kernel
theorem dX4_goBackTo_54 : decode cX4_goBackTo 54 = .ok (.return_, 1) := by decide +kernel
theorem dX4_goalCell_0 : decode cX4_goalCell 0 = .ok (.iload_n 1, 1) := by decide +kernel
theorem dX4_goalCell_1 : decode cX4_goalCell 1 = .ok (.iconst (-1), 1) := by decide +kernel
theorem dX4_goalCell_2 : decode cX4_goalCell 2 = .ok (.if_icmp .ne 12, 3) := by decide +kernel
theorem dX4_goalCell_5 : decode cX4_goalCell 5 = .ok (.aload_n 0, 1) := by decide +kernel
theorem dX4_goalCell_6 : decode cX4_goalCell 6 = .ok (.getfield 28, 3) := by decide +kernel
theorem dX4_goalCell_9 : decode cX4_goalCell 9 = .ok (.iconst 1, 1) := by decide +kernel
theorem dX4_goalCell_10 : decode cX4_goalCell 10 = .ok (.isub, 1) := by decide +kernel
theorem dX4_goalCell_11 : decode cX4_goalCell 11 = .ok (.goto 12, 3) := by decide +kernel
theorem dX4_goalCell_14 : decode cX4_goalCell 14 = .ok (.aload_n 0, 1) := by decide +kernel
theorem dX4_goalCell_15 : decode cX4_goalCell 15 = .ok (.getfield 12, 3) := by decide +kernel
theorem dX4_goalCell_18 : decode cX4_goalCell 18 = .ok (.getfield 67, 3) := by decide +kernel
theorem dX4_goalCell_21 : decode cX4_goalCell 21 = .ok (.iload_n 1, 1) := by decide +kernel
theorem dX4_goalCell_22 : decode cX4_goalCell 22 = .ok (.iaload, 1) := by decide +kernel
theorem dX4_goalCell_23 : decode cX4_goalCell 23 = .ok (.ireturn, 1) := by decide +kernel
theorem dX4_passHour_0 : decode cX4_passHour 0 = .ok (.aload_n 0, 1) := by decide +kernel
theorem dX4_passHour_1 : decode cX4_passHour 1 = .ok (.getfield 12, 3) := by decide +kernel
theorem dX4_passHour_4 : decode cX4_passHour 4 = .ok (.invokevirtual 71, 3) := by decide +kernel
theorem dX4_passHour_7 : decode cX4_passHour 7 = .ok (.istore_n 1, 1) := by decide +kernel
theorem dX4_passHour_8 : decode cX4_passHour 8 = .ok (.aload_n 0, 1) := by decide +kernel
theorem dX4_passHour_9 : decode cX4_passHour 9 = .ok (.iload_n 1, 1) := by decide +kernel
theorem dX4_passHour_10 : decode cX4_passHour 10 = .ok (.invokevirtual 75, 3) := by decide +kernel
theorem dX4_passHour_13 : decode cX4_passHour 13 = .ok (.istore_n 2, 1) := by decide +kernel
theorem dX4_passHour_14 : decode cX4_passHour 14 = .ok (.iload_n 2, 1) := by decide +kernel
theorem dX4_passHour_15 : decode cX4_passHour 15 = .ok (.aload_n 0, 1) := by decide +kernel
theorem dX4_passHour_16 : decode cX4_passHour 16 = .ok (.getfield 38, 3) := by decide +kernel
theorem dX4_passHour_19 : decode cX4_passHour 19 = .ok (.if_icmp .le 7, 3) := by decide +kernel
theorem dX4_passHour_22 : decode cX4_passHour 22 = .ok (.iconst 1, 1) := by decide +kernel
theorem dX4_passHour_23 : decode cX4_passHour 23 = .ok (.goto 4, 3) := by decide +kernel
theorem dX4_passHour_26 : decode cX4_passHour 26 = .ok (.iconst 0, 1) := by decide +kernel
theorem dX4_passHour_27 : decode cX4_passHour 27 = .ok (.istore_n 3, 1) := by decide +kernel
theorem dX4_passHour_28 : decode cX4_passHour 28 = .ok (.iload_n 2, 1) := by decide +kernel
theorem dX4_passHour_29 : decode cX4_passHour 29 = .ok (.aload_n 0, 1) := by decide +kernel
theorem dX4_passHour_30 : decode cX4_passHour 30 = .ok (.getfield 38, 3) := by decide +kernel
theorem dX4_passHour_33 : decode cX4_passHour 33 = .ok (.if_icmp .eq 15, 3) := by decide +kernel
theorem dX4_passHour_36 : decode cX4_passHour 36 = .ok (.aload_n 0, 1) := by decide +kernel
theorem dX4_passHour_37 : decode cX4_passHour 37 = .ok (.getfield 41, 3) := by decide +kernel
theorem dX4_passHour_40 : decode cX4_passHour 40 = .ok (.iload_n 3, 1) := by decide +kernel
theorem dX4_passHour_41 : decode cX4_passHour 41 = .ok (.if_icmp .eq 7, 3) := by decide +kernel
theorem dX4_passHour_44 : decode cX4_passHour 44 = .ok (.iconst 1, 1) := by decide +kernel
theorem dX4_passHour_45 : decode cX4_passHour 45 = .ok (.goto 4, 3) := by decide +kernel
theorem dX4_passHour_48 : decode cX4_passHour 48 = .ok (.iconst 0, 1) := by decide +kernel
theorem dX4_passHour_49 : decode cX4_passHour 49 = .ok (.istore 4, 2) := by decide +kernel
theorem dX4_passHour_51 : decode cX4_passHour 51 = .ok (.iload 4, 2) := by decide +kernel
theorem dX4_passHour_53 : decode cX4_passHour 53 = .ok (.ifCond .eq 21, 3) := by decide +kernel
theorem dX4_passHour_56 : decode cX4_passHour 56 = .ok (.aload_n 0, 1) := by decide +kernel
theorem dX4_passHour_57 : decode cX4_passHour 57 = .ok (.iload_n 3, 1) := by decide +kernel
theorem dX4_passHour_58 : decode cX4_passHour 58 = .ok (.putfield 41, 3) := by decide +kernel
theorem dX4_passHour_61 : decode cX4_passHour 61 = .ok (.aload_n 0, 1) := by decide +kernel
theorem dX4_passHour_62 : decode cX4_passHour 62 = .ok (.dup, 1) := by decide +kernel
theorem dX4_passHour_63 : decode cX4_passHour 63 = .ok (.getfield 47, 3) := by decide +kernel
theorem dX4_passHour_66 : decode cX4_passHour 66 = .ok (.iconst 1, 1) := by decide +kernel
theorem dX4_passHour_67 : decode cX4_passHour 67 = .ok (.iadd, 1) := by decide +kernel
theorem dX4_passHour_68 : decode cX4_passHour 68 = .ok (.putfield 47, 3) := by decide +kernel
theorem dX4_passHour_71 : decode cX4_passHour 71 = .ok (.goto 48, 3) := by decide +kernel
theorem dX4_passHour_74 : decode cX4_passHour 74 = .ok (.iload_n 2, 1) := by decide +kernel
theorem dX4_passHour_75 : decode cX4_passHour 75 = .ok (.aload_n 0, 1) := by decide +kernel
theorem dX4_passHour_76 : decode cX4_passHour 76 = .ok (.getfield 38, 3) := by decide +kernel
theorem dX4_passHour_79 : decode cX4_passHour 79 = .ok (.if_icmp .eq 40, 3) := by decide +kernel
theorem dX4_passHour_82 : decode cX4_passHour 82 = .ok (.aload_n 0, 1) := by decide +kernel
theorem dX4_passHour_83 : decode cX4_passHour 83 = .ok (.dup, 1) := by decide +kernel
theorem dX4_passHour_84 : decode cX4_passHour 84 = .ok (.getfield 38, 3) := by decide +kernel
theorem dX4_passHour_87 : decode cX4_passHour 87 = .ok (.aload_n 0, 1) := by decide +kernel
theorem dX4_passHour_88 : decode cX4_passHour 88 = .ok (.getfield 41, 3) := by decide +kernel
theorem dX4_passHour_91 : decode cX4_passHour 91 = .ok (.iconst 1, 1) := by decide +kernel
theorem dX4_passHour_92 : decode cX4_passHour 92 = .ok (.if_icmp .ne 7, 3) := by decide +kernel
theorem dX4_passHour_95 : decode cX4_passHour 95 = .ok (.iconst 1, 1) := by decide +kernel
theorem dX4_passHour_96 : decode cX4_passHour 96 = .ok (.goto 4, 3) := by decide +kernel
theorem dX4_passHour_99 : decode cX4_passHour 99 = .ok (.iconst (-1), 1) := by decide +kernel
theorem dX4_passHour_100 : decode cX4_passHour 100 = .ok (.iadd, 1) := by decide +kernel
theorem dX4_passHour_101 : decode cX4_passHour 101 = .ok (.putfield 38, 3) := by decide +kernel
theorem dX4_passHour_104 : decode cX4_passHour 104 = .ok (.aload_n 0, 1) := by decide +kernel
theorem dX4_passHour_105 : decode cX4_passHour 105 = .ok (.getfield 21, 3) := by decide +kernel
theorem dX4_passHour_108 : decode cX4_passHour 108 = .ok (.aload_n 0, 1) := by decide +kernel
theorem dX4_passHour_109 : decode cX4_passHour 109 = .ok (.getfield 38, 3) := by decide +kernel
theorem dX4_passHour_112 : decode cX4_passHour 112 = .ok (.aload_n 0, 1) := by decide +kernel
theorem dX4_passHour_113 : decode cX4_passHour 113 = .ok (.getfield 41, 3) := by decide +kernel
theorem dX4_passHour_116 : decode cX4_passHour 116 = .ok (.invokevirtual 79, 3) := by decide +kernel
theorem dX4_passHour_119 : decode cX4_passHour 119 = .ok (.iload_n 1, 1) := by decide +kernel
theorem dX4_passHour_120 : decode cX4_passHour 120 = .ok (.iconst (-1), 1) := by decide +kernel
theorem dX4_passHour_121 : decode cX4_passHour 121 = .ok (.if_icmp .eq 26, 3) := by decide +kernel
theorem dX4_passHour_124 : decode cX4_passHour 124 = .ok (.aload_n 0, 1) := by decide +kernel
theorem dX4_passHour_125 : decode cX4_passHour 125 = .ok (.getfield 12, 3) := by decide +kernel
theorem dX4_passHour_128 : decode cX4_passHour 128 = .ok (.aload_n 0, 1) := by decide +kernel
theorem dX4_passHour_129 : decode cX4_passHour 129 = .ok (.getfield 38, 3) := by decide +kernel
theorem dX4_passHour_132 : decode cX4_passHour 132 = .ok (.aload_n 0, 1) := by decide +kernel
theorem dX4_passHour_133 : decode cX4_passHour 133 = .ok (.getfield 32, 3) := by decide +kernel
theorem dX4_passHour_136 : decode cX4_passHour 136 = .ok (.aload_n 0, 1) := by decide +kernel
theorem dX4_passHour_137 : decode cX4_passHour 137 = .ok (.getfield 12, 3) := by decide +kernel
theorem dX4_passHour_140 : decode cX4_passHour 140 = .ok (.invokevirtual 83, 3) := by decide +kernel
theorem dX4_passHour_143 : decode cX4_passHour 143 = .ok (.isub, 1) := by decide +kernel
theorem dX4_passHour_144 : decode cX4_passHour 144 = .ok (.invokevirtual 86, 3) := by decide +kernel
theorem dX4_passHour_147 : decode cX4_passHour 147 = .ok (.aload_n 0, 1) := by decide +kernel
theorem dX4_passHour_148 : decode cX4_passHour 148 = .ok (.getfield 12, 3) := by decide +kernel
theorem dX4_passHour_151 : decode cX4_passHour 151 = .ok (.aload_n 0, 1) := by decide +kernel
theorem dX4_passHour_152 : decode cX4_passHour 152 = .ok (.getfield 38, 3) := by decide +kernel
theorem dX4_passHour_155 : decode cX4_passHour 155 = .ok (.aload_n 0, 1) := by decide +kernel
theorem dX4_passHour_156 : decode cX4_passHour 156 = .ok (.getfield 38, 3) := by decide +kernel
theorem dX4_passHour_159 : decode cX4_passHour 159 = .ok (.aload_n 0, 1) := by decide +kernel
theorem dX4_passHour_160 : decode cX4_passHour 160 = .ok (.getfield 28, 3) := by decide +kernel
theorem dX4_passHour_163 : decode cX4_passHour 163 = .ok (.iconst 1, 1) := by decide +kernel
theorem dX4_passHour_164 : decode cX4_passHour 164 = .ok (.isub, 1) := by decide +kernel
theorem dX4_passHour_165 : decode cX4_passHour 165 = .ok (.if_icmp .ne 7, 3) := by decide +kernel
theorem dX4_passHour_168 : decode cX4_passHour 168 = .ok (.iconst 1, 1) := by decide +kernel
theorem dX4_passHour_169 : decode cX4_passHour 169 = .ok (.goto 4, 3) := by decide +kernel
theorem dX4_passHour_172 : decode cX4_passHour 172 = .ok (.iconst 0, 1) := by decide +kernel
theorem dX4_passHour_173 : decode cX4_passHour 173 = .ok (.invokevirtual 89, 3) := by decide +kernel
theorem dX4_passHour_176 : decode cX4_passHour 176 = .ok (.aload_n 0, 1) := by decide +kernel
theorem dX4_passHour_177 : decode cX4_passHour 177 = .ok (.dup, 1) := by decide +kernel
theorem dX4_passHour_178 : decode cX4_passHour 178 = .ok (.getfield 44, 3) := by decide +kernel
theorem dX4_passHour_181 : decode cX4_passHour 181 = .ok (.iconst 1, 1) := by decide +kernel
theorem dX4_passHour_182 : decode cX4_passHour 182 = .ok (.iadd, 1) := by decide +kernel
theorem dX4_passHour_183 : decode cX4_passHour 183 = .ok (.putfield 44, 3) := by decide +kernel
theorem dX4_passHour_186 : decode cX4_passHour 186 = .ok (.iload 4, 2) := by decide +kernel
theorem dX4_passHour_188 : decode cX4_passHour 188 = .ok (.ireturn, 1) := by decide +kernel
theorem dX4_passHours_0 : decode cX4_passHours 0 = .ok (.aload_n 0, 1) := by decide +kernel
theorem dX4_passHours_1 : decode cX4_passHours 1 = .ok (.getfield 47, 3) := by decide +kernel
theorem dX4_passHours_4 : decode cX4_passHours 4 = .ok (.istore_n 2, 1) := by decide +kernel
theorem dX4_passHours_5 : decode cX4_passHours 5 = .ok (.iconst 0, 1) := by decide +kernel
theorem dX4_passHours_6 : decode cX4_passHours 6 = .ok (.istore_n 3, 1) := by decide +kernel
theorem dX4_passHours_7 : decode cX4_passHours 7 = .ok (.iload_n 3, 1) := by decide +kernel
theorem dX4_passHours_8 : decode cX4_passHours 8 = .ok (.iload_n 1, 1) := by decide +kernel
theorem dX4_passHours_9 : decode cX4_passHours 9 = .ok (.if_icmp .ge 14, 3) := by decide +kernel
theorem dX4_passHours_12 : decode cX4_passHours 12 = .ok (.aload_n 0, 1) := by decide +kernel
theorem dX4_passHours_13 : decode cX4_passHours 13 = .ok (.invokevirtual 93, 3) := by decide +kernel
theorem dX4_passHours_16 : decode cX4_passHours 16 = .ok (.pop, 1) := by decide +kernel
theorem dX4_passHours_17 : decode cX4_passHours 17 = .ok (.iinc 3 1, 3) := by decide +kernel
theorem dX4_passHours_20 : decode cX4_passHours 20 = .ok (.goto (-13), 3) := by decide +kernel
theorem dX4_passHours_23 : decode cX4_passHours 23 = .ok (.aload_n 0, 1) := by decide +kernel
theorem dX4_passHours_24 : decode cX4_passHours 24 = .ok (.getfield 47, 3) := by decide +kernel
theorem dX4_passHours_27 : decode cX4_passHours 27 = .ok (.iload_n 2, 1) := by decide +kernel
theorem dX4_passHours_28 : decode cX4_passHours 28 = .ok (.isub, 1) := by decide +kernel
theorem dX4_passHours_29 : decode cX4_passHours 29 = .ok (.ireturn, 1) := by decide +kernel
theorem dX4_hoursTillHome_0 : decode cX4_hoursTillHome 0 = .ok (.iconst 0, 1) := by decide +kernel
theorem dX4_hoursTillHome_1 : decode cX4_hoursTillHome 1 = .ok (.istore_n 3, 1) := by decide +kernel
theorem dX4_hoursTillHome_2 : decode cX4_hoursTillHome 2 = .ok (.iload_n 3, 1) := by decide +kernel
theorem dX4_hoursTillHome_3 : decode cX4_hoursTillHome 3 = .ok (.iload_n 2, 1) := by decide +kernel
theorem dX4_hoursTillHome_4 : decode cX4_hoursTillHome 4 = .ok (.if_icmp .gt 29, 3) := by decide +kernel
theorem dX4_hoursTillHome_7 : decode cX4_hoursTillHome 7 = .ok (.aload_n 0, 1) := by decide +kernel
theorem dX4_hoursTillHome_8 : decode cX4_hoursTillHome 8 = .ok (.getfield 12, 3) := by decide +kernel
theorem dX4_hoursTillHome_11 : decode cX4_hoursTillHome 11 = .ok (.getfield 97, 3) := by decide +kernel
theorem dX4_hoursTillHome_14 : decode cX4_hoursTillHome 14 = .ok (.iload_n 1, 1) := by decide +kernel
theorem dX4_hoursTillHome_15 : decode cX4_hoursTillHome 15 = .ok (.iaload, 1) := by decide +kernel
theorem dX4_hoursTillHome_16 : decode cX4_hoursTillHome 16 = .ok (.iconst 3, 1) := by decide +kernel
theorem dX4_hoursTillHome_17 : decode cX4_hoursTillHome 17 = .ok (.if_icmp .ne 5, 3) := by decide +kernel
theorem dX4_hoursTillHome_20 : decode cX4_hoursTillHome 20 = .ok (.iload_n 3, 1) := by decide +kernel
theorem dX4_hoursTillHome_21 : decode cX4_hoursTillHome 21 = .ok (.ireturn, 1) := by decide +kernel
theorem dX4_hoursTillHome_22 : decode cX4_hoursTillHome 22 = .ok (.aload_n 0, 1) := by decide +kernel
theorem dX4_hoursTillHome_23 : decode cX4_hoursTillHome 23 = .ok (.invokevirtual 93, 3) := by decide +kernel
theorem dX4_hoursTillHome_26 : decode cX4_hoursTillHome 26 = .ok (.pop, 1) := by decide +kernel
theorem dX4_hoursTillHome_27 : decode cX4_hoursTillHome 27 = .ok (.iinc 3 1, 3) := by decide +kernel
theorem dX4_hoursTillHome_30 : decode cX4_hoursTillHome 30 = .ok (.goto (-28), 3) := by decide +kernel
theorem dX4_hoursTillHome_33 : decode cX4_hoursTillHome 33 = .ok (.iconst (-1), 1) := by decide +kernel
theorem dX4_hoursTillHome_34 : decode cX4_hoursTillHome 34 = .ok (.ireturn, 1) := by decide +kernel
theorem dX4_hoursTillTurn_0 : decode cX4_hoursTillTurn 0 = .ok (.iconst 0, 1) := by decide +kernel
theorem dX4_hoursTillTurn_1 : decode cX4_hoursTillTurn 1 = .ok (.istore_n 2, 1) := by decide +kernel
theorem dX4_hoursTillTurn_2 : decode cX4_hoursTillTurn 2 = .ok (.iload_n 2, 1) := by decide +kernel
theorem dX4_hoursTillTurn_3 : decode cX4_hoursTillTurn 3 = .ok (.iload_n 1, 1) := by decide +kernel
theorem dX4_hoursTillTurn_4 : decode cX4_hoursTillTurn 4 = .ok (.if_icmp .ge 18, 3) := by decide +kernel
theorem dX4_hoursTillTurn_7 : decode cX4_hoursTillTurn 7 = .ok (.aload_n 0, 1) := by decide +kernel
theorem dX4_hoursTillTurn_8 : decode cX4_hoursTillTurn 8 = .ok (.invokevirtual 93, 3) := by decide +kernel
theorem dX4_hoursTillTurn_11 : decode cX4_hoursTillTurn 11 = .ok (.ifCond .eq 5, 3) := by decide +kernel
theorem dX4_hoursTillTurn_14 : decode cX4_hoursTillTurn 14 = .ok (.iload_n 2, 1) := by decide +kernel
theorem dX4_hoursTillTurn_15 : decode cX4_hoursTillTurn 15 = .ok (.ireturn, 1) := by decide +kernel
theorem dX4_hoursTillTurn_16 : decode cX4_hoursTillTurn 16 = .ok (.iinc 2 1, 3) := by decide +kernel
theorem dX4_hoursTillTurn_19 : decode cX4_hoursTillTurn 19 = .ok (.goto (-17), 3) := by decide +kernel
theorem dX4_hoursTillTurn_22 : decode cX4_hoursTillTurn 22 = .ok (.iconst (-1), 1) := by decide +kernel
theorem dX4_hoursTillTurn_23 : decode cX4_hoursTillTurn 23 = .ok (.ireturn, 1) := by decide +kernel
theorem dX4_hoursTillQuiet_0 : decode cX4_hoursTillQuiet 0 = .ok (.iconst 0, 1) := by decide +kernel
theorem dX4_hoursTillQuiet_1 : decode cX4_hoursTillQuiet 1 = .ok (.istore_n 2, 1) := by decide +kernel
theorem dX4_hoursTillQuiet_2 : decode cX4_hoursTillQuiet 2 = .ok (.iload_n 2, 1) := by decide +kernel
theorem dX4_hoursTillQuiet_3 : decode cX4_hoursTillQuiet 3 = .ok (.iload_n 1, 1) := by decide +kernel
theorem dX4_hoursTillQuiet_4 : decode cX4_hoursTillQuiet 4 = .ok (.if_icmp .gt 26, 3) := by decide +kernel
theorem dX4_hoursTillQuiet_7 : decode cX4_hoursTillQuiet 7 = .ok (.aload_n 0, 1) := by decide +kernel
theorem dX4_hoursTillQuiet_8 : decode cX4_hoursTillQuiet 8 = .ok (.getfield 12, 3) := by decide +kernel
theorem dX4_hoursTillQuiet_11 : decode cX4_hoursTillQuiet 11 = .ok (.invokevirtual 100, 3) := by decide +kernel
theorem dX4_hoursTillQuiet_14 : decode cX4_hoursTillQuiet 14 = .ok (.ifCond .eq 5, 3) := by decide +kernel
theorem dX4_hoursTillQuiet_17 : decode cX4_hoursTillQuiet 17 = .ok (.iload_n 2, 1) := by decide +kernel
theorem dX4_hoursTillQuiet_18 : decode cX4_hoursTillQuiet 18 = .ok (.ireturn, 1) := by decide +kernel
theorem dX4_hoursTillQuiet_19 : decode cX4_hoursTillQuiet 19 = .ok (.aload_n 0, 1) := by decide +kernel
theorem dX4_hoursTillQuiet_20 : decode cX4_hoursTillQuiet 20 = .ok (.invokevirtual 93, 3) := by decide +kernel
theorem dX4_hoursTillQuiet_23 : decode cX4_hoursTillQuiet 23 = .ok (.pop, 1) := by decide +kernel
theorem dX4_hoursTillQuiet_24 : decode cX4_hoursTillQuiet 24 = .ok (.iinc 2 1, 3) := by decide +kernel
theorem dX4_hoursTillQuiet_27 : decode cX4_hoursTillQuiet 27 = .ok (.goto (-25), 3) := by decide +kernel
theorem dX4_hoursTillQuiet_30 : decode cX4_hoursTillQuiet 30 = .ok (.iconst (-1), 1) := by decide +kernel
theorem dX4_hoursTillQuiet_31 : decode cX4_hoursTillQuiet 31 = .ok (.ireturn, 1) := by decide +kernel
theorem dX4_heaviestSet_0 : decode cX4_heaviestSet 0 = .ok (.aload_n 0, 1) := by decide +kernel
theorem dX4_heaviestSet_1 : decode cX4_heaviestSet 1 = .ok (.getfield 12, 3) := by decide +kernel
theorem dX4_heaviestSet_4 : decode cX4_heaviestSet 4 = .ok (.iconst 1, 1) := by decide +kernel
theorem dX4_heaviestSet_5 : decode cX4_heaviestSet 5 = .ok (.invokevirtual 103, 3) := by decide +kernel
theorem dX4_heaviestSet_8 : decode cX4_heaviestSet 8 = .ok (.istore_n 1, 1) := by decide +kernel
theorem dX4_heaviestSet_9 : decode cX4_heaviestSet 9 = .ok (.aload_n 0, 1) := by decide +kernel
theorem dX4_heaviestSet_10 : decode cX4_heaviestSet 10 = .ok (.getfield 32, 3) := by decide +kernel
theorem dX4_heaviestSet_13 : decode cX4_heaviestSet 13 = .ok (.aload_n 0, 1) := by decide +kernel
theorem dX4_heaviestSet_14 : decode cX4_heaviestSet 14 = .ok (.getfield 12, 3) := by decide +kernel
theorem dX4_heaviestSet_17 : decode cX4_heaviestSet 17 = .ok (.invokevirtual 83, 3) := by decide +kernel
theorem dX4_heaviestSet_20 : decode cX4_heaviestSet 20 = .ok (.isub, 1) := by decide +kernel
theorem dX4_heaviestSet_21 : decode cX4_heaviestSet 21 = .ok (.istore_n 2, 1) := by decide +kernel
theorem dX4_heaviestSet_22 : decode cX4_heaviestSet 22 = .ok (.iconst 0, 1) := by decide +kernel
theorem dX4_heaviestSet_23 : decode cX4_heaviestSet 23 = .ok (.istore_n 3, 1) := by decide +kernel
theorem dX4_heaviestSet_24 : decode cX4_heaviestSet 24 = .ok (.iconst 0, 1) := by decide +kernel
theorem dX4_heaviestSet_25 : decode cX4_heaviestSet 25 = .ok (.istore 4, 2) := by decide +kernel
theorem dX4_heaviestSet_27 : decode cX4_heaviestSet 27 = .ok (.iconst 1, 1) := by decide +kernel
theorem dX4_heaviestSet_28 : decode cX4_heaviestSet 28 = .ok (.istore 5, 2) := by decide +kernel
theorem dX4_heaviestSet_30 : decode cX4_heaviestSet 30 = .ok (.iload 5, 2) := by decide +kernel
theorem dX4_heaviestSet_32 : decode cX4_heaviestSet 32 = .ok (.iload_n 1, 1) := by decide +kernel
theorem dX4_heaviestSet_33 : decode cX4_heaviestSet 33 = .ok (.if_icmp .gt 83, 3) := by decide +kernel
theorem dX4_heaviestSet_36 : decode cX4_heaviestSet 36 = .ok (.iload 5, 2) := by decide +kernel
theorem dX4_heaviestSet_38 : decode cX4_heaviestSet 38 = .ok (.iload_n 1, 1) := by decide +kernel
theorem dX4_heaviestSet_39 : decode cX4_heaviestSet 39 = .ok (.iconst (-1), 1) := by decide +kernel
theorem dX4_heaviestSet_40 : decode cX4_heaviestSet 40 = .ok (.ixor, 1) := by decide +kernel
theorem dX4_heaviestSet_41 : decode cX4_heaviestSet 41 = .ok (.iand, 1) := by decide +kernel
theorem dX4_heaviestSet_42 : decode cX4_heaviestSet 42 = .ok (.ifCond .eq 6, 3) := by decide +kernel
theorem dX4_heaviestSet_45 : decode cX4_heaviestSet 45 = .ok (.goto 65, 3) := by decide +kernel
theorem dX4_heaviestSet_48 : decode cX4_heaviestSet 48 = .ok (.aload_n 0, 1) := by decide +kernel
theorem dX4_heaviestSet_49 : decode cX4_heaviestSet 49 = .ok (.getfield 12, 3) := by decide +kernel
theorem dX4_heaviestSet_52 : decode cX4_heaviestSet 52 = .ok (.iload 5, 2) := by decide +kernel
theorem dX4_heaviestSet_54 : decode cX4_heaviestSet 54 = .ok (.invokevirtual 106, 3) := by decide +kernel
theorem dX4_heaviestSet_57 : decode cX4_heaviestSet 57 = .ok (.istore 6, 2) := by decide +kernel
theorem dX4_heaviestSet_59 : decode cX4_heaviestSet 59 = .ok (.iload 6, 2) := by decide +kernel
theorem dX4_heaviestSet_61 : decode cX4_heaviestSet 61 = .ok (.iload 4, 2) := by decide +kernel
theorem dX4_heaviestSet_63 : decode cX4_heaviestSet 63 = .ok (.if_icmp .gt 22, 3) := by decide +kernel
theorem dX4_heaviestSet_66 : decode cX4_heaviestSet 66 = .ok (.iload 6, 2) := by decide +kernel
theorem dX4_heaviestSet_68 : decode cX4_heaviestSet 68 = .ok (.iload 4, 2) := by decide +kernel
theorem dX4_heaviestSet_70 : decode cX4_heaviestSet 70 = .ok (.if_icmp .ne 19, 3) := by decide +kernel
theorem dX4_heaviestSet_73 : decode cX4_heaviestSet 73 = .ok (.iload 5, 2) := by decide +kernel
theorem dX4_heaviestSet_75 : decode cX4_heaviestSet 75 = .ok (.invokestatic 109, 3) := by decide +kernel
theorem dX4_heaviestSet_78 : decode cX4_heaviestSet 78 = .ok (.iload_n 3, 1) := by decide +kernel
theorem dX4_heaviestSet_79 : decode cX4_heaviestSet 79 = .ok (.invokestatic 109, 3) := by decide +kernel
theorem dX4_heaviestSet_82 : decode cX4_heaviestSet 82 = .ok (.if_icmp .ge 7, 3) := by decide +kernel
theorem dX4_heaviestSet_85 : decode cX4_heaviestSet 85 = .ok (.iconst 1, 1) := by decide +kernel
theorem dX4_heaviestSet_86 : decode cX4_heaviestSet 86 = .ok (.goto 4, 3) := by decide +kernel
theorem dX4_heaviestSet_89 : decode cX4_heaviestSet 89 = .ok (.iconst 0, 1) := by decide +kernel
theorem dX4_heaviestSet_90 : decode cX4_heaviestSet 90 = .ok (.istore 7, 2) := by decide +kernel
theorem dX4_heaviestSet_92 : decode cX4_heaviestSet 92 = .ok (.iload 6, 2) := by decide +kernel
theorem dX4_heaviestSet_94 : decode cX4_heaviestSet 94 = .ok (.iload_n 2, 1) := by decide +kernel
theorem dX4_heaviestSet_95 : decode cX4_heaviestSet 95 = .ok (.if_icmp .gt 15, 3) := by decide +kernel
theorem dX4_heaviestSet_98 : decode cX4_heaviestSet 98 = .ok (.iload 7, 2) := by decide +kernel
theorem dX4_heaviestSet_100 : decode cX4_heaviestSet 100 = .ok (.ifCond .eq 10, 3) := by decide +kernel
theorem dX4_heaviestSet_103 : decode cX4_heaviestSet 103 = .ok (.iload 5, 2) := by decide +kernel
theorem dX4_heaviestSet_105 : decode cX4_heaviestSet 105 = .ok (.istore_n 3, 1) := by decide +kernel
theorem dX4_heaviestSet_106 : decode cX4_heaviestSet 106 = .ok (.iload 6, 2) := by decide +kernel
theorem dX4_heaviestSet_108 : decode cX4_heaviestSet 108 = .ok (.istore 4, 2) := by decide +kernel
theorem dX4_heaviestSet_110 : decode cX4_heaviestSet 110 = .ok (.iinc 5 1, 3) := by decide +kernel
theorem dX4_heaviestSet_113 : decode cX4_heaviestSet 113 = .ok (.goto (-83), 3) := by decide +kernel
theorem dX4_heaviestSet_116 : decode cX4_heaviestSet 116 = .ok (.iload_n 3, 1) := by decide +kernel
theorem dX4_heaviestSet_117 : decode cX4_heaviestSet 117 = .ok (.ireturn, 1) := by decide +kernel
theorem dX5_init_0 : decode cX5_init 0 = .ok (.aload_n 0, 1) := by decide +kernel
theorem dX5_init_1 : decode cX5_init 1 = .ok (.invokespecial 3, 3) := by decide +kernel
theorem dX5_init_4 : decode cX5_init 4 = .ok (.return_, 1) := by decide +kernel
theorem dX5_readInto_0 : decode cX5_readInto 0 = .ok (.aload_n 0, 1) := by decide +kernel
theorem dX5_readInto_1 : decode cX5_readInto 1 = .ok (.aload_n 2, 1) := by decide +kernel
theorem dX5_readInto_2 : decode cX5_readInto 2 = .ok (.putfield 9, 3) := by decide +kernel
theorem dX5_readInto_5 : decode cX5_readInto 5 = .ok (.aload_n 0, 1) := by decide +kernel
theorem dX5_readInto_6 : decode cX5_readInto 6 = .ok (.aload_n 1, 1) := by decide +kernel
theorem dX5_readInto_7 : decode cX5_readInto 7 = .ok (.putfield 15, 3) := by decide +kernel
theorem dX5_readInto_10 : decode cX5_readInto 10 = .ok (.aload_n 0, 1) := by decide +kernel
theorem dX5_readInto_11 : decode cX5_readInto 11 = .ok (.iconst 0, 1) := by decide +kernel
theorem dX5_readInto_12 : decode cX5_readInto 12 = .ok (.putfield 19, 3) := by decide +kernel
theorem dX5_readInto_15 : decode cX5_readInto 15 = .ok (.aload_n 0, 1) := by decide +kernel
theorem dX5_readInto_16 : decode cX5_readInto 16 = .ok (.getfield 15, 3) := by decide +kernel
theorem dX5_readInto_19 : decode cX5_readInto 19 = .ok (.invokevirtual 23, 3) := by decide +kernel
theorem dX5_readInto_22 : decode cX5_readInto 22 = .ok (.iconst 0, 1) := by decide +kernel
theorem dX5_readInto_23 : decode cX5_readInto 23 = .ok (.istore_n 3, 1) := by decide +kernel
theorem dX5_readInto_24 : decode cX5_readInto 24 = .ok (.iload_n 3, 1) := by decide +kernel
theorem dX5_readInto_25 : decode cX5_readInto 25 = .ok (.sipush 900, 3) := by decide +kernel
theorem dX5_readInto_28 : decode cX5_readInto 28 = .ok (.if_icmp .ge 23, 3) := by decide +kernel
theorem dX5_readInto_31 : decode cX5_readInto 31 = .ok (.aload_n 0, 1) := by decide +kernel
theorem dX5_readInto_32 : decode cX5_readInto 32 = .ok (.getfield 9, 3) := by decide +kernel
theorem dX5_readInto_35 : decode cX5_readInto 35 = .ok (.invokevirtual 30, 3) := by decide +kernel
theorem dX5_readInto_38 : decode cX5_readInto 38 = .ok (.ifCond .eq 13, 3) := by decide +kernel
theorem dX5_readInto_41 : decode cX5_readInto 41 = .ok (.aload_n 0, 1) := by decide +kernel
theorem dX5_readInto_42 : decode cX5_readInto 42 = .ok (.invokevirtual 34, 3) := by decide +kernel
theorem dX5_readInto_45 : decode cX5_readInto 45 = .ok (.iinc 3 1, 3) := by decide +kernel
theorem dX5_readInto_48 : decode cX5_readInto 48 = .ok (.goto (-24), 3) := by decide +kernel
theorem dX5_readInto_51 : decode cX5_readInto 51 = .ok (.return_, 1) := by decide +kernel
theorem dX5_readPart_0 : decode cX5_readPart 0 = .ok (.aload_n 0, 1) := by decide +kernel
theorem dX5_readPart_1 : decode cX5_readPart 1 = .ok (.getfield 9, 3) := by decide +kernel
theorem dX5_readPart_4 : decode cX5_readPart 4 = .ok (.invokevirtual 37, 3) := by decide +kernel
theorem dX5_readPart_7 : decode cX5_readPart 7 = .ok (.tableswitch 143 0 12 #[65, 72, 97, 122, 143, 143, 143, 129, 143, 143, 143, 143, 136], 65) := by decide +kernel
theorem dX5_readPart_72 : decode cX5_readPart 72 = .ok (.aload_n 0, 1) := by decide +kernel
theorem dX5_readPart_73 : decode cX5_readPart 73 = .ok (.invokevirtual 41, 3) := by decide +kernel
theorem dX5_readPart_76 : decode cX5_readPart 76 = .ok (.goto 82, 3) := by decide +kernel
theorem dX5_readPart_79 : decode cX5_readPart 79 = .ok (.aload_n 0, 1) := by decide +kernel
theorem dX5_readPart_80 : decode cX5_readPart 80 = .ok (.iconst 1, 1) := by decide +kernel
theorem dX5_readPart_81 : decode cX5_readPart 81 = .ok (.invokevirtual 44, 3) := by decide +kernel
theorem dX5_readPart_84 : decode cX5_readPart 84 = .ok (.aload_n 0, 1) := by decide +kernel
theorem dX5_readPart_85 : decode cX5_readPart 85 = .ok (.getfield 15, 3) := by decide +kernel
theorem dX5_readPart_88 : decode cX5_readPart 88 = .ok (.aload_n 0, 1) := by decide +kernel
theorem dX5_readPart_89 : decode cX5_readPart 89 = .ok (.getfield 9, 3) := by decide +kernel
theorem dX5_readPart_92 : decode cX5_readPart 92 = .ok (.iconst 1, 1) := by decide +kernel
theorem dX5_readPart_93 : decode cX5_readPart 93 = .ok (.bipush 40, 2) := by decide +kernel
theorem dX5_readPart_95 : decode cX5_readPart 95 = .ok (.invokevirtual 48, 3) := by decide +kernel
theorem dX5_readPart_98 : decode cX5_readPart 98 = .ok (.putfield 52, 3) := by decide +kernel
theorem dX5_readPart_101 : decode cX5_readPart 101 = .ok (.goto 57, 3) := by decide +kernel
theorem dX5_readPart_104 : decode cX5_readPart 104 = .ok (.aload_n 0, 1) := by decide +kernel
theorem dX5_readPart_105 : decode cX5_readPart 105 = .ok (.iconst 2, 1) := by decide +kernel
theorem dX5_readPart_106 : decode cX5_readPart 106 = .ok (.invokevirtual 44, 3) := by decide +kernel
theorem dX5_readPart_109 : decode cX5_readPart 109 = .ok (.aload_n 0, 1) := by decide +kernel
theorem dX5_readPart_110 : decode cX5_readPart 110 = .ok (.getfield 15, 3) := by decide +kernel
theorem dX5_readPart_113 : decode cX5_readPart 113 = .ok (.aload_n 0, 1) := by decide +kernel
theorem dX5_readPart_114 : decode cX5_readPart 114 = .ok (.getfield 9, 3) := by decide +kernel
theorem dX5_readPart_117 : decode cX5_readPart 117 = .ok (.iconst 0, 1) := by decide +kernel
theorem dX5_readPart_118 : decode cX5_readPart 118 = .ok (.bipush 16, 2) := by decide +kernel
theorem dX5_readPart_120 : decode cX5_readPart 120 = .ok (.invokevirtual 48, 3) := by decide +kernel
theorem dX5_readPart_123 : decode cX5_readPart 123 = .ok (.putfield 55, 3) := by decide +kernel
theorem dX5_readPart_126 : decode cX5_readPart 126 = .ok (.goto 32, 3) := by decide +kernel
theorem dX5_readPart_129 : decode cX5_readPart 129 = .ok (.aload_n 0, 1) := by decide +kernel
theorem dX5_readPart_130 : decode cX5_readPart 130 = .ok (.invokevirtual 58, 3) := by decide +kernel
theorem dX5_readPart_133 : decode cX5_readPart 133 = .ok (.goto 25, 3) := by decide +kernel
theorem dX5_readPart_136 : decode cX5_readPart 136 = .ok (.aload_n 0, 1) := by decide +kernel
theorem dX5_readPart_137 : decode cX5_readPart 137 = .ok (.invokevirtual 61, 3) := by decide +kernel
theorem dX5_readPart_140 : decode cX5_readPart 140 = .ok (.goto 18, 3) := by decide +kernel
theorem dX5_readPart_143 : decode cX5_readPart 143 = .ok (.aload_n 0, 1) := by decide +kernel
theorem dX5_readPart_144 : decode cX5_readPart 144 = .ok (.invokevirtual 64, 3) := by decide +kernel
theorem dX5_readPart_147 : decode cX5_readPart 147 = .ok (.goto 11, 3) := by decide +kernel
theorem dX5_readPart_150 : decode cX5_readPart 150 = .ok (.aload_n 0, 1) := by decide +kernel
theorem dX5_readPart_151 : decode cX5_readPart 151 = .ok (.getfield 9, 3) := by decide +kernel
theorem dX5_readPart_154 : decode cX5_readPart 154 = .ok (.iconst 2, 1) := by decide +kernel
theorem dX5_readPart_155 : decode cX5_readPart 155 = .ok (.invokevirtual 67, 3) := by decide +kernel
theorem dX5_readPart_158 : decode cX5_readPart 158 = .ok (.aload_n 0, 1) := by decide +kernel
theorem dX5_readPart_159 : decode cX5_readPart 159 = .ok (.getfield 9, 3) := by decide +kernel
theorem dX5_readPart_162 : decode cX5_readPart 162 = .ok (.invokevirtual 70, 3) := by decide +kernel
theorem dX5_readPart_165 : decode cX5_readPart 165 = .ok (.return_, 1) := by decide +kernel
theorem dX5_wasTold_0 : decode cX5_wasTold 0 = .ok (.aload_n 0, 1) := by decide +kernel
theorem dX5_wasTold_1 : decode cX5_wasTold 1 = .ok (.getfield 19, 3) := by decide +kernel
theorem dX5_wasTold_4 : decode cX5_wasTold 4 = .ok (.iload_n 1, 1) := by decide +kernel
theorem dX5_wasTold_5 : decode cX5_wasTold 5 = .ok (.ishr, 1) := by decide +kernel
theorem dX5_wasTold_6 : decode cX5_wasTold 6 = .ok (.iconst 1, 1) := by decide +kernel
theorem dX5_wasTold_7 : decode cX5_wasTold 7 = .ok (.iand, 1) := by decide +kernel
theorem dX5_wasTold_8 : decode cX5_wasTold 8 = .ok (.iconst 1, 1) := by decide +kernel
theorem dX5_wasTold_9 : decode cX5_wasTold 9 = .ok (.if_icmp .ne 7, 3) := by decide +kernel
theorem dX5_wasTold_12 : decode cX5_wasTold 12 = .ok (.iconst 1, 1) := by decide +kernel
theorem dX5_wasTold_13 : decode cX5_wasTold 13 = .ok (.goto 4, 3) := by decide +kernel
theorem dX5_wasTold_16 : decode cX5_wasTold 16 = .ok (.iconst 0, 1) := by decide +kernel
theorem dX5_wasTold_17 : decode cX5_wasTold 17 = .ok (.ireturn, 1) := by decide +kernel
theorem dX5_takeOnce_0 : decode cX5_takeOnce 0 = .ok (.aload_n 0, 1) := by decide +kernel
theorem dX5_takeOnce_1 : decode cX5_takeOnce 1 = .ok (.iload_n 1, 1) := by decide +kernel
theorem dX5_takeOnce_2 : decode cX5_takeOnce 2 = .ok (.invokevirtual 73, 3) := by decide +kernel
theorem dX5_takeOnce_5 : decode cX5_takeOnce 5 = .ok (.ifCond .eq 11, 3) := by decide +kernel
theorem dX5_takeOnce_8 : decode cX5_takeOnce 8 = .ok (.aload_n 0, 1) := by decide +kernel
theorem dX5_takeOnce_9 : decode cX5_takeOnce 9 = .ok (.getfield 9, 3) := by decide +kernel
theorem dX5_takeOnce_12 : decode cX5_takeOnce 12 = .ok (.iconst 5, 1) := by decide +kernel
theorem dX5_takeOnce_13 : decode cX5_takeOnce 13 = .ok (.invokevirtual 67, 3) := by decide +kernel
theorem dX5_takeOnce_16 : decode cX5_takeOnce 16 = .ok (.aload_n 0, 1) := by decide +kernel
theorem dX5_takeOnce_17 : decode cX5_takeOnce 17 = .ok (.dup, 1) := by decide +kernel
theorem dX5_takeOnce_18 : decode cX5_takeOnce 18 = .ok (.getfield 19, 3) := by decide +kernel
theorem dX5_takeOnce_21 : decode cX5_takeOnce 21 = .ok (.iconst 1, 1) := by decide +kernel
theorem dX5_takeOnce_22 : decode cX5_takeOnce 22 = .ok (.iload_n 1, 1) := by decide +kernel
theorem dX5_takeOnce_23 : decode cX5_takeOnce 23 = .ok (.ishl, 1) := by decide +kernel
theorem dX5_takeOnce_24 : decode cX5_takeOnce 24 = .ok (.ior, 1) := by decide +kernel
theorem dX5_takeOnce_25 : decode cX5_takeOnce 25 = .ok (.putfield 19, 3) := by decide +kernel
theorem dX5_takeOnce_28 : decode cX5_takeOnce 28 = .ok (.aload_n 0, 1) := by decide +kernel
theorem dX5_takeOnce_29 : decode cX5_takeOnce 29 = .ok (.getfield 9, 3) := by decide +kernel
theorem dX5_takeOnce_32 : decode cX5_takeOnce 32 = .ok (.invokevirtual 77, 3) := by decide +kernel
theorem dX5_takeOnce_35 : decode cX5_takeOnce 35 = .ok (.return_, 1) := by decide +kernel
theorem dX5_readLong_0 : decode cX5_readLong 0 = .ok (.aload_n 0, 1) := by decide +kernel
theorem dX5_readLong_1 : decode cX5_readLong 1 = .ok (.iconst 3, 1) := by decide +kernel
theorem dX5_readLong_2 : decode cX5_readLong 2 = .ok (.invokevirtual 73, 3) := by decide +kernel
theorem dX5_readLong_5 : decode cX5_readLong 5 = .ok (.ifCond .ne 29, 3) := by decide +kernel
theorem dX5_readLong_8 : decode cX5_readLong 8 = .ok (.aload_n 0, 1) := by decide +kernel
theorem dX5_readLong_9 : decode cX5_readLong 9 = .ok (.getfield 15, 3) := by decide +kernel
theorem dX5_readLong_12 : decode cX5_readLong 12 = .ok (.getfield 80, 3) := by decide +kernel
theorem dX5_readLong_15 : decode cX5_readLong 15 = .ok (.getfield 84, 3) := by decide +kernel
theorem dX5_readLong_18 : decode cX5_readLong 18 = .ok (.ifCond .gt 16, 3) := by decide +kernel
theorem dX5_readLong_21 : decode cX5_readLong 21 = .ok (.aload_n 0, 1) := by decide +kernel
theorem dX5_readLong_22 : decode cX5_readLong 22 = .ok (.getfield 15, 3) := by decide +kernel
theorem dX5_readLong_25 : decode cX5_readLong 25 = .ok (.getfield 89, 3) := by decide +kernel
theorem dX5_readLong_28 : decode cX5_readLong 28 = .ok (.getfield 93, 3) := by decide +kernel
theorem dX5_readLong_31 : decode cX5_readLong 31 = .ok (.ifCond .le 11, 3) := by decide +kernel
theorem dX5_readLong_34 : decode cX5_readLong 34 = .ok (.aload_n 0, 1) := by decide +kernel
theorem dX5_readLong_35 : decode cX5_readLong 35 = .ok (.getfield 9, 3) := by decide +kernel
theorem dX5_readLong_38 : decode cX5_readLong 38 = .ok (.iconst 5, 1) := by decide +kernel
theorem dX5_readLong_39 : decode cX5_readLong 39 = .ok (.invokevirtual 67, 3) := by decide +kernel
theorem dX5_readLong_42 : decode cX5_readLong 42 = .ok (.aload_n 0, 1) := by decide +kernel
theorem dX5_readLong_43 : decode cX5_readLong 43 = .ok (.iconst 0, 1) := by decide +kernel
theorem dX5_readLong_44 : decode cX5_readLong 44 = .ok (.invokevirtual 44, 3) := by decide +kernel
theorem dX5_readLong_47 : decode cX5_readLong 47 = .ok (.aload_n 0, 1) := by decide +kernel
theorem dX5_readLong_48 : decode cX5_readLong 48 = .ok (.getfield 15, 3) := by decide +kernel
theorem dX5_readLong_51 : decode cX5_readLong 51 = .ok (.aload_n 0, 1) := by decide +kernel
theorem dX5_readLong_52 : decode cX5_readLong 52 = .ok (.getfield 9, 3) := by decide +kernel
theorem dX5_readLong_55 : decode cX5_readLong 55 = .ok (.iconst 2, 1) := by decide +kernel
theorem dX5_readLong_56 : decode cX5_readLong 56 = .ok (.bipush 16, 2) := by decide +kernel
theorem dX5_readLong_58 : decode cX5_readLong 58 = .ok (.invokevirtual 48, 3) := by decide +kernel
theorem dX5_readLong_61 : decode cX5_readLong 61 = .ok (.putfield 96, 3) := by decide +kernel
theorem dX5_readLong_64 : decode cX5_readLong 64 = .ok (.return_, 1) := by decide +kernel
theorem dX5_readStream_0 : decode cX5_readStream 0 = .ok (.aload_n 0, 1) := by decide +kernel
theorem dX5_readStream_1 : decode cX5_readStream 1 = .ok (.iconst 3, 1) := by decide +kernel
theorem dX5_readStream_2 : decode cX5_readStream 2 = .ok (.invokevirtual 44, 3) := by decide +kernel
theorem dX5_readStream_5 : decode cX5_readStream 5 = .ok (.aload_n 0, 1) := by decide +kernel
theorem dX5_readStream_6 : decode cX5_readStream 6 = .ok (.getfield 15, 3) := by decide +kernel
theorem dX5_readStream_9 : decode cX5_readStream 9 = .ok (.aload_n 0, 1) := by decide +kernel
theorem dX5_readStream_10 : decode cX5_readStream 10 = .ok (.getfield 9, 3) := by decide +kernel
theorem dX5_readStream_13 : decode cX5_readStream 13 = .ok (.iconst 0, 1) := by decide +kernel
theorem dX5_readStream_14 : decode cX5_readStream 14 = .ok (.aload_n 0, 1) := by decide +kernel
theorem dX5_readStream_15 : decode cX5_readStream 15 = .ok (.getfield 15, 3) := by decide +kernel
theorem dX5_readStream_18 : decode cX5_readStream 18 = .ok (.getfield 96, 3) := by decide +kernel
theorem dX5_readStream_21 : decode cX5_readStream 21 = .ok (.iconst 1, 1) := by decide +kernel
theorem dX5_readStream_22 : decode cX5_readStream 22 = .ok (.isub, 1) := by decide +kernel
theorem dX5_readStream_23 : decode cX5_readStream 23 = .ok (.invokevirtual 48, 3) := by decide +kernel
theorem dX5_readStream_26 : decode cX5_readStream 26 = .ok (.putfield 99, 3) := by decide +kernel
theorem dX5_readStream_29 : decode cX5_readStream 29 = .ok (.aload_n 0, 1) := by decide +kernel
theorem dX5_readStream_30 : decode cX5_readStream 30 = .ok (.getfield 9, 3) := by decide +kernel
theorem dX5_readStream_33 : decode cX5_readStream 33 = .ok (.iconst 4, 1) := by decide +kernel
theorem dX5_readStream_34 : decode cX5_readStream 34 = .ok (.invokevirtual 102, 3) := by decide +kernel
theorem dX5_readStream_37 : decode cX5_readStream 37 = .ok (.ifCond .eq 18, 3) := by decide +kernel
theorem dX5_readStream_40 : decode cX5_readStream 40 = .ok (.aload_n 0, 1) := by decide +kernel
theorem dX5_readStream_41 : decode cX5_readStream 41 = .ok (.getfield 15, 3) := by decide +kernel
theorem dX5_readStream_44 : decode cX5_readStream 44 = .ok (.iconst 0, 1) := by decide +kernel
theorem dX5_readStream_45 : decode cX5_readStream 45 = .ok (.putfield 105, 3) := by decide +kernel
theorem dX5_readStream_48 : decode cX5_readStream 48 = .ok (.aload_n 0, 1) := by decide +kernel
theorem dX5_readStream_49 : decode cX5_readStream 49 = .ok (.getfield 9, 3) := by decide +kernel
theorem dX5_readStream_52 : decode cX5_readStream 52 = .ok (.invokevirtual 77, 3) := by decide +kernel
theorem dX5_readStream_55 : decode cX5_readStream 55 = .ok (.return_, 1) := by decide +kernel
theorem dX5_readThing_0 : decode cX5_readThing 0 = .ok (.aload_n 0, 1) := by decide +kernel
theorem dX5_readThing_1 : decode cX5_readThing 1 = .ok (.getfield 15, 3) := by decide +kernel
theorem dX5_readThing_4 : decode cX5_readThing 4 = .ok (.getfield 80, 3) := by decide +kernel
theorem dX5_readThing_7 : decode cX5_readThing 7 = .ok (.getfield 84, 3) := by decide +kernel
theorem dX5_readThing_10 : decode cX5_readThing 10 = .ok (.bipush 8, 2) := by decide +kernel
theorem dX5_readThing_12 : decode cX5_readThing 12 = .ok (.if_icmp .lt 12, 3) := by decide +kernel
theorem dX5_readThing_15 : decode cX5_readThing 15 = .ok (.aload_n 0, 1) := by decide +kernel
theorem dX5_readThing_16 : decode cX5_readThing 16 = .ok (.getfield 9, 3) := by decide +kernel
theorem dX5_readThing_19 : decode cX5_readThing 19 = .ok (.bipush 6, 2) := by decide +kernel
theorem dX5_readThing_21 : decode cX5_readThing 21 = .ok (.invokevirtual 67, 3) := by decide +kernel
theorem dX5_readThing_24 : decode cX5_readThing 24 = .ok (.aload_n 0, 1) := by decide +kernel
theorem dX5_readThing_25 : decode cX5_readThing 25 = .ok (.getfield 9, 3) := by decide +kernel
theorem dX5_readThing_28 : decode cX5_readThing 28 = .ok (.bipush 7, 2) := by decide +kernel
theorem dX5_readThing_30 : decode cX5_readThing 30 = .ok (.invokevirtual 108, 3) := by decide +kernel
theorem dX5_readThing_33 : decode cX5_readThing 33 = .ok (.aload_n 0, 1) := by decide +kernel
theorem dX5_readThing_34 : decode cX5_readThing 34 = .ok (.invokevirtual 111, 3) := by decide +kernel
theorem dX5_readThing_37 : decode cX5_readThing 37 = .ok (.lstore_n 1, 1) := by decide +kernel
theorem dX5_readThing_38 : decode cX5_readThing 38 = .ok (.aload_n 0, 1) := by decide +kernel
theorem dX5_readThing_39 : decode cX5_readThing 39 = .ok (.getfield 9, 3) := by decide +kernel
theorem dX5_readThing_42 : decode cX5_readThing 42 = .ok (.bipush 8, 2) := by decide +kernel
theorem dX5_readThing_44 : decode cX5_readThing 44 = .ok (.invokevirtual 108, 3) := by decide +kernel
theorem dX5_readThing_47 : decode cX5_readThing 47 = .ok (.aload_n 0, 1) := by decide +kernel
theorem dX5_readThing_48 : decode cX5_readThing 48 = .ok (.getfield 9, 3) := by decide +kernel
theorem dX5_readThing_51 : decode cX5_readThing 51 = .ok (.iconst 0, 1) := by decide +kernel
theorem dX5_readThing_52 : decode cX5_readThing 52 = .ok (.bipush 9, 2) := by decide +kernel
theorem dX5_readThing_54 : decode cX5_readThing 54 = .ok (.invokevirtual 48, 3) := by decide +kernel
theorem dX5_readThing_57 : decode cX5_readThing 57 = .ok (.istore_n 3, 1) := by decide +kernel
theorem dX5_readThing_58 : decode cX5_readThing 58 = .ok (.aload_n 0, 1) := by decide +kernel
theorem dX5_readThing_59 : decode cX5_readThing 59 = .ok (.getfield 9, 3) := by decide +kernel
theorem dX5_readThing_62 : decode cX5_readThing 62 = .ok (.bipush 9, 2) := by decide +kernel
theorem dX5_readThing_64 : decode cX5_readThing 64 = .ok (.invokevirtual 108, 3) := by decide +kernel
theorem dX5_readThing_67 : decode cX5_readThing 67 = .ok (.aload_n 0, 1) := by decide +kernel
theorem dX5_readThing_68 : decode cX5_readThing 68 = .ok (.getfield 9, 3) := by decide +kernel
theorem dX5_readThing_71 : decode cX5_readThing 71 = .ok (.iconst 1, 1) := by decide +kernel
theorem dX5_readThing_72 : decode cX5_readThing 72 = .ok (.bipush 24, 2) := by decide +kernel
theorem dX5_readThing_74 : decode cX5_readThing 74 = .ok (.invokevirtual 48, 3) := by decide +kernel
theorem dX5_readThing_77 : decode cX5_readThing 77 = .ok (.istore 4, 2) := by decide +kernel
theorem dX5_readThing_79 : decode cX5_readThing 79 = .ok (.aload_n 0, 1) := by decide +kernel
theorem dX5_readThing_80 : decode cX5_readThing 80 = .ok (.getfield 9, 3) := by decide +kernel
theorem dX5_readThing_83 : decode cX5_readThing 83 = .ok (.bipush 10, 2) := by decide +kernel
theorem dX5_readThing_85 : decode cX5_readThing 85 = .ok (.invokevirtual 108, 3) := by decide +kernel
theorem dX5_readThing_88 : decode cX5_readThing 88 = .ok (.aload_n 0, 1) := by decide +kernel
theorem dX5_readThing_89 : decode cX5_readThing 89 = .ok (.getfield 9, 3) := by decide +kernel
theorem dX5_readThing_92 : decode cX5_readThing 92 = .ok (.iconst 1, 1) := by decide +kernel
theorem dX5_readThing_93 : decode cX5_readThing 93 = .ok (.bipush 24, 2) := by decide +kernel
theorem dX5_readThing_95 : decode cX5_readThing 95 = .ok (.invokevirtual 48, 3) := by decide +kernel
theorem dX5_readThing_98 : decode cX5_readThing 98 = .ok (.istore 5, 2) := by decide +kernel
theorem dX5_readThing_100 : decode cX5_readThing 100 = .ok (.aload_n 0, 1) := by decide +kernel
theorem dX5_readThing_101 : decode cX5_readThing 101 = .ok (.getfield 15, 3) := by decide +kernel
theorem dX5_readThing_104 : decode cX5_readThing 104 = .ok (.getfield 80, 3) := by decide +kernel
theorem dX5_readThing_107 : decode cX5_readThing 107 = .ok (.lload_n 1, 1) := by decide +kernel
theorem dX5_readThing_108 : decode cX5_readThing 108 = .ok (.iload_n 3, 1) := by decide +kernel
theorem dX5_readThing_109 : decode cX5_readThing 109 = .ok (.iload 4, 2) := by decide +kernel
theorem dX5_readThing_111 : decode cX5_readThing 111 = .ok (.iload 5, 2) := by decide +kernel
theorem dX5_readThing_113 : decode cX5_readThing 113 = .ok (.invokevirtual 115, 3) := by decide +kernel
theorem dX5_readThing_116 : decode cX5_readThing 116 = .ok (.istore 6, 2) := by decide +kernel
theorem dX5_readThing_118 : decode cX5_readThing 118 = .ok (.aload_n 0, 1) := by decide +kernel
theorem dX5_readThing_119 : decode cX5_readThing 119 = .ok (.getfield 9, 3) := by decide +kernel
theorem dX5_readThing_122 : decode cX5_readThing 122 = .ok (.bipush 11, 2) := by decide +kernel
theorem dX5_readThing_124 : decode cX5_readThing 124 = .ok (.invokevirtual 102, 3) := by decide +kernel
theorem dX5_readThing_127 : decode cX5_readThing 127 = .ok (.ifCond .eq 45, 3) := by decide +kernel
theorem dX5_readThing_130 : decode cX5_readThing 130 = .ok (.iload 6, 2) := by decide +kernel
theorem dX5_readThing_132 : decode cX5_readThing 132 = .ok (.iconst (-1), 1) := by decide +kernel
theorem dX5_readThing_133 : decode cX5_readThing 133 = .ok (.if_icmp .eq 39, 3) := by decide +kernel
theorem dX5_readThing_136 : decode cX5_readThing 136 = .ok (.aload_n 0, 1) := by decide +kernel
theorem dX5_readThing_137 : decode cX5_readThing 137 = .ok (.getfield 9, 3) := by decide +kernel
theorem dX5_readThing_140 : decode cX5_readThing 140 = .ok (.invokevirtual 77, 3) := by decide +kernel
theorem dX5_readThing_143 : decode cX5_readThing 143 = .ok (.aload_n 0, 1) := by decide +kernel
theorem dX5_readThing_144 : decode cX5_readThing 144 = .ok (.getfield 15, 3) := by decide +kernel
theorem dX5_readThing_147 : decode cX5_readThing 147 = .ok (.getfield 80, 3) := by decide +kernel
theorem dX5_readThing_150 : decode cX5_readThing 150 = .ok (.iload 6, 2) := by decide +kernel
theorem dX5_readThing_152 : decode cX5_readThing 152 = .ok (.aload_n 0, 1) := by decide +kernel
theorem dX5_readThing_153 : decode cX5_readThing 153 = .ok (.getfield 9, 3) := by decide +kernel
theorem dX5_readThing_156 : decode cX5_readThing 156 = .ok (.iconst 0, 1) := by decide +kernel
theorem dX5_readThing_157 : decode cX5_readThing 157 = .ok (.aload_n 0, 1) := by decide +kernel
theorem dX5_readThing_158 : decode cX5_readThing 158 = .ok (.getfield 15, 3) := by decide +kernel
theorem dX5_readThing_161 : decode cX5_readThing 161 = .ok (.getfield 96, 3) := by decide +kernel
theorem dX5_readThing_164 : decode cX5_readThing 164 = .ok (.iconst 1, 1) := by decide +kernel
theorem dX5_readThing_165 : decode cX5_readThing 165 = .ok (.isub, 1) := by decide +kernel
theorem dX5_readThing_166 : decode cX5_readThing 166 = .ok (.invokevirtual 48, 3) := by decide +kernel
theorem dX5_readThing_169 : decode cX5_readThing 169 = .ok (.invokevirtual 119, 3) := by decide +kernel
theorem dX5_readThing_172 : decode cX5_readThing 172 = .ok (.return_, 1) := by decide +kernel
theorem dX5_readMill_0 : decode cX5_readMill 0 = .ok (.aload_n 0, 1) := by decide +kernel
theorem dX5_readMill_1 : decode cX5_readMill 1 = .ok (.getfield 15, 3) := by decide +kernel
theorem dX5_readMill_4 : decode cX5_readMill 4 = .ok (.getfield 89, 3) := by decide +kernel
theorem dX5_readMill_7 : decode cX5_readMill 7 = .ok (.getfield 93, 3) := by decide +kernel
theorem dX5_readMill_10 : decode cX5_readMill 10 = .ok (.iconst 4, 1) := by decide +kernel
theorem dX5_readMill_11 : decode cX5_readMill 11 = .ok (.if_icmp .lt 12, 3) := by decide +kernel
theorem dX5_readMill_14 : decode cX5_readMill 14 = .ok (.aload_n 0, 1) := by decide +kernel
theorem dX5_readMill_15 : decode cX5_readMill 15 = .ok (.getfield 9, 3) := by decide +kernel
theorem dX5_readMill_18 : decode cX5_readMill 18 = .ok (.bipush 6, 2) := by decide +kernel
theorem dX5_readMill_20 : decode cX5_readMill 20 = .ok (.invokevirtual 67, 3) := by decide +kernel
theorem dX5_readMill_23 : decode cX5_readMill 23 = .ok (.aload_n 0, 1) := by decide +kernel
theorem dX5_readMill_24 : decode cX5_readMill 24 = .ok (.getfield 9, 3) := by decide +kernel
theorem dX5_readMill_27 : decode cX5_readMill 27 = .ok (.bipush 12, 2) := by decide +kernel
theorem dX5_readMill_29 : decode cX5_readMill 29 = .ok (.invokevirtual 108, 3) := by decide +kernel
theorem dX5_readMill_32 : decode cX5_readMill 32 = .ok (.aload_n 0, 1) := by decide +kernel
theorem dX5_readMill_33 : decode cX5_readMill 33 = .ok (.invokevirtual 111, 3) := by decide +kernel
theorem dX5_readMill_36 : decode cX5_readMill 36 = .ok (.lstore_n 1, 1) := by decide +kernel
theorem dX5_readMill_37 : decode cX5_readMill 37 = .ok (.aload_n 0, 1) := by decide +kernel
theorem dX5_readMill_38 : decode cX5_readMill 38 = .ok (.getfield 9, 3) := by decide +kernel
theorem dX5_readMill_41 : decode cX5_readMill 41 = .ok (.bipush 13, 2) := by decide +kernel
theorem dX5_readMill_43 : decode cX5_readMill 43 = .ok (.invokevirtual 108, 3) := by decide +kernel
theorem dX5_readMill_46 : decode cX5_readMill 46 = .ok (.aload_n 0, 1) := by decide +kernel
theorem dX5_readMill_47 : decode cX5_readMill 47 = .ok (.getfield 9, 3) := by decide +kernel
theorem dX5_readMill_50 : decode cX5_readMill 50 = .ok (.iconst 0, 1) := by decide +kernel
theorem dX5_readMill_51 : decode cX5_readMill 51 = .ok (.aload_n 0, 1) := by decide +kernel
theorem dX5_readMill_52 : decode cX5_readMill 52 = .ok (.getfield 15, 3) := by decide +kernel
theorem dX5_readMill_55 : decode cX5_readMill 55 = .ok (.getfield 96, 3) := by decide +kernel
theorem dX5_readMill_58 : decode cX5_readMill 58 = .ok (.iconst 1, 1) := by decide +kernel
theorem dX5_readMill_59 : decode cX5_readMill 59 = .ok (.isub, 1) := by decide +kernel
theorem dX5_readMill_60 : decode cX5_readMill 60 = .ok (.invokevirtual 48, 3) := by decide +kernel
theorem dX5_readMill_63 : decode cX5_readMill 63 = .ok (.istore_n 3, 1) := by decide +kernel
theorem dX5_readMill_64 : decode cX5_readMill 64 = .ok (.aload_n 0, 1) := by decide +kernel
theorem dX5_readMill_65 : decode cX5_readMill 65 = .ok (.getfield 15, 3) := by decide +kernel
theorem dX5_readMill_68 : decode cX5_readMill 68 = .ok (.getfield 89, 3) := by decide +kernel
theorem dX5_readMill_71 : decode cX5_readMill 71 = .ok (.lload_n 1, 1) := by decide +kernel
theorem dX5_readMill_72 : decode cX5_readMill 72 = .ok (.iload_n 3, 1) := by decide +kernel
theorem dX5_readMill_73 : decode cX5_readMill 73 = .ok (.aload_n 0, 1) := by decide +kernel
theorem dX5_readMill_74 : decode cX5_readMill 74 = .ok (.invokevirtual 123, 3) := by decide +kernel
theorem dX5_readMill_77 : decode cX5_readMill 77 = .ok (.invokevirtual 126, 3) := by decide +kernel
theorem dX5_readMill_80 : decode cX5_readMill 80 = .ok (.pop, 1) := by decide +kernel
theorem dX5_readMill_81 : decode cX5_readMill 81 = .ok (.return_, 1) := by decide +kernel
theorem dX5_takeNewName_0 : decode cX5_takeNewName 0 = .ok (.aload_n 0, 1) := by decide +kernel
theorem dX5_takeNewName_1 : decode cX5_takeNewName 1 = .ok (.getfield 9, 3) := by decide +kernel
theorem dX5_takeNewName_4 : decode cX5_takeNewName 4 = .ok (.invokevirtual 130, 3) := by decide +kernel
theorem dX5_takeNewName_7 : decode cX5_takeNewName 7 = .ok (.lstore_n 1, 1) := by decide +kernel
theorem dX5_takeNewName_8 : decode cX5_takeNewName 8 = .ok (.aload_n 0, 1) := by decide +kernel
theorem dX5_takeNewName_9 : decode cX5_takeNewName 9 = .ok (.getfield 15, 3) := by decide +kernel
theorem dX5_takeNewName_12 : decode cX5_takeNewName 12 = .ok (.getfield 80, 3) := by decide +kernel
theorem dX5_takeNewName_15 : decode cX5_takeNewName 15 = .ok (.lload_n 1, 1) := by decide +kernel
theorem dX5_takeNewName_16 : decode cX5_takeNewName 16 = .ok (.invokevirtual 133, 3) := by decide +kernel
theorem dX5_takeNewName_19 : decode cX5_takeNewName 19 = .ok (.iconst (-1), 1) := by decide +kernel
theorem dX5_takeNewName_20 : decode cX5_takeNewName 20 = .ok (.if_icmp .ne 18, 3) := by decide +kernel
theorem dX5_takeNewName_23 : decode cX5_takeNewName 23 = .ok (.aload_n 0, 1) := by decide +kernel
theorem dX5_takeNewName_24 : decode cX5_takeNewName 24 = .ok (.getfield 15, 3) := by decide +kernel
theorem dX5_takeNewName_27 : decode cX5_takeNewName 27 = .ok (.getfield 89, 3) := by decide +kernel
theorem dX5_takeNewName_30 : decode cX5_takeNewName 30 = .ok (.lload_n 1, 1) := by decide +kernel
theorem dX5_takeNewName_31 : decode cX5_takeNewName 31 = .ok (.invokevirtual 137, 3) := by decide +kernel
theorem dX5_takeNewName_34 : decode cX5_takeNewName 34 = .ok (.iconst (-1), 1) := by decide +kernel
theorem dX5_takeNewName_35 : decode cX5_takeNewName 35 = .ok (.if_icmp .eq 11, 3) := by decide +kernel
theorem dX5_takeNewName_38 : decode cX5_takeNewName 38 = .ok (.aload_n 0, 1) := by decide +kernel
theorem dX5_takeNewName_39 : decode cX5_takeNewName 39 = .ok (.getfield 9, 3) := by decide +kernel
theorem dX5_takeNewName_42 : decode cX5_takeNewName 42 = .ok (.iconst 3, 1) := by decide +kernel
theorem dX5_takeNewName_43 : decode cX5_takeNewName 43 = .ok (.invokevirtual 67, 3) := by decide +kernel
theorem dX5_takeNewName_46 : decode cX5_takeNewName 46 = .ok (.aload_n 0, 1) := by decide +kernel
theorem dX5_takeNewName_47 : decode cX5_takeNewName 47 = .ok (.getfield 9, 3) := by decide +kernel
theorem dX5_takeNewName_50 : decode cX5_takeNewName 50 = .ok (.invokevirtual 77, 3) := by decide +kernel
theorem dX5_takeNewName_53 : decode cX5_takeNewName 53 = .ok (.lload_n 1, 1) := by decide +kernel
theorem dX5_takeNewName_54 : decode cX5_takeNewName 54 = .ok (.lreturn, 1) := by decide +kernel
theorem dX5_takeKind_0 : decode cX5_takeKind 0 = .ok (.aload_n 0, 1) := by decide +kernel
theorem dX5_takeKind_1 : decode cX5_takeKind 1 = .ok (.getfield 9, 3) := by decide +kernel
theorem dX5_takeKind_4 : decode cX5_takeKind 4 = .ok (.invokevirtual 37, 3) := by decide +kernel
theorem dX5_takeKind_7 : decode cX5_takeKind 7 = .ok (.istore_n 1, 1) := by decide +kernel
theorem dX5_takeKind_8 : decode cX5_takeKind 8 = .ok (.iload_n 1, 1) := by decide +kernel
theorem dX5_takeKind_9 : decode cX5_takeKind 9 = .ok (.iconst 4, 1) := by decide +kernel
theorem dX5_takeKind_10 : decode cX5_takeKind 10 = .ok (.if_icmp .eq 22, 3) := by decide +kernel
theorem dX5_takeKind_13 : decode cX5_takeKind 13 = .ok (.iload_n 1, 1) := by decide +kernel
theorem dX5_takeKind_14 : decode cX5_takeKind 14 = .ok (.iconst 5, 1) := by decide +kernel
theorem dX5_takeKind_15 : decode cX5_takeKind 15 = .ok (.if_icmp .eq 17, 3) := by decide +kernel
theorem dX5_takeKind_18 : decode cX5_takeKind 18 = .ok (.iload_n 1, 1) := by decide +kernel
theorem dX5_takeKind_19 : decode cX5_takeKind 19 = .ok (.bipush 6, 2) := by decide +kernel
theorem dX5_takeKind_21 : decode cX5_takeKind 21 = .ok (.if_icmp .eq 11, 3) := by decide +kernel
theorem dX5_takeKind_24 : decode cX5_takeKind 24 = .ok (.aload_n 0, 1) := by decide +kernel
theorem dX5_takeKind_25 : decode cX5_takeKind 25 = .ok (.getfield 9, 3) := by decide +kernel
theorem dX5_takeKind_28 : decode cX5_takeKind 28 = .ok (.iconst 2, 1) := by decide +kernel
theorem dX5_takeKind_29 : decode cX5_takeKind 29 = .ok (.invokevirtual 67, 3) := by decide +kernel
theorem dX5_takeKind_32 : decode cX5_takeKind 32 = .ok (.aload_n 0, 1) := by decide +kernel
theorem dX5_takeKind_33 : decode cX5_takeKind 33 = .ok (.getfield 9, 3) := by decide +kernel
theorem dX5_takeKind_36 : decode cX5_takeKind 36 = .ok (.invokevirtual 77, 3) := by decide +kernel
theorem dX5_takeKind_39 : decode cX5_takeKind 39 = .ok (.iload_n 1, 1) := by decide +kernel
theorem dX5_takeKind_40 : decode cX5_takeKind 40 = .ok (.bipush 6, 2) := by decide +kernel
theorem dX5_takeKind_42 : decode cX5_takeKind 42 = .ok (.if_icmp .ne 5, 3) := by decide +kernel
theorem dX5_takeKind_45 : decode cX5_takeKind 45 = .ok (.iconst 2, 1) := by decide +kernel
theorem dX5_takeKind_46 : decode cX5_takeKind 46 = .ok (.ireturn, 1) := by decide +kernel
theorem dX5_takeKind_47 : decode cX5_takeKind 47 = .ok (.iload_n 1, 1) := by decide +kernel
theorem dX5_takeKind_48 : decode cX5_takeKind 48 = .ok (.iconst 4, 1) := by decide +kernel
theorem dX5_takeKind_49 : decode cX5_takeKind 49 = .ok (.if_icmp .ne 7, 3) := by decide +kernel
theorem dX5_takeKind_52 : decode cX5_takeKind 52 = .ok (.iconst 0, 1) := by decide +kernel
theorem dX5_takeKind_53 : decode cX5_takeKind 53 = .ok (.goto 4, 3) := by decide +kernel
theorem dX5_takeKind_56 : decode cX5_takeKind 56 = .ok (.iconst 1, 1) := by decide +kernel
theorem dX5_takeKind_57 : decode cX5_takeKind 57 = .ok (.ireturn, 1) := by decide +kernel
theorem dX6_init_0 : decode cX6_init 0 = .ok (.aload_n 0, 1) := by decide +kernel
theorem dX6_init_1 : decode cX6_init 1 = .ok (.invokespecial 3, 3) := by decide +kernel
theorem dX6_init_4 : decode cX6_init 4 = .ok (.aload_n 0, 1) := by decide +kernel
theorem dX6_init_5 : decode cX6_init 5 = .ok (.bipush 60, 2) := by decide +kernel
theorem dX6_init_7 : decode cX6_init 7 = .ok (.newarray .int, 2) := by decide +kernel
theorem dX6_init_9 : decode cX6_init 9 = .ok (.putfield 11, 3) := by decide +kernel
theorem dX6_init_12 : decode cX6_init 12 = .ok (.return_, 1) := by decide +kernel
theorem dX6_liveThrough_0 : decode cX6_liveThrough 0 = .ok (.aload_n 0, 1) := by decide +kernel
theorem dX6_liveThrough_1 : decode cX6_liveThrough 1 = .ok (.aload_n 1, 1) := by decide +kernel
theorem dX6_liveThrough_2 : decode cX6_liveThrough 2 = .ok (.putfield 17, 3) := by decide +kernel
theorem dX6_liveThrough_5 : decode cX6_liveThrough 5 = .ok (.aload_n 0, 1) := by decide +kernel
theorem dX6_liveThrough_6 : decode cX6_liveThrough 6 = .ok (.aload_n 2, 1) := by decide +kernel
theorem dX6_liveThrough_7 : decode cX6_liveThrough 7 = .ok (.putfield 21, 3) := by decide +kernel
theorem dX6_liveThrough_10 : decode cX6_liveThrough 10 = .ok (.aload_n 0, 1) := by decide +kernel
theorem dX6_liveThrough_11 : decode cX6_liveThrough 11 = .ok (.iload_n 3, 1) := by decide +kernel
theorem dX6_liveThrough_12 : decode cX6_liveThrough 12 = .ok (.putfield 25, 3) := by decide +kernel
theorem dX6_liveThrough_15 : decode cX6_liveThrough 15 = .ok (.aload_n 0, 1) := by decide +kernel
theorem dX6_liveThrough_16 : decode cX6_liveThrough 16 = .ok (.iconst 0, 1) := by decide +kernel
theorem dX6_liveThrough_17 : decode cX6_liveThrough 17 = .ok (.putfield 29, 3) := by decide +kernel
theorem dX6_liveThrough_20 : decode cX6_liveThrough 20 = .ok (.aload_n 0, 1) := by decide +kernel
theorem dX6_liveThrough_21 : decode cX6_liveThrough 21 = .ok (.iconst 0, 1) := by decide +kernel
theorem dX6_liveThrough_22 : decode cX6_liveThrough 22 = .ok (.putfield 32, 3) := by decide +kernel
theorem dX6_liveThrough_25 : decode cX6_liveThrough 25 = .ok (.aload_n 0, 1) := by decide +kernel
theorem dX6_liveThrough_26 : decode cX6_liveThrough 26 = .ok (.iconst 0, 1) := by decide +kernel
theorem dX6_liveThrough_27 : decode cX6_liveThrough 27 = .ok (.putfield 35, 3) := by decide +kernel
theorem dX6_liveThrough_30 : decode cX6_liveThrough 30 = .ok (.iconst 0, 1) := by decide +kernel
theorem dX6_liveThrough_31 : decode cX6_liveThrough 31 = .ok (.istore 4, 2) := by decide +kernel
theorem dX6_liveThrough_33 : decode cX6_liveThrough 33 = .ok (.iconst 0, 1) := by decide +kernel
theorem dX6_liveThrough_34 : decode cX6_liveThrough 34 = .ok (.istore 5, 2) := by decide +kernel
theorem dX6_liveThrough_36 : decode cX6_liveThrough 36 = .ok (.iload 5, 2) := by decide +kernel
theorem dX6_liveThrough_38 : decode cX6_liveThrough 38 = .ok (.ldc 38, 2) := by decide +kernel
theorem dX6_liveThrough_40 : decode cX6_liveThrough 40 = .ok (.if_icmp .ge 58, 3) := by decide +kernel
theorem dX6_liveThrough_43 : decode cX6_liveThrough 43 = .ok (.iload 4, 2) := by decide +kernel
theorem dX6_liveThrough_45 : decode cX6_liveThrough 45 = .ok (.ifCond .lt 53, 3) := by decide +kernel
theorem dX6_liveThrough_48 : decode cX6_liveThrough 48 = .ok (.iload 4, 2) := by decide +kernel
theorem dX6_liveThrough_50 : decode cX6_liveThrough 50 = .ok (.aload_n 0, 1) := by decide +kernel
theorem dX6_liveThrough_51 : decode cX6_liveThrough 51 = .ok (.getfield 21, 3) := by decide +kernel
theorem dX6_liveThrough_54 : decode cX6_liveThrough 54 = .ok (.getfield 39, 3) := by decide +kernel
theorem dX6_liveThrough_57 : decode cX6_liveThrough 57 = .ok (.if_icmp .ge 41, 3) := by decide +kernel
theorem dX6_liveThrough_60 : decode cX6_liveThrough 60 = .ok (.aload_n 0, 1) := by decide +kernel
theorem dX6_liveThrough_61 : decode cX6_liveThrough 61 = .ok (.getfield 21, 3) := by decide +kernel
theorem dX6_liveThrough_64 : decode cX6_liveThrough 64 = .ok (.getfield 42, 3) := by decide +kernel
theorem dX6_liveThrough_67 : decode cX6_liveThrough 67 = .ok (.iload 4, 2) := by decide +kernel
theorem dX6_liveThrough_69 : decode cX6_liveThrough 69 = .ok (.iaload, 1) := by decide +kernel
theorem dX6_liveThrough_70 : decode cX6_liveThrough 70 = .ok (.bipush 10, 2) := by decide +kernel
theorem dX6_liveThrough_72 : decode cX6_liveThrough 72 = .ok (.if_icmp .ne 12, 3) := by decide +kernel
theorem dX6_liveThrough_75 : decode cX6_liveThrough 75 = .ok (.aload_n 0, 1) := by decide +kernel
theorem dX6_liveThrough_76 : decode cX6_liveThrough 76 = .ok (.iload 4, 2) := by decide +kernel
theorem dX6_liveThrough_78 : decode cX6_liveThrough 78 = .ok (.invokevirtual 45, 3) := by decide +kernel
theorem dX6_liveThrough_81 : decode cX6_liveThrough 81 = .ok (.goto 9, 3) := by decide +kernel
theorem dX6_liveThrough_84 : decode cX6_liveThrough 84 = .ok (.aload_n 0, 1) := by decide +kernel
theorem dX6_liveThrough_85 : decode cX6_liveThrough 85 = .ok (.iload 4, 2) := by decide +kernel
theorem dX6_liveThrough_87 : decode cX6_liveThrough 87 = .ok (.invokevirtual 49, 3) := by decide +kernel
theorem dX6_liveThrough_90 : decode cX6_liveThrough 90 = .ok (.istore 4, 2) := by decide +kernel
theorem dX6_liveThrough_92 : decode cX6_liveThrough 92 = .ok (.iinc 5 1, 3) := by decide +kernel
theorem dX6_liveThrough_95 : decode cX6_liveThrough 95 = .ok (.goto (-59), 3) := by decide +kernel
theorem dX6_liveThrough_98 : decode cX6_liveThrough 98 = .ok (.return_, 1) := by decide +kernel
theorem dX6_behindEnd_0 : decode cX6_behindEnd 0 = .ok (.aload_n 0, 1) := by decide +kernel
theorem dX6_behindEnd_1 : decode cX6_behindEnd 1 = .ok (.getfield 21, 3) := by decide +kernel
theorem dX6_behindEnd_4 : decode cX6_behindEnd 4 = .ok (.getfield 52, 3) := by decide +kernel
theorem dX6_behindEnd_7 : decode cX6_behindEnd 7 = .ok (.iload_n 1, 1) := by decide +kernel
theorem dX6_behindEnd_8 : decode cX6_behindEnd 8 = .ok (.iaload, 1) := by decide +kernel
theorem dX6_behindEnd_9 : decode cX6_behindEnd 9 = .ok (.istore_n 2, 1) := by decide +kernel
theorem dX6_behindEnd_10 : decode cX6_behindEnd 10 = .ok (.aload_n 0, 1) := by decide +kernel
theorem dX6_behindEnd_11 : decode cX6_behindEnd 11 = .ok (.getfield 21, 3) := by decide +kernel
theorem dX6_behindEnd_14 : decode cX6_behindEnd 14 = .ok (.getfield 42, 3) := by decide +kernel
theorem dX6_behindEnd_17 : decode cX6_behindEnd 17 = .ok (.iload_n 2, 1) := by decide +kernel
theorem dX6_behindEnd_18 : decode cX6_behindEnd 18 = .ok (.iaload, 1) := by decide +kernel
theorem dX6_behindEnd_19 : decode cX6_behindEnd 19 = .ok (.bipush 8, 2) := by decide +kernel
theorem dX6_behindEnd_21 : decode cX6_behindEnd 21 = .ok (.if_icmp .eq 7, 3) := by decide +kernel
theorem dX6_behindEnd_24 : decode cX6_behindEnd 24 = .ok (.iload_n 1, 1) := by decide +kernel
theorem dX6_behindEnd_25 : decode cX6_behindEnd 25 = .ok (.iconst 1, 1) := by decide +kernel
theorem dX6_behindEnd_26 : decode cX6_behindEnd 26 = .ok (.iadd, 1) := by decide +kernel
theorem dX6_behindEnd_27 : decode cX6_behindEnd 27 = .ok (.ireturn, 1) := by decide +kernel
theorem dX6_behindEnd_28 : decode cX6_behindEnd 28 = .ok (.aload_n 0, 1) := by decide +kernel
theorem dX6_behindEnd_29 : decode cX6_behindEnd 29 = .ok (.getfield 11, 3) := by decide +kernel
theorem dX6_behindEnd_32 : decode cX6_behindEnd 32 = .ok (.iload_n 2, 1) := by decide +kernel
theorem dX6_behindEnd_33 : decode cX6_behindEnd 33 = .ok (.dup2, 1) := by decide +kernel
theorem dX6_behindEnd_34 : decode cX6_behindEnd 34 = .ok (.iaload, 1) := by decide +kernel
theorem dX6_behindEnd_35 : decode cX6_behindEnd 35 = .ok (.iconst 1, 1) := by decide +kernel
theorem dX6_behindEnd_36 : decode cX6_behindEnd 36 = .ok (.isub, 1) := by decide +kernel
theorem dX6_behindEnd_37 : decode cX6_behindEnd 37 = .ok (.iastore, 1) := by decide +kernel
theorem dX6_behindEnd_38 : decode cX6_behindEnd 38 = .ok (.aload_n 0, 1) := by decide +kernel
theorem dX6_behindEnd_39 : decode cX6_behindEnd 39 = .ok (.getfield 11, 3) := by decide +kernel
theorem dX6_behindEnd_42 : decode cX6_behindEnd 42 = .ok (.iload_n 2, 1) := by decide +kernel
theorem dX6_behindEnd_43 : decode cX6_behindEnd 43 = .ok (.iaload, 1) := by decide +kernel
theorem dX6_behindEnd_44 : decode cX6_behindEnd 44 = .ok (.ifCond .le 9, 3) := by decide +kernel
theorem dX6_behindEnd_47 : decode cX6_behindEnd 47 = .ok (.iload_n 2, 1) := by decide +kernel
theorem dX6_behindEnd_48 : decode cX6_behindEnd 48 = .ok (.iconst 1, 1) := by decide +kernel
theorem dX6_behindEnd_49 : decode cX6_behindEnd 49 = .ok (.iadd, 1) := by decide +kernel
theorem dX6_behindEnd_50 : decode cX6_behindEnd 50 = .ok (.goto 6, 3) := by decide +kernel
theorem dX6_behindEnd_53 : decode cX6_behindEnd 53 = .ok (.iload_n 1, 1) := by decide +kernel
theorem dX6_behindEnd_54 : decode cX6_behindEnd 54 = .ok (.iconst 1, 1) := by decide +kernel
theorem dX6_behindEnd_55 : decode cX6_behindEnd 55 = .ok (.iadd, 1) := by decide +kernel
theorem dX6_behindEnd_56 : decode cX6_behindEnd 56 = .ok (.ireturn, 1) := by decide +kernel
theorem dX6_behindStep_0 : decode cX6_behindStep 0 = .ok (.aload_n 0, 1) := by decide +kernel
theorem dX6_behindStep_1 : decode cX6_behindStep 1 = .ok (.getfield 29, 3) := by decide +kernel
theorem dX6_behindStep_4 : decode cX6_behindStep 4 = .ok (.sipush 300, 3) := by decide +kernel
theorem dX6_behindStep_7 : decode cX6_behindStep 7 = .ok (.if_icmp .lt 10, 3) := by decide +kernel
theorem dX6_behindStep_10 : decode cX6_behindStep 10 = .ok (.aload_n 0, 1) := by decide +kernel
theorem dX6_behindStep_11 : decode cX6_behindStep 11 = .ok (.iconst 1, 1) := by decide +kernel
theorem dX6_behindStep_12 : decode cX6_behindStep 12 = .ok (.putfield 35, 3) := by decide +kernel
theorem dX6_behindStep_15 : decode cX6_behindStep 15 = .ok (.iconst (-1), 1) := by decide +kernel
theorem dX6_behindStep_16 : decode cX6_behindStep 16 = .ok (.ireturn, 1) := by decide +kernel
theorem dX6_behindStep_17 : decode cX6_behindStep 17 = .ok (.aload_n 0, 1) := by decide +kernel
theorem dX6_behindStep_18 : decode cX6_behindStep 18 = .ok (.dup, 1) := by decide +kernel
theorem dX6_behindStep_19 : decode cX6_behindStep 19 = .ok (.getfield 29, 3) := by decide +kernel
theorem dX6_behindStep_22 : decode cX6_behindStep 22 = .ok (.iconst 1, 1) := by decide +kernel
theorem dX6_behindStep_23 : decode cX6_behindStep 23 = .ok (.iadd, 1) := by decide +kernel
theorem dX6_behindStep_24 : decode cX6_behindStep 24 = .ok (.putfield 29, 3) := by decide +kernel
theorem dX6_behindStep_27 : decode cX6_behindStep 27 = .ok (.aload_n 0, 1) := by decide +kernel
theorem dX6_behindStep_28 : decode cX6_behindStep 28 = .ok (.getfield 21, 3) := by decide +kernel
theorem dX6_behindStep_31 : decode cX6_behindStep 31 = .ok (.getfield 55, 3) := by decide +kernel
theorem dX6_behindStep_34 : decode cX6_behindStep 34 = .ok (.iload_n 1, 1) := by decide +kernel
theorem dX6_behindStep_35 : decode cX6_behindStep 35 = .ok (.iaload, 1) := by decide +kernel
theorem dX6_behindStep_36 : decode cX6_behindStep 36 = .ok (.istore_n 2, 1) := by decide +kernel
theorem dX6_behindStep_37 : decode cX6_behindStep 37 = .ok (.aload_n 0, 1) := by decide +kernel
theorem dX6_behindStep_38 : decode cX6_behindStep 38 = .ok (.getfield 21, 3) := by decide +kernel
theorem dX6_behindStep_41 : decode cX6_behindStep 41 = .ok (.getfield 42, 3) := by decide +kernel
theorem dX6_behindStep_44 : decode cX6_behindStep 44 = .ok (.iload_n 1, 1) := by decide +kernel
theorem dX6_behindStep_45 : decode cX6_behindStep 45 = .ok (.iaload, 1) := by decide +kernel
theorem dX6_behindStep_46 : decode cX6_behindStep 46 = .ok (.tableswitch 106 0 9 #[54, 62, 79, 87, 106, 106, 106, 106, 94, 104], 54) := by decide +kernel
theorem dX6_behindStep_100 : decode cX6_behindStep 100 = .ok (.aload_n 0, 1) := by decide +kernel
theorem dX6_behindStep_101 : decode cX6_behindStep 101 = .ok (.iload_n 2, 1) := by decide +kernel
theorem dX6_behindStep_102 : decode cX6_behindStep 102 = .ok (.invokevirtual 58, 3) := by decide +kernel
theorem dX6_behindStep_105 : decode cX6_behindStep 105 = .ok (.goto 73, 3) := by decide +kernel
theorem dX6_behindStep_108 : decode cX6_behindStep 108 = .ok (.aload_n 0, 1) := by decide +kernel
theorem dX6_behindStep_109 : decode cX6_behindStep 109 = .ok (.iload_n 2, 1) := by decide +kernel
theorem dX6_behindStep_110 : decode cX6_behindStep 110 = .ok (.aload_n 0, 1) := by decide +kernel
theorem dX6_behindStep_111 : decode cX6_behindStep 111 = .ok (.getfield 21, 3) := by decide +kernel
theorem dX6_behindStep_114 : decode cX6_behindStep 114 = .ok (.getfield 62, 3) := by decide +kernel
theorem dX6_behindStep_117 : decode cX6_behindStep 117 = .ok (.iload_n 1, 1) := by decide +kernel
theorem dX6_behindStep_118 : decode cX6_behindStep 118 = .ok (.iaload, 1) := by decide +kernel
theorem dX6_behindStep_119 : decode cX6_behindStep 119 = .ok (.invokevirtual 65, 3) := by decide +kernel
theorem dX6_behindStep_122 : decode cX6_behindStep 122 = .ok (.goto 56, 3) := by decide +kernel
theorem dX6_behindStep_125 : decode cX6_behindStep 125 = .ok (.aload_n 0, 1) := by decide +kernel
theorem dX6_behindStep_126 : decode cX6_behindStep 126 = .ok (.iload_n 2, 1) := by decide +kernel
theorem dX6_behindStep_127 : decode cX6_behindStep 127 = .ok (.invokevirtual 69, 3) := by decide +kernel
theorem dX6_behindStep_130 : decode cX6_behindStep 130 = .ok (.goto 48, 3) := by decide +kernel
theorem dX6_behindStep_133 : decode cX6_behindStep 133 = .ok (.aload_n 0, 1) := by decide +kernel
theorem dX6_behindStep_134 : decode cX6_behindStep 134 = .ok (.invokevirtual 72, 3) := by decide +kernel
theorem dX6_behindStep_137 : decode cX6_behindStep 137 = .ok (.goto 41, 3) := by decide +kernel
theorem dX6_behindStep_140 : decode cX6_behindStep 140 = .ok (.aload_n 0, 1) := by decide +kernel
theorem dX6_behindStep_141 : decode cX6_behindStep 141 = .ok (.getfield 11, 3) := by decide +kernel
theorem dX6_behindStep_144 : decode cX6_behindStep 144 = .ok (.iload_n 1, 1) := by decide +kernel
theorem dX6_behindStep_145 : decode cX6_behindStep 145 = .ok (.iload_n 2, 1) := by decide +kernel
theorem dX6_behindStep_146 : decode cX6_behindStep 146 = .ok (.iastore, 1) := by decide +kernel
theorem dX6_behindStep_147 : decode cX6_behindStep 147 = .ok (.goto 31, 3) := by decide +kernel
theorem dX6_behindStep_150 : decode cX6_behindStep 150 = .ok (.iconst (-1), 1) := by decide +kernel
theorem dX6_behindStep_151 : decode cX6_behindStep 151 = .ok (.ireturn, 1) := by decide +kernel
theorem dX6_behindStep_152 : decode cX6_behindStep 152 = .ok (.aload_n 0, 1) := by decide +kernel
theorem dX6_behindStep_153 : decode cX6_behindStep 153 = .ok (.iload_n 1, 1) := by decide +kernel
theorem dX6_behindStep_154 : decode cX6_behindStep 154 = .ok (.invokevirtual 75, 3) := by decide +kernel
theorem dX6_behindStep_157 : decode cX6_behindStep 157 = .ok (.ifCond .eq 9, 3) := by decide +kernel
theorem dX6_behindStep_160 : decode cX6_behindStep 160 = .ok (.iload_n 1, 1) := by decide +kernel
theorem dX6_behindStep_161 : decode cX6_behindStep 161 = .ok (.iconst 1, 1) := by decide +kernel
theorem dX6_behindStep_162 : decode cX6_behindStep 162 = .ok (.iadd, 1) := by decide +kernel
theorem dX6_behindStep_163 : decode cX6_behindStep 163 = .ok (.goto 14, 3) := by decide +kernel
theorem dX6_behindStep_166 : decode cX6_behindStep 166 = .ok (.aload_n 0, 1) := by decide +kernel
theorem dX6_behindStep_167 : decode cX6_behindStep 167 = .ok (.getfield 21, 3) := by decide +kernel
theorem dX6_behindStep_170 : decode cX6_behindStep 170 = .ok (.getfield 52, 3) := by decide +kernel
theorem dX6_behindStep_173 : decode cX6_behindStep 173 = .ok (.iload_n 1, 1) := by decide +kernel
theorem dX6_behindStep_174 : decode cX6_behindStep 174 = .ok (.iaload, 1) := by decide +kernel
theorem dX6_behindStep_175 : decode cX6_behindStep 175 = .ok (.iconst 1, 1) := by decide +kernel
theorem dX6_behindStep_176 : decode cX6_behindStep 176 = .ok (.iadd, 1) := by decide +kernel
theorem dX6_behindStep_177 : decode cX6_behindStep 177 = .ok (.ireturn, 1) := by decide +kernel
theorem dX6_behindStep_178 : decode cX6_behindStep 178 = .ok (.iload_n 1, 1) := by decide +kernel
theorem dX6_behindStep_179 : decode cX6_behindStep 179 = .ok (.iconst 1, 1) := by decide +kernel
theorem dX6_behindStep_180 : decode cX6_behindStep 180 = .ok (.iadd, 1) := by decide +kernel
theorem dX6_behindStep_181 : decode cX6_behindStep 181 = .ok (.ireturn, 1) := by decide +kernel
theorem dX6_letPass_0 : decode cX6_letPass 0 = .ok (.aload_n 0, 1) := by decide +kernel
theorem dX6_letPass_1 : decode cX6_letPass 1 = .ok (.getfield 17, 3) := by decide +kernel
theorem dX6_letPass_4 : decode cX6_letPass 4 = .ok (.getfield 79, 3) := by decide +kernel
theorem dX6_letPass_7 : decode cX6_letPass 7 = .ok (.iload_n 1, 1) := by decide +kernel
theorem dX6_letPass_8 : decode cX6_letPass 8 = .ok (.iadd, 1) := by decide +kernel
theorem dX6_letPass_9 : decode cX6_letPass 9 = .ok (.sipush 9999, 3) := by decide +kernel
theorem dX6_letPass_12 : decode cX6_letPass 12 = .ok (.if_icmp .le 16, 3) := by decide +kernel
theorem dX6_letPass_15 : decode cX6_letPass 15 = .ok (.aload_n 0, 1) := by decide +kernel
theorem dX6_letPass_16 : decode cX6_letPass 16 = .ok (.dup, 1) := by decide +kernel
theorem dX6_letPass_17 : decode cX6_letPass 17 = .ok (.getfield 32, 3) := by decide +kernel
theorem dX6_letPass_20 : decode cX6_letPass 20 = .ok (.iconst 1, 1) := by decide +kernel
theorem dX6_letPass_21 : decode cX6_letPass 21 = .ok (.iadd, 1) := by decide +kernel
theorem dX6_letPass_22 : decode cX6_letPass 22 = .ok (.putfield 32, 3) := by decide +kernel
theorem dX6_letPass_25 : decode cX6_letPass 25 = .ok (.goto 12, 3) := by decide +kernel
theorem dX6_letPass_28 : decode cX6_letPass 28 = .ok (.aload_n 0, 1) := by decide +kernel
theorem dX6_letPass_29 : decode cX6_letPass 29 = .ok (.getfield 17, 3) := by decide +kernel
theorem dX6_letPass_32 : decode cX6_letPass 32 = .ok (.iload_n 1, 1) := by decide +kernel
theorem dX6_letPass_33 : decode cX6_letPass 33 = .ok (.invokevirtual 84, 3) := by decide +kernel
theorem dX6_letPass_36 : decode cX6_letPass 36 = .ok (.pop, 1) := by decide +kernel
theorem dX6_letPass_37 : decode cX6_letPass 37 = .ok (.return_, 1) := by decide +kernel
theorem dX6_throwThing_0 : decode cX6_throwThing 0 = .ok (.iload_n 1, 1) := by decide +kernel
theorem dX6_throwThing_1 : decode cX6_throwThing 1 = .ok (.aload_n 0, 1) := by decide +kernel
theorem dX6_throwThing_2 : decode cX6_throwThing 2 = .ok (.getfield 17, 3) := by decide +kernel
theorem dX6_throwThing_5 : decode cX6_throwThing 5 = .ok (.getfield 87, 3) := by decide +kernel
theorem dX6_throwThing_8 : decode cX6_throwThing 8 = .ok (.getfield 91, 3) := by decide +kernel
theorem dX6_throwThing_11 : decode cX6_throwThing 11 = .ok (.if_icmp .ge 17, 3) := by decide +kernel
theorem dX6_throwThing_14 : decode cX6_throwThing 14 = .ok (.aload_n 0, 1) := by decide +kernel
theorem dX6_throwThing_15 : decode cX6_throwThing 15 = .ok (.getfield 17, 3) := by decide +kernel
theorem dX6_throwThing_18 : decode cX6_throwThing 18 = .ok (.getfield 87, 3) := by decide +kernel
theorem dX6_throwThing_21 : decode cX6_throwThing 21 = .ok (.iload_n 1, 1) := by decide +kernel
theorem dX6_throwThing_22 : decode cX6_throwThing 22 = .ok (.invokevirtual 94, 3) := by decide +kernel
theorem dX6_throwThing_25 : decode cX6_throwThing 25 = .ok (.ifCond .ne 16, 3) := by decide +kernel
theorem dX6_throwThing_28 : decode cX6_throwThing 28 = .ok (.aload_n 0, 1) := by decide +kernel
theorem dX6_throwThing_29 : decode cX6_throwThing 29 = .ok (.dup, 1) := by decide +kernel
theorem dX6_throwThing_30 : decode cX6_throwThing 30 = .ok (.getfield 32, 3) := by decide +kernel
theorem dX6_throwThing_33 : decode cX6_throwThing 33 = .ok (.iconst 1, 1) := by decide +kernel
theorem dX6_throwThing_34 : decode cX6_throwThing 34 = .ok (.iadd, 1) := by decide +kernel
theorem dX6_throwThing_35 : decode cX6_throwThing 35 = .ok (.putfield 32, 3) := by decide +kernel
theorem dX6_throwThing_38 : decode cX6_throwThing 38 = .ok (.goto 15, 3) := by decide +kernel
theorem dX6_throwThing_41 : decode cX6_throwThing 41 = .ok (.aload_n 0, 1) := by decide +kernel
theorem dX6_throwThing_42 : decode cX6_throwThing 42 = .ok (.getfield 17, 3) := by decide +kernel
theorem dX6_throwThing_45 : decode cX6_throwThing 45 = .ok (.getfield 87, 3) := by decide +kernel
theorem dX6_throwThing_48 : decode cX6_throwThing 48 = .ok (.iload_n 1, 1) := by decide +kernel
theorem dX6_throwThing_49 : decode cX6_throwThing 49 = .ok (.iload_n 2, 1) := by decide +kernel
theorem dX6_throwThing_50 : decode cX6_throwThing 50 = .ok (.invokevirtual 97, 3) := by decide +kernel
theorem dX6_throwThing_53 : decode cX6_throwThing 53 = .ok (.return_, 1) := by decide +kernel
theorem dX6_fetchThing_0 : decode cX6_fetchThing 0 = .ok (.iload_n 1, 1) := by decide +kernel
theorem dX6_fetchThing_1 : decode cX6_fetchThing 1 = .ok (.aload_n 0, 1) := by decide +kernel
theorem dX6_fetchThing_2 : decode cX6_fetchThing 2 = .ok (.getfield 17, 3) := by decide +kernel
theorem dX6_fetchThing_5 : decode cX6_fetchThing 5 = .ok (.getfield 87, 3) := by decide +kernel
theorem dX6_fetchThing_8 : decode cX6_fetchThing 8 = .ok (.getfield 91, 3) := by decide +kernel
theorem dX6_fetchThing_11 : decode cX6_fetchThing 11 = .ok (.if_icmp .ge 17, 3) := by decide +kernel
theorem dX6_fetchThing_14 : decode cX6_fetchThing 14 = .ok (.aload_n 0, 1) := by decide +kernel
theorem dX6_fetchThing_15 : decode cX6_fetchThing 15 = .ok (.getfield 17, 3) := by decide +kernel
theorem dX6_fetchThing_18 : decode cX6_fetchThing 18 = .ok (.getfield 87, 3) := by decide +kernel
theorem dX6_fetchThing_21 : decode cX6_fetchThing 21 = .ok (.iload_n 1, 1) := by decide +kernel
theorem dX6_fetchThing_22 : decode cX6_fetchThing 22 = .ok (.invokevirtual 100, 3) := by decide +kernel
theorem dX6_fetchThing_25 : decode cX6_fetchThing 25 = .ok (.ifCond .ne 16, 3) := by decide +kernel
theorem dX6_fetchThing_28 : decode cX6_fetchThing 28 = .ok (.aload_n 0, 1) := by decide +kernel
theorem dX6_fetchThing_29 : decode cX6_fetchThing 29 = .ok (.dup, 1) := by decide +kernel
theorem dX6_fetchThing_30 : decode cX6_fetchThing 30 = .ok (.getfield 32, 3) := by decide +kernel
theorem dX6_fetchThing_33 : decode cX6_fetchThing 33 = .ok (.iconst 1, 1) := by decide +kernel
theorem dX6_fetchThing_34 : decode cX6_fetchThing 34 = .ok (.iadd, 1) := by decide +kernel
theorem dX6_fetchThing_35 : decode cX6_fetchThing 35 = .ok (.putfield 32, 3) := by decide +kernel
theorem dX6_fetchThing_38 : decode cX6_fetchThing 38 = .ok (.goto 14, 3) := by decide +kernel
theorem dX6_fetchThing_41 : decode cX6_fetchThing 41 = .ok (.aload_n 0, 1) := by decide +kernel
theorem dX6_fetchThing_42 : decode cX6_fetchThing 42 = .ok (.getfield 17, 3) := by decide +kernel
theorem dX6_fetchThing_45 : decode cX6_fetchThing 45 = .ok (.getfield 87, 3) := by decide +kernel
theorem dX6_fetchThing_48 : decode cX6_fetchThing 48 = .ok (.iload_n 1, 1) := by decide +kernel
theorem dX6_fetchThing_49 : decode cX6_fetchThing 49 = .ok (.invokevirtual 103, 3) := by decide +kernel
theorem dX6_fetchThing_52 : decode cX6_fetchThing 52 = .ok (.return_, 1) := by decide +kernel
theorem dX6_throwAny_0 : decode cX6_throwAny 0 = .ok (.aload_n 0, 1) := by decide +kernel
theorem dX6_throwAny_1 : decode cX6_throwAny 1 = .ok (.getfield 17, 3) := by decide +kernel
theorem dX6_throwAny_4 : decode cX6_throwAny 4 = .ok (.getfield 87, 3) := by decide +kernel
theorem dX6_throwAny_7 : decode cX6_throwAny 7 = .ok (.getfield 91, 3) := by decide +kernel
theorem dX6_throwAny_10 : decode cX6_throwAny 10 = .ok (.ifCond .gt 14, 3) := by decide +kernel
theorem dX6_throwAny_13 : decode cX6_throwAny 13 = .ok (.aload_n 0, 1) := by decide +kernel
theorem dX6_throwAny_14 : decode cX6_throwAny 14 = .ok (.dup, 1) := by decide +kernel
theorem dX6_throwAny_15 : decode cX6_throwAny 15 = .ok (.getfield 32, 3) := by decide +kernel
theorem dX6_throwAny_18 : decode cX6_throwAny 18 = .ok (.iconst 1, 1) := by decide +kernel
theorem dX6_throwAny_19 : decode cX6_throwAny 19 = .ok (.iadd, 1) := by decide +kernel
theorem dX6_throwAny_20 : decode cX6_throwAny 20 = .ok (.putfield 32, 3) := by decide +kernel
theorem dX6_throwAny_23 : decode cX6_throwAny 23 = .ok (.return_, 1) := by decide +kernel
theorem dX6_throwAny_24 : decode cX6_throwAny 24 = .ok (.aload_n 0, 1) := by decide +kernel
theorem dX6_throwAny_25 : decode cX6_throwAny 25 = .ok (.aload_n 0, 1) := by decide +kernel
theorem dX6_throwAny_26 : decode cX6_throwAny 26 = .ok (.getfield 17, 3) := by decide +kernel
theorem dX6_throwAny_29 : decode cX6_throwAny 29 = .ok (.getfield 87, 3) := by decide +kernel
theorem dX6_throwAny_32 : decode cX6_throwAny 32 = .ok (.getfield 91, 3) := by decide +kernel
theorem dX6_throwAny_35 : decode cX6_throwAny 35 = .ok (.invokevirtual 106, 3) := by decide +kernel
theorem dX6_throwAny_38 : decode cX6_throwAny 38 = .ok (.istore_n 1, 1) := by decide +kernel
theorem dX6_throwAny_39 : decode cX6_throwAny 39 = .ok (.aload_n 0, 1) := by decide +kernel
theorem dX6_throwAny_40 : decode cX6_throwAny 40 = .ok (.aload_n 0, 1) := by decide +kernel
theorem dX6_throwAny_41 : decode cX6_throwAny 41 = .ok (.getfield 17, 3) := by decide +kernel
theorem dX6_throwAny_44 : decode cX6_throwAny 44 = .ok (.getfield 109, 3) := by decide +kernel
theorem dX6_throwAny_47 : decode cX6_throwAny 47 = .ok (.invokevirtual 106, 3) := by decide +kernel
theorem dX6_throwAny_50 : decode cX6_throwAny 50 = .ok (.istore_n 2, 1) := by decide +kernel
theorem dX6_throwAny_51 : decode cX6_throwAny 51 = .ok (.aload_n 0, 1) := by decide +kernel
theorem dX6_throwAny_52 : decode cX6_throwAny 52 = .ok (.iload_n 1, 1) := by decide +kernel
theorem dX6_throwAny_53 : decode cX6_throwAny 53 = .ok (.iload_n 2, 1) := by decide +kernel
theorem dX6_throwAny_54 : decode cX6_throwAny 54 = .ok (.invokevirtual 65, 3) := by decide +kernel
theorem dX6_throwAny_57 : decode cX6_throwAny 57 = .ok (.return_, 1) := by decide +kernel
theorem dX6_draw_0 : decode cX6_draw 0 = .ok (.aload_n 0, 1) := by decide +kernel
theorem dX6_draw_1 : decode cX6_draw 1 = .ok (.aload_n 0, 1) := by decide +kernel
theorem dX6_draw_2 : decode cX6_draw 2 = .ok (.getfield 25, 3) := by decide +kernel
theorem dX6_draw_5 : decode cX6_draw 5 = .ok (.sipush 3169, 3) := by decide +kernel
theorem dX6_draw_8 : decode cX6_draw 8 = .ok (.imul, 1) := by decide +kernel
theorem dX6_draw_9 : decode cX6_draw 9 = .ok (.sipush 11393, 3) := by decide +kernel
theorem dX6_draw_12 : decode cX6_draw 12 = .ok (.iadd, 1) := by decide +kernel
theorem dX6_draw_13 : decode cX6_draw 13 = .ok (.ldc 112, 2) := by decide +kernel
theorem dX6_draw_15 : decode cX6_draw 15 = .ok (.irem, 1) := by decide +kernel
theorem dX6_draw_16 : decode cX6_draw 16 = .ok (.putfield 25, 3) := by decide +kernel
theorem dX6_draw_19 : decode cX6_draw 19 = .ok (.iload_n 1, 1) := by decide +kernel
theorem dX6_draw_20 : decode cX6_draw 20 = .ok (.ifCond .le 15, 3) := by decide +kernel
theorem dX6_draw_23 : decode cX6_draw 23 = .ok (.aload_n 0, 1) := by decide +kernel
theorem dX6_draw_24 : decode cX6_draw 24 = .ok (.getfield 25, 3) := by decide +kernel
theorem dX6_draw_27 : decode cX6_draw 27 = .ok (.bipush 8, 2) := by decide +kernel
theorem dX6_draw_29 : decode cX6_draw 29 = .ok (.idiv, 1) := by decide +kernel
theorem dX6_draw_30 : decode cX6_draw 30 = .ok (.iload_n 1, 1) := by decide +kernel
theorem dX6_draw_31 : decode cX6_draw 31 = .ok (.irem, 1) := by decide +kernel
theorem dX6_draw_32 : decode cX6_draw 32 = .ok (.goto 4, 3) := by decide +kernel
theorem dX6_draw_35 : decode cX6_draw 35 = .ok (.iconst 0, 1) := by decide +kernel
theorem dX6_draw_36 : decode cX6_draw 36 = .ok (.ireturn, 1) := by decide +kernel
theorem dX6_holds_0 : decode cX6_holds 0 = .ok (.aload_n 0, 1) := by decide +kernel
theorem dX6_holds_1 : decode cX6_holds 1 = .ok (.getfield 21, 3) := by decide +kernel
theorem dX6_holds_4 : decode cX6_holds 4 = .ok (.getfield 55, 3) := by decide +kernel
theorem dX6_holds_7 : decode cX6_holds 7 = .ok (.iload_n 1, 1) := by decide +kernel
theorem dX6_holds_8 : decode cX6_holds 8 = .ok (.iaload, 1) := by decide +kernel
theorem dX6_holds_9 : decode cX6_holds 9 = .ok (.istore_n 2, 1) := by decide +kernel
theorem dX6_holds_10 : decode cX6_holds 10 = .ok (.aload_n 0, 1) := by decide +kernel
theorem dX6_holds_11 : decode cX6_holds 11 = .ok (.getfield 21, 3) := by decide +kernel
theorem dX6_holds_14 : decode cX6_holds 14 = .ok (.getfield 42, 3) := by decide +kernel
theorem dX6_holds_17 : decode cX6_holds 17 = .ok (.iload_n 1, 1) := by decide +kernel
theorem dX6_holds_18 : decode cX6_holds 18 = .ok (.iaload, 1) := by decide +kernel
theorem dX6_holds_19 : decode cX6_holds 19 = .ok (.tableswitch 105 4 6 #[25, 59, 76], 25) := by decide +kernel
theorem dX6_holds_44 : decode cX6_holds 44 = .ok (.iload_n 2, 1) := by decide +kernel
theorem dX6_holds_45 : decode cX6_holds 45 = .ok (.aload_n 0, 1) := by decide +kernel
theorem dX6_holds_46 : decode cX6_holds 46 = .ok (.getfield 17, 3) := by decide +kernel
theorem dX6_holds_49 : decode cX6_holds 49 = .ok (.getfield 87, 3) := by decide +kernel
theorem dX6_holds_52 : decode cX6_holds 52 = .ok (.getfield 91, 3) := by decide +kernel
theorem dX6_holds_55 : decode cX6_holds 55 = .ok (.if_icmp .ge 21, 3) := by decide +kernel
theorem dX6_holds_58 : decode cX6_holds 58 = .ok (.aload_n 0, 1) := by decide +kernel
theorem dX6_holds_59 : decode cX6_holds 59 = .ok (.getfield 17, 3) := by decide +kernel
theorem dX6_holds_62 : decode cX6_holds 62 = .ok (.getfield 87, 3) := by decide +kernel
theorem dX6_holds_65 : decode cX6_holds 65 = .ok (.iload_n 2, 1) := by decide +kernel
theorem dX6_holds_66 : decode cX6_holds 66 = .ok (.invokevirtual 100, 3) := by decide +kernel
theorem dX6_holds_69 : decode cX6_holds 69 = .ok (.ifCond .eq 7, 3) := by decide +kernel
theorem dX6_holds_72 : decode cX6_holds 72 = .ok (.iconst 1, 1) := by decide +kernel
theorem dX6_holds_73 : decode cX6_holds 73 = .ok (.goto 4, 3) := by decide +kernel
theorem dX6_holds_76 : decode cX6_holds 76 = .ok (.iconst 0, 1) := by decide +kernel
theorem dX6_holds_77 : decode cX6_holds 77 = .ok (.ireturn, 1) := by decide +kernel
theorem dX6_holds_78 : decode cX6_holds 78 = .ok (.aload_n 0, 1) := by decide +kernel
theorem dX6_holds_79 : decode cX6_holds 79 = .ok (.getfield 17, 3) := by decide +kernel
theorem dX6_holds_82 : decode cX6_holds 82 = .ok (.getfield 113, 3) := by decide +kernel
theorem dX6_holds_85 : decode cX6_holds 85 = .ok (.iload_n 2, 1) := by decide +kernel
theorem dX6_holds_86 : decode cX6_holds 86 = .ok (.if_icmp .ne 7, 3) := by decide +kernel
theorem dX6_holds_89 : decode cX6_holds 89 = .ok (.iconst 1, 1) := by decide +kernel
theorem dX6_holds_90 : decode cX6_holds 90 = .ok (.goto 4, 3) := by decide +kernel
theorem dX6_holds_93 : decode cX6_holds 93 = .ok (.iconst 0, 1) := by decide +kernel
theorem dX6_holds_94 : decode cX6_holds 94 = .ok (.ireturn, 1) := by decide +kernel
theorem dX6_holds_95 : decode cX6_holds 95 = .ok (.aload_n 0, 1) := by decide +kernel
theorem dX6_holds_96 : decode cX6_holds 96 = .ok (.getfield 17, 3) := by decide +kernel
theorem dX6_holds_99 : decode cX6_holds 99 = .ok (.getfield 116, 3) := by decide +kernel
theorem dX6_holds_102 : decode cX6_holds 102 = .ok (.aload_n 0, 1) := by decide +kernel
theorem dX6_holds_103 : decode cX6_holds 103 = .ok (.getfield 21, 3) := by decide +kernel
theorem dX6_holds_106 : decode cX6_holds 106 = .ok (.getfield 119, 3) := by decide +kernel
theorem dX6_holds_109 : decode cX6_holds 109 = .ok (.iload_n 1, 1) := by decide +kernel
theorem dX6_holds_110 : decode cX6_holds 110 = .ok (.iaload, 1) := by decide +kernel
theorem dX6_holds_111 : decode cX6_holds 111 = .ok (.aload_n 0, 1) := by decide +kernel
theorem dX6_holds_112 : decode cX6_holds 112 = .ok (.getfield 21, 3) := by decide +kernel
theorem dX6_holds_115 : decode cX6_holds 115 = .ok (.getfield 62, 3) := by decide +kernel
theorem dX6_holds_118 : decode cX6_holds 118 = .ok (.iload_n 1, 1) := by decide +kernel
theorem dX6_holds_119 : decode cX6_holds 119 = .ok (.iaload, 1) := by decide +kernel
theorem dX6_holds_120 : decode cX6_holds 120 = .ok (.invokestatic 122, 3) := by decide +kernel
theorem dX6_holds_123 : decode cX6_holds 123 = .ok (.ireturn, 1) := by decide +kernel
theorem dX6_holds_124 : decode cX6_holds 124 = .ok (.iload_n 2, 1) := by decide +kernel
theorem dX6_holds_125 : decode cX6_holds 125 = .ok (.aload_n 0, 1) := by decide +kernel
theorem dX6_holds_126 : decode cX6_holds 126 = .ok (.getfield 17, 3) := by decide +kernel
theorem dX6_holds_129 : decode cX6_holds 129 = .ok (.getfield 126, 3) := by decide +kernel
theorem dX6_holds_132 : decode cX6_holds 132 = .ok (.getfield 130, 3) := by decide +kernel
theorem dX6_holds_135 : decode cX6_holds 135 = .ok (.if_icmp .ge 43, 3) := by decide +kernel
theorem dX6_holds_138 : decode cX6_holds 138 = .ok (.aload_n 0, 1) := by decide +kernel
theorem dX6_holds_139 : decode cX6_holds 139 = .ok (.getfield 17, 3) := by decide +kernel
theorem dX6_holds_142 : decode cX6_holds 142 = .ok (.getfield 126, 3) := by decide +kernel
theorem dX6_holds_145 : decode cX6_holds 145 = .ok (.getfield 133, 3) := by decide +kernel
theorem dX6_holds_148 : decode cX6_holds 148 = .ok (.iload_n 2, 1) := by decide +kernel
theorem dX6_holds_149 : decode cX6_holds 149 = .ok (.iaload, 1) := by decide +kernel
theorem dX6_holds_150 : decode cX6_holds 150 = .ok (.aload_n 0, 1) := by decide +kernel
theorem dX6_holds_151 : decode cX6_holds 151 = .ok (.getfield 21, 3) := by decide +kernel
theorem dX6_holds_154 : decode cX6_holds 154 = .ok (.getfield 119, 3) := by decide +kernel
theorem dX6_holds_157 : decode cX6_holds 157 = .ok (.iload_n 1, 1) := by decide +kernel
theorem dX6_holds_158 : decode cX6_holds 158 = .ok (.iaload, 1) := by decide +kernel
theorem dX6_holds_159 : decode cX6_holds 159 = .ok (.aload_n 0, 1) := by decide +kernel
theorem dX6_holds_160 : decode cX6_holds 160 = .ok (.getfield 21, 3) := by decide +kernel
theorem dX6_holds_163 : decode cX6_holds 163 = .ok (.getfield 62, 3) := by decide +kernel
theorem dX6_holds_166 : decode cX6_holds 166 = .ok (.iload_n 1, 1) := by decide +kernel
theorem dX6_holds_167 : decode cX6_holds 167 = .ok (.iaload, 1) := by decide +kernel
theorem dX6_holds_168 : decode cX6_holds 168 = .ok (.invokestatic 122, 3) := by decide +kernel
theorem dX6_holds_171 : decode cX6_holds 171 = .ok (.ifCond .eq 7, 3) := by decide +kernel
theorem dX6_holds_174 : decode cX6_holds 174 = .ok (.iconst 1, 1) := by decide +kernel
theorem dX6_holds_175 : decode cX6_holds 175 = .ok (.goto 4, 3) := by decide +kernel
theorem dX6_holds_178 : decode cX6_holds 178 = .ok (.iconst 0, 1) := by decide +kernel
theorem dX6_holds_179 : decode cX6_holds 179 = .ok (.ireturn, 1) := by decide +kernel
theorem dX6_compares_0 : decode cX6_compares 0 = .ok (.iload_n 1, 1) := by decide +kernel
theorem dX6_compares_1 : decode cX6_compares 1 = .ok (.bipush 60, 2) := by decide +kernel
theorem dX6_compares_3 : decode cX6_compares 3 = .ok (.if_icmp .ne 14, 3) := by decide +kernel
theorem dX6_compares_6 : decode cX6_compares 6 = .ok (.iload_n 0, 1) := by decide +kernel
theorem dX6_compares_7 : decode cX6_compares 7 = .ok (.iload_n 2, 1) := by decide +kernel
theorem dX6_compares_8 : decode cX6_compares 8 = .ok (.if_icmp .ge 7, 3) := by decide +kernel
theorem dX6_compares_11 : decode cX6_compares 11 = .ok (.iconst 1, 1) := by decide +kernel
theorem dX6_compares_12 : decode cX6_compares 12 = .ok (.goto 4, 3) := by decide +kernel
theorem dX6_compares_15 : decode cX6_compares 15 = .ok (.iconst 0, 1) := by decide +kernel
theorem dX6_compares_16 : decode cX6_compares 16 = .ok (.ireturn, 1) := by decide +kernel
theorem dX6_compares_17 : decode cX6_compares 17 = .ok (.iload_n 1, 1) := by decide +kernel
theorem dX6_compares_18 : decode cX6_compares 18 = .ok (.bipush 62, 2) := by decide +kernel
theorem dX6_compares_20 : decode cX6_compares 20 = .ok (.if_icmp .ne 16, 3) := by decide +kernel
theorem dX6_compares_23 : decode cX6_compares 23 = .ok (.iload_n 0, 1) := by decide +kernel
theorem dX6_compares_24 : decode cX6_compares 24 = .ok (.iload_n 2, 1) := by decide +kernel
theorem dX6_compares_25 : decode cX6_compares 25 = .ok (.if_icmp .le 7, 3) := by decide +kernel
theorem dX6_compares_28 : decode cX6_compares 28 = .ok (.iconst 1, 1) := by decide +kernel
theorem dX6_compares_29 : decode cX6_compares 29 = .ok (.goto 17, 3) := by decide +kernel
theorem dX6_compares_32 : decode cX6_compares 32 = .ok (.iconst 0, 1) := by decide +kernel
theorem dX6_compares_33 : decode cX6_compares 33 = .ok (.goto 13, 3) := by decide +kernel
theorem dX6_compares_36 : decode cX6_compares 36 = .ok (.iload_n 0, 1) := by decide +kernel
theorem dX6_compares_37 : decode cX6_compares 37 = .ok (.iload_n 2, 1) := by decide +kernel
theorem dX6_compares_38 : decode cX6_compares 38 = .ok (.if_icmp .ne 7, 3) := by decide +kernel
theorem dX6_compares_41 : decode cX6_compares 41 = .ok (.iconst 1, 1) := by decide +kernel
theorem dX6_compares_42 : decode cX6_compares 42 = .ok (.goto 4, 3) := by decide +kernel
theorem dX6_compares_45 : decode cX6_compares 45 = .ok (.iconst 0, 1) := by decide +kernel
theorem dX6_compares_46 : decode cX6_compares 46 = .ok (.ireturn, 1) := by decide +kernel
theorem dX7_init_0 : decode cX7_init 0 = .ok (.aload_n 0, 1) := by decide +kernel
theorem dX7_init_1 : decode cX7_init 1 = .ok (.invokespecial 3, 3) := by decide +kernel
theorem dX7_init_4 : decode cX7_init 4 = .ok (.aload_n 0, 1) := by decide +kernel
theorem dX7_init_5 : decode cX7_init 5 = .ok (.iconst 0, 1) := by decide +kernel
theorem dX7_init_6 : decode cX7_init 6 = .ok (.putfield 9, 3) := by decide +kernel
theorem dX7_init_9 : decode cX7_init 9 = .ok (.aload_n 0, 1) := by decide +kernel
theorem dX7_init_10 : decode cX7_init 10 = .ok (.iconst 4, 1) := by decide +kernel
theorem dX7_init_11 : decode cX7_init 11 = .ok (.newarray .long, 2) := by decide +kernel
theorem dX7_init_13 : decode cX7_init 13 = .ok (.putfield 15, 3) := by decide +kernel
theorem dX7_init_16 : decode cX7_init 16 = .ok (.aload_n 0, 1) := by decide +kernel
theorem dX7_init_17 : decode cX7_init 17 = .ok (.iconst 4, 1) := by decide +kernel
theorem dX7_init_18 : decode cX7_init 18 = .ok (.newarray .int, 2) := by decide +kernel
theorem dX7_init_20 : decode cX7_init 20 = .ok (.putfield 19, 3) := by decide +kernel
theorem dX7_init_23 : decode cX7_init 23 = .ok (.aload_n 0, 1) := by decide +kernel
theorem dX7_init_24 : decode cX7_init 24 = .ok (.iconst 4, 1) := by decide +kernel
theorem dX7_init_25 : decode cX7_init 25 = .ok (.newarray .int, 2) := by decide +kernel
theorem dX7_init_27 : decode cX7_init 27 = .ok (.putfield 23, 3) := by decide +kernel
theorem dX7_init_30 : decode cX7_init 30 = .ok (.aload_n 0, 1) := by decide +kernel
theorem dX7_init_31 : decode cX7_init 31 = .ok (.iconst 4, 1) := by decide +kernel
theorem dX7_init_32 : decode cX7_init 32 = .ok (.newarray .int, 2) := by decide +kernel
theorem dX7_init_34 : decode cX7_init 34 = .ok (.putfield 26, 3) := by decide +kernel
theorem dX7_init_37 : decode cX7_init 37 = .ok (.return_, 1) := by decide +kernel
theorem dX7_copyFrom_0 : decode cX7_copyFrom 0 = .ok (.aload_n 0, 1) := by decide +kernel
theorem dX7_copyFrom_1 : decode cX7_copyFrom 1 = .ok (.aload_n 1, 1) := by decide +kernel
theorem dX7_copyFrom_2 : decode cX7_copyFrom 2 = .ok (.getfield 9, 3) := by decide +kernel
theorem dX7_copyFrom_5 : decode cX7_copyFrom 5 = .ok (.putfield 9, 3) := by decide +kernel
theorem dX7_copyFrom_8 : decode cX7_copyFrom 8 = .ok (.aload_n 1, 1) := by decide +kernel
theorem dX7_copyFrom_9 : decode cX7_copyFrom 9 = .ok (.getfield 15, 3) := by decide +kernel
theorem dX7_copyFrom_12 : decode cX7_copyFrom 12 = .ok (.iconst 0, 1) := by decide +kernel
theorem dX7_copyFrom_13 : decode cX7_copyFrom 13 = .ok (.aload_n 0, 1) := by decide +kernel
theorem dX7_copyFrom_14 : decode cX7_copyFrom 14 = .ok (.getfield 15, 3) := by decide +kernel
theorem dX7_copyFrom_17 : decode cX7_copyFrom 17 = .ok (.iconst 0, 1) := by decide +kernel
theorem dX7_copyFrom_18 : decode cX7_copyFrom 18 = .ok (.iconst 4, 1) := by decide +kernel
theorem dX7_copyFrom_19 : decode cX7_copyFrom 19 = .ok (.invokestatic 29, 3) := by decide +kernel
theorem dX7_copyFrom_22 : decode cX7_copyFrom 22 = .ok (.aload_n 1, 1) := by decide +kernel
theorem dX7_copyFrom_23 : decode cX7_copyFrom 23 = .ok (.getfield 19, 3) := by decide +kernel
theorem dX7_copyFrom_26 : decode cX7_copyFrom 26 = .ok (.iconst 0, 1) := by decide +kernel
theorem dX7_copyFrom_27 : decode cX7_copyFrom 27 = .ok (.aload_n 0, 1) := by decide +kernel
theorem dX7_copyFrom_28 : decode cX7_copyFrom 28 = .ok (.getfield 19, 3) := by decide +kernel
theorem dX7_copyFrom_31 : decode cX7_copyFrom 31 = .ok (.iconst 0, 1) := by decide +kernel
theorem dX7_copyFrom_32 : decode cX7_copyFrom 32 = .ok (.iconst 4, 1) := by decide +kernel
theorem dX7_copyFrom_33 : decode cX7_copyFrom 33 = .ok (.invokestatic 29, 3) := by decide +kernel
theorem dX7_copyFrom_36 : decode cX7_copyFrom 36 = .ok (.aload_n 1, 1) := by decide +kernel
theorem dX7_copyFrom_37 : decode cX7_copyFrom 37 = .ok (.getfield 23, 3) := by decide +kernel
theorem dX7_copyFrom_40 : decode cX7_copyFrom 40 = .ok (.iconst 0, 1) := by decide +kernel
theorem dX7_copyFrom_41 : decode cX7_copyFrom 41 = .ok (.aload_n 0, 1) := by decide +kernel
theorem dX7_copyFrom_42 : decode cX7_copyFrom 42 = .ok (.getfield 23, 3) := by decide +kernel
theorem dX7_copyFrom_45 : decode cX7_copyFrom 45 = .ok (.iconst 0, 1) := by decide +kernel
theorem dX7_copyFrom_46 : decode cX7_copyFrom 46 = .ok (.iconst 4, 1) := by decide +kernel
theorem dX7_copyFrom_47 : decode cX7_copyFrom 47 = .ok (.invokestatic 29, 3) := by decide +kernel
theorem dX7_copyFrom_50 : decode cX7_copyFrom 50 = .ok (.aload_n 0, 1) := by decide +kernel
theorem dX7_copyFrom_51 : decode cX7_copyFrom 51 = .ok (.aload_n 1, 1) := by decide +kernel
theorem dX7_copyFrom_52 : decode cX7_copyFrom 52 = .ok (.invokevirtual 35, 3) := by decide +kernel
theorem dX7_copyFrom_55 : decode cX7_copyFrom 55 = .ok (.return_, 1) := by decide +kernel
theorem dX7_copyGroundFrom_0 : decode cX7_copyGroundFrom 0 = .ok (.aload_n 1, 1) := by decide +kernel
theorem dX7_copyGroundFrom_1 : decode cX7_copyGroundFrom 1 = .ok (.getfield 26, 3) := by decide +kernel
theorem dX7_copyGroundFrom_4 : decode cX7_copyGroundFrom 4 = .ok (.iconst 0, 1) := by decide +kernel
theorem dX7_copyGroundFrom_5 : decode cX7_copyGroundFrom 5 = .ok (.aload_n 0, 1) := by decide +kernel
theorem dX7_copyGroundFrom_6 : decode cX7_copyGroundFrom 6 = .ok (.getfield 26, 3) := by decide +kernel
theorem dX7_copyGroundFrom_9 : decode cX7_copyGroundFrom 9 = .ok (.iconst 0, 1) := by decide +kernel
theorem dX7_copyGroundFrom_10 : decode cX7_copyGroundFrom 10 = .ok (.iconst 4, 1) := by decide +kernel
theorem dX7_copyGroundFrom_11 : decode cX7_copyGroundFrom 11 = .ok (.invokestatic 29, 3) := by decide +kernel
theorem dX7_copyGroundFrom_14 : decode cX7_copyGroundFrom 14 = .ok (.return_, 1) := by decide +kernel
theorem dX7_addMill_0 : decode cX7_addMill 0 = .ok (.aload_n 0, 1) := by decide +kernel
theorem dX7_addMill_1 : decode cX7_addMill 1 = .ok (.getfield 9, 3) := by decide +kernel
theorem dX7_addMill_4 : decode cX7_addMill 4 = .ok (.iconst 4, 1) := by decide +kernel
theorem dX7_addMill_5 : decode cX7_addMill 5 = .ok (.if_icmp .lt 5, 3) := by decide +kernel
theorem dX7_addMill_8 : decode cX7_addMill 8 = .ok (.iconst (-1), 1) := by decide +kernel
theorem dX7_addMill_9 : decode cX7_addMill 9 = .ok (.ireturn, 1) := by decide +kernel
theorem dX7_addMill_10 : decode cX7_addMill 10 = .ok (.aload_n 0, 1) := by decide +kernel
theorem dX7_addMill_11 : decode cX7_addMill 11 = .ok (.getfield 15, 3) := by decide +kernel
theorem dX7_addMill_14 : decode cX7_addMill 14 = .ok (.aload_n 0, 1) := by decide +kernel
theorem dX7_addMill_15 : decode cX7_addMill 15 = .ok (.getfield 9, 3) := by decide +kernel
theorem dX7_addMill_18 : decode cX7_addMill 18 = .ok (.lload_n 1, 1) := by decide +kernel
theorem dX7_addMill_19 : decode cX7_addMill 19 = .ok (.lastore, 1) := by decide +kernel
theorem dX7_addMill_20 : decode cX7_addMill 20 = .ok (.aload_n 0, 1) := by decide +kernel
theorem dX7_addMill_21 : decode cX7_addMill 21 = .ok (.getfield 19, 3) := by decide +kernel
theorem dX7_addMill_24 : decode cX7_addMill 24 = .ok (.aload_n 0, 1) := by decide +kernel
theorem dX7_addMill_25 : decode cX7_addMill 25 = .ok (.getfield 9, 3) := by decide +kernel
theorem dX7_addMill_28 : decode cX7_addMill 28 = .ok (.iload_n 3, 1) := by decide +kernel
theorem dX7_addMill_29 : decode cX7_addMill 29 = .ok (.iastore, 1) := by decide +kernel
theorem dX7_addMill_30 : decode cX7_addMill 30 = .ok (.aload_n 0, 1) := by decide +kernel
theorem dX7_addMill_31 : decode cX7_addMill 31 = .ok (.getfield 23, 3) := by decide +kernel
theorem dX7_addMill_34 : decode cX7_addMill 34 = .ok (.aload_n 0, 1) := by decide +kernel
theorem dX7_addMill_35 : decode cX7_addMill 35 = .ok (.getfield 9, 3) := by decide +kernel
theorem dX7_addMill_38 : decode cX7_addMill 38 = .ok (.iload 4, 2) := by decide +kernel
theorem dX7_addMill_40 : decode cX7_addMill 40 = .ok (.iastore, 1) := by decide +kernel
theorem dX7_addMill_41 : decode cX7_addMill 41 = .ok (.aload_n 0, 1) := by decide +kernel
theorem dX7_addMill_42 : decode cX7_addMill 42 = .ok (.getfield 26, 3) := by decide +kernel
theorem dX7_addMill_45 : decode cX7_addMill 45 = .ok (.aload_n 0, 1) := by decide +kernel
theorem dX7_addMill_46 : decode cX7_addMill 46 = .ok (.getfield 9, 3) := by decide +kernel
theorem dX7_addMill_49 : decode cX7_addMill 49 = .ok (.iconst 0, 1) := by decide +kernel
theorem dX7_addMill_50 : decode cX7_addMill 50 = .ok (.iastore, 1) := by decide +kernel
theorem dX7_addMill_51 : decode cX7_addMill 51 = .ok (.aload_n 0, 1) := by decide +kernel
theorem dX7_addMill_52 : decode cX7_addMill 52 = .ok (.dup, 1) := by decide +kernel
theorem dX7_addMill_53 : decode cX7_addMill 53 = .ok (.getfield 9, 3) := by decide +kernel
theorem dX7_addMill_56 : decode cX7_addMill 56 = .ok (.iconst 1, 1) := by decide +kernel
theorem dX7_addMill_57 : decode cX7_addMill 57 = .ok (.iadd, 1) := by decide +kernel
theorem dX7_addMill_58 : decode cX7_addMill 58 = .ok (.putfield 9, 3) := by decide +kernel
theorem dX7_addMill_61 : decode cX7_addMill 61 = .ok (.aload_n 0, 1) := by decide +kernel
theorem dX7_addMill_62 : decode cX7_addMill 62 = .ok (.getfield 9, 3) := by decide +kernel
theorem dX7_addMill_65 : decode cX7_addMill 65 = .ok (.iconst 1, 1) := by decide +kernel
theorem dX7_addMill_66 : decode cX7_addMill 66 = .ok (.isub, 1) := by decide +kernel
theorem dX7_addMill_67 : decode cX7_addMill 67 = .ok (.ireturn, 1) := by decide +kernel
theorem dX7_numberOf_0 : decode cX7_numberOf 0 = .ok (.iconst 0, 1) := by decide +kernel
theorem dX7_numberOf_1 : decode cX7_numberOf 1 = .ok (.istore_n 3, 1) := by decide +kernel
theorem dX7_numberOf_2 : decode cX7_numberOf 2 = .ok (.iload_n 3, 1) := by decide +kernel
theorem dX7_numberOf_3 : decode cX7_numberOf 3 = .ok (.aload_n 0, 1) := by decide +kernel
theorem dX7_numberOf_4 : decode cX7_numberOf 4 = .ok (.getfield 9, 3) := by decide +kernel
theorem dX7_numberOf_7 : decode cX7_numberOf 7 = .ok (.if_icmp .ge 22, 3) := by decide +kernel
theorem dX7_numberOf_10 : decode cX7_numberOf 10 = .ok (.aload_n 0, 1) := by decide +kernel
theorem dX7_numberOf_11 : decode cX7_numberOf 11 = .ok (.getfield 15, 3) := by decide +kernel
theorem dX7_numberOf_14 : decode cX7_numberOf 14 = .ok (.iload_n 3, 1) := by decide +kernel
theorem dX7_numberOf_15 : decode cX7_numberOf 15 = .ok (.laload, 1) := by decide +kernel
theorem dX7_numberOf_16 : decode cX7_numberOf 16 = .ok (.lload_n 1, 1) := by decide +kernel
theorem dX7_numberOf_17 : decode cX7_numberOf 17 = .ok (.lcmp, 1) := by decide +kernel
theorem dX7_numberOf_18 : decode cX7_numberOf 18 = .ok (.ifCond .ne 5, 3) := by decide +kernel
theorem dX7_numberOf_21 : decode cX7_numberOf 21 = .ok (.iload_n 3, 1) := by decide +kernel
theorem dX7_numberOf_22 : decode cX7_numberOf 22 = .ok (.ireturn, 1) := by decide +kernel
theorem dX7_numberOf_23 : decode cX7_numberOf 23 = .ok (.iinc 3 1, 3) := by decide +kernel
theorem dX7_numberOf_26 : decode cX7_numberOf 26 = .ok (.goto (-24), 3) := by decide +kernel
theorem dX7_numberOf_29 : decode cX7_numberOf 29 = .ok (.iconst (-1), 1) := by decide +kernel
theorem dX7_numberOf_30 : decode cX7_numberOf 30 = .ok (.ireturn, 1) := by decide +kernel
theorem dX7_grindAt_0 : decode cX7_grindAt 0 = .ok (.iconst 0, 1) := by decide +kernel
theorem dX7_grindAt_1 : decode cX7_grindAt 1 = .ok (.istore_n 3, 1) := by decide +kernel
theorem dX7_grindAt_2 : decode cX7_grindAt 2 = .ok (.iload_n 3, 1) := by decide +kernel
theorem dX7_grindAt_3 : decode cX7_grindAt 3 = .ok (.aload_n 0, 1) := by decide +kernel
theorem dX7_grindAt_4 : decode cX7_grindAt 4 = .ok (.getfield 9, 3) := by decide +kernel
theorem dX7_grindAt_7 : decode cX7_grindAt 7 = .ok (.if_icmp .ge 49, 3) := by decide +kernel
theorem dX7_grindAt_10 : decode cX7_grindAt 10 = .ok (.aload_n 0, 1) := by decide +kernel
theorem dX7_grindAt_11 : decode cX7_grindAt 11 = .ok (.getfield 19, 3) := by decide +kernel
theorem dX7_grindAt_14 : decode cX7_grindAt 14 = .ok (.iload_n 3, 1) := by decide +kernel
theorem dX7_grindAt_15 : decode cX7_grindAt 15 = .ok (.iaload, 1) := by decide +kernel
theorem dX7_grindAt_16 : decode cX7_grindAt 16 = .ok (.iload_n 1, 1) := by decide +kernel
theorem dX7_grindAt_17 : decode cX7_grindAt 17 = .ok (.if_icmp .ne 33, 3) := by decide +kernel
theorem dX7_grindAt_20 : decode cX7_grindAt 20 = .ok (.aload_n 0, 1) := by decide +kernel
theorem dX7_grindAt_21 : decode cX7_grindAt 21 = .ok (.getfield 23, 3) := by decide +kernel
theorem dX7_grindAt_24 : decode cX7_grindAt 24 = .ok (.iload_n 3, 1) := by decide +kernel
theorem dX7_grindAt_25 : decode cX7_grindAt 25 = .ok (.iaload, 1) := by decide +kernel
theorem dX7_grindAt_26 : decode cX7_grindAt 26 = .ok (.iconst 2, 1) := by decide +kernel
theorem dX7_grindAt_27 : decode cX7_grindAt 27 = .ok (.if_icmp .eq 13, 3) := by decide +kernel
theorem dX7_grindAt_30 : decode cX7_grindAt 30 = .ok (.aload_n 0, 1) := by decide +kernel
theorem dX7_grindAt_31 : decode cX7_grindAt 31 = .ok (.getfield 23, 3) := by decide +kernel
theorem dX7_grindAt_34 : decode cX7_grindAt 34 = .ok (.iload_n 3, 1) := by decide +kernel
theorem dX7_grindAt_35 : decode cX7_grindAt 35 = .ok (.iaload, 1) := by decide +kernel
theorem dX7_grindAt_36 : decode cX7_grindAt 36 = .ok (.iload_n 2, 1) := by decide +kernel
theorem dX7_grindAt_37 : decode cX7_grindAt 37 = .ok (.if_icmp .ne 13, 3) := by decide +kernel
theorem dX7_grindAt_40 : decode cX7_grindAt 40 = .ok (.aload_n 0, 1) := by decide +kernel
theorem dX7_grindAt_41 : decode cX7_grindAt 41 = .ok (.getfield 26, 3) := by decide +kernel
theorem dX7_grindAt_44 : decode cX7_grindAt 44 = .ok (.iload_n 3, 1) := by decide +kernel
theorem dX7_grindAt_45 : decode cX7_grindAt 45 = .ok (.dup2, 1) := by decide +kernel
theorem dX7_grindAt_46 : decode cX7_grindAt 46 = .ok (.iaload, 1) := by decide +kernel
theorem dX7_grindAt_47 : decode cX7_grindAt 47 = .ok (.iconst 1, 1) := by decide +kernel
theorem dX7_grindAt_48 : decode cX7_grindAt 48 = .ok (.iadd, 1) := by decide +kernel
theorem dX7_grindAt_49 : decode cX7_grindAt 49 = .ok (.iastore, 1) := by decide +kernel
theorem dX7_grindAt_50 : decode cX7_grindAt 50 = .ok (.iinc 3 1, 3) := by decide +kernel
theorem dX7_grindAt_53 : decode cX7_grindAt 53 = .ok (.goto (-51), 3) := by decide +kernel
theorem dX7_grindAt_56 : decode cX7_grindAt 56 = .ok (.return_, 1) := by decide +kernel
theorem dX7_groundInAll_0 : decode cX7_groundInAll 0 = .ok (.iconst 0, 1) := by decide +kernel
theorem dX7_groundInAll_1 : decode cX7_groundInAll 1 = .ok (.istore_n 1, 1) := by decide +kernel
theorem dX7_groundInAll_2 : decode cX7_groundInAll 2 = .ok (.iconst 0, 1) := by decide +kernel
theorem dX7_groundInAll_3 : decode cX7_groundInAll 3 = .ok (.istore_n 2, 1) := by decide +kernel
theorem dX7_groundInAll_4 : decode cX7_groundInAll 4 = .ok (.iload_n 2, 1) := by decide +kernel
theorem dX7_groundInAll_5 : decode cX7_groundInAll 5 = .ok (.aload_n 0, 1) := by decide +kernel
theorem dX7_groundInAll_6 : decode cX7_groundInAll 6 = .ok (.getfield 9, 3) := by decide +kernel
theorem dX7_groundInAll_9 : decode cX7_groundInAll 9 = .ok (.if_icmp .ge 18, 3) := by decide +kernel
theorem dX7_groundInAll_12 : decode cX7_groundInAll 12 = .ok (.iload_n 1, 1) := by decide +kernel
theorem dX7_groundInAll_13 : decode cX7_groundInAll 13 = .ok (.aload_n 0, 1) := by decide +kernel
theorem dX7_groundInAll_14 : decode cX7_groundInAll 14 = .ok (.getfield 26, 3) := by decide +kernel
theorem dX7_groundInAll_17 : decode cX7_groundInAll 17 = .ok (.iload_n 2, 1) := by decide +kernel
theorem dX7_groundInAll_18 : decode cX7_groundInAll 18 = .ok (.iaload, 1) := by decide +kernel
theorem dX7_groundInAll_19 : decode cX7_groundInAll 19 = .ok (.iadd, 1) := by decide +kernel
theorem dX7_groundInAll_20 : decode cX7_groundInAll 20 = .ok (.istore_n 1, 1) := by decide +kernel
theorem dX7_groundInAll_21 : decode cX7_groundInAll 21 = .ok (.iinc 2 1, 3) := by decide +kernel
theorem dX7_groundInAll_24 : decode cX7_groundInAll 24 = .ok (.goto (-20), 3) := by decide +kernel
theorem dX7_groundInAll_27 : decode cX7_groundInAll 27 = .ok (.iload_n 1, 1) := by decide +kernel
theorem dX7_groundInAll_28 : decode cX7_groundInAll 28 = .ok (.ireturn, 1) := by decide +kernel
theorem dX8_init_0 : decode cX8_init 0 = .ok (.aload_n 0, 1) := by decide +kernel
theorem dX8_init_1 : decode cX8_init 1 = .ok (.invokespecial 3, 3) := by decide +kernel
theorem dX8_init_4 : decode cX8_init 4 = .ok (.aload_n 0, 1) := by decide +kernel
theorem dX8_init_5 : decode cX8_init 5 = .ok (.sipush 900, 3) := by decide +kernel
theorem dX8_init_8 : decode cX8_init 8 = .ok (.newarray .byte, 2) := by decide +kernel
theorem dX8_init_10 : decode cX8_init 10 = .ok (.putfield 11, 3) := by decide +kernel
theorem dX8_init_13 : decode cX8_init 13 = .ok (.aload_n 0, 1) := by decide +kernel
theorem dX8_init_14 : decode cX8_init 14 = .ok (.iconst 0, 1) := by decide +kernel
theorem dX8_init_15 : decode cX8_init 15 = .ok (.putfield 15, 3) := by decide +kernel
theorem dX8_init_18 : decode cX8_init 18 = .ok (.aload_n 0, 1) := by decide +kernel
theorem dX8_init_19 : decode cX8_init 19 = .ok (.bipush 24, 2) := by decide +kernel
theorem dX8_init_21 : decode cX8_init 21 = .ok (.newarray .long, 2) := by decide +kernel
theorem dX8_init_23 : decode cX8_init 23 = .ok (.putfield 19, 3) := by decide +kernel
theorem dX8_init_26 : decode cX8_init 26 = .ok (.aload_n 0, 1) := by decide +kernel
theorem dX8_init_27 : decode cX8_init 27 = .ok (.iconst 0, 1) := by decide +kernel
theorem dX8_init_28 : decode cX8_init 28 = .ok (.putfield 23, 3) := by decide +kernel
theorem dX8_init_31 : decode cX8_init 31 = .ok (.aload_n 0, 1) := by decide +kernel
theorem dX8_init_32 : decode cX8_init 32 = .ok (.iconst 0, 1) := by decide +kernel
theorem dX8_init_33 : decode cX8_init 33 = .ok (.putfield 26, 3) := by decide +kernel
theorem dX8_init_36 : decode cX8_init 36 = .ok (.aload_n 0, 1) := by decide +kernel
theorem dX8_init_37 : decode cX8_init 37 = .ok (.iconst 0, 1) := by decide +kernel
theorem dX8_init_38 : decode cX8_init 38 = .ok (.putfield 29, 3) := by decide +kernel
theorem dX8_init_41 : decode cX8_init 41 = .ok (.aload_n 0, 1) := by decide +kernel
theorem dX8_init_42 : decode cX8_init 42 = .ok (.iconst 0, 1) := by decide +kernel
theorem dX8_init_43 : decode cX8_init 43 = .ok (.putfield 32, 3) := by decide +kernel
theorem dX8_init_46 : decode cX8_init 46 = .ok (.aload_n 0, 1) := by decide +kernel
theorem dX8_init_47 : decode cX8_init 47 = .ok (.iconst (-1), 1) := by decide +kernel
theorem dX8_init_48 : decode cX8_init 48 = .ok (.putfield 35, 3) := by decide +kernel
theorem dX8_init_51 : decode cX8_init 51 = .ok (.aload_n 0, 1) := by decide +kernel
theorem dX8_init_52 : decode cX8_init 52 = .ok (.lconst 0, 1) := by decide +kernel
theorem dX8_init_53 : decode cX8_init 53 = .ok (.putfield 38, 3) := by decide +kernel
theorem dX8_init_56 : decode cX8_init 56 = .ok (.aload_n 0, 1) := by decide +kernel
theorem dX8_init_57 : decode cX8_init 57 = .ok (.iconst (-1), 1) := by decide +kernel
theorem dX8_init_58 : decode cX8_init 58 = .ok (.putfield 42, 3) := by decide +kernel
theorem dX8_init_61 : decode cX8_init 61 = .ok (.aload_n 0, 1) := by decide +kernel
theorem dX8_init_62 : decode cX8_init 62 = .ok (.iconst (-1), 1) := by decide +kernel
theorem dX8_init_63 : decode cX8_init 63 = .ok (.putfield 45, 3) := by decide +kernel
theorem dX8_init_66 : decode cX8_init 66 = .ok (.lconst 0, 1) := by decide +kernel
theorem dX8_init_67 : decode cX8_init 67 = .ok (.lstore_n 1, 1) := by decide +kernel
theorem dX8_init_68 : decode cX8_init 68 = .ok (.iconst 0, 1) := by decide +kernel
theorem dX8_init_69 : decode cX8_init 69 = .ok (.istore_n 3, 1) := by decide +kernel
theorem dX8_init_70 : decode cX8_init 70 = .ok (.iconst 0, 1) := by decide +kernel
theorem dX8_init_71 : decode cX8_init 71 = .ok (.istore 4, 2) := by decide +kernel
theorem dX8_init_73 : decode cX8_init 73 = .ok (.iload 4, 2) := by decide +kernel
theorem dX8_init_75 : decode cX8_init 75 = .ok (.ldc 48, 2) := by decide +kernel
theorem dX8_init_77 : decode cX8_init 77 = .ok (.invokevirtual 50, 3) := by decide +kernel
theorem dX8_init_80 : decode cX8_init 80 = .ok (.if_icmp .ge 53, 3) := by decide +kernel
theorem dX8_init_83 : decode cX8_init 83 = .ok (.iload_n 3, 1) := by decide +kernel
theorem dX8_init_84 : decode cX8_init 84 = .ok (.bipush 24, 2) := by decide +kernel
theorem dX8_init_86 : decode cX8_init 86 = .ok (.if_icmp .ge 47, 3) := by decide +kernel
theorem dX8_init_89 : decode cX8_init 89 = .ok (.ldc 48, 2) := by decide +kernel
theorem dX8_init_91 : decode cX8_init 91 = .ok (.iload 4, 2) := by decide +kernel
theorem dX8_init_93 : decode cX8_init 93 = .ok (.invokevirtual 55, 3) := by decide +kernel
theorem dX8_init_96 : decode cX8_init 96 = .ok (.istore 5, 2) := by decide +kernel
theorem dX8_init_98 : decode cX8_init 98 = .ok (.iload 5, 2) := by decide +kernel
theorem dX8_init_100 : decode cX8_init 100 = .ok (.bipush 32, 2) := by decide +kernel
theorem dX8_init_102 : decode cX8_init 102 = .ok (.if_icmp .ne 18, 3) := by decide +kernel
theorem dX8_init_105 : decode cX8_init 105 = .ok (.aload_n 0, 1) := by decide +kernel
theorem dX8_init_106 : decode cX8_init 106 = .ok (.getfield 19, 3) := by decide +kernel
theorem dX8_init_109 : decode cX8_init 109 = .ok (.iload_n 3, 1) := by decide +kernel
theorem dX8_init_110 : decode cX8_init 110 = .ok (.lload_n 1, 1) := by decide +kernel
theorem dX8_init_111 : decode cX8_init 111 = .ok (.lastore, 1) := by decide +kernel
theorem dX8_init_112 : decode cX8_init 112 = .ok (.iinc 3 1, 3) := by decide +kernel
theorem dX8_init_115 : decode cX8_init 115 = .ok (.lconst 0, 1) := by decide +kernel
theorem dX8_init_116 : decode cX8_init 116 = .ok (.lstore_n 1, 1) := by decide +kernel
theorem dX8_init_117 : decode cX8_init 117 = .ok (.goto 10, 3) := by decide +kernel
theorem dX8_init_120 : decode cX8_init 120 = .ok (.lload_n 1, 1) := by decide +kernel
theorem dX8_init_121 : decode cX8_init 121 = .ok (.iload 5, 2) := by decide +kernel
theorem dX8_init_123 : decode cX8_init 123 = .ok (.invokestatic 59, 3) := by decide +kernel
theorem dX8_init_126 : decode cX8_init 126 = .ok (.lstore_n 1, 1) := by decide +kernel
theorem dX8_init_127 : decode cX8_init 127 = .ok (.iinc 4 1, 3) := by decide +kernel
theorem dX8_init_130 : decode cX8_init 130 = .ok (.goto (-57), 3) := by decide +kernel
theorem dX8_init_133 : decode cX8_init 133 = .ok (.return_, 1) := by decide +kernel
theorem dX8_withLetter_0 : decode cX8_withLetter 0 = .ok (.lload_n 0, 1) := by decide +kernel
theorem dX8_withLetter_1 : decode cX8_withLetter 1 = .ok (.iconst 5, 1) := by decide +kernel
theorem dX8_withLetter_2 : decode cX8_withLetter 2 = .ok (.lshl, 1) := by decide +kernel
theorem dX8_withLetter_3 : decode cX8_withLetter 3 = .ok (.iload_n 2, 1) := by decide +kernel
theorem dX8_withLetter_4 : decode cX8_withLetter 4 = .ok (.bipush 97, 2) := by decide +kernel
theorem dX8_withLetter_6 : decode cX8_withLetter 6 = .ok (.isub, 1) := by decide +kernel
theorem dX8_withLetter_7 : decode cX8_withLetter 7 = .ok (.iconst 1, 1) := by decide +kernel
theorem dX8_withLetter_8 : decode cX8_withLetter 8 = .ok (.iadd, 1) := by decide +kernel
theorem dX8_withLetter_9 : decode cX8_withLetter 9 = .ok (.i2l, 1) := by decide +kernel
theorem dX8_withLetter_10 : decode cX8_withLetter 10 = .ok (.lor, 1) := by decide +kernel
theorem dX8_withLetter_11 : decode cX8_withLetter 11 = .ok (.lreturn, 1) := by decide +kernel
theorem dX8_hasRoomFor_0 : decode cX8_hasRoomFor 0 = .ok (.aload_n 0, 1) := by decide +kernel
theorem dX8_hasRoomFor_1 : decode cX8_hasRoomFor 1 = .ok (.getfield 15, 3) := by decide +kernel
theorem dX8_hasRoomFor_4 : decode cX8_hasRoomFor 4 = .ok (.iload_n 1, 1) := by decide +kernel
theorem dX8_hasRoomFor_5 : decode cX8_hasRoomFor 5 = .ok (.iadd, 1) := by decide +kernel
theorem dX8_hasRoomFor_6 : decode cX8_hasRoomFor 6 = .ok (.sipush 900, 3) := by decide +kernel
theorem dX8_hasRoomFor_9 : decode cX8_hasRoomFor 9 = .ok (.if_icmp .gt 7, 3) := by decide +kernel
theorem dX8_hasRoomFor_12 : decode cX8_hasRoomFor 12 = .ok (.iconst 1, 1) := by decide +kernel
theorem dX8_hasRoomFor_13 : decode cX8_hasRoomFor 13 = .ok (.goto 4, 3) := by decide +kernel
theorem dX8_hasRoomFor_16 : decode cX8_hasRoomFor 16 = .ok (.iconst 0, 1) := by decide +kernel
theorem dX8_hasRoomFor_17 : decode cX8_hasRoomFor 17 = .ok (.ireturn, 1) := by decide +kernel
theorem dX8_append_0 : decode cX8_append 0 = .ok (.bipush 24, 2) := by decide +kernel
theorem dX8_append_2 : decode cX8_append 2 = .ok (.istore_n 2, 1) := by decide +kernel
theorem dX8_append_3 : decode cX8_append 3 = .ok (.iload_n 2, 1) := by decide +kernel
theorem dX8_append_4 : decode cX8_append 4 = .ok (.ifCond .lt 42, 3) := by decide +kernel
theorem dX8_append_7 : decode cX8_append 7 = .ok (.aload_n 0, 1) := by decide +kernel
theorem dX8_append_8 : decode cX8_append 8 = .ok (.getfield 15, 3) := by decide +kernel
theorem dX8_append_11 : decode cX8_append 11 = .ok (.sipush 900, 3) := by decide +kernel
theorem dX8_append_14 : decode cX8_append 14 = .ok (.if_icmp .ge 32, 3) := by decide +kernel
theorem dX8_append_17 : decode cX8_append 17 = .ok (.aload_n 0, 1) := by decide +kernel
theorem dX8_append_18 : decode cX8_append 18 = .ok (.getfield 11, 3) := by decide +kernel
theorem dX8_append_21 : decode cX8_append 21 = .ok (.aload_n 0, 1) := by decide +kernel
theorem dX8_append_22 : decode cX8_append 22 = .ok (.getfield 15, 3) := by decide +kernel
theorem dX8_append_25 : decode cX8_append 25 = .ok (.iload_n 1, 1) := by decide +kernel
theorem dX8_append_26 : decode cX8_append 26 = .ok (.iload_n 2, 1) := by decide +kernel
theorem dX8_append_27 : decode cX8_append 27 = .ok (.ishr, 1) := by decide +kernel
theorem dX8_append_28 : decode cX8_append 28 = .ok (.i2b, 1) := by decide +kernel
theorem dX8_append_29 : decode cX8_append 29 = .ok (.bastore, 1) := by decide +kernel
theorem dX8_append_30 : decode cX8_append 30 = .ok (.aload_n 0, 1) := by decide +kernel
theorem dX8_append_31 : decode cX8_append 31 = .ok (.dup, 1) := by decide +kernel
theorem dX8_append_32 : decode cX8_append 32 = .ok (.getfield 15, 3) := by decide +kernel
theorem dX8_append_35 : decode cX8_append 35 = .ok (.iconst 1, 1) := by decide +kernel
theorem dX8_append_36 : decode cX8_append 36 = .ok (.iadd, 1) := by decide +kernel
theorem dX8_append_37 : decode cX8_append 37 = .ok (.putfield 15, 3) := by decide +kernel
theorem dX8_append_40 : decode cX8_append 40 = .ok (.iinc 2 (-8), 3) := by decide +kernel
theorem dX8_append_43 : decode cX8_append 43 = .ok (.goto (-40), 3) := by decide +kernel
theorem dX8_append_46 : decode cX8_append 46 = .ok (.return_, 1) := by decide +kernel
theorem dX8_open_0 : decode cX8_open 0 = .ok (.aload_n 0, 1) := by decide +kernel
theorem dX8_open_1 : decode cX8_open 1 = .ok (.iconst 0, 1) := by decide +kernel
theorem dX8_open_2 : decode cX8_open 2 = .ok (.iload_n 1, 1) := by decide +kernel
theorem dX8_open_3 : decode cX8_open 3 = .ok (.sipush 900, 3) := by decide +kernel
theorem dX8_open_6 : decode cX8_open 6 = .ok (.invokestatic 63, 3) := by decide +kernel
theorem dX8_open_9 : decode cX8_open 9 = .ok (.invokestatic 69, 3) := by decide +kernel
theorem dX8_open_12 : decode cX8_open 12 = .ok (.putfield 23, 3) := by decide +kernel
theorem dX8_open_15 : decode cX8_open 15 = .ok (.aload_n 0, 1) := by decide +kernel
theorem dX8_open_16 : decode cX8_open 16 = .ok (.iconst 0, 1) := by decide +kernel
theorem dX8_open_17 : decode cX8_open 17 = .ok (.putfield 15, 3) := by decide +kernel
theorem dX8_open_20 : decode cX8_open 20 = .ok (.aload_n 0, 1) := by decide +kernel
theorem dX8_open_21 : decode cX8_open 21 = .ok (.iconst 0, 1) := by decide +kernel
theorem dX8_open_22 : decode cX8_open 22 = .ok (.putfield 26, 3) := by decide +kernel
theorem dX8_open_25 : decode cX8_open 25 = .ok (.aload_n 0, 1) := by decide +kernel
theorem dX8_open_26 : decode cX8_open 26 = .ok (.iconst 0, 1) := by decide +kernel
theorem dX8_open_27 : decode cX8_open 27 = .ok (.putfield 42, 3) := by decide +kernel
theorem dX8_open_30 : decode cX8_open 30 = .ok (.aload_n 0, 1) := by decide +kernel
theorem dX8_open_31 : decode cX8_open 31 = .ok (.iconst (-1), 1) := by decide +kernel
theorem dX8_open_32 : decode cX8_open 32 = .ok (.putfield 45, 3) := by decide +kernel
theorem dX8_open_35 : decode cX8_open 35 = .ok (.aload_n 0, 1) := by decide +kernel
theorem dX8_open_36 : decode cX8_open 36 = .ok (.invokevirtual 72, 3) := by decide +kernel
theorem dX8_open_39 : decode cX8_open 39 = .ok (.return_, 1) := by decide +kernel
theorem dX8_isLetter_0 : decode cX8_isLetter 0 = .ok (.iload_n 0, 1) := by decide +kernel
theorem dX8_isLetter_1 : decode cX8_isLetter 1 = .ok (.bipush 97, 2) := by decide +kernel
theorem dX8_isLetter_3 : decode cX8_isLetter 3 = .ok (.if_icmp .lt 13, 3) := by decide +kernel
theorem dX8_isLetter_6 : decode cX8_isLetter 6 = .ok (.iload_n 0, 1) := by decide +kernel
theorem dX8_isLetter_7 : decode cX8_isLetter 7 = .ok (.bipush 122, 2) := by decide +kernel
theorem dX8_isLetter_9 : decode cX8_isLetter 9 = .ok (.if_icmp .gt 7, 3) := by decide +kernel
theorem dX8_isLetter_12 : decode cX8_isLetter 12 = .ok (.iconst 1, 1) := by decide +kernel
theorem dX8_isLetter_13 : decode cX8_isLetter 13 = .ok (.goto 4, 3) := by decide +kernel
theorem dX8_isLetter_16 : decode cX8_isLetter 16 = .ok (.iconst 0, 1) := by decide +kernel
theorem dX8_isLetter_17 : decode cX8_isLetter 17 = .ok (.ireturn, 1) := by decide +kernel
theorem dX8_isDigit_0 : decode cX8_isDigit 0 = .ok (.iload_n 0, 1) := by decide +kernel
theorem dX8_isDigit_1 : decode cX8_isDigit 1 = .ok (.bipush 48, 2) := by decide +kernel
theorem dX8_isDigit_3 : decode cX8_isDigit 3 = .ok (.if_icmp .lt 13, 3) := by decide +kernel
theorem dX8_isDigit_6 : decode cX8_isDigit 6 = .ok (.iload_n 0, 1) := by decide +kernel
theorem dX8_isDigit_7 : decode cX8_isDigit 7 = .ok (.bipush 57, 2) := by decide +kernel
theorem dX8_isDigit_9 : decode cX8_isDigit 9 = .ok (.if_icmp .gt 7, 3) := by decide +kernel
theorem dX8_isDigit_12 : decode cX8_isDigit 12 = .ok (.iconst 1, 1) := by decide +kernel
theorem dX8_isDigit_13 : decode cX8_isDigit 13 = .ok (.goto 4, 3) := by decide +kernel
theorem dX8_isDigit_16 : decode cX8_isDigit 16 = .ok (.iconst 0, 1) := by decide +kernel
theorem dX8_isDigit_17 : decode cX8_isDigit 17 = .ok (.ireturn, 1) := by decide +kernel
theorem dX8_advance_0 : decode cX8_advance 0 = .ok (.aload_n 0, 1) := by decide +kernel
theorem dX8_advance_1 : decode cX8_advance 1 = .ok (.getfield 26, 3) := by decide +kernel
theorem dX8_advance_4 : decode cX8_advance 4 = .ok (.aload_n 0, 1) := by decide +kernel
theorem dX8_advance_5 : decode cX8_advance 5 = .ok (.getfield 23, 3) := by decide +kernel
theorem dX8_advance_8 : decode cX8_advance 8 = .ok (.if_icmp .ge 44, 3) := by decide +kernel
theorem dX8_advance_11 : decode cX8_advance 11 = .ok (.aload_n 0, 1) := by decide +kernel
theorem dX8_advance_12 : decode cX8_advance 12 = .ok (.getfield 11, 3) := by decide +kernel
theorem dX8_advance_15 : decode cX8_advance 15 = .ok (.aload_n 0, 1) := by decide +kernel
theorem dX8_advance_16 : decode cX8_advance 16 = .ok (.getfield 26, 3) := by decide +kernel
theorem dX8_advance_19 : decode cX8_advance 19 = .ok (.baload, 1) := by decide +kernel
theorem dX8_advance_20 : decode cX8_advance 20 = .ok (.bipush 10, 2) := by decide +kernel
theorem dX8_advance_22 : decode cX8_advance 22 = .ok (.if_icmp .eq 17, 3) := by decide +kernel
theorem dX8_advance_25 : decode cX8_advance 25 = .ok (.aload_n 0, 1) := by decide +kernel
theorem dX8_advance_26 : decode cX8_advance 26 = .ok (.getfield 11, 3) := by decide +kernel
theorem dX8_advance_29 : decode cX8_advance 29 = .ok (.aload_n 0, 1) := by decide +kernel
theorem dX8_advance_30 : decode cX8_advance 30 = .ok (.getfield 26, 3) := by decide +kernel
theorem dX8_advance_33 : decode cX8_advance 33 = .ok (.baload, 1) := by decide +kernel
theorem dX8_advance_34 : decode cX8_advance 34 = .ok (.bipush 32, 2) := by decide +kernel
theorem dX8_advance_36 : decode cX8_advance 36 = .ok (.if_icmp .ne 16, 3) := by decide +kernel
theorem dX8_advance_39 : decode cX8_advance 39 = .ok (.aload_n 0, 1) := by decide +kernel
theorem dX8_advance_40 : decode cX8_advance 40 = .ok (.dup, 1) := by decide +kernel
theorem dX8_advance_41 : decode cX8_advance 41 = .ok (.getfield 26, 3) := by decide +kernel
theorem dX8_advance_44 : decode cX8_advance 44 = .ok (.iconst 1, 1) := by decide +kernel
theorem dX8_advance_45 : decode cX8_advance 45 = .ok (.iadd, 1) := by decide +kernel
theorem dX8_advance_46 : decode cX8_advance 46 = .ok (.putfield 26, 3) := by decide +kernel
theorem dX8_advance_49 : decode cX8_advance 49 = .ok (.goto (-49), 3) := by decide +kernel
theorem dX8_advance_52 : decode cX8_advance 52 = .ok (.aload_n 0, 1) := by decide +kernel
theorem dX8_advance_53 : decode cX8_advance 53 = .ok (.aload_n 0, 1) := by decide +kernel
theorem dX8_advance_54 : decode cX8_advance 54 = .ok (.getfield 26, 3) := by decide +kernel
theorem dX8_advance_57 : decode cX8_advance 57 = .ok (.putfield 32, 3) := by decide +kernel
theorem dX8_advance_60 : decode cX8_advance 60 = .ok (.aload_n 0, 1) := by decide +kernel
theorem dX8_advance_61 : decode cX8_advance 61 = .ok (.iconst (-1), 1) := by decide +kernel
theorem dX8_advance_62 : decode cX8_advance 62 = .ok (.putfield 35, 3) := by decide +kernel
theorem dX8_advance_65 : decode cX8_advance 65 = .ok (.aload_n 0, 1) := by decide +kernel
theorem dX8_advance_66 : decode cX8_advance 66 = .ok (.lconst 0, 1) := by decide +kernel
theorem dX8_advance_67 : decode cX8_advance 67 = .ok (.putfield 38, 3) := by decide +kernel
theorem dX8_advance_70 : decode cX8_advance 70 = .ok (.aload_n 0, 1) := by decide +kernel
theorem dX8_advance_71 : decode cX8_advance 71 = .ok (.getfield 26, 3) := by decide +kernel
theorem dX8_advance_74 : decode cX8_advance 74 = .ok (.aload_n 0, 1) := by decide +kernel
theorem dX8_advance_75 : decode cX8_advance 75 = .ok (.getfield 23, 3) := by decide +kernel
theorem dX8_advance_78 : decode cX8_advance 78 = .ok (.if_icmp .ge 15, 3) := by decide +kernel
theorem dX8_advance_81 : decode cX8_advance 81 = .ok (.aload_n 0, 1) := by decide +kernel
theorem dX8_advance_82 : decode cX8_advance 82 = .ok (.getfield 11, 3) := by decide +kernel
theorem dX8_advance_85 : decode cX8_advance 85 = .ok (.aload_n 0, 1) := by decide +kernel
theorem dX8_advance_86 : decode cX8_advance 86 = .ok (.getfield 26, 3) := by decide +kernel
theorem dX8_advance_89 : decode cX8_advance 89 = .ok (.baload, 1) := by decide +kernel
theorem dX8_advance_90 : decode cX8_advance 90 = .ok (.goto 4, 3) := by decide +kernel
theorem dX8_advance_93 : decode cX8_advance 93 = .ok (.iconst (-1), 1) := by decide +kernel
theorem dX8_advance_94 : decode cX8_advance 94 = .ok (.istore_n 1, 1) := by decide +kernel
theorem dX8_advance_95 : decode cX8_advance 95 = .ok (.aload_n 0, 1) := by decide +kernel
theorem dX8_advance_96 : decode cX8_advance 96 = .ok (.getfield 26, 3) := by decide +kernel
theorem dX8_advance_99 : decode cX8_advance 99 = .ok (.aload_n 0, 1) := by decide +kernel
theorem dX8_advance_100 : decode cX8_advance 100 = .ok (.getfield 23, 3) := by decide +kernel
theorem dX8_advance_103 : decode cX8_advance 103 = .ok (.if_icmp .lt 11, 3) := by decide +kernel
theorem dX8_advance_106 : decode cX8_advance 106 = .ok (.aload_n 0, 1) := by decide +kernel
theorem dX8_advance_107 : decode cX8_advance 107 = .ok (.iconst 0, 1) := by decide +kernel
theorem dX8_advance_108 : decode cX8_advance 108 = .ok (.putfield 29, 3) := by decide +kernel
theorem dX8_advance_111 : decode cX8_advance 111 = .ok (.goto 83, 3) := by decide +kernel
theorem dX8_advance_114 : decode cX8_advance 114 = .ok (.iload_n 1, 1) := by decide +kernel
theorem dX8_advance_115 : decode cX8_advance 115 = .ok (.invokestatic 75, 3) := by decide +kernel
theorem dX8_advance_118 : decode cX8_advance 118 = .ok (.ifCond .eq 10, 3) := by decide +kernel
theorem dX8_advance_121 : decode cX8_advance 121 = .ok (.aload_n 0, 1) := by decide +kernel
theorem dX8_advance_122 : decode cX8_advance 122 = .ok (.invokevirtual 79, 3) := by decide +kernel
theorem dX8_advance_125 : decode cX8_advance 125 = .ok (.goto 69, 3) := by decide +kernel
theorem dX8_advance_128 : decode cX8_advance 128 = .ok (.iload_n 1, 1) := by decide +kernel
theorem dX8_advance_129 : decode cX8_advance 129 = .ok (.invokestatic 82, 3) := by decide +kernel
theorem dX8_advance_132 : decode cX8_advance 132 = .ok (.ifCond .eq 10, 3) := by decide +kernel
theorem dX8_advance_135 : decode cX8_advance 135 = .ok (.aload_n 0, 1) := by decide +kernel
theorem dX8_advance_136 : decode cX8_advance 136 = .ok (.invokevirtual 85, 3) := by decide +kernel
theorem dX8_advance_139 : decode cX8_advance 139 = .ok (.goto 55, 3) := by decide +kernel
theorem dX8_advance_142 : decode cX8_advance 142 = .ok (.iload_n 1, 1) := by decide +kernel
theorem dX8_advance_143 : decode cX8_advance 143 = .ok (.bipush 59, 2) := by decide +kernel
theorem dX8_advance_145 : decode cX8_advance 145 = .ok (.if_icmp .eq 21, 3) := by decide +kernel
theorem dX8_advance_148 : decode cX8_advance 148 = .ok (.iload_n 1, 1) := by decide +kernel
theorem dX8_advance_149 : decode cX8_advance 149 = .ok (.bipush 60, 2) := by decide +kernel
theorem dX8_advance_151 : decode cX8_advance 151 = .ok (.if_icmp .eq 15, 3) := by decide +kernel
theorem dX8_advance_154 : decode cX8_advance 154 = .ok (.iload_n 1, 1) := by decide +kernel
theorem dX8_advance_155 : decode cX8_advance 155 = .ok (.bipush 62, 2) := by decide +kernel
theorem dX8_advance_157 : decode cX8_advance 157 = .ok (.if_icmp .eq 9, 3) := by decide +kernel
theorem dX8_advance_160 : decode cX8_advance 160 = .ok (.iload_n 1, 1) := by decide +kernel
theorem dX8_advance_161 : decode cX8_advance 161 = .ok (.bipush 61, 2) := by decide +kernel
theorem dX8_advance_163 : decode cX8_advance 163 = .ok (.if_icmp .ne 26, 3) := by decide +kernel
theorem dX8_advance_166 : decode cX8_advance 166 = .ok (.aload_n 0, 1) := by decide +kernel
theorem dX8_advance_167 : decode cX8_advance 167 = .ok (.iconst 3, 1) := by decide +kernel
theorem dX8_advance_168 : decode cX8_advance 168 = .ok (.putfield 29, 3) := by decide +kernel
theorem dX8_advance_171 : decode cX8_advance 171 = .ok (.aload_n 0, 1) := by decide +kernel
theorem dX8_advance_172 : decode cX8_advance 172 = .ok (.iload_n 1, 1) := by decide +kernel
theorem dX8_advance_173 : decode cX8_advance 173 = .ok (.putfield 35, 3) := by decide +kernel
theorem dX8_advance_176 : decode cX8_advance 176 = .ok (.aload_n 0, 1) := by decide +kernel
theorem dX8_advance_177 : decode cX8_advance 177 = .ok (.dup, 1) := by decide +kernel
theorem dX8_advance_178 : decode cX8_advance 178 = .ok (.getfield 26, 3) := by decide +kernel
theorem dX8_advance_181 : decode cX8_advance 181 = .ok (.iconst 1, 1) := by decide +kernel
theorem dX8_advance_182 : decode cX8_advance 182 = .ok (.iadd, 1) := by decide +kernel
theorem dX8_advance_183 : decode cX8_advance 183 = .ok (.putfield 26, 3) := by decide +kernel
theorem dX8_advance_186 : decode cX8_advance 186 = .ok (.goto 8, 3) := by decide +kernel
theorem dX8_advance_189 : decode cX8_advance 189 = .ok (.aload_n 0, 1) := by decide +kernel
theorem dX8_advance_190 : decode cX8_advance 190 = .ok (.iconst 4, 1) := by decide +kernel
theorem dX8_advance_191 : decode cX8_advance 191 = .ok (.putfield 29, 3) := by decide +kernel
theorem dX8_advance_194 : decode cX8_advance 194 = .ok (.return_, 1) := by decide +kernel
theorem dX8_takeWord_0 : decode cX8_takeWord 0 = .ok (.aload_n 0, 1) := by decide +kernel
theorem dX8_takeWord_1 : decode cX8_takeWord 1 = .ok (.iconst 1, 1) := by decide +kernel
theorem dX8_takeWord_2 : decode cX8_takeWord 2 = .ok (.putfield 29, 3) := by decide +kernel
theorem dX8_takeWord_5 : decode cX8_takeWord 5 = .ok (.lconst 0, 1) := by decide +kernel
theorem dX8_takeWord_6 : decode cX8_takeWord 6 = .ok (.lstore_n 1, 1) := by decide +kernel
theorem dX8_takeWord_7 : decode cX8_takeWord 7 = .ok (.aload_n 0, 1) := by decide +kernel
theorem dX8_takeWord_8 : decode cX8_takeWord 8 = .ok (.getfield 26, 3) := by decide +kernel
theorem dX8_takeWord_11 : decode cX8_takeWord 11 = .ok (.aload_n 0, 1) := by decide +kernel
theorem dX8_takeWord_12 : decode cX8_takeWord 12 = .ok (.getfield 23, 3) := by decide +kernel
theorem dX8_takeWord_15 : decode cX8_takeWord 15 = .ok (.if_icmp .ge 45, 3) := by decide +kernel
theorem dX8_takeWord_18 : decode cX8_takeWord 18 = .ok (.aload_n 0, 1) := by decide +kernel
theorem dX8_takeWord_19 : decode cX8_takeWord 19 = .ok (.getfield 11, 3) := by decide +kernel
theorem dX8_takeWord_22 : decode cX8_takeWord 22 = .ok (.aload_n 0, 1) := by decide +kernel
theorem dX8_takeWord_23 : decode cX8_takeWord 23 = .ok (.getfield 26, 3) := by decide +kernel
theorem dX8_takeWord_26 : decode cX8_takeWord 26 = .ok (.baload, 1) := by decide +kernel
theorem dX8_takeWord_27 : decode cX8_takeWord 27 = .ok (.invokestatic 75, 3) := by decide +kernel
theorem dX8_takeWord_30 : decode cX8_takeWord 30 = .ok (.ifCond .eq 30, 3) := by decide +kernel
theorem dX8_takeWord_33 : decode cX8_takeWord 33 = .ok (.lload_n 1, 1) := by decide +kernel
theorem dX8_takeWord_34 : decode cX8_takeWord 34 = .ok (.aload_n 0, 1) := by decide +kernel
theorem dX8_takeWord_35 : decode cX8_takeWord 35 = .ok (.getfield 11, 3) := by decide +kernel
theorem dX8_takeWord_38 : decode cX8_takeWord 38 = .ok (.aload_n 0, 1) := by decide +kernel
theorem dX8_takeWord_39 : decode cX8_takeWord 39 = .ok (.getfield 26, 3) := by decide +kernel
theorem dX8_takeWord_42 : decode cX8_takeWord 42 = .ok (.baload, 1) := by decide +kernel
theorem dX8_takeWord_43 : decode cX8_takeWord 43 = .ok (.invokestatic 59, 3) := by decide +kernel
theorem dX8_takeWord_46 : decode cX8_takeWord 46 = .ok (.lstore_n 1, 1) := by decide +kernel
theorem dX8_takeWord_47 : decode cX8_takeWord 47 = .ok (.aload_n 0, 1) := by decide +kernel
theorem dX8_takeWord_48 : decode cX8_takeWord 48 = .ok (.dup, 1) := by decide +kernel
theorem dX8_takeWord_49 : decode cX8_takeWord 49 = .ok (.getfield 26, 3) := by decide +kernel
theorem dX8_takeWord_52 : decode cX8_takeWord 52 = .ok (.iconst 1, 1) := by decide +kernel
theorem dX8_takeWord_53 : decode cX8_takeWord 53 = .ok (.iadd, 1) := by decide +kernel
theorem dX8_takeWord_54 : decode cX8_takeWord 54 = .ok (.putfield 26, 3) := by decide +kernel
theorem dX8_takeWord_57 : decode cX8_takeWord 57 = .ok (.goto (-50), 3) := by decide +kernel
theorem dX8_takeWord_60 : decode cX8_takeWord 60 = .ok (.aload_n 0, 1) := by decide +kernel
theorem dX8_takeWord_61 : decode cX8_takeWord 61 = .ok (.getfield 26, 3) := by decide +kernel
theorem dX8_takeWord_64 : decode cX8_takeWord 64 = .ok (.aload_n 0, 1) := by decide +kernel
theorem dX8_takeWord_65 : decode cX8_takeWord 65 = .ok (.getfield 32, 3) := by decide +kernel
theorem dX8_takeWord_68 : decode cX8_takeWord 68 = .ok (.isub, 1) := by decide +kernel
theorem dX8_takeWord_69 : decode cX8_takeWord 69 = .ok (.bipush 8, 2) := by decide +kernel
theorem dX8_takeWord_71 : decode cX8_takeWord 71 = .ok (.if_icmp .le 4, 3) := by decide +kernel
theorem dX8_takeWord_74 : decode cX8_takeWord 74 = .ok (.return_, 1) := by decide +kernel
theorem dX8_takeWord_75 : decode cX8_takeWord 75 = .ok (.aload_n 0, 1) := by decide +kernel
theorem dX8_takeWord_76 : decode cX8_takeWord 76 = .ok (.lload_n 1, 1) := by decide +kernel
theorem dX8_takeWord_77 : decode cX8_takeWord 77 = .ok (.putfield 38, 3) := by decide +kernel
theorem dX8_takeWord_80 : decode cX8_takeWord 80 = .ok (.iconst 0, 1) := by decide +kernel
theorem dX8_takeWord_81 : decode cX8_takeWord 81 = .ok (.istore_n 3, 1) := by decide +kernel
theorem dX8_takeWord_82 : decode cX8_takeWord 82 = .ok (.iload_n 3, 1) := by decide +kernel
theorem dX8_takeWord_83 : decode cX8_takeWord 83 = .ok (.bipush 24, 2) := by decide +kernel
theorem dX8_takeWord_85 : decode cX8_takeWord 85 = .ok (.if_icmp .ge 25, 3) := by decide +kernel
theorem dX8_takeWord_88 : decode cX8_takeWord 88 = .ok (.aload_n 0, 1) := by decide +kernel
theorem dX8_takeWord_89 : decode cX8_takeWord 89 = .ok (.getfield 19, 3) := by decide +kernel
theorem dX8_takeWord_92 : decode cX8_takeWord 92 = .ok (.iload_n 3, 1) := by decide +kernel
theorem dX8_takeWord_93 : decode cX8_takeWord 93 = .ok (.laload, 1) := by decide +kernel
theorem dX8_takeWord_94 : decode cX8_takeWord 94 = .ok (.lload_n 1, 1) := by decide +kernel
theorem dX8_takeWord_95 : decode cX8_takeWord 95 = .ok (.lcmp, 1) := by decide +kernel
theorem dX8_takeWord_96 : decode cX8_takeWord 96 = .ok (.ifCond .ne 8, 3) := by decide +kernel
theorem dX8_takeWord_99 : decode cX8_takeWord 99 = .ok (.aload_n 0, 1) := by decide +kernel
theorem dX8_takeWord_100 : decode cX8_takeWord 100 = .ok (.iload_n 3, 1) := by decide +kernel
theorem dX8_takeWord_101 : decode cX8_takeWord 101 = .ok (.putfield 35, 3) := by decide +kernel
theorem dX8_takeWord_104 : decode cX8_takeWord 104 = .ok (.iinc 3 1, 3) := by decide +kernel
theorem dX8_takeWord_107 : decode cX8_takeWord 107 = .ok (.goto (-25), 3) := by decide +kernel
theorem dX8_takeWord_110 : decode cX8_takeWord 110 = .ok (.return_, 1) := by decide +kernel
theorem dX8_takeNumber_0 : decode cX8_takeNumber 0 = .ok (.iconst 0, 1) := by decide +kernel
theorem dX8_takeNumber_1 : decode cX8_takeNumber 1 = .ok (.istore_n 1, 1) := by decide +kernel
theorem dX8_takeNumber_2 : decode cX8_takeNumber 2 = .ok (.aload_n 0, 1) := by decide +kernel
theorem dX8_takeNumber_3 : decode cX8_takeNumber 3 = .ok (.getfield 26, 3) := by decide +kernel
theorem dX8_takeNumber_6 : decode cX8_takeNumber 6 = .ok (.aload_n 0, 1) := by decide +kernel
theorem dX8_takeNumber_7 : decode cX8_takeNumber 7 = .ok (.getfield 23, 3) := by decide +kernel
theorem dX8_takeNumber_10 : decode cX8_takeNumber 10 = .ok (.if_icmp .ge 62, 3) := by decide +kernel
theorem dX8_takeNumber_13 : decode cX8_takeNumber 13 = .ok (.aload_n 0, 1) := by decide +kernel
theorem dX8_takeNumber_14 : decode cX8_takeNumber 14 = .ok (.getfield 11, 3) := by decide +kernel
theorem dX8_takeNumber_17 : decode cX8_takeNumber 17 = .ok (.aload_n 0, 1) := by decide +kernel
theorem dX8_takeNumber_18 : decode cX8_takeNumber 18 = .ok (.getfield 26, 3) := by decide +kernel
theorem dX8_takeNumber_21 : decode cX8_takeNumber 21 = .ok (.baload, 1) := by decide +kernel
theorem dX8_takeNumber_22 : decode cX8_takeNumber 22 = .ok (.invokestatic 82, 3) := by decide +kernel
theorem dX8_takeNumber_25 : decode cX8_takeNumber 25 = .ok (.ifCond .eq 47, 3) := by decide +kernel
theorem dX8_takeNumber_28 : decode cX8_takeNumber 28 = .ok (.aload_n 0, 1) := by decide +kernel
theorem dX8_takeNumber_29 : decode cX8_takeNumber 29 = .ok (.getfield 26, 3) := by decide +kernel
theorem dX8_takeNumber_32 : decode cX8_takeNumber 32 = .ok (.aload_n 0, 1) := by decide +kernel
theorem dX8_takeNumber_33 : decode cX8_takeNumber 33 = .ok (.getfield 32, 3) := by decide +kernel
theorem dX8_takeNumber_36 : decode cX8_takeNumber 36 = .ok (.isub, 1) := by decide +kernel
theorem dX8_takeNumber_37 : decode cX8_takeNumber 37 = .ok (.iconst 4, 1) := by decide +kernel
theorem dX8_takeNumber_38 : decode cX8_takeNumber 38 = .ok (.if_icmp .ge 21, 3) := by decide +kernel
theorem dX8_takeNumber_41 : decode cX8_takeNumber 41 = .ok (.iload_n 1, 1) := by decide +kernel
theorem dX8_takeNumber_42 : decode cX8_takeNumber 42 = .ok (.bipush 10, 2) := by decide +kernel
theorem dX8_takeNumber_44 : decode cX8_takeNumber 44 = .ok (.imul, 1) := by decide +kernel
theorem dX8_takeNumber_45 : decode cX8_takeNumber 45 = .ok (.aload_n 0, 1) := by decide +kernel
theorem dX8_takeNumber_46 : decode cX8_takeNumber 46 = .ok (.getfield 11, 3) := by decide +kernel
theorem dX8_takeNumber_49 : decode cX8_takeNumber 49 = .ok (.aload_n 0, 1) := by decide +kernel
theorem dX8_takeNumber_50 : decode cX8_takeNumber 50 = .ok (.getfield 26, 3) := by decide +kernel
theorem dX8_takeNumber_53 : decode cX8_takeNumber 53 = .ok (.baload, 1) := by decide +kernel
theorem dX8_takeNumber_54 : decode cX8_takeNumber 54 = .ok (.iadd, 1) := by decide +kernel
theorem dX8_takeNumber_55 : decode cX8_takeNumber 55 = .ok (.bipush 48, 2) := by decide +kernel
theorem dX8_takeNumber_57 : decode cX8_takeNumber 57 = .ok (.isub, 1) := by decide +kernel
theorem dX8_takeNumber_58 : decode cX8_takeNumber 58 = .ok (.istore_n 1, 1) := by decide +kernel
theorem dX8_takeNumber_59 : decode cX8_takeNumber 59 = .ok (.aload_n 0, 1) := by decide +kernel
theorem dX8_takeNumber_60 : decode cX8_takeNumber 60 = .ok (.dup, 1) := by decide +kernel
theorem dX8_takeNumber_61 : decode cX8_takeNumber 61 = .ok (.getfield 26, 3) := by decide +kernel
theorem dX8_takeNumber_64 : decode cX8_takeNumber 64 = .ok (.iconst 1, 1) := by decide +kernel
theorem dX8_takeNumber_65 : decode cX8_takeNumber 65 = .ok (.iadd, 1) := by decide +kernel
theorem dX8_takeNumber_66 : decode cX8_takeNumber 66 = .ok (.putfield 26, 3) := by decide +kernel
theorem dX8_takeNumber_69 : decode cX8_takeNumber 69 = .ok (.goto (-67), 3) := by decide +kernel
theorem dX8_takeNumber_72 : decode cX8_takeNumber 72 = .ok (.aload_n 0, 1) := by decide +kernel
theorem dX8_takeNumber_73 : decode cX8_takeNumber 73 = .ok (.aload_n 0, 1) := by decide +kernel
theorem dX8_takeNumber_74 : decode cX8_takeNumber 74 = .ok (.getfield 26, 3) := by decide +kernel
theorem dX8_takeNumber_77 : decode cX8_takeNumber 77 = .ok (.aload_n 0, 1) := by decide +kernel
theorem dX8_takeNumber_78 : decode cX8_takeNumber 78 = .ok (.getfield 32, 3) := by decide +kernel
theorem dX8_takeNumber_81 : decode cX8_takeNumber 81 = .ok (.isub, 1) := by decide +kernel
theorem dX8_takeNumber_82 : decode cX8_takeNumber 82 = .ok (.iconst 4, 1) := by decide +kernel
theorem dX8_takeNumber_83 : decode cX8_takeNumber 83 = .ok (.if_icmp .le 7, 3) := by decide +kernel
theorem dX8_takeNumber_86 : decode cX8_takeNumber 86 = .ok (.iconst 4, 1) := by decide +kernel
theorem dX8_takeNumber_87 : decode cX8_takeNumber 87 = .ok (.goto 4, 3) := by decide +kernel
theorem dX8_takeNumber_90 : decode cX8_takeNumber 90 = .ok (.iconst 2, 1) := by decide +kernel
theorem dX8_takeNumber_91 : decode cX8_takeNumber 91 = .ok (.putfield 29, 3) := by decide +kernel
theorem dX8_takeNumber_94 : decode cX8_takeNumber 94 = .ok (.aload_n 0, 1) := by decide +kernel
theorem dX8_takeNumber_95 : decode cX8_takeNumber 95 = .ok (.iload_n 1, 1) := by decide +kernel
theorem dX8_takeNumber_96 : decode cX8_takeNumber 96 = .ok (.putfield 35, 3) := by decide +kernel
theorem dX8_takeNumber_99 : decode cX8_takeNumber 99 = .ok (.return_, 1) := by decide +kernel
theorem dX8_fail_0 : decode cX8_fail 0 = .ok (.aload_n 0, 1) := by decide +kernel
theorem dX8_fail_1 : decode cX8_fail 1 = .ok (.getfield 42, 3) := by decide +kernel
theorem dX8_fail_4 : decode cX8_fail 4 = .ok (.ifCond .ne 28, 3) := by decide +kernel
theorem dX8_fail_7 : decode cX8_fail 7 = .ok (.aload_n 0, 1) := by decide +kernel
theorem dX8_fail_8 : decode cX8_fail 8 = .ok (.aload_n 0, 1) := by decide +kernel
theorem dX8_fail_9 : decode cX8_fail 9 = .ok (.getfield 29, 3) := by decide +kernel
theorem dX8_fail_12 : decode cX8_fail 12 = .ok (.iconst 4, 1) := by decide +kernel
theorem dX8_fail_13 : decode cX8_fail 13 = .ok (.if_icmp .ne 7, 3) := by decide +kernel
theorem dX8_fail_16 : decode cX8_fail 16 = .ok (.iconst 1, 1) := by decide +kernel
theorem dX8_fail_17 : decode cX8_fail 17 = .ok (.goto 4, 3) := by decide +kernel
theorem dX8_fail_20 : decode cX8_fail 20 = .ok (.iload_n 1, 1) := by decide +kernel
theorem dX8_fail_21 : decode cX8_fail 21 = .ok (.putfield 42, 3) := by decide +kernel
theorem dX8_fail_24 : decode cX8_fail 24 = .ok (.aload_n 0, 1) := by decide +kernel
theorem dX8_fail_25 : decode cX8_fail 25 = .ok (.aload_n 0, 1) := by decide +kernel
theorem dX8_fail_26 : decode cX8_fail 26 = .ok (.getfield 32, 3) := by decide +kernel
theorem dX8_fail_29 : decode cX8_fail 29 = .ok (.putfield 45, 3) := by decide +kernel
theorem dX8_fail_32 : decode cX8_fail 32 = .ok (.return_, 1) := by decide +kernel
theorem dX8_isGoingOn_0 : decode cX8_isGoingOn 0 = .ok (.aload_n 0, 1) := by decide +kernel
theorem dX8_isGoingOn_1 : decode cX8_isGoingOn 1 = .ok (.getfield 42, 3) := by decide +kernel
theorem dX8_isGoingOn_4 : decode cX8_isGoingOn 4 = .ok (.ifCond .ne 14, 3) := by decide +kernel
theorem dX8_isGoingOn_7 : decode cX8_isGoingOn 7 = .ok (.aload_n 0, 1) := by decide +kernel
theorem dX8_isGoingOn_8 : decode cX8_isGoingOn 8 = .ok (.getfield 29, 3) := by decide +kernel
theorem dX8_isGoingOn_11 : decode cX8_isGoingOn 11 = .ok (.ifCond .eq 7, 3) := by decide +kernel
theorem dX8_isGoingOn_14 : decode cX8_isGoingOn 14 = .ok (.iconst 1, 1) := by decide +kernel
theorem dX8_isGoingOn_15 : decode cX8_isGoingOn 15 = .ok (.goto 4, 3) := by decide +kernel
theorem dX8_isGoingOn_18 : decode cX8_isGoingOn 18 = .ok (.iconst 0, 1) := by decide +kernel
theorem dX8_isGoingOn_19 : decode cX8_isGoingOn 19 = .ok (.ireturn, 1) := by decide +kernel
theorem dX8_isWord_0 : decode cX8_isWord 0 = .ok (.aload_n 0, 1) := by decide +kernel
theorem dX8_isWord_1 : decode cX8_isWord 1 = .ok (.getfield 42, 3) := by decide +kernel
theorem dX8_isWord_4 : decode cX8_isWord 4 = .ok (.ifCond .ne 23, 3) := by decide +kernel
theorem dX8_isWord_7 : decode cX8_isWord 7 = .ok (.aload_n 0, 1) := by decide +kernel
theorem dX8_isWord_8 : decode cX8_isWord 8 = .ok (.getfield 29, 3) := by decide +kernel
theorem dX8_isWord_11 : decode cX8_isWord 11 = .ok (.iconst 1, 1) := by decide +kernel
theorem dX8_isWord_12 : decode cX8_isWord 12 = .ok (.if_icmp .ne 15, 3) := by decide +kernel
theorem dX8_isWord_15 : decode cX8_isWord 15 = .ok (.aload_n 0, 1) := by decide +kernel
theorem dX8_isWord_16 : decode cX8_isWord 16 = .ok (.getfield 35, 3) := by decide +kernel
theorem dX8_isWord_19 : decode cX8_isWord 19 = .ok (.iload_n 1, 1) := by decide +kernel
theorem dX8_isWord_20 : decode cX8_isWord 20 = .ok (.if_icmp .ne 7, 3) := by decide +kernel
theorem dX8_isWord_23 : decode cX8_isWord 23 = .ok (.iconst 1, 1) := by decide +kernel
theorem dX8_isWord_24 : decode cX8_isWord 24 = .ok (.goto 4, 3) := by decide +kernel
theorem dX8_isWord_27 : decode cX8_isWord 27 = .ok (.iconst 0, 1) := by decide +kernel
theorem dX8_isWord_28 : decode cX8_isWord 28 = .ok (.ireturn, 1) := by decide +kernel
theorem dX8_keyword_0 : decode cX8_keyword 0 = .ok (.aload_n 0, 1) := by decide +kernel
theorem dX8_keyword_1 : decode cX8_keyword 1 = .ok (.getfield 29, 3) := by decide +kernel
theorem dX8_keyword_4 : decode cX8_keyword 4 = .ok (.iconst 1, 1) := by decide +kernel
theorem dX8_keyword_5 : decode cX8_keyword 5 = .ok (.if_icmp .ne 10, 3) := by decide +kernel
theorem dX8_keyword_8 : decode cX8_keyword 8 = .ok (.aload_n 0, 1) := by decide +kernel
theorem dX8_keyword_9 : decode cX8_keyword 9 = .ok (.getfield 35, 3) := by decide +kernel
theorem dX8_keyword_12 : decode cX8_keyword 12 = .ok (.goto 4, 3) := by decide +kernel
theorem dX8_keyword_15 : decode cX8_keyword 15 = .ok (.iconst (-1), 1) := by decide +kernel
theorem dX8_keyword_16 : decode cX8_keyword 16 = .ok (.ireturn, 1) := by decide +kernel
theorem dX8_takeKeyword_0 : decode cX8_takeKeyword 0 = .ok (.aload_n 0, 1) := by decide +kernel
theorem dX8_takeKeyword_1 : decode cX8_takeKeyword 1 = .ok (.iload_n 1, 1) := by decide +kernel
theorem dX8_takeKeyword_2 : decode cX8_takeKeyword 2 = .ok (.invokevirtual 88, 3) := by decide +kernel
theorem dX8_takeKeyword_5 : decode cX8_takeKeyword 5 = .ok (.ifCond .eq 10, 3) := by decide +kernel
theorem dX8_takeKeyword_8 : decode cX8_takeKeyword 8 = .ok (.aload_n 0, 1) := by decide +kernel
theorem dX8_takeKeyword_9 : decode cX8_takeKeyword 9 = .ok (.invokevirtual 72, 3) := by decide +kernel
theorem dX8_takeKeyword_12 : decode cX8_takeKeyword 12 = .ok (.goto 8, 3) := by decide +kernel
theorem dX8_takeKeyword_15 : decode cX8_takeKeyword 15 = .ok (.aload_n 0, 1) := by decide +kernel
theorem dX8_takeKeyword_16 : decode cX8_takeKeyword 16 = .ok (.iconst 2, 1) := by decide +kernel
theorem dX8_takeKeyword_17 : decode cX8_takeKeyword 17 = .ok (.invokevirtual 91, 3) := by decide +kernel
theorem dX8_takeKeyword_20 : decode cX8_takeKeyword 20 = .ok (.return_, 1) := by decide +kernel
theorem dX8_takeSemicolon_0 : decode cX8_takeSemicolon 0 = .ok (.aload_n 0, 1) := by decide +kernel
theorem dX8_takeSemicolon_1 : decode cX8_takeSemicolon 1 = .ok (.getfield 29, 3) := by decide +kernel
theorem dX8_takeSemicolon_4 : decode cX8_takeSemicolon 4 = .ok (.iconst 3, 1) := by decide +kernel
theorem dX8_takeSemicolon_5 : decode cX8_takeSemicolon 5 = .ok (.if_icmp .ne 26, 3) := by decide +kernel
theorem dX8_takeSemicolon_8 : decode cX8_takeSemicolon 8 = .ok (.aload_n 0, 1) := by decide +kernel
theorem dX8_takeSemicolon_9 : decode cX8_takeSemicolon 9 = .ok (.getfield 35, 3) := by decide +kernel
theorem dX8_takeSemicolon_12 : decode cX8_takeSemicolon 12 = .ok (.bipush 59, 2) := by decide +kernel
theorem dX8_takeSemicolon_14 : decode cX8_takeSemicolon 14 = .ok (.if_icmp .ne 17, 3) := by decide +kernel
theorem dX8_takeSemicolon_17 : decode cX8_takeSemicolon 17 = .ok (.aload_n 0, 1) := by decide +kernel
theorem dX8_takeSemicolon_18 : decode cX8_takeSemicolon 18 = .ok (.getfield 42, 3) := by decide +kernel
theorem dX8_takeSemicolon_21 : decode cX8_takeSemicolon 21 = .ok (.ifCond .ne 10, 3) := by decide +kernel
theorem dX8_takeSemicolon_24 : decode cX8_takeSemicolon 24 = .ok (.aload_n 0, 1) := by decide +kernel
theorem dX8_takeSemicolon_25 : decode cX8_takeSemicolon 25 = .ok (.invokevirtual 72, 3) := by decide +kernel
theorem dX8_takeSemicolon_28 : decode cX8_takeSemicolon 28 = .ok (.goto 8, 3) := by decide +kernel
theorem dX8_takeSemicolon_31 : decode cX8_takeSemicolon 31 = .ok (.aload_n 0, 1) := by decide +kernel
theorem dX8_takeSemicolon_32 : decode cX8_takeSemicolon 32 = .ok (.iconst 2, 1) := by decide +kernel
theorem dX8_takeSemicolon_33 : decode cX8_takeSemicolon 33 = .ok (.invokevirtual 91, 3) := by decide +kernel
theorem dX8_takeSemicolon_36 : decode cX8_takeSemicolon 36 = .ok (.return_, 1) := by decide +kernel
theorem dX8_takeNumberOf_0 : decode cX8_takeNumberOf 0 = .ok (.aload_n 0, 1) := by decide +kernel
theorem dX8_takeNumberOf_1 : decode cX8_takeNumberOf 1 = .ok (.getfield 42, 3) := by decide +kernel
theorem dX8_takeNumberOf_4 : decode cX8_takeNumberOf 4 = .ok (.ifCond .ne 11, 3) := by decide +kernel
theorem dX8_takeNumberOf_7 : decode cX8_takeNumberOf 7 = .ok (.aload_n 0, 1) := by decide +kernel
theorem dX8_takeNumberOf_8 : decode cX8_takeNumberOf 8 = .ok (.getfield 29, 3) := by decide +kernel
theorem dX8_takeNumberOf_11 : decode cX8_takeNumberOf 11 = .ok (.iconst 2, 1) := by decide +kernel
theorem dX8_takeNumberOf_12 : decode cX8_takeNumberOf 12 = .ok (.if_icmp .eq 10, 3) := by decide +kernel
theorem dX8_takeNumberOf_15 : decode cX8_takeNumberOf 15 = .ok (.aload_n 0, 1) := by decide +kernel
theorem dX8_takeNumberOf_16 : decode cX8_takeNumberOf 16 = .ok (.iconst 2, 1) := by decide +kernel
theorem dX8_takeNumberOf_17 : decode cX8_takeNumberOf 17 = .ok (.invokevirtual 91, 3) := by decide +kernel
theorem dX8_takeNumberOf_20 : decode cX8_takeNumberOf 20 = .ok (.iload_n 1, 1) := by decide +kernel
theorem dX8_takeNumberOf_21 : decode cX8_takeNumberOf 21 = .ok (.ireturn, 1) := by decide +kernel
theorem dX8_takeNumberOf_22 : decode cX8_takeNumberOf 22 = .ok (.aload_n 0, 1) := by decide +kernel
theorem dX8_takeNumberOf_23 : decode cX8_takeNumberOf 23 = .ok (.getfield 35, 3) := by decide +kernel
theorem dX8_takeNumberOf_26 : decode cX8_takeNumberOf 26 = .ok (.iload_n 1, 1) := by decide +kernel
theorem dX8_takeNumberOf_27 : decode cX8_takeNumberOf 27 = .ok (.if_icmp .lt 11, 3) := by decide +kernel
theorem dX8_takeNumberOf_30 : decode cX8_takeNumberOf 30 = .ok (.aload_n 0, 1) := by decide +kernel
theorem dX8_takeNumberOf_31 : decode cX8_takeNumberOf 31 = .ok (.getfield 35, 3) := by decide +kernel
theorem dX8_takeNumberOf_34 : decode cX8_takeNumberOf 34 = .ok (.iload_n 2, 1) := by decide +kernel
theorem dX8_takeNumberOf_35 : decode cX8_takeNumberOf 35 = .ok (.if_icmp .le 10, 3) := by decide +kernel
theorem dX8_takeNumberOf_38 : decode cX8_takeNumberOf 38 = .ok (.aload_n 0, 1) := by decide +kernel
theorem dX8_takeNumberOf_39 : decode cX8_takeNumberOf 39 = .ok (.iconst 4, 1) := by decide +kernel
theorem dX8_takeNumberOf_40 : decode cX8_takeNumberOf 40 = .ok (.invokevirtual 91, 3) := by decide +kernel
theorem dX8_takeNumberOf_43 : decode cX8_takeNumberOf 43 = .ok (.iload_n 1, 1) := by decide +kernel
theorem dX8_takeNumberOf_44 : decode cX8_takeNumberOf 44 = .ok (.ireturn, 1) := by decide +kernel
theorem dX8_takeNumberOf_45 : decode cX8_takeNumberOf 45 = .ok (.aload_n 0, 1) := by decide +kernel
theorem dX8_takeNumberOf_46 : decode cX8_takeNumberOf 46 = .ok (.getfield 35, 3) := by decide +kernel
theorem dX8_takeNumberOf_49 : decode cX8_takeNumberOf 49 = .ok (.istore_n 3, 1) := by decide +kernel
theorem dX8_takeNumberOf_50 : decode cX8_takeNumberOf 50 = .ok (.aload_n 0, 1) := by decide +kernel
theorem dX8_takeNumberOf_51 : decode cX8_takeNumberOf 51 = .ok (.invokevirtual 72, 3) := by decide +kernel
theorem dX8_takeNumberOf_54 : decode cX8_takeNumberOf 54 = .ok (.iload_n 3, 1) := by decide +kernel
theorem dX8_takeNumberOf_55 : decode cX8_takeNumberOf 55 = .ok (.ireturn, 1) := by decide +kernel
theorem dX8_nameHere_0 : decode cX8_nameHere 0 = .ok (.aload_n 0, 1) := by decide +kernel
theorem dX8_nameHere_1 : decode cX8_nameHere 1 = .ok (.getfield 42, 3) := by decide +kernel
theorem dX8_nameHere_4 : decode cX8_nameHere 4 = .ok (.ifCond .ne 28, 3) := by decide +kernel
theorem dX8_nameHere_7 : decode cX8_nameHere 7 = .ok (.aload_n 0, 1) := by decide +kernel
theorem dX8_nameHere_8 : decode cX8_nameHere 8 = .ok (.getfield 29, 3) := by decide +kernel
theorem dX8_nameHere_11 : decode cX8_nameHere 11 = .ok (.iconst 1, 1) := by decide +kernel
theorem dX8_nameHere_12 : decode cX8_nameHere 12 = .ok (.if_icmp .ne 20, 3) := by decide +kernel
theorem dX8_nameHere_15 : decode cX8_nameHere 15 = .ok (.aload_n 0, 1) := by decide +kernel
theorem dX8_nameHere_16 : decode cX8_nameHere 16 = .ok (.getfield 35, 3) := by decide +kernel
theorem dX8_nameHere_19 : decode cX8_nameHere 19 = .ok (.iconst (-1), 1) := by decide +kernel
theorem dX8_nameHere_20 : decode cX8_nameHere 20 = .ok (.if_icmp .ne 12, 3) := by decide +kernel
theorem dX8_nameHere_23 : decode cX8_nameHere 23 = .ok (.aload_n 0, 1) := by decide +kernel
theorem dX8_nameHere_24 : decode cX8_nameHere 24 = .ok (.getfield 38, 3) := by decide +kernel
theorem dX8_nameHere_27 : decode cX8_nameHere 27 = .ok (.lconst 0, 1) := by decide +kernel
theorem dX8_nameHere_28 : decode cX8_nameHere 28 = .ok (.lcmp, 1) := by decide +kernel
theorem dX8_nameHere_29 : decode cX8_nameHere 29 = .ok (.ifCond .ne 10, 3) := by decide +kernel
theorem dX8_nameHere_32 : decode cX8_nameHere 32 = .ok (.aload_n 0, 1) := by decide +kernel
theorem dX8_nameHere_33 : decode cX8_nameHere 33 = .ok (.iconst 2, 1) := by decide +kernel
theorem dX8_nameHere_34 : decode cX8_nameHere 34 = .ok (.invokevirtual 91, 3) := by decide +kernel
theorem dX8_nameHere_37 : decode cX8_nameHere 37 = .ok (.lconst 0, 1) := by decide +kernel
theorem dX8_nameHere_38 : decode cX8_nameHere 38 = .ok (.lreturn, 1) := by decide +kernel
theorem dX8_nameHere_39 : decode cX8_nameHere 39 = .ok (.aload_n 0, 1) := by decide +kernel
theorem dX8_nameHere_40 : decode cX8_nameHere 40 = .ok (.getfield 38, 3) := by decide +kernel
theorem dX8_nameHere_43 : decode cX8_nameHere 43 = .ok (.lreturn, 1) := by decide +kernel
theorem dX9_init_0 : decode cX9_init 0 = .ok (.aload_n 0, 1) := by decide +kernel
theorem dX9_init_1 : decode cX9_init 1 = .ok (.invokespecial 3, 3) := by decide +kernel
theorem dX9_init_4 : decode cX9_init 4 = .ok (.aload_n 0, 1) := by decide +kernel
theorem dX9_init_5 : decode cX9_init 5 = .ok (.iconst 0, 1) := by decide +kernel
theorem dX9_init_6 : decode cX9_init 6 = .ok (.putfield 9, 3) := by decide +kernel
theorem dX9_init_9 : decode cX9_init 9 = .ok (.aload_n 0, 1) := by decide +kernel
theorem dX9_init_10 : decode cX9_init 10 = .ok (.bipush 8, 2) := by decide +kernel
theorem dX9_init_12 : decode cX9_init 12 = .ok (.newarray .long, 2) := by decide +kernel
theorem dX9_init_14 : decode cX9_init 14 = .ok (.putfield 15, 3) := by decide +kernel
theorem dX9_init_17 : decode cX9_init 17 = .ok (.aload_n 0, 1) := by decide +kernel
theorem dX9_init_18 : decode cX9_init 18 = .ok (.bipush 8, 2) := by decide +kernel
theorem dX9_init_20 : decode cX9_init 20 = .ok (.newarray .int, 2) := by decide +kernel
theorem dX9_init_22 : decode cX9_init 22 = .ok (.putfield 19, 3) := by decide +kernel
theorem dX9_init_25 : decode cX9_init 25 = .ok (.aload_n 0, 1) := by decide +kernel
theorem dX9_init_26 : decode cX9_init 26 = .ok (.bipush 8, 2) := by decide +kernel
theorem dX9_init_28 : decode cX9_init 28 = .ok (.newarray .int, 2) := by decide +kernel
theorem dX9_init_30 : decode cX9_init 30 = .ok (.putfield 23, 3) := by decide +kernel
theorem dX9_init_33 : decode cX9_init 33 = .ok (.aload_n 0, 1) := by decide +kernel
theorem dX9_init_34 : decode cX9_init 34 = .ok (.bipush 8, 2) := by decide +kernel
theorem dX9_init_36 : decode cX9_init 36 = .ok (.newarray .int, 2) := by decide +kernel
theorem dX9_init_38 : decode cX9_init 38 = .ok (.putfield 26, 3) := by decide +kernel
theorem dX9_init_41 : decode cX9_init 41 = .ok (.aload_n 0, 1) := by decide +kernel
theorem dX9_init_42 : decode cX9_init 42 = .ok (.bipush 8, 2) := by decide +kernel
theorem dX9_init_44 : decode cX9_init 44 = .ok (.newarray .int, 2) := by decide +kernel
theorem dX9_init_46 : decode cX9_init 46 = .ok (.putfield 29, 3) := by decide +kernel
theorem dX9_init_49 : decode cX9_init 49 = .ok (.aload_n 0, 1) := by decide +kernel
theorem dX9_init_50 : decode cX9_init 50 = .ok (.bipush 8, 2) := by decide +kernel
theorem dX9_init_52 : decode cX9_init 52 = .ok (.newarray .int, 2) := by decide +kernel
theorem dX9_init_54 : decode cX9_init 54 = .ok (.putfield 32, 3) := by decide +kernel
theorem dX9_init_57 : decode cX9_init 57 = .ok (.aload_n 0, 1) := by decide +kernel
theorem dX9_init_58 : decode cX9_init 58 = .ok (.bipush 8, 2) := by decide +kernel
theorem dX9_init_60 : decode cX9_init 60 = .ok (.newarray .int, 2) := by decide +kernel
theorem dX9_init_62 : decode cX9_init 62 = .ok (.putfield 35, 3) := by decide +kernel
theorem dX9_init_65 : decode cX9_init 65 = .ok (.aload_n 0, 1) := by decide +kernel
theorem dX9_init_66 : decode cX9_init 66 = .ok (.bipush 8, 2) := by decide +kernel
theorem dX9_init_68 : decode cX9_init 68 = .ok (.newarray .int, 2) := by decide +kernel
theorem dX9_init_70 : decode cX9_init 70 = .ok (.putfield 38, 3) := by decide +kernel
theorem dX9_init_73 : decode cX9_init 73 = .ok (.return_, 1) := by decide +kernel
theorem dX9_copyFrom_0 : decode cX9_copyFrom 0 = .ok (.aload_n 0, 1) := by decide +kernel
theorem dX9_copyFrom_1 : decode cX9_copyFrom 1 = .ok (.aload_n 1, 1) := by decide +kernel
theorem dX9_copyFrom_2 : decode cX9_copyFrom 2 = .ok (.getfield 9, 3) := by decide +kernel
theorem dX9_copyFrom_5 : decode cX9_copyFrom 5 = .ok (.putfield 9, 3) := by decide +kernel
theorem dX9_copyFrom_8 : decode cX9_copyFrom 8 = .ok (.aload_n 1, 1) := by decide +kernel
theorem dX9_copyFrom_9 : decode cX9_copyFrom 9 = .ok (.getfield 15, 3) := by decide +kernel
theorem dX9_copyFrom_12 : decode cX9_copyFrom 12 = .ok (.iconst 0, 1) := by decide +kernel
theorem dX9_copyFrom_13 : decode cX9_copyFrom 13 = .ok (.aload_n 0, 1) := by decide +kernel
theorem dX9_copyFrom_14 : decode cX9_copyFrom 14 = .ok (.getfield 15, 3) := by decide +kernel
theorem dX9_copyFrom_17 : decode cX9_copyFrom 17 = .ok (.iconst 0, 1) := by decide +kernel
theorem dX9_copyFrom_18 : decode cX9_copyFrom 18 = .ok (.bipush 8, 2) := by decide +kernel
theorem dX9_copyFrom_20 : decode cX9_copyFrom 20 = .ok (.invokestatic 41, 3) := by decide +kernel
theorem dX9_copyFrom_23 : decode cX9_copyFrom 23 = .ok (.aload_n 1, 1) := by decide +kernel
theorem dX9_copyFrom_24 : decode cX9_copyFrom 24 = .ok (.getfield 19, 3) := by decide +kernel
theorem dX9_copyFrom_27 : decode cX9_copyFrom 27 = .ok (.iconst 0, 1) := by decide +kernel
theorem dX9_copyFrom_28 : decode cX9_copyFrom 28 = .ok (.aload_n 0, 1) := by decide +kernel
theorem dX9_copyFrom_29 : decode cX9_copyFrom 29 = .ok (.getfield 19, 3) := by decide +kernel
theorem dX9_copyFrom_32 : decode cX9_copyFrom 32 = .ok (.iconst 0, 1) := by decide +kernel
theorem dX9_copyFrom_33 : decode cX9_copyFrom 33 = .ok (.bipush 8, 2) := by decide +kernel
theorem dX9_copyFrom_35 : decode cX9_copyFrom 35 = .ok (.invokestatic 41, 3) := by decide +kernel
theorem dX9_copyFrom_38 : decode cX9_copyFrom 38 = .ok (.aload_n 1, 1) := by decide +kernel
theorem dX9_copyFrom_39 : decode cX9_copyFrom 39 = .ok (.getfield 23, 3) := by decide +kernel
theorem dX9_copyFrom_42 : decode cX9_copyFrom 42 = .ok (.iconst 0, 1) := by decide +kernel
theorem dX9_copyFrom_43 : decode cX9_copyFrom 43 = .ok (.aload_n 0, 1) := by decide +kernel
theorem dX9_copyFrom_44 : decode cX9_copyFrom 44 = .ok (.getfield 23, 3) := by decide +kernel
theorem dX9_copyFrom_47 : decode cX9_copyFrom 47 = .ok (.iconst 0, 1) := by decide +kernel
theorem dX9_copyFrom_48 : decode cX9_copyFrom 48 = .ok (.bipush 8, 2) := by decide +kernel
theorem dX9_copyFrom_50 : decode cX9_copyFrom 50 = .ok (.invokestatic 41, 3) := by decide +kernel
theorem dX9_copyFrom_53 : decode cX9_copyFrom 53 = .ok (.aload_n 1, 1) := by decide +kernel
theorem dX9_copyFrom_54 : decode cX9_copyFrom 54 = .ok (.getfield 26, 3) := by decide +kernel
theorem dX9_copyFrom_57 : decode cX9_copyFrom 57 = .ok (.iconst 0, 1) := by decide +kernel
theorem dX9_copyFrom_58 : decode cX9_copyFrom 58 = .ok (.aload_n 0, 1) := by decide +kernel
theorem dX9_copyFrom_59 : decode cX9_copyFrom 59 = .ok (.getfield 26, 3) := by decide +kernel
theorem dX9_copyFrom_62 : decode cX9_copyFrom 62 = .ok (.iconst 0, 1) := by decide +kernel
theorem dX9_copyFrom_63 : decode cX9_copyFrom 63 = .ok (.bipush 8, 2) := by decide +kernel
theorem dX9_copyFrom_65 : decode cX9_copyFrom 65 = .ok (.invokestatic 41, 3) := by decide +kernel
theorem dX9_copyFrom_68 : decode cX9_copyFrom 68 = .ok (.aload_n 0, 1) := by decide +kernel
theorem dX9_copyFrom_69 : decode cX9_copyFrom 69 = .ok (.aload_n 1, 1) := by decide +kernel
theorem dX9_copyFrom_70 : decode cX9_copyFrom 70 = .ok (.invokevirtual 47, 3) := by decide +kernel
theorem dX9_copyFrom_73 : decode cX9_copyFrom 73 = .ok (.return_, 1) := by decide +kernel
theorem dX9_copyPlacesFrom_0 : decode cX9_copyPlacesFrom 0 = .ok (.aload_n 1, 1) := by decide +kernel
theorem dX9_copyPlacesFrom_1 : decode cX9_copyPlacesFrom 1 = .ok (.getfield 29, 3) := by decide +kernel
theorem dX9_copyPlacesFrom_4 : decode cX9_copyPlacesFrom 4 = .ok (.iconst 0, 1) := by decide +kernel
theorem dX9_copyPlacesFrom_5 : decode cX9_copyPlacesFrom 5 = .ok (.aload_n 0, 1) := by decide +kernel
theorem dX9_copyPlacesFrom_6 : decode cX9_copyPlacesFrom 6 = .ok (.getfield 29, 3) := by decide +kernel
theorem dX9_copyPlacesFrom_9 : decode cX9_copyPlacesFrom 9 = .ok (.iconst 0, 1) := by decide +kernel
theorem dX9_copyPlacesFrom_10 : decode cX9_copyPlacesFrom 10 = .ok (.bipush 8, 2) := by decide +kernel
theorem dX9_copyPlacesFrom_12 : decode cX9_copyPlacesFrom 12 = .ok (.invokestatic 41, 3) := by decide +kernel
theorem dX9_copyPlacesFrom_15 : decode cX9_copyPlacesFrom 15 = .ok (.aload_n 1, 1) := by decide +kernel
theorem dX9_copyPlacesFrom_16 : decode cX9_copyPlacesFrom 16 = .ok (.getfield 32, 3) := by decide +kernel
theorem dX9_copyPlacesFrom_19 : decode cX9_copyPlacesFrom 19 = .ok (.iconst 0, 1) := by decide +kernel
theorem dX9_copyPlacesFrom_20 : decode cX9_copyPlacesFrom 20 = .ok (.aload_n 0, 1) := by decide +kernel
theorem dX9_copyPlacesFrom_21 : decode cX9_copyPlacesFrom 21 = .ok (.getfield 32, 3) := by decide +kernel
theorem dX9_copyPlacesFrom_24 : decode cX9_copyPlacesFrom 24 = .ok (.iconst 0, 1) := by decide +kernel
theorem dX9_copyPlacesFrom_25 : decode cX9_copyPlacesFrom 25 = .ok (.bipush 8, 2) := by decide +kernel
theorem dX9_copyPlacesFrom_27 : decode cX9_copyPlacesFrom 27 = .ok (.invokestatic 41, 3) := by decide +kernel
theorem dX9_copyPlacesFrom_30 : decode cX9_copyPlacesFrom 30 = .ok (.aload_n 1, 1) := by decide +kernel
theorem dX9_copyPlacesFrom_31 : decode cX9_copyPlacesFrom 31 = .ok (.getfield 35, 3) := by decide +kernel
theorem dX9_copyPlacesFrom_34 : decode cX9_copyPlacesFrom 34 = .ok (.iconst 0, 1) := by decide +kernel
theorem dX9_copyPlacesFrom_35 : decode cX9_copyPlacesFrom 35 = .ok (.aload_n 0, 1) := by decide +kernel
theorem dX9_copyPlacesFrom_36 : decode cX9_copyPlacesFrom 36 = .ok (.getfield 35, 3) := by decide +kernel
theorem dX9_copyPlacesFrom_39 : decode cX9_copyPlacesFrom 39 = .ok (.iconst 0, 1) := by decide +kernel
theorem dX9_copyPlacesFrom_40 : decode cX9_copyPlacesFrom 40 = .ok (.bipush 8, 2) := by decide +kernel
theorem dX9_copyPlacesFrom_42 : decode cX9_copyPlacesFrom 42 = .ok (.invokestatic 41, 3) := by decide +kernel
theorem dX9_copyPlacesFrom_45 : decode cX9_copyPlacesFrom 45 = .ok (.aload_n 1, 1) := by decide +kernel
theorem dX9_copyPlacesFrom_46 : decode cX9_copyPlacesFrom 46 = .ok (.getfield 38, 3) := by decide +kernel
theorem dX9_copyPlacesFrom_49 : decode cX9_copyPlacesFrom 49 = .ok (.iconst 0, 1) := by decide +kernel
theorem dX9_copyPlacesFrom_50 : decode cX9_copyPlacesFrom 50 = .ok (.aload_n 0, 1) := by decide +kernel
theorem dX9_copyPlacesFrom_51 : decode cX9_copyPlacesFrom 51 = .ok (.getfield 38, 3) := by decide +kernel
theorem dX9_copyPlacesFrom_54 : decode cX9_copyPlacesFrom 54 = .ok (.iconst 0, 1) := by decide +kernel
theorem dX9_copyPlacesFrom_55 : decode cX9_copyPlacesFrom 55 = .ok (.bipush 8, 2) := by decide +kernel
theorem dX9_copyPlacesFrom_57 : decode cX9_copyPlacesFrom 57 = .ok (.invokestatic 41, 3) := by decide +kernel
theorem dX9_copyPlacesFrom_60 : decode cX9_copyPlacesFrom 60 = .ok (.return_, 1) := by decide +kernel
theorem dX9_addThing_0 : decode cX9_addThing 0 = .ok (.aload_n 0, 1) := by decide +kernel
theorem dX9_addThing_1 : decode cX9_addThing 1 = .ok (.getfield 9, 3) := by decide +kernel
theorem dX9_addThing_4 : decode cX9_addThing 4 = .ok (.bipush 8, 2) := by decide +kernel
theorem dX9_addThing_6 : decode cX9_addThing 6 = .ok (.if_icmp .lt 5, 3) := by decide +kernel
theorem dX9_addThing_9 : decode cX9_addThing 9 = .ok (.iconst (-1), 1) := by decide +kernel
theorem dX9_addThing_10 : decode cX9_addThing 10 = .ok (.ireturn, 1) := by decide +kernel
theorem dX9_addThing_11 : decode cX9_addThing 11 = .ok (.aload_n 0, 1) := by decide +kernel
theorem dX9_addThing_12 : decode cX9_addThing 12 = .ok (.getfield 15, 3) := by decide +kernel
theorem dX9_addThing_15 : decode cX9_addThing 15 = .ok (.aload_n 0, 1) := by decide +kernel
theorem dX9_addThing_16 : decode cX9_addThing 16 = .ok (.getfield 9, 3) := by decide +kernel
theorem dX9_addThing_19 : decode cX9_addThing 19 = .ok (.lload_n 1, 1) := by decide +kernel
theorem dX9_addThing_20 : decode cX9_addThing 20 = .ok (.lastore, 1) := by decide +kernel
theorem dX9_addThing_21 : decode cX9_addThing 21 = .ok (.aload_n 0, 1) := by decide +kernel
theorem dX9_addThing_22 : decode cX9_addThing 22 = .ok (.getfield 19, 3) := by decide +kernel
theorem dX9_addThing_25 : decode cX9_addThing 25 = .ok (.aload_n 0, 1) := by decide +kernel
theorem dX9_addThing_26 : decode cX9_addThing 26 = .ok (.getfield 9, 3) := by decide +kernel
theorem dX9_addThing_29 : decode cX9_addThing 29 = .ok (.iload_n 3, 1) := by decide +kernel
theorem dX9_addThing_30 : decode cX9_addThing 30 = .ok (.iastore, 1) := by decide +kernel
theorem dX9_addThing_31 : decode cX9_addThing 31 = .ok (.aload_n 0, 1) := by decide +kernel
theorem dX9_addThing_32 : decode cX9_addThing 32 = .ok (.getfield 23, 3) := by decide +kernel
theorem dX9_addThing_35 : decode cX9_addThing 35 = .ok (.aload_n 0, 1) := by decide +kernel
theorem dX9_addThing_36 : decode cX9_addThing 36 = .ok (.getfield 9, 3) := by decide +kernel
theorem dX9_addThing_39 : decode cX9_addThing 39 = .ok (.iload 4, 2) := by decide +kernel
theorem dX9_addThing_41 : decode cX9_addThing 41 = .ok (.iastore, 1) := by decide +kernel
theorem dX9_addThing_42 : decode cX9_addThing 42 = .ok (.aload_n 0, 1) := by decide +kernel
theorem dX9_addThing_43 : decode cX9_addThing 43 = .ok (.getfield 26, 3) := by decide +kernel
theorem dX9_addThing_46 : decode cX9_addThing 46 = .ok (.aload_n 0, 1) := by decide +kernel
theorem dX9_addThing_47 : decode cX9_addThing 47 = .ok (.getfield 9, 3) := by decide +kernel
theorem dX9_addThing_50 : decode cX9_addThing 50 = .ok (.iload 5, 2) := by decide +kernel
theorem dX9_addThing_52 : decode cX9_addThing 52 = .ok (.iastore, 1) := by decide +kernel
theorem dX9_addThing_53 : decode cX9_addThing 53 = .ok (.aload_n 0, 1) := by decide +kernel
theorem dX9_addThing_54 : decode cX9_addThing 54 = .ok (.getfield 38, 3) := by decide +kernel
theorem dX9_addThing_57 : decode cX9_addThing 57 = .ok (.aload_n 0, 1) := by decide +kernel
theorem dX9_addThing_58 : decode cX9_addThing 58 = .ok (.getfield 9, 3) := by decide +kernel
theorem dX9_addThing_61 : decode cX9_addThing 61 = .ok (.iconst 0, 1) := by decide +kernel
theorem dX9_addThing_62 : decode cX9_addThing 62 = .ok (.iastore, 1) := by decide +kernel
theorem dX9_addThing_63 : decode cX9_addThing 63 = .ok (.aload_n 0, 1) := by decide +kernel
theorem dX9_addThing_64 : decode cX9_addThing 64 = .ok (.aload_n 0, 1) := by decide +kernel
theorem dX9_addThing_65 : decode cX9_addThing 65 = .ok (.getfield 9, 3) := by decide +kernel
theorem dX9_addThing_68 : decode cX9_addThing 68 = .ok (.invokevirtual 51, 3) := by decide +kernel
theorem dX9_addThing_71 : decode cX9_addThing 71 = .ok (.aload_n 0, 1) := by decide +kernel
theorem dX9_addThing_72 : decode cX9_addThing 72 = .ok (.dup, 1) := by decide +kernel
theorem dX9_addThing_73 : decode cX9_addThing 73 = .ok (.getfield 9, 3) := by decide +kernel
theorem dX9_addThing_76 : decode cX9_addThing 76 = .ok (.iconst 1, 1) := by decide +kernel
theorem dX9_addThing_77 : decode cX9_addThing 77 = .ok (.iadd, 1) := by decide +kernel
theorem dX9_addThing_78 : decode cX9_addThing 78 = .ok (.putfield 9, 3) := by decide +kernel
theorem dX9_addThing_81 : decode cX9_addThing 81 = .ok (.aload_n 0, 1) := by decide +kernel
theorem dX9_addThing_82 : decode cX9_addThing 82 = .ok (.getfield 9, 3) := by decide +kernel
theorem dX9_addThing_85 : decode cX9_addThing 85 = .ok (.iconst 1, 1) := by decide +kernel
theorem dX9_addThing_86 : decode cX9_addThing 86 = .ok (.isub, 1) := by decide +kernel
theorem dX9_addThing_87 : decode cX9_addThing 87 = .ok (.ireturn, 1) := by decide +kernel
theorem dX9_numberOf_0 : decode cX9_numberOf 0 = .ok (.iconst 0, 1) := by decide +kernel
theorem dX9_numberOf_1 : decode cX9_numberOf 1 = .ok (.istore_n 3, 1) := by decide +kernel
theorem dX9_numberOf_2 : decode cX9_numberOf 2 = .ok (.iload_n 3, 1) := by decide +kernel
theorem dX9_numberOf_3 : decode cX9_numberOf 3 = .ok (.aload_n 0, 1) := by decide +kernel
theorem dX9_numberOf_4 : decode cX9_numberOf 4 = .ok (.getfield 9, 3) := by decide +kernel
theorem dX9_numberOf_7 : decode cX9_numberOf 7 = .ok (.if_icmp .ge 22, 3) := by decide +kernel
theorem dX9_numberOf_10 : decode cX9_numberOf 10 = .ok (.aload_n 0, 1) := by decide +kernel
theorem dX9_numberOf_11 : decode cX9_numberOf 11 = .ok (.getfield 15, 3) := by decide +kernel
theorem dX9_numberOf_14 : decode cX9_numberOf 14 = .ok (.iload_n 3, 1) := by decide +kernel
theorem dX9_numberOf_15 : decode cX9_numberOf 15 = .ok (.laload, 1) := by decide +kernel
theorem dX9_numberOf_16 : decode cX9_numberOf 16 = .ok (.lload_n 1, 1) := by decide +kernel
theorem dX9_numberOf_17 : decode cX9_numberOf 17 = .ok (.lcmp, 1) := by decide +kernel
theorem dX9_numberOf_18 : decode cX9_numberOf 18 = .ok (.ifCond .ne 5, 3) := by decide +kernel
theorem dX9_numberOf_21 : decode cX9_numberOf 21 = .ok (.iload_n 3, 1) := by decide +kernel
theorem dX9_numberOf_22 : decode cX9_numberOf 22 = .ok (.ireturn, 1) := by decide +kernel
theorem dX9_numberOf_23 : decode cX9_numberOf 23 = .ok (.iinc 3 1, 3) := by decide +kernel
theorem dX9_numberOf_26 : decode cX9_numberOf 26 = .ok (.goto (-24), 3) := by decide +kernel
theorem dX9_numberOf_29 : decode cX9_numberOf 29 = .ok (.iconst (-1), 1) := by decide +kernel
theorem dX9_numberOf_30 : decode cX9_numberOf 30 = .ok (.ireturn, 1) := by decide +kernel
theorem dX9_isFree_0 : decode cX9_isFree 0 = .ok (.aload_n 0, 1) := by decide +kernel
theorem dX9_isFree_1 : decode cX9_isFree 1 = .ok (.getfield 29, 3) := by decide +kernel
theorem dX9_isFree_4 : decode cX9_isFree 4 = .ok (.iload_n 1, 1) := by decide +kernel
theorem dX9_isFree_5 : decode cX9_isFree 5 = .ok (.iaload, 1) := by decide +kernel
theorem dX9_isFree_6 : decode cX9_isFree 6 = .ok (.ifCond .eq 13, 3) := by decide +kernel
theorem dX9_isFree_9 : decode cX9_isFree 9 = .ok (.aload_n 0, 1) := by decide +kernel
theorem dX9_isFree_10 : decode cX9_isFree 10 = .ok (.getfield 29, 3) := by decide +kernel
theorem dX9_isFree_13 : decode cX9_isFree 13 = .ok (.iload_n 1, 1) := by decide +kernel
theorem dX9_isFree_14 : decode cX9_isFree 14 = .ok (.iaload, 1) := by decide +kernel
theorem dX9_isFree_15 : decode cX9_isFree 15 = .ok (.iconst 3, 1) := by decide +kernel
theorem dX9_isFree_16 : decode cX9_isFree 16 = .ok (.if_icmp .ne 7, 3) := by decide +kernel
theorem dX9_isFree_19 : decode cX9_isFree 19 = .ok (.iconst 1, 1) := by decide +kernel
theorem dX9_isFree_20 : decode cX9_isFree 20 = .ok (.goto 4, 3) := by decide +kernel
theorem dX9_isFree_23 : decode cX9_isFree 23 = .ok (.iconst 0, 1) := by decide +kernel
theorem dX9_isFree_24 : decode cX9_isFree 24 = .ok (.ireturn, 1) := by decide +kernel
theorem dX9_isLying_0 : decode cX9_isLying 0 = .ok (.aload_n 0, 1) := by decide +kernel
theorem dX9_isLying_1 : decode cX9_isLying 1 = .ok (.getfield 29, 3) := by decide +kernel
theorem dX9_isLying_4 : decode cX9_isLying 4 = .ok (.iload_n 1, 1) := by decide +kernel
theorem dX9_isLying_5 : decode cX9_isLying 5 = .ok (.iaload, 1) := by decide +kernel
theorem dX9_isLying_6 : decode cX9_isLying 6 = .ok (.iconst 1, 1) := by decide +kernel
theorem dX9_isLying_7 : decode cX9_isLying 7 = .ok (.if_icmp .ne 7, 3) := by decide +kernel
theorem dX9_isLying_10 : decode cX9_isLying 10 = .ok (.iconst 1, 1) := by decide +kernel
theorem dX9_isLying_11 : decode cX9_isLying 11 = .ok (.goto 4, 3) := by decide +kernel
theorem dX9_isLying_14 : decode cX9_isLying 14 = .ok (.iconst 0, 1) := by decide +kernel
theorem dX9_isLying_15 : decode cX9_isLying 15 = .ok (.ireturn, 1) := by decide +kernel
theorem dX9_isRemembered_0 : decode cX9_isRemembered 0 = .ok (.aload_n 0, 1) := by decide +kernel
theorem dX9_isRemembered_1 : decode cX9_isRemembered 1 = .ok (.getfield 29, 3) := by decide +kernel
theorem dX9_isRemembered_4 : decode cX9_isRemembered 4 = .ok (.iload_n 1, 1) := by decide +kernel
theorem dX9_isRemembered_5 : decode cX9_isRemembered 5 = .ok (.iaload, 1) := by decide +kernel
theorem dX9_isRemembered_6 : decode cX9_isRemembered 6 = .ok (.iconst 1, 1) := by decide +kernel
theorem dX9_isRemembered_7 : decode cX9_isRemembered 7 = .ok (.if_icmp .ne 22, 3) := by decide +kernel
theorem dX9_isRemembered_10 : decode cX9_isRemembered 10 = .ok (.aload_n 0, 1) := by decide +kernel
theorem dX9_isRemembered_11 : decode cX9_isRemembered 11 = .ok (.getfield 35, 3) := by decide +kernel
theorem dX9_isRemembered_14 : decode cX9_isRemembered 14 = .ok (.iload_n 1, 1) := by decide +kernel
theorem dX9_isRemembered_15 : decode cX9_isRemembered 15 = .ok (.iaload, 1) := by decide +kernel
theorem dX9_isRemembered_16 : decode cX9_isRemembered 16 = .ok (.aload_n 0, 1) := by decide +kernel
theorem dX9_isRemembered_17 : decode cX9_isRemembered 17 = .ok (.getfield 26, 3) := by decide +kernel
theorem dX9_isRemembered_20 : decode cX9_isRemembered 20 = .ok (.iload_n 1, 1) := by decide +kernel
theorem dX9_isRemembered_21 : decode cX9_isRemembered 21 = .ok (.iaload, 1) := by decide +kernel
theorem dX9_isRemembered_22 : decode cX9_isRemembered 22 = .ok (.if_icmp .lt 7, 3) := by decide +kernel
theorem dX9_isRemembered_25 : decode cX9_isRemembered 25 = .ok (.iconst 1, 1) := by decide +kernel
theorem dX9_isRemembered_26 : decode cX9_isRemembered 26 = .ok (.goto 4, 3) := by decide +kernel
theorem dX9_isRemembered_29 : decode cX9_isRemembered 29 = .ok (.iconst 0, 1) := by decide +kernel
theorem dX9_isRemembered_30 : decode cX9_isRemembered 30 = .ok (.ireturn, 1) := by decide +kernel
theorem dX9_throwInto_0 : decode cX9_throwInto 0 = .ok (.aload_n 0, 1) := by decide +kernel
theorem dX9_throwInto_1 : decode cX9_throwInto 1 = .ok (.iload_n 1, 1) := by decide +kernel
theorem dX9_throwInto_2 : decode cX9_throwInto 2 = .ok (.iconst 1, 1) := by decide +kernel
theorem dX9_throwInto_3 : decode cX9_throwInto 3 = .ok (.iload_n 2, 1) := by decide +kernel
theorem dX9_throwInto_4 : decode cX9_throwInto 4 = .ok (.invokevirtual 55, 3) := by decide +kernel
theorem dX9_throwInto_7 : decode cX9_throwInto 7 = .ok (.return_, 1) := by decide +kernel
theorem dX9_bringAshore_0 : decode cX9_bringAshore 0 = .ok (.aload_n 0, 1) := by decide +kernel
theorem dX9_bringAshore_1 : decode cX9_bringAshore 1 = .ok (.iload_n 1, 1) := by decide +kernel
theorem dX9_bringAshore_2 : decode cX9_bringAshore 2 = .ok (.iconst 0, 1) := by decide +kernel
theorem dX9_bringAshore_3 : decode cX9_bringAshore 3 = .ok (.iconst 0, 1) := by decide +kernel
theorem dX9_bringAshore_4 : decode cX9_bringAshore 4 = .ok (.invokevirtual 55, 3) := by decide +kernel
theorem dX9_bringAshore_7 : decode cX9_bringAshore 7 = .ok (.return_, 1) := by decide +kernel
theorem dX9_place_0 : decode cX9_place 0 = .ok (.aload_n 0, 1) := by decide +kernel
theorem dX9_place_1 : decode cX9_place 1 = .ok (.getfield 29, 3) := by decide +kernel
theorem dX9_place_4 : decode cX9_place 4 = .ok (.iload_n 1, 1) := by decide +kernel
theorem dX9_place_5 : decode cX9_place 5 = .ok (.iload_n 2, 1) := by decide +kernel
theorem dX9_place_6 : decode cX9_place 6 = .ok (.iastore, 1) := by decide +kernel
theorem dX9_place_7 : decode cX9_place 7 = .ok (.aload_n 0, 1) := by decide +kernel
theorem dX9_place_8 : decode cX9_place 8 = .ok (.getfield 32, 3) := by decide +kernel
theorem dX9_place_11 : decode cX9_place 11 = .ok (.iload_n 1, 1) := by decide +kernel
theorem dX9_place_12 : decode cX9_place 12 = .ok (.iload_n 3, 1) := by decide +kernel
theorem dX9_place_13 : decode cX9_place 13 = .ok (.iastore, 1) := by decide +kernel
theorem dX9_place_14 : decode cX9_place 14 = .ok (.aload_n 0, 1) := by decide +kernel
theorem dX9_place_15 : decode cX9_place 15 = .ok (.getfield 35, 3) := by decide +kernel
theorem dX9_place_18 : decode cX9_place 18 = .ok (.iload_n 1, 1) := by decide +kernel
theorem dX9_place_19 : decode cX9_place 19 = .ok (.iconst 0, 1) := by decide +kernel
theorem dX9_place_20 : decode cX9_place 20 = .ok (.iastore, 1) := by decide +kernel
theorem dX9_place_21 : decode cX9_place 21 = .ok (.return_, 1) := by decide +kernel
theorem dX9_longestRemembered_0 : decode cX9_longestRemembered 0 = .ok (.iconst (-1), 1) := by decide +kernel
theorem dX9_longestRemembered_1 : decode cX9_longestRemembered 1 = .ok (.istore_n 1, 1) := by decide +kernel
theorem dX9_longestRemembered_2 : decode cX9_longestRemembered 2 = .ok (.iconst 0, 1) := by decide +kernel
theorem dX9_longestRemembered_3 : decode cX9_longestRemembered 3 = .ok (.istore_n 2, 1) := by decide +kernel
theorem dX9_longestRemembered_4 : decode cX9_longestRemembered 4 = .ok (.iconst 0, 1) := by decide +kernel
theorem dX9_longestRemembered_5 : decode cX9_longestRemembered 5 = .ok (.istore_n 3, 1) := by decide +kernel
theorem dX9_longestRemembered_6 : decode cX9_longestRemembered 6 = .ok (.iload_n 3, 1) := by decide +kernel
theorem dX9_longestRemembered_7 : decode cX9_longestRemembered 7 = .ok (.aload_n 0, 1) := by decide +kernel
theorem dX9_longestRemembered_8 : decode cX9_longestRemembered 8 = .ok (.getfield 9, 3) := by decide +kernel
theorem dX9_longestRemembered_11 : decode cX9_longestRemembered 11 = .ok (.if_icmp .ge 53, 3) := by decide +kernel
theorem dX9_longestRemembered_14 : decode cX9_longestRemembered 14 = .ok (.aload_n 0, 1) := by decide +kernel
theorem dX9_longestRemembered_15 : decode cX9_longestRemembered 15 = .ok (.getfield 29, 3) := by decide +kernel
theorem dX9_longestRemembered_18 : decode cX9_longestRemembered 18 = .ok (.iload_n 3, 1) := by decide +kernel
theorem dX9_longestRemembered_19 : decode cX9_longestRemembered 19 = .ok (.iaload, 1) := by decide +kernel
theorem dX9_longestRemembered_20 : decode cX9_longestRemembered 20 = .ok (.iconst 1, 1) := by decide +kernel
theorem dX9_longestRemembered_21 : decode cX9_longestRemembered 21 = .ok (.if_icmp .ne 37, 3) := by decide +kernel
theorem dX9_longestRemembered_24 : decode cX9_longestRemembered 24 = .ok (.aload_n 0, 1) := by decide +kernel
theorem dX9_longestRemembered_25 : decode cX9_longestRemembered 25 = .ok (.getfield 35, 3) := by decide +kernel
theorem dX9_longestRemembered_28 : decode cX9_longestRemembered 28 = .ok (.iload_n 3, 1) := by decide +kernel
theorem dX9_longestRemembered_29 : decode cX9_longestRemembered 29 = .ok (.iaload, 1) := by decide +kernel
theorem dX9_longestRemembered_30 : decode cX9_longestRemembered 30 = .ok (.aload_n 0, 1) := by decide +kernel
theorem dX9_longestRemembered_31 : decode cX9_longestRemembered 31 = .ok (.getfield 26, 3) := by decide +kernel
theorem dX9_longestRemembered_34 : decode cX9_longestRemembered 34 = .ok (.iload_n 3, 1) := by decide +kernel
theorem dX9_longestRemembered_35 : decode cX9_longestRemembered 35 = .ok (.iaload, 1) := by decide +kernel
theorem dX9_longestRemembered_36 : decode cX9_longestRemembered 36 = .ok (.if_icmp .lt 22, 3) := by decide +kernel
theorem dX9_longestRemembered_39 : decode cX9_longestRemembered 39 = .ok (.aload_n 0, 1) := by decide +kernel
theorem dX9_longestRemembered_40 : decode cX9_longestRemembered 40 = .ok (.getfield 35, 3) := by decide +kernel
theorem dX9_longestRemembered_43 : decode cX9_longestRemembered 43 = .ok (.iload_n 3, 1) := by decide +kernel
theorem dX9_longestRemembered_44 : decode cX9_longestRemembered 44 = .ok (.iaload, 1) := by decide +kernel
theorem dX9_longestRemembered_45 : decode cX9_longestRemembered 45 = .ok (.iload_n 2, 1) := by decide +kernel
theorem dX9_longestRemembered_46 : decode cX9_longestRemembered 46 = .ok (.if_icmp .le 12, 3) := by decide +kernel
theorem dX9_longestRemembered_49 : decode cX9_longestRemembered 49 = .ok (.iload_n 3, 1) := by decide +kernel
theorem dX9_longestRemembered_50 : decode cX9_longestRemembered 50 = .ok (.istore_n 1, 1) := by decide +kernel
theorem dX9_longestRemembered_51 : decode cX9_longestRemembered 51 = .ok (.aload_n 0, 1) := by decide +kernel
theorem dX9_longestRemembered_52 : decode cX9_longestRemembered 52 = .ok (.getfield 35, 3) := by decide +kernel
theorem dX9_longestRemembered_55 : decode cX9_longestRemembered 55 = .ok (.iload_n 3, 1) := by decide +kernel
theorem dX9_longestRemembered_56 : decode cX9_longestRemembered 56 = .ok (.iaload, 1) := by decide +kernel
theorem dX9_longestRemembered_57 : decode cX9_longestRemembered 57 = .ok (.istore_n 2, 1) := by decide +kernel
theorem dX9_longestRemembered_58 : decode cX9_longestRemembered 58 = .ok (.iinc 3 1, 3) := by decide +kernel
theorem dX9_longestRemembered_61 : decode cX9_longestRemembered 61 = .ok (.goto (-55), 3) := by decide +kernel
theorem dX9_longestRemembered_64 : decode cX9_longestRemembered 64 = .ok (.iload_n 1, 1) := by decide +kernel
theorem dX9_longestRemembered_65 : decode cX9_longestRemembered 65 = .ok (.ireturn, 1) := by decide +kernel
theorem dX9_takeUp_0 : decode cX9_takeUp 0 = .ok (.iload_n 2, 1) := by decide +kernel
theorem dX9_takeUp_1 : decode cX9_takeUp 1 = .ok (.istore_n 3, 1) := by decide +kernel
theorem dX9_takeUp_2 : decode cX9_takeUp 2 = .ok (.iconst 0, 1) := by decide +kernel
theorem dX9_takeUp_3 : decode cX9_takeUp 3 = .ok (.istore 4, 2) := by decide +kernel
theorem dX9_takeUp_5 : decode cX9_takeUp 5 = .ok (.iload 4, 2) := by decide +kernel
theorem dX9_takeUp_7 : decode cX9_takeUp 7 = .ok (.aload_n 0, 1) := by decide +kernel
theorem dX9_takeUp_8 : decode cX9_takeUp 8 = .ok (.getfield 9, 3) := by decide +kernel
theorem dX9_takeUp_11 : decode cX9_takeUp 11 = .ok (.if_icmp .ge 77, 3) := by decide +kernel
theorem dX9_takeUp_14 : decode cX9_takeUp 14 = .ok (.aload_n 0, 1) := by decide +kernel
theorem dX9_takeUp_15 : decode cX9_takeUp 15 = .ok (.getfield 29, 3) := by decide +kernel
theorem dX9_takeUp_18 : decode cX9_takeUp 18 = .ok (.iload 4, 2) := by decide +kernel
theorem dX9_takeUp_20 : decode cX9_takeUp 20 = .ok (.iaload, 1) := by decide +kernel
theorem dX9_takeUp_21 : decode cX9_takeUp 21 = .ok (.iconst 1, 1) := by decide +kernel
theorem dX9_takeUp_22 : decode cX9_takeUp 22 = .ok (.if_icmp .ne 60, 3) := by decide +kernel
theorem dX9_takeUp_25 : decode cX9_takeUp 25 = .ok (.aload_n 0, 1) := by decide +kernel
theorem dX9_takeUp_26 : decode cX9_takeUp 26 = .ok (.getfield 32, 3) := by decide +kernel
theorem dX9_takeUp_29 : decode cX9_takeUp 29 = .ok (.iload 4, 2) := by decide +kernel
theorem dX9_takeUp_31 : decode cX9_takeUp 31 = .ok (.iaload, 1) := by decide +kernel
theorem dX9_takeUp_32 : decode cX9_takeUp 32 = .ok (.iload_n 1, 1) := by decide +kernel
theorem dX9_takeUp_33 : decode cX9_takeUp 33 = .ok (.if_icmp .ne 49, 3) := by decide +kernel
theorem dX9_takeUp_36 : decode cX9_takeUp 36 = .ok (.aload_n 0, 1) := by decide +kernel
theorem dX9_takeUp_37 : decode cX9_takeUp 37 = .ok (.getfield 35, 3) := by decide +kernel
theorem dX9_takeUp_40 : decode cX9_takeUp 40 = .ok (.iload 4, 2) := by decide +kernel
theorem dX9_takeUp_42 : decode cX9_takeUp 42 = .ok (.iaload, 1) := by decide +kernel
theorem dX9_takeUp_43 : decode cX9_takeUp 43 = .ok (.aload_n 0, 1) := by decide +kernel
theorem dX9_takeUp_44 : decode cX9_takeUp 44 = .ok (.getfield 26, 3) := by decide +kernel
theorem dX9_takeUp_47 : decode cX9_takeUp 47 = .ok (.iload 4, 2) := by decide +kernel
theorem dX9_takeUp_49 : decode cX9_takeUp 49 = .ok (.iaload, 1) := by decide +kernel
theorem dX9_takeUp_50 : decode cX9_takeUp 50 = .ok (.if_icmp .lt 32, 3) := by decide +kernel
theorem dX9_takeUp_53 : decode cX9_takeUp 53 = .ok (.aload_n 0, 1) := by decide +kernel
theorem dX9_takeUp_54 : decode cX9_takeUp 54 = .ok (.getfield 19, 3) := by decide +kernel
theorem dX9_takeUp_57 : decode cX9_takeUp 57 = .ok (.iload 4, 2) := by decide +kernel
theorem dX9_takeUp_59 : decode cX9_takeUp 59 = .ok (.iaload, 1) := by decide +kernel
theorem dX9_takeUp_60 : decode cX9_takeUp 60 = .ok (.iload_n 3, 1) := by decide +kernel
theorem dX9_takeUp_61 : decode cX9_takeUp 61 = .ok (.if_icmp .gt 21, 3) := by decide +kernel
theorem dX9_takeUp_64 : decode cX9_takeUp 64 = .ok (.iload_n 3, 1) := by decide +kernel
theorem dX9_takeUp_65 : decode cX9_takeUp 65 = .ok (.aload_n 0, 1) := by decide +kernel
theorem dX9_takeUp_66 : decode cX9_takeUp 66 = .ok (.getfield 19, 3) := by decide +kernel
theorem dX9_takeUp_69 : decode cX9_takeUp 69 = .ok (.iload 4, 2) := by decide +kernel
theorem dX9_takeUp_71 : decode cX9_takeUp 71 = .ok (.iaload, 1) := by decide +kernel
theorem dX9_takeUp_72 : decode cX9_takeUp 72 = .ok (.isub, 1) := by decide +kernel
theorem dX9_takeUp_73 : decode cX9_takeUp 73 = .ok (.istore_n 3, 1) := by decide +kernel
theorem dX9_takeUp_74 : decode cX9_takeUp 74 = .ok (.aload_n 0, 1) := by decide +kernel
theorem dX9_takeUp_75 : decode cX9_takeUp 75 = .ok (.iload 4, 2) := by decide +kernel
theorem dX9_takeUp_77 : decode cX9_takeUp 77 = .ok (.iconst 2, 1) := by decide +kernel
theorem dX9_takeUp_78 : decode cX9_takeUp 78 = .ok (.iconst 0, 1) := by decide +kernel
theorem dX9_takeUp_79 : decode cX9_takeUp 79 = .ok (.invokevirtual 55, 3) := by decide +kernel
theorem dX9_takeUp_82 : decode cX9_takeUp 82 = .ok (.iinc 4 1, 3) := by decide +kernel
theorem dX9_takeUp_85 : decode cX9_takeUp 85 = .ok (.goto (-80), 3) := by decide +kernel
theorem dX9_takeUp_88 : decode cX9_takeUp 88 = .ok (.return_, 1) := by decide +kernel
theorem dX9_growOlder_0 : decode cX9_growOlder 0 = .ok (.iconst 0, 1) := by decide +kernel
theorem dX9_growOlder_1 : decode cX9_growOlder 1 = .ok (.istore_n 3, 1) := by decide +kernel
theorem dX9_growOlder_2 : decode cX9_growOlder 2 = .ok (.iload_n 3, 1) := by decide +kernel
theorem dX9_growOlder_3 : decode cX9_growOlder 3 = .ok (.aload_n 0, 1) := by decide +kernel
theorem dX9_growOlder_4 : decode cX9_growOlder 4 = .ok (.getfield 9, 3) := by decide +kernel
theorem dX9_growOlder_7 : decode cX9_growOlder 7 = .ok (.if_icmp .ge 123, 3) := by decide +kernel
theorem dX9_growOlder_10 : decode cX9_growOlder 10 = .ok (.aload_n 0, 1) := by decide +kernel
theorem dX9_growOlder_11 : decode cX9_growOlder 11 = .ok (.getfield 29, 3) := by decide +kernel
theorem dX9_growOlder_14 : decode cX9_growOlder 14 = .ok (.iload_n 3, 1) := by decide +kernel
theorem dX9_growOlder_15 : decode cX9_growOlder 15 = .ok (.iaload, 1) := by decide +kernel
theorem dX9_growOlder_16 : decode cX9_growOlder 16 = .ok (.iconst 1, 1) := by decide +kernel
theorem dX9_growOlder_17 : decode cX9_growOlder 17 = .ok (.if_icmp .ne 31, 3) := by decide +kernel
theorem dX9_growOlder_20 : decode cX9_growOlder 20 = .ok (.aload_n 0, 1) := by decide +kernel
theorem dX9_growOlder_21 : decode cX9_growOlder 21 = .ok (.getfield 35, 3) := by decide +kernel
theorem dX9_growOlder_24 : decode cX9_growOlder 24 = .ok (.iload_n 3, 1) := by decide +kernel
theorem dX9_growOlder_25 : decode cX9_growOlder 25 = .ok (.dup2, 1) := by decide +kernel
theorem dX9_growOlder_26 : decode cX9_growOlder 26 = .ok (.iaload, 1) := by decide +kernel
theorem dX9_growOlder_27 : decode cX9_growOlder 27 = .ok (.aload_n 0, 1) := by decide +kernel
theorem dX9_growOlder_28 : decode cX9_growOlder 28 = .ok (.getfield 35, 3) := by decide +kernel
theorem dX9_growOlder_31 : decode cX9_growOlder 31 = .ok (.iload_n 3, 1) := by decide +kernel
theorem dX9_growOlder_32 : decode cX9_growOlder 32 = .ok (.iaload, 1) := by decide +kernel
theorem dX9_growOlder_33 : decode cX9_growOlder 33 = .ok (.bipush 99, 2) := by decide +kernel
theorem dX9_growOlder_35 : decode cX9_growOlder 35 = .ok (.if_icmp .ge 7, 3) := by decide +kernel
theorem dX9_growOlder_38 : decode cX9_growOlder 38 = .ok (.iconst 1, 1) := by decide +kernel
theorem dX9_growOlder_39 : decode cX9_growOlder 39 = .ok (.goto 4, 3) := by decide +kernel
theorem dX9_growOlder_42 : decode cX9_growOlder 42 = .ok (.iconst 0, 1) := by decide +kernel
theorem dX9_growOlder_43 : decode cX9_growOlder 43 = .ok (.iadd, 1) := by decide +kernel
theorem dX9_growOlder_44 : decode cX9_growOlder 44 = .ok (.iastore, 1) := by decide +kernel
theorem dX9_growOlder_45 : decode cX9_growOlder 45 = .ok (.goto 79, 3) := by decide +kernel
theorem dX9_growOlder_48 : decode cX9_growOlder 48 = .ok (.aload_n 0, 1) := by decide +kernel
theorem dX9_growOlder_49 : decode cX9_growOlder 49 = .ok (.getfield 29, 3) := by decide +kernel
theorem dX9_growOlder_52 : decode cX9_growOlder 52 = .ok (.iload_n 3, 1) := by decide +kernel
theorem dX9_growOlder_53 : decode cX9_growOlder 53 = .ok (.iaload, 1) := by decide +kernel
theorem dX9_growOlder_54 : decode cX9_growOlder 54 = .ok (.iconst 2, 1) := by decide +kernel
theorem dX9_growOlder_55 : decode cX9_growOlder 55 = .ok (.if_icmp .ne 27, 3) := by decide +kernel
theorem dX9_growOlder_58 : decode cX9_growOlder 58 = .ok (.iload_n 2, 1) := by decide +kernel
theorem dX9_growOlder_59 : decode cX9_growOlder 59 = .ok (.ifCond .eq 23, 3) := by decide +kernel
theorem dX9_growOlder_62 : decode cX9_growOlder 62 = .ok (.aload_n 0, 1) := by decide +kernel
theorem dX9_growOlder_63 : decode cX9_growOlder 63 = .ok (.iload_n 3, 1) := by decide +kernel
theorem dX9_growOlder_64 : decode cX9_growOlder 64 = .ok (.iconst 3, 1) := by decide +kernel
theorem dX9_growOlder_65 : decode cX9_growOlder 65 = .ok (.iconst 0, 1) := by decide +kernel
theorem dX9_growOlder_66 : decode cX9_growOlder 66 = .ok (.invokevirtual 55, 3) := by decide +kernel
theorem dX9_growOlder_69 : decode cX9_growOlder 69 = .ok (.aload_n 0, 1) := by decide +kernel
theorem dX9_growOlder_70 : decode cX9_growOlder 70 = .ok (.getfield 38, 3) := by decide +kernel
theorem dX9_growOlder_73 : decode cX9_growOlder 73 = .ok (.iload_n 3, 1) := by decide +kernel
theorem dX9_growOlder_74 : decode cX9_growOlder 74 = .ok (.dup2, 1) := by decide +kernel
theorem dX9_growOlder_75 : decode cX9_growOlder 75 = .ok (.iaload, 1) := by decide +kernel
theorem dX9_growOlder_76 : decode cX9_growOlder 76 = .ok (.iconst 1, 1) := by decide +kernel
theorem dX9_growOlder_77 : decode cX9_growOlder 77 = .ok (.iadd, 1) := by decide +kernel
theorem dX9_growOlder_78 : decode cX9_growOlder 78 = .ok (.iastore, 1) := by decide +kernel
theorem dX9_growOlder_79 : decode cX9_growOlder 79 = .ok (.goto 45, 3) := by decide +kernel
theorem dX9_growOlder_82 : decode cX9_growOlder 82 = .ok (.aload_n 0, 1) := by decide +kernel
theorem dX9_growOlder_83 : decode cX9_growOlder 83 = .ok (.getfield 29, 3) := by decide +kernel
theorem dX9_growOlder_86 : decode cX9_growOlder 86 = .ok (.iload_n 3, 1) := by decide +kernel
theorem dX9_growOlder_87 : decode cX9_growOlder 87 = .ok (.iaload, 1) := by decide +kernel
theorem dX9_growOlder_88 : decode cX9_growOlder 88 = .ok (.iconst 2, 1) := by decide +kernel
theorem dX9_growOlder_89 : decode cX9_growOlder 89 = .ok (.if_icmp .ne 35, 3) := by decide +kernel
theorem dX9_growOlder_92 : decode cX9_growOlder 92 = .ok (.aload_n 0, 1) := by decide +kernel
theorem dX9_growOlder_93 : decode cX9_growOlder 93 = .ok (.getfield 35, 3) := by decide +kernel
theorem dX9_growOlder_96 : decode cX9_growOlder 96 = .ok (.iload_n 3, 1) := by decide +kernel
theorem dX9_growOlder_97 : decode cX9_growOlder 97 = .ok (.dup2, 1) := by decide +kernel
theorem dX9_growOlder_98 : decode cX9_growOlder 98 = .ok (.iaload, 1) := by decide +kernel
theorem dX9_growOlder_99 : decode cX9_growOlder 99 = .ok (.iconst 1, 1) := by decide +kernel
theorem dX9_growOlder_100 : decode cX9_growOlder 100 = .ok (.iadd, 1) := by decide +kernel
theorem dX9_growOlder_101 : decode cX9_growOlder 101 = .ok (.iastore, 1) := by decide +kernel
theorem dX9_growOlder_102 : decode cX9_growOlder 102 = .ok (.aload_n 0, 1) := by decide +kernel
theorem dX9_growOlder_103 : decode cX9_growOlder 103 = .ok (.getfield 35, 3) := by decide +kernel
theorem dX9_growOlder_106 : decode cX9_growOlder 106 = .ok (.iload_n 3, 1) := by decide +kernel
theorem dX9_growOlder_107 : decode cX9_growOlder 107 = .ok (.iaload, 1) := by decide +kernel
theorem dX9_growOlder_108 : decode cX9_growOlder 108 = .ok (.aload_n 0, 1) := by decide +kernel
theorem dX9_growOlder_109 : decode cX9_growOlder 109 = .ok (.getfield 23, 3) := by decide +kernel
theorem dX9_growOlder_112 : decode cX9_growOlder 112 = .ok (.iload_n 3, 1) := by decide +kernel
theorem dX9_growOlder_113 : decode cX9_growOlder 113 = .ok (.iaload, 1) := by decide +kernel
theorem dX9_growOlder_114 : decode cX9_growOlder 114 = .ok (.if_icmp .lt 10, 3) := by decide +kernel
theorem dX9_growOlder_117 : decode cX9_growOlder 117 = .ok (.aload_n 0, 1) := by decide +kernel
theorem dX9_growOlder_118 : decode cX9_growOlder 118 = .ok (.iload_n 3, 1) := by decide +kernel
theorem dX9_growOlder_119 : decode cX9_growOlder 119 = .ok (.iconst 1, 1) := by decide +kernel
theorem dX9_growOlder_120 : decode cX9_growOlder 120 = .ok (.iload_n 1, 1) := by decide +kernel
theorem dX9_growOlder_121 : decode cX9_growOlder 121 = .ok (.invokevirtual 55, 3) := by decide +kernel
theorem dX9_growOlder_124 : decode cX9_growOlder 124 = .ok (.iinc 3 1, 3) := by decide +kernel
theorem dX9_growOlder_127 : decode cX9_growOlder 127 = .ok (.goto (-125), 3) := by decide +kernel
theorem dX9_growOlder_130 : decode cX9_growOlder 130 = .ok (.return_, 1) := by decide +kernel
theorem dX9_carriedWeight_0 : decode cX9_carriedWeight 0 = .ok (.iconst 0, 1) := by decide +kernel
theorem dX9_carriedWeight_1 : decode cX9_carriedWeight 1 = .ok (.istore_n 1, 1) := by decide +kernel
theorem dX9_carriedWeight_2 : decode cX9_carriedWeight 2 = .ok (.iconst 0, 1) := by decide +kernel
theorem dX9_carriedWeight_3 : decode cX9_carriedWeight 3 = .ok (.istore_n 2, 1) := by decide +kernel
theorem dX9_carriedWeight_4 : decode cX9_carriedWeight 4 = .ok (.iload_n 2, 1) := by decide +kernel
theorem dX9_carriedWeight_5 : decode cX9_carriedWeight 5 = .ok (.aload_n 0, 1) := by decide +kernel
theorem dX9_carriedWeight_6 : decode cX9_carriedWeight 6 = .ok (.getfield 9, 3) := by decide +kernel
theorem dX9_carriedWeight_9 : decode cX9_carriedWeight 9 = .ok (.if_icmp .ge 28, 3) := by decide +kernel
theorem dX9_carriedWeight_12 : decode cX9_carriedWeight 12 = .ok (.aload_n 0, 1) := by decide +kernel
theorem dX9_carriedWeight_13 : decode cX9_carriedWeight 13 = .ok (.getfield 29, 3) := by decide +kernel
theorem dX9_carriedWeight_16 : decode cX9_carriedWeight 16 = .ok (.iload_n 2, 1) := by decide +kernel
theorem dX9_carriedWeight_17 : decode cX9_carriedWeight 17 = .ok (.iaload, 1) := by decide +kernel
theorem dX9_carriedWeight_18 : decode cX9_carriedWeight 18 = .ok (.iconst 2, 1) := by decide +kernel
theorem dX9_carriedWeight_19 : decode cX9_carriedWeight 19 = .ok (.if_icmp .ne 12, 3) := by decide +kernel
theorem dX9_carriedWeight_22 : decode cX9_carriedWeight 22 = .ok (.iload_n 1, 1) := by decide +kernel
theorem dX9_carriedWeight_23 : decode cX9_carriedWeight 23 = .ok (.aload_n 0, 1) := by decide +kernel
theorem dX9_carriedWeight_24 : decode cX9_carriedWeight 24 = .ok (.getfield 19, 3) := by decide +kernel
theorem dX9_carriedWeight_27 : decode cX9_carriedWeight 27 = .ok (.iload_n 2, 1) := by decide +kernel
theorem dX9_carriedWeight_28 : decode cX9_carriedWeight 28 = .ok (.iaload, 1) := by decide +kernel
theorem dX9_carriedWeight_29 : decode cX9_carriedWeight 29 = .ok (.iadd, 1) := by decide +kernel
theorem dX9_carriedWeight_30 : decode cX9_carriedWeight 30 = .ok (.istore_n 1, 1) := by decide +kernel
theorem dX9_carriedWeight_31 : decode cX9_carriedWeight 31 = .ok (.iinc 2 1, 3) := by decide +kernel
theorem dX9_carriedWeight_34 : decode cX9_carriedWeight 34 = .ok (.goto (-30), 3) := by decide +kernel
theorem dX9_carriedWeight_37 : decode cX9_carriedWeight 37 = .ok (.iload_n 1, 1) := by decide +kernel
theorem dX9_carriedWeight_38 : decode cX9_carriedWeight 38 = .ok (.ireturn, 1) := by decide +kernel
theorem dX9_weightOf_0 : decode cX9_weightOf 0 = .ok (.iconst 0, 1) := by decide +kernel
theorem dX9_weightOf_1 : decode cX9_weightOf 1 = .ok (.istore_n 2, 1) := by decide +kernel
theorem dX9_weightOf_2 : decode cX9_weightOf 2 = .ok (.iconst 0, 1) := by decide +kernel
theorem dX9_weightOf_3 : decode cX9_weightOf 3 = .ok (.istore_n 3, 1) := by decide +kernel
theorem dX9_weightOf_4 : decode cX9_weightOf 4 = .ok (.iload_n 3, 1) := by decide +kernel
theorem dX9_weightOf_5 : decode cX9_weightOf 5 = .ok (.aload_n 0, 1) := by decide +kernel
theorem dX9_weightOf_6 : decode cX9_weightOf 6 = .ok (.getfield 9, 3) := by decide +kernel
theorem dX9_weightOf_9 : decode cX9_weightOf 9 = .ok (.if_icmp .ge 27, 3) := by decide +kernel
theorem dX9_weightOf_12 : decode cX9_weightOf 12 = .ok (.iload_n 1, 1) := by decide +kernel
theorem dX9_weightOf_13 : decode cX9_weightOf 13 = .ok (.iload_n 3, 1) := by decide +kernel
theorem dX9_weightOf_14 : decode cX9_weightOf 14 = .ok (.ishr, 1) := by decide +kernel
theorem dX9_weightOf_15 : decode cX9_weightOf 15 = .ok (.iconst 1, 1) := by decide +kernel
theorem dX9_weightOf_16 : decode cX9_weightOf 16 = .ok (.iand, 1) := by decide +kernel
theorem dX9_weightOf_17 : decode cX9_weightOf 17 = .ok (.iconst 1, 1) := by decide +kernel
theorem dX9_weightOf_18 : decode cX9_weightOf 18 = .ok (.if_icmp .ne 12, 3) := by decide +kernel
theorem dX9_weightOf_21 : decode cX9_weightOf 21 = .ok (.iload_n 2, 1) := by decide +kernel
theorem dX9_weightOf_22 : decode cX9_weightOf 22 = .ok (.aload_n 0, 1) := by decide +kernel
theorem dX9_weightOf_23 : decode cX9_weightOf 23 = .ok (.getfield 19, 3) := by decide +kernel
theorem dX9_weightOf_26 : decode cX9_weightOf 26 = .ok (.iload_n 3, 1) := by decide +kernel
theorem dX9_weightOf_27 : decode cX9_weightOf 27 = .ok (.iaload, 1) := by decide +kernel
theorem dX9_weightOf_28 : decode cX9_weightOf 28 = .ok (.iadd, 1) := by decide +kernel
theorem dX9_weightOf_29 : decode cX9_weightOf 29 = .ok (.istore_n 2, 1) := by decide +kernel
theorem dX9_weightOf_30 : decode cX9_weightOf 30 = .ok (.iinc 3 1, 3) := by decide +kernel
theorem dX9_weightOf_33 : decode cX9_weightOf 33 = .ok (.goto (-29), 3) := by decide +kernel
theorem dX9_weightOf_36 : decode cX9_weightOf 36 = .ok (.iload_n 2, 1) := by decide +kernel
theorem dX9_weightOf_37 : decode cX9_weightOf 37 = .ok (.ireturn, 1) := by decide +kernel
theorem dX9_setThatIs_0 : decode cX9_setThatIs 0 = .ok (.iconst 0, 1) := by decide +kernel
theorem dX9_setThatIs_1 : decode cX9_setThatIs 1 = .ok (.istore_n 2, 1) := by decide +kernel
theorem dX9_setThatIs_2 : decode cX9_setThatIs 2 = .ok (.iconst 0, 1) := by decide +kernel
theorem dX9_setThatIs_3 : decode cX9_setThatIs 3 = .ok (.istore_n 3, 1) := by decide +kernel
theorem dX9_setThatIs_4 : decode cX9_setThatIs 4 = .ok (.iload_n 3, 1) := by decide +kernel
theorem dX9_setThatIs_5 : decode cX9_setThatIs 5 = .ok (.aload_n 0, 1) := by decide +kernel
theorem dX9_setThatIs_6 : decode cX9_setThatIs 6 = .ok (.getfield 9, 3) := by decide +kernel
theorem dX9_setThatIs_9 : decode cX9_setThatIs 9 = .ok (.if_icmp .ge 25, 3) := by decide +kernel
theorem dX9_setThatIs_12 : decode cX9_setThatIs 12 = .ok (.aload_n 0, 1) := by decide +kernel
theorem dX9_setThatIs_13 : decode cX9_setThatIs 13 = .ok (.getfield 29, 3) := by decide +kernel
theorem dX9_setThatIs_16 : decode cX9_setThatIs 16 = .ok (.iload_n 3, 1) := by decide +kernel
theorem dX9_setThatIs_17 : decode cX9_setThatIs 17 = .ok (.iaload, 1) := by decide +kernel
theorem dX9_setThatIs_18 : decode cX9_setThatIs 18 = .ok (.iload_n 1, 1) := by decide +kernel
theorem dX9_setThatIs_19 : decode cX9_setThatIs 19 = .ok (.if_icmp .ne 9, 3) := by decide +kernel
theorem dX9_setThatIs_22 : decode cX9_setThatIs 22 = .ok (.iload_n 2, 1) := by decide +kernel
theorem dX9_setThatIs_23 : decode cX9_setThatIs 23 = .ok (.iconst 1, 1) := by decide +kernel
theorem dX9_setThatIs_24 : decode cX9_setThatIs 24 = .ok (.iload_n 3, 1) := by decide +kernel
theorem dX9_setThatIs_25 : decode cX9_setThatIs 25 = .ok (.ishl, 1) := by decide +kernel
theorem dX9_setThatIs_26 : decode cX9_setThatIs 26 = .ok (.ior, 1) := by decide +kernel
theorem dX9_setThatIs_27 : decode cX9_setThatIs 27 = .ok (.istore_n 2, 1) := by decide +kernel
theorem dX9_setThatIs_28 : decode cX9_setThatIs 28 = .ok (.iinc 3 1, 3) := by decide +kernel
theorem dX9_setThatIs_31 : decode cX9_setThatIs 31 = .ok (.goto (-27), 3) := by decide +kernel
theorem dX9_setThatIs_34 : decode cX9_setThatIs 34 = .ok (.iload_n 2, 1) := by decide +kernel
theorem dX9_setThatIs_35 : decode cX9_setThatIs 35 = .ok (.ireturn, 1) := by decide +kernel
theorem dX9_setRemembered_0 : decode cX9_setRemembered 0 = .ok (.iconst 0, 1) := by decide +kernel
theorem dX9_setRemembered_1 : decode cX9_setRemembered 1 = .ok (.istore_n 1, 1) := by decide +kernel
theorem dX9_setRemembered_2 : decode cX9_setRemembered 2 = .ok (.iconst 0, 1) := by decide +kernel
theorem dX9_setRemembered_3 : decode cX9_setRemembered 3 = .ok (.istore_n 2, 1) := by decide +kernel
theorem dX9_setRemembered_4 : decode cX9_setRemembered 4 = .ok (.iload_n 2, 1) := by decide +kernel
theorem dX9_setRemembered_5 : decode cX9_setRemembered 5 = .ok (.aload_n 0, 1) := by decide +kernel
theorem dX9_setRemembered_6 : decode cX9_setRemembered 6 = .ok (.getfield 9, 3) := by decide +kernel
theorem dX9_setRemembered_9 : decode cX9_setRemembered 9 = .ok (.if_icmp .ge 23, 3) := by decide +kernel
theorem dX9_setRemembered_12 : decode cX9_setRemembered 12 = .ok (.aload_n 0, 1) := by decide +kernel
theorem dX9_setRemembered_13 : decode cX9_setRemembered 13 = .ok (.iload_n 2, 1) := by decide +kernel
theorem dX9_setRemembered_14 : decode cX9_setRemembered 14 = .ok (.invokevirtual 59, 3) := by decide +kernel
theorem dX9_setRemembered_17 : decode cX9_setRemembered 17 = .ok (.ifCond .eq 9, 3) := by decide +kernel
theorem dX9_setRemembered_20 : decode cX9_setRemembered 20 = .ok (.iload_n 1, 1) := by decide +kernel
theorem dX9_setRemembered_21 : decode cX9_setRemembered 21 = .ok (.iconst 1, 1) := by decide +kernel
theorem dX9_setRemembered_22 : decode cX9_setRemembered 22 = .ok (.iload_n 2, 1) := by decide +kernel
theorem dX9_setRemembered_23 : decode cX9_setRemembered 23 = .ok (.ishl, 1) := by decide +kernel
theorem dX9_setRemembered_24 : decode cX9_setRemembered 24 = .ok (.ior, 1) := by decide +kernel
theorem dX9_setRemembered_25 : decode cX9_setRemembered 25 = .ok (.istore_n 1, 1) := by decide +kernel
theorem dX9_setRemembered_26 : decode cX9_setRemembered 26 = .ok (.iinc 2 1, 3) := by decide +kernel
theorem dX9_setRemembered_29 : decode cX9_setRemembered 29 = .ok (.goto (-25), 3) := by decide +kernel
theorem dX9_setRemembered_32 : decode cX9_setRemembered 32 = .ok (.iload_n 1, 1) := by decide +kernel
theorem dX9_setRemembered_33 : decode cX9_setRemembered 33 = .ok (.ireturn, 1) := by decide +kernel
theorem dX9_areQuiet_0 : decode cX9_areQuiet 0 = .ok (.iconst 0, 1) := by decide +kernel
theorem dX9_areQuiet_1 : decode cX9_areQuiet 1 = .ok (.istore_n 1, 1) := by decide +kernel
theorem dX9_areQuiet_2 : decode cX9_areQuiet 2 = .ok (.iload_n 1, 1) := by decide +kernel
theorem dX9_areQuiet_3 : decode cX9_areQuiet 3 = .ok (.aload_n 0, 1) := by decide +kernel
theorem dX9_areQuiet_4 : decode cX9_areQuiet 4 = .ok (.getfield 9, 3) := by decide +kernel
theorem dX9_areQuiet_7 : decode cX9_areQuiet 7 = .ok (.if_icmp .ge 19, 3) := by decide +kernel
theorem dX9_areQuiet_10 : decode cX9_areQuiet 10 = .ok (.aload_n 0, 1) := by decide +kernel
theorem dX9_areQuiet_11 : decode cX9_areQuiet 11 = .ok (.iload_n 1, 1) := by decide +kernel
theorem dX9_areQuiet_12 : decode cX9_areQuiet 12 = .ok (.invokevirtual 63, 3) := by decide +kernel
theorem dX9_areQuiet_15 : decode cX9_areQuiet 15 = .ok (.ifCond .ne 5, 3) := by decide +kernel
theorem dX9_areQuiet_18 : decode cX9_areQuiet 18 = .ok (.iconst 0, 1) := by decide +kernel
theorem dX9_areQuiet_19 : decode cX9_areQuiet 19 = .ok (.ireturn, 1) := by decide +kernel
theorem dX9_areQuiet_20 : decode cX9_areQuiet 20 = .ok (.iinc 1 1, 3) := by decide +kernel
theorem dX9_areQuiet_23 : decode cX9_areQuiet 23 = .ok (.goto (-21), 3) := by decide +kernel
theorem dX9_areQuiet_26 : decode cX9_areQuiet 26 = .ok (.iconst 1, 1) := by decide +kernel
theorem dX9_areQuiet_27 : decode cX9_areQuiet 27 = .ok (.ireturn, 1) := by decide +kernel
theorem dX9_homesInAll_0 : decode cX9_homesInAll 0 = .ok (.iconst 0, 1) := by decide +kernel
theorem dX9_homesInAll_1 : decode cX9_homesInAll 1 = .ok (.istore_n 1, 1) := by decide +kernel
theorem dX9_homesInAll_2 : decode cX9_homesInAll 2 = .ok (.iconst 0, 1) := by decide +kernel
theorem dX9_homesInAll_3 : decode cX9_homesInAll 3 = .ok (.istore_n 2, 1) := by decide +kernel
theorem dX9_homesInAll_4 : decode cX9_homesInAll 4 = .ok (.iload_n 2, 1) := by decide +kernel
theorem dX9_homesInAll_5 : decode cX9_homesInAll 5 = .ok (.aload_n 0, 1) := by decide +kernel
theorem dX9_homesInAll_6 : decode cX9_homesInAll 6 = .ok (.getfield 9, 3) := by decide +kernel
theorem dX9_homesInAll_9 : decode cX9_homesInAll 9 = .ok (.if_icmp .ge 18, 3) := by decide +kernel
theorem dX9_homesInAll_12 : decode cX9_homesInAll 12 = .ok (.iload_n 1, 1) := by decide +kernel
theorem dX9_homesInAll_13 : decode cX9_homesInAll 13 = .ok (.aload_n 0, 1) := by decide +kernel
theorem dX9_homesInAll_14 : decode cX9_homesInAll 14 = .ok (.getfield 38, 3) := by decide +kernel
theorem dX9_homesInAll_17 : decode cX9_homesInAll 17 = .ok (.iload_n 2, 1) := by decide +kernel
theorem dX9_homesInAll_18 : decode cX9_homesInAll 18 = .ok (.iaload, 1) := by decide +kernel
theorem dX9_homesInAll_19 : decode cX9_homesInAll 19 = .ok (.iadd, 1) := by decide +kernel
theorem dX9_homesInAll_20 : decode cX9_homesInAll 20 = .ok (.istore_n 1, 1) := by decide +kernel
theorem dX9_homesInAll_21 : decode cX9_homesInAll 21 = .ok (.iinc 2 1, 3) := by decide +kernel
theorem dX9_homesInAll_24 : decode cX9_homesInAll 24 = .ok (.goto (-20), 3) := by decide +kernel
theorem dX9_homesInAll_27 : decode cX9_homesInAll 27 = .ok (.iload_n 1, 1) := by decide +kernel
theorem dX9_homesInAll_28 : decode cX9_homesInAll 28 = .ok (.ireturn, 1) := by decide +kernel
theorem dX9_pictureFrom_0 : decode cX9_pictureFrom 0 = .ok (.lconst 0, 1) := by decide +kernel
theorem dX9_pictureFrom_1 : decode cX9_pictureFrom 1 = .ok (.lstore_n 2, 1) := by decide +kernel
theorem dX9_pictureFrom_2 : decode cX9_pictureFrom 2 = .ok (.iload_n 1, 1) := by decide +kernel
theorem dX9_pictureFrom_3 : decode cX9_pictureFrom 3 = .ok (.istore 4, 2) := by decide +kernel
theorem dX9_pictureFrom_5 : decode cX9_pictureFrom 5 = .ok (.iload 4, 2) := by decide +kernel
theorem dX9_pictureFrom_7 : decode cX9_pictureFrom 7 = .ok (.iload_n 1, 1) := by decide +kernel
theorem dX9_pictureFrom_8 : decode cX9_pictureFrom 8 = .ok (.iconst 4, 1) := by decide +kernel
theorem dX9_pictureFrom_9 : decode cX9_pictureFrom 9 = .ok (.iadd, 1) := by decide +kernel
theorem dX9_pictureFrom_10 : decode cX9_pictureFrom 10 = .ok (.if_icmp .ge 56, 3) := by decide +kernel
theorem dX9_pictureFrom_13 : decode cX9_pictureFrom 13 = .ok (.iload 4, 2) := by decide +kernel
theorem dX9_pictureFrom_15 : decode cX9_pictureFrom 15 = .ok (.aload_n 0, 1) := by decide +kernel
theorem dX9_pictureFrom_16 : decode cX9_pictureFrom 16 = .ok (.getfield 9, 3) := by decide +kernel
theorem dX9_pictureFrom_19 : decode cX9_pictureFrom 19 = .ok (.if_icmp .ge 47, 3) := by decide +kernel
theorem dX9_pictureFrom_22 : decode cX9_pictureFrom 22 = .ok (.lload_n 2, 1) := by decide +kernel
theorem dX9_pictureFrom_23 : decode cX9_pictureFrom 23 = .ok (.bipush 13, 2) := by decide +kernel
theorem dX9_pictureFrom_25 : decode cX9_pictureFrom 25 = .ok (.lshl, 1) := by decide +kernel
theorem dX9_pictureFrom_26 : decode cX9_pictureFrom 26 = .ok (.aload_n 0, 1) := by decide +kernel
theorem dX9_pictureFrom_27 : decode cX9_pictureFrom 27 = .ok (.getfield 29, 3) := by decide +kernel
theorem dX9_pictureFrom_30 : decode cX9_pictureFrom 30 = .ok (.iload 4, 2) := by decide +kernel
theorem dX9_pictureFrom_32 : decode cX9_pictureFrom 32 = .ok (.iaload, 1) := by decide +kernel
theorem dX9_pictureFrom_33 : decode cX9_pictureFrom 33 = .ok (.bipush 11, 2) := by decide +kernel
theorem dX9_pictureFrom_35 : decode cX9_pictureFrom 35 = .ok (.ishl, 1) := by decide +kernel
theorem dX9_pictureFrom_36 : decode cX9_pictureFrom 36 = .ok (.i2l, 1) := by decide +kernel
theorem dX9_pictureFrom_37 : decode cX9_pictureFrom 37 = .ok (.lor, 1) := by decide +kernel
theorem dX9_pictureFrom_38 : decode cX9_pictureFrom 38 = .ok (.aload_n 0, 1) := by decide +kernel
theorem dX9_pictureFrom_39 : decode cX9_pictureFrom 39 = .ok (.getfield 32, 3) := by decide +kernel
theorem dX9_pictureFrom_42 : decode cX9_pictureFrom 42 = .ok (.iload 4, 2) := by decide +kernel
theorem dX9_pictureFrom_44 : decode cX9_pictureFrom 44 = .ok (.iaload, 1) := by decide +kernel
theorem dX9_pictureFrom_45 : decode cX9_pictureFrom 45 = .ok (.bipush 7, 2) := by decide +kernel
theorem dX9_pictureFrom_47 : decode cX9_pictureFrom 47 = .ok (.ishl, 1) := by decide +kernel
theorem dX9_pictureFrom_48 : decode cX9_pictureFrom 48 = .ok (.i2l, 1) := by decide +kernel
theorem dX9_pictureFrom_49 : decode cX9_pictureFrom 49 = .ok (.lor, 1) := by decide +kernel
theorem dX9_pictureFrom_50 : decode cX9_pictureFrom 50 = .ok (.aload_n 0, 1) := by decide +kernel
theorem dX9_pictureFrom_51 : decode cX9_pictureFrom 51 = .ok (.getfield 35, 3) := by decide +kernel
theorem dX9_pictureFrom_54 : decode cX9_pictureFrom 54 = .ok (.iload 4, 2) := by decide +kernel
theorem dX9_pictureFrom_56 : decode cX9_pictureFrom 56 = .ok (.iaload, 1) := by decide +kernel
theorem dX9_pictureFrom_57 : decode cX9_pictureFrom 57 = .ok (.i2l, 1) := by decide +kernel
theorem dX9_pictureFrom_58 : decode cX9_pictureFrom 58 = .ok (.lor, 1) := by decide +kernel
theorem dX9_pictureFrom_59 : decode cX9_pictureFrom 59 = .ok (.lstore_n 2, 1) := by decide +kernel
theorem dX9_pictureFrom_60 : decode cX9_pictureFrom 60 = .ok (.iinc 4 1, 3) := by decide +kernel
theorem dX9_pictureFrom_63 : decode cX9_pictureFrom 63 = .ok (.goto (-58), 3) := by decide +kernel
theorem dX9_pictureFrom_66 : decode cX9_pictureFrom 66 = .ok (.lload_n 2, 1) := by decide +kernel
theorem dX9_pictureFrom_67 : decode cX9_pictureFrom 67 = .ok (.lreturn, 1) := by decide +kernel
theorem dX10_init_0 : decode cX10_init 0 = .ok (.aload_n 0, 1) := by decide +kernel
theorem dX10_init_1 : decode cX10_init 1 = .ok (.invokespecial 1, 3) := by decide +kernel
theorem dX10_init_4 : decode cX10_init 4 = .ok (.aload_n 0, 1) := by decide +kernel
theorem dX10_init_5 : decode cX10_init 5 = .ok (.iconst 4, 1) := by decide +kernel
theorem dX10_init_6 : decode cX10_init 6 = .ok (.newarray .int, 2) := by decide +kernel
theorem dX10_init_8 : decode cX10_init 8 = .ok (.dup, 1) := by decide +kernel
theorem dX10_init_9 : decode cX10_init 9 = .ok (.iconst 0, 1) := by decide +kernel
theorem dX10_init_10 : decode cX10_init 10 = .ok (.iconst (-1), 1) := by decide +kernel
theorem dX10_init_11 : decode cX10_init 11 = .ok (.iastore, 1) := by decide +kernel
theorem dX10_init_12 : decode cX10_init 12 = .ok (.dup, 1) := by decide +kernel
theorem dX10_init_13 : decode cX10_init 13 = .ok (.iconst 1, 1) := by decide +kernel
theorem dX10_init_14 : decode cX10_init 14 = .ok (.iconst (-1), 1) := by decide +kernel
theorem dX10_init_15 : decode cX10_init 15 = .ok (.iastore, 1) := by decide +kernel
theorem dX10_init_16 : decode cX10_init 16 = .ok (.dup, 1) := by decide +kernel
theorem dX10_init_17 : decode cX10_init 17 = .ok (.iconst 2, 1) := by decide +kernel
theorem dX10_init_18 : decode cX10_init 18 = .ok (.iconst (-1), 1) := by decide +kernel
theorem dX10_init_19 : decode cX10_init 19 = .ok (.iastore, 1) := by decide +kernel
theorem dX10_init_20 : decode cX10_init 20 = .ok (.dup, 1) := by decide +kernel
theorem dX10_init_21 : decode cX10_init 21 = .ok (.iconst 3, 1) := by decide +kernel
theorem dX10_init_22 : decode cX10_init 22 = .ok (.iconst (-1), 1) := by decide +kernel
theorem dX10_init_23 : decode cX10_init 23 = .ok (.iastore, 1) := by decide +kernel
theorem dX10_init_24 : decode cX10_init 24 = .ok (.putfield 9, 3) := by decide +kernel
theorem dX10_init_27 : decode cX10_init 27 = .ok (.aload_n 0, 1) := by decide +kernel
theorem dX10_init_28 : decode cX10_init 28 = .ok (.iconst 4, 1) := by decide +kernel
theorem dX10_init_29 : decode cX10_init 29 = .ok (.newarray .int, 2) := by decide +kernel
theorem dX10_init_31 : decode cX10_init 31 = .ok (.putfield 13, 3) := by decide +kernel
theorem dX10_init_34 : decode cX10_init 34 = .ok (.aload_n 0, 1) := by decide +kernel
theorem dX10_init_35 : decode cX10_init 35 = .ok (.iconst 4, 1) := by decide +kernel
theorem dX10_init_36 : decode cX10_init 36 = .ok (.bipush 60, 2) := by decide +kernel
theorem dX10_init_38 : decode cX10_init 38 = .ok (.multianewarray 16 2, 4) := by decide +kernel
theorem dX10_init_42 : decode cX10_init 42 = .ok (.putfield 18, 3) := by decide +kernel
theorem dX10_init_45 : decode cX10_init 45 = .ok (.return_, 1) := by decide +kernel
theorem dX10_isTray_0 : decode cX10_isTray 0 = .ok (.iload_n 1, 1) := by decide +kernel
theorem dX10_isTray_1 : decode cX10_isTray 1 = .ok (.ifCond .lt 12, 3) := by decide +kernel
theorem dX10_isTray_4 : decode cX10_isTray 4 = .ok (.iload_n 1, 1) := by decide +kernel
theorem dX10_isTray_5 : decode cX10_isTray 5 = .ok (.iconst 4, 1) := by decide +kernel
theorem dX10_isTray_6 : decode cX10_isTray 6 = .ok (.if_icmp .ge 7, 3) := by decide +kernel
theorem dX10_isTray_9 : decode cX10_isTray 9 = .ok (.iconst 1, 1) := by decide +kernel
theorem dX10_isTray_10 : decode cX10_isTray 10 = .ok (.goto 4, 3) := by decide +kernel
theorem dX10_isTray_13 : decode cX10_isTray 13 = .ok (.iconst 0, 1) := by decide +kernel
theorem dX10_isTray_14 : decode cX10_isTray 14 = .ok (.ireturn, 1) := by decide +kernel
theorem dX10_isMissing_0 : decode cX10_isMissing 0 = .ok (.aload_n 0, 1) := by decide +kernel
theorem dX10_isMissing_1 : decode cX10_isMissing 1 = .ok (.getfield 9, 3) := by decide +kernel
theorem dX10_isMissing_4 : decode cX10_isMissing 4 = .ok (.iload_n 1, 1) := by decide +kernel
theorem dX10_isMissing_5 : decode cX10_isMissing 5 = .ok (.iaload, 1) := by decide +kernel
theorem dX10_isMissing_6 : decode cX10_isMissing 6 = .ok (.iconst (-1), 1) := by decide +kernel
theorem dX10_isMissing_7 : decode cX10_isMissing 7 = .ok (.if_icmp .ne 7, 3) := by decide +kernel
theorem dX10_isMissing_10 : decode cX10_isMissing 10 = .ok (.iconst 1, 1) := by decide +kernel
theorem dX10_isMissing_11 : decode cX10_isMissing 11 = .ok (.goto 4, 3) := by decide +kernel
theorem dX10_isMissing_14 : decode cX10_isMissing 14 = .ok (.iconst 0, 1) := by decide +kernel
theorem dX10_isMissing_15 : decode cX10_isMissing 15 = .ok (.ireturn, 1) := by decide +kernel
theorem dX10_lay_0 : decode cX10_lay 0 = .ok (.aload_n 0, 1) := by decide +kernel
theorem dX10_lay_1 : decode cX10_lay 1 = .ok (.getfield 9, 3) := by decide +kernel
theorem dX10_lay_4 : decode cX10_lay 4 = .ok (.iload_n 1, 1) := by decide +kernel
theorem dX10_lay_5 : decode cX10_lay 5 = .ok (.iload_n 2, 1) := by decide +kernel
theorem dX10_lay_6 : decode cX10_lay 6 = .ok (.iastore, 1) := by decide +kernel
theorem dX10_lay_7 : decode cX10_lay 7 = .ok (.aload_n 0, 1) := by decide +kernel
theorem dX10_lay_8 : decode cX10_lay 8 = .ok (.getfield 13, 3) := by decide +kernel
theorem dX10_lay_11 : decode cX10_lay 11 = .ok (.iload_n 1, 1) := by decide +kernel
theorem dX10_lay_12 : decode cX10_lay 12 = .ok (.iload_n 3, 1) := by decide +kernel
theorem dX10_lay_13 : decode cX10_lay 13 = .ok (.iastore, 1) := by decide +kernel
theorem dX10_lay_14 : decode cX10_lay 14 = .ok (.iconst 0, 1) := by decide +kernel
theorem dX10_lay_15 : decode cX10_lay 15 = .ok (.istore 4, 2) := by decide +kernel
theorem dX10_lay_17 : decode cX10_lay 17 = .ok (.iload 4, 2) := by decide +kernel
theorem dX10_lay_19 : decode cX10_lay 19 = .ok (.iload_n 3, 1) := by decide +kernel
theorem dX10_lay_20 : decode cX10_lay 20 = .ok (.if_icmp .ge 19, 3) := by decide +kernel
theorem dX10_lay_23 : decode cX10_lay 23 = .ok (.aload_n 0, 1) := by decide +kernel
theorem dX10_lay_24 : decode cX10_lay 24 = .ok (.getfield 18, 3) := by decide +kernel
theorem dX10_lay_27 : decode cX10_lay 27 = .ok (.iload_n 1, 1) := by decide +kernel
theorem dX10_lay_28 : decode cX10_lay 28 = .ok (.aaload, 1) := by decide +kernel
theorem dX10_lay_29 : decode cX10_lay 29 = .ok (.iload 4, 2) := by decide +kernel
theorem dX10_lay_31 : decode cX10_lay 31 = .ok (.lconst 0, 1) := by decide +kernel
theorem dX10_lay_32 : decode cX10_lay 32 = .ok (.lastore, 1) := by decide +kernel
theorem dX10_lay_33 : decode cX10_lay 33 = .ok (.iinc 4 1, 3) := by decide +kernel
theorem dX10_lay_36 : decode cX10_lay 36 = .ok (.goto (-19), 3) := by decide +kernel
theorem dX10_lay_39 : decode cX10_lay 39 = .ok (.return_, 1) := by decide +kernel
theorem dX10_put_0 : decode cX10_put 0 = .ok (.aload_n 0, 1) := by decide +kernel
theorem dX10_put_1 : decode cX10_put 1 = .ok (.getfield 18, 3) := by decide +kernel
theorem dX10_put_4 : decode cX10_put 4 = .ok (.iload_n 1, 1) := by decide +kernel
theorem dX10_put_5 : decode cX10_put 5 = .ok (.aaload, 1) := by decide +kernel
theorem dX10_put_6 : decode cX10_put 6 = .ok (.iload_n 2, 1) := by decide +kernel
theorem dX10_put_7 : decode cX10_put 7 = .ok (.aload_n 0, 1) := by decide +kernel
theorem dX10_put_8 : decode cX10_put 8 = .ok (.getfield 9, 3) := by decide +kernel
theorem dX10_put_11 : decode cX10_put 11 = .ok (.iload_n 1, 1) := by decide +kernel
theorem dX10_put_12 : decode cX10_put 12 = .ok (.iaload, 1) := by decide +kernel
theorem dX10_put_13 : decode cX10_put 13 = .ok (.lload_n 3, 1) := by decide +kernel
theorem dX10_put_14 : decode cX10_put 14 = .ok (.invokestatic 21, 3) := by decide +kernel
theorem dX10_put_17 : decode cX10_put 17 = .ok (.lastore, 1) := by decide +kernel
theorem dX10_put_18 : decode cX10_put 18 = .ok (.return_, 1) := by decide +kernel
theorem dX10_cut_0 : decode cX10_cut 0 = .ok (.iload_n 0, 1) := by decide +kernel
theorem dX10_cut_1 : decode cX10_cut 1 = .ok (.tableswitch 41 0 2 #[27, 32, 37], 27) := by decide +kernel
theorem dX10_cut_28 : decode cX10_cut 28 = .ok (.lload_n 1, 1) := by decide +kernel
theorem dX10_cut_29 : decode cX10_cut 29 = .ok (.l2i, 1) := by decide +kernel
theorem dX10_cut_30 : decode cX10_cut 30 = .ok (.i2b, 1) := by decide +kernel
theorem dX10_cut_31 : decode cX10_cut 31 = .ok (.i2l, 1) := by decide +kernel
theorem dX10_cut_32 : decode cX10_cut 32 = .ok (.lreturn, 1) := by decide +kernel
theorem dX10_cut_33 : decode cX10_cut 33 = .ok (.lload_n 1, 1) := by decide +kernel
theorem dX10_cut_34 : decode cX10_cut 34 = .ok (.l2i, 1) := by decide +kernel
theorem dX10_cut_35 : decode cX10_cut 35 = .ok (.i2s, 1) := by decide +kernel
theorem dX10_cut_36 : decode cX10_cut 36 = .ok (.i2l, 1) := by decide +kernel
theorem dX10_cut_37 : decode cX10_cut 37 = .ok (.lreturn, 1) := by decide +kernel
theorem dX10_cut_38 : decode cX10_cut 38 = .ok (.lload_n 1, 1) := by decide +kernel
theorem dX10_cut_39 : decode cX10_cut 39 = .ok (.l2i, 1) := by decide +kernel
theorem dX10_cut_40 : decode cX10_cut 40 = .ok (.i2l, 1) := by decide +kernel
theorem dX10_cut_41 : decode cX10_cut 41 = .ok (.lreturn, 1) := by decide +kernel
theorem dX10_cut_42 : decode cX10_cut 42 = .ok (.lload_n 1, 1) := by decide +kernel
theorem dX10_cut_43 : decode cX10_cut 43 = .ok (.lreturn, 1) := by decide +kernel
theorem dX11_init_0 : decode cX11_init 0 = .ok (.aload_n 0, 1) := by decide +kernel
theorem dX11_init_1 : decode cX11_init 1 = .ok (.invokespecial 1, 3) := by decide +kernel
theorem dX11_init_4 : decode cX11_init 4 = .ok (.aload_n 0, 1) := by decide +kernel
theorem dX11_init_5 : decode cX11_init 5 = .ok (.lconst 0, 1) := by decide +kernel
theorem dX11_init_6 : decode cX11_init 6 = .ok (.putfield 7, 3) := by decide +kernel
theorem dX11_init_9 : decode cX11_init 9 = .ok (.aload_n 0, 1) := by decide +kernel
theorem dX11_init_10 : decode cX11_init 10 = .ok (.lconst 1, 1) := by decide +kernel
theorem dX11_init_11 : decode cX11_init 11 = .ok (.putfield 13, 3) := by decide +kernel
theorem dX11_init_14 : decode cX11_init 14 = .ok (.aload_n 0, 1) := by decide +kernel
theorem dX11_init_15 : decode cX11_init 15 = .ok (.new 16, 3) := by decide +kernel
theorem dX11_init_18 : decode cX11_init 18 = .ok (.dup, 1) := by decide +kernel
theorem dX11_init_19 : decode cX11_init 19 = .ok (.invokespecial 18, 3) := by decide +kernel
theorem dX11_init_22 : decode cX11_init 22 = .ok (.putfield 19, 3) := by decide +kernel
theorem dX11_init_25 : decode cX11_init 25 = .ok (.aload_n 0, 1) := by decide +kernel
theorem dX11_init_26 : decode cX11_init 26 = .ok (.new 23, 3) := by decide +kernel
theorem dX11_init_29 : decode cX11_init 29 = .ok (.dup, 1) := by decide +kernel
theorem dX11_init_30 : decode cX11_init 30 = .ok (.invokespecial 25, 3) := by decide +kernel
theorem dX11_init_33 : decode cX11_init 33 = .ok (.putfield 26, 3) := by decide +kernel
theorem dX11_init_36 : decode cX11_init 36 = .ok (.aload_n 0, 1) := by decide +kernel
theorem dX11_init_37 : decode cX11_init 37 = .ok (.new 30, 3) := by decide +kernel
theorem dX11_init_40 : decode cX11_init 40 = .ok (.dup, 1) := by decide +kernel
theorem dX11_init_41 : decode cX11_init 41 = .ok (.invokespecial 32, 3) := by decide +kernel
theorem dX11_init_44 : decode cX11_init 44 = .ok (.putfield 33, 3) := by decide +kernel
theorem dX11_init_47 : decode cX11_init 47 = .ok (.aload_n 0, 1) := by decide +kernel
theorem dX11_init_48 : decode cX11_init 48 = .ok (.new 37, 3) := by decide +kernel
theorem dX11_init_51 : decode cX11_init 51 = .ok (.dup, 1) := by decide +kernel
theorem dX11_init_52 : decode cX11_init 52 = .ok (.invokespecial 39, 3) := by decide +kernel
theorem dX11_init_55 : decode cX11_init 55 = .ok (.putfield 40, 3) := by decide +kernel
theorem dX11_init_58 : decode cX11_init 58 = .ok (.aload_n 0, 1) := by decide +kernel
theorem dX11_init_59 : decode cX11_init 59 = .ok (.new 30, 3) := by decide +kernel
theorem dX11_init_62 : decode cX11_init 62 = .ok (.dup, 1) := by decide +kernel
theorem dX11_init_63 : decode cX11_init 63 = .ok (.invokespecial 32, 3) := by decide +kernel
theorem dX11_init_66 : decode cX11_init 66 = .ok (.putfield 44, 3) := by decide +kernel
theorem dX11_init_69 : decode cX11_init 69 = .ok (.aload_n 0, 1) := by decide +kernel
theorem dX11_init_70 : decode cX11_init 70 = .ok (.new 47, 3) := by decide +kernel
theorem dX11_init_73 : decode cX11_init 73 = .ok (.dup, 1) := by decide +kernel
theorem dX11_init_74 : decode cX11_init 74 = .ok (.invokespecial 49, 3) := by decide +kernel
theorem dX11_init_77 : decode cX11_init 77 = .ok (.putfield 50, 3) := by decide +kernel
theorem dX11_init_80 : decode cX11_init 80 = .ok (.aload_n 0, 1) := by decide +kernel
theorem dX11_init_81 : decode cX11_init 81 = .ok (.new 54, 3) := by decide +kernel
theorem dX11_init_84 : decode cX11_init 84 = .ok (.dup, 1) := by decide +kernel
theorem dX11_init_85 : decode cX11_init 85 = .ok (.invokespecial 56, 3) := by decide +kernel
theorem dX11_init_88 : decode cX11_init 88 = .ok (.putfield 57, 3) := by decide +kernel
theorem dX11_init_91 : decode cX11_init 91 = .ok (.aload_n 0, 1) := by decide +kernel
theorem dX11_init_92 : decode cX11_init 92 = .ok (.new 61, 3) := by decide +kernel
theorem dX11_init_95 : decode cX11_init 95 = .ok (.dup, 1) := by decide +kernel
theorem dX11_init_96 : decode cX11_init 96 = .ok (.invokespecial 63, 3) := by decide +kernel
theorem dX11_init_99 : decode cX11_init 99 = .ok (.putfield 64, 3) := by decide +kernel
theorem dX11_init_102 : decode cX11_init 102 = .ok (.aload_n 0, 1) := by decide +kernel
theorem dX11_init_103 : decode cX11_init 103 = .ok (.new 68, 3) := by decide +kernel
theorem dX11_init_106 : decode cX11_init 106 = .ok (.dup, 1) := by decide +kernel
theorem dX11_init_107 : decode cX11_init 107 = .ok (.invokespecial 70, 3) := by decide +kernel
theorem dX11_init_110 : decode cX11_init 110 = .ok (.putfield 71, 3) := by decide +kernel
theorem dX11_init_113 : decode cX11_init 113 = .ok (.aload_n 0, 1) := by decide +kernel
theorem dX11_init_114 : decode cX11_init 114 = .ok (.new 75, 3) := by decide +kernel
theorem dX11_init_117 : decode cX11_init 117 = .ok (.dup, 1) := by decide +kernel
theorem dX11_init_118 : decode cX11_init 118 = .ok (.invokespecial 77, 3) := by decide +kernel
theorem dX11_init_121 : decode cX11_init 121 = .ok (.putfield 78, 3) := by decide +kernel
theorem dX11_init_124 : decode cX11_init 124 = .ok (.aload_n 0, 1) := by decide +kernel
theorem dX11_init_125 : decode cX11_init 125 = .ok (.iconst 0, 1) := by decide +kernel
theorem dX11_init_126 : decode cX11_init 126 = .ok (.putfield 82, 3) := by decide +kernel
theorem dX11_init_129 : decode cX11_init 129 = .ok (.aload_n 0, 1) := by decide +kernel
theorem dX11_init_130 : decode cX11_init 130 = .ok (.iconst 3, 1) := by decide +kernel
theorem dX11_init_131 : decode cX11_init 131 = .ok (.anewarray 30, 3) := by decide +kernel
theorem dX11_init_134 : decode cX11_init 134 = .ok (.putfield 86, 3) := by decide +kernel
theorem dX11_init_137 : decode cX11_init 137 = .ok (.aload_n 0, 1) := by decide +kernel
theorem dX11_init_138 : decode cX11_init 138 = .ok (.iconst 3, 1) := by decide +kernel
theorem dX11_init_139 : decode cX11_init 139 = .ok (.anewarray 37, 3) := by decide +kernel
theorem dX11_init_142 : decode cX11_init 142 = .ok (.putfield 90, 3) := by decide +kernel
theorem dX11_init_145 : decode cX11_init 145 = .ok (.iconst 0, 1) := by decide +kernel
theorem dX11_init_146 : decode cX11_init 146 = .ok (.istore_n 1, 1) := by decide +kernel
theorem dX11_init_147 : decode cX11_init 147 = .ok (.iload_n 1, 1) := by decide +kernel
theorem dX11_init_148 : decode cX11_init 148 = .ok (.iconst 3, 1) := by decide +kernel
theorem dX11_init_149 : decode cX11_init 149 = .ok (.if_icmp .ge 35, 3) := by decide +kernel
theorem dX11_init_152 : decode cX11_init 152 = .ok (.aload_n 0, 1) := by decide +kernel
theorem dX11_init_153 : decode cX11_init 153 = .ok (.getfield 86, 3) := by decide +kernel
theorem dX11_init_156 : decode cX11_init 156 = .ok (.iload_n 1, 1) := by decide +kernel
theorem dX11_init_157 : decode cX11_init 157 = .ok (.new 30, 3) := by decide +kernel
theorem dX11_init_160 : decode cX11_init 160 = .ok (.dup, 1) := by decide +kernel
theorem dX11_init_161 : decode cX11_init 161 = .ok (.invokespecial 32, 3) := by decide +kernel
theorem dX11_init_164 : decode cX11_init 164 = .ok (.aastore, 1) := by decide +kernel
theorem dX11_init_165 : decode cX11_init 165 = .ok (.aload_n 0, 1) := by decide +kernel
theorem dX11_init_166 : decode cX11_init 166 = .ok (.getfield 90, 3) := by decide +kernel
theorem dX11_init_169 : decode cX11_init 169 = .ok (.iload_n 1, 1) := by decide +kernel
theorem dX11_init_170 : decode cX11_init 170 = .ok (.new 37, 3) := by decide +kernel
theorem dX11_init_173 : decode cX11_init 173 = .ok (.dup, 1) := by decide +kernel
theorem dX11_init_174 : decode cX11_init 174 = .ok (.invokespecial 39, 3) := by decide +kernel
theorem dX11_init_177 : decode cX11_init 177 = .ok (.aastore, 1) := by decide +kernel
theorem dX11_init_178 : decode cX11_init 178 = .ok (.iinc 1 1, 3) := by decide +kernel
theorem dX11_init_181 : decode cX11_init 181 = .ok (.goto (-34), 3) := by decide +kernel
theorem dX11_init_184 : decode cX11_init 184 = .ok (.aload_n 0, 1) := by decide +kernel
theorem dX11_init_185 : decode cX11_init 185 = .ok (.iconst 5, 1) := by decide +kernel
theorem dX11_init_186 : decode cX11_init 186 = .ok (.newarray .int, 2) := by decide +kernel
theorem dX11_init_188 : decode cX11_init 188 = .ok (.putfield 94, 3) := by decide +kernel
theorem dX11_init_191 : decode cX11_init 191 = .ok (.aload_n 0, 1) := by decide +kernel
theorem dX11_init_192 : decode cX11_init 192 = .ok (.iconst 0, 1) := by decide +kernel
theorem dX11_init_193 : decode cX11_init 193 = .ok (.putfield 98, 3) := by decide +kernel
theorem dX11_init_196 : decode cX11_init 196 = .ok (.aload_n 0, 1) := by decide +kernel
theorem dX11_init_197 : decode cX11_init 197 = .ok (.iconst 0, 1) := by decide +kernel
theorem dX11_init_198 : decode cX11_init 198 = .ok (.putfield 102, 3) := by decide +kernel
theorem dX11_init_201 : decode cX11_init 201 = .ok (.return_, 1) := by decide +kernel
theorem dX11_status_0 : decode cX11_status 0 = .ok (.aload_n 0, 1) := by decide +kernel
theorem dX11_status_1 : decode cX11_status 1 = .ok (.getfield 102, 3) := by decide +kernel
theorem dX11_status_4 : decode cX11_status 4 = .ok (.ireturn, 1) := by decide +kernel
theorem dX11_top_0 : decode cX11_top 0 = .ok (.aload_n 0, 1) := by decide +kernel
theorem dX11_top_1 : decode cX11_top 1 = .ok (.getfield 7, 3) := by decide +kernel
theorem dX11_top_4 : decode cX11_top 4 = .ok (.lreturn, 1) := by decide +kernel
theorem dX11_bottom_0 : decode cX11_bottom 0 = .ok (.aload_n 0, 1) := by decide +kernel
theorem dX11_bottom_1 : decode cX11_bottom 1 = .ok (.getfield 13, 3) := by decide +kernel
theorem dX11_bottom_4 : decode cX11_bottom 4 = .ok (.lreturn, 1) := by decide +kernel
theorem dX11_tray_0 : decode cX11_tray 0 = .ok (.iload_n 1, 1) := by decide +kernel
theorem dX11_tray_1 : decode cX11_tray 1 = .ok (.iconst 0, 1) := by decide +kernel
theorem dX11_tray_2 : decode cX11_tray 2 = .ok (.iconst 3, 1) := by decide +kernel
theorem dX11_tray_3 : decode cX11_tray 3 = .ok (.invokestatic 105, 3) := by decide +kernel
theorem dX11_tray_6 : decode cX11_tray 6 = .ok (.ifCond .ne 22, 3) := by decide +kernel
theorem dX11_tray_9 : decode cX11_tray 9 = .ok (.iload_n 2, 1) := by decide +kernel
theorem dX11_tray_10 : decode cX11_tray 10 = .ok (.iconst 0, 1) := by decide +kernel
theorem dX11_tray_11 : decode cX11_tray 11 = .ok (.iconst 3, 1) := by decide +kernel
theorem dX11_tray_12 : decode cX11_tray 12 = .ok (.invokestatic 105, 3) := by decide +kernel
theorem dX11_tray_15 : decode cX11_tray 15 = .ok (.ifCond .ne 13, 3) := by decide +kernel
theorem dX11_tray_18 : decode cX11_tray 18 = .ok (.iload_n 3, 1) := by decide +kernel
theorem dX11_tray_19 : decode cX11_tray 19 = .ok (.iconst 0, 1) := by decide +kernel
theorem dX11_tray_20 : decode cX11_tray 20 = .ok (.bipush 60, 2) := by decide +kernel
theorem dX11_tray_22 : decode cX11_tray 22 = .ok (.invokestatic 105, 3) := by decide +kernel
theorem dX11_tray_25 : decode cX11_tray 25 = .ok (.ifCond .eq 9, 3) := by decide +kernel
theorem dX11_tray_28 : decode cX11_tray 28 = .ok (.aload_n 0, 1) := by decide +kernel
theorem dX11_tray_29 : decode cX11_tray 29 = .ok (.iconst 1, 1) := by decide +kernel
theorem dX11_tray_30 : decode cX11_tray 30 = .ok (.invokevirtual 109, 3) := by decide +kernel
theorem dX11_tray_33 : decode cX11_tray 33 = .ok (.ireturn, 1) := by decide +kernel
theorem dX11_tray_34 : decode cX11_tray 34 = .ok (.aload_n 0, 1) := by decide +kernel
theorem dX11_tray_35 : decode cX11_tray 35 = .ok (.getfield 19, 3) := by decide +kernel
theorem dX11_tray_38 : decode cX11_tray 38 = .ok (.iload_n 1, 1) := by decide +kernel
theorem dX11_tray_39 : decode cX11_tray 39 = .ok (.iload_n 2, 1) := by decide +kernel
theorem dX11_tray_40 : decode cX11_tray 40 = .ok (.iload_n 3, 1) := by decide +kernel
theorem dX11_tray_41 : decode cX11_tray 41 = .ok (.invokevirtual 113, 3) := by decide +kernel
theorem dX11_tray_44 : decode cX11_tray 44 = .ok (.aload_n 0, 1) := by decide +kernel
theorem dX11_tray_45 : decode cX11_tray 45 = .ok (.invokevirtual 117, 3) := by decide +kernel
theorem dX11_tray_48 : decode cX11_tray 48 = .ok (.ireturn, 1) := by decide +kernel
theorem dX11_write_0 : decode cX11_write 0 = .ok (.aload_n 0, 1) := by decide +kernel
theorem dX11_write_1 : decode cX11_write 1 = .ok (.iload_n 1, 1) := by decide +kernel
theorem dX11_write_2 : decode cX11_write 2 = .ok (.iload_n 2, 1) := by decide +kernel
theorem dX11_write_3 : decode cX11_write 3 = .ok (.invokevirtual 121, 3) := by decide +kernel
theorem dX11_write_6 : decode cX11_write 6 = .ok (.istore 5, 2) := by decide +kernel
theorem dX11_write_8 : decode cX11_write 8 = .ok (.iload 5, 2) := by decide +kernel
theorem dX11_write_10 : decode cX11_write 10 = .ok (.ifCond .eq 10, 3) := by decide +kernel
theorem dX11_write_13 : decode cX11_write 13 = .ok (.aload_n 0, 1) := by decide +kernel
theorem dX11_write_14 : decode cX11_write 14 = .ok (.iload 5, 2) := by decide +kernel
theorem dX11_write_16 : decode cX11_write 16 = .ok (.invokevirtual 109, 3) := by decide +kernel
theorem dX11_write_19 : decode cX11_write 19 = .ok (.ireturn, 1) := by decide +kernel
theorem dX11_write_20 : decode cX11_write 20 = .ok (.aload_n 0, 1) := by decide +kernel
theorem dX11_write_21 : decode cX11_write 21 = .ok (.getfield 19, 3) := by decide +kernel
theorem dX11_write_24 : decode cX11_write 24 = .ok (.iload_n 1, 1) := by decide +kernel
theorem dX11_write_25 : decode cX11_write 25 = .ok (.iload_n 2, 1) := by decide +kernel
theorem dX11_write_26 : decode cX11_write 26 = .ok (.lload_n 3, 1) := by decide +kernel
theorem dX11_write_27 : decode cX11_write 27 = .ok (.invokevirtual 125, 3) := by decide +kernel
theorem dX11_write_30 : decode cX11_write 30 = .ok (.aload_n 0, 1) := by decide +kernel
theorem dX11_write_31 : decode cX11_write 31 = .ok (.invokevirtual 117, 3) := by decide +kernel
theorem dX11_write_34 : decode cX11_write 34 = .ok (.ireturn, 1) := by decide +kernel
theorem dX11_read_0 : decode cX11_read 0 = .ok (.aload_n 0, 1) := by decide +kernel
theorem dX11_read_1 : decode cX11_read 1 = .ok (.iload_n 1, 1) := by decide +kernel
theorem dX11_read_2 : decode cX11_read 2 = .ok (.iload_n 2, 1) := by decide +kernel
theorem dX11_read_3 : decode cX11_read 3 = .ok (.invokevirtual 121, 3) := by decide +kernel
theorem dX11_read_6 : decode cX11_read 6 = .ok (.istore_n 3, 1) := by decide +kernel
theorem dX11_read_7 : decode cX11_read 7 = .ok (.aload_n 0, 1) := by decide +kernel
theorem dX11_read_8 : decode cX11_read 8 = .ok (.iload_n 3, 1) := by decide +kernel
theorem dX11_read_9 : decode cX11_read 9 = .ok (.putfield 102, 3) := by decide +kernel
theorem dX11_read_12 : decode cX11_read 12 = .ok (.iload_n 3, 1) := by decide +kernel
theorem dX11_read_13 : decode cX11_read 13 = .ok (.ifCond .ne 17, 3) := by decide +kernel
theorem dX11_read_16 : decode cX11_read 16 = .ok (.aload_n 0, 1) := by decide +kernel
theorem dX11_read_17 : decode cX11_read 17 = .ok (.getfield 19, 3) := by decide +kernel
theorem dX11_read_20 : decode cX11_read 20 = .ok (.getfield 129, 3) := by decide +kernel
theorem dX11_read_23 : decode cX11_read 23 = .ok (.iload_n 1, 1) := by decide +kernel
theorem dX11_read_24 : decode cX11_read 24 = .ok (.aaload, 1) := by decide +kernel
theorem dX11_read_25 : decode cX11_read 25 = .ok (.iload_n 2, 1) := by decide +kernel
theorem dX11_read_26 : decode cX11_read 26 = .ok (.laload, 1) := by decide +kernel
theorem dX11_read_27 : decode cX11_read 27 = .ok (.goto 6, 3) := by decide +kernel
theorem dX11_read_30 : decode cX11_read 30 = .ok (.ldc2_w 133, 3) := by decide +kernel
theorem dX11_read_33 : decode cX11_read 33 = .ok (.lreturn, 1) := by decide +kernel
theorem dX11_pour_0 : decode cX11_pour 0 = .ok (.aload_n 0, 1) := by decide +kernel
theorem dX11_pour_1 : decode cX11_pour 1 = .ok (.getfield 19, 3) := by decide +kernel
theorem dX11_pour_4 : decode cX11_pour 4 = .ok (.iload_n 1, 1) := by decide +kernel
theorem dX11_pour_5 : decode cX11_pour 5 = .ok (.invokevirtual 135, 3) := by decide +kernel
theorem dX11_pour_8 : decode cX11_pour 8 = .ok (.ifCond .eq 28, 3) := by decide +kernel
theorem dX11_pour_11 : decode cX11_pour 11 = .ok (.aload_n 0, 1) := by decide +kernel
theorem dX11_pour_12 : decode cX11_pour 12 = .ok (.getfield 19, 3) := by decide +kernel
theorem dX11_pour_15 : decode cX11_pour 15 = .ok (.iload_n 3, 1) := by decide +kernel
theorem dX11_pour_16 : decode cX11_pour 16 = .ok (.invokevirtual 135, 3) := by decide +kernel
theorem dX11_pour_19 : decode cX11_pour 19 = .ok (.ifCond .eq 17, 3) := by decide +kernel
theorem dX11_pour_22 : decode cX11_pour 22 = .ok (.iload_n 2, 1) := by decide +kernel
theorem dX11_pour_23 : decode cX11_pour 23 = .ok (.ifCond .lt 13, 3) := by decide +kernel
theorem dX11_pour_26 : decode cX11_pour 26 = .ok (.iload 4, 2) := by decide +kernel
theorem dX11_pour_28 : decode cX11_pour 28 = .ok (.ifCond .lt 8, 3) := by decide +kernel
theorem dX11_pour_31 : decode cX11_pour 31 = .ok (.iload 5, 2) := by decide +kernel
theorem dX11_pour_33 : decode cX11_pour 33 = .ok (.ifCond .ge 9, 3) := by decide +kernel
theorem dX11_pour_36 : decode cX11_pour 36 = .ok (.aload_n 0, 1) := by decide +kernel
theorem dX11_pour_37 : decode cX11_pour 37 = .ok (.iconst 1, 1) := by decide +kernel
theorem dX11_pour_38 : decode cX11_pour 38 = .ok (.invokevirtual 109, 3) := by decide +kernel
theorem dX11_pour_41 : decode cX11_pour 41 = .ok (.ireturn, 1) := by decide +kernel
theorem dX11_pour_42 : decode cX11_pour 42 = .ok (.aload_n 0, 1) := by decide +kernel
theorem dX11_pour_43 : decode cX11_pour 43 = .ok (.getfield 19, 3) := by decide +kernel
theorem dX11_pour_46 : decode cX11_pour 46 = .ok (.iload_n 1, 1) := by decide +kernel
theorem dX11_pour_47 : decode cX11_pour 47 = .ok (.invokevirtual 138, 3) := by decide +kernel
theorem dX11_pour_50 : decode cX11_pour 50 = .ok (.ifCond .ne 14, 3) := by decide +kernel
theorem dX11_pour_53 : decode cX11_pour 53 = .ok (.aload_n 0, 1) := by decide +kernel
theorem dX11_pour_54 : decode cX11_pour 54 = .ok (.getfield 19, 3) := by decide +kernel
theorem dX11_pour_57 : decode cX11_pour 57 = .ok (.iload_n 3, 1) := by decide +kernel
theorem dX11_pour_58 : decode cX11_pour 58 = .ok (.invokevirtual 138, 3) := by decide +kernel
theorem dX11_pour_61 : decode cX11_pour 61 = .ok (.ifCond .eq 9, 3) := by decide +kernel
theorem dX11_pour_64 : decode cX11_pour 64 = .ok (.aload_n 0, 1) := by decide +kernel
theorem dX11_pour_65 : decode cX11_pour 65 = .ok (.iconst 2, 1) := by decide +kernel
theorem dX11_pour_66 : decode cX11_pour 66 = .ok (.invokevirtual 109, 3) := by decide +kernel
theorem dX11_pour_69 : decode cX11_pour 69 = .ok (.ireturn, 1) := by decide +kernel
theorem dX11_pour_70 : decode cX11_pour 70 = .ok (.aload_n 0, 1) := by decide +kernel
theorem dX11_pour_71 : decode cX11_pour 71 = .ok (.getfield 19, 3) := by decide +kernel
theorem dX11_pour_74 : decode cX11_pour 74 = .ok (.getfield 141, 3) := by decide +kernel
theorem dX11_pour_77 : decode cX11_pour 77 = .ok (.iload_n 1, 1) := by decide +kernel
theorem dX11_pour_78 : decode cX11_pour 78 = .ok (.iaload, 1) := by decide +kernel
theorem dX11_pour_79 : decode cX11_pour 79 = .ok (.aload_n 0, 1) := by decide +kernel
theorem dX11_pour_80 : decode cX11_pour 80 = .ok (.getfield 19, 3) := by decide +kernel
theorem dX11_pour_83 : decode cX11_pour 83 = .ok (.getfield 141, 3) := by decide +kernel
theorem dX11_pour_86 : decode cX11_pour 86 = .ok (.iload_n 3, 1) := by decide +kernel
theorem dX11_pour_87 : decode cX11_pour 87 = .ok (.iaload, 1) := by decide +kernel
theorem dX11_pour_88 : decode cX11_pour 88 = .ok (.if_icmp .eq 10, 3) := by decide +kernel
theorem dX11_pour_91 : decode cX11_pour 91 = .ok (.aload_n 0, 1) := by decide +kernel
theorem dX11_pour_92 : decode cX11_pour 92 = .ok (.bipush 8, 2) := by decide +kernel
theorem dX11_pour_94 : decode cX11_pour 94 = .ok (.invokevirtual 109, 3) := by decide +kernel
theorem dX11_pour_97 : decode cX11_pour 97 = .ok (.ireturn, 1) := by decide +kernel
theorem dX11_pour_98 : decode cX11_pour 98 = .ok (.iload_n 2, 1) := by decide +kernel
theorem dX11_pour_99 : decode cX11_pour 99 = .ok (.i2l, 1) := by decide +kernel
theorem dX11_pour_100 : decode cX11_pour 100 = .ok (.iload 5, 2) := by decide +kernel
theorem dX11_pour_102 : decode cX11_pour 102 = .ok (.i2l, 1) := by decide +kernel
theorem dX11_pour_103 : decode cX11_pour 103 = .ok (.ladd, 1) := by decide +kernel
theorem dX11_pour_104 : decode cX11_pour 104 = .ok (.aload_n 0, 1) := by decide +kernel
theorem dX11_pour_105 : decode cX11_pour 105 = .ok (.getfield 19, 3) := by decide +kernel
theorem dX11_pour_108 : decode cX11_pour 108 = .ok (.getfield 144, 3) := by decide +kernel
theorem dX11_pour_111 : decode cX11_pour 111 = .ok (.iload_n 1, 1) := by decide +kernel
theorem dX11_pour_112 : decode cX11_pour 112 = .ok (.iaload, 1) := by decide +kernel
theorem dX11_pour_113 : decode cX11_pour 113 = .ok (.i2l, 1) := by decide +kernel
theorem dX11_pour_114 : decode cX11_pour 114 = .ok (.lcmp, 1) := by decide +kernel
theorem dX11_pour_115 : decode cX11_pour 115 = .ok (.ifCond .gt 24, 3) := by decide +kernel
theorem dX11_pour_118 : decode cX11_pour 118 = .ok (.iload 4, 2) := by decide +kernel
theorem dX11_pour_120 : decode cX11_pour 120 = .ok (.i2l, 1) := by decide +kernel
theorem dX11_pour_121 : decode cX11_pour 121 = .ok (.iload 5, 2) := by decide +kernel
theorem dX11_pour_123 : decode cX11_pour 123 = .ok (.i2l, 1) := by decide +kernel
theorem dX11_pour_124 : decode cX11_pour 124 = .ok (.ladd, 1) := by decide +kernel
theorem dX11_pour_125 : decode cX11_pour 125 = .ok (.aload_n 0, 1) := by decide +kernel
theorem dX11_pour_126 : decode cX11_pour 126 = .ok (.getfield 19, 3) := by decide +kernel
theorem dX11_pour_129 : decode cX11_pour 129 = .ok (.getfield 144, 3) := by decide +kernel
theorem dX11_pour_132 : decode cX11_pour 132 = .ok (.iload_n 3, 1) := by decide +kernel
theorem dX11_pour_133 : decode cX11_pour 133 = .ok (.iaload, 1) := by decide +kernel
theorem dX11_pour_134 : decode cX11_pour 134 = .ok (.i2l, 1) := by decide +kernel
theorem dX11_pour_135 : decode cX11_pour 135 = .ok (.lcmp, 1) := by decide +kernel
theorem dX11_pour_136 : decode cX11_pour 136 = .ok (.ifCond .le 9, 3) := by decide +kernel
theorem dX11_pour_139 : decode cX11_pour 139 = .ok (.aload_n 0, 1) := by decide +kernel
theorem dX11_pour_140 : decode cX11_pour 140 = .ok (.iconst 3, 1) := by decide +kernel
theorem dX11_pour_141 : decode cX11_pour 141 = .ok (.invokevirtual 109, 3) := by decide +kernel
theorem dX11_pour_144 : decode cX11_pour 144 = .ok (.ireturn, 1) := by decide +kernel
theorem dX11_pour_145 : decode cX11_pour 145 = .ok (.aload_n 0, 1) := by decide +kernel
theorem dX11_pour_146 : decode cX11_pour 146 = .ok (.getfield 19, 3) := by decide +kernel
theorem dX11_pour_149 : decode cX11_pour 149 = .ok (.getfield 129, 3) := by decide +kernel
theorem dX11_pour_152 : decode cX11_pour 152 = .ok (.iload_n 1, 1) := by decide +kernel
theorem dX11_pour_153 : decode cX11_pour 153 = .ok (.aaload, 1) := by decide +kernel
theorem dX11_pour_154 : decode cX11_pour 154 = .ok (.iload_n 2, 1) := by decide +kernel
theorem dX11_pour_155 : decode cX11_pour 155 = .ok (.aload_n 0, 1) := by decide +kernel
theorem dX11_pour_156 : decode cX11_pour 156 = .ok (.getfield 19, 3) := by decide +kernel
theorem dX11_pour_159 : decode cX11_pour 159 = .ok (.getfield 129, 3) := by decide +kernel
theorem dX11_pour_162 : decode cX11_pour 162 = .ok (.iload_n 3, 1) := by decide +kernel
theorem dX11_pour_163 : decode cX11_pour 163 = .ok (.aaload, 1) := by decide +kernel
theorem dX11_pour_164 : decode cX11_pour 164 = .ok (.iload 4, 2) := by decide +kernel
theorem dX11_pour_166 : decode cX11_pour 166 = .ok (.iload 5, 2) := by decide +kernel
theorem dX11_pour_168 : decode cX11_pour 168 = .ok (.invokestatic 147, 3) := by decide +kernel
theorem dX11_pour_171 : decode cX11_pour 171 = .ok (.aload_n 0, 1) := by decide +kernel
theorem dX11_pour_172 : decode cX11_pour 172 = .ok (.invokevirtual 117, 3) := by decide +kernel
theorem dX11_pour_175 : decode cX11_pour 175 = .ok (.ireturn, 1) := by decide +kernel
theorem dX11_feed_0 : decode cX11_feed 0 = .ok (.aload_n 0, 1) := by decide +kernel
theorem dX11_feed_1 : decode cX11_feed 1 = .ok (.getfield 26, 3) := by decide +kernel
theorem dX11_feed_4 : decode cX11_feed 4 = .ok (.bipush 20, 2) := by decide +kernel
theorem dX11_feed_6 : decode cX11_feed 6 = .ok (.invokevirtual 153, 3) := by decide +kernel
theorem dX11_feed_9 : decode cX11_feed 9 = .ok (.ifCond .ne 5, 3) := by decide +kernel
theorem dX11_feed_12 : decode cX11_feed 12 = .ok (.iconst (-1), 1) := by decide +kernel
theorem dX11_feed_13 : decode cX11_feed 13 = .ok (.ireturn, 1) := by decide +kernel
theorem dX11_feed_14 : decode cX11_feed 14 = .ok (.aload_n 0, 1) := by decide +kernel
theorem dX11_feed_15 : decode cX11_feed 15 = .ok (.getfield 26, 3) := by decide +kernel
theorem dX11_feed_18 : decode cX11_feed 18 = .ok (.iload_n 1, 1) := by decide +kernel
theorem dX11_feed_19 : decode cX11_feed 19 = .ok (.invokevirtual 156, 3) := by decide +kernel
theorem dX11_feed_22 : decode cX11_feed 22 = .ok (.aload_n 0, 1) := by decide +kernel
theorem dX11_feed_23 : decode cX11_feed 23 = .ok (.getfield 26, 3) := by decide +kernel
theorem dX11_feed_26 : decode cX11_feed 26 = .ok (.iload_n 2, 1) := by decide +kernel
theorem dX11_feed_27 : decode cX11_feed 27 = .ok (.invokevirtual 156, 3) := by decide +kernel
theorem dX11_feed_30 : decode cX11_feed 30 = .ok (.aload_n 0, 1) := by decide +kernel
theorem dX11_feed_31 : decode cX11_feed 31 = .ok (.getfield 26, 3) := by decide +kernel
theorem dX11_feed_34 : decode cX11_feed 34 = .ok (.iload_n 3, 1) := by decide +kernel
theorem dX11_feed_35 : decode cX11_feed 35 = .ok (.invokevirtual 156, 3) := by decide +kernel
theorem dX11_feed_38 : decode cX11_feed 38 = .ok (.aload_n 0, 1) := by decide +kernel
theorem dX11_feed_39 : decode cX11_feed 39 = .ok (.getfield 26, 3) := by decide +kernel
theorem dX11_feed_42 : decode cX11_feed 42 = .ok (.iload 4, 2) := by decide +kernel
theorem dX11_feed_44 : decode cX11_feed 44 = .ok (.invokevirtual 156, 3) := by decide +kernel
theorem dX11_feed_47 : decode cX11_feed 47 = .ok (.aload_n 0, 1) := by decide +kernel
theorem dX11_feed_48 : decode cX11_feed 48 = .ok (.getfield 26, 3) := by decide +kernel
theorem dX11_feed_51 : decode cX11_feed 51 = .ok (.iload 5, 2) := by decide +kernel
theorem dX11_feed_53 : decode cX11_feed 53 = .ok (.invokevirtual 156, 3) := by decide +kernel
theorem dX11_feed_56 : decode cX11_feed 56 = .ok (.aload_n 0, 1) := by decide +kernel
theorem dX11_feed_57 : decode cX11_feed 57 = .ok (.getfield 26, 3) := by decide +kernel
theorem dX11_feed_60 : decode cX11_feed 60 = .ok (.getfield 160, 3) := by decide +kernel
theorem dX11_feed_63 : decode cX11_feed 63 = .ok (.ireturn, 1) := by decide +kernel
theorem dX11_glen_0 : decode cX11_glen 0 = .ok (.iload_n 1, 1) := by decide +kernel
theorem dX11_glen_1 : decode cX11_glen 1 = .ok (.iconst 0, 1) := by decide +kernel
theorem dX11_glen_2 : decode cX11_glen 2 = .ok (.aload_n 0, 1) := by decide +kernel
theorem dX11_glen_3 : decode cX11_glen 3 = .ok (.getfield 26, 3) := by decide +kernel
theorem dX11_glen_6 : decode cX11_glen 6 = .ok (.getfield 160, 3) := by decide +kernel
theorem dX11_glen_9 : decode cX11_glen 9 = .ok (.invokestatic 105, 3) := by decide +kernel
theorem dX11_glen_12 : decode cX11_glen 12 = .ok (.ifCond .eq 9, 3) := by decide +kernel
theorem dX11_glen_15 : decode cX11_glen 15 = .ok (.aload_n 0, 1) := by decide +kernel
theorem dX11_glen_16 : decode cX11_glen 16 = .ok (.iconst 1, 1) := by decide +kernel
theorem dX11_glen_17 : decode cX11_glen 17 = .ok (.invokevirtual 163, 3) := by decide +kernel
theorem dX11_glen_20 : decode cX11_glen 20 = .ok (.ireturn, 1) := by decide +kernel
theorem dX11_glen_21 : decode cX11_glen 21 = .ok (.aload_n 0, 1) := by decide +kernel
theorem dX11_glen_22 : decode cX11_glen 22 = .ok (.getfield 26, 3) := by decide +kernel
theorem dX11_glen_25 : decode cX11_glen 25 = .ok (.iload_n 1, 1) := by decide +kernel
theorem dX11_glen_26 : decode cX11_glen 26 = .ok (.invokevirtual 167, 3) := by decide +kernel
theorem dX11_glen_29 : decode cX11_glen 29 = .ok (.aload_n 0, 1) := by decide +kernel
theorem dX11_glen_30 : decode cX11_glen 30 = .ok (.getfield 50, 3) := by decide +kernel
theorem dX11_glen_33 : decode cX11_glen 33 = .ok (.aload_n 0, 1) := by decide +kernel
theorem dX11_glen_34 : decode cX11_glen 34 = .ok (.getfield 44, 3) := by decide +kernel
theorem dX11_glen_37 : decode cX11_glen 37 = .ok (.aload_n 0, 1) := by decide +kernel
theorem dX11_glen_38 : decode cX11_glen 38 = .ok (.getfield 26, 3) := by decide +kernel
theorem dX11_glen_41 : decode cX11_glen 41 = .ok (.invokevirtual 170, 3) := by decide +kernel
theorem dX11_glen_44 : decode cX11_glen 44 = .ok (.aload_n 0, 1) := by decide +kernel
theorem dX11_glen_45 : decode cX11_glen 45 = .ok (.getfield 26, 3) := by decide +kernel
theorem dX11_glen_48 : decode cX11_glen 48 = .ok (.getfield 174, 3) := by decide +kernel
theorem dX11_glen_51 : decode cX11_glen 51 = .ok (.ifCond .eq 10, 3) := by decide +kernel
theorem dX11_glen_54 : decode cX11_glen 54 = .ok (.aload_n 0, 1) := by decide +kernel
theorem dX11_glen_55 : decode cX11_glen 55 = .ok (.bipush 9, 2) := by decide +kernel
theorem dX11_glen_57 : decode cX11_glen 57 = .ok (.invokevirtual 163, 3) := by decide +kernel
theorem dX11_glen_60 : decode cX11_glen 60 = .ok (.ireturn, 1) := by decide +kernel
theorem dX11_glen_61 : decode cX11_glen 61 = .ok (.aload_n 0, 1) := by decide +kernel
theorem dX11_glen_62 : decode cX11_glen 62 = .ok (.getfield 33, 3) := by decide +kernel
theorem dX11_glen_65 : decode cX11_glen 65 = .ok (.aload_n 0, 1) := by decide +kernel
theorem dX11_glen_66 : decode cX11_glen 66 = .ok (.getfield 44, 3) := by decide +kernel
theorem dX11_glen_69 : decode cX11_glen 69 = .ok (.invokevirtual 177, 3) := by decide +kernel
theorem dX11_glen_72 : decode cX11_glen 72 = .ok (.aload_n 0, 1) := by decide +kernel
theorem dX11_glen_73 : decode cX11_glen 73 = .ok (.getfield 40, 3) := by decide +kernel
theorem dX11_glen_76 : decode cX11_glen 76 = .ok (.invokevirtual 181, 3) := by decide +kernel
theorem dX11_glen_79 : decode cX11_glen 79 = .ok (.aload_n 0, 1) := by decide +kernel
theorem dX11_glen_80 : decode cX11_glen 80 = .ok (.aload_n 0, 1) := by decide +kernel
theorem dX11_glen_81 : decode cX11_glen 81 = .ok (.getfield 33, 3) := by decide +kernel
theorem dX11_glen_84 : decode cX11_glen 84 = .ok (.getfield 184, 3) := by decide +kernel
theorem dX11_glen_87 : decode cX11_glen 87 = .ok (.getfield 188, 3) := by decide +kernel
theorem dX11_glen_90 : decode cX11_glen 90 = .ok (.invokevirtual 193, 3) := by decide +kernel
theorem dX11_glen_93 : decode cX11_glen 93 = .ok (.ireturn, 1) := by decide +kernel
theorem dX11_days_0 : decode cX11_days 0 = .ok (.iload_n 1, 1) := by decide +kernel
theorem dX11_days_1 : decode cX11_days 1 = .ok (.iconst 0, 1) := by decide +kernel
theorem dX11_days_2 : decode cX11_days 2 = .ok (.aload_n 0, 1) := by decide +kernel
theorem dX11_days_3 : decode cX11_days 3 = .ok (.getfield 26, 3) := by decide +kernel
theorem dX11_days_6 : decode cX11_days 6 = .ok (.getfield 160, 3) := by decide +kernel
theorem dX11_days_9 : decode cX11_days 9 = .ok (.sipush 300, 3) := by decide +kernel
theorem dX11_days_12 : decode cX11_days 12 = .ok (.invokestatic 196, 3) := by decide +kernel
theorem dX11_days_15 : decode cX11_days 15 = .ok (.invokestatic 105, 3) := by decide +kernel
theorem dX11_days_18 : decode cX11_days 18 = .ok (.ifCond .eq 9, 3) := by decide +kernel
theorem dX11_days_21 : decode cX11_days 21 = .ok (.aload_n 0, 1) := by decide +kernel
theorem dX11_days_22 : decode cX11_days 22 = .ok (.iconst 1, 1) := by decide +kernel
theorem dX11_days_23 : decode cX11_days 23 = .ok (.invokevirtual 163, 3) := by decide +kernel
theorem dX11_days_26 : decode cX11_days 26 = .ok (.ireturn, 1) := by decide +kernel
theorem dX11_days_27 : decode cX11_days 27 = .ok (.aload_n 0, 1) := by decide +kernel
theorem dX11_days_28 : decode cX11_days 28 = .ok (.getfield 26, 3) := by decide +kernel
theorem dX11_days_31 : decode cX11_days 31 = .ok (.iload_n 1, 1) := by decide +kernel
theorem dX11_days_32 : decode cX11_days 32 = .ok (.invokevirtual 167, 3) := by decide +kernel
theorem dX11_days_35 : decode cX11_days 35 = .ok (.aload_n 0, 1) := by decide +kernel
theorem dX11_days_36 : decode cX11_days 36 = .ok (.getfield 57, 3) := by decide +kernel
theorem dX11_days_39 : decode cX11_days 39 = .ok (.aload_n 0, 1) := by decide +kernel
theorem dX11_days_40 : decode cX11_days 40 = .ok (.getfield 33, 3) := by decide +kernel
theorem dX11_days_43 : decode cX11_days 43 = .ok (.aload_n 0, 1) := by decide +kernel
theorem dX11_days_44 : decode cX11_days 44 = .ok (.getfield 26, 3) := by decide +kernel
theorem dX11_days_47 : decode cX11_days 47 = .ok (.invokevirtual 201, 3) := by decide +kernel
theorem dX11_days_50 : decode cX11_days 50 = .ok (.aload_n 0, 1) := by decide +kernel
theorem dX11_days_51 : decode cX11_days 51 = .ok (.getfield 26, 3) := by decide +kernel
theorem dX11_days_54 : decode cX11_days 54 = .ok (.getfield 174, 3) := by decide +kernel
theorem dX11_days_57 : decode cX11_days 57 = .ok (.ifCond .eq 10, 3) := by decide +kernel
theorem dX11_days_60 : decode cX11_days 60 = .ok (.aload_n 0, 1) := by decide +kernel
theorem dX11_days_61 : decode cX11_days 61 = .ok (.bipush 9, 2) := by decide +kernel
theorem dX11_days_63 : decode cX11_days 63 = .ok (.invokevirtual 163, 3) := by decide +kernel
theorem dX11_days_66 : decode cX11_days 66 = .ok (.ireturn, 1) := by decide +kernel
theorem dX11_days_67 : decode cX11_days 67 = .ok (.aload_n 0, 1) := by decide +kernel
theorem dX11_days_68 : decode cX11_days 68 = .ok (.getfield 40, 3) := by decide +kernel
theorem dX11_days_71 : decode cX11_days 71 = .ok (.aload_n 0, 1) := by decide +kernel
theorem dX11_days_72 : decode cX11_days 72 = .ok (.getfield 57, 3) := by decide +kernel
theorem dX11_days_75 : decode cX11_days 75 = .ok (.getfield 204, 3) := by decide +kernel
theorem dX11_days_78 : decode cX11_days 78 = .ok (.invokevirtual 205, 3) := by decide +kernel
theorem dX11_days_81 : decode cX11_days 81 = .ok (.aload_n 0, 1) := by decide +kernel
theorem dX11_days_82 : decode cX11_days 82 = .ok (.aload_n 0, 1) := by decide +kernel
theorem dX11_days_83 : decode cX11_days 83 = .ok (.getfield 40, 3) := by decide +kernel
theorem dX11_days_86 : decode cX11_days 86 = .ok (.getfield 208, 3) := by decide +kernel
theorem dX11_days_89 : decode cX11_days 89 = .ok (.invokevirtual 193, 3) := by decide +kernel
theorem dX11_days_92 : decode cX11_days 92 = .ok (.ireturn, 1) := by decide +kernel
theorem dX11_fault_0 : decode cX11_fault 0 = .ok (.iload_n 1, 1) := by decide +kernel
theorem dX11_fault_1 : decode cX11_fault 1 = .ok (.ifCond .ne 11, 3) := by decide +kernel
theorem dX11_fault_4 : decode cX11_fault 4 = .ok (.aload_n 0, 1) := by decide +kernel
theorem dX11_fault_5 : decode cX11_fault 5 = .ok (.getfield 26, 3) := by decide +kernel
theorem dX11_fault_8 : decode cX11_fault 8 = .ok (.getfield 174, 3) := by decide +kernel
theorem dX11_fault_11 : decode cX11_fault 11 = .ok (.ireturn, 1) := by decide +kernel
theorem dX11_fault_12 : decode cX11_fault 12 = .ok (.iload_n 1, 1) := by decide +kernel
theorem dX11_fault_13 : decode cX11_fault 13 = .ok (.iconst 1, 1) := by decide +kernel
theorem dX11_fault_14 : decode cX11_fault 14 = .ok (.if_icmp .ne 13, 3) := by decide +kernel
theorem dX11_fault_17 : decode cX11_fault 17 = .ok (.aload_n 0, 1) := by decide +kernel
theorem dX11_fault_18 : decode cX11_fault 18 = .ok (.getfield 26, 3) := by decide +kernel
theorem dX11_fault_21 : decode cX11_fault 21 = .ok (.getfield 211, 3) := by decide +kernel
theorem dX11_fault_24 : decode cX11_fault 24 = .ok (.goto 4, 3) := by decide +kernel
theorem dX11_fault_27 : decode cX11_fault 27 = .ok (.iconst (-1), 1) := by decide +kernel
theorem dX11_fault_28 : decode cX11_fault 28 = .ok (.ireturn, 1) := by decide +kernel
theorem dX11_told_0 : decode cX11_told 0 = .ok (.iload_n 1, 1) := by decide +kernel
theorem dX11_told_1 : decode cX11_told 1 = .ok (.tableswitch 283 0 14 #[75, 90, 105, 117, 129, 141, 153, 165, 177, 189, 205, 221, 237, 253, 268], 75) := by decide +kernel
theorem dX11_told_76 : decode cX11_told 76 = .ok (.aload_n 0, 1) := by decide +kernel
theorem dX11_told_77 : decode cX11_told 77 = .ok (.aload_n 0, 1) := by decide +kernel
theorem dX11_told_78 : decode cX11_told 78 = .ok (.getfield 33, 3) := by decide +kernel
theorem dX11_told_81 : decode cX11_told 81 = .ok (.getfield 184, 3) := by decide +kernel
theorem dX11_told_84 : decode cX11_told 84 = .ok (.getfield 188, 3) := by decide +kernel
theorem dX11_told_87 : decode cX11_told 87 = .ok (.invokevirtual 193, 3) := by decide +kernel
theorem dX11_told_90 : decode cX11_told 90 = .ok (.ireturn, 1) := by decide +kernel
theorem dX11_told_91 : decode cX11_told 91 = .ok (.aload_n 0, 1) := by decide +kernel
theorem dX11_told_92 : decode cX11_told 92 = .ok (.aload_n 0, 1) := by decide +kernel
theorem dX11_told_93 : decode cX11_told 93 = .ok (.getfield 33, 3) := by decide +kernel
theorem dX11_told_96 : decode cX11_told 96 = .ok (.getfield 214, 3) := by decide +kernel
theorem dX11_told_99 : decode cX11_told 99 = .ok (.getfield 218, 3) := by decide +kernel
theorem dX11_told_102 : decode cX11_told 102 = .ok (.invokevirtual 193, 3) := by decide +kernel
theorem dX11_told_105 : decode cX11_told 105 = .ok (.ireturn, 1) := by decide +kernel
theorem dX11_told_106 : decode cX11_told 106 = .ok (.aload_n 0, 1) := by decide +kernel
theorem dX11_told_107 : decode cX11_told 107 = .ok (.aload_n 0, 1) := by decide +kernel
theorem dX11_told_108 : decode cX11_told 108 = .ok (.getfield 33, 3) := by decide +kernel
theorem dX11_told_111 : decode cX11_told 111 = .ok (.getfield 221, 3) := by decide +kernel
theorem dX11_told_114 : decode cX11_told 114 = .ok (.invokevirtual 193, 3) := by decide +kernel
theorem dX11_told_117 : decode cX11_told 117 = .ok (.ireturn, 1) := by decide +kernel
theorem dX11_told_118 : decode cX11_told 118 = .ok (.aload_n 0, 1) := by decide +kernel
theorem dX11_told_119 : decode cX11_told 119 = .ok (.aload_n 0, 1) := by decide +kernel
theorem dX11_told_120 : decode cX11_told 120 = .ok (.getfield 33, 3) := by decide +kernel
theorem dX11_told_123 : decode cX11_told 123 = .ok (.getfield 224, 3) := by decide +kernel
theorem dX11_told_126 : decode cX11_told 126 = .ok (.invokevirtual 193, 3) := by decide +kernel
theorem dX11_told_129 : decode cX11_told 129 = .ok (.ireturn, 1) := by decide +kernel
theorem dX11_told_130 : decode cX11_told 130 = .ok (.aload_n 0, 1) := by decide +kernel
theorem dX11_told_131 : decode cX11_told 131 = .ok (.aload_n 0, 1) := by decide +kernel
theorem dX11_told_132 : decode cX11_told 132 = .ok (.getfield 33, 3) := by decide +kernel
theorem dX11_told_135 : decode cX11_told 135 = .ok (.getfield 227, 3) := by decide +kernel
theorem dX11_told_138 : decode cX11_told 138 = .ok (.invokevirtual 193, 3) := by decide +kernel
theorem dX11_told_141 : decode cX11_told 141 = .ok (.ireturn, 1) := by decide +kernel
theorem dX11_told_142 : decode cX11_told 142 = .ok (.aload_n 0, 1) := by decide +kernel
theorem dX11_told_143 : decode cX11_told 143 = .ok (.aload_n 0, 1) := by decide +kernel
theorem dX11_told_144 : decode cX11_told 144 = .ok (.getfield 33, 3) := by decide +kernel
theorem dX11_told_147 : decode cX11_told 147 = .ok (.getfield 230, 3) := by decide +kernel
theorem dX11_told_150 : decode cX11_told 150 = .ok (.invokevirtual 193, 3) := by decide +kernel
theorem dX11_told_153 : decode cX11_told 153 = .ok (.ireturn, 1) := by decide +kernel
theorem dX11_told_154 : decode cX11_told 154 = .ok (.aload_n 0, 1) := by decide +kernel
theorem dX11_told_155 : decode cX11_told 155 = .ok (.aload_n 0, 1) := by decide +kernel
theorem dX11_told_156 : decode cX11_told 156 = .ok (.getfield 33, 3) := by decide +kernel
theorem dX11_told_159 : decode cX11_told 159 = .ok (.getfield 233, 3) := by decide +kernel
theorem dX11_told_162 : decode cX11_told 162 = .ok (.invokevirtual 193, 3) := by decide +kernel
theorem dX11_told_165 : decode cX11_told 165 = .ok (.ireturn, 1) := by decide +kernel
theorem dX11_told_166 : decode cX11_told 166 = .ok (.aload_n 0, 1) := by decide +kernel
theorem dX11_told_167 : decode cX11_told 167 = .ok (.aload_n 0, 1) := by decide +kernel
theorem dX11_told_168 : decode cX11_told 168 = .ok (.getfield 33, 3) := by decide +kernel
theorem dX11_told_171 : decode cX11_told 171 = .ok (.getfield 236, 3) := by decide +kernel
theorem dX11_told_174 : decode cX11_told 174 = .ok (.invokevirtual 193, 3) := by decide +kernel
theorem dX11_told_177 : decode cX11_told 177 = .ok (.ireturn, 1) := by decide +kernel
theorem dX11_told_178 : decode cX11_told 178 = .ok (.aload_n 0, 1) := by decide +kernel
theorem dX11_told_179 : decode cX11_told 179 = .ok (.aload_n 0, 1) := by decide +kernel
theorem dX11_told_180 : decode cX11_told 180 = .ok (.getfield 33, 3) := by decide +kernel
theorem dX11_told_183 : decode cX11_told 183 = .ok (.getfield 239, 3) := by decide +kernel
theorem dX11_told_186 : decode cX11_told 186 = .ok (.invokevirtual 193, 3) := by decide +kernel
theorem dX11_told_189 : decode cX11_told 189 = .ok (.ireturn, 1) := by decide +kernel
theorem dX11_told_190 : decode cX11_told 190 = .ok (.aload_n 0, 1) := by decide +kernel
theorem dX11_told_191 : decode cX11_told 191 = .ok (.aload_n 0, 1) := by decide +kernel
theorem dX11_told_192 : decode cX11_told 192 = .ok (.getfield 33, 3) := by decide +kernel
theorem dX11_told_195 : decode cX11_told 195 = .ok (.getfield 184, 3) := by decide +kernel
theorem dX11_told_198 : decode cX11_told 198 = .ok (.iconst 0, 1) := by decide +kernel
theorem dX11_told_199 : decode cX11_told 199 = .ok (.invokevirtual 242, 3) := by decide +kernel
theorem dX11_told_202 : decode cX11_told 202 = .ok (.invokevirtual 193, 3) := by decide +kernel
theorem dX11_told_205 : decode cX11_told 205 = .ok (.ireturn, 1) := by decide +kernel
theorem dX11_told_206 : decode cX11_told 206 = .ok (.aload_n 0, 1) := by decide +kernel
theorem dX11_told_207 : decode cX11_told 207 = .ok (.aload_n 0, 1) := by decide +kernel
theorem dX11_told_208 : decode cX11_told 208 = .ok (.getfield 33, 3) := by decide +kernel
theorem dX11_told_211 : decode cX11_told 211 = .ok (.getfield 184, 3) := by decide +kernel
theorem dX11_told_214 : decode cX11_told 214 = .ok (.iconst 1, 1) := by decide +kernel
theorem dX11_told_215 : decode cX11_told 215 = .ok (.invokevirtual 242, 3) := by decide +kernel
theorem dX11_told_218 : decode cX11_told 218 = .ok (.invokevirtual 193, 3) := by decide +kernel
theorem dX11_told_221 : decode cX11_told 221 = .ok (.ireturn, 1) := by decide +kernel
theorem dX11_told_222 : decode cX11_told 222 = .ok (.aload_n 0, 1) := by decide +kernel
theorem dX11_told_223 : decode cX11_told 223 = .ok (.aload_n 0, 1) := by decide +kernel
theorem dX11_told_224 : decode cX11_told 224 = .ok (.getfield 33, 3) := by decide +kernel
theorem dX11_told_227 : decode cX11_told 227 = .ok (.getfield 184, 3) := by decide +kernel
theorem dX11_told_230 : decode cX11_told 230 = .ok (.iconst 2, 1) := by decide +kernel
theorem dX11_told_231 : decode cX11_told 231 = .ok (.invokevirtual 242, 3) := by decide +kernel
theorem dX11_told_234 : decode cX11_told 234 = .ok (.invokevirtual 193, 3) := by decide +kernel
theorem dX11_told_237 : decode cX11_told 237 = .ok (.ireturn, 1) := by decide +kernel
theorem dX11_told_238 : decode cX11_told 238 = .ok (.aload_n 0, 1) := by decide +kernel
theorem dX11_told_239 : decode cX11_told 239 = .ok (.aload_n 0, 1) := by decide +kernel
theorem dX11_told_240 : decode cX11_told 240 = .ok (.getfield 33, 3) := by decide +kernel
theorem dX11_told_243 : decode cX11_told 243 = .ok (.getfield 184, 3) := by decide +kernel
theorem dX11_told_246 : decode cX11_told 246 = .ok (.iconst 3, 1) := by decide +kernel
theorem dX11_told_247 : decode cX11_told 247 = .ok (.invokevirtual 242, 3) := by decide +kernel
theorem dX11_told_250 : decode cX11_told 250 = .ok (.invokevirtual 193, 3) := by decide +kernel
theorem dX11_told_253 : decode cX11_told 253 = .ok (.ireturn, 1) := by decide +kernel
theorem dX11_told_254 : decode cX11_told 254 = .ok (.aload_n 0, 1) := by decide +kernel
theorem dX11_told_255 : decode cX11_told 255 = .ok (.aload_n 0, 1) := by decide +kernel
theorem dX11_told_256 : decode cX11_told 256 = .ok (.getfield 33, 3) := by decide +kernel
theorem dX11_told_259 : decode cX11_told 259 = .ok (.getfield 184, 3) := by decide +kernel
theorem dX11_told_262 : decode cX11_told 262 = .ok (.invokevirtual 245, 3) := by decide +kernel
theorem dX11_told_265 : decode cX11_told 265 = .ok (.invokevirtual 193, 3) := by decide +kernel
theorem dX11_told_268 : decode cX11_told 268 = .ok (.ireturn, 1) := by decide +kernel
theorem dX11_told_269 : decode cX11_told 269 = .ok (.aload_n 0, 1) := by decide +kernel
theorem dX11_told_270 : decode cX11_told 270 = .ok (.aload_n 0, 1) := by decide +kernel
theorem dX11_told_271 : decode cX11_told 271 = .ok (.getfield 33, 3) := by decide +kernel
theorem dX11_told_274 : decode cX11_told 274 = .ok (.getfield 184, 3) := by decide +kernel
theorem dX11_told_277 : decode cX11_told 277 = .ok (.invokevirtual 249, 3) := by decide +kernel
theorem dX11_told_280 : decode cX11_told 280 = .ok (.invokevirtual 193, 3) := by decide +kernel
theorem dX11_told_283 : decode cX11_told 283 = .ok (.ireturn, 1) := by decide +kernel
theorem dX11_told_284 : decode cX11_told 284 = .ok (.aload_n 0, 1) := by decide +kernel
theorem dX11_told_285 : decode cX11_told 285 = .ok (.iconst 1, 1) := by decide +kernel
theorem dX11_told_286 : decode cX11_told 286 = .ok (.invokevirtual 163, 3) := by decide +kernel
theorem dX11_told_289 : decode cX11_told 289 = .ok (.ireturn, 1) := by decide +kernel
theorem dX11_thing_0 : decode cX11_thing 0 = .ok (.aload_n 0, 1) := by decide +kernel
theorem dX11_thing_1 : decode cX11_thing 1 = .ok (.iload_n 1, 1) := by decide +kernel
theorem dX11_thing_2 : decode cX11_thing 2 = .ok (.invokevirtual 252, 3) := by decide +kernel
theorem dX11_thing_5 : decode cX11_thing 5 = .ok (.ifCond .ne 9, 3) := by decide +kernel
theorem dX11_thing_8 : decode cX11_thing 8 = .ok (.aload_n 0, 1) := by decide +kernel
theorem dX11_thing_9 : decode cX11_thing 9 = .ok (.iconst 1, 1) := by decide +kernel
theorem dX11_thing_10 : decode cX11_thing 10 = .ok (.invokevirtual 163, 3) := by decide +kernel
theorem dX11_thing_13 : decode cX11_thing 13 = .ok (.ireturn, 1) := by decide +kernel
theorem dX11_thing_14 : decode cX11_thing 14 = .ok (.iload_n 2, 1) := by decide +kernel
theorem dX11_thing_15 : decode cX11_thing 15 = .ok (.tableswitch 139 0 5 #[37, 54, 71, 88, 105, 122], 37) := by decide +kernel
theorem dX11_thing_52 : decode cX11_thing 52 = .ok (.aload_n 0, 1) := by decide +kernel
theorem dX11_thing_53 : decode cX11_thing 53 = .ok (.aload_n 0, 1) := by decide +kernel
theorem dX11_thing_54 : decode cX11_thing 54 = .ok (.getfield 33, 3) := by decide +kernel
theorem dX11_thing_57 : decode cX11_thing 57 = .ok (.getfield 184, 3) := by decide +kernel
theorem dX11_thing_60 : decode cX11_thing 60 = .ok (.getfield 255, 3) := by decide +kernel
theorem dX11_thing_63 : decode cX11_thing 63 = .ok (.iload_n 1, 1) := by decide +kernel
theorem dX11_thing_64 : decode cX11_thing 64 = .ok (.iaload, 1) := by decide +kernel
theorem dX11_thing_65 : decode cX11_thing 65 = .ok (.invokevirtual 193, 3) := by decide +kernel
theorem dX11_thing_68 : decode cX11_thing 68 = .ok (.ireturn, 1) := by decide +kernel
theorem dX11_thing_69 : decode cX11_thing 69 = .ok (.aload_n 0, 1) := by decide +kernel
theorem dX11_thing_70 : decode cX11_thing 70 = .ok (.aload_n 0, 1) := by decide +kernel
theorem dX11_thing_71 : decode cX11_thing 71 = .ok (.getfield 33, 3) := by decide +kernel
theorem dX11_thing_74 : decode cX11_thing 74 = .ok (.getfield 184, 3) := by decide +kernel
theorem dX11_thing_77 : decode cX11_thing 77 = .ok (.getfield 258, 3) := by decide +kernel
theorem dX11_thing_80 : decode cX11_thing 80 = .ok (.iload_n 1, 1) := by decide +kernel
theorem dX11_thing_81 : decode cX11_thing 81 = .ok (.iaload, 1) := by decide +kernel
theorem dX11_thing_82 : decode cX11_thing 82 = .ok (.invokevirtual 193, 3) := by decide +kernel
theorem dX11_thing_85 : decode cX11_thing 85 = .ok (.ireturn, 1) := by decide +kernel
theorem dX11_thing_86 : decode cX11_thing 86 = .ok (.aload_n 0, 1) := by decide +kernel
theorem dX11_thing_87 : decode cX11_thing 87 = .ok (.aload_n 0, 1) := by decide +kernel
theorem dX11_thing_88 : decode cX11_thing 88 = .ok (.getfield 33, 3) := by decide +kernel
theorem dX11_thing_91 : decode cX11_thing 91 = .ok (.getfield 184, 3) := by decide +kernel
theorem dX11_thing_94 : decode cX11_thing 94 = .ok (.getfield 261, 3) := by decide +kernel
theorem dX11_thing_97 : decode cX11_thing 97 = .ok (.iload_n 1, 1) := by decide +kernel
theorem dX11_thing_98 : decode cX11_thing 98 = .ok (.iaload, 1) := by decide +kernel
theorem dX11_thing_99 : decode cX11_thing 99 = .ok (.invokevirtual 193, 3) := by decide +kernel
theorem dX11_thing_102 : decode cX11_thing 102 = .ok (.ireturn, 1) := by decide +kernel
theorem dX11_thing_103 : decode cX11_thing 103 = .ok (.aload_n 0, 1) := by decide +kernel
theorem dX11_thing_104 : decode cX11_thing 104 = .ok (.aload_n 0, 1) := by decide +kernel
theorem dX11_thing_105 : decode cX11_thing 105 = .ok (.getfield 33, 3) := by decide +kernel
theorem dX11_thing_108 : decode cX11_thing 108 = .ok (.getfield 184, 3) := by decide +kernel
theorem dX11_thing_111 : decode cX11_thing 111 = .ok (.getfield 264, 3) := by decide +kernel
theorem dX11_thing_114 : decode cX11_thing 114 = .ok (.iload_n 1, 1) := by decide +kernel
theorem dX11_thing_115 : decode cX11_thing 115 = .ok (.iaload, 1) := by decide +kernel
theorem dX11_thing_116 : decode cX11_thing 116 = .ok (.invokevirtual 193, 3) := by decide +kernel
theorem dX11_thing_119 : decode cX11_thing 119 = .ok (.ireturn, 1) := by decide +kernel
theorem dX11_thing_120 : decode cX11_thing 120 = .ok (.aload_n 0, 1) := by decide +kernel
theorem dX11_thing_121 : decode cX11_thing 121 = .ok (.aload_n 0, 1) := by decide +kernel
theorem dX11_thing_122 : decode cX11_thing 122 = .ok (.getfield 33, 3) := by decide +kernel
theorem dX11_thing_125 : decode cX11_thing 125 = .ok (.getfield 184, 3) := by decide +kernel
theorem dX11_thing_128 : decode cX11_thing 128 = .ok (.getfield 267, 3) := by decide +kernel
theorem dX11_thing_131 : decode cX11_thing 131 = .ok (.iload_n 1, 1) := by decide +kernel
theorem dX11_thing_132 : decode cX11_thing 132 = .ok (.iaload, 1) := by decide +kernel
theorem dX11_thing_133 : decode cX11_thing 133 = .ok (.invokevirtual 193, 3) := by decide +kernel
theorem dX11_thing_136 : decode cX11_thing 136 = .ok (.ireturn, 1) := by decide +kernel
theorem dX11_thing_137 : decode cX11_thing 137 = .ok (.aload_n 0, 1) := by decide +kernel
theorem dX11_thing_138 : decode cX11_thing 138 = .ok (.aload_n 0, 1) := by decide +kernel
theorem dX11_thing_139 : decode cX11_thing 139 = .ok (.getfield 33, 3) := by decide +kernel
theorem dX11_thing_142 : decode cX11_thing 142 = .ok (.getfield 184, 3) := by decide +kernel
theorem dX11_thing_145 : decode cX11_thing 145 = .ok (.getfield 270, 3) := by decide +kernel
theorem dX11_thing_148 : decode cX11_thing 148 = .ok (.iload_n 1, 1) := by decide +kernel
theorem dX11_thing_149 : decode cX11_thing 149 = .ok (.iaload, 1) := by decide +kernel
theorem dX11_thing_150 : decode cX11_thing 150 = .ok (.invokevirtual 193, 3) := by decide +kernel
theorem dX11_thing_153 : decode cX11_thing 153 = .ok (.ireturn, 1) := by decide +kernel
theorem dX11_thing_154 : decode cX11_thing 154 = .ok (.aload_n 0, 1) := by decide +kernel
theorem dX11_thing_155 : decode cX11_thing 155 = .ok (.iconst 1, 1) := by decide +kernel
theorem dX11_thing_156 : decode cX11_thing 156 = .ok (.invokevirtual 163, 3) := by decide +kernel
theorem dX11_thing_159 : decode cX11_thing 159 = .ok (.ireturn, 1) := by decide +kernel
theorem dX11_cellOf_0 : decode cX11_cellOf 0 = .ok (.aload_n 0, 1) := by decide +kernel
theorem dX11_cellOf_1 : decode cX11_cellOf 1 = .ok (.iload_n 1, 1) := by decide +kernel
theorem dX11_cellOf_2 : decode cX11_cellOf 2 = .ok (.invokevirtual 252, 3) := by decide +kernel
theorem dX11_cellOf_5 : decode cX11_cellOf 5 = .ok (.ifCond .ne 9, 3) := by decide +kernel
theorem dX11_cellOf_8 : decode cX11_cellOf 8 = .ok (.aload_n 0, 1) := by decide +kernel
theorem dX11_cellOf_9 : decode cX11_cellOf 9 = .ok (.iconst 1, 1) := by decide +kernel
theorem dX11_cellOf_10 : decode cX11_cellOf 10 = .ok (.invokevirtual 163, 3) := by decide +kernel
theorem dX11_cellOf_13 : decode cX11_cellOf 13 = .ok (.ireturn, 1) := by decide +kernel
theorem dX11_cellOf_14 : decode cX11_cellOf 14 = .ok (.aload_n 0, 1) := by decide +kernel
theorem dX11_cellOf_15 : decode cX11_cellOf 15 = .ok (.getfield 33, 3) := by decide +kernel
theorem dX11_cellOf_18 : decode cX11_cellOf 18 = .ok (.getfield 184, 3) := by decide +kernel
theorem dX11_cellOf_21 : decode cX11_cellOf 21 = .ok (.iload_n 1, 1) := by decide +kernel
theorem dX11_cellOf_22 : decode cX11_cellOf 22 = .ok (.invokevirtual 273, 3) := by decide +kernel
theorem dX11_cellOf_25 : decode cX11_cellOf 25 = .ok (.ifCond .eq 10, 3) := by decide +kernel
theorem dX11_cellOf_28 : decode cX11_cellOf 28 = .ok (.aload_n 0, 1) := by decide +kernel
theorem dX11_cellOf_29 : decode cX11_cellOf 29 = .ok (.bipush 6, 2) := by decide +kernel
theorem dX11_cellOf_31 : decode cX11_cellOf 31 = .ok (.invokevirtual 163, 3) := by decide +kernel
theorem dX11_cellOf_34 : decode cX11_cellOf 34 = .ok (.ireturn, 1) := by decide +kernel
theorem dX11_cellOf_35 : decode cX11_cellOf 35 = .ok (.aload_n 0, 1) := by decide +kernel
theorem dX11_cellOf_36 : decode cX11_cellOf 36 = .ok (.aload_n 0, 1) := by decide +kernel
theorem dX11_cellOf_37 : decode cX11_cellOf 37 = .ok (.getfield 33, 3) := by decide +kernel
theorem dX11_cellOf_40 : decode cX11_cellOf 40 = .ok (.getfield 184, 3) := by decide +kernel
theorem dX11_cellOf_43 : decode cX11_cellOf 43 = .ok (.iload_n 1, 1) := by decide +kernel
theorem dX11_cellOf_44 : decode cX11_cellOf 44 = .ok (.invokevirtual 276, 3) := by decide +kernel
theorem dX11_cellOf_47 : decode cX11_cellOf 47 = .ok (.ifCond .eq 18, 3) := by decide +kernel
theorem dX11_cellOf_50 : decode cX11_cellOf 50 = .ok (.aload_n 0, 1) := by decide +kernel
theorem dX11_cellOf_51 : decode cX11_cellOf 51 = .ok (.getfield 33, 3) := by decide +kernel
theorem dX11_cellOf_54 : decode cX11_cellOf 54 = .ok (.getfield 184, 3) := by decide +kernel
theorem dX11_cellOf_57 : decode cX11_cellOf 57 = .ok (.getfield 279, 3) := by decide +kernel
theorem dX11_cellOf_60 : decode cX11_cellOf 60 = .ok (.iload_n 1, 1) := by decide +kernel
theorem dX11_cellOf_61 : decode cX11_cellOf 61 = .ok (.iaload, 1) := by decide +kernel
theorem dX11_cellOf_62 : decode cX11_cellOf 62 = .ok (.goto 10, 3) := by decide +kernel
theorem dX11_cellOf_65 : decode cX11_cellOf 65 = .ok (.aload_n 0, 1) := by decide +kernel
theorem dX11_cellOf_66 : decode cX11_cellOf 66 = .ok (.getfield 33, 3) := by decide +kernel
theorem dX11_cellOf_69 : decode cX11_cellOf 69 = .ok (.getfield 233, 3) := by decide +kernel
theorem dX11_cellOf_72 : decode cX11_cellOf 72 = .ok (.invokevirtual 193, 3) := by decide +kernel
theorem dX11_cellOf_75 : decode cX11_cellOf 75 = .ok (.ireturn, 1) := by decide +kernel
theorem dX11_mill_0 : decode cX11_mill 0 = .ok (.aload_n 0, 1) := by decide +kernel
theorem dX11_mill_1 : decode cX11_mill 1 = .ok (.iload_n 1, 1) := by decide +kernel
theorem dX11_mill_2 : decode cX11_mill 2 = .ok (.invokevirtual 282, 3) := by decide +kernel
theorem dX11_mill_5 : decode cX11_mill 5 = .ok (.ifCond .ne 9, 3) := by decide +kernel
theorem dX11_mill_8 : decode cX11_mill 8 = .ok (.aload_n 0, 1) := by decide +kernel
theorem dX11_mill_9 : decode cX11_mill 9 = .ok (.iconst 1, 1) := by decide +kernel
theorem dX11_mill_10 : decode cX11_mill 10 = .ok (.invokevirtual 163, 3) := by decide +kernel
theorem dX11_mill_13 : decode cX11_mill 13 = .ok (.ireturn, 1) := by decide +kernel
theorem dX11_mill_14 : decode cX11_mill 14 = .ok (.iload_n 2, 1) := by decide +kernel
theorem dX11_mill_15 : decode cX11_mill 15 = .ok (.tableswitch 76 0 2 #[25, 42, 59], 25) := by decide +kernel
theorem dX11_mill_40 : decode cX11_mill 40 = .ok (.aload_n 0, 1) := by decide +kernel
theorem dX11_mill_41 : decode cX11_mill 41 = .ok (.aload_n 0, 1) := by decide +kernel
theorem dX11_mill_42 : decode cX11_mill 42 = .ok (.getfield 33, 3) := by decide +kernel
theorem dX11_mill_45 : decode cX11_mill 45 = .ok (.getfield 214, 3) := by decide +kernel
theorem dX11_mill_48 : decode cX11_mill 48 = .ok (.getfield 285, 3) := by decide +kernel
theorem dX11_mill_51 : decode cX11_mill 51 = .ok (.iload_n 1, 1) := by decide +kernel
theorem dX11_mill_52 : decode cX11_mill 52 = .ok (.iaload, 1) := by decide +kernel
theorem dX11_mill_53 : decode cX11_mill 53 = .ok (.invokevirtual 193, 3) := by decide +kernel
theorem dX11_mill_56 : decode cX11_mill 56 = .ok (.ireturn, 1) := by decide +kernel
theorem dX11_mill_57 : decode cX11_mill 57 = .ok (.aload_n 0, 1) := by decide +kernel
theorem dX11_mill_58 : decode cX11_mill 58 = .ok (.aload_n 0, 1) := by decide +kernel
theorem dX11_mill_59 : decode cX11_mill 59 = .ok (.getfield 33, 3) := by decide +kernel
theorem dX11_mill_62 : decode cX11_mill 62 = .ok (.getfield 214, 3) := by decide +kernel
theorem dX11_mill_65 : decode cX11_mill 65 = .ok (.getfield 286, 3) := by decide +kernel
theorem dX11_mill_68 : decode cX11_mill 68 = .ok (.iload_n 1, 1) := by decide +kernel
theorem dX11_mill_69 : decode cX11_mill 69 = .ok (.iaload, 1) := by decide +kernel
theorem dX11_mill_70 : decode cX11_mill 70 = .ok (.invokevirtual 193, 3) := by decide +kernel
theorem dX11_mill_73 : decode cX11_mill 73 = .ok (.ireturn, 1) := by decide +kernel
theorem dX11_mill_74 : decode cX11_mill 74 = .ok (.aload_n 0, 1) := by decide +kernel
theorem dX11_mill_75 : decode cX11_mill 75 = .ok (.aload_n 0, 1) := by decide +kernel
theorem dX11_mill_76 : decode cX11_mill 76 = .ok (.getfield 33, 3) := by decide +kernel
theorem dX11_mill_79 : decode cX11_mill 79 = .ok (.getfield 214, 3) := by decide +kernel
theorem dX11_mill_82 : decode cX11_mill 82 = .ok (.getfield 289, 3) := by decide +kernel
theorem dX11_mill_85 : decode cX11_mill 85 = .ok (.iload_n 1, 1) := by decide +kernel
theorem dX11_mill_86 : decode cX11_mill 86 = .ok (.iaload, 1) := by decide +kernel
theorem dX11_mill_87 : decode cX11_mill 87 = .ok (.invokevirtual 193, 3) := by decide +kernel
theorem dX11_mill_90 : decode cX11_mill 90 = .ok (.ireturn, 1) := by decide +kernel
theorem dX11_mill_91 : decode cX11_mill 91 = .ok (.aload_n 0, 1) := by decide +kernel
theorem dX11_mill_92 : decode cX11_mill 92 = .ok (.iconst 1, 1) := by decide +kernel
theorem dX11_mill_93 : decode cX11_mill 93 = .ok (.invokevirtual 163, 3) := by decide +kernel
theorem dX11_mill_96 : decode cX11_mill 96 = .ok (.ireturn, 1) := by decide +kernel
theorem dX11_goal_0 : decode cX11_goal 0 = .ok (.aload_n 0, 1) := by decide +kernel
theorem dX11_goal_1 : decode cX11_goal 1 = .ok (.aload_n 0, 1) := by decide +kernel
theorem dX11_goal_2 : decode cX11_goal 2 = .ok (.getfield 33, 3) := by decide +kernel
theorem dX11_goal_5 : decode cX11_goal 5 = .ok (.aload_n 0, 1) := by decide +kernel
theorem dX11_goal_6 : decode cX11_goal 6 = .ok (.getfield 33, 3) := by decide +kernel
theorem dX11_goal_9 : decode cX11_goal 9 = .ok (.getfield 184, 3) := by decide +kernel
theorem dX11_goal_12 : decode cX11_goal 12 = .ok (.invokevirtual 292, 3) := by decide +kernel
theorem dX11_goal_15 : decode cX11_goal 15 = .ok (.invokevirtual 295, 3) := by decide +kernel
theorem dX11_goal_18 : decode cX11_goal 18 = .ok (.invokevirtual 193, 3) := by decide +kernel
theorem dX11_goal_21 : decode cX11_goal 21 = .ok (.ireturn, 1) := by decide +kernel
theorem dX11_goalThing_0 : decode cX11_goalThing 0 = .ok (.aload_n 0, 1) := by decide +kernel
theorem dX11_goalThing_1 : decode cX11_goalThing 1 = .ok (.getfield 33, 3) := by decide +kernel
theorem dX11_goalThing_4 : decode cX11_goalThing 4 = .ok (.getfield 184, 3) := by decide +kernel
theorem dX11_goalThing_7 : decode cX11_goalThing 7 = .ok (.invokevirtual 292, 3) := by decide +kernel
theorem dX11_goalThing_10 : decode cX11_goalThing 10 = .ok (.istore_n 1, 1) := by decide +kernel
theorem dX11_goalThing_11 : decode cX11_goalThing 11 = .ok (.iload_n 1, 1) := by decide +kernel
theorem dX11_goalThing_12 : decode cX11_goalThing 12 = .ok (.iconst (-1), 1) := by decide +kernel
theorem dX11_goalThing_13 : decode cX11_goalThing 13 = .ok (.if_icmp .ne 12, 3) := by decide +kernel
theorem dX11_goalThing_16 : decode cX11_goalThing 16 = .ok (.aload_n 0, 1) := by decide +kernel
theorem dX11_goalThing_17 : decode cX11_goalThing 17 = .ok (.bipush 6, 2) := by decide +kernel
theorem dX11_goalThing_19 : decode cX11_goalThing 19 = .ok (.invokevirtual 163, 3) := by decide +kernel
theorem dX11_goalThing_22 : decode cX11_goalThing 22 = .ok (.goto 8, 3) := by decide +kernel
theorem dX11_goalThing_25 : decode cX11_goalThing 25 = .ok (.aload_n 0, 1) := by decide +kernel
theorem dX11_goalThing_26 : decode cX11_goalThing 26 = .ok (.iload_n 1, 1) := by decide +kernel
theorem dX11_goalThing_27 : decode cX11_goalThing 27 = .ok (.invokevirtual 193, 3) := by decide +kernel
theorem dX11_goalThing_30 : decode cX11_goalThing 30 = .ok (.ireturn, 1) := by decide +kernel
theorem dX11_hour_0 : decode cX11_hour 0 = .ok (.iload_n 1, 1) := by decide +kernel
theorem dX11_hour_1 : decode cX11_hour 1 = .ok (.iconst 1, 1) := by decide +kernel
theorem dX11_hour_2 : decode cX11_hour 2 = .ok (.sipush 168, 3) := by decide +kernel
theorem dX11_hour_5 : decode cX11_hour 5 = .ok (.invokestatic 105, 3) := by decide +kernel
theorem dX11_hour_8 : decode cX11_hour 8 = .ok (.ifCond .eq 9, 3) := by decide +kernel
theorem dX11_hour_11 : decode cX11_hour 11 = .ok (.aload_n 0, 1) := by decide +kernel
theorem dX11_hour_12 : decode cX11_hour 12 = .ok (.iconst 1, 1) := by decide +kernel
theorem dX11_hour_13 : decode cX11_hour 13 = .ok (.invokevirtual 163, 3) := by decide +kernel
theorem dX11_hour_16 : decode cX11_hour 16 = .ok (.ireturn, 1) := by decide +kernel
theorem dX11_hour_17 : decode cX11_hour 17 = .ok (.aload_n 0, 1) := by decide +kernel
theorem dX11_hour_18 : decode cX11_hour 18 = .ok (.getfield 33, 3) := by decide +kernel
theorem dX11_hour_21 : decode cX11_hour 21 = .ok (.getfield 230, 3) := by decide +kernel
theorem dX11_hour_24 : decode cX11_hour 24 = .ok (.iload_n 1, 1) := by decide +kernel
theorem dX11_hour_25 : decode cX11_hour 25 = .ok (.iadd, 1) := by decide +kernel
theorem dX11_hour_26 : decode cX11_hour 26 = .ok (.sipush 9999, 3) := by decide +kernel
theorem dX11_hour_29 : decode cX11_hour 29 = .ok (.if_icmp .le 9, 3) := by decide +kernel
theorem dX11_hour_32 : decode cX11_hour 32 = .ok (.aload_n 0, 1) := by decide +kernel
theorem dX11_hour_33 : decode cX11_hour 33 = .ok (.iconst 4, 1) := by decide +kernel
theorem dX11_hour_34 : decode cX11_hour 34 = .ok (.invokevirtual 163, 3) := by decide +kernel
theorem dX11_hour_37 : decode cX11_hour 37 = .ok (.ireturn, 1) := by decide +kernel
theorem dX11_hour_38 : decode cX11_hour 38 = .ok (.aload_n 0, 1) := by decide +kernel
theorem dX11_hour_39 : decode cX11_hour 39 = .ok (.aload_n 0, 1) := by decide +kernel
theorem dX11_hour_40 : decode cX11_hour 40 = .ok (.getfield 33, 3) := by decide +kernel
theorem dX11_hour_43 : decode cX11_hour 43 = .ok (.iload_n 1, 1) := by decide +kernel
theorem dX11_hour_44 : decode cX11_hour 44 = .ok (.invokevirtual 298, 3) := by decide +kernel
theorem dX11_hour_47 : decode cX11_hour 47 = .ok (.invokevirtual 193, 3) := by decide +kernel
theorem dX11_hour_50 : decode cX11_hour 50 = .ok (.ireturn, 1) := by decide +kernel
theorem dX11_toss_0 : decode cX11_toss 0 = .ok (.aload_n 0, 1) := by decide +kernel
theorem dX11_toss_1 : decode cX11_toss 1 = .ok (.iload_n 1, 1) := by decide +kernel
theorem dX11_toss_2 : decode cX11_toss 2 = .ok (.invokevirtual 252, 3) := by decide +kernel
theorem dX11_toss_5 : decode cX11_toss 5 = .ok (.ifCond .eq 11, 3) := by decide +kernel
theorem dX11_toss_8 : decode cX11_toss 8 = .ok (.aload_n 0, 1) := by decide +kernel
theorem dX11_toss_9 : decode cX11_toss 9 = .ok (.iload_n 2, 1) := by decide +kernel
theorem dX11_toss_10 : decode cX11_toss 10 = .ok (.invokevirtual 301, 3) := by decide +kernel
theorem dX11_toss_13 : decode cX11_toss 13 = .ok (.ifCond .ne 9, 3) := by decide +kernel
theorem dX11_toss_16 : decode cX11_toss 16 = .ok (.aload_n 0, 1) := by decide +kernel
theorem dX11_toss_17 : decode cX11_toss 17 = .ok (.iconst 1, 1) := by decide +kernel
theorem dX11_toss_18 : decode cX11_toss 18 = .ok (.invokevirtual 109, 3) := by decide +kernel
theorem dX11_toss_21 : decode cX11_toss 21 = .ok (.ireturn, 1) := by decide +kernel
theorem dX11_toss_22 : decode cX11_toss 22 = .ok (.aload_n 0, 1) := by decide +kernel
theorem dX11_toss_23 : decode cX11_toss 23 = .ok (.getfield 33, 3) := by decide +kernel
theorem dX11_toss_26 : decode cX11_toss 26 = .ok (.getfield 184, 3) := by decide +kernel
theorem dX11_toss_29 : decode cX11_toss 29 = .ok (.iload_n 1, 1) := by decide +kernel
theorem dX11_toss_30 : decode cX11_toss 30 = .ok (.invokevirtual 273, 3) := by decide +kernel
theorem dX11_toss_33 : decode cX11_toss 33 = .ok (.ifCond .ne 10, 3) := by decide +kernel
theorem dX11_toss_36 : decode cX11_toss 36 = .ok (.aload_n 0, 1) := by decide +kernel
theorem dX11_toss_37 : decode cX11_toss 37 = .ok (.bipush 7, 2) := by decide +kernel
theorem dX11_toss_39 : decode cX11_toss 39 = .ok (.invokevirtual 109, 3) := by decide +kernel
theorem dX11_toss_42 : decode cX11_toss 42 = .ok (.ireturn, 1) := by decide +kernel
theorem dX11_toss_43 : decode cX11_toss 43 = .ok (.aload_n 0, 1) := by decide +kernel
theorem dX11_toss_44 : decode cX11_toss 44 = .ok (.getfield 33, 3) := by decide +kernel
theorem dX11_toss_47 : decode cX11_toss 47 = .ok (.getfield 184, 3) := by decide +kernel
theorem dX11_toss_50 : decode cX11_toss 50 = .ok (.iload_n 1, 1) := by decide +kernel
theorem dX11_toss_51 : decode cX11_toss 51 = .ok (.iload_n 2, 1) := by decide +kernel
theorem dX11_toss_52 : decode cX11_toss 52 = .ok (.invokevirtual 304, 3) := by decide +kernel
theorem dX11_toss_55 : decode cX11_toss 55 = .ok (.aload_n 0, 1) := by decide +kernel
theorem dX11_toss_56 : decode cX11_toss 56 = .ok (.invokevirtual 117, 3) := by decide +kernel
theorem dX11_toss_59 : decode cX11_toss 59 = .ok (.ireturn, 1) := by decide +kernel
theorem dX11_fetch_0 : decode cX11_fetch 0 = .ok (.aload_n 0, 1) := by decide +kernel
theorem dX11_fetch_1 : decode cX11_fetch 1 = .ok (.iload_n 1, 1) := by decide +kernel
theorem dX11_fetch_2 : decode cX11_fetch 2 = .ok (.invokevirtual 252, 3) := by decide +kernel
theorem dX11_fetch_5 : decode cX11_fetch 5 = .ok (.ifCond .ne 9, 3) := by decide +kernel
theorem dX11_fetch_8 : decode cX11_fetch 8 = .ok (.aload_n 0, 1) := by decide +kernel
theorem dX11_fetch_9 : decode cX11_fetch 9 = .ok (.iconst 1, 1) := by decide +kernel
theorem dX11_fetch_10 : decode cX11_fetch 10 = .ok (.invokevirtual 163, 3) := by decide +kernel
theorem dX11_fetch_13 : decode cX11_fetch 13 = .ok (.ireturn, 1) := by decide +kernel
theorem dX11_fetch_14 : decode cX11_fetch 14 = .ok (.aload_n 0, 1) := by decide +kernel
theorem dX11_fetch_15 : decode cX11_fetch 15 = .ok (.getfield 33, 3) := by decide +kernel
theorem dX11_fetch_18 : decode cX11_fetch 18 = .ok (.getfield 184, 3) := by decide +kernel
theorem dX11_fetch_21 : decode cX11_fetch 21 = .ok (.iload_n 1, 1) := by decide +kernel
theorem dX11_fetch_22 : decode cX11_fetch 22 = .ok (.invokevirtual 276, 3) := by decide +kernel
theorem dX11_fetch_25 : decode cX11_fetch 25 = .ok (.ifCond .ne 10, 3) := by decide +kernel
theorem dX11_fetch_28 : decode cX11_fetch 28 = .ok (.aload_n 0, 1) := by decide +kernel
theorem dX11_fetch_29 : decode cX11_fetch 29 = .ok (.bipush 7, 2) := by decide +kernel
theorem dX11_fetch_31 : decode cX11_fetch 31 = .ok (.invokevirtual 163, 3) := by decide +kernel
theorem dX11_fetch_34 : decode cX11_fetch 34 = .ok (.ireturn, 1) := by decide +kernel
theorem dX11_fetch_35 : decode cX11_fetch 35 = .ok (.aload_n 0, 1) := by decide +kernel
theorem dX11_fetch_36 : decode cX11_fetch 36 = .ok (.getfield 33, 3) := by decide +kernel
theorem dX11_fetch_39 : decode cX11_fetch 39 = .ok (.getfield 184, 3) := by decide +kernel
theorem dX11_fetch_42 : decode cX11_fetch 42 = .ok (.getfield 279, 3) := by decide +kernel
theorem dX11_fetch_45 : decode cX11_fetch 45 = .ok (.iload_n 1, 1) := by decide +kernel
theorem dX11_fetch_46 : decode cX11_fetch 46 = .ok (.iaload, 1) := by decide +kernel
theorem dX11_fetch_47 : decode cX11_fetch 47 = .ok (.istore_n 2, 1) := by decide +kernel
theorem dX11_fetch_48 : decode cX11_fetch 48 = .ok (.aload_n 0, 1) := by decide +kernel
theorem dX11_fetch_49 : decode cX11_fetch 49 = .ok (.getfield 33, 3) := by decide +kernel
theorem dX11_fetch_52 : decode cX11_fetch 52 = .ok (.getfield 184, 3) := by decide +kernel
theorem dX11_fetch_55 : decode cX11_fetch 55 = .ok (.iload_n 1, 1) := by decide +kernel
theorem dX11_fetch_56 : decode cX11_fetch 56 = .ok (.invokevirtual 308, 3) := by decide +kernel
theorem dX11_fetch_59 : decode cX11_fetch 59 = .ok (.aload_n 0, 1) := by decide +kernel
theorem dX11_fetch_60 : decode cX11_fetch 60 = .ok (.iload_n 2, 1) := by decide +kernel
theorem dX11_fetch_61 : decode cX11_fetch 61 = .ok (.invokevirtual 193, 3) := by decide +kernel
theorem dX11_fetch_64 : decode cX11_fetch 64 = .ok (.ireturn, 1) := by decide +kernel
theorem dX11_grip_0 : decode cX11_grip 0 = .ok (.aload_n 0, 1) := by decide +kernel
theorem dX11_grip_1 : decode cX11_grip 1 = .ok (.iload_n 1, 1) := by decide +kernel
theorem dX11_grip_2 : decode cX11_grip 2 = .ok (.invokevirtual 252, 3) := by decide +kernel
theorem dX11_grip_5 : decode cX11_grip 5 = .ok (.ifCond .eq 13, 3) := by decide +kernel
theorem dX11_grip_8 : decode cX11_grip 8 = .ok (.iload_n 2, 1) := by decide +kernel
theorem dX11_grip_9 : decode cX11_grip 9 = .ok (.iconst 1, 1) := by decide +kernel
theorem dX11_grip_10 : decode cX11_grip 10 = .ok (.bipush 24, 2) := by decide +kernel
theorem dX11_grip_12 : decode cX11_grip 12 = .ok (.invokestatic 105, 3) := by decide +kernel
theorem dX11_grip_15 : decode cX11_grip 15 = .ok (.ifCond .eq 9, 3) := by decide +kernel
theorem dX11_grip_18 : decode cX11_grip 18 = .ok (.aload_n 0, 1) := by decide +kernel
theorem dX11_grip_19 : decode cX11_grip 19 = .ok (.iconst 1, 1) := by decide +kernel
theorem dX11_grip_20 : decode cX11_grip 20 = .ok (.invokevirtual 109, 3) := by decide +kernel
theorem dX11_grip_23 : decode cX11_grip 23 = .ok (.ireturn, 1) := by decide +kernel
theorem dX11_grip_24 : decode cX11_grip 24 = .ok (.aload_n 0, 1) := by decide +kernel
theorem dX11_grip_25 : decode cX11_grip 25 = .ok (.getfield 33, 3) := by decide +kernel
theorem dX11_grip_28 : decode cX11_grip 28 = .ok (.getfield 184, 3) := by decide +kernel
theorem dX11_grip_31 : decode cX11_grip 31 = .ok (.getfield 258, 3) := by decide +kernel
theorem dX11_grip_34 : decode cX11_grip 34 = .ok (.iload_n 1, 1) := by decide +kernel
theorem dX11_grip_35 : decode cX11_grip 35 = .ok (.iload_n 2, 1) := by decide +kernel
theorem dX11_grip_36 : decode cX11_grip 36 = .ok (.iastore, 1) := by decide +kernel
theorem dX11_grip_37 : decode cX11_grip 37 = .ok (.aload_n 0, 1) := by decide +kernel
theorem dX11_grip_38 : decode cX11_grip 38 = .ok (.invokevirtual 117, 3) := by decide +kernel
theorem dX11_grip_41 : decode cX11_grip 41 = .ok (.ireturn, 1) := by decide +kernel
theorem dX11_mind_0 : decode cX11_mind 0 = .ok (.aload_n 0, 1) := by decide +kernel
theorem dX11_mind_1 : decode cX11_mind 1 = .ok (.iload_n 1, 1) := by decide +kernel
theorem dX11_mind_2 : decode cX11_mind 2 = .ok (.invokevirtual 252, 3) := by decide +kernel
theorem dX11_mind_5 : decode cX11_mind 5 = .ok (.ifCond .eq 13, 3) := by decide +kernel
theorem dX11_mind_8 : decode cX11_mind 8 = .ok (.iload_n 2, 1) := by decide +kernel
theorem dX11_mind_9 : decode cX11_mind 9 = .ok (.iconst 1, 1) := by decide +kernel
theorem dX11_mind_10 : decode cX11_mind 10 = .ok (.bipush 24, 2) := by decide +kernel
theorem dX11_mind_12 : decode cX11_mind 12 = .ok (.invokestatic 105, 3) := by decide +kernel
theorem dX11_mind_15 : decode cX11_mind 15 = .ok (.ifCond .eq 9, 3) := by decide +kernel
theorem dX11_mind_18 : decode cX11_mind 18 = .ok (.aload_n 0, 1) := by decide +kernel
theorem dX11_mind_19 : decode cX11_mind 19 = .ok (.iconst 1, 1) := by decide +kernel
theorem dX11_mind_20 : decode cX11_mind 20 = .ok (.invokevirtual 109, 3) := by decide +kernel
theorem dX11_mind_23 : decode cX11_mind 23 = .ok (.ireturn, 1) := by decide +kernel
theorem dX11_mind_24 : decode cX11_mind 24 = .ok (.aload_n 0, 1) := by decide +kernel
theorem dX11_mind_25 : decode cX11_mind 25 = .ok (.getfield 33, 3) := by decide +kernel
theorem dX11_mind_28 : decode cX11_mind 28 = .ok (.getfield 184, 3) := by decide +kernel
theorem dX11_mind_31 : decode cX11_mind 31 = .ok (.getfield 261, 3) := by decide +kernel
theorem dX11_mind_34 : decode cX11_mind 34 = .ok (.iload_n 1, 1) := by decide +kernel
theorem dX11_mind_35 : decode cX11_mind 35 = .ok (.iload_n 2, 1) := by decide +kernel
theorem dX11_mind_36 : decode cX11_mind 36 = .ok (.iastore, 1) := by decide +kernel
theorem dX11_mind_37 : decode cX11_mind 37 = .ok (.aload_n 0, 1) := by decide +kernel
theorem dX11_mind_38 : decode cX11_mind 38 = .ok (.invokevirtual 117, 3) := by decide +kernel
theorem dX11_mind_41 : decode cX11_mind 41 = .ok (.ireturn, 1) := by decide +kernel
theorem dX11_make_0 : decode cX11_make 0 = .ok (.iload_n 1, 1) := by decide +kernel
theorem dX11_make_1 : decode cX11_make 1 = .ok (.iconst 0, 1) := by decide +kernel
theorem dX11_make_2 : decode cX11_make 2 = .ok (.bipush 9, 2) := by decide +kernel
theorem dX11_make_4 : decode cX11_make 4 = .ok (.invokestatic 105, 3) := by decide +kernel
theorem dX11_make_7 : decode cX11_make 7 = .ok (.ifCond .ne 23, 3) := by decide +kernel
theorem dX11_make_10 : decode cX11_make 10 = .ok (.iload_n 2, 1) := by decide +kernel
theorem dX11_make_11 : decode cX11_make 11 = .ok (.iconst 1, 1) := by decide +kernel
theorem dX11_make_12 : decode cX11_make 12 = .ok (.bipush 24, 2) := by decide +kernel
theorem dX11_make_14 : decode cX11_make 14 = .ok (.invokestatic 105, 3) := by decide +kernel
theorem dX11_make_17 : decode cX11_make 17 = .ok (.ifCond .ne 13, 3) := by decide +kernel
theorem dX11_make_20 : decode cX11_make 20 = .ok (.iload_n 3, 1) := by decide +kernel
theorem dX11_make_21 : decode cX11_make 21 = .ok (.iconst 1, 1) := by decide +kernel
theorem dX11_make_22 : decode cX11_make 22 = .ok (.bipush 24, 2) := by decide +kernel
theorem dX11_make_24 : decode cX11_make 24 = .ok (.invokestatic 105, 3) := by decide +kernel
theorem dX11_make_27 : decode cX11_make 27 = .ok (.ifCond .eq 9, 3) := by decide +kernel
theorem dX11_make_30 : decode cX11_make 30 = .ok (.aload_n 0, 1) := by decide +kernel
theorem dX11_make_31 : decode cX11_make 31 = .ok (.iconst 1, 1) := by decide +kernel
theorem dX11_make_32 : decode cX11_make 32 = .ok (.invokevirtual 163, 3) := by decide +kernel
theorem dX11_make_35 : decode cX11_make 35 = .ok (.ireturn, 1) := by decide +kernel
theorem dX11_make_36 : decode cX11_make 36 = .ok (.aload_n 0, 1) := by decide +kernel
theorem dX11_make_37 : decode cX11_make 37 = .ok (.getfield 33, 3) := by decide +kernel
theorem dX11_make_40 : decode cX11_make 40 = .ok (.getfield 184, 3) := by decide +kernel
theorem dX11_make_43 : decode cX11_make 43 = .ok (.getfield 188, 3) := by decide +kernel
theorem dX11_make_46 : decode cX11_make 46 = .ok (.bipush 8, 2) := by decide +kernel
theorem dX11_make_48 : decode cX11_make 48 = .ok (.if_icmp .lt 9, 3) := by decide +kernel
theorem dX11_make_51 : decode cX11_make 51 = .ok (.aload_n 0, 1) := by decide +kernel
theorem dX11_make_52 : decode cX11_make 52 = .ok (.iconst 4, 1) := by decide +kernel
theorem dX11_make_53 : decode cX11_make 53 = .ok (.invokevirtual 163, 3) := by decide +kernel
theorem dX11_make_56 : decode cX11_make 56 = .ok (.ireturn, 1) := by decide +kernel
theorem dX11_make_57 : decode cX11_make 57 = .ok (.aload_n 0, 1) := by decide +kernel
theorem dX11_make_58 : decode cX11_make 58 = .ok (.aload_n 0, 1) := by decide +kernel
theorem dX11_make_59 : decode cX11_make 59 = .ok (.getfield 33, 3) := by decide +kernel
theorem dX11_make_62 : decode cX11_make 62 = .ok (.getfield 184, 3) := by decide +kernel
theorem dX11_make_65 : decode cX11_make 65 = .ok (.lconst 0, 1) := by decide +kernel
theorem dX11_make_66 : decode cX11_make 66 = .ok (.iload_n 1, 1) := by decide +kernel
theorem dX11_make_67 : decode cX11_make 67 = .ok (.iload_n 2, 1) := by decide +kernel
theorem dX11_make_68 : decode cX11_make 68 = .ok (.iload_n 3, 1) := by decide +kernel
theorem dX11_make_69 : decode cX11_make 69 = .ok (.invokevirtual 311, 3) := by decide +kernel
theorem dX11_make_72 : decode cX11_make 72 = .ok (.invokevirtual 193, 3) := by decide +kernel
theorem dX11_make_75 : decode cX11_make 75 = .ok (.ireturn, 1) := by decide +kernel
theorem dX11_build_0 : decode cX11_build 0 = .ok (.aload_n 0, 1) := by decide +kernel
theorem dX11_build_1 : decode cX11_build 1 = .ok (.iload_n 1, 1) := by decide +kernel
theorem dX11_build_2 : decode cX11_build 2 = .ok (.invokevirtual 301, 3) := by decide +kernel
theorem dX11_build_5 : decode cX11_build 5 = .ok (.ifCond .eq 12, 3) := by decide +kernel
theorem dX11_build_8 : decode cX11_build 8 = .ok (.iload_n 2, 1) := by decide +kernel
theorem dX11_build_9 : decode cX11_build 9 = .ok (.iconst 0, 1) := by decide +kernel
theorem dX11_build_10 : decode cX11_build 10 = .ok (.iconst 2, 1) := by decide +kernel
theorem dX11_build_11 : decode cX11_build 11 = .ok (.invokestatic 105, 3) := by decide +kernel
theorem dX11_build_14 : decode cX11_build 14 = .ok (.ifCond .eq 9, 3) := by decide +kernel
theorem dX11_build_17 : decode cX11_build 17 = .ok (.aload_n 0, 1) := by decide +kernel
theorem dX11_build_18 : decode cX11_build 18 = .ok (.iconst 1, 1) := by decide +kernel
theorem dX11_build_19 : decode cX11_build 19 = .ok (.invokevirtual 163, 3) := by decide +kernel
theorem dX11_build_22 : decode cX11_build 22 = .ok (.ireturn, 1) := by decide +kernel
theorem dX11_build_23 : decode cX11_build 23 = .ok (.aload_n 0, 1) := by decide +kernel
theorem dX11_build_24 : decode cX11_build 24 = .ok (.getfield 33, 3) := by decide +kernel
theorem dX11_build_27 : decode cX11_build 27 = .ok (.getfield 214, 3) := by decide +kernel
theorem dX11_build_30 : decode cX11_build 30 = .ok (.getfield 218, 3) := by decide +kernel
theorem dX11_build_33 : decode cX11_build 33 = .ok (.iconst 4, 1) := by decide +kernel
theorem dX11_build_34 : decode cX11_build 34 = .ok (.if_icmp .lt 9, 3) := by decide +kernel
theorem dX11_build_37 : decode cX11_build 37 = .ok (.aload_n 0, 1) := by decide +kernel
theorem dX11_build_38 : decode cX11_build 38 = .ok (.iconst 4, 1) := by decide +kernel
theorem dX11_build_39 : decode cX11_build 39 = .ok (.invokevirtual 163, 3) := by decide +kernel
theorem dX11_build_42 : decode cX11_build 42 = .ok (.ireturn, 1) := by decide +kernel
theorem dX11_build_43 : decode cX11_build 43 = .ok (.aload_n 0, 1) := by decide +kernel
theorem dX11_build_44 : decode cX11_build 44 = .ok (.aload_n 0, 1) := by decide +kernel
theorem dX11_build_45 : decode cX11_build 45 = .ok (.getfield 33, 3) := by decide +kernel
theorem dX11_build_48 : decode cX11_build 48 = .ok (.getfield 214, 3) := by decide +kernel
theorem dX11_build_51 : decode cX11_build 51 = .ok (.lconst 0, 1) := by decide +kernel
theorem dX11_build_52 : decode cX11_build 52 = .ok (.iload_n 1, 1) := by decide +kernel
theorem dX11_build_53 : decode cX11_build 53 = .ok (.iload_n 2, 1) := by decide +kernel
theorem dX11_build_54 : decode cX11_build 54 = .ok (.invokevirtual 315, 3) := by decide +kernel
theorem dX11_build_57 : decode cX11_build 57 = .ok (.invokevirtual 193, 3) := by decide +kernel
theorem dX11_build_60 : decode cX11_build 60 = .ok (.ireturn, 1) := by decide +kernel
theorem dX11_rule_0 : decode cX11_rule 0 = .ok (.iload_n 1, 1) := by decide +kernel
theorem dX11_rule_1 : decode cX11_rule 1 = .ok (.iconst 3, 1) := by decide +kernel
theorem dX11_rule_2 : decode cX11_rule 2 = .ok (.if_icmp .ne 26, 3) := by decide +kernel
theorem dX11_rule_5 : decode cX11_rule 5 = .ok (.iload_n 2, 1) := by decide +kernel
theorem dX11_rule_6 : decode cX11_rule 6 = .ok (.iconst 1, 1) := by decide +kernel
theorem dX11_rule_7 : decode cX11_rule 7 = .ok (.bipush 40, 2) := by decide +kernel
theorem dX11_rule_9 : decode cX11_rule 9 = .ok (.invokestatic 105, 3) := by decide +kernel
theorem dX11_rule_12 : decode cX11_rule 12 = .ok (.ifCond .ne 16, 3) := by decide +kernel
theorem dX11_rule_15 : decode cX11_rule 15 = .ok (.aload_n 0, 1) := by decide +kernel
theorem dX11_rule_16 : decode cX11_rule 16 = .ok (.getfield 33, 3) := by decide +kernel
theorem dX11_rule_19 : decode cX11_rule 19 = .ok (.iload_n 2, 1) := by decide +kernel
theorem dX11_rule_20 : decode cX11_rule 20 = .ok (.putfield 224, 3) := by decide +kernel
theorem dX11_rule_23 : decode cX11_rule 23 = .ok (.aload_n 0, 1) := by decide +kernel
theorem dX11_rule_24 : decode cX11_rule 24 = .ok (.invokevirtual 117, 3) := by decide +kernel
theorem dX11_rule_27 : decode cX11_rule 27 = .ok (.ireturn, 1) := by decide +kernel
theorem dX11_rule_28 : decode cX11_rule 28 = .ok (.iload_n 1, 1) := by decide +kernel
theorem dX11_rule_29 : decode cX11_rule 29 = .ok (.iconst 4, 1) := by decide +kernel
theorem dX11_rule_30 : decode cX11_rule 30 = .ok (.if_icmp .ne 26, 3) := by decide +kernel
theorem dX11_rule_33 : decode cX11_rule 33 = .ok (.iload_n 2, 1) := by decide +kernel
theorem dX11_rule_34 : decode cX11_rule 34 = .ok (.iconst 0, 1) := by decide +kernel
theorem dX11_rule_35 : decode cX11_rule 35 = .ok (.bipush 16, 2) := by decide +kernel
theorem dX11_rule_37 : decode cX11_rule 37 = .ok (.invokestatic 105, 3) := by decide +kernel
theorem dX11_rule_40 : decode cX11_rule 40 = .ok (.ifCond .ne 16, 3) := by decide +kernel
theorem dX11_rule_43 : decode cX11_rule 43 = .ok (.aload_n 0, 1) := by decide +kernel
theorem dX11_rule_44 : decode cX11_rule 44 = .ok (.getfield 33, 3) := by decide +kernel
theorem dX11_rule_47 : decode cX11_rule 47 = .ok (.iload_n 2, 1) := by decide +kernel
theorem dX11_rule_48 : decode cX11_rule 48 = .ok (.putfield 227, 3) := by decide +kernel
theorem dX11_rule_51 : decode cX11_rule 51 = .ok (.aload_n 0, 1) := by decide +kernel
theorem dX11_rule_52 : decode cX11_rule 52 = .ok (.invokevirtual 117, 3) := by decide +kernel
theorem dX11_rule_55 : decode cX11_rule 55 = .ok (.ireturn, 1) := by decide +kernel
theorem dX11_rule_56 : decode cX11_rule 56 = .ok (.aload_n 0, 1) := by decide +kernel
theorem dX11_rule_57 : decode cX11_rule 57 = .ok (.iconst 1, 1) := by decide +kernel
theorem dX11_rule_58 : decode cX11_rule 58 = .ok (.invokevirtual 109, 3) := by decide +kernel
theorem dX11_rule_61 : decode cX11_rule 61 = .ok (.ireturn, 1) := by decide +kernel
theorem dX11_atIn_0 : decode cX11_atIn 0 = .ok (.iload_n 1, 1) := by decide +kernel
theorem dX11_atIn_1 : decode cX11_atIn 1 = .ok (.iconst 0, 1) := by decide +kernel
theorem dX11_atIn_2 : decode cX11_atIn 2 = .ok (.sipush 400, 3) := by decide +kernel
theorem dX11_atIn_5 : decode cX11_atIn 5 = .ok (.invokestatic 105, 3) := by decide +kernel
theorem dX11_atIn_8 : decode cX11_atIn 8 = .ok (.ifCond .eq 9, 3) := by decide +kernel
theorem dX11_atIn_11 : decode cX11_atIn 11 = .ok (.aload_n 0, 1) := by decide +kernel
theorem dX11_atIn_12 : decode cX11_atIn 12 = .ok (.iconst 1, 1) := by decide +kernel
theorem dX11_atIn_13 : decode cX11_atIn 13 = .ok (.invokevirtual 163, 3) := by decide +kernel
theorem dX11_atIn_16 : decode cX11_atIn 16 = .ok (.ireturn, 1) := by decide +kernel
theorem dX11_atIn_17 : decode cX11_atIn 17 = .ok (.aload_n 0, 1) := by decide +kernel
theorem dX11_atIn_18 : decode cX11_atIn 18 = .ok (.getfield 44, 3) := by decide +kernel
theorem dX11_atIn_21 : decode cX11_atIn 21 = .ok (.aload_n 0, 1) := by decide +kernel
theorem dX11_atIn_22 : decode cX11_atIn 22 = .ok (.getfield 33, 3) := by decide +kernel
theorem dX11_atIn_25 : decode cX11_atIn 25 = .ok (.invokevirtual 177, 3) := by decide +kernel
theorem dX11_atIn_28 : decode cX11_atIn 28 = .ok (.aload_n 0, 1) := by decide +kernel
theorem dX11_atIn_29 : decode cX11_atIn 29 = .ok (.getfield 44, 3) := by decide +kernel
theorem dX11_atIn_32 : decode cX11_atIn 32 = .ok (.iload_n 1, 1) := by decide +kernel
theorem dX11_atIn_33 : decode cX11_atIn 33 = .ok (.invokevirtual 298, 3) := by decide +kernel
theorem dX11_atIn_36 : decode cX11_atIn 36 = .ok (.pop, 1) := by decide +kernel
theorem dX11_atIn_37 : decode cX11_atIn 37 = .ok (.aload_n 0, 1) := by decide +kernel
theorem dX11_atIn_38 : decode cX11_atIn 38 = .ok (.aload_n 0, 1) := by decide +kernel
theorem dX11_atIn_39 : decode cX11_atIn 39 = .ok (.getfield 44, 3) := by decide +kernel
theorem dX11_atIn_42 : decode cX11_atIn 42 = .ok (.getfield 233, 3) := by decide +kernel
theorem dX11_atIn_45 : decode cX11_atIn 45 = .ok (.invokevirtual 193, 3) := by decide +kernel
theorem dX11_atIn_48 : decode cX11_atIn 48 = .ok (.ireturn, 1) := by decide +kernel
theorem dX11_carriedIn_0 : decode cX11_carriedIn 0 = .ok (.iload_n 1, 1) := by decide +kernel
theorem dX11_carriedIn_1 : decode cX11_carriedIn 1 = .ok (.iconst 0, 1) := by decide +kernel
theorem dX11_carriedIn_2 : decode cX11_carriedIn 2 = .ok (.sipush 400, 3) := by decide +kernel
theorem dX11_carriedIn_5 : decode cX11_carriedIn 5 = .ok (.invokestatic 105, 3) := by decide +kernel
theorem dX11_carriedIn_8 : decode cX11_carriedIn 8 = .ok (.ifCond .eq 9, 3) := by decide +kernel
theorem dX11_carriedIn_11 : decode cX11_carriedIn 11 = .ok (.aload_n 0, 1) := by decide +kernel
theorem dX11_carriedIn_12 : decode cX11_carriedIn 12 = .ok (.iconst 1, 1) := by decide +kernel
theorem dX11_carriedIn_13 : decode cX11_carriedIn 13 = .ok (.invokevirtual 163, 3) := by decide +kernel
theorem dX11_carriedIn_16 : decode cX11_carriedIn 16 = .ok (.ireturn, 1) := by decide +kernel
theorem dX11_carriedIn_17 : decode cX11_carriedIn 17 = .ok (.aload_n 0, 1) := by decide +kernel
theorem dX11_carriedIn_18 : decode cX11_carriedIn 18 = .ok (.getfield 44, 3) := by decide +kernel
theorem dX11_carriedIn_21 : decode cX11_carriedIn 21 = .ok (.aload_n 0, 1) := by decide +kernel
theorem dX11_carriedIn_22 : decode cX11_carriedIn 22 = .ok (.getfield 33, 3) := by decide +kernel
theorem dX11_carriedIn_25 : decode cX11_carriedIn 25 = .ok (.invokevirtual 177, 3) := by decide +kernel
theorem dX11_carriedIn_28 : decode cX11_carriedIn 28 = .ok (.aload_n 0, 1) := by decide +kernel
theorem dX11_carriedIn_29 : decode cX11_carriedIn 29 = .ok (.getfield 44, 3) := by decide +kernel
theorem dX11_carriedIn_32 : decode cX11_carriedIn 32 = .ok (.iload_n 1, 1) := by decide +kernel
theorem dX11_carriedIn_33 : decode cX11_carriedIn 33 = .ok (.invokevirtual 298, 3) := by decide +kernel
theorem dX11_carriedIn_36 : decode cX11_carriedIn 36 = .ok (.pop, 1) := by decide +kernel
theorem dX11_carriedIn_37 : decode cX11_carriedIn 37 = .ok (.aload_n 0, 1) := by decide +kernel
theorem dX11_carriedIn_38 : decode cX11_carriedIn 38 = .ok (.aload_n 0, 1) := by decide +kernel
theorem dX11_carriedIn_39 : decode cX11_carriedIn 39 = .ok (.getfield 44, 3) := by decide +kernel
theorem dX11_carriedIn_42 : decode cX11_carriedIn 42 = .ok (.getfield 184, 3) := by decide +kernel
theorem dX11_carriedIn_45 : decode cX11_carriedIn 45 = .ok (.iconst 2, 1) := by decide +kernel
theorem dX11_carriedIn_46 : decode cX11_carriedIn 46 = .ok (.invokevirtual 242, 3) := by decide +kernel
theorem dX11_carriedIn_49 : decode cX11_carriedIn 49 = .ok (.invokevirtual 193, 3) := by decide +kernel
theorem dX11_carriedIn_52 : decode cX11_carriedIn 52 = .ok (.ireturn, 1) := by decide +kernel
theorem dX11_homeIn_0 : decode cX11_homeIn 0 = .ok (.aload_n 0, 1) := by decide +kernel
theorem dX11_homeIn_1 : decode cX11_homeIn 1 = .ok (.iload_n 1, 1) := by decide +kernel
theorem dX11_homeIn_2 : decode cX11_homeIn 2 = .ok (.invokevirtual 252, 3) := by decide +kernel
theorem dX11_homeIn_5 : decode cX11_homeIn 5 = .ok (.ifCond .ne 9, 3) := by decide +kernel
theorem dX11_homeIn_8 : decode cX11_homeIn 8 = .ok (.aload_n 0, 1) := by decide +kernel
theorem dX11_homeIn_9 : decode cX11_homeIn 9 = .ok (.iconst 1, 1) := by decide +kernel
theorem dX11_homeIn_10 : decode cX11_homeIn 10 = .ok (.invokevirtual 163, 3) := by decide +kernel
theorem dX11_homeIn_13 : decode cX11_homeIn 13 = .ok (.ireturn, 1) := by decide +kernel
theorem dX11_homeIn_14 : decode cX11_homeIn 14 = .ok (.aload_n 0, 1) := by decide +kernel
theorem dX11_homeIn_15 : decode cX11_homeIn 15 = .ok (.getfield 44, 3) := by decide +kernel
theorem dX11_homeIn_18 : decode cX11_homeIn 18 = .ok (.aload_n 0, 1) := by decide +kernel
theorem dX11_homeIn_19 : decode cX11_homeIn 19 = .ok (.getfield 33, 3) := by decide +kernel
theorem dX11_homeIn_22 : decode cX11_homeIn 22 = .ok (.invokevirtual 177, 3) := by decide +kernel
theorem dX11_homeIn_25 : decode cX11_homeIn 25 = .ok (.aload_n 0, 1) := by decide +kernel
theorem dX11_homeIn_26 : decode cX11_homeIn 26 = .ok (.aload_n 0, 1) := by decide +kernel
theorem dX11_homeIn_27 : decode cX11_homeIn 27 = .ok (.getfield 44, 3) := by decide +kernel
theorem dX11_homeIn_30 : decode cX11_homeIn 30 = .ok (.iload_n 1, 1) := by decide +kernel
theorem dX11_homeIn_31 : decode cX11_homeIn 31 = .ok (.sipush 400, 3) := by decide +kernel
theorem dX11_homeIn_34 : decode cX11_homeIn 34 = .ok (.invokevirtual 319, 3) := by decide +kernel
theorem dX11_homeIn_37 : decode cX11_homeIn 37 = .ok (.invokevirtual 322, 3) := by decide +kernel
theorem dX11_homeIn_40 : decode cX11_homeIn 40 = .ok (.ireturn, 1) := by decide +kernel
theorem dX11_turnsIn_0 : decode cX11_turnsIn 0 = .ok (.iload_n 1, 1) := by decide +kernel
theorem dX11_turnsIn_1 : decode cX11_turnsIn 1 = .ok (.iconst 0, 1) := by decide +kernel
theorem dX11_turnsIn_2 : decode cX11_turnsIn 2 = .ok (.sipush 400, 3) := by decide +kernel
theorem dX11_turnsIn_5 : decode cX11_turnsIn 5 = .ok (.invokestatic 105, 3) := by decide +kernel
theorem dX11_turnsIn_8 : decode cX11_turnsIn 8 = .ok (.ifCond .eq 9, 3) := by decide +kernel
theorem dX11_turnsIn_11 : decode cX11_turnsIn 11 = .ok (.aload_n 0, 1) := by decide +kernel
theorem dX11_turnsIn_12 : decode cX11_turnsIn 12 = .ok (.iconst 1, 1) := by decide +kernel
theorem dX11_turnsIn_13 : decode cX11_turnsIn 13 = .ok (.invokevirtual 163, 3) := by decide +kernel
theorem dX11_turnsIn_16 : decode cX11_turnsIn 16 = .ok (.ireturn, 1) := by decide +kernel
theorem dX11_turnsIn_17 : decode cX11_turnsIn 17 = .ok (.aload_n 0, 1) := by decide +kernel
theorem dX11_turnsIn_18 : decode cX11_turnsIn 18 = .ok (.getfield 44, 3) := by decide +kernel
theorem dX11_turnsIn_21 : decode cX11_turnsIn 21 = .ok (.aload_n 0, 1) := by decide +kernel
theorem dX11_turnsIn_22 : decode cX11_turnsIn 22 = .ok (.getfield 33, 3) := by decide +kernel
theorem dX11_turnsIn_25 : decode cX11_turnsIn 25 = .ok (.invokevirtual 177, 3) := by decide +kernel
theorem dX11_turnsIn_28 : decode cX11_turnsIn 28 = .ok (.aload_n 0, 1) := by decide +kernel
theorem dX11_turnsIn_29 : decode cX11_turnsIn 29 = .ok (.aload_n 0, 1) := by decide +kernel
theorem dX11_turnsIn_30 : decode cX11_turnsIn 30 = .ok (.getfield 44, 3) := by decide +kernel
theorem dX11_turnsIn_33 : decode cX11_turnsIn 33 = .ok (.iload_n 1, 1) := by decide +kernel
theorem dX11_turnsIn_34 : decode cX11_turnsIn 34 = .ok (.invokevirtual 298, 3) := by decide +kernel
theorem dX11_turnsIn_37 : decode cX11_turnsIn 37 = .ok (.invokevirtual 193, 3) := by decide +kernel
theorem dX11_turnsIn_40 : decode cX11_turnsIn 40 = .ok (.ireturn, 1) := by decide +kernel
theorem dX11_turnIn_0 : decode cX11_turnIn 0 = .ok (.aload_n 0, 1) := by decide +kernel
theorem dX11_turnIn_1 : decode cX11_turnIn 1 = .ok (.getfield 44, 3) := by decide +kernel
theorem dX11_turnIn_4 : decode cX11_turnIn 4 = .ok (.aload_n 0, 1) := by decide +kernel
theorem dX11_turnIn_5 : decode cX11_turnIn 5 = .ok (.getfield 33, 3) := by decide +kernel
theorem dX11_turnIn_8 : decode cX11_turnIn 8 = .ok (.invokevirtual 177, 3) := by decide +kernel
theorem dX11_turnIn_11 : decode cX11_turnIn 11 = .ok (.aload_n 0, 1) := by decide +kernel
theorem dX11_turnIn_12 : decode cX11_turnIn 12 = .ok (.aload_n 0, 1) := by decide +kernel
theorem dX11_turnIn_13 : decode cX11_turnIn 13 = .ok (.getfield 44, 3) := by decide +kernel
theorem dX11_turnIn_16 : decode cX11_turnIn 16 = .ok (.sipush 400, 3) := by decide +kernel
theorem dX11_turnIn_19 : decode cX11_turnIn 19 = .ok (.invokevirtual 325, 3) := by decide +kernel
theorem dX11_turnIn_22 : decode cX11_turnIn 22 = .ok (.invokevirtual 322, 3) := by decide +kernel
theorem dX11_turnIn_25 : decode cX11_turnIn 25 = .ok (.ireturn, 1) := by decide +kernel
theorem dX11_groundIn_0 : decode cX11_groundIn 0 = .ok (.aload_n 0, 1) := by decide +kernel
theorem dX11_groundIn_1 : decode cX11_groundIn 1 = .ok (.iload_n 1, 1) := by decide +kernel
theorem dX11_groundIn_2 : decode cX11_groundIn 2 = .ok (.invokevirtual 282, 3) := by decide +kernel
theorem dX11_groundIn_5 : decode cX11_groundIn 5 = .ok (.ifCond .eq 14, 3) := by decide +kernel
theorem dX11_groundIn_8 : decode cX11_groundIn 8 = .ok (.iload_n 2, 1) := by decide +kernel
theorem dX11_groundIn_9 : decode cX11_groundIn 9 = .ok (.iconst 0, 1) := by decide +kernel
theorem dX11_groundIn_10 : decode cX11_groundIn 10 = .ok (.sipush 400, 3) := by decide +kernel
theorem dX11_groundIn_13 : decode cX11_groundIn 13 = .ok (.invokestatic 105, 3) := by decide +kernel
theorem dX11_groundIn_16 : decode cX11_groundIn 16 = .ok (.ifCond .eq 9, 3) := by decide +kernel
theorem dX11_groundIn_19 : decode cX11_groundIn 19 = .ok (.aload_n 0, 1) := by decide +kernel
theorem dX11_groundIn_20 : decode cX11_groundIn 20 = .ok (.iconst 1, 1) := by decide +kernel
theorem dX11_groundIn_21 : decode cX11_groundIn 21 = .ok (.invokevirtual 163, 3) := by decide +kernel
theorem dX11_groundIn_24 : decode cX11_groundIn 24 = .ok (.ireturn, 1) := by decide +kernel
theorem dX11_groundIn_25 : decode cX11_groundIn 25 = .ok (.aload_n 0, 1) := by decide +kernel
theorem dX11_groundIn_26 : decode cX11_groundIn 26 = .ok (.getfield 44, 3) := by decide +kernel
theorem dX11_groundIn_29 : decode cX11_groundIn 29 = .ok (.aload_n 0, 1) := by decide +kernel
theorem dX11_groundIn_30 : decode cX11_groundIn 30 = .ok (.getfield 33, 3) := by decide +kernel
theorem dX11_groundIn_33 : decode cX11_groundIn 33 = .ok (.invokevirtual 177, 3) := by decide +kernel
theorem dX11_groundIn_36 : decode cX11_groundIn 36 = .ok (.aload_n 0, 1) := by decide +kernel
theorem dX11_groundIn_37 : decode cX11_groundIn 37 = .ok (.getfield 44, 3) := by decide +kernel
theorem dX11_groundIn_40 : decode cX11_groundIn 40 = .ok (.iload_n 2, 1) := by decide +kernel
theorem dX11_groundIn_41 : decode cX11_groundIn 41 = .ok (.invokevirtual 298, 3) := by decide +kernel
theorem dX11_groundIn_44 : decode cX11_groundIn 44 = .ok (.pop, 1) := by decide +kernel
theorem dX11_groundIn_45 : decode cX11_groundIn 45 = .ok (.aload_n 0, 1) := by decide +kernel
theorem dX11_groundIn_46 : decode cX11_groundIn 46 = .ok (.aload_n 0, 1) := by decide +kernel
theorem dX11_groundIn_47 : decode cX11_groundIn 47 = .ok (.getfield 44, 3) := by decide +kernel
theorem dX11_groundIn_50 : decode cX11_groundIn 50 = .ok (.getfield 214, 3) := by decide +kernel
theorem dX11_groundIn_53 : decode cX11_groundIn 53 = .ok (.getfield 289, 3) := by decide +kernel
theorem dX11_groundIn_56 : decode cX11_groundIn 56 = .ok (.iload_n 1, 1) := by decide +kernel
theorem dX11_groundIn_57 : decode cX11_groundIn 57 = .ok (.iaload, 1) := by decide +kernel
theorem dX11_groundIn_58 : decode cX11_groundIn 58 = .ok (.aload_n 0, 1) := by decide +kernel
theorem dX11_groundIn_59 : decode cX11_groundIn 59 = .ok (.getfield 33, 3) := by decide +kernel
theorem dX11_groundIn_62 : decode cX11_groundIn 62 = .ok (.getfield 214, 3) := by decide +kernel
theorem dX11_groundIn_65 : decode cX11_groundIn 65 = .ok (.getfield 289, 3) := by decide +kernel
theorem dX11_groundIn_68 : decode cX11_groundIn 68 = .ok (.iload_n 1, 1) := by decide +kernel
theorem dX11_groundIn_69 : decode cX11_groundIn 69 = .ok (.iaload, 1) := by decide +kernel
theorem dX11_groundIn_70 : decode cX11_groundIn 70 = .ok (.isub, 1) := by decide +kernel
theorem dX11_groundIn_71 : decode cX11_groundIn 71 = .ok (.invokevirtual 193, 3) := by decide +kernel
theorem dX11_groundIn_74 : decode cX11_groundIn 74 = .ok (.ireturn, 1) := by decide +kernel
theorem dX11_quietIn_0 : decode cX11_quietIn 0 = .ok (.aload_n 0, 1) := by decide +kernel
theorem dX11_quietIn_1 : decode cX11_quietIn 1 = .ok (.getfield 44, 3) := by decide +kernel
theorem dX11_quietIn_4 : decode cX11_quietIn 4 = .ok (.aload_n 0, 1) := by decide +kernel
theorem dX11_quietIn_5 : decode cX11_quietIn 5 = .ok (.getfield 33, 3) := by decide +kernel
theorem dX11_quietIn_8 : decode cX11_quietIn 8 = .ok (.invokevirtual 177, 3) := by decide +kernel
theorem dX11_quietIn_11 : decode cX11_quietIn 11 = .ok (.aload_n 0, 1) := by decide +kernel
theorem dX11_quietIn_12 : decode cX11_quietIn 12 = .ok (.aload_n 0, 1) := by decide +kernel
theorem dX11_quietIn_13 : decode cX11_quietIn 13 = .ok (.getfield 44, 3) := by decide +kernel
theorem dX11_quietIn_16 : decode cX11_quietIn 16 = .ok (.sipush 400, 3) := by decide +kernel
theorem dX11_quietIn_19 : decode cX11_quietIn 19 = .ok (.invokevirtual 328, 3) := by decide +kernel
theorem dX11_quietIn_22 : decode cX11_quietIn 22 = .ok (.invokevirtual 322, 3) := by decide +kernel
theorem dX11_quietIn_25 : decode cX11_quietIn 25 = .ok (.ireturn, 1) := by decide +kernel
theorem dX11_ring_0 : decode cX11_ring 0 = .ok (.aload_n 0, 1) := by decide +kernel
theorem dX11_ring_1 : decode cX11_ring 1 = .ok (.getfield 44, 3) := by decide +kernel
theorem dX11_ring_4 : decode cX11_ring 4 = .ok (.aload_n 0, 1) := by decide +kernel
theorem dX11_ring_5 : decode cX11_ring 5 = .ok (.getfield 33, 3) := by decide +kernel
theorem dX11_ring_8 : decode cX11_ring 8 = .ok (.invokevirtual 177, 3) := by decide +kernel
theorem dX11_ring_11 : decode cX11_ring 11 = .ok (.aload_n 0, 1) := by decide +kernel
theorem dX11_ring_12 : decode cX11_ring 12 = .ok (.aload_n 0, 1) := by decide +kernel
theorem dX11_ring_13 : decode cX11_ring 13 = .ok (.getfield 64, 3) := by decide +kernel
theorem dX11_ring_16 : decode cX11_ring 16 = .ok (.aload_n 0, 1) := by decide +kernel
theorem dX11_ring_17 : decode cX11_ring 17 = .ok (.getfield 44, 3) := by decide +kernel
theorem dX11_ring_20 : decode cX11_ring 20 = .ok (.invokevirtual 331, 3) := by decide +kernel
theorem dX11_ring_23 : decode cX11_ring 23 = .ok (.invokevirtual 322, 3) := by decide +kernel
theorem dX11_ring_26 : decode cX11_ring 26 = .ok (.ireturn, 1) := by decide +kernel
theorem dX11_aim_0 : decode cX11_aim 0 = .ok (.aload_n 0, 1) := by decide +kernel
theorem dX11_aim_1 : decode cX11_aim 1 = .ok (.iload_n 1, 1) := by decide +kernel
theorem dX11_aim_2 : decode cX11_aim 2 = .ok (.invokevirtual 252, 3) := by decide +kernel
theorem dX11_aim_5 : decode cX11_aim 5 = .ok (.ifCond .eq 13, 3) := by decide +kernel
theorem dX11_aim_8 : decode cX11_aim 8 = .ok (.iload_n 2, 1) := by decide +kernel
theorem dX11_aim_9 : decode cX11_aim 9 = .ok (.iconst 0, 1) := by decide +kernel
theorem dX11_aim_10 : decode cX11_aim 10 = .ok (.bipush 60, 2) := by decide +kernel
theorem dX11_aim_12 : decode cX11_aim 12 = .ok (.invokestatic 105, 3) := by decide +kernel
theorem dX11_aim_15 : decode cX11_aim 15 = .ok (.ifCond .eq 9, 3) := by decide +kernel
theorem dX11_aim_18 : decode cX11_aim 18 = .ok (.aload_n 0, 1) := by decide +kernel
theorem dX11_aim_19 : decode cX11_aim 19 = .ok (.iconst 1, 1) := by decide +kernel
theorem dX11_aim_20 : decode cX11_aim 20 = .ok (.invokevirtual 163, 3) := by decide +kernel
theorem dX11_aim_23 : decode cX11_aim 23 = .ok (.ireturn, 1) := by decide +kernel
theorem dX11_aim_24 : decode cX11_aim 24 = .ok (.aload_n 0, 1) := by decide +kernel
theorem dX11_aim_25 : decode cX11_aim 25 = .ok (.getfield 33, 3) := by decide +kernel
theorem dX11_aim_28 : decode cX11_aim 28 = .ok (.getfield 184, 3) := by decide +kernel
theorem dX11_aim_31 : decode cX11_aim 31 = .ok (.iload_n 1, 1) := by decide +kernel
theorem dX11_aim_32 : decode cX11_aim 32 = .ok (.invokevirtual 273, 3) := by decide +kernel
theorem dX11_aim_35 : decode cX11_aim 35 = .ok (.ifCond .ne 10, 3) := by decide +kernel
theorem dX11_aim_38 : decode cX11_aim 38 = .ok (.aload_n 0, 1) := by decide +kernel
theorem dX11_aim_39 : decode cX11_aim 39 = .ok (.bipush 7, 2) := by decide +kernel
theorem dX11_aim_41 : decode cX11_aim 41 = .ok (.invokevirtual 163, 3) := by decide +kernel
theorem dX11_aim_44 : decode cX11_aim 44 = .ok (.ireturn, 1) := by decide +kernel
theorem dX11_aim_45 : decode cX11_aim 45 = .ok (.aload_n 0, 1) := by decide +kernel
theorem dX11_aim_46 : decode cX11_aim 46 = .ok (.aload_n 0, 1) := by decide +kernel
theorem dX11_aim_47 : decode cX11_aim 47 = .ok (.getfield 64, 3) := by decide +kernel
theorem dX11_aim_50 : decode cX11_aim 50 = .ok (.aload_n 0, 1) := by decide +kernel
theorem dX11_aim_51 : decode cX11_aim 51 = .ok (.getfield 33, 3) := by decide +kernel
theorem dX11_aim_54 : decode cX11_aim 54 = .ok (.aload_n 0, 1) := by decide +kernel
theorem dX11_aim_55 : decode cX11_aim 55 = .ok (.getfield 44, 3) := by decide +kernel
theorem dX11_aim_58 : decode cX11_aim 58 = .ok (.iload_n 1, 1) := by decide +kernel
theorem dX11_aim_59 : decode cX11_aim 59 = .ok (.iload_n 2, 1) := by decide +kernel
theorem dX11_aim_60 : decode cX11_aim 60 = .ok (.invokevirtual 335, 3) := by decide +kernel
theorem dX11_aim_63 : decode cX11_aim 63 = .ok (.invokevirtual 322, 3) := by decide +kernel
theorem dX11_aim_66 : decode cX11_aim 66 = .ok (.ireturn, 1) := by decide +kernel
theorem dX11_soonest_0 : decode cX11_soonest 0 = .ok (.aload_n 0, 1) := by decide +kernel
theorem dX11_soonest_1 : decode cX11_soonest 1 = .ok (.iload_n 1, 1) := by decide +kernel
theorem dX11_soonest_2 : decode cX11_soonest 2 = .ok (.invokevirtual 339, 3) := by decide +kernel
theorem dX11_soonest_5 : decode cX11_soonest 5 = .ok (.istore_n 2, 1) := by decide +kernel
theorem dX11_soonest_6 : decode cX11_soonest 6 = .ok (.iload_n 2, 1) := by decide +kernel
theorem dX11_soonest_7 : decode cX11_soonest 7 = .ok (.ifCond .ne 17, 3) := by decide +kernel
theorem dX11_soonest_10 : decode cX11_soonest 10 = .ok (.aload_n 0, 1) := by decide +kernel
theorem dX11_soonest_11 : decode cX11_soonest 11 = .ok (.aload_n 0, 1) := by decide +kernel
theorem dX11_soonest_12 : decode cX11_soonest 12 = .ok (.getfield 64, 3) := by decide +kernel
theorem dX11_soonest_15 : decode cX11_soonest 15 = .ok (.getfield 342, 3) := by decide +kernel
theorem dX11_soonest_18 : decode cX11_soonest 18 = .ok (.invokevirtual 193, 3) := by decide +kernel
theorem dX11_soonest_21 : decode cX11_soonest 21 = .ok (.goto 8, 3) := by decide +kernel
theorem dX11_soonest_24 : decode cX11_soonest 24 = .ok (.aload_n 0, 1) := by decide +kernel
theorem dX11_soonest_25 : decode cX11_soonest 25 = .ok (.iload_n 2, 1) := by decide +kernel
theorem dX11_soonest_26 : decode cX11_soonest 26 = .ok (.invokevirtual 163, 3) := by decide +kernel
theorem dX11_soonest_29 : decode cX11_soonest 29 = .ok (.ireturn, 1) := by decide +kernel
theorem dX11_soonestIn_0 : decode cX11_soonestIn 0 = .ok (.aload_n 0, 1) := by decide +kernel
theorem dX11_soonestIn_1 : decode cX11_soonestIn 1 = .ok (.iload_n 1, 1) := by decide +kernel
theorem dX11_soonestIn_2 : decode cX11_soonestIn 2 = .ok (.invokevirtual 339, 3) := by decide +kernel
theorem dX11_soonestIn_5 : decode cX11_soonestIn 5 = .ok (.istore_n 2, 1) := by decide +kernel
theorem dX11_soonestIn_6 : decode cX11_soonestIn 6 = .ok (.iload_n 2, 1) := by decide +kernel
theorem dX11_soonestIn_7 : decode cX11_soonestIn 7 = .ok (.ifCond .ne 17, 3) := by decide +kernel
theorem dX11_soonestIn_10 : decode cX11_soonestIn 10 = .ok (.aload_n 0, 1) := by decide +kernel
theorem dX11_soonestIn_11 : decode cX11_soonestIn 11 = .ok (.aload_n 0, 1) := by decide +kernel
theorem dX11_soonestIn_12 : decode cX11_soonestIn 12 = .ok (.getfield 64, 3) := by decide +kernel
theorem dX11_soonestIn_15 : decode cX11_soonestIn 15 = .ok (.getfield 345, 3) := by decide +kernel
theorem dX11_soonestIn_18 : decode cX11_soonestIn 18 = .ok (.invokevirtual 193, 3) := by decide +kernel
theorem dX11_soonestIn_21 : decode cX11_soonestIn 21 = .ok (.goto 8, 3) := by decide +kernel
theorem dX11_soonestIn_24 : decode cX11_soonestIn 24 = .ok (.aload_n 0, 1) := by decide +kernel
theorem dX11_soonestIn_25 : decode cX11_soonestIn 25 = .ok (.iload_n 2, 1) := by decide +kernel
theorem dX11_soonestIn_26 : decode cX11_soonestIn 26 = .ok (.invokevirtual 163, 3) := by decide +kernel
theorem dX11_soonestIn_29 : decode cX11_soonestIn 29 = .ok (.ireturn, 1) := by decide +kernel
theorem dX11_drive_0 : decode cX11_drive 0 = .ok (.aload_n 0, 1) := by decide +kernel
theorem dX11_drive_1 : decode cX11_drive 1 = .ok (.iload_n 1, 1) := by decide +kernel
theorem dX11_drive_2 : decode cX11_drive 2 = .ok (.iload_n 2, 1) := by decide +kernel
theorem dX11_drive_3 : decode cX11_drive 3 = .ok (.iload_n 3, 1) := by decide +kernel
theorem dX11_drive_4 : decode cX11_drive 4 = .ok (.iload 4, 2) := by decide +kernel
theorem dX11_drive_6 : decode cX11_drive 6 = .ok (.invokevirtual 348, 3) := by decide +kernel
theorem dX11_drive_9 : decode cX11_drive 9 = .ok (.istore 5, 2) := by decide +kernel
theorem dX11_drive_11 : decode cX11_drive 11 = .ok (.iload 5, 2) := by decide +kernel
theorem dX11_drive_13 : decode cX11_drive 13 = .ok (.ifCond .ne 17, 3) := by decide +kernel
theorem dX11_drive_16 : decode cX11_drive 16 = .ok (.aload_n 0, 1) := by decide +kernel
theorem dX11_drive_17 : decode cX11_drive 17 = .ok (.aload_n 0, 1) := by decide +kernel
theorem dX11_drive_18 : decode cX11_drive 18 = .ok (.getfield 64, 3) := by decide +kernel
theorem dX11_drive_21 : decode cX11_drive 21 = .ok (.getfield 345, 3) := by decide +kernel
theorem dX11_drive_24 : decode cX11_drive 24 = .ok (.invokevirtual 193, 3) := by decide +kernel
theorem dX11_drive_27 : decode cX11_drive 27 = .ok (.goto 9, 3) := by decide +kernel
theorem dX11_drive_30 : decode cX11_drive 30 = .ok (.aload_n 0, 1) := by decide +kernel
theorem dX11_drive_31 : decode cX11_drive 31 = .ok (.iload 5, 2) := by decide +kernel
theorem dX11_drive_33 : decode cX11_drive 33 = .ok (.invokevirtual 163, 3) := by decide +kernel
theorem dX11_drive_36 : decode cX11_drive 36 = .ok (.ireturn, 1) := by decide +kernel
theorem dX11_driveCell_0 : decode cX11_driveCell 0 = .ok (.iload 5, 2) := by decide +kernel
theorem dX11_driveCell_2 : decode cX11_driveCell 2 = .ok (.iconst 0, 1) := by decide +kernel
theorem dX11_driveCell_3 : decode cX11_driveCell 3 = .ok (.iconst 1, 1) := by decide +kernel
theorem dX11_driveCell_4 : decode cX11_driveCell 4 = .ok (.invokestatic 105, 3) := by decide +kernel
theorem dX11_driveCell_7 : decode cX11_driveCell 7 = .ok (.ifCond .eq 9, 3) := by decide +kernel
theorem dX11_driveCell_10 : decode cX11_driveCell 10 = .ok (.aload_n 0, 1) := by decide +kernel
theorem dX11_driveCell_11 : decode cX11_driveCell 11 = .ok (.iconst 1, 1) := by decide +kernel
theorem dX11_driveCell_12 : decode cX11_driveCell 12 = .ok (.invokevirtual 163, 3) := by decide +kernel
theorem dX11_driveCell_15 : decode cX11_driveCell 15 = .ok (.ireturn, 1) := by decide +kernel
theorem dX11_driveCell_16 : decode cX11_driveCell 16 = .ok (.aload_n 0, 1) := by decide +kernel
theorem dX11_driveCell_17 : decode cX11_driveCell 17 = .ok (.iload_n 1, 1) := by decide +kernel
theorem dX11_driveCell_18 : decode cX11_driveCell 18 = .ok (.iload_n 2, 1) := by decide +kernel
theorem dX11_driveCell_19 : decode cX11_driveCell 19 = .ok (.iload_n 3, 1) := by decide +kernel
theorem dX11_driveCell_20 : decode cX11_driveCell 20 = .ok (.iload 4, 2) := by decide +kernel
theorem dX11_driveCell_22 : decode cX11_driveCell 22 = .ok (.invokevirtual 348, 3) := by decide +kernel
theorem dX11_driveCell_25 : decode cX11_driveCell 25 = .ok (.istore 6, 2) := by decide +kernel
theorem dX11_driveCell_27 : decode cX11_driveCell 27 = .ok (.iload 6, 2) := by decide +kernel
theorem dX11_driveCell_29 : decode cX11_driveCell 29 = .ok (.ifCond .eq 10, 3) := by decide +kernel
theorem dX11_driveCell_32 : decode cX11_driveCell 32 = .ok (.aload_n 0, 1) := by decide +kernel
theorem dX11_driveCell_33 : decode cX11_driveCell 33 = .ok (.iload 6, 2) := by decide +kernel
theorem dX11_driveCell_35 : decode cX11_driveCell 35 = .ok (.invokevirtual 163, 3) := by decide +kernel
theorem dX11_driveCell_38 : decode cX11_driveCell 38 = .ok (.ireturn, 1) := by decide +kernel
theorem dX11_driveCell_39 : decode cX11_driveCell 39 = .ok (.aload_n 0, 1) := by decide +kernel
theorem dX11_driveCell_40 : decode cX11_driveCell 40 = .ok (.iload 5, 2) := by decide +kernel
theorem dX11_driveCell_42 : decode cX11_driveCell 42 = .ok (.ifCond .ne 13, 3) := by decide +kernel
theorem dX11_driveCell_45 : decode cX11_driveCell 45 = .ok (.aload_n 0, 1) := by decide +kernel
theorem dX11_driveCell_46 : decode cX11_driveCell 46 = .ok (.getfield 64, 3) := by decide +kernel
theorem dX11_driveCell_49 : decode cX11_driveCell 49 = .ok (.getfield 342, 3) := by decide +kernel
theorem dX11_driveCell_52 : decode cX11_driveCell 52 = .ok (.goto 10, 3) := by decide +kernel
theorem dX11_driveCell_55 : decode cX11_driveCell 55 = .ok (.aload_n 0, 1) := by decide +kernel
theorem dX11_driveCell_56 : decode cX11_driveCell 56 = .ok (.getfield 64, 3) := by decide +kernel
theorem dX11_driveCell_59 : decode cX11_driveCell 59 = .ok (.getfield 352, 3) := by decide +kernel
theorem dX11_driveCell_62 : decode cX11_driveCell 62 = .ok (.invokevirtual 193, 3) := by decide +kernel
theorem dX11_driveCell_65 : decode cX11_driveCell 65 = .ok (.ireturn, 1) := by decide +kernel
theorem dX11_minded_0 : decode cX11_minded 0 = .ok (.aload_n 0, 1) := by decide +kernel
theorem dX11_minded_1 : decode cX11_minded 1 = .ok (.iload_n 1, 1) := by decide +kernel
theorem dX11_minded_2 : decode cX11_minded 2 = .ok (.iload_n 2, 1) := by decide +kernel
theorem dX11_minded_3 : decode cX11_minded 3 = .ok (.iload_n 3, 1) := by decide +kernel
theorem dX11_minded_4 : decode cX11_minded 4 = .ok (.invokevirtual 355, 3) := by decide +kernel
theorem dX11_minded_7 : decode cX11_minded 7 = .ok (.istore 4, 2) := by decide +kernel
theorem dX11_minded_9 : decode cX11_minded 9 = .ok (.iload 4, 2) := by decide +kernel
theorem dX11_minded_11 : decode cX11_minded 11 = .ok (.ifCond .ne 17, 3) := by decide +kernel
theorem dX11_minded_14 : decode cX11_minded 14 = .ok (.aload_n 0, 1) := by decide +kernel
theorem dX11_minded_15 : decode cX11_minded 15 = .ok (.aload_n 0, 1) := by decide +kernel
theorem dX11_minded_16 : decode cX11_minded 16 = .ok (.getfield 64, 3) := by decide +kernel
theorem dX11_minded_19 : decode cX11_minded 19 = .ok (.invokevirtual 359, 3) := by decide +kernel
theorem dX11_minded_22 : decode cX11_minded 22 = .ok (.invokevirtual 193, 3) := by decide +kernel
theorem dX11_minded_25 : decode cX11_minded 25 = .ok (.goto 9, 3) := by decide +kernel
theorem dX11_minded_28 : decode cX11_minded 28 = .ok (.aload_n 0, 1) := by decide +kernel
theorem dX11_minded_29 : decode cX11_minded 29 = .ok (.iload 4, 2) := by decide +kernel
theorem dX11_minded_31 : decode cX11_minded 31 = .ok (.invokevirtual 163, 3) := by decide +kernel
theorem dX11_minded_34 : decode cX11_minded 34 = .ok (.ireturn, 1) := by decide +kernel
theorem dX11_mindedAt_0 : decode cX11_mindedAt 0 = .ok (.iload 4, 2) := by decide +kernel
theorem dX11_mindedAt_2 : decode cX11_mindedAt 2 = .ok (.iconst 0, 1) := by decide +kernel
theorem dX11_mindedAt_3 : decode cX11_mindedAt 3 = .ok (.iconst 1, 1) := by decide +kernel
theorem dX11_mindedAt_4 : decode cX11_mindedAt 4 = .ok (.invokestatic 105, 3) := by decide +kernel
theorem dX11_mindedAt_7 : decode cX11_mindedAt 7 = .ok (.ifCond .eq 9, 3) := by decide +kernel
theorem dX11_mindedAt_10 : decode cX11_mindedAt 10 = .ok (.aload_n 0, 1) := by decide +kernel
theorem dX11_mindedAt_11 : decode cX11_mindedAt 11 = .ok (.iconst 1, 1) := by decide +kernel
theorem dX11_mindedAt_12 : decode cX11_mindedAt 12 = .ok (.invokevirtual 163, 3) := by decide +kernel
theorem dX11_mindedAt_15 : decode cX11_mindedAt 15 = .ok (.ireturn, 1) := by decide +kernel
theorem dX11_mindedAt_16 : decode cX11_mindedAt 16 = .ok (.aload_n 0, 1) := by decide +kernel
theorem dX11_mindedAt_17 : decode cX11_mindedAt 17 = .ok (.iload_n 1, 1) := by decide +kernel
theorem dX11_mindedAt_18 : decode cX11_mindedAt 18 = .ok (.iload_n 2, 1) := by decide +kernel
theorem dX11_mindedAt_19 : decode cX11_mindedAt 19 = .ok (.iload_n 3, 1) := by decide +kernel
theorem dX11_mindedAt_20 : decode cX11_mindedAt 20 = .ok (.invokevirtual 355, 3) := by decide +kernel
theorem dX11_mindedAt_23 : decode cX11_mindedAt 23 = .ok (.istore 5, 2) := by decide +kernel
theorem dX11_mindedAt_25 : decode cX11_mindedAt 25 = .ok (.iload 5, 2) := by decide +kernel
theorem dX11_mindedAt_27 : decode cX11_mindedAt 27 = .ok (.ifCond .eq 10, 3) := by decide +kernel
theorem dX11_mindedAt_30 : decode cX11_mindedAt 30 = .ok (.aload_n 0, 1) := by decide +kernel
theorem dX11_mindedAt_31 : decode cX11_mindedAt 31 = .ok (.iload 5, 2) := by decide +kernel
theorem dX11_mindedAt_33 : decode cX11_mindedAt 33 = .ok (.invokevirtual 163, 3) := by decide +kernel
theorem dX11_mindedAt_36 : decode cX11_mindedAt 36 = .ok (.ireturn, 1) := by decide +kernel
theorem dX11_mindedAt_37 : decode cX11_mindedAt 37 = .ok (.aload_n 0, 1) := by decide +kernel
theorem dX11_mindedAt_38 : decode cX11_mindedAt 38 = .ok (.iload 4, 2) := by decide +kernel
theorem dX11_mindedAt_40 : decode cX11_mindedAt 40 = .ok (.ifCond .ne 13, 3) := by decide +kernel
theorem dX11_mindedAt_43 : decode cX11_mindedAt 43 = .ok (.aload_n 0, 1) := by decide +kernel
theorem dX11_mindedAt_44 : decode cX11_mindedAt 44 = .ok (.getfield 64, 3) := by decide +kernel
theorem dX11_mindedAt_47 : decode cX11_mindedAt 47 = .ok (.invokevirtual 362, 3) := by decide +kernel
theorem dX11_mindedAt_50 : decode cX11_mindedAt 50 = .ok (.goto 10, 3) := by decide +kernel
theorem dX11_mindedAt_53 : decode cX11_mindedAt 53 = .ok (.aload_n 0, 1) := by decide +kernel
theorem dX11_mindedAt_54 : decode cX11_mindedAt 54 = .ok (.getfield 64, 3) := by decide +kernel
theorem dX11_mindedAt_57 : decode cX11_mindedAt 57 = .ok (.invokevirtual 365, 3) := by decide +kernel
theorem dX11_mindedAt_60 : decode cX11_mindedAt 60 = .ok (.invokevirtual 322, 3) := by decide +kernel
theorem dX11_mindedAt_63 : decode cX11_mindedAt 63 = .ok (.ireturn, 1) := by decide +kernel
theorem dX11_ask_0 : decode cX11_ask 0 = .ok (.aload_n 0, 1) := by decide +kernel
theorem dX11_ask_1 : decode cX11_ask 1 = .ok (.iload_n 1, 1) := by decide +kernel
theorem dX11_ask_2 : decode cX11_ask 2 = .ok (.iload_n 2, 1) := by decide +kernel
theorem dX11_ask_3 : decode cX11_ask 3 = .ok (.iload_n 3, 1) := by decide +kernel
theorem dX11_ask_4 : decode cX11_ask 4 = .ok (.invokevirtual 355, 3) := by decide +kernel
theorem dX11_ask_7 : decode cX11_ask 7 = .ok (.istore 4, 2) := by decide +kernel
theorem dX11_ask_9 : decode cX11_ask 9 = .ok (.iload 4, 2) := by decide +kernel
theorem dX11_ask_11 : decode cX11_ask 11 = .ok (.ifCond .eq 10, 3) := by decide +kernel
theorem dX11_ask_14 : decode cX11_ask 14 = .ok (.aload_n 0, 1) := by decide +kernel
theorem dX11_ask_15 : decode cX11_ask 15 = .ok (.iload 4, 2) := by decide +kernel
theorem dX11_ask_17 : decode cX11_ask 17 = .ok (.invokevirtual 163, 3) := by decide +kernel
theorem dX11_ask_20 : decode cX11_ask 20 = .ok (.ireturn, 1) := by decide +kernel
theorem dX11_ask_21 : decode cX11_ask 21 = .ok (.aload_n 0, 1) := by decide +kernel
theorem dX11_ask_22 : decode cX11_ask 22 = .ok (.aload_n 0, 1) := by decide +kernel
theorem dX11_ask_23 : decode cX11_ask 23 = .ok (.getfield 64, 3) := by decide +kernel
theorem dX11_ask_26 : decode cX11_ask 26 = .ok (.invokevirtual 368, 3) := by decide +kernel
theorem dX11_ask_29 : decode cX11_ask 29 = .ok (.invokevirtual 322, 3) := by decide +kernel
theorem dX11_ask_32 : decode cX11_ask 32 = .ok (.ireturn, 1) := by decide +kernel
theorem dX11_heaviest_0 : decode cX11_heaviest 0 = .ok (.aload_n 0, 1) := by decide +kernel
theorem dX11_heaviest_1 : decode cX11_heaviest 1 = .ok (.aload_n 0, 1) := by decide +kernel
theorem dX11_heaviest_2 : decode cX11_heaviest 2 = .ok (.getfield 33, 3) := by decide +kernel
theorem dX11_heaviest_5 : decode cX11_heaviest 5 = .ok (.invokevirtual 371, 3) := by decide +kernel
theorem dX11_heaviest_8 : decode cX11_heaviest 8 = .ok (.invokevirtual 193, 3) := by decide +kernel
theorem dX11_heaviest_11 : decode cX11_heaviest 11 = .ok (.ireturn, 1) := by decide +kernel
theorem dX11_heaviestWeight_0 : decode cX11_heaviestWeight 0 = .ok (.aload_n 0, 1) := by decide +kernel
theorem dX11_heaviestWeight_1 : decode cX11_heaviestWeight 1 = .ok (.aload_n 0, 1) := by decide +kernel
theorem dX11_heaviestWeight_2 : decode cX11_heaviestWeight 2 = .ok (.getfield 33, 3) := by decide +kernel
theorem dX11_heaviestWeight_5 : decode cX11_heaviestWeight 5 = .ok (.getfield 184, 3) := by decide +kernel
theorem dX11_heaviestWeight_8 : decode cX11_heaviestWeight 8 = .ok (.aload_n 0, 1) := by decide +kernel
theorem dX11_heaviestWeight_9 : decode cX11_heaviestWeight 9 = .ok (.getfield 33, 3) := by decide +kernel
theorem dX11_heaviestWeight_12 : decode cX11_heaviestWeight 12 = .ok (.invokevirtual 371, 3) := by decide +kernel
theorem dX11_heaviestWeight_15 : decode cX11_heaviestWeight 15 = .ok (.invokevirtual 374, 3) := by decide +kernel
theorem dX11_heaviestWeight_18 : decode cX11_heaviestWeight 18 = .ok (.invokevirtual 193, 3) := by decide +kernel
theorem dX11_heaviestWeight_21 : decode cX11_heaviestWeight 21 = .ok (.ireturn, 1) := by decide +kernel
theorem dX11_ride_0 : decode cX11_ride 0 = .ok (.aload_n 0, 1) := by decide +kernel
theorem dX11_ride_1 : decode cX11_ride 1 = .ok (.iload_n 1, 1) := by decide +kernel
theorem dX11_ride_2 : decode cX11_ride 2 = .ok (.invokevirtual 301, 3) := by decide +kernel
theorem dX11_ride_5 : decode cX11_ride 5 = .ok (.ifCond .eq 11, 3) := by decide +kernel
theorem dX11_ride_8 : decode cX11_ride 8 = .ok (.aload_n 0, 1) := by decide +kernel
theorem dX11_ride_9 : decode cX11_ride 9 = .ok (.iload_n 2, 1) := by decide +kernel
theorem dX11_ride_10 : decode cX11_ride 10 = .ok (.invokevirtual 301, 3) := by decide +kernel
theorem dX11_ride_13 : decode cX11_ride 13 = .ok (.ifCond .ne 9, 3) := by decide +kernel
theorem dX11_ride_16 : decode cX11_ride 16 = .ok (.aload_n 0, 1) := by decide +kernel
theorem dX11_ride_17 : decode cX11_ride 17 = .ok (.iconst 1, 1) := by decide +kernel
theorem dX11_ride_18 : decode cX11_ride 18 = .ok (.invokevirtual 163, 3) := by decide +kernel
theorem dX11_ride_21 : decode cX11_ride 21 = .ok (.ireturn, 1) := by decide +kernel
theorem dX11_ride_22 : decode cX11_ride 22 = .ok (.aload_n 0, 1) := by decide +kernel
theorem dX11_ride_23 : decode cX11_ride 23 = .ok (.getfield 44, 3) := by decide +kernel
theorem dX11_ride_26 : decode cX11_ride 26 = .ok (.aload_n 0, 1) := by decide +kernel
theorem dX11_ride_27 : decode cX11_ride 27 = .ok (.getfield 33, 3) := by decide +kernel
theorem dX11_ride_30 : decode cX11_ride 30 = .ok (.invokevirtual 177, 3) := by decide +kernel
theorem dX11_ride_33 : decode cX11_ride 33 = .ok (.aload_n 0, 1) := by decide +kernel
theorem dX11_ride_34 : decode cX11_ride 34 = .ok (.getfield 64, 3) := by decide +kernel
theorem dX11_ride_37 : decode cX11_ride 37 = .ok (.aload_n 0, 1) := by decide +kernel
theorem dX11_ride_38 : decode cX11_ride 38 = .ok (.getfield 44, 3) := by decide +kernel
theorem dX11_ride_41 : decode cX11_ride 41 = .ok (.iload_n 1, 1) := by decide +kernel
theorem dX11_ride_42 : decode cX11_ride 42 = .ok (.iload_n 2, 1) := by decide +kernel
theorem dX11_ride_43 : decode cX11_ride 43 = .ok (.invokevirtual 377, 3) := by decide +kernel
theorem dX11_ride_46 : decode cX11_ride 46 = .ok (.aload_n 0, 1) := by decide +kernel
theorem dX11_ride_47 : decode cX11_ride 47 = .ok (.aload_n 0, 1) := by decide +kernel
theorem dX11_ride_48 : decode cX11_ride 48 = .ok (.getfield 64, 3) := by decide +kernel
theorem dX11_ride_51 : decode cX11_ride 51 = .ok (.getfield 345, 3) := by decide +kernel
theorem dX11_ride_54 : decode cX11_ride 54 = .ok (.invokevirtual 322, 3) := by decide +kernel
theorem dX11_ride_57 : decode cX11_ride 57 = .ok (.ireturn, 1) := by decide +kernel
theorem dX11_waits_0 : decode cX11_waits 0 = .ok (.aload_n 0, 1) := by decide +kernel
theorem dX11_waits_1 : decode cX11_waits 1 = .ok (.iload_n 1, 1) := by decide +kernel
theorem dX11_waits_2 : decode cX11_waits 2 = .ok (.invokevirtual 301, 3) := by decide +kernel
theorem dX11_waits_5 : decode cX11_waits 5 = .ok (.ifCond .eq 11, 3) := by decide +kernel
theorem dX11_waits_8 : decode cX11_waits 8 = .ok (.aload_n 0, 1) := by decide +kernel
theorem dX11_waits_9 : decode cX11_waits 9 = .ok (.iload_n 2, 1) := by decide +kernel
theorem dX11_waits_10 : decode cX11_waits 10 = .ok (.invokevirtual 301, 3) := by decide +kernel
theorem dX11_waits_13 : decode cX11_waits 13 = .ok (.ifCond .ne 9, 3) := by decide +kernel
theorem dX11_waits_16 : decode cX11_waits 16 = .ok (.aload_n 0, 1) := by decide +kernel
theorem dX11_waits_17 : decode cX11_waits 17 = .ok (.iconst 1, 1) := by decide +kernel
theorem dX11_waits_18 : decode cX11_waits 18 = .ok (.invokevirtual 163, 3) := by decide +kernel
theorem dX11_waits_21 : decode cX11_waits 21 = .ok (.ireturn, 1) := by decide +kernel
theorem dX11_waits_22 : decode cX11_waits 22 = .ok (.aload_n 0, 1) := by decide +kernel
theorem dX11_waits_23 : decode cX11_waits 23 = .ok (.getfield 44, 3) := by decide +kernel
theorem dX11_waits_26 : decode cX11_waits 26 = .ok (.aload_n 0, 1) := by decide +kernel
theorem dX11_waits_27 : decode cX11_waits 27 = .ok (.getfield 33, 3) := by decide +kernel
theorem dX11_waits_30 : decode cX11_waits 30 = .ok (.invokevirtual 177, 3) := by decide +kernel
theorem dX11_waits_33 : decode cX11_waits 33 = .ok (.aload_n 0, 1) := by decide +kernel
theorem dX11_waits_34 : decode cX11_waits 34 = .ok (.getfield 64, 3) := by decide +kernel
theorem dX11_waits_37 : decode cX11_waits 37 = .ok (.aload_n 0, 1) := by decide +kernel
theorem dX11_waits_38 : decode cX11_waits 38 = .ok (.getfield 44, 3) := by decide +kernel
theorem dX11_waits_41 : decode cX11_waits 41 = .ok (.iload_n 1, 1) := by decide +kernel
theorem dX11_waits_42 : decode cX11_waits 42 = .ok (.iload_n 2, 1) := by decide +kernel
theorem dX11_waits_43 : decode cX11_waits 43 = .ok (.invokevirtual 377, 3) := by decide +kernel
theorem dX11_waits_46 : decode cX11_waits 46 = .ok (.aload_n 0, 1) := by decide +kernel
theorem dX11_waits_47 : decode cX11_waits 47 = .ok (.getfield 64, 3) := by decide +kernel
theorem dX11_waits_50 : decode cX11_waits 50 = .ok (.getfield 345, 3) := by decide +kernel
theorem dX11_waits_53 : decode cX11_waits 53 = .ok (.iconst (-1), 1) := by decide +kernel
theorem dX11_waits_54 : decode cX11_waits 54 = .ok (.if_icmp .ne 12, 3) := by decide +kernel
theorem dX11_waits_57 : decode cX11_waits 57 = .ok (.aload_n 0, 1) := by decide +kernel
theorem dX11_waits_58 : decode cX11_waits 58 = .ok (.bipush 6, 2) := by decide +kernel
theorem dX11_waits_60 : decode cX11_waits 60 = .ok (.invokevirtual 163, 3) := by decide +kernel
theorem dX11_waits_63 : decode cX11_waits 63 = .ok (.goto 14, 3) := by decide +kernel
theorem dX11_waits_66 : decode cX11_waits 66 = .ok (.aload_n 0, 1) := by decide +kernel
theorem dX11_waits_67 : decode cX11_waits 67 = .ok (.aload_n 0, 1) := by decide +kernel
theorem dX11_waits_68 : decode cX11_waits 68 = .ok (.getfield 64, 3) := by decide +kernel
theorem dX11_waits_71 : decode cX11_waits 71 = .ok (.getfield 381, 3) := by decide +kernel
theorem dX11_waits_74 : decode cX11_waits 74 = .ok (.invokevirtual 193, 3) := by decide +kernel
theorem dX11_waits_77 : decode cX11_waits 77 = .ok (.ireturn, 1) := by decide +kernel
theorem dX11_game_0 : decode cX11_game 0 = .ok (.aload_n 0, 1) := by decide +kernel
theorem dX11_game_1 : decode cX11_game 1 = .ok (.iload_n 1, 1) := by decide +kernel
theorem dX11_game_2 : decode cX11_game 2 = .ok (.invokevirtual 282, 3) := by decide +kernel
theorem dX11_game_5 : decode cX11_game 5 = .ok (.ifCond .eq 25, 3) := by decide +kernel
theorem dX11_game_8 : decode cX11_game 8 = .ok (.aload_n 0, 1) := by decide +kernel
theorem dX11_game_9 : decode cX11_game 9 = .ok (.iload_n 2, 1) := by decide +kernel
theorem dX11_game_10 : decode cX11_game 10 = .ok (.invokevirtual 282, 3) := by decide +kernel
theorem dX11_game_13 : decode cX11_game 13 = .ok (.ifCond .eq 17, 3) := by decide +kernel
theorem dX11_game_16 : decode cX11_game 16 = .ok (.iload_n 1, 1) := by decide +kernel
theorem dX11_game_17 : decode cX11_game 17 = .ok (.iload_n 2, 1) := by decide +kernel
theorem dX11_game_18 : decode cX11_game 18 = .ok (.if_icmp .eq 12, 3) := by decide +kernel
theorem dX11_game_21 : decode cX11_game 21 = .ok (.iload_n 3, 1) := by decide +kernel
theorem dX11_game_22 : decode cX11_game 22 = .ok (.iconst 0, 1) := by decide +kernel
theorem dX11_game_23 : decode cX11_game 23 = .ok (.iconst 2, 1) := by decide +kernel
theorem dX11_game_24 : decode cX11_game 24 = .ok (.invokestatic 105, 3) := by decide +kernel
theorem dX11_game_27 : decode cX11_game 27 = .ok (.ifCond .eq 9, 3) := by decide +kernel
theorem dX11_game_30 : decode cX11_game 30 = .ok (.aload_n 0, 1) := by decide +kernel
theorem dX11_game_31 : decode cX11_game 31 = .ok (.iconst 1, 1) := by decide +kernel
theorem dX11_game_32 : decode cX11_game 32 = .ok (.invokevirtual 163, 3) := by decide +kernel
theorem dX11_game_35 : decode cX11_game 35 = .ok (.ireturn, 1) := by decide +kernel
theorem dX11_game_36 : decode cX11_game 36 = .ok (.aload_n 0, 1) := by decide +kernel
theorem dX11_game_37 : decode cX11_game 37 = .ok (.getfield 71, 3) := by decide +kernel
theorem dX11_game_40 : decode cX11_game 40 = .ok (.aload_n 0, 1) := by decide +kernel
theorem dX11_game_41 : decode cX11_game 41 = .ok (.getfield 33, 3) := by decide +kernel
theorem dX11_game_44 : decode cX11_game 44 = .ok (.iload_n 1, 1) := by decide +kernel
theorem dX11_game_45 : decode cX11_game 45 = .ok (.iload_n 2, 1) := by decide +kernel
theorem dX11_game_46 : decode cX11_game 46 = .ok (.iload_n 3, 1) := by decide +kernel
theorem dX11_game_47 : decode cX11_game 47 = .ok (.invokevirtual 384, 3) := by decide +kernel
theorem dX11_game_50 : decode cX11_game 50 = .ok (.aload_n 0, 1) := by decide +kernel
theorem dX11_game_51 : decode cX11_game 51 = .ok (.aload_n 0, 1) := by decide +kernel
theorem dX11_game_52 : decode cX11_game 52 = .ok (.getfield 71, 3) := by decide +kernel
theorem dX11_game_55 : decode cX11_game 55 = .ok (.getfield 388, 3) := by decide +kernel
theorem dX11_game_58 : decode cX11_game 58 = .ok (.invokevirtual 193, 3) := by decide +kernel
theorem dX11_game_61 : decode cX11_game 61 = .ok (.ireturn, 1) := by decide +kernel
theorem dX11_moveOf_0 : decode cX11_moveOf 0 = .ok (.aload_n 0, 1) := by decide +kernel
theorem dX11_moveOf_1 : decode cX11_moveOf 1 = .ok (.iload_n 1, 1) := by decide +kernel
theorem dX11_moveOf_2 : decode cX11_moveOf 2 = .ok (.invokevirtual 282, 3) := by decide +kernel
theorem dX11_moveOf_5 : decode cX11_moveOf 5 = .ok (.ifCond .eq 35, 3) := by decide +kernel
theorem dX11_moveOf_8 : decode cX11_moveOf 8 = .ok (.aload_n 0, 1) := by decide +kernel
theorem dX11_moveOf_9 : decode cX11_moveOf 9 = .ok (.iload_n 2, 1) := by decide +kernel
theorem dX11_moveOf_10 : decode cX11_moveOf 10 = .ok (.invokevirtual 282, 3) := by decide +kernel
theorem dX11_moveOf_13 : decode cX11_moveOf 13 = .ok (.ifCond .eq 27, 3) := by decide +kernel
theorem dX11_moveOf_16 : decode cX11_moveOf 16 = .ok (.iload_n 1, 1) := by decide +kernel
theorem dX11_moveOf_17 : decode cX11_moveOf 17 = .ok (.iload_n 2, 1) := by decide +kernel
theorem dX11_moveOf_18 : decode cX11_moveOf 18 = .ok (.if_icmp .eq 22, 3) := by decide +kernel
theorem dX11_moveOf_21 : decode cX11_moveOf 21 = .ok (.iload_n 3, 1) := by decide +kernel
theorem dX11_moveOf_22 : decode cX11_moveOf 22 = .ok (.iconst 1, 1) := by decide +kernel
theorem dX11_moveOf_23 : decode cX11_moveOf 23 = .ok (.iconst 2, 1) := by decide +kernel
theorem dX11_moveOf_24 : decode cX11_moveOf 24 = .ok (.invokestatic 105, 3) := by decide +kernel
theorem dX11_moveOf_27 : decode cX11_moveOf 27 = .ok (.ifCond .ne 13, 3) := by decide +kernel
theorem dX11_moveOf_30 : decode cX11_moveOf 30 = .ok (.iload 4, 2) := by decide +kernel
theorem dX11_moveOf_32 : decode cX11_moveOf 32 = .ok (.iconst 0, 1) := by decide +kernel
theorem dX11_moveOf_33 : decode cX11_moveOf 33 = .ok (.iconst 1, 1) := by decide +kernel
theorem dX11_moveOf_34 : decode cX11_moveOf 34 = .ok (.invokestatic 105, 3) := by decide +kernel
theorem dX11_moveOf_37 : decode cX11_moveOf 37 = .ok (.ifCond .eq 9, 3) := by decide +kernel
theorem dX11_moveOf_40 : decode cX11_moveOf 40 = .ok (.aload_n 0, 1) := by decide +kernel
theorem dX11_moveOf_41 : decode cX11_moveOf 41 = .ok (.iconst 1, 1) := by decide +kernel
theorem dX11_moveOf_42 : decode cX11_moveOf 42 = .ok (.invokevirtual 163, 3) := by decide +kernel
theorem dX11_moveOf_45 : decode cX11_moveOf 45 = .ok (.ireturn, 1) := by decide +kernel
theorem dX11_moveOf_46 : decode cX11_moveOf 46 = .ok (.aload_n 0, 1) := by decide +kernel
theorem dX11_moveOf_47 : decode cX11_moveOf 47 = .ok (.getfield 71, 3) := by decide +kernel
theorem dX11_moveOf_50 : decode cX11_moveOf 50 = .ok (.aload_n 0, 1) := by decide +kernel
theorem dX11_moveOf_51 : decode cX11_moveOf 51 = .ok (.getfield 33, 3) := by decide +kernel
theorem dX11_moveOf_54 : decode cX11_moveOf 54 = .ok (.iload_n 1, 1) := by decide +kernel
theorem dX11_moveOf_55 : decode cX11_moveOf 55 = .ok (.iload_n 2, 1) := by decide +kernel
theorem dX11_moveOf_56 : decode cX11_moveOf 56 = .ok (.iload_n 3, 1) := by decide +kernel
theorem dX11_moveOf_57 : decode cX11_moveOf 57 = .ok (.invokevirtual 384, 3) := by decide +kernel
theorem dX11_moveOf_60 : decode cX11_moveOf 60 = .ok (.aload_n 0, 1) := by decide +kernel
theorem dX11_moveOf_61 : decode cX11_moveOf 61 = .ok (.iload 4, 2) := by decide +kernel
theorem dX11_moveOf_63 : decode cX11_moveOf 63 = .ok (.ifCond .ne 13, 3) := by decide +kernel
theorem dX11_moveOf_66 : decode cX11_moveOf 66 = .ok (.aload_n 0, 1) := by decide +kernel
theorem dX11_moveOf_67 : decode cX11_moveOf 67 = .ok (.getfield 71, 3) := by decide +kernel
theorem dX11_moveOf_70 : decode cX11_moveOf 70 = .ok (.getfield 389, 3) := by decide +kernel
theorem dX11_moveOf_73 : decode cX11_moveOf 73 = .ok (.goto 10, 3) := by decide +kernel
theorem dX11_moveOf_76 : decode cX11_moveOf 76 = .ok (.aload_n 0, 1) := by decide +kernel
theorem dX11_moveOf_77 : decode cX11_moveOf 77 = .ok (.getfield 71, 3) := by decide +kernel
theorem dX11_moveOf_80 : decode cX11_moveOf 80 = .ok (.getfield 392, 3) := by decide +kernel
theorem dX11_moveOf_83 : decode cX11_moveOf 83 = .ok (.invokevirtual 322, 3) := by decide +kernel
theorem dX11_moveOf_86 : decode cX11_moveOf 86 = .ok (.ireturn, 1) := by decide +kernel
theorem dX11_share_0 : decode cX11_share 0 = .ok (.aload_n 0, 1) := by decide +kernel
theorem dX11_share_1 : decode cX11_share 1 = .ok (.iload_n 1, 1) := by decide +kernel
theorem dX11_share_2 : decode cX11_share 2 = .ok (.invokevirtual 282, 3) := by decide +kernel
theorem dX11_share_5 : decode cX11_share 5 = .ok (.ifCond .ne 9, 3) := by decide +kernel
theorem dX11_share_8 : decode cX11_share 8 = .ok (.aload_n 0, 1) := by decide +kernel
theorem dX11_share_9 : decode cX11_share 9 = .ok (.iconst 1, 1) := by decide +kernel
theorem dX11_share_10 : decode cX11_share 10 = .ok (.invokevirtual 109, 3) := by decide +kernel
theorem dX11_share_13 : decode cX11_share 13 = .ok (.ireturn, 1) := by decide +kernel
theorem dX11_share_14 : decode cX11_share 14 = .ok (.aload_n 0, 1) := by decide +kernel
theorem dX11_share_15 : decode cX11_share 15 = .ok (.getfield 33, 3) := by decide +kernel
theorem dX11_share_18 : decode cX11_share 18 = .ok (.getfield 214, 3) := by decide +kernel
theorem dX11_share_21 : decode cX11_share 21 = .ok (.invokevirtual 395, 3) := by decide +kernel
theorem dX11_share_24 : decode cX11_share 24 = .ok (.istore_n 2, 1) := by decide +kernel
theorem dX11_share_25 : decode cX11_share 25 = .ok (.iload_n 2, 1) := by decide +kernel
theorem dX11_share_26 : decode cX11_share 26 = .ok (.ifCond .ne 10, 3) := by decide +kernel
theorem dX11_share_29 : decode cX11_share 29 = .ok (.aload_n 0, 1) := by decide +kernel
theorem dX11_share_30 : decode cX11_share 30 = .ok (.bipush 6, 2) := by decide +kernel
theorem dX11_share_32 : decode cX11_share 32 = .ok (.invokevirtual 109, 3) := by decide +kernel
theorem dX11_share_35 : decode cX11_share 35 = .ok (.ireturn, 1) := by decide +kernel
theorem dX11_share_36 : decode cX11_share 36 = .ok (.aload_n 0, 1) := by decide +kernel
theorem dX11_share_37 : decode cX11_share 37 = .ok (.aload_n 0, 1) := by decide +kernel
theorem dX11_share_38 : decode cX11_share 38 = .ok (.getfield 33, 3) := by decide +kernel
theorem dX11_share_41 : decode cX11_share 41 = .ok (.getfield 214, 3) := by decide +kernel
theorem dX11_share_44 : decode cX11_share 44 = .ok (.getfield 289, 3) := by decide +kernel
theorem dX11_share_47 : decode cX11_share 47 = .ok (.iload_n 1, 1) := by decide +kernel
theorem dX11_share_48 : decode cX11_share 48 = .ok (.iaload, 1) := by decide +kernel
theorem dX11_share_49 : decode cX11_share 49 = .ok (.i2l, 1) := by decide +kernel
theorem dX11_share_50 : decode cX11_share 50 = .ok (.iload_n 2, 1) := by decide +kernel
theorem dX11_share_51 : decode cX11_share 51 = .ok (.i2l, 1) := by decide +kernel
theorem dX11_share_52 : decode cX11_share 52 = .ok (.invokevirtual 398, 3) := by decide +kernel
theorem dX11_share_55 : decode cX11_share 55 = .ok (.ireturn, 1) := by decide +kernel
theorem dX11_rain_0 : decode cX11_rain 0 = .ok (.iload_n 1, 1) := by decide +kernel
theorem dX11_rain_1 : decode cX11_rain 1 = .ok (.iconst 0, 1) := by decide +kernel
theorem dX11_rain_2 : decode cX11_rain 2 = .ok (.bipush 12, 2) := by decide +kernel
theorem dX11_rain_4 : decode cX11_rain 4 = .ok (.invokestatic 105, 3) := by decide +kernel
theorem dX11_rain_7 : decode cX11_rain 7 = .ok (.ifCond .ne 13, 3) := by decide +kernel
theorem dX11_rain_10 : decode cX11_rain 10 = .ok (.iload_n 2, 1) := by decide +kernel
theorem dX11_rain_11 : decode cX11_rain 11 = .ok (.iconst 0, 1) := by decide +kernel
theorem dX11_rain_12 : decode cX11_rain 12 = .ok (.bipush 12, 2) := by decide +kernel
theorem dX11_rain_14 : decode cX11_rain 14 = .ok (.invokestatic 105, 3) := by decide +kernel
theorem dX11_rain_17 : decode cX11_rain 17 = .ok (.ifCond .eq 9, 3) := by decide +kernel
theorem dX11_rain_20 : decode cX11_rain 20 = .ok (.aload_n 0, 1) := by decide +kernel
theorem dX11_rain_21 : decode cX11_rain 21 = .ok (.iconst 1, 1) := by decide +kernel
theorem dX11_rain_22 : decode cX11_rain 22 = .ok (.invokevirtual 109, 3) := by decide +kernel
theorem dX11_rain_25 : decode cX11_rain 25 = .ok (.ireturn, 1) := by decide +kernel
theorem dX11_rain_26 : decode cX11_rain 26 = .ok (.aload_n 0, 1) := by decide +kernel
theorem dX11_rain_27 : decode cX11_rain 27 = .ok (.iload_n 1, 1) := by decide +kernel
theorem dX11_rain_28 : decode cX11_rain 28 = .ok (.iload_n 2, 1) := by decide +kernel
theorem dX11_rain_29 : decode cX11_rain 29 = .ok (.aload_n 0, 1) := by decide +kernel
theorem dX11_rain_30 : decode cX11_rain 30 = .ok (.getfield 33, 3) := by decide +kernel
theorem dX11_rain_33 : decode cX11_rain 33 = .ok (.getfield 227, 3) := by decide +kernel
theorem dX11_rain_36 : decode cX11_rain 36 = .ok (.invokestatic 402, 3) := by decide +kernel
theorem dX11_rain_39 : decode cX11_rain 39 = .ok (.ldc2_w 406, 3) := by decide +kernel
theorem dX11_rain_42 : decode cX11_rain 42 = .ok (.iload_n 1, 1) := by decide +kernel
theorem dX11_rain_43 : decode cX11_rain 43 = .ok (.invokestatic 408, 3) := by decide +kernel
theorem dX11_rain_46 : decode cX11_rain 46 = .ok (.invokevirtual 398, 3) := by decide +kernel
theorem dX11_rain_49 : decode cX11_rain 49 = .ok (.ireturn, 1) := by decide +kernel
theorem dX11_copyHours_0 : decode cX11_copyHours 0 = .ok (.aload_n 0, 1) := by decide +kernel
theorem dX11_copyHours_1 : decode cX11_copyHours 1 = .ok (.getfield 33, 3) := by decide +kernel
theorem dX11_copyHours_4 : decode cX11_copyHours 4 = .ok (.getfield 184, 3) := by decide +kernel
theorem dX11_copyHours_7 : decode cX11_copyHours 7 = .ok (.getfield 188, 3) := by decide +kernel
theorem dX11_copyHours_10 : decode cX11_copyHours 10 = .ok (.istore_n 2, 1) := by decide +kernel
theorem dX11_copyHours_11 : decode cX11_copyHours 11 = .ok (.aload_n 0, 1) := by decide +kernel
theorem dX11_copyHours_12 : decode cX11_copyHours 12 = .ok (.iload_n 1, 1) := by decide +kernel
theorem dX11_copyHours_13 : decode cX11_copyHours 13 = .ok (.iload_n 2, 1) := by decide +kernel
theorem dX11_copyHours_14 : decode cX11_copyHours 14 = .ok (.invokevirtual 412, 3) := by decide +kernel
theorem dX11_copyHours_17 : decode cX11_copyHours 17 = .ok (.istore_n 3, 1) := by decide +kernel
theorem dX11_copyHours_18 : decode cX11_copyHours 18 = .ok (.iload_n 3, 1) := by decide +kernel
theorem dX11_copyHours_19 : decode cX11_copyHours 19 = .ok (.ifCond .eq 9, 3) := by decide +kernel
theorem dX11_copyHours_22 : decode cX11_copyHours 22 = .ok (.aload_n 0, 1) := by decide +kernel
theorem dX11_copyHours_23 : decode cX11_copyHours 23 = .ok (.iload_n 3, 1) := by decide +kernel
theorem dX11_copyHours_24 : decode cX11_copyHours 24 = .ok (.invokevirtual 163, 3) := by decide +kernel
theorem dX11_copyHours_27 : decode cX11_copyHours 27 = .ok (.ireturn, 1) := by decide +kernel
theorem dX11_copyHours_28 : decode cX11_copyHours 28 = .ok (.iconst 0, 1) := by decide +kernel
theorem dX11_copyHours_29 : decode cX11_copyHours 29 = .ok (.istore 4, 2) := by decide +kernel
theorem dX11_copyHours_31 : decode cX11_copyHours 31 = .ok (.iload 4, 2) := by decide +kernel
theorem dX11_copyHours_33 : decode cX11_copyHours 33 = .ok (.iload_n 2, 1) := by decide +kernel
theorem dX11_copyHours_34 : decode cX11_copyHours 34 = .ok (.if_icmp .ge 33, 3) := by decide +kernel
theorem dX11_copyHours_37 : decode cX11_copyHours 37 = .ok (.aload_n 0, 1) := by decide +kernel
theorem dX11_copyHours_38 : decode cX11_copyHours 38 = .ok (.getfield 19, 3) := by decide +kernel
theorem dX11_copyHours_41 : decode cX11_copyHours 41 = .ok (.iload_n 1, 1) := by decide +kernel
theorem dX11_copyHours_42 : decode cX11_copyHours 42 = .ok (.iload 4, 2) := by decide +kernel
theorem dX11_copyHours_44 : decode cX11_copyHours 44 = .ok (.aload_n 0, 1) := by decide +kernel
theorem dX11_copyHours_45 : decode cX11_copyHours 45 = .ok (.getfield 33, 3) := by decide +kernel
theorem dX11_copyHours_48 : decode cX11_copyHours 48 = .ok (.getfield 184, 3) := by decide +kernel
theorem dX11_copyHours_51 : decode cX11_copyHours 51 = .ok (.getfield 267, 3) := by decide +kernel
theorem dX11_copyHours_54 : decode cX11_copyHours 54 = .ok (.iload 4, 2) := by decide +kernel
theorem dX11_copyHours_56 : decode cX11_copyHours 56 = .ok (.iaload, 1) := by decide +kernel
theorem dX11_copyHours_57 : decode cX11_copyHours 57 = .ok (.i2l, 1) := by decide +kernel
theorem dX11_copyHours_58 : decode cX11_copyHours 58 = .ok (.invokevirtual 125, 3) := by decide +kernel
theorem dX11_copyHours_61 : decode cX11_copyHours 61 = .ok (.iinc 4 1, 3) := by decide +kernel
theorem dX11_copyHours_64 : decode cX11_copyHours 64 = .ok (.goto (-33), 3) := by decide +kernel
theorem dX11_copyHours_67 : decode cX11_copyHours 67 = .ok (.aload_n 0, 1) := by decide +kernel
theorem dX11_copyHours_68 : decode cX11_copyHours 68 = .ok (.iload_n 2, 1) := by decide +kernel
theorem dX11_copyHours_69 : decode cX11_copyHours 69 = .ok (.invokevirtual 193, 3) := by decide +kernel
theorem dX11_copyHours_72 : decode cX11_copyHours 72 = .ok (.ireturn, 1) := by decide +kernel
theorem dX11_live_0 : decode cX11_live 0 = .ok (.iload_n 1, 1) := by decide +kernel
theorem dX11_live_1 : decode cX11_live 1 = .ok (.iconst 0, 1) := by decide +kernel
theorem dX11_live_2 : decode cX11_live 2 = .ok (.sipush 9999, 3) := by decide +kernel
theorem dX11_live_5 : decode cX11_live 5 = .ok (.invokestatic 105, 3) := by decide +kernel
theorem dX11_live_8 : decode cX11_live 8 = .ok (.ifCond .eq 9, 3) := by decide +kernel
theorem dX11_live_11 : decode cX11_live 11 = .ok (.aload_n 0, 1) := by decide +kernel
theorem dX11_live_12 : decode cX11_live 12 = .ok (.iconst 1, 1) := by decide +kernel
theorem dX11_live_13 : decode cX11_live 13 = .ok (.invokevirtual 163, 3) := by decide +kernel
theorem dX11_live_16 : decode cX11_live 16 = .ok (.ireturn, 1) := by decide +kernel
theorem dX11_live_17 : decode cX11_live 17 = .ok (.aload_n 0, 1) := by decide +kernel
theorem dX11_live_18 : decode cX11_live 18 = .ok (.getfield 40, 3) := by decide +kernel
theorem dX11_live_21 : decode cX11_live 21 = .ok (.getfield 415, 3) := by decide +kernel
theorem dX11_live_24 : decode cX11_live 24 = .ok (.ifCond .ne 10, 3) := by decide +kernel
theorem dX11_live_27 : decode cX11_live 27 = .ok (.aload_n 0, 1) := by decide +kernel
theorem dX11_live_28 : decode cX11_live 28 = .ok (.bipush 6, 2) := by decide +kernel
theorem dX11_live_30 : decode cX11_live 30 = .ok (.invokevirtual 163, 3) := by decide +kernel
theorem dX11_live_33 : decode cX11_live 33 = .ok (.ireturn, 1) := by decide +kernel
theorem dX11_live_34 : decode cX11_live 34 = .ok (.aload_n 0, 1) := by decide +kernel
theorem dX11_live_35 : decode cX11_live 35 = .ok (.getfield 33, 3) := by decide +kernel
theorem dX11_live_38 : decode cX11_live 38 = .ok (.getfield 230, 3) := by decide +kernel
theorem dX11_live_41 : decode cX11_live 41 = .ok (.istore_n 2, 1) := by decide +kernel
theorem dX11_live_42 : decode cX11_live 42 = .ok (.aload_n 0, 1) := by decide +kernel
theorem dX11_live_43 : decode cX11_live 43 = .ok (.getfield 33, 3) := by decide +kernel
theorem dX11_live_46 : decode cX11_live 46 = .ok (.getfield 239, 3) := by decide +kernel
theorem dX11_live_49 : decode cX11_live 49 = .ok (.istore_n 3, 1) := by decide +kernel
theorem dX11_live_50 : decode cX11_live 50 = .ok (.aload_n 0, 1) := by decide +kernel
theorem dX11_live_51 : decode cX11_live 51 = .ok (.getfield 33, 3) := by decide +kernel
theorem dX11_live_54 : decode cX11_live 54 = .ok (.getfield 184, 3) := by decide +kernel
theorem dX11_live_57 : decode cX11_live 57 = .ok (.invokevirtual 418, 3) := by decide +kernel
theorem dX11_live_60 : decode cX11_live 60 = .ok (.istore 4, 2) := by decide +kernel
theorem dX11_live_62 : decode cX11_live 62 = .ok (.aload_n 0, 1) := by decide +kernel
theorem dX11_live_63 : decode cX11_live 63 = .ok (.getfield 78, 3) := by decide +kernel
theorem dX11_live_66 : decode cX11_live 66 = .ok (.aload_n 0, 1) := by decide +kernel
theorem dX11_live_67 : decode cX11_live 67 = .ok (.getfield 33, 3) := by decide +kernel
theorem dX11_live_70 : decode cX11_live 70 = .ok (.aload_n 0, 1) := by decide +kernel
theorem dX11_live_71 : decode cX11_live 71 = .ok (.getfield 40, 3) := by decide +kernel
theorem dX11_live_74 : decode cX11_live 74 = .ok (.iload_n 1, 1) := by decide +kernel
theorem dX11_live_75 : decode cX11_live 75 = .ok (.invokevirtual 421, 3) := by decide +kernel
theorem dX11_live_78 : decode cX11_live 78 = .ok (.aload_n 0, 1) := by decide +kernel
theorem dX11_live_79 : decode cX11_live 79 = .ok (.getfield 94, 3) := by decide +kernel
theorem dX11_live_82 : decode cX11_live 82 = .ok (.iconst 0, 1) := by decide +kernel
theorem dX11_live_83 : decode cX11_live 83 = .ok (.aload_n 0, 1) := by decide +kernel
theorem dX11_live_84 : decode cX11_live 84 = .ok (.getfield 78, 3) := by decide +kernel
theorem dX11_live_87 : decode cX11_live 87 = .ok (.getfield 425, 3) := by decide +kernel
theorem dX11_live_90 : decode cX11_live 90 = .ok (.iastore, 1) := by decide +kernel
theorem dX11_live_91 : decode cX11_live 91 = .ok (.aload_n 0, 1) := by decide +kernel
theorem dX11_live_92 : decode cX11_live 92 = .ok (.getfield 94, 3) := by decide +kernel
theorem dX11_live_95 : decode cX11_live 95 = .ok (.iconst 1, 1) := by decide +kernel
theorem dX11_live_96 : decode cX11_live 96 = .ok (.aload_n 0, 1) := by decide +kernel
theorem dX11_live_97 : decode cX11_live 97 = .ok (.getfield 33, 3) := by decide +kernel
theorem dX11_live_100 : decode cX11_live 100 = .ok (.getfield 230, 3) := by decide +kernel
theorem dX11_live_103 : decode cX11_live 103 = .ok (.iload_n 2, 1) := by decide +kernel
theorem dX11_live_104 : decode cX11_live 104 = .ok (.isub, 1) := by decide +kernel
theorem dX11_live_105 : decode cX11_live 105 = .ok (.iastore, 1) := by decide +kernel
theorem dX11_live_106 : decode cX11_live 106 = .ok (.aload_n 0, 1) := by decide +kernel
theorem dX11_live_107 : decode cX11_live 107 = .ok (.getfield 94, 3) := by decide +kernel
theorem dX11_live_110 : decode cX11_live 110 = .ok (.iconst 2, 1) := by decide +kernel
theorem dX11_live_111 : decode cX11_live 111 = .ok (.aload_n 0, 1) := by decide +kernel
theorem dX11_live_112 : decode cX11_live 112 = .ok (.getfield 33, 3) := by decide +kernel
theorem dX11_live_115 : decode cX11_live 115 = .ok (.getfield 239, 3) := by decide +kernel
theorem dX11_live_118 : decode cX11_live 118 = .ok (.iload_n 3, 1) := by decide +kernel
theorem dX11_live_119 : decode cX11_live 119 = .ok (.isub, 1) := by decide +kernel
theorem dX11_live_120 : decode cX11_live 120 = .ok (.iastore, 1) := by decide +kernel
theorem dX11_live_121 : decode cX11_live 121 = .ok (.aload_n 0, 1) := by decide +kernel
theorem dX11_live_122 : decode cX11_live 122 = .ok (.getfield 94, 3) := by decide +kernel
theorem dX11_live_125 : decode cX11_live 125 = .ok (.iconst 3, 1) := by decide +kernel
theorem dX11_live_126 : decode cX11_live 126 = .ok (.aload_n 0, 1) := by decide +kernel
theorem dX11_live_127 : decode cX11_live 127 = .ok (.getfield 33, 3) := by decide +kernel
theorem dX11_live_130 : decode cX11_live 130 = .ok (.getfield 184, 3) := by decide +kernel
theorem dX11_live_133 : decode cX11_live 133 = .ok (.invokevirtual 418, 3) := by decide +kernel
theorem dX11_live_136 : decode cX11_live 136 = .ok (.iload 4, 2) := by decide +kernel
theorem dX11_live_138 : decode cX11_live 138 = .ok (.isub, 1) := by decide +kernel
theorem dX11_live_139 : decode cX11_live 139 = .ok (.iastore, 1) := by decide +kernel
theorem dX11_live_140 : decode cX11_live 140 = .ok (.aload_n 0, 1) := by decide +kernel
theorem dX11_live_141 : decode cX11_live 141 = .ok (.getfield 94, 3) := by decide +kernel
theorem dX11_live_144 : decode cX11_live 144 = .ok (.iconst 4, 1) := by decide +kernel
theorem dX11_live_145 : decode cX11_live 145 = .ok (.aload_n 0, 1) := by decide +kernel
theorem dX11_live_146 : decode cX11_live 146 = .ok (.getfield 78, 3) := by decide +kernel
theorem dX11_live_149 : decode cX11_live 149 = .ok (.getfield 428, 3) := by decide +kernel
theorem dX11_live_152 : decode cX11_live 152 = .ok (.iastore, 1) := by decide +kernel
theorem dX11_live_153 : decode cX11_live 153 = .ok (.aload_n 0, 1) := by decide +kernel
theorem dX11_live_154 : decode cX11_live 154 = .ok (.iconst 1, 1) := by decide +kernel
theorem dX11_live_155 : decode cX11_live 155 = .ok (.putfield 98, 3) := by decide +kernel
theorem dX11_live_158 : decode cX11_live 158 = .ok (.aload_n 0, 1) := by decide +kernel
theorem dX11_live_159 : decode cX11_live 159 = .ok (.aload_n 0, 1) := by decide +kernel
theorem dX11_live_160 : decode cX11_live 160 = .ok (.getfield 78, 3) := by decide +kernel
theorem dX11_live_163 : decode cX11_live 163 = .ok (.getfield 431, 3) := by decide +kernel
theorem dX11_live_166 : decode cX11_live 166 = .ok (.invokevirtual 193, 3) := by decide +kernel
theorem dX11_live_169 : decode cX11_live 169 = .ok (.ireturn, 1) := by decide +kernel
theorem dX11_lived_0 : decode cX11_lived 0 = .ok (.iload_n 1, 1) := by decide +kernel
theorem dX11_lived_1 : decode cX11_lived 1 = .ok (.iconst 0, 1) := by decide +kernel
theorem dX11_lived_2 : decode cX11_lived 2 = .ok (.aload_n 0, 1) := by decide +kernel
theorem dX11_lived_3 : decode cX11_lived 3 = .ok (.getfield 94, 3) := by decide +kernel
theorem dX11_lived_6 : decode cX11_lived 6 = .ok (.arraylength, 1) := by decide +kernel
theorem dX11_lived_7 : decode cX11_lived 7 = .ok (.iconst 1, 1) := by decide +kernel
theorem dX11_lived_8 : decode cX11_lived 8 = .ok (.isub, 1) := by decide +kernel
theorem dX11_lived_9 : decode cX11_lived 9 = .ok (.invokestatic 105, 3) := by decide +kernel
theorem dX11_lived_12 : decode cX11_lived 12 = .ok (.ifCond .eq 9, 3) := by decide +kernel
theorem dX11_lived_15 : decode cX11_lived 15 = .ok (.aload_n 0, 1) := by decide +kernel
theorem dX11_lived_16 : decode cX11_lived 16 = .ok (.iconst 1, 1) := by decide +kernel
theorem dX11_lived_17 : decode cX11_lived 17 = .ok (.invokevirtual 163, 3) := by decide +kernel
theorem dX11_lived_20 : decode cX11_lived 20 = .ok (.ireturn, 1) := by decide +kernel
theorem dX11_lived_21 : decode cX11_lived 21 = .ok (.aload_n 0, 1) := by decide +kernel
theorem dX11_lived_22 : decode cX11_lived 22 = .ok (.getfield 98, 3) := by decide +kernel
theorem dX11_lived_25 : decode cX11_lived 25 = .ok (.ifCond .eq 16, 3) := by decide +kernel
theorem dX11_lived_28 : decode cX11_lived 28 = .ok (.aload_n 0, 1) := by decide +kernel
theorem dX11_lived_29 : decode cX11_lived 29 = .ok (.aload_n 0, 1) := by decide +kernel
theorem dX11_lived_30 : decode cX11_lived 30 = .ok (.getfield 94, 3) := by decide +kernel
theorem dX11_lived_33 : decode cX11_lived 33 = .ok (.iload_n 1, 1) := by decide +kernel
theorem dX11_lived_34 : decode cX11_lived 34 = .ok (.iaload, 1) := by decide +kernel
theorem dX11_lived_35 : decode cX11_lived 35 = .ok (.invokevirtual 193, 3) := by decide +kernel
theorem dX11_lived_38 : decode cX11_lived 38 = .ok (.goto 9, 3) := by decide +kernel
theorem dX11_lived_41 : decode cX11_lived 41 = .ok (.aload_n 0, 1) := by decide +kernel
theorem dX11_lived_42 : decode cX11_lived 42 = .ok (.bipush 6, 2) := by decide +kernel
theorem dX11_lived_44 : decode cX11_lived 44 = .ok (.invokevirtual 163, 3) := by decide +kernel
theorem dX11_lived_47 : decode cX11_lived 47 = .ok (.ireturn, 1) := by decide +kernel
theorem dX11_mean_0 : decode cX11_mean 0 = .ok (.iload_n 1, 1) := by decide +kernel
theorem dX11_mean_1 : decode cX11_mean 1 = .ok (.iconst 0, 1) := by decide +kernel
theorem dX11_mean_2 : decode cX11_mean 2 = .ok (.sipush 9999, 3) := by decide +kernel
theorem dX11_mean_5 : decode cX11_mean 5 = .ok (.invokestatic 105, 3) := by decide +kernel
theorem dX11_mean_8 : decode cX11_mean 8 = .ok (.ifCond .ne 24, 3) := by decide +kernel
theorem dX11_mean_11 : decode cX11_mean 11 = .ok (.iload_n 2, 1) := by decide +kernel
theorem dX11_mean_12 : decode cX11_mean 12 = .ok (.iconst 1, 1) := by decide +kernel
theorem dX11_mean_13 : decode cX11_mean 13 = .ok (.bipush 20, 2) := by decide +kernel
theorem dX11_mean_15 : decode cX11_mean 15 = .ok (.invokestatic 105, 3) := by decide +kernel
theorem dX11_mean_18 : decode cX11_mean 18 = .ok (.ifCond .ne 14, 3) := by decide +kernel
theorem dX11_mean_21 : decode cX11_mean 21 = .ok (.iload_n 1, 1) := by decide +kernel
theorem dX11_mean_22 : decode cX11_mean 22 = .ok (.iload_n 2, 1) := by decide +kernel
theorem dX11_mean_23 : decode cX11_mean 23 = .ok (.iadd, 1) := by decide +kernel
theorem dX11_mean_24 : decode cX11_mean 24 = .ok (.iconst 1, 1) := by decide +kernel
theorem dX11_mean_25 : decode cX11_mean 25 = .ok (.isub, 1) := by decide +kernel
theorem dX11_mean_26 : decode cX11_mean 26 = .ok (.sipush 9999, 3) := by decide +kernel
theorem dX11_mean_29 : decode cX11_mean 29 = .ok (.if_icmp .le 9, 3) := by decide +kernel
theorem dX11_mean_32 : decode cX11_mean 32 = .ok (.aload_n 0, 1) := by decide +kernel
theorem dX11_mean_33 : decode cX11_mean 33 = .ok (.iconst 1, 1) := by decide +kernel
theorem dX11_mean_34 : decode cX11_mean 34 = .ok (.invokevirtual 109, 3) := by decide +kernel
theorem dX11_mean_37 : decode cX11_mean 37 = .ok (.ireturn, 1) := by decide +kernel
theorem dX11_mean_38 : decode cX11_mean 38 = .ok (.aload_n 0, 1) := by decide +kernel
theorem dX11_mean_39 : decode cX11_mean 39 = .ok (.getfield 40, 3) := by decide +kernel
theorem dX11_mean_42 : decode cX11_mean 42 = .ok (.getfield 415, 3) := by decide +kernel
theorem dX11_mean_45 : decode cX11_mean 45 = .ok (.ifCond .ne 10, 3) := by decide +kernel
theorem dX11_mean_48 : decode cX11_mean 48 = .ok (.aload_n 0, 1) := by decide +kernel
theorem dX11_mean_49 : decode cX11_mean 49 = .ok (.bipush 6, 2) := by decide +kernel
theorem dX11_mean_51 : decode cX11_mean 51 = .ok (.invokevirtual 109, 3) := by decide +kernel
theorem dX11_mean_54 : decode cX11_mean 54 = .ok (.ireturn, 1) := by decide +kernel
theorem dX11_mean_55 : decode cX11_mean 55 = .ok (.aload_n 0, 1) := by decide +kernel
theorem dX11_mean_56 : decode cX11_mean 56 = .ok (.getfield 40, 3) := by decide +kernel
theorem dX11_mean_59 : decode cX11_mean 59 = .ok (.invokevirtual 432, 3) := by decide +kernel
theorem dX11_mean_62 : decode cX11_mean 62 = .ok (.ifCond .eq 7, 3) := by decide +kernel
theorem dX11_mean_65 : decode cX11_mean 65 = .ok (.iload_n 2, 1) := by decide +kernel
theorem dX11_mean_66 : decode cX11_mean 66 = .ok (.goto 4, 3) := by decide +kernel
theorem dX11_mean_69 : decode cX11_mean 69 = .ok (.iconst 1, 1) := by decide +kernel
theorem dX11_mean_70 : decode cX11_mean 70 = .ok (.istore_n 3, 1) := by decide +kernel
theorem dX11_mean_71 : decode cX11_mean 71 = .ok (.iconst 0, 1) := by decide +kernel
theorem dX11_mean_72 : decode cX11_mean 72 = .ok (.istore 4, 2) := by decide +kernel
theorem dX11_mean_74 : decode cX11_mean 74 = .ok (.iconst 0, 1) := by decide +kernel
theorem dX11_mean_75 : decode cX11_mean 75 = .ok (.istore 5, 2) := by decide +kernel
theorem dX11_mean_77 : decode cX11_mean 77 = .ok (.iload 5, 2) := by decide +kernel
theorem dX11_mean_79 : decode cX11_mean 79 = .ok (.iload_n 3, 1) := by decide +kernel
theorem dX11_mean_80 : decode cX11_mean 80 = .ok (.if_icmp .ge 54, 3) := by decide +kernel
theorem dX11_mean_83 : decode cX11_mean 83 = .ok (.aload_n 0, 1) := by decide +kernel
theorem dX11_mean_84 : decode cX11_mean 84 = .ok (.getfield 44, 3) := by decide +kernel
theorem dX11_mean_87 : decode cX11_mean 87 = .ok (.aload_n 0, 1) := by decide +kernel
theorem dX11_mean_88 : decode cX11_mean 88 = .ok (.getfield 33, 3) := by decide +kernel
theorem dX11_mean_91 : decode cX11_mean 91 = .ok (.invokevirtual 177, 3) := by decide +kernel
theorem dX11_mean_94 : decode cX11_mean 94 = .ok (.aload_n 0, 1) := by decide +kernel
theorem dX11_mean_95 : decode cX11_mean 95 = .ok (.getfield 78, 3) := by decide +kernel
theorem dX11_mean_98 : decode cX11_mean 98 = .ok (.aload_n 0, 1) := by decide +kernel
theorem dX11_mean_99 : decode cX11_mean 99 = .ok (.getfield 44, 3) := by decide +kernel
theorem dX11_mean_102 : decode cX11_mean 102 = .ok (.aload_n 0, 1) := by decide +kernel
theorem dX11_mean_103 : decode cX11_mean 103 = .ok (.getfield 40, 3) := by decide +kernel
theorem dX11_mean_106 : decode cX11_mean 106 = .ok (.iload_n 1, 1) := by decide +kernel
theorem dX11_mean_107 : decode cX11_mean 107 = .ok (.iload 5, 2) := by decide +kernel
theorem dX11_mean_109 : decode cX11_mean 109 = .ok (.iadd, 1) := by decide +kernel
theorem dX11_mean_110 : decode cX11_mean 110 = .ok (.invokevirtual 421, 3) := by decide +kernel
theorem dX11_mean_113 : decode cX11_mean 113 = .ok (.iload 4, 2) := by decide +kernel
theorem dX11_mean_115 : decode cX11_mean 115 = .ok (.aload_n 0, 1) := by decide +kernel
theorem dX11_mean_116 : decode cX11_mean 116 = .ok (.getfield 44, 3) := by decide +kernel
theorem dX11_mean_119 : decode cX11_mean 119 = .ok (.getfield 184, 3) := by decide +kernel
theorem dX11_mean_122 : decode cX11_mean 122 = .ok (.invokevirtual 418, 3) := by decide +kernel
theorem dX11_mean_125 : decode cX11_mean 125 = .ok (.iadd, 1) := by decide +kernel
theorem dX11_mean_126 : decode cX11_mean 126 = .ok (.istore 4, 2) := by decide +kernel
theorem dX11_mean_128 : decode cX11_mean 128 = .ok (.iinc 5 1, 3) := by decide +kernel
theorem dX11_mean_131 : decode cX11_mean 131 = .ok (.goto (-54), 3) := by decide +kernel
theorem dX11_mean_134 : decode cX11_mean 134 = .ok (.aload_n 0, 1) := by decide +kernel
theorem dX11_mean_135 : decode cX11_mean 135 = .ok (.iload 4, 2) := by decide +kernel
theorem dX11_mean_137 : decode cX11_mean 137 = .ok (.i2l, 1) := by decide +kernel
theorem dX11_mean_138 : decode cX11_mean 138 = .ok (.iload_n 3, 1) := by decide +kernel
theorem dX11_mean_139 : decode cX11_mean 139 = .ok (.i2l, 1) := by decide +kernel
theorem dX11_mean_140 : decode cX11_mean 140 = .ok (.invokevirtual 398, 3) := by decide +kernel
theorem dX11_mean_143 : decode cX11_mean 143 = .ok (.ireturn, 1) := by decide +kernel
theorem dX11_mark_0 : decode cX11_mark 0 = .ok (.aload_n 0, 1) := by decide +kernel
theorem dX11_mark_1 : decode cX11_mark 1 = .ok (.getfield 82, 3) := by decide +kernel
theorem dX11_mark_4 : decode cX11_mark 4 = .ok (.iconst 3, 1) := by decide +kernel
theorem dX11_mark_5 : decode cX11_mark 5 = .ok (.if_icmp .lt 9, 3) := by decide +kernel
theorem dX11_mark_8 : decode cX11_mark 8 = .ok (.aload_n 0, 1) := by decide +kernel
theorem dX11_mark_9 : decode cX11_mark 9 = .ok (.iconst 4, 1) := by decide +kernel
theorem dX11_mark_10 : decode cX11_mark 10 = .ok (.invokevirtual 163, 3) := by decide +kernel
theorem dX11_mark_13 : decode cX11_mark 13 = .ok (.ireturn, 1) := by decide +kernel
theorem dX11_mark_14 : decode cX11_mark 14 = .ok (.aload_n 0, 1) := by decide +kernel
theorem dX11_mark_15 : decode cX11_mark 15 = .ok (.getfield 86, 3) := by decide +kernel
theorem dX11_mark_18 : decode cX11_mark 18 = .ok (.aload_n 0, 1) := by decide +kernel
theorem dX11_mark_19 : decode cX11_mark 19 = .ok (.getfield 82, 3) := by decide +kernel
theorem dX11_mark_22 : decode cX11_mark 22 = .ok (.aaload, 1) := by decide +kernel
theorem dX11_mark_23 : decode cX11_mark 23 = .ok (.aload_n 0, 1) := by decide +kernel
theorem dX11_mark_24 : decode cX11_mark 24 = .ok (.getfield 33, 3) := by decide +kernel
theorem dX11_mark_27 : decode cX11_mark 27 = .ok (.invokevirtual 177, 3) := by decide +kernel
theorem dX11_mark_30 : decode cX11_mark 30 = .ok (.aload_n 0, 1) := by decide +kernel
theorem dX11_mark_31 : decode cX11_mark 31 = .ok (.getfield 90, 3) := by decide +kernel
theorem dX11_mark_34 : decode cX11_mark 34 = .ok (.aload_n 0, 1) := by decide +kernel
theorem dX11_mark_35 : decode cX11_mark 35 = .ok (.getfield 82, 3) := by decide +kernel
theorem dX11_mark_38 : decode cX11_mark 38 = .ok (.aaload, 1) := by decide +kernel
theorem dX11_mark_39 : decode cX11_mark 39 = .ok (.aload_n 0, 1) := by decide +kernel
theorem dX11_mark_40 : decode cX11_mark 40 = .ok (.getfield 40, 3) := by decide +kernel
theorem dX11_mark_43 : decode cX11_mark 43 = .ok (.invokevirtual 205, 3) := by decide +kernel
theorem dX11_mark_46 : decode cX11_mark 46 = .ok (.aload_n 0, 1) := by decide +kernel
theorem dX11_mark_47 : decode cX11_mark 47 = .ok (.dup, 1) := by decide +kernel
theorem dX11_mark_48 : decode cX11_mark 48 = .ok (.getfield 82, 3) := by decide +kernel
theorem dX11_mark_51 : decode cX11_mark 51 = .ok (.iconst 1, 1) := by decide +kernel
theorem dX11_mark_52 : decode cX11_mark 52 = .ok (.iadd, 1) := by decide +kernel
theorem dX11_mark_53 : decode cX11_mark 53 = .ok (.putfield 82, 3) := by decide +kernel
theorem dX11_mark_56 : decode cX11_mark 56 = .ok (.aload_n 0, 1) := by decide +kernel
theorem dX11_mark_57 : decode cX11_mark 57 = .ok (.aload_n 0, 1) := by decide +kernel
theorem dX11_mark_58 : decode cX11_mark 58 = .ok (.getfield 82, 3) := by decide +kernel
theorem dX11_mark_61 : decode cX11_mark 61 = .ok (.invokevirtual 193, 3) := by decide +kernel
theorem dX11_mark_64 : decode cX11_mark 64 = .ok (.ireturn, 1) := by decide +kernel
theorem dX11_undo_0 : decode cX11_undo 0 = .ok (.aload_n 0, 1) := by decide +kernel
theorem dX11_undo_1 : decode cX11_undo 1 = .ok (.getfield 82, 3) := by decide +kernel
theorem dX11_undo_4 : decode cX11_undo 4 = .ok (.ifCond .gt 10, 3) := by decide +kernel
theorem dX11_undo_7 : decode cX11_undo 7 = .ok (.aload_n 0, 1) := by decide +kernel
theorem dX11_undo_8 : decode cX11_undo 8 = .ok (.bipush 6, 2) := by decide +kernel
theorem dX11_undo_10 : decode cX11_undo 10 = .ok (.invokevirtual 163, 3) := by decide +kernel
theorem dX11_undo_13 : decode cX11_undo 13 = .ok (.ireturn, 1) := by decide +kernel
theorem dX11_undo_14 : decode cX11_undo 14 = .ok (.aload_n 0, 1) := by decide +kernel
theorem dX11_undo_15 : decode cX11_undo 15 = .ok (.dup, 1) := by decide +kernel
theorem dX11_undo_16 : decode cX11_undo 16 = .ok (.getfield 82, 3) := by decide +kernel
theorem dX11_undo_19 : decode cX11_undo 19 = .ok (.iconst 1, 1) := by decide +kernel
theorem dX11_undo_20 : decode cX11_undo 20 = .ok (.isub, 1) := by decide +kernel
theorem dX11_undo_21 : decode cX11_undo 21 = .ok (.putfield 82, 3) := by decide +kernel
theorem dX11_undo_24 : decode cX11_undo 24 = .ok (.aload_n 0, 1) := by decide +kernel
theorem dX11_undo_25 : decode cX11_undo 25 = .ok (.getfield 33, 3) := by decide +kernel
theorem dX11_undo_28 : decode cX11_undo 28 = .ok (.aload_n 0, 1) := by decide +kernel
theorem dX11_undo_29 : decode cX11_undo 29 = .ok (.getfield 86, 3) := by decide +kernel
theorem dX11_undo_32 : decode cX11_undo 32 = .ok (.aload_n 0, 1) := by decide +kernel
theorem dX11_undo_33 : decode cX11_undo 33 = .ok (.getfield 82, 3) := by decide +kernel
theorem dX11_undo_36 : decode cX11_undo 36 = .ok (.aaload, 1) := by decide +kernel
theorem dX11_undo_37 : decode cX11_undo 37 = .ok (.invokevirtual 177, 3) := by decide +kernel
theorem dX11_undo_40 : decode cX11_undo 40 = .ok (.aload_n 0, 1) := by decide +kernel
theorem dX11_undo_41 : decode cX11_undo 41 = .ok (.getfield 40, 3) := by decide +kernel
theorem dX11_undo_44 : decode cX11_undo 44 = .ok (.aload_n 0, 1) := by decide +kernel
theorem dX11_undo_45 : decode cX11_undo 45 = .ok (.getfield 90, 3) := by decide +kernel
theorem dX11_undo_48 : decode cX11_undo 48 = .ok (.aload_n 0, 1) := by decide +kernel
theorem dX11_undo_49 : decode cX11_undo 49 = .ok (.getfield 82, 3) := by decide +kernel
theorem dX11_undo_52 : decode cX11_undo 52 = .ok (.aaload, 1) := by decide +kernel
theorem dX11_undo_53 : decode cX11_undo 53 = .ok (.invokevirtual 205, 3) := by decide +kernel
theorem dX11_undo_56 : decode cX11_undo 56 = .ok (.aload_n 0, 1) := by decide +kernel
theorem dX11_undo_57 : decode cX11_undo 57 = .ok (.aload_n 0, 1) := by decide +kernel
theorem dX11_undo_58 : decode cX11_undo 58 = .ok (.getfield 82, 3) := by decide +kernel
theorem dX11_undo_61 : decode cX11_undo 61 = .ok (.invokevirtual 193, 3) := by decide +kernel
theorem dX11_undo_64 : decode cX11_undo 64 = .ok (.ireturn, 1) := by decide +kernel
theorem dX11_given_0 : decode cX11_given 0 = .ok (.aload_n 0, 1) := by decide +kernel
theorem dX11_given_1 : decode cX11_given 1 = .ok (.iconst 0, 1) := by decide +kernel
theorem dX11_given_2 : decode cX11_given 2 = .ok (.putfield 102, 3) := by decide +kernel
theorem dX11_given_5 : decode cX11_given 5 = .ok (.iload_n 1, 1) := by decide +kernel
theorem dX11_given_6 : decode cX11_given 6 = .ok (.ireturn, 1) := by decide +kernel
theorem dX11_givenOrNone_0 : decode cX11_givenOrNone 0 = .ok (.iload_n 1, 1) := by decide +kernel
theorem dX11_givenOrNone_1 : decode cX11_givenOrNone 1 = .ok (.iconst (-1), 1) := by decide +kernel
theorem dX11_givenOrNone_2 : decode cX11_givenOrNone 2 = .ok (.if_icmp .ne 12, 3) := by decide +kernel
theorem dX11_givenOrNone_5 : decode cX11_givenOrNone 5 = .ok (.aload_n 0, 1) := by decide +kernel
theorem dX11_givenOrNone_6 : decode cX11_givenOrNone 6 = .ok (.bipush 6, 2) := by decide +kernel
theorem dX11_givenOrNone_8 : decode cX11_givenOrNone 8 = .ok (.invokevirtual 163, 3) := by decide +kernel
theorem dX11_givenOrNone_11 : decode cX11_givenOrNone 11 = .ok (.goto 8, 3) := by decide +kernel
theorem dX11_givenOrNone_14 : decode cX11_givenOrNone 14 = .ok (.aload_n 0, 1) := by decide +kernel
theorem dX11_givenOrNone_15 : decode cX11_givenOrNone 15 = .ok (.iload_n 1, 1) := by decide +kernel
theorem dX11_givenOrNone_16 : decode cX11_givenOrNone 16 = .ok (.invokevirtual 193, 3) := by decide +kernel
theorem dX11_givenOrNone_19 : decode cX11_givenOrNone 19 = .ok (.ireturn, 1) := by decide +kernel
theorem dX11_refused_0 : decode cX11_refused 0 = .ok (.aload_n 0, 1) := by decide +kernel
theorem dX11_refused_1 : decode cX11_refused 1 = .ok (.iload_n 1, 1) := by decide +kernel
theorem dX11_refused_2 : decode cX11_refused 2 = .ok (.putfield 102, 3) := by decide +kernel
theorem dX11_refused_5 : decode cX11_refused 5 = .ok (.iconst (-1), 1) := by decide +kernel
theorem dX11_refused_6 : decode cX11_refused 6 = .ok (.ireturn, 1) := by decide +kernel
theorem dX11_accept_0 : decode cX11_accept 0 = .ok (.aload_n 0, 1) := by decide +kernel
theorem dX11_accept_1 : decode cX11_accept 1 = .ok (.iconst 0, 1) := by decide +kernel
theorem dX11_accept_2 : decode cX11_accept 2 = .ok (.putfield 102, 3) := by decide +kernel
theorem dX11_accept_5 : decode cX11_accept 5 = .ok (.iconst 1, 1) := by decide +kernel
theorem dX11_accept_6 : decode cX11_accept 6 = .ok (.ireturn, 1) := by decide +kernel
theorem dX11_refuse_0 : decode cX11_refuse 0 = .ok (.aload_n 0, 1) := by decide +kernel
theorem dX11_refuse_1 : decode cX11_refuse 1 = .ok (.iload_n 1, 1) := by decide +kernel
theorem dX11_refuse_2 : decode cX11_refuse 2 = .ok (.putfield 102, 3) := by decide +kernel
theorem dX11_refuse_5 : decode cX11_refuse 5 = .ok (.iconst 0, 1) := by decide +kernel
theorem dX11_refuse_6 : decode cX11_refuse 6 = .ok (.ireturn, 1) := by decide +kernel
theorem dX11_outside_0 : decode cX11_outside 0 = .ok (.iload_n 0, 1) := by decide +kernel
theorem dX11_outside_1 : decode cX11_outside 1 = .ok (.iload_n 1, 1) := by decide +kernel
theorem dX11_outside_2 : decode cX11_outside 2 = .ok (.if_icmp .lt 8, 3) := by decide +kernel
theorem dX11_outside_5 : decode cX11_outside 5 = .ok (.iload_n 0, 1) := by decide +kernel
theorem dX11_outside_6 : decode cX11_outside 6 = .ok (.iload_n 2, 1) := by decide +kernel
theorem dX11_outside_7 : decode cX11_outside 7 = .ok (.if_icmp .le 7, 3) := by decide +kernel
theorem dX11_outside_10 : decode cX11_outside 10 = .ok (.iconst 1, 1) := by decide +kernel
theorem dX11_outside_11 : decode cX11_outside 11 = .ok (.goto 4, 3) := by decide +kernel
theorem dX11_outside_14 : decode cX11_outside 14 = .ok (.iconst 0, 1) := by decide +kernel
theorem dX11_outside_15 : decode cX11_outside 15 = .ok (.ireturn, 1) := by decide +kernel
theorem dX11_isThing_0 : decode cX11_isThing 0 = .ok (.iload_n 1, 1) := by decide +kernel
theorem dX11_isThing_1 : decode cX11_isThing 1 = .ok (.ifCond .lt 21, 3) := by decide +kernel
theorem dX11_isThing_4 : decode cX11_isThing 4 = .ok (.iload_n 1, 1) := by decide +kernel
theorem dX11_isThing_5 : decode cX11_isThing 5 = .ok (.aload_n 0, 1) := by decide +kernel
theorem dX11_isThing_6 : decode cX11_isThing 6 = .ok (.getfield 33, 3) := by decide +kernel
theorem dX11_isThing_9 : decode cX11_isThing 9 = .ok (.getfield 184, 3) := by decide +kernel
theorem dX11_isThing_12 : decode cX11_isThing 12 = .ok (.getfield 188, 3) := by decide +kernel
theorem dX11_isThing_15 : decode cX11_isThing 15 = .ok (.if_icmp .ge 7, 3) := by decide +kernel
theorem dX11_isThing_18 : decode cX11_isThing 18 = .ok (.iconst 1, 1) := by decide +kernel
theorem dX11_isThing_19 : decode cX11_isThing 19 = .ok (.goto 4, 3) := by decide +kernel
theorem dX11_isThing_22 : decode cX11_isThing 22 = .ok (.iconst 0, 1) := by decide +kernel
theorem dX11_isThing_23 : decode cX11_isThing 23 = .ok (.ireturn, 1) := by decide +kernel
theorem dX11_isMill_0 : decode cX11_isMill 0 = .ok (.iload_n 1, 1) := by decide +kernel
theorem dX11_isMill_1 : decode cX11_isMill 1 = .ok (.ifCond .lt 21, 3) := by decide +kernel
theorem dX11_isMill_4 : decode cX11_isMill 4 = .ok (.iload_n 1, 1) := by decide +kernel
theorem dX11_isMill_5 : decode cX11_isMill 5 = .ok (.aload_n 0, 1) := by decide +kernel
theorem dX11_isMill_6 : decode cX11_isMill 6 = .ok (.getfield 33, 3) := by decide +kernel
theorem dX11_isMill_9 : decode cX11_isMill 9 = .ok (.getfield 214, 3) := by decide +kernel
theorem dX11_isMill_12 : decode cX11_isMill 12 = .ok (.getfield 218, 3) := by decide +kernel
theorem dX11_isMill_15 : decode cX11_isMill 15 = .ok (.if_icmp .ge 7, 3) := by decide +kernel
theorem dX11_isMill_18 : decode cX11_isMill 18 = .ok (.iconst 1, 1) := by decide +kernel
theorem dX11_isMill_19 : decode cX11_isMill 19 = .ok (.goto 4, 3) := by decide +kernel
theorem dX11_isMill_22 : decode cX11_isMill 22 = .ok (.iconst 0, 1) := by decide +kernel
theorem dX11_isMill_23 : decode cX11_isMill 23 = .ok (.ireturn, 1) := by decide +kernel
theorem dX11_isCell_0 : decode cX11_isCell 0 = .ok (.iload_n 1, 1) := by decide +kernel
theorem dX11_isCell_1 : decode cX11_isCell 1 = .ok (.ifCond .lt 18, 3) := by decide +kernel
theorem dX11_isCell_4 : decode cX11_isCell 4 = .ok (.iload_n 1, 1) := by decide +kernel
theorem dX11_isCell_5 : decode cX11_isCell 5 = .ok (.aload_n 0, 1) := by decide +kernel
theorem dX11_isCell_6 : decode cX11_isCell 6 = .ok (.getfield 33, 3) := by decide +kernel
theorem dX11_isCell_9 : decode cX11_isCell 9 = .ok (.getfield 221, 3) := by decide +kernel
theorem dX11_isCell_12 : decode cX11_isCell 12 = .ok (.if_icmp .ge 7, 3) := by decide +kernel
theorem dX11_isCell_15 : decode cX11_isCell 15 = .ok (.iconst 1, 1) := by decide +kernel
theorem dX11_isCell_16 : decode cX11_isCell 16 = .ok (.goto 4, 3) := by decide +kernel
theorem dX11_isCell_19 : decode cX11_isCell 19 = .ok (.iconst 0, 1) := by decide +kernel
theorem dX11_isCell_20 : decode cX11_isCell 20 = .ok (.ireturn, 1) := by decide +kernel
theorem dX11_whyNoPlace_0 : decode cX11_whyNoPlace 0 = .ok (.aload_n 0, 1) := by decide +kernel
theorem dX11_whyNoPlace_1 : decode cX11_whyNoPlace 1 = .ok (.getfield 19, 3) := by decide +kernel
theorem dX11_whyNoPlace_4 : decode cX11_whyNoPlace 4 = .ok (.iload_n 1, 1) := by decide +kernel
theorem dX11_whyNoPlace_5 : decode cX11_whyNoPlace 5 = .ok (.invokevirtual 135, 3) := by decide +kernel
theorem dX11_whyNoPlace_8 : decode cX11_whyNoPlace 8 = .ok (.ifCond .ne 5, 3) := by decide +kernel
theorem dX11_whyNoPlace_11 : decode cX11_whyNoPlace 11 = .ok (.iconst 1, 1) := by decide +kernel
theorem dX11_whyNoPlace_12 : decode cX11_whyNoPlace 12 = .ok (.ireturn, 1) := by decide +kernel
theorem dX11_whyNoPlace_13 : decode cX11_whyNoPlace 13 = .ok (.aload_n 0, 1) := by decide +kernel
theorem dX11_whyNoPlace_14 : decode cX11_whyNoPlace 14 = .ok (.getfield 19, 3) := by decide +kernel
theorem dX11_whyNoPlace_17 : decode cX11_whyNoPlace 17 = .ok (.iload_n 1, 1) := by decide +kernel
theorem dX11_whyNoPlace_18 : decode cX11_whyNoPlace 18 = .ok (.invokevirtual 138, 3) := by decide +kernel
theorem dX11_whyNoPlace_21 : decode cX11_whyNoPlace 21 = .ok (.ifCond .eq 5, 3) := by decide +kernel
theorem dX11_whyNoPlace_24 : decode cX11_whyNoPlace 24 = .ok (.iconst 2, 1) := by decide +kernel
theorem dX11_whyNoPlace_25 : decode cX11_whyNoPlace 25 = .ok (.ireturn, 1) := by decide +kernel
theorem dX11_whyNoPlace_26 : decode cX11_whyNoPlace 26 = .ok (.iload_n 2, 1) := by decide +kernel
theorem dX11_whyNoPlace_27 : decode cX11_whyNoPlace 27 = .ok (.ifCond .lt 16, 3) := by decide +kernel
theorem dX11_whyNoPlace_30 : decode cX11_whyNoPlace 30 = .ok (.iload_n 2, 1) := by decide +kernel
theorem dX11_whyNoPlace_31 : decode cX11_whyNoPlace 31 = .ok (.aload_n 0, 1) := by decide +kernel
theorem dX11_whyNoPlace_32 : decode cX11_whyNoPlace 32 = .ok (.getfield 19, 3) := by decide +kernel
theorem dX11_whyNoPlace_35 : decode cX11_whyNoPlace 35 = .ok (.getfield 144, 3) := by decide +kernel
theorem dX11_whyNoPlace_38 : decode cX11_whyNoPlace 38 = .ok (.iload_n 1, 1) := by decide +kernel
theorem dX11_whyNoPlace_39 : decode cX11_whyNoPlace 39 = .ok (.iaload, 1) := by decide +kernel
theorem dX11_whyNoPlace_40 : decode cX11_whyNoPlace 40 = .ok (.if_icmp .lt 7, 3) := by decide +kernel
theorem dX11_whyNoPlace_43 : decode cX11_whyNoPlace 43 = .ok (.iconst 3, 1) := by decide +kernel
theorem dX11_whyNoPlace_44 : decode cX11_whyNoPlace 44 = .ok (.goto 4, 3) := by decide +kernel
theorem dX11_whyNoPlace_47 : decode cX11_whyNoPlace 47 = .ok (.iconst 0, 1) := by decide +kernel
theorem dX11_whyNoPlace_48 : decode cX11_whyNoPlace 48 = .ok (.ireturn, 1) := by decide +kernel
theorem dX11_whyTooFew_0 : decode cX11_whyTooFew 0 = .ok (.aload_n 0, 1) := by decide +kernel
theorem dX11_whyTooFew_1 : decode cX11_whyTooFew 1 = .ok (.getfield 19, 3) := by decide +kernel
theorem dX11_whyTooFew_4 : decode cX11_whyTooFew 4 = .ok (.iload_n 1, 1) := by decide +kernel
theorem dX11_whyTooFew_5 : decode cX11_whyTooFew 5 = .ok (.invokevirtual 135, 3) := by decide +kernel
theorem dX11_whyTooFew_8 : decode cX11_whyTooFew 8 = .ok (.ifCond .ne 5, 3) := by decide +kernel
theorem dX11_whyTooFew_11 : decode cX11_whyTooFew 11 = .ok (.iconst 1, 1) := by decide +kernel
theorem dX11_whyTooFew_12 : decode cX11_whyTooFew 12 = .ok (.ireturn, 1) := by decide +kernel
theorem dX11_whyTooFew_13 : decode cX11_whyTooFew 13 = .ok (.aload_n 0, 1) := by decide +kernel
theorem dX11_whyTooFew_14 : decode cX11_whyTooFew 14 = .ok (.getfield 19, 3) := by decide +kernel
theorem dX11_whyTooFew_17 : decode cX11_whyTooFew 17 = .ok (.iload_n 1, 1) := by decide +kernel
theorem dX11_whyTooFew_18 : decode cX11_whyTooFew 18 = .ok (.invokevirtual 138, 3) := by decide +kernel
theorem dX11_whyTooFew_21 : decode cX11_whyTooFew 21 = .ok (.ifCond .eq 5, 3) := by decide +kernel
theorem dX11_whyTooFew_24 : decode cX11_whyTooFew 24 = .ok (.iconst 2, 1) := by decide +kernel
theorem dX11_whyTooFew_25 : decode cX11_whyTooFew 25 = .ok (.ireturn, 1) := by decide +kernel
theorem dX11_whyTooFew_26 : decode cX11_whyTooFew 26 = .ok (.aload_n 0, 1) := by decide +kernel
theorem dX11_whyTooFew_27 : decode cX11_whyTooFew 27 = .ok (.getfield 19, 3) := by decide +kernel
theorem dX11_whyTooFew_30 : decode cX11_whyTooFew 30 = .ok (.getfield 144, 3) := by decide +kernel
theorem dX11_whyTooFew_33 : decode cX11_whyTooFew 33 = .ok (.iload_n 1, 1) := by decide +kernel
theorem dX11_whyTooFew_34 : decode cX11_whyTooFew 34 = .ok (.iaload, 1) := by decide +kernel
theorem dX11_whyTooFew_35 : decode cX11_whyTooFew 35 = .ok (.iload_n 2, 1) := by decide +kernel
theorem dX11_whyTooFew_36 : decode cX11_whyTooFew 36 = .ok (.if_icmp .ge 7, 3) := by decide +kernel
theorem dX11_whyTooFew_39 : decode cX11_whyTooFew 39 = .ok (.iconst 3, 1) := by decide +kernel
theorem dX11_whyTooFew_40 : decode cX11_whyTooFew 40 = .ok (.goto 4, 3) := by decide +kernel
theorem dX11_whyTooFew_43 : decode cX11_whyTooFew 43 = .ok (.iconst 0, 1) := by decide +kernel
theorem dX11_whyTooFew_44 : decode cX11_whyTooFew 44 = .ok (.ireturn, 1) := by decide +kernel
theorem dX11_whyNotSoonest_0 : decode cX11_whyNotSoonest 0 = .ok (.aload_n 0, 1) := by decide +kernel
theorem dX11_whyNotSoonest_1 : decode cX11_whyNotSoonest 1 = .ok (.iload_n 1, 1) := by decide +kernel
theorem dX11_whyNotSoonest_2 : decode cX11_whyNotSoonest 2 = .ok (.invokevirtual 252, 3) := by decide +kernel
theorem dX11_whyNotSoonest_5 : decode cX11_whyNotSoonest 5 = .ok (.ifCond .ne 5, 3) := by decide +kernel
theorem dX11_whyNotSoonest_8 : decode cX11_whyNotSoonest 8 = .ok (.iconst 1, 1) := by decide +kernel
theorem dX11_whyNotSoonest_9 : decode cX11_whyNotSoonest 9 = .ok (.ireturn, 1) := by decide +kernel
theorem dX11_whyNotSoonest_10 : decode cX11_whyNotSoonest 10 = .ok (.aload_n 0, 1) := by decide +kernel
theorem dX11_whyNotSoonest_11 : decode cX11_whyNotSoonest 11 = .ok (.getfield 33, 3) := by decide +kernel
theorem dX11_whyNotSoonest_14 : decode cX11_whyNotSoonest 14 = .ok (.getfield 184, 3) := by decide +kernel
theorem dX11_whyNotSoonest_17 : decode cX11_whyNotSoonest 17 = .ok (.iload_n 1, 1) := by decide +kernel
theorem dX11_whyNotSoonest_18 : decode cX11_whyNotSoonest 18 = .ok (.invokevirtual 273, 3) := by decide +kernel
theorem dX11_whyNotSoonest_21 : decode cX11_whyNotSoonest 21 = .ok (.ifCond .ne 6, 3) := by decide +kernel
theorem dX11_whyNotSoonest_24 : decode cX11_whyNotSoonest 24 = .ok (.bipush 7, 2) := by decide +kernel
theorem dX11_whyNotSoonest_26 : decode cX11_whyNotSoonest 26 = .ok (.ireturn, 1) := by decide +kernel
theorem dX11_whyNotSoonest_27 : decode cX11_whyNotSoonest 27 = .ok (.aload_n 0, 1) := by decide +kernel
theorem dX11_whyNotSoonest_28 : decode cX11_whyNotSoonest 28 = .ok (.getfield 64, 3) := by decide +kernel
theorem dX11_whyNotSoonest_31 : decode cX11_whyNotSoonest 31 = .ok (.aload_n 0, 1) := by decide +kernel
theorem dX11_whyNotSoonest_32 : decode cX11_whyNotSoonest 32 = .ok (.getfield 33, 3) := by decide +kernel
theorem dX11_whyNotSoonest_35 : decode cX11_whyNotSoonest 35 = .ok (.aload_n 0, 1) := by decide +kernel
theorem dX11_whyNotSoonest_36 : decode cX11_whyNotSoonest 36 = .ok (.getfield 44, 3) := by decide +kernel
theorem dX11_whyNotSoonest_39 : decode cX11_whyNotSoonest 39 = .ok (.iload_n 1, 1) := by decide +kernel
theorem dX11_whyNotSoonest_40 : decode cX11_whyNotSoonest 40 = .ok (.invokevirtual 435, 3) := by decide +kernel
theorem dX11_whyNotSoonest_43 : decode cX11_whyNotSoonest 43 = .ok (.aload_n 0, 1) := by decide +kernel
theorem dX11_whyNotSoonest_44 : decode cX11_whyNotSoonest 44 = .ok (.getfield 64, 3) := by decide +kernel
theorem dX11_whyNotSoonest_47 : decode cX11_whyNotSoonest 47 = .ok (.getfield 345, 3) := by decide +kernel
theorem dX11_whyNotSoonest_50 : decode cX11_whyNotSoonest 50 = .ok (.iconst (-1), 1) := by decide +kernel
theorem dX11_whyNotSoonest_51 : decode cX11_whyNotSoonest 51 = .ok (.if_icmp .ne 8, 3) := by decide +kernel
theorem dX11_whyNotSoonest_54 : decode cX11_whyNotSoonest 54 = .ok (.bipush 6, 2) := by decide +kernel
theorem dX11_whyNotSoonest_56 : decode cX11_whyNotSoonest 56 = .ok (.goto 4, 3) := by decide +kernel
theorem dX11_whyNotSoonest_59 : decode cX11_whyNotSoonest 59 = .ok (.iconst 0, 1) := by decide +kernel
theorem dX11_whyNotSoonest_60 : decode cX11_whyNotSoonest 60 = .ok (.ireturn, 1) := by decide +kernel
theorem dX11_whyNotDriven_0 : decode cX11_whyNotDriven 0 = .ok (.aload_n 0, 1) := by decide +kernel
theorem dX11_whyNotDriven_1 : decode cX11_whyNotDriven 1 = .ok (.iload_n 1, 1) := by decide +kernel
theorem dX11_whyNotDriven_2 : decode cX11_whyNotDriven 2 = .ok (.invokevirtual 282, 3) := by decide +kernel
theorem dX11_whyNotDriven_5 : decode cX11_whyNotDriven 5 = .ok (.ifCond .eq 35, 3) := by decide +kernel
theorem dX11_whyNotDriven_8 : decode cX11_whyNotDriven 8 = .ok (.aload_n 0, 1) := by decide +kernel
theorem dX11_whyNotDriven_9 : decode cX11_whyNotDriven 9 = .ok (.iload_n 2, 1) := by decide +kernel
theorem dX11_whyNotDriven_10 : decode cX11_whyNotDriven 10 = .ok (.invokevirtual 252, 3) := by decide +kernel
theorem dX11_whyNotDriven_13 : decode cX11_whyNotDriven 13 = .ok (.ifCond .eq 27, 3) := by decide +kernel
theorem dX11_whyNotDriven_16 : decode cX11_whyNotDriven 16 = .ok (.aload_n 0, 1) := by decide +kernel
theorem dX11_whyNotDriven_17 : decode cX11_whyNotDriven 17 = .ok (.iload_n 3, 1) := by decide +kernel
theorem dX11_whyNotDriven_18 : decode cX11_whyNotDriven 18 = .ok (.invokevirtual 252, 3) := by decide +kernel
theorem dX11_whyNotDriven_21 : decode cX11_whyNotDriven 21 = .ok (.ifCond .eq 19, 3) := by decide +kernel
theorem dX11_whyNotDriven_24 : decode cX11_whyNotDriven 24 = .ok (.iload_n 2, 1) := by decide +kernel
theorem dX11_whyNotDriven_25 : decode cX11_whyNotDriven 25 = .ok (.iload_n 3, 1) := by decide +kernel
theorem dX11_whyNotDriven_26 : decode cX11_whyNotDriven 26 = .ok (.if_icmp .eq 14, 3) := by decide +kernel
theorem dX11_whyNotDriven_29 : decode cX11_whyNotDriven 29 = .ok (.iload 4, 2) := by decide +kernel
theorem dX11_whyNotDriven_31 : decode cX11_whyNotDriven 31 = .ok (.iconst 0, 1) := by decide +kernel
theorem dX11_whyNotDriven_32 : decode cX11_whyNotDriven 32 = .ok (.bipush 48, 2) := by decide +kernel
theorem dX11_whyNotDriven_34 : decode cX11_whyNotDriven 34 = .ok (.invokestatic 105, 3) := by decide +kernel
theorem dX11_whyNotDriven_37 : decode cX11_whyNotDriven 37 = .ok (.ifCond .eq 5, 3) := by decide +kernel
theorem dX11_whyNotDriven_40 : decode cX11_whyNotDriven 40 = .ok (.iconst 1, 1) := by decide +kernel
theorem dX11_whyNotDriven_41 : decode cX11_whyNotDriven 41 = .ok (.ireturn, 1) := by decide +kernel
theorem dX11_whyNotDriven_42 : decode cX11_whyNotDriven 42 = .ok (.aload_n 0, 1) := by decide +kernel
theorem dX11_whyNotDriven_43 : decode cX11_whyNotDriven 43 = .ok (.getfield 33, 3) := by decide +kernel
theorem dX11_whyNotDriven_46 : decode cX11_whyNotDriven 46 = .ok (.getfield 184, 3) := by decide +kernel
theorem dX11_whyNotDriven_49 : decode cX11_whyNotDriven 49 = .ok (.iload_n 2, 1) := by decide +kernel
theorem dX11_whyNotDriven_50 : decode cX11_whyNotDriven 50 = .ok (.invokevirtual 273, 3) := by decide +kernel
theorem dX11_whyNotDriven_53 : decode cX11_whyNotDriven 53 = .ok (.ifCond .eq 17, 3) := by decide +kernel
theorem dX11_whyNotDriven_56 : decode cX11_whyNotDriven 56 = .ok (.aload_n 0, 1) := by decide +kernel
theorem dX11_whyNotDriven_57 : decode cX11_whyNotDriven 57 = .ok (.getfield 33, 3) := by decide +kernel
theorem dX11_whyNotDriven_60 : decode cX11_whyNotDriven 60 = .ok (.getfield 184, 3) := by decide +kernel
theorem dX11_whyNotDriven_63 : decode cX11_whyNotDriven 63 = .ok (.iload_n 3, 1) := by decide +kernel
theorem dX11_whyNotDriven_64 : decode cX11_whyNotDriven 64 = .ok (.invokevirtual 273, 3) := by decide +kernel
theorem dX11_whyNotDriven_67 : decode cX11_whyNotDriven 67 = .ok (.ifCond .ne 6, 3) := by decide +kernel
theorem dX11_whyNotDriven_70 : decode cX11_whyNotDriven 70 = .ok (.bipush 7, 2) := by decide +kernel
theorem dX11_whyNotDriven_72 : decode cX11_whyNotDriven 72 = .ok (.ireturn, 1) := by decide +kernel
theorem dX11_whyNotDriven_73 : decode cX11_whyNotDriven 73 = .ok (.aload_n 0, 1) := by decide +kernel
theorem dX11_whyNotDriven_74 : decode cX11_whyNotDriven 74 = .ok (.getfield 64, 3) := by decide +kernel
theorem dX11_whyNotDriven_77 : decode cX11_whyNotDriven 77 = .ok (.aload_n 0, 1) := by decide +kernel
theorem dX11_whyNotDriven_78 : decode cX11_whyNotDriven 78 = .ok (.getfield 33, 3) := by decide +kernel
theorem dX11_whyNotDriven_81 : decode cX11_whyNotDriven 81 = .ok (.aload_n 0, 1) := by decide +kernel
theorem dX11_whyNotDriven_82 : decode cX11_whyNotDriven 82 = .ok (.getfield 44, 3) := by decide +kernel
theorem dX11_whyNotDriven_85 : decode cX11_whyNotDriven 85 = .ok (.iload_n 1, 1) := by decide +kernel
theorem dX11_whyNotDriven_86 : decode cX11_whyNotDriven 86 = .ok (.iload_n 2, 1) := by decide +kernel
theorem dX11_whyNotDriven_87 : decode cX11_whyNotDriven 87 = .ok (.iload_n 3, 1) := by decide +kernel
theorem dX11_whyNotDriven_88 : decode cX11_whyNotDriven 88 = .ok (.iload 4, 2) := by decide +kernel
theorem dX11_whyNotDriven_90 : decode cX11_whyNotDriven 90 = .ok (.invokevirtual 439, 3) := by decide +kernel
theorem dX11_whyNotDriven_93 : decode cX11_whyNotDriven 93 = .ok (.iconst 0, 1) := by decide +kernel
theorem dX11_whyNotDriven_94 : decode cX11_whyNotDriven 94 = .ok (.ireturn, 1) := by decide +kernel
theorem dX11_whyNotMinded_0 : decode cX11_whyNotMinded 0 = .ok (.aload_n 0, 1) := by decide +kernel
theorem dX11_whyNotMinded_1 : decode cX11_whyNotMinded 1 = .ok (.iload_n 1, 1) := by decide +kernel
theorem dX11_whyNotMinded_2 : decode cX11_whyNotMinded 2 = .ok (.invokevirtual 252, 3) := by decide +kernel
theorem dX11_whyNotMinded_5 : decode cX11_whyNotMinded 5 = .ok (.ifCond .eq 13, 3) := by decide +kernel
theorem dX11_whyNotMinded_8 : decode cX11_whyNotMinded 8 = .ok (.iload_n 3, 1) := by decide +kernel
theorem dX11_whyNotMinded_9 : decode cX11_whyNotMinded 9 = .ok (.iconst 0, 1) := by decide +kernel
theorem dX11_whyNotMinded_10 : decode cX11_whyNotMinded 10 = .ok (.bipush 20, 2) := by decide +kernel
theorem dX11_whyNotMinded_12 : decode cX11_whyNotMinded 12 = .ok (.invokestatic 105, 3) := by decide +kernel
theorem dX11_whyNotMinded_15 : decode cX11_whyNotMinded 15 = .ok (.ifCond .eq 5, 3) := by decide +kernel
theorem dX11_whyNotMinded_18 : decode cX11_whyNotMinded 18 = .ok (.iconst 1, 1) := by decide +kernel
theorem dX11_whyNotMinded_19 : decode cX11_whyNotMinded 19 = .ok (.ireturn, 1) := by decide +kernel
theorem dX11_whyNotMinded_20 : decode cX11_whyNotMinded 20 = .ok (.aload_n 0, 1) := by decide +kernel
theorem dX11_whyNotMinded_21 : decode cX11_whyNotMinded 21 = .ok (.iload_n 2, 1) := by decide +kernel
theorem dX11_whyNotMinded_22 : decode cX11_whyNotMinded 22 = .ok (.iconst 2, 1) := by decide +kernel
theorem dX11_whyNotMinded_23 : decode cX11_whyNotMinded 23 = .ok (.iload_n 3, 1) := by decide +kernel
theorem dX11_whyNotMinded_24 : decode cX11_whyNotMinded 24 = .ok (.imul, 1) := by decide +kernel
theorem dX11_whyNotMinded_25 : decode cX11_whyNotMinded 25 = .ok (.invokevirtual 412, 3) := by decide +kernel
theorem dX11_whyNotMinded_28 : decode cX11_whyNotMinded 28 = .ok (.istore 4, 2) := by decide +kernel
theorem dX11_whyNotMinded_30 : decode cX11_whyNotMinded 30 = .ok (.iload 4, 2) := by decide +kernel
theorem dX11_whyNotMinded_32 : decode cX11_whyNotMinded 32 = .ok (.ifCond .eq 6, 3) := by decide +kernel
theorem dX11_whyNotMinded_35 : decode cX11_whyNotMinded 35 = .ok (.iload 4, 2) := by decide +kernel
theorem dX11_whyNotMinded_37 : decode cX11_whyNotMinded 37 = .ok (.ireturn, 1) := by decide +kernel
theorem dX11_whyNotMinded_38 : decode cX11_whyNotMinded 38 = .ok (.aload_n 0, 1) := by decide +kernel
theorem dX11_whyNotMinded_39 : decode cX11_whyNotMinded 39 = .ok (.getfield 19, 3) := by decide +kernel
theorem dX11_whyNotMinded_42 : decode cX11_whyNotMinded 42 = .ok (.getfield 129, 3) := by decide +kernel
theorem dX11_whyNotMinded_45 : decode cX11_whyNotMinded 45 = .ok (.iload_n 2, 1) := by decide +kernel
theorem dX11_whyNotMinded_46 : decode cX11_whyNotMinded 46 = .ok (.aaload, 1) := by decide +kernel
theorem dX11_whyNotMinded_47 : decode cX11_whyNotMinded 47 = .ok (.iload_n 3, 1) := by decide +kernel
theorem dX11_whyNotMinded_48 : decode cX11_whyNotMinded 48 = .ok (.invokestatic 443, 3) := by decide +kernel
theorem dX11_whyNotMinded_51 : decode cX11_whyNotMinded 51 = .ok (.ifCond .ne 5, 3) := by decide +kernel
theorem dX11_whyNotMinded_54 : decode cX11_whyNotMinded 54 = .ok (.iconst 5, 1) := by decide +kernel
theorem dX11_whyNotMinded_55 : decode cX11_whyNotMinded 55 = .ok (.ireturn, 1) := by decide +kernel
theorem dX11_whyNotMinded_56 : decode cX11_whyNotMinded 56 = .ok (.aload_n 0, 1) := by decide +kernel
theorem dX11_whyNotMinded_57 : decode cX11_whyNotMinded 57 = .ok (.getfield 64, 3) := by decide +kernel
theorem dX11_whyNotMinded_60 : decode cX11_whyNotMinded 60 = .ok (.aload_n 0, 1) := by decide +kernel
theorem dX11_whyNotMinded_61 : decode cX11_whyNotMinded 61 = .ok (.getfield 33, 3) := by decide +kernel
theorem dX11_whyNotMinded_64 : decode cX11_whyNotMinded 64 = .ok (.aload_n 0, 1) := by decide +kernel
theorem dX11_whyNotMinded_65 : decode cX11_whyNotMinded 65 = .ok (.getfield 44, 3) := by decide +kernel
theorem dX11_whyNotMinded_68 : decode cX11_whyNotMinded 68 = .ok (.iload_n 1, 1) := by decide +kernel
theorem dX11_whyNotMinded_69 : decode cX11_whyNotMinded 69 = .ok (.aload_n 0, 1) := by decide +kernel
theorem dX11_whyNotMinded_70 : decode cX11_whyNotMinded 70 = .ok (.getfield 19, 3) := by decide +kernel
theorem dX11_whyNotMinded_73 : decode cX11_whyNotMinded 73 = .ok (.getfield 129, 3) := by decide +kernel
theorem dX11_whyNotMinded_76 : decode cX11_whyNotMinded 76 = .ok (.iload_n 2, 1) := by decide +kernel
theorem dX11_whyNotMinded_77 : decode cX11_whyNotMinded 77 = .ok (.aaload, 1) := by decide +kernel
theorem dX11_whyNotMinded_78 : decode cX11_whyNotMinded 78 = .ok (.iload_n 3, 1) := by decide +kernel
theorem dX11_whyNotMinded_79 : decode cX11_whyNotMinded 79 = .ok (.invokevirtual 447, 3) := by decide +kernel
theorem dX11_whyNotMinded_82 : decode cX11_whyNotMinded 82 = .ok (.iconst 0, 1) := by decide +kernel
theorem dX11_whyNotMinded_83 : decode cX11_whyNotMinded 83 = .ok (.ireturn, 1) := by decide +kernel
theorem dX11_tellFraction_0 : decode cX11_tellFraction 0 = .ok (.lload_n 1, 1) := by decide +kernel
theorem dX11_tellFraction_1 : decode cX11_tellFraction 1 = .ok (.lload_n 3, 1) := by decide +kernel
theorem dX11_tellFraction_2 : decode cX11_tellFraction 2 = .ok (.invokestatic 451, 3) := by decide +kernel
theorem dX11_tellFraction_5 : decode cX11_tellFraction 5 = .ok (.lstore 5, 2) := by decide +kernel
theorem dX11_tellFraction_7 : decode cX11_tellFraction 7 = .ok (.lload 5, 2) := by decide +kernel
theorem dX11_tellFraction_9 : decode cX11_tellFraction 9 = .ok (.lconst 0, 1) := by decide +kernel
theorem dX11_tellFraction_10 : decode cX11_tellFraction 10 = .ok (.lcmp, 1) := by decide +kernel
theorem dX11_tellFraction_11 : decode cX11_tellFraction 11 = .ok (.ifCond .le 19, 3) := by decide +kernel
theorem dX11_tellFraction_14 : decode cX11_tellFraction 14 = .ok (.aload_n 0, 1) := by decide +kernel
theorem dX11_tellFraction_15 : decode cX11_tellFraction 15 = .ok (.lload_n 1, 1) := by decide +kernel
theorem dX11_tellFraction_16 : decode cX11_tellFraction 16 = .ok (.lload 5, 2) := by decide +kernel
theorem dX11_tellFraction_18 : decode cX11_tellFraction 18 = .ok (.ldiv, 1) := by decide +kernel
theorem dX11_tellFraction_19 : decode cX11_tellFraction 19 = .ok (.putfield 7, 3) := by decide +kernel
theorem dX11_tellFraction_22 : decode cX11_tellFraction 22 = .ok (.aload_n 0, 1) := by decide +kernel
theorem dX11_tellFraction_23 : decode cX11_tellFraction 23 = .ok (.lload_n 3, 1) := by decide +kernel
theorem dX11_tellFraction_24 : decode cX11_tellFraction 24 = .ok (.lload 5, 2) := by decide +kernel
theorem dX11_tellFraction_26 : decode cX11_tellFraction 26 = .ok (.ldiv, 1) := by decide +kernel
theorem dX11_tellFraction_27 : decode cX11_tellFraction 27 = .ok (.putfield 13, 3) := by decide +kernel
theorem dX11_tellFraction_30 : decode cX11_tellFraction 30 = .ok (.aload_n 0, 1) := by decide +kernel
theorem dX11_tellFraction_31 : decode cX11_tellFraction 31 = .ok (.invokevirtual 117, 3) := by decide +kernel
theorem dX11_tellFraction_34 : decode cX11_tellFraction 34 = .ok (.ireturn, 1) := by decide +kernel
theorem dX11_commonDivisor_0 : decode cX11_commonDivisor 0 = .ok (.lload_n 2, 1) := by decide +kernel
theorem dX11_commonDivisor_1 : decode cX11_commonDivisor 1 = .ok (.lstore 4, 2) := by decide +kernel
theorem dX11_commonDivisor_3 : decode cX11_commonDivisor 3 = .ok (.lload_n 0, 1) := by decide +kernel
theorem dX11_commonDivisor_4 : decode cX11_commonDivisor 4 = .ok (.lstore 6, 2) := by decide +kernel
theorem dX11_commonDivisor_6 : decode cX11_commonDivisor 6 = .ok (.iconst 0, 1) := by decide +kernel
theorem dX11_commonDivisor_7 : decode cX11_commonDivisor 7 = .ok (.istore 8, 2) := by decide +kernel
theorem dX11_commonDivisor_9 : decode cX11_commonDivisor 9 = .ok (.iload 8, 2) := by decide +kernel
theorem dX11_commonDivisor_11 : decode cX11_commonDivisor 11 = .ok (.sipush 200, 3) := by decide +kernel
theorem dX11_commonDivisor_14 : decode cX11_commonDivisor 14 = .ok (.if_icmp .ge 31, 3) := by decide +kernel
theorem dX11_commonDivisor_17 : decode cX11_commonDivisor 17 = .ok (.lload 6, 2) := by decide +kernel
theorem dX11_commonDivisor_19 : decode cX11_commonDivisor 19 = .ok (.lconst 0, 1) := by decide +kernel
theorem dX11_commonDivisor_20 : decode cX11_commonDivisor 20 = .ok (.lcmp, 1) := by decide +kernel
theorem dX11_commonDivisor_21 : decode cX11_commonDivisor 21 = .ok (.ifCond .eq 24, 3) := by decide +kernel
theorem dX11_commonDivisor_24 : decode cX11_commonDivisor 24 = .ok (.lload 4, 2) := by decide +kernel
theorem dX11_commonDivisor_26 : decode cX11_commonDivisor 26 = .ok (.lload 6, 2) := by decide +kernel
theorem dX11_commonDivisor_28 : decode cX11_commonDivisor 28 = .ok (.lrem, 1) := by decide +kernel
theorem dX11_commonDivisor_29 : decode cX11_commonDivisor 29 = .ok (.lstore 9, 2) := by decide +kernel
theorem dX11_commonDivisor_31 : decode cX11_commonDivisor 31 = .ok (.lload 6, 2) := by decide +kernel
theorem dX11_commonDivisor_33 : decode cX11_commonDivisor 33 = .ok (.lstore 4, 2) := by decide +kernel
theorem dX11_commonDivisor_35 : decode cX11_commonDivisor 35 = .ok (.lload 9, 2) := by decide +kernel
theorem dX11_commonDivisor_37 : decode cX11_commonDivisor 37 = .ok (.lstore 6, 2) := by decide +kernel
theorem dX11_commonDivisor_39 : decode cX11_commonDivisor 39 = .ok (.iinc 8 1, 3) := by decide +kernel
theorem dX11_commonDivisor_42 : decode cX11_commonDivisor 42 = .ok (.goto (-33), 3) := by decide +kernel
theorem dX11_commonDivisor_45 : decode cX11_commonDivisor 45 = .ok (.lload 4, 2) := by decide +kernel
theorem dX11_commonDivisor_47 : decode cX11_commonDivisor 47 = .ok (.lreturn, 1) := by decide +kernel
theorem dX11_wetWays_0 : decode cX11_wetWays 0 = .ok (.lconst 0, 1) := by decide +kernel
theorem dX11_wetWays_1 : decode cX11_wetWays 1 = .ok (.lstore_n 3, 1) := by decide +kernel
theorem dX11_wetWays_2 : decode cX11_wetWays 2 = .ok (.lconst 1, 1) := by decide +kernel
theorem dX11_wetWays_3 : decode cX11_wetWays 3 = .ok (.lstore 5, 2) := by decide +kernel
theorem dX11_wetWays_5 : decode cX11_wetWays 5 = .ok (.iconst 0, 1) := by decide +kernel
theorem dX11_wetWays_6 : decode cX11_wetWays 6 = .ok (.istore 7, 2) := by decide +kernel
theorem dX11_wetWays_8 : decode cX11_wetWays 8 = .ok (.iload 7, 2) := by decide +kernel
theorem dX11_wetWays_10 : decode cX11_wetWays 10 = .ok (.iload_n 0, 1) := by decide +kernel
theorem dX11_wetWays_11 : decode cX11_wetWays 11 = .ok (.if_icmp .gt 57, 3) := by decide +kernel
theorem dX11_wetWays_14 : decode cX11_wetWays 14 = .ok (.iload 7, 2) := by decide +kernel
theorem dX11_wetWays_16 : decode cX11_wetWays 16 = .ok (.iload_n 1, 1) := by decide +kernel
theorem dX11_wetWays_17 : decode cX11_wetWays 17 = .ok (.if_icmp .lt 29, 3) := by decide +kernel
theorem dX11_wetWays_20 : decode cX11_wetWays 20 = .ok (.lload_n 3, 1) := by decide +kernel
theorem dX11_wetWays_21 : decode cX11_wetWays 21 = .ok (.lload 5, 2) := by decide +kernel
theorem dX11_wetWays_23 : decode cX11_wetWays 23 = .ok (.iload_n 2, 1) := by decide +kernel
theorem dX11_wetWays_24 : decode cX11_wetWays 24 = .ok (.i2l, 1) := by decide +kernel
theorem dX11_wetWays_25 : decode cX11_wetWays 25 = .ok (.iload 7, 2) := by decide +kernel
theorem dX11_wetWays_27 : decode cX11_wetWays 27 = .ok (.invokestatic 408, 3) := by decide +kernel
theorem dX11_wetWays_30 : decode cX11_wetWays 30 = .ok (.lmul, 1) := by decide +kernel
theorem dX11_wetWays_31 : decode cX11_wetWays 31 = .ok (.bipush 16, 2) := by decide +kernel
theorem dX11_wetWays_33 : decode cX11_wetWays 33 = .ok (.iload_n 2, 1) := by decide +kernel
theorem dX11_wetWays_34 : decode cX11_wetWays 34 = .ok (.isub, 1) := by decide +kernel
theorem dX11_wetWays_35 : decode cX11_wetWays 35 = .ok (.i2l, 1) := by decide +kernel
theorem dX11_wetWays_36 : decode cX11_wetWays 36 = .ok (.iload_n 0, 1) := by decide +kernel
theorem dX11_wetWays_37 : decode cX11_wetWays 37 = .ok (.iload 7, 2) := by decide +kernel
theorem dX11_wetWays_39 : decode cX11_wetWays 39 = .ok (.isub, 1) := by decide +kernel
theorem dX11_wetWays_40 : decode cX11_wetWays 40 = .ok (.invokestatic 408, 3) := by decide +kernel
theorem dX11_wetWays_43 : decode cX11_wetWays 43 = .ok (.lmul, 1) := by decide +kernel
theorem dX11_wetWays_44 : decode cX11_wetWays 44 = .ok (.ladd, 1) := by decide +kernel
theorem dX11_wetWays_45 : decode cX11_wetWays 45 = .ok (.lstore_n 3, 1) := by decide +kernel
theorem dX11_wetWays_46 : decode cX11_wetWays 46 = .ok (.lload 5, 2) := by decide +kernel
theorem dX11_wetWays_48 : decode cX11_wetWays 48 = .ok (.iload_n 0, 1) := by decide +kernel
theorem dX11_wetWays_49 : decode cX11_wetWays 49 = .ok (.iload 7, 2) := by decide +kernel
theorem dX11_wetWays_51 : decode cX11_wetWays 51 = .ok (.isub, 1) := by decide +kernel
theorem dX11_wetWays_52 : decode cX11_wetWays 52 = .ok (.i2l, 1) := by decide +kernel
theorem dX11_wetWays_53 : decode cX11_wetWays 53 = .ok (.lmul, 1) := by decide +kernel
theorem dX11_wetWays_54 : decode cX11_wetWays 54 = .ok (.iload 7, 2) := by decide +kernel
theorem dX11_wetWays_56 : decode cX11_wetWays 56 = .ok (.iconst 1, 1) := by decide +kernel
theorem dX11_wetWays_57 : decode cX11_wetWays 57 = .ok (.iadd, 1) := by decide +kernel
theorem dX11_wetWays_58 : decode cX11_wetWays 58 = .ok (.i2l, 1) := by decide +kernel
theorem dX11_wetWays_59 : decode cX11_wetWays 59 = .ok (.ldiv, 1) := by decide +kernel
theorem dX11_wetWays_60 : decode cX11_wetWays 60 = .ok (.lstore 5, 2) := by decide +kernel
theorem dX11_wetWays_62 : decode cX11_wetWays 62 = .ok (.iinc 7 1, 3) := by decide +kernel
theorem dX11_wetWays_65 : decode cX11_wetWays 65 = .ok (.goto (-57), 3) := by decide +kernel
theorem dX11_wetWays_68 : decode cX11_wetWays 68 = .ok (.lload_n 3, 1) := by decide +kernel
theorem dX11_wetWays_69 : decode cX11_wetWays 69 = .ok (.lreturn, 1) := by decide +kernel
theorem dX11_power_0 : decode cX11_power 0 = .ok (.lconst 1, 1) := by decide +kernel
theorem dX11_power_1 : decode cX11_power 1 = .ok (.lstore_n 3, 1) := by decide +kernel
theorem dX11_power_2 : decode cX11_power 2 = .ok (.iconst 0, 1) := by decide +kernel
theorem dX11_power_3 : decode cX11_power 3 = .ok (.istore 5, 2) := by decide +kernel
theorem dX11_power_5 : decode cX11_power 5 = .ok (.iload 5, 2) := by decide +kernel
theorem dX11_power_7 : decode cX11_power 7 = .ok (.iload_n 2, 1) := by decide +kernel
theorem dX11_power_8 : decode cX11_power 8 = .ok (.if_icmp .ge 13, 3) := by decide +kernel
theorem dX11_power_11 : decode cX11_power 11 = .ok (.lload_n 3, 1) := by decide +kernel
theorem dX11_power_12 : decode cX11_power 12 = .ok (.lload_n 0, 1) := by decide +kernel
theorem dX11_power_13 : decode cX11_power 13 = .ok (.lmul, 1) := by decide +kernel
theorem dX11_power_14 : decode cX11_power 14 = .ok (.lstore_n 3, 1) := by decide +kernel
theorem dX11_power_15 : decode cX11_power 15 = .ok (.iinc 5 1, 3) := by decide +kernel
theorem dX11_power_18 : decode cX11_power 18 = .ok (.goto (-13), 3) := by decide +kernel
theorem dX11_power_21 : decode cX11_power 21 = .ok (.lload_n 3, 1) := by decide +kernel
theorem dX11_power_22 : decode cX11_power 22 = .ok (.lreturn, 1) := by decide +kernel
theorem dJ6_bitCount_0f7a4_0 : decode cJ6_bitCount_0f7a4 0 = .ok (.iload_n 0, 1) := by decide +kernel
theorem dJ6_bitCount_0f7a4_1 : decode cJ6_bitCount_0f7a4 1 = .ok (.iload_n 0, 1) := by decide +kernel
theorem dJ6_bitCount_0f7a4_2 : decode cJ6_bitCount_0f7a4 2 = .ok (.iconst 1, 1) := by decide +kernel
theorem dJ6_bitCount_0f7a4_3 : decode cJ6_bitCount_0f7a4 3 = .ok (.iushr, 1) := by decide +kernel
theorem dJ6_bitCount_0f7a4_4 : decode cJ6_bitCount_0f7a4 4 = .ok (.ldc_w 265, 3) := by decide +kernel
theorem dJ6_bitCount_0f7a4_7 : decode cJ6_bitCount_0f7a4 7 = .ok (.iand, 1) := by decide +kernel
theorem dJ6_bitCount_0f7a4_8 : decode cJ6_bitCount_0f7a4 8 = .ok (.isub, 1) := by decide +kernel
theorem dJ6_bitCount_0f7a4_9 : decode cJ6_bitCount_0f7a4 9 = .ok (.istore_n 0, 1) := by decide +kernel
theorem dJ6_bitCount_0f7a4_10 : decode cJ6_bitCount_0f7a4 10 = .ok (.iload_n 0, 1) := by decide +kernel
theorem dJ6_bitCount_0f7a4_11 : decode cJ6_bitCount_0f7a4 11 = .ok (.ldc_w 266, 3) := by decide +kernel
theorem dJ6_bitCount_0f7a4_14 : decode cJ6_bitCount_0f7a4 14 = .ok (.iand, 1) := by decide +kernel
theorem dJ6_bitCount_0f7a4_15 : decode cJ6_bitCount_0f7a4 15 = .ok (.iload_n 0, 1) := by decide +kernel
theorem dJ6_bitCount_0f7a4_16 : decode cJ6_bitCount_0f7a4 16 = .ok (.iconst 2, 1) := by decide +kernel
theorem dJ6_bitCount_0f7a4_17 : decode cJ6_bitCount_0f7a4 17 = .ok (.iushr, 1) := by decide +kernel
theorem dJ6_bitCount_0f7a4_18 : decode cJ6_bitCount_0f7a4 18 = .ok (.ldc_w 266, 3) := by decide +kernel
theorem dJ6_bitCount_0f7a4_21 : decode cJ6_bitCount_0f7a4 21 = .ok (.iand, 1) := by decide +kernel
theorem dJ6_bitCount_0f7a4_22 : decode cJ6_bitCount_0f7a4 22 = .ok (.iadd, 1) := by decide +kernel
theorem dJ6_bitCount_0f7a4_23 : decode cJ6_bitCount_0f7a4 23 = .ok (.istore_n 0, 1) := by decide +kernel
theorem dJ6_bitCount_0f7a4_24 : decode cJ6_bitCount_0f7a4 24 = .ok (.iload_n 0, 1) := by decide +kernel
theorem dJ6_bitCount_0f7a4_25 : decode cJ6_bitCount_0f7a4 25 = .ok (.iload_n 0, 1) := by decide +kernel
theorem dJ6_bitCount_0f7a4_26 : decode cJ6_bitCount_0f7a4 26 = .ok (.iconst 4, 1) := by decide +kernel
theorem dJ6_bitCount_0f7a4_27 : decode cJ6_bitCount_0f7a4 27 = .ok (.iushr, 1) := by decide +kernel
theorem dJ6_bitCount_0f7a4_28 : decode cJ6_bitCount_0f7a4 28 = .ok (.iadd, 1) := by decide +kernel
theorem dJ6_bitCount_0f7a4_29 : decode cJ6_bitCount_0f7a4 29 = .ok (.ldc_w 267, 3) := by decide +kernel
theorem dJ6_bitCount_0f7a4_32 : decode cJ6_bitCount_0f7a4 32 = .ok (.iand, 1) := by decide +kernel
theorem dJ6_bitCount_0f7a4_33 : decode cJ6_bitCount_0f7a4 33 = .ok (.istore_n 0, 1) := by decide +kernel
theorem dJ6_bitCount_0f7a4_34 : decode cJ6_bitCount_0f7a4 34 = .ok (.iload_n 0, 1) := by decide +kernel
theorem dJ6_bitCount_0f7a4_35 : decode cJ6_bitCount_0f7a4 35 = .ok (.iload_n 0, 1) := by decide +kernel
theorem dJ6_bitCount_0f7a4_36 : decode cJ6_bitCount_0f7a4 36 = .ok (.bipush 8, 2) := by decide +kernel
theorem dJ6_bitCount_0f7a4_38 : decode cJ6_bitCount_0f7a4 38 = .ok (.iushr, 1) := by decide +kernel
theorem dJ6_bitCount_0f7a4_39 : decode cJ6_bitCount_0f7a4 39 = .ok (.iadd, 1) := by decide +kernel
theorem dJ6_bitCount_0f7a4_40 : decode cJ6_bitCount_0f7a4 40 = .ok (.istore_n 0, 1) := by decide +kernel
theorem dJ6_bitCount_0f7a4_41 : decode cJ6_bitCount_0f7a4 41 = .ok (.iload_n 0, 1) := by decide +kernel
theorem dJ6_bitCount_0f7a4_42 : decode cJ6_bitCount_0f7a4 42 = .ok (.iload_n 0, 1) := by decide +kernel
theorem dJ6_bitCount_0f7a4_43 : decode cJ6_bitCount_0f7a4 43 = .ok (.bipush 16, 2) := by decide +kernel
theorem dJ6_bitCount_0f7a4_45 : decode cJ6_bitCount_0f7a4 45 = .ok (.iushr, 1) := by decide +kernel
theorem dJ6_bitCount_0f7a4_46 : decode cJ6_bitCount_0f7a4 46 = .ok (.iadd, 1) := by decide +kernel
theorem dJ6_bitCount_0f7a4_47 : decode cJ6_bitCount_0f7a4 47 = .ok (.istore_n 0, 1) := by decide +kernel
theorem dJ6_bitCount_0f7a4_48 : decode cJ6_bitCount_0f7a4 48 = .ok (.iload_n 0, 1) := by decide +kernel
theorem dJ6_bitCount_0f7a4_49 : decode cJ6_bitCount_0f7a4 49 = .ok (.bipush 63, 2) := by decide +kernel
theorem dJ6_bitCount_0f7a4_51 : decode cJ6_bitCount_0f7a4 51 = .ok (.iand, 1) := by decide +kernel
theorem dJ6_bitCount_0f7a4_52 : decode cJ6_bitCount_0f7a4 52 = .ok (.ireturn, 1) := by decide +kernel
theorem dJ9_max_7cf53_0 : decode cJ9_max_7cf53 0 = .ok (.iload_n 0, 1) := by decide +kernel
theorem dJ9_max_7cf53_1 : decode cJ9_max_7cf53 1 = .ok (.iload_n 1, 1) := by decide +kernel
theorem dJ9_max_7cf53_2 : decode cJ9_max_7cf53 2 = .ok (.if_icmp .lt 7, 3) := by decide +kernel
theorem dJ9_max_7cf53_5 : decode cJ9_max_7cf53 5 = .ok (.iload_n 0, 1) := by decide +kernel
theorem dJ9_max_7cf53_6 : decode cJ9_max_7cf53 6 = .ok (.goto 4, 3) := by decide +kernel
theorem dJ9_max_7cf53_9 : decode cJ9_max_7cf53 9 = .ok (.iload_n 1, 1) := by decide +kernel
theorem dJ9_max_7cf53_10 : decode cJ9_max_7cf53 10 = .ok (.ireturn, 1) := by decide +kernel
theorem dJ9_min_7cf53_0 : decode cJ9_min_7cf53 0 = .ok (.iload_n 0, 1) := by decide +kernel
theorem dJ9_min_7cf53_1 : decode cJ9_min_7cf53 1 = .ok (.iload_n 1, 1) := by decide +kernel
theorem dJ9_min_7cf53_2 : decode cJ9_min_7cf53 2 = .ok (.if_icmp .gt 7, 3) := by decide +kernel
theorem dJ9_min_7cf53_5 : decode cJ9_min_7cf53 5 = .ok (.iload_n 0, 1) := by decide +kernel
theorem dJ9_min_7cf53_6 : decode cJ9_min_7cf53 6 = .ok (.goto 4, 3) := by decide +kernel
theorem dJ9_min_7cf53_9 : decode cJ9_min_7cf53 9 = .ok (.iload_n 1, 1) := by decide +kernel
theorem dJ9_min_7cf53_10 : decode cJ9_min_7cf53 10 = .ok (.ireturn, 1) := by decide +kernel
theorem dJ0_length_8abf5_0 : decode cJ0_length_8abf5 0 = .ok (.aload_n 0, 1) := by decide +kernel
theorem dJ0_length_8abf5_1 : decode cJ0_length_8abf5 1 = .ok (.getfield 9, 3) := by decide +kernel
theorem dJ0_length_8abf5_4 : decode cJ0_length_8abf5 4 = .ok (.arraylength, 1) := by decide +kernel
theorem dJ0_length_8abf5_5 : decode cJ0_length_8abf5 5 = .ok (.aload_n 0, 1) := by decide +kernel
theorem dJ0_length_8abf5_6 : decode cJ0_length_8abf5 6 = .ok (.invokevirtual 335, 3) := by decide +kernel
theorem dJ0_length_8abf5_9 : decode cJ0_length_8abf5 9 = .ok (.ishr, 1) := by decide +kernel
theorem dJ0_length_8abf5_10 : decode cJ0_length_8abf5 10 = .ok (.ireturn, 1) := by decide +kernel
theorem dJ0_charAt_5068e_0 : decode cJ0_charAt_5068e 0 = .ok (.aload_n 0, 1) := by decide +kernel
theorem dJ0_charAt_5068e_1 : decode cJ0_charAt_5068e 1 = .ok (.invokevirtual 492, 3) := by decide +kernel
theorem dJ0_charAt_5068e_4 : decode cJ0_charAt_5068e 4 = .ok (.ifCond .eq 12, 3) := by decide +kernel
theorem dJ0_charAt_5068e_7 : decode cJ0_charAt_5068e 7 = .ok (.aload_n 0, 1) := by decide +kernel
theorem dJ0_charAt_5068e_8 : decode cJ0_charAt_5068e 8 = .ok (.getfield 9, 3) := by decide +kernel
theorem dJ0_charAt_5068e_11 : decode cJ0_charAt_5068e 11 = .ok (.iload_n 1, 1) := by decide +kernel
theorem dJ0_charAt_5068e_12 : decode cJ0_charAt_5068e 12 = .ok (.invokestatic 495, 3) := by decide +kernel
theorem dJ0_charAt_5068e_15 : decode cJ0_charAt_5068e 15 = .ok (.ireturn, 1) := by decide +kernel
theorem dJ0_charAt_5068e_16 : decode cJ0_charAt_5068e 16 = .ok (.aload_n 0, 1) := by decide +kernel
theorem dJ0_charAt_5068e_17 : decode cJ0_charAt_5068e 17 = .ok (.getfield 9, 3) := by decide +kernel
theorem dJ0_charAt_5068e_20 : decode cJ0_charAt_5068e 20 = .ok (.iload_n 1, 1) := by decide +kernel
theorem dJ0_charAt_5068e_21 : decode cJ0_charAt_5068e 21 = .ok (.invokestatic 498, 3) := by decide +kernel
theorem dJ0_charAt_5068e_24 : decode cJ0_charAt_5068e 24 = .ok (.ireturn, 1) := by decide +kernel
theorem dJ0_coder_7d493_0 : decode cJ0_coder_7d493 0 = .ok (.getstatic 38, 3) := by decide +kernel
theorem dJ0_coder_7d493_3 : decode cJ0_coder_7d493 3 = .ok (.ifCond .eq 10, 3) := by decide +kernel
theorem dJ0_coder_7d493_6 : decode cJ0_coder_7d493 6 = .ok (.aload_n 0, 1) := by decide +kernel
theorem dJ0_coder_7d493_7 : decode cJ0_coder_7d493 7 = .ok (.getfield 15, 3) := by decide +kernel
theorem dJ0_coder_7d493_10 : decode cJ0_coder_7d493 10 = .ok (.goto 4, 3) := by decide +kernel
theorem dJ0_coder_7d493_13 : decode cJ0_coder_7d493 13 = .ok (.iconst 1, 1) := by decide +kernel
theorem dJ0_coder_7d493_14 : decode cJ0_coder_7d493 14 = .ok (.ireturn, 1) := by decide +kernel
theorem dJ0_isLatin1_aae02_0 : decode cJ0_isLatin1_aae02 0 = .ok (.getstatic 38, 3) := by decide +kernel
theorem dJ0_isLatin1_aae02_3 : decode cJ0_isLatin1_aae02 3 = .ok (.ifCond .eq 14, 3) := by decide +kernel
theorem dJ0_isLatin1_aae02_6 : decode cJ0_isLatin1_aae02 6 = .ok (.aload_n 0, 1) := by decide +kernel
theorem dJ0_isLatin1_aae02_7 : decode cJ0_isLatin1_aae02 7 = .ok (.getfield 15, 3) := by decide +kernel
theorem dJ0_isLatin1_aae02_10 : decode cJ0_isLatin1_aae02 10 = .ok (.ifCond .ne 7, 3) := by decide +kernel
theorem dJ0_isLatin1_aae02_13 : decode cJ0_isLatin1_aae02 13 = .ok (.iconst 1, 1) := by decide +kernel
theorem dJ0_isLatin1_aae02_14 : decode cJ0_isLatin1_aae02 14 = .ok (.goto 4, 3) := by decide +kernel
theorem dJ0_isLatin1_aae02_17 : decode cJ0_isLatin1_aae02 17 = .ok (.iconst 0, 1) := by decide +kernel
theorem dJ0_isLatin1_aae02_18 : decode cJ0_isLatin1_aae02 18 = .ok (.ireturn, 1) := by decide +kernel
theorem dJ0_checkIndex_df160_0 : decode cJ0_checkIndex_df160 0 = .ok (.iload_n 0, 1) := by decide +kernel
theorem dJ0_checkIndex_df160_1 : decode cJ0_checkIndex_df160 1 = .ok (.iload_n 1, 1) := by decide +kernel
theorem dJ0_checkIndex_df160_2 : decode cJ0_checkIndex_df160 2 = .ok (.getstatic 1053, 3) := by decide +kernel
theorem dJ0_checkIndex_df160_5 : decode cJ0_checkIndex_df160 5 = .ok (.invokestatic 1059, 3) := by decide +kernel
theorem dJ0_checkIndex_df160_8 : decode cJ0_checkIndex_df160 8 = .ok (.pop, 1) := by decide +kernel
theorem dJ0_checkIndex_df160_9 : decode cJ0_checkIndex_df160 9 = .ok (.return_, 1) := by decide +kernel
theorem dJ1_charAt_3b067_0 : decode cJ1_charAt_3b067 0 = .ok (.iload_n 1, 1) := by decide +kernel
theorem dJ1_charAt_3b067_1 : decode cJ1_charAt_3b067 1 = .ok (.aload_n 0, 1) := by decide +kernel
theorem dJ1_charAt_3b067_2 : decode cJ1_charAt_3b067 2 = .ok (.arraylength, 1) := by decide +kernel
theorem dJ1_charAt_3b067_3 : decode cJ1_charAt_3b067 3 = .ok (.invokestatic 9, 3) := by decide +kernel
theorem dJ1_charAt_3b067_6 : decode cJ1_charAt_3b067 6 = .ok (.aload_n 0, 1) := by decide +kernel
theorem dJ1_charAt_3b067_7 : decode cJ1_charAt_3b067 7 = .ok (.iload_n 1, 1) := by decide +kernel
theorem dJ1_charAt_3b067_8 : decode cJ1_charAt_3b067 8 = .ok (.baload, 1) := by decide +kernel
theorem dJ1_charAt_3b067_9 : decode cJ1_charAt_3b067 9 = .ok (.sipush 255, 3) := by decide +kernel
theorem dJ1_charAt_3b067_12 : decode cJ1_charAt_3b067 12 = .ok (.iand, 1) := by decide +kernel
theorem dJ1_charAt_3b067_13 : decode cJ1_charAt_3b067 13 = .ok (.i2c, 1) := by decide +kernel
theorem dJ1_charAt_3b067_14 : decode cJ1_charAt_3b067 14 = .ok (.ireturn, 1) := by decide +kernel
theorem dJ2_getChar_3b067_0 : decode cJ2_getChar_3b067 0 = .ok (.getstatic 44, 3) := by decide +kernel
theorem dJ2_getChar_3b067_3 : decode cJ2_getChar_3b067 3 = .ok (.ifCond .ne 25, 3) := by decide +kernel
theorem dJ2_getChar_3b067_6 : decode cJ2_getChar_3b067 6 = .ok (.iload_n 1, 1) := by decide +kernel
theorem dJ2_getChar_3b067_7 : decode cJ2_getChar_3b067 7 = .ok (.ifCond .lt 11, 3) := by decide +kernel
theorem dJ2_getChar_3b067_10 : decode cJ2_getChar_3b067 10 = .ok (.iload_n 1, 1) := by decide +kernel
theorem dJ2_getChar_3b067_11 : decode cJ2_getChar_3b067 11 = .ok (.aload_n 0, 1) := by decide +kernel
theorem dJ2_getChar_3b067_12 : decode cJ2_getChar_3b067 12 = .ok (.invokestatic 48, 3) := by decide +kernel
theorem dJ2_getChar_3b067_15 : decode cJ2_getChar_3b067 15 = .ok (.if_icmp .lt 13, 3) := by decide +kernel
theorem dJ2_getChar_3b067_18 : decode cJ2_getChar_3b067 18 = .ok (.new 52, 3) := by decide +kernel
theorem dJ2_getChar_3b067_21 : decode cJ2_getChar_3b067 21 = .ok (.dup, 1) := by decide +kernel
theorem dJ2_getChar_3b067_22 : decode cJ2_getChar_3b067 22 = .ok (.ldc 54, 2) := by decide +kernel
theorem dJ2_getChar_3b067_24 : decode cJ2_getChar_3b067 24 = .ok (.invokespecial 56, 3) := by decide +kernel
theorem dJ2_getChar_3b067_27 : decode cJ2_getChar_3b067 27 = .ok (.athrow, 1) := by decide +kernel
theorem dJ2_getChar_3b067_28 : decode cJ2_getChar_3b067 28 = .ok (.iload_n 1, 1) := by decide +kernel
theorem dJ2_getChar_3b067_29 : decode cJ2_getChar_3b067 29 = .ok (.iconst 1, 1) := by decide +kernel
theorem dJ2_getChar_3b067_30 : decode cJ2_getChar_3b067 30 = .ok (.ishl, 1) := by decide +kernel
theorem dJ2_getChar_3b067_31 : decode cJ2_getChar_3b067 31 = .ok (.istore_n 1, 1) := by decide +kernel
theorem dJ2_getChar_3b067_32 : decode cJ2_getChar_3b067 32 = .ok (.aload_n 0, 1) := by decide +kernel
theorem dJ2_getChar_3b067_33 : decode cJ2_getChar_3b067 33 = .ok (.iload_n 1, 1) := by decide +kernel
theorem dJ2_getChar_3b067_34 : decode cJ2_getChar_3b067 34 = .ok (.iinc 1 1, 3) := by decide +kernel
theorem dJ2_getChar_3b067_37 : decode cJ2_getChar_3b067 37 = .ok (.baload, 1) := by decide +kernel
theorem dJ2_getChar_3b067_38 : decode cJ2_getChar_3b067 38 = .ok (.sipush 255, 3) := by decide +kernel
theorem dJ2_getChar_3b067_41 : decode cJ2_getChar_3b067 41 = .ok (.iand, 1) := by decide +kernel
theorem dJ2_getChar_3b067_42 : decode cJ2_getChar_3b067 42 = .ok (.getstatic 59, 3) := by decide +kernel
theorem dJ2_getChar_3b067_45 : decode cJ2_getChar_3b067 45 = .ok (.ishl, 1) := by decide +kernel
theorem dJ2_getChar_3b067_46 : decode cJ2_getChar_3b067 46 = .ok (.aload_n 0, 1) := by decide +kernel
theorem dJ2_getChar_3b067_47 : decode cJ2_getChar_3b067 47 = .ok (.iload_n 1, 1) := by decide +kernel
theorem dJ2_getChar_3b067_48 : decode cJ2_getChar_3b067 48 = .ok (.baload, 1) := by decide +kernel
theorem dJ2_getChar_3b067_49 : decode cJ2_getChar_3b067 49 = .ok (.sipush 255, 3) := by decide +kernel
theorem dJ2_getChar_3b067_52 : decode cJ2_getChar_3b067 52 = .ok (.iand, 1) := by decide +kernel
theorem dJ2_getChar_3b067_53 : decode cJ2_getChar_3b067 53 = .ok (.getstatic 63, 3) := by decide +kernel
theorem dJ2_getChar_3b067_56 : decode cJ2_getChar_3b067 56 = .ok (.ishl, 1) := by decide +kernel
theorem dJ2_getChar_3b067_57 : decode cJ2_getChar_3b067 57 = .ok (.ior, 1) := by decide +kernel
theorem dJ2_getChar_3b067_58 : decode cJ2_getChar_3b067 58 = .ok (.i2c, 1) := by decide +kernel
theorem dJ2_getChar_3b067_59 : decode cJ2_getChar_3b067 59 = .ok (.ireturn, 1) := by decide +kernel
theorem dJ2_length_9d52b_0 : decode cJ2_length_9d52b 0 = .ok (.aload_n 0, 1) := by decide +kernel
theorem dJ2_length_9d52b_1 : decode cJ2_length_9d52b 1 = .ok (.arraylength, 1) := by decide +kernel
theorem dJ2_length_9d52b_2 : decode cJ2_length_9d52b 2 = .ok (.iconst 1, 1) := by decide +kernel
theorem dJ2_length_9d52b_3 : decode cJ2_length_9d52b 3 = .ok (.ishr, 1) := by decide +kernel
theorem dJ2_length_9d52b_4 : decode cJ2_length_9d52b 4 = .ok (.ireturn, 1) := by decide +kernel
theorem dJ2_charAt_3b067_0 : decode cJ2_charAt_3b067 0 = .ok (.iload_n 1, 1) := by decide +kernel
theorem dJ2_charAt_3b067_1 : decode cJ2_charAt_3b067 1 = .ok (.aload_n 0, 1) := by decide +kernel
theorem dJ2_charAt_3b067_2 : decode cJ2_charAt_3b067 2 = .ok (.invokestatic 67, 3) := by decide +kernel
theorem dJ2_charAt_3b067_5 : decode cJ2_charAt_3b067 5 = .ok (.aload_n 0, 1) := by decide +kernel
theorem dJ2_charAt_3b067_6 : decode cJ2_charAt_3b067 6 = .ok (.iload_n 1, 1) := by decide +kernel
theorem dJ2_charAt_3b067_7 : decode cJ2_charAt_3b067 7 = .ok (.invokestatic 71, 3) := by decide +kernel
theorem dJ2_charAt_3b067_10 : decode cJ2_charAt_3b067 10 = .ok (.ireturn, 1) := by decide +kernel
theorem dJ2_checkIndex_2214a_0 : decode cJ2_checkIndex_2214a 0 = .ok (.iload_n 0, 1) := by decide +kernel
theorem dJ2_checkIndex_2214a_1 : decode cJ2_checkIndex_2214a 1 = .ok (.aload_n 1, 1) := by decide +kernel
theorem dJ2_checkIndex_2214a_2 : decode cJ2_checkIndex_2214a 2 = .ok (.invokestatic 48, 3) := by decide +kernel
theorem dJ2_checkIndex_2214a_5 : decode cJ2_checkIndex_2214a 5 = .ok (.invokestatic 414, 3) := by decide +kernel
theorem dJ2_checkIndex_2214a_8 : decode cJ2_checkIndex_2214a 8 = .ok (.return_, 1) := by decide +kernel
theorem dJ3_checkIndex_8e157_0 : decode cJ3_checkIndex_8e157 0 = .ok (.iload_n 0, 1) := by decide +kernel
theorem dJ3_checkIndex_8e157_1 : decode cJ3_checkIndex_8e157 1 = .ok (.ifCond .lt 8, 3) := by decide +kernel
theorem dJ3_checkIndex_8e157_4 : decode cJ3_checkIndex_8e157 4 = .ok (.iload_n 0, 1) := by decide +kernel
theorem dJ3_checkIndex_8e157_5 : decode cJ3_checkIndex_8e157 5 = .ok (.iload_n 1, 1) := by decide +kernel
theorem dJ3_checkIndex_8e157_6 : decode cJ3_checkIndex_8e157 6 = .ok (.if_icmp .lt 10, 3) := by decide +kernel
theorem dJ3_checkIndex_8e157_9 : decode cJ3_checkIndex_8e157 9 = .ok (.aload_n 2, 1) := by decide +kernel
theorem dJ3_checkIndex_8e157_10 : decode cJ3_checkIndex_8e157 10 = .ok (.iload_n 0, 1) := by decide +kernel
theorem dJ3_checkIndex_8e157_11 : decode cJ3_checkIndex_8e157 11 = .ok (.iload_n 1, 1) := by decide +kernel
theorem dJ3_checkIndex_8e157_12 : decode cJ3_checkIndex_8e157 12 = .ok (.invokestatic 95, 3) := by decide +kernel
theorem dJ3_checkIndex_8e157_15 : decode cJ3_checkIndex_8e157 15 = .ok (.athrow, 1) := by decide +kernel
theorem dJ3_checkIndex_8e157_16 : decode cJ3_checkIndex_8e157 16 = .ok (.iload_n 0, 1) := by decide +kernel
theorem dJ3_checkIndex_8e157_17 : decode cJ3_checkIndex_8e157 17 = .ok (.ireturn, 1) := by decide +kernel
