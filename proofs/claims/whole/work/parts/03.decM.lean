theorem dX12_init_0 : decode cX12_init 0 = .ok (.aload_n 0, 1) := by decide +kernel
theorem dX12_init_1 : decode cX12_init 1 = .ok (.invokespecial 1, 3) := by decide +kernel
theorem dX12_init_4 : decode cX12_init 4 = .ok (.aload_n 0, 1) := by decide +kernel
theorem dX12_init_5 : decode cX12_init 5 = .ok (.sipush 3008, 3) := by decide +kernel
theorem dX12_init_8 : decode cX12_init 8 = .ok (.newarray .int, 2) := by decide +kernel
theorem dX12_init_10 : decode cX12_init 10 = .ok (.putfield 7, 3) := by decide +kernel
theorem dX12_init_13 : decode cX12_init 13 = .ok (.aload_n 0, 1) := by decide +kernel
theorem dX12_init_14 : decode cX12_init 14 = .ok (.bipush 72, 2) := by decide +kernel
theorem dX12_init_16 : decode cX12_init 16 = .ok (.newarray .long, 2) := by decide +kernel
theorem dX12_init_18 : decode cX12_init 18 = .ok (.putfield 13, 3) := by decide +kernel
theorem dX12_init_21 : decode cX12_init 21 = .ok (.aload_n 0, 1) := by decide +kernel
theorem dX12_init_22 : decode cX12_init 22 = .ok (.lconst 1, 1) := by decide +kernel
theorem dX12_init_23 : decode cX12_init 23 = .ok (.putfield 17, 3) := by decide +kernel
theorem dX12_init_26 : decode cX12_init 26 = .ok (.aload_n 0, 1) := by decide +kernel
theorem dX12_init_27 : decode cX12_init 27 = .ok (.iconst 4, 1) := by decide +kernel
theorem dX12_init_28 : decode cX12_init 28 = .ok (.newarray .int, 2) := by decide +kernel
theorem dX12_init_30 : decode cX12_init 30 = .ok (.putfield 21, 3) := by decide +kernel
theorem dX12_init_33 : decode cX12_init 33 = .ok (.aload_n 0, 1) := by decide +kernel
theorem dX12_init_34 : decode cX12_init 34 = .ok (.iconst 4, 1) := by decide +kernel
theorem dX12_init_35 : decode cX12_init 35 = .ok (.newarray .int, 2) := by decide +kernel
theorem dX12_init_37 : decode cX12_init 37 = .ok (.dup, 1) := by decide +kernel
theorem dX12_init_38 : decode cX12_init 38 = .ok (.iconst 0, 1) := by decide +kernel
theorem dX12_init_39 : decode cX12_init 39 = .ok (.iconst (-1), 1) := by decide +kernel
theorem dX12_init_40 : decode cX12_init 40 = .ok (.iastore, 1) := by decide +kernel
theorem dX12_init_41 : decode cX12_init 41 = .ok (.dup, 1) := by decide +kernel
theorem dX12_init_42 : decode cX12_init 42 = .ok (.iconst 1, 1) := by decide +kernel
theorem dX12_init_43 : decode cX12_init 43 = .ok (.iconst (-1), 1) := by decide +kernel
theorem dX12_init_44 : decode cX12_init 44 = .ok (.iastore, 1) := by decide +kernel
theorem dX12_init_45 : decode cX12_init 45 = .ok (.dup, 1) := by decide +kernel
theorem dX12_init_46 : decode cX12_init 46 = .ok (.iconst 2, 1) := by decide +kernel
theorem dX12_init_47 : decode cX12_init 47 = .ok (.iconst (-1), 1) := by decide +kernel
theorem dX12_init_48 : decode cX12_init 48 = .ok (.iastore, 1) := by decide +kernel
theorem dX12_init_49 : decode cX12_init 49 = .ok (.dup, 1) := by decide +kernel
theorem dX12_init_50 : decode cX12_init 50 = .ok (.iconst 3, 1) := by decide +kernel
theorem dX12_init_51 : decode cX12_init 51 = .ok (.iconst (-1), 1) := by decide +kernel
theorem dX12_init_52 : decode cX12_init 52 = .ok (.iastore, 1) := by decide +kernel
theorem dX12_init_53 : decode cX12_init 53 = .ok (.putfield 24, 3) := by decide +kernel
theorem dX12_init_56 : decode cX12_init 56 = .ok (.aload_n 0, 1) := by decide +kernel
theorem dX12_init_57 : decode cX12_init 57 = .ok (.sipush 240, 3) := by decide +kernel
theorem dX12_init_60 : decode cX12_init 60 = .ok (.newarray .long, 2) := by decide +kernel
theorem dX12_init_62 : decode cX12_init 62 = .ok (.putfield 27, 3) := by decide +kernel
theorem dX12_init_65 : decode cX12_init 65 = .ok (.aload_n 0, 1) := by decide +kernel
theorem dX12_init_66 : decode cX12_init 66 = .ok (.sipush 900, 3) := by decide +kernel
theorem dX12_init_69 : decode cX12_init 69 = .ok (.newarray .byte, 2) := by decide +kernel
theorem dX12_init_71 : decode cX12_init 71 = .ok (.putfield 30, 3) := by decide +kernel
theorem dX12_init_74 : decode cX12_init 74 = .ok (.aload_n 0, 1) := by decide +kernel
theorem dX12_init_75 : decode cX12_init 75 = .ok (.sipush 900, 3) := by decide +kernel
theorem dX12_init_78 : decode cX12_init 78 = .ok (.newarray .byte, 2) := by decide +kernel
theorem dX12_init_80 : decode cX12_init 80 = .ok (.putfield 34, 3) := by decide +kernel
theorem dX12_init_83 : decode cX12_init 83 = .ok (.aload_n 0, 1) := by decide +kernel
theorem dX12_init_84 : decode cX12_init 84 = .ok (.iconst (-1), 1) := by decide +kernel
theorem dX12_init_85 : decode cX12_init 85 = .ok (.putfield 37, 3) := by decide +kernel
theorem dX12_init_88 : decode cX12_init 88 = .ok (.aload_n 0, 1) := by decide +kernel
theorem dX12_init_89 : decode cX12_init 89 = .ok (.iconst (-1), 1) := by decide +kernel
theorem dX12_init_90 : decode cX12_init 90 = .ok (.putfield 41, 3) := by decide +kernel
theorem dX12_init_93 : decode cX12_init 93 = .ok (.aload_n 0, 1) := by decide +kernel
theorem dX12_init_94 : decode cX12_init 94 = .ok (.iconst 3, 1) := by decide +kernel
theorem dX12_init_95 : decode cX12_init 95 = .ok (.newarray .int, 2) := by decide +kernel
theorem dX12_init_97 : decode cX12_init 97 = .ok (.putfield 44, 3) := by decide +kernel
theorem dX12_init_100 : decode cX12_init 100 = .ok (.aload_n 0, 1) := by decide +kernel
theorem dX12_init_101 : decode cX12_init 101 = .ok (.sipush 5025, 3) := by decide +kernel
theorem dX12_init_104 : decode cX12_init 104 = .ok (.newarray .int, 2) := by decide +kernel
theorem dX12_init_106 : decode cX12_init 106 = .ok (.putfield 47, 3) := by decide +kernel
theorem dX12_init_109 : decode cX12_init 109 = .ok (.aload_n 0, 1) := by decide +kernel
theorem dX12_init_110 : decode cX12_init 110 = .ok (.iconst 3, 1) := by decide +kernel
theorem dX12_init_111 : decode cX12_init 111 = .ok (.newarray .int, 2) := by decide +kernel
theorem dX12_init_113 : decode cX12_init 113 = .ok (.putfield 50, 3) := by decide +kernel
theorem dX12_init_116 : decode cX12_init 116 = .ok (.aload_n 0, 1) := by decide +kernel
theorem dX12_init_117 : decode cX12_init 117 = .ok (.bipush 25, 2) := by decide +kernel
theorem dX12_init_119 : decode cX12_init 119 = .ok (.newarray .boolean, 2) := by decide +kernel
theorem dX12_init_121 : decode cX12_init 121 = .ok (.putfield 53, 3) := by decide +kernel
theorem dX12_init_124 : decode cX12_init 124 = .ok (.aload_n 0, 1) := by decide +kernel
theorem dX12_init_125 : decode cX12_init 125 = .ok (.sipush 1525, 3) := by decide +kernel
theorem dX12_init_128 : decode cX12_init 128 = .ok (.newarray .boolean, 2) := by decide +kernel
theorem dX12_init_130 : decode cX12_init 130 = .ok (.putfield 57, 3) := by decide +kernel
theorem dX12_init_133 : decode cX12_init 133 = .ok (.aload_n 0, 1) := by decide +kernel
theorem dX12_init_134 : decode cX12_init 134 = .ok (.iconst 3, 1) := by decide +kernel
theorem dX12_init_135 : decode cX12_init 135 = .ok (.newarray .int, 2) := by decide +kernel
theorem dX12_init_137 : decode cX12_init 137 = .ok (.putfield 60, 3) := by decide +kernel
theorem dX12_init_140 : decode cX12_init 140 = .ok (.aload_n 0, 1) := by decide +kernel
theorem dX12_init_141 : decode cX12_init 141 = .ok (.iconst 3, 1) := by decide +kernel
theorem dX12_init_142 : decode cX12_init 142 = .ok (.newarray .int, 2) := by decide +kernel
theorem dX12_init_144 : decode cX12_init 144 = .ok (.putfield 63, 3) := by decide +kernel
theorem dX12_init_147 : decode cX12_init 147 = .ok (.aload_n 0, 1) := by decide +kernel
theorem dX12_init_148 : decode cX12_init 148 = .ok (.iconst 3, 1) := by decide +kernel
theorem dX12_init_149 : decode cX12_init 149 = .ok (.newarray .int, 2) := by decide +kernel
theorem dX12_init_151 : decode cX12_init 151 = .ok (.putfield 66, 3) := by decide +kernel
theorem dX12_init_154 : decode cX12_init 154 = .ok (.aload_n 0, 1) := by decide +kernel
theorem dX12_init_155 : decode cX12_init 155 = .ok (.bipush 13, 2) := by decide +kernel
theorem dX12_init_157 : decode cX12_init 157 = .ok (.newarray .long, 2) := by decide +kernel
theorem dX12_init_159 : decode cX12_init 159 = .ok (.putfield 69, 3) := by decide +kernel
theorem dX12_init_162 : decode cX12_init 162 = .ok (.aload_n 0, 1) := by decide +kernel
theorem dX12_init_163 : decode cX12_init 163 = .ok (.bipush 80, 2) := by decide +kernel
theorem dX12_init_165 : decode cX12_init 165 = .ok (.newarray .int, 2) := by decide +kernel
theorem dX12_init_167 : decode cX12_init 167 = .ok (.putfield 72, 3) := by decide +kernel
theorem dX12_init_170 : decode cX12_init 170 = .ok (.aload_n 0, 1) := by decide +kernel
theorem dX12_init_171 : decode cX12_init 171 = .ok (.iconst 5, 1) := by decide +kernel
theorem dX12_init_172 : decode cX12_init 172 = .ok (.newarray .int, 2) := by decide +kernel
theorem dX12_init_174 : decode cX12_init 174 = .ok (.putfield 75, 3) := by decide +kernel
theorem dX12_init_177 : decode cX12_init 177 = .ok (.aload_n 0, 1) := by decide +kernel
theorem dX12_init_178 : decode cX12_init 178 = .ok (.iconst 5, 1) := by decide +kernel
theorem dX12_init_179 : decode cX12_init 179 = .ok (.newarray .int, 2) := by decide +kernel
theorem dX12_init_181 : decode cX12_init 181 = .ok (.putfield 78, 3) := by decide +kernel
theorem dX12_init_184 : decode cX12_init 184 = .ok (.aload_n 0, 1) := by decide +kernel
theorem dX12_init_185 : decode cX12_init 185 = .ok (.iconst 0, 1) := by decide +kernel
theorem dX12_init_186 : decode cX12_init 186 = .ok (.invokevirtual 81, 3) := by decide +kernel
theorem dX12_init_189 : decode cX12_init 189 = .ok (.return_, 1) := by decide +kernel
theorem dX12_plain_0 : decode cX12_plain 0 = .ok (.iconst 0, 1) := by decide +kernel
theorem dX12_plain_1 : decode cX12_plain 1 = .ok (.istore_n 2, 1) := by decide +kernel
theorem dX12_plain_2 : decode cX12_plain 2 = .ok (.iload_n 2, 1) := by decide +kernel
theorem dX12_plain_3 : decode cX12_plain 3 = .ok (.sipush 448, 3) := by decide +kernel
theorem dX12_plain_6 : decode cX12_plain 6 = .ok (.if_icmp .ge 18, 3) := by decide +kernel
theorem dX12_plain_9 : decode cX12_plain 9 = .ok (.aload_n 0, 1) := by decide +kernel
theorem dX12_plain_10 : decode cX12_plain 10 = .ok (.getfield 7, 3) := by decide +kernel
theorem dX12_plain_13 : decode cX12_plain 13 = .ok (.iload_n 1, 1) := by decide +kernel
theorem dX12_plain_14 : decode cX12_plain 14 = .ok (.iload_n 2, 1) := by decide +kernel
theorem dX12_plain_15 : decode cX12_plain 15 = .ok (.iadd, 1) := by decide +kernel
theorem dX12_plain_16 : decode cX12_plain 16 = .ok (.iconst 0, 1) := by decide +kernel
theorem dX12_plain_17 : decode cX12_plain 17 = .ok (.iastore, 1) := by decide +kernel
theorem dX12_plain_18 : decode cX12_plain 18 = .ok (.iinc 2 1, 3) := by decide +kernel
theorem dX12_plain_21 : decode cX12_plain 21 = .ok (.goto (-19), 3) := by decide +kernel
theorem dX12_plain_24 : decode cX12_plain 24 = .ok (.aload_n 0, 1) := by decide +kernel
theorem dX12_plain_25 : decode cX12_plain 25 = .ok (.getfield 7, 3) := by decide +kernel
theorem dX12_plain_28 : decode cX12_plain 28 = .ok (.iload_n 1, 1) := by decide +kernel
theorem dX12_plain_29 : decode cX12_plain 29 = .ok (.iconst 2, 1) := by decide +kernel
theorem dX12_plain_30 : decode cX12_plain 30 = .ok (.iadd, 1) := by decide +kernel
theorem dX12_plain_31 : decode cX12_plain 31 = .ok (.bipush 8, 2) := by decide +kernel
theorem dX12_plain_33 : decode cX12_plain 33 = .ok (.iastore, 1) := by decide +kernel
theorem dX12_plain_34 : decode cX12_plain 34 = .ok (.aload_n 0, 1) := by decide +kernel
theorem dX12_plain_35 : decode cX12_plain 35 = .ok (.getfield 7, 3) := by decide +kernel
theorem dX12_plain_38 : decode cX12_plain 38 = .ok (.iload_n 1, 1) := by decide +kernel
theorem dX12_plain_39 : decode cX12_plain 39 = .ok (.iconst 3, 1) := by decide +kernel
theorem dX12_plain_40 : decode cX12_plain 40 = .ok (.iadd, 1) := by decide +kernel
theorem dX12_plain_41 : decode cX12_plain 41 = .ok (.bipush 10, 2) := by decide +kernel
theorem dX12_plain_43 : decode cX12_plain 43 = .ok (.iastore, 1) := by decide +kernel
theorem dX12_plain_44 : decode cX12_plain 44 = .ok (.aload_n 0, 1) := by decide +kernel
theorem dX12_plain_45 : decode cX12_plain 45 = .ok (.getfield 7, 3) := by decide +kernel
theorem dX12_plain_48 : decode cX12_plain 48 = .ok (.iload_n 1, 1) := by decide +kernel
theorem dX12_plain_49 : decode cX12_plain 49 = .ok (.iconst 4, 1) := by decide +kernel
theorem dX12_plain_50 : decode cX12_plain 50 = .ok (.iadd, 1) := by decide +kernel
theorem dX12_plain_51 : decode cX12_plain 51 = .ok (.iconst 4, 1) := by decide +kernel
theorem dX12_plain_52 : decode cX12_plain 52 = .ok (.iastore, 1) := by decide +kernel
theorem dX12_plain_53 : decode cX12_plain 53 = .ok (.aload_n 0, 1) := by decide +kernel
theorem dX12_plain_54 : decode cX12_plain 54 = .ok (.getfield 7, 3) := by decide +kernel
theorem dX12_plain_57 : decode cX12_plain 57 = .ok (.iload_n 1, 1) := by decide +kernel
theorem dX12_plain_58 : decode cX12_plain 58 = .ok (.bipush 7, 2) := by decide +kernel
theorem dX12_plain_60 : decode cX12_plain 60 = .ok (.iadd, 1) := by decide +kernel
theorem dX12_plain_61 : decode cX12_plain 61 = .ok (.iconst 1, 1) := by decide +kernel
theorem dX12_plain_62 : decode cX12_plain 62 = .ok (.iastore, 1) := by decide +kernel
theorem dX12_plain_63 : decode cX12_plain 63 = .ok (.aload_n 0, 1) := by decide +kernel
theorem dX12_plain_64 : decode cX12_plain 64 = .ok (.getfield 7, 3) := by decide +kernel
theorem dX12_plain_67 : decode cX12_plain 67 = .ok (.iload_n 1, 1) := by decide +kernel
theorem dX12_plain_68 : decode cX12_plain 68 = .ok (.bipush 9, 2) := by decide +kernel
theorem dX12_plain_70 : decode cX12_plain 70 = .ok (.iadd, 1) := by decide +kernel
theorem dX12_plain_71 : decode cX12_plain 71 = .ok (.iconst (-1), 1) := by decide +kernel
theorem dX12_plain_72 : decode cX12_plain 72 = .ok (.iastore, 1) := by decide +kernel
theorem dX12_plain_73 : decode cX12_plain 73 = .ok (.return_, 1) := by decide +kernel
theorem dX12_status_0 : decode cX12_status 0 = .ok (.aload_n 0, 1) := by decide +kernel
theorem dX12_status_1 : decode cX12_status 1 = .ok (.getfield 85, 3) := by decide +kernel
theorem dX12_status_4 : decode cX12_status 4 = .ok (.ireturn, 1) := by decide +kernel
theorem dX12_top_0 : decode cX12_top 0 = .ok (.aload_n 0, 1) := by decide +kernel
theorem dX12_top_1 : decode cX12_top 1 = .ok (.getfield 88, 3) := by decide +kernel
theorem dX12_top_4 : decode cX12_top 4 = .ok (.lreturn, 1) := by decide +kernel
theorem dX12_bottom_0 : decode cX12_bottom 0 = .ok (.aload_n 0, 1) := by decide +kernel
theorem dX12_bottom_1 : decode cX12_bottom 1 = .ok (.getfield 17, 3) := by decide +kernel
theorem dX12_bottom_4 : decode cX12_bottom 4 = .ok (.lreturn, 1) := by decide +kernel
theorem dX12_is_0 : decode cX12_is 0 = .ok (.aload_n 0, 1) := by decide +kernel
theorem dX12_is_1 : decode cX12_is 1 = .ok (.iload_n 1, 1) := by decide +kernel
theorem dX12_is_2 : decode cX12_is 2 = .ok (.putfield 85, 3) := by decide +kernel
theorem dX12_is_5 : decode cX12_is 5 = .ok (.iload_n 1, 1) := by decide +kernel
theorem dX12_is_6 : decode cX12_is 6 = .ok (.ifCond .ne 7, 3) := by decide +kernel
theorem dX12_is_9 : decode cX12_is 9 = .ok (.iconst 1, 1) := by decide +kernel
theorem dX12_is_10 : decode cX12_is 10 = .ok (.goto 4, 3) := by decide +kernel
theorem dX12_is_13 : decode cX12_is 13 = .ok (.iconst 0, 1) := by decide +kernel
theorem dX12_is_14 : decode cX12_is 14 = .ok (.ireturn, 1) := by decide +kernel
theorem dX12_refuse_0 : decode cX12_refuse 0 = .ok (.aload_n 0, 1) := by decide +kernel
theorem dX12_refuse_1 : decode cX12_refuse 1 = .ok (.iload_n 1, 1) := by decide +kernel
theorem dX12_refuse_2 : decode cX12_refuse 2 = .ok (.putfield 85, 3) := by decide +kernel
theorem dX12_refuse_5 : decode cX12_refuse 5 = .ok (.iconst (-1), 1) := by decide +kernel
theorem dX12_refuse_6 : decode cX12_refuse 6 = .ok (.ireturn, 1) := by decide +kernel
theorem dX12_gives_0 : decode cX12_gives 0 = .ok (.aload_n 0, 1) := by decide +kernel
theorem dX12_gives_1 : decode cX12_gives 1 = .ok (.iconst 0, 1) := by decide +kernel
theorem dX12_gives_2 : decode cX12_gives 2 = .ok (.putfield 85, 3) := by decide +kernel
theorem dX12_gives_5 : decode cX12_gives 5 = .ok (.iload_n 1, 1) := by decide +kernel
theorem dX12_gives_6 : decode cX12_gives 6 = .ok (.ireturn, 1) := by decide +kernel
theorem dX12_orNone_0 : decode cX12_orNone 0 = .ok (.iload_n 1, 1) := by decide +kernel
theorem dX12_orNone_1 : decode cX12_orNone 1 = .ok (.iconst (-1), 1) := by decide +kernel
theorem dX12_orNone_2 : decode cX12_orNone 2 = .ok (.if_icmp .ne 12, 3) := by decide +kernel
theorem dX12_orNone_5 : decode cX12_orNone 5 = .ok (.aload_n 0, 1) := by decide +kernel
theorem dX12_orNone_6 : decode cX12_orNone 6 = .ok (.bipush 6, 2) := by decide +kernel
theorem dX12_orNone_8 : decode cX12_orNone 8 = .ok (.invokevirtual 91, 3) := by decide +kernel
theorem dX12_orNone_11 : decode cX12_orNone 11 = .ok (.goto 8, 3) := by decide +kernel
theorem dX12_orNone_14 : decode cX12_orNone 14 = .ok (.aload_n 0, 1) := by decide +kernel
theorem dX12_orNone_15 : decode cX12_orNone 15 = .ok (.iload_n 1, 1) := by decide +kernel
theorem dX12_orNone_16 : decode cX12_orNone 16 = .ok (.invokevirtual 95, 3) := by decide +kernel
theorem dX12_orNone_19 : decode cX12_orNone 19 = .ok (.ireturn, 1) := by decide +kernel
theorem dX12_tellsBy_0 : decode cX12_tellsBy 0 = .ok (.lload_n 1, 1) := by decide +kernel
theorem dX12_tellsBy_1 : decode cX12_tellsBy 1 = .ok (.lstore 5, 2) := by decide +kernel
theorem dX12_tellsBy_3 : decode cX12_tellsBy 3 = .ok (.lload_n 3, 1) := by decide +kernel
theorem dX12_tellsBy_4 : decode cX12_tellsBy 4 = .ok (.lstore 7, 2) := by decide +kernel
theorem dX12_tellsBy_6 : decode cX12_tellsBy 6 = .ok (.lload 7, 2) := by decide +kernel
theorem dX12_tellsBy_8 : decode cX12_tellsBy 8 = .ok (.lconst 0, 1) := by decide +kernel
theorem dX12_tellsBy_9 : decode cX12_tellsBy 9 = .ok (.lcmp, 1) := by decide +kernel
theorem dX12_tellsBy_10 : decode cX12_tellsBy 10 = .ok (.ifCond .eq 21, 3) := by decide +kernel
theorem dX12_tellsBy_13 : decode cX12_tellsBy 13 = .ok (.lload 5, 2) := by decide +kernel
theorem dX12_tellsBy_15 : decode cX12_tellsBy 15 = .ok (.lload 7, 2) := by decide +kernel
theorem dX12_tellsBy_17 : decode cX12_tellsBy 17 = .ok (.lrem, 1) := by decide +kernel
theorem dX12_tellsBy_18 : decode cX12_tellsBy 18 = .ok (.lstore 9, 2) := by decide +kernel
theorem dX12_tellsBy_20 : decode cX12_tellsBy 20 = .ok (.lload 7, 2) := by decide +kernel
theorem dX12_tellsBy_22 : decode cX12_tellsBy 22 = .ok (.lstore 5, 2) := by decide +kernel
theorem dX12_tellsBy_24 : decode cX12_tellsBy 24 = .ok (.lload 9, 2) := by decide +kernel
theorem dX12_tellsBy_26 : decode cX12_tellsBy 26 = .ok (.lstore 7, 2) := by decide +kernel
theorem dX12_tellsBy_28 : decode cX12_tellsBy 28 = .ok (.goto (-22), 3) := by decide +kernel
theorem dX12_tellsBy_31 : decode cX12_tellsBy 31 = .ok (.aload_n 0, 1) := by decide +kernel
theorem dX12_tellsBy_32 : decode cX12_tellsBy 32 = .ok (.lload_n 1, 1) := by decide +kernel
theorem dX12_tellsBy_33 : decode cX12_tellsBy 33 = .ok (.lload 5, 2) := by decide +kernel
theorem dX12_tellsBy_35 : decode cX12_tellsBy 35 = .ok (.ldiv, 1) := by decide +kernel
theorem dX12_tellsBy_36 : decode cX12_tellsBy 36 = .ok (.putfield 88, 3) := by decide +kernel
theorem dX12_tellsBy_39 : decode cX12_tellsBy 39 = .ok (.aload_n 0, 1) := by decide +kernel
theorem dX12_tellsBy_40 : decode cX12_tellsBy 40 = .ok (.lload_n 3, 1) := by decide +kernel
theorem dX12_tellsBy_41 : decode cX12_tellsBy 41 = .ok (.lload 5, 2) := by decide +kernel
theorem dX12_tellsBy_43 : decode cX12_tellsBy 43 = .ok (.ldiv, 1) := by decide +kernel
theorem dX12_tellsBy_44 : decode cX12_tellsBy 44 = .ok (.putfield 17, 3) := by decide +kernel
theorem dX12_tellsBy_47 : decode cX12_tellsBy 47 = .ok (.aload_n 0, 1) := by decide +kernel
theorem dX12_tellsBy_48 : decode cX12_tellsBy 48 = .ok (.iconst 0, 1) := by decide +kernel
theorem dX12_tellsBy_49 : decode cX12_tellsBy 49 = .ok (.invokevirtual 98, 3) := by decide +kernel
theorem dX12_tellsBy_52 : decode cX12_tellsBy 52 = .ok (.ireturn, 1) := by decide +kernel
theorem dX12_isTray_0 : decode cX12_isTray 0 = .ok (.iload_n 0, 1) := by decide +kernel
theorem dX12_isTray_1 : decode cX12_isTray 1 = .ok (.ifCond .lt 12, 3) := by decide +kernel
theorem dX12_isTray_4 : decode cX12_isTray 4 = .ok (.iload_n 0, 1) := by decide +kernel
theorem dX12_isTray_5 : decode cX12_isTray 5 = .ok (.iconst 4, 1) := by decide +kernel
theorem dX12_isTray_6 : decode cX12_isTray 6 = .ok (.if_icmp .ge 7, 3) := by decide +kernel
theorem dX12_isTray_9 : decode cX12_isTray 9 = .ok (.iconst 1, 1) := by decide +kernel
theorem dX12_isTray_10 : decode cX12_isTray 10 = .ok (.goto 4, 3) := by decide +kernel
theorem dX12_isTray_13 : decode cX12_isTray 13 = .ok (.iconst 0, 1) := by decide +kernel
theorem dX12_isTray_14 : decode cX12_isTray 14 = .ok (.ireturn, 1) := by decide +kernel
theorem dX12_cut_0 : decode cX12_cut 0 = .ok (.iload_n 2, 1) := by decide +kernel
theorem dX12_cut_1 : decode cX12_cut 1 = .ok (.ifCond .ne 10, 3) := by decide +kernel
theorem dX12_cut_4 : decode cX12_cut 4 = .ok (.lload_n 0, 1) := by decide +kernel
theorem dX12_cut_5 : decode cX12_cut 5 = .ok (.l2i, 1) := by decide +kernel
theorem dX12_cut_6 : decode cX12_cut 6 = .ok (.i2b, 1) := by decide +kernel
theorem dX12_cut_7 : decode cX12_cut 7 = .ok (.i2l, 1) := by decide +kernel
theorem dX12_cut_8 : decode cX12_cut 8 = .ok (.goto 27, 3) := by decide +kernel
theorem dX12_cut_11 : decode cX12_cut 11 = .ok (.iload_n 2, 1) := by decide +kernel
theorem dX12_cut_12 : decode cX12_cut 12 = .ok (.iconst 1, 1) := by decide +kernel
theorem dX12_cut_13 : decode cX12_cut 13 = .ok (.if_icmp .ne 10, 3) := by decide +kernel
theorem dX12_cut_16 : decode cX12_cut 16 = .ok (.lload_n 0, 1) := by decide +kernel
theorem dX12_cut_17 : decode cX12_cut 17 = .ok (.l2i, 1) := by decide +kernel
theorem dX12_cut_18 : decode cX12_cut 18 = .ok (.i2s, 1) := by decide +kernel
theorem dX12_cut_19 : decode cX12_cut 19 = .ok (.i2l, 1) := by decide +kernel
theorem dX12_cut_20 : decode cX12_cut 20 = .ok (.goto 15, 3) := by decide +kernel
theorem dX12_cut_23 : decode cX12_cut 23 = .ok (.iload_n 2, 1) := by decide +kernel
theorem dX12_cut_24 : decode cX12_cut 24 = .ok (.iconst 2, 1) := by decide +kernel
theorem dX12_cut_25 : decode cX12_cut 25 = .ok (.if_icmp .ne 9, 3) := by decide +kernel
theorem dX12_cut_28 : decode cX12_cut 28 = .ok (.lload_n 0, 1) := by decide +kernel
theorem dX12_cut_29 : decode cX12_cut 29 = .ok (.l2i, 1) := by decide +kernel
theorem dX12_cut_30 : decode cX12_cut 30 = .ok (.i2l, 1) := by decide +kernel
theorem dX12_cut_31 : decode cX12_cut 31 = .ok (.goto 4, 3) := by decide +kernel
theorem dX12_cut_34 : decode cX12_cut 34 = .ok (.lload_n 0, 1) := by decide +kernel
theorem dX12_cut_35 : decode cX12_cut 35 = .ok (.lreturn, 1) := by decide +kernel
theorem dX12_tray_0 : decode cX12_tray 0 = .ok (.iload_n 1, 1) := by decide +kernel
theorem dX12_tray_1 : decode cX12_tray 1 = .ok (.invokestatic 102, 3) := by decide +kernel
theorem dX12_tray_4 : decode cX12_tray 4 = .ok (.ifCond .eq 22, 3) := by decide +kernel
theorem dX12_tray_7 : decode cX12_tray 7 = .ok (.iload_n 2, 1) := by decide +kernel
theorem dX12_tray_8 : decode cX12_tray 8 = .ok (.ifCond .lt 18, 3) := by decide +kernel
theorem dX12_tray_11 : decode cX12_tray 11 = .ok (.iload_n 2, 1) := by decide +kernel
theorem dX12_tray_12 : decode cX12_tray 12 = .ok (.iconst 3, 1) := by decide +kernel
theorem dX12_tray_13 : decode cX12_tray 13 = .ok (.if_icmp .gt 13, 3) := by decide +kernel
theorem dX12_tray_16 : decode cX12_tray 16 = .ok (.iload_n 3, 1) := by decide +kernel
theorem dX12_tray_17 : decode cX12_tray 17 = .ok (.ifCond .lt 9, 3) := by decide +kernel
theorem dX12_tray_20 : decode cX12_tray 20 = .ok (.iload_n 3, 1) := by decide +kernel
theorem dX12_tray_21 : decode cX12_tray 21 = .ok (.bipush 60, 2) := by decide +kernel
theorem dX12_tray_23 : decode cX12_tray 23 = .ok (.if_icmp .le 9, 3) := by decide +kernel
theorem dX12_tray_26 : decode cX12_tray 26 = .ok (.aload_n 0, 1) := by decide +kernel
theorem dX12_tray_27 : decode cX12_tray 27 = .ok (.iconst 1, 1) := by decide +kernel
theorem dX12_tray_28 : decode cX12_tray 28 = .ok (.invokevirtual 98, 3) := by decide +kernel
theorem dX12_tray_31 : decode cX12_tray 31 = .ok (.ireturn, 1) := by decide +kernel
theorem dX12_tray_32 : decode cX12_tray 32 = .ok (.aload_n 0, 1) := by decide +kernel
theorem dX12_tray_33 : decode cX12_tray 33 = .ok (.getfield 21, 3) := by decide +kernel
theorem dX12_tray_36 : decode cX12_tray 36 = .ok (.iload_n 1, 1) := by decide +kernel
theorem dX12_tray_37 : decode cX12_tray 37 = .ok (.iload_n 2, 1) := by decide +kernel
theorem dX12_tray_38 : decode cX12_tray 38 = .ok (.iastore, 1) := by decide +kernel
theorem dX12_tray_39 : decode cX12_tray 39 = .ok (.aload_n 0, 1) := by decide +kernel
theorem dX12_tray_40 : decode cX12_tray 40 = .ok (.getfield 24, 3) := by decide +kernel
theorem dX12_tray_43 : decode cX12_tray 43 = .ok (.iload_n 1, 1) := by decide +kernel
theorem dX12_tray_44 : decode cX12_tray 44 = .ok (.iload_n 3, 1) := by decide +kernel
theorem dX12_tray_45 : decode cX12_tray 45 = .ok (.iastore, 1) := by decide +kernel
theorem dX12_tray_46 : decode cX12_tray 46 = .ok (.iconst 0, 1) := by decide +kernel
theorem dX12_tray_47 : decode cX12_tray 47 = .ok (.istore 4, 2) := by decide +kernel
theorem dX12_tray_49 : decode cX12_tray 49 = .ok (.iload 4, 2) := by decide +kernel
theorem dX12_tray_51 : decode cX12_tray 51 = .ok (.iload_n 3, 1) := by decide +kernel
theorem dX12_tray_52 : decode cX12_tray 52 = .ok (.if_icmp .ge 22, 3) := by decide +kernel
theorem dX12_tray_55 : decode cX12_tray 55 = .ok (.aload_n 0, 1) := by decide +kernel
theorem dX12_tray_56 : decode cX12_tray 56 = .ok (.getfield 27, 3) := by decide +kernel
theorem dX12_tray_59 : decode cX12_tray 59 = .ok (.bipush 60, 2) := by decide +kernel
theorem dX12_tray_61 : decode cX12_tray 61 = .ok (.iload_n 1, 1) := by decide +kernel
theorem dX12_tray_62 : decode cX12_tray 62 = .ok (.imul, 1) := by decide +kernel
theorem dX12_tray_63 : decode cX12_tray 63 = .ok (.iload 4, 2) := by decide +kernel
theorem dX12_tray_65 : decode cX12_tray 65 = .ok (.iadd, 1) := by decide +kernel
theorem dX12_tray_66 : decode cX12_tray 66 = .ok (.lconst 0, 1) := by decide +kernel
theorem dX12_tray_67 : decode cX12_tray 67 = .ok (.lastore, 1) := by decide +kernel
theorem dX12_tray_68 : decode cX12_tray 68 = .ok (.iinc 4 1, 3) := by decide +kernel
theorem dX12_tray_71 : decode cX12_tray 71 = .ok (.goto (-22), 3) := by decide +kernel
theorem dX12_tray_74 : decode cX12_tray 74 = .ok (.aload_n 0, 1) := by decide +kernel
theorem dX12_tray_75 : decode cX12_tray 75 = .ok (.iconst 0, 1) := by decide +kernel
theorem dX12_tray_76 : decode cX12_tray 76 = .ok (.invokevirtual 98, 3) := by decide +kernel
theorem dX12_tray_79 : decode cX12_tray 79 = .ok (.ireturn, 1) := by decide +kernel
theorem dX12_wrongPlace_0 : decode cX12_wrongPlace 0 = .ok (.iload_n 1, 1) := by decide +kernel
theorem dX12_wrongPlace_1 : decode cX12_wrongPlace 1 = .ok (.invokestatic 102, 3) := by decide +kernel
theorem dX12_wrongPlace_4 : decode cX12_wrongPlace 4 = .ok (.ifCond .ne 7, 3) := by decide +kernel
theorem dX12_wrongPlace_7 : decode cX12_wrongPlace 7 = .ok (.iconst 1, 1) := by decide +kernel
theorem dX12_wrongPlace_8 : decode cX12_wrongPlace 8 = .ok (.goto 36, 3) := by decide +kernel
theorem dX12_wrongPlace_11 : decode cX12_wrongPlace 11 = .ok (.aload_n 0, 1) := by decide +kernel
theorem dX12_wrongPlace_12 : decode cX12_wrongPlace 12 = .ok (.getfield 24, 3) := by decide +kernel
theorem dX12_wrongPlace_15 : decode cX12_wrongPlace 15 = .ok (.iload_n 1, 1) := by decide +kernel
theorem dX12_wrongPlace_16 : decode cX12_wrongPlace 16 = .ok (.iaload, 1) := by decide +kernel
theorem dX12_wrongPlace_17 : decode cX12_wrongPlace 17 = .ok (.iconst (-1), 1) := by decide +kernel
theorem dX12_wrongPlace_18 : decode cX12_wrongPlace 18 = .ok (.if_icmp .ne 7, 3) := by decide +kernel
theorem dX12_wrongPlace_21 : decode cX12_wrongPlace 21 = .ok (.iconst 2, 1) := by decide +kernel
theorem dX12_wrongPlace_22 : decode cX12_wrongPlace 22 = .ok (.goto 22, 3) := by decide +kernel
theorem dX12_wrongPlace_25 : decode cX12_wrongPlace 25 = .ok (.iload_n 2, 1) := by decide +kernel
theorem dX12_wrongPlace_26 : decode cX12_wrongPlace 26 = .ok (.ifCond .lt 13, 3) := by decide +kernel
theorem dX12_wrongPlace_29 : decode cX12_wrongPlace 29 = .ok (.iload_n 2, 1) := by decide +kernel
theorem dX12_wrongPlace_30 : decode cX12_wrongPlace 30 = .ok (.aload_n 0, 1) := by decide +kernel
theorem dX12_wrongPlace_31 : decode cX12_wrongPlace 31 = .ok (.getfield 24, 3) := by decide +kernel
theorem dX12_wrongPlace_34 : decode cX12_wrongPlace 34 = .ok (.iload_n 1, 1) := by decide +kernel
theorem dX12_wrongPlace_35 : decode cX12_wrongPlace 35 = .ok (.iaload, 1) := by decide +kernel
theorem dX12_wrongPlace_36 : decode cX12_wrongPlace 36 = .ok (.if_icmp .lt 7, 3) := by decide +kernel
theorem dX12_wrongPlace_39 : decode cX12_wrongPlace 39 = .ok (.iconst 3, 1) := by decide +kernel
theorem dX12_wrongPlace_40 : decode cX12_wrongPlace 40 = .ok (.goto 4, 3) := by decide +kernel
theorem dX12_wrongPlace_43 : decode cX12_wrongPlace 43 = .ok (.iconst 0, 1) := by decide +kernel
theorem dX12_wrongPlace_44 : decode cX12_wrongPlace 44 = .ok (.ireturn, 1) := by decide +kernel
theorem dX12_write_0 : decode cX12_write 0 = .ok (.aload_n 0, 1) := by decide +kernel
theorem dX12_write_1 : decode cX12_write 1 = .ok (.iload_n 1, 1) := by decide +kernel
theorem dX12_write_2 : decode cX12_write 2 = .ok (.iload_n 2, 1) := by decide +kernel
theorem dX12_write_3 : decode cX12_write 3 = .ok (.invokevirtual 105, 3) := by decide +kernel
theorem dX12_write_6 : decode cX12_write 6 = .ok (.istore 5, 2) := by decide +kernel
theorem dX12_write_8 : decode cX12_write 8 = .ok (.iload 5, 2) := by decide +kernel
theorem dX12_write_10 : decode cX12_write 10 = .ok (.ifCond .ne 24, 3) := by decide +kernel
theorem dX12_write_13 : decode cX12_write 13 = .ok (.aload_n 0, 1) := by decide +kernel
theorem dX12_write_14 : decode cX12_write 14 = .ok (.getfield 27, 3) := by decide +kernel
theorem dX12_write_17 : decode cX12_write 17 = .ok (.bipush 60, 2) := by decide +kernel
theorem dX12_write_19 : decode cX12_write 19 = .ok (.iload_n 1, 1) := by decide +kernel
theorem dX12_write_20 : decode cX12_write 20 = .ok (.imul, 1) := by decide +kernel
theorem dX12_write_21 : decode cX12_write 21 = .ok (.iload_n 2, 1) := by decide +kernel
theorem dX12_write_22 : decode cX12_write 22 = .ok (.iadd, 1) := by decide +kernel
theorem dX12_write_23 : decode cX12_write 23 = .ok (.lload_n 3, 1) := by decide +kernel
theorem dX12_write_24 : decode cX12_write 24 = .ok (.aload_n 0, 1) := by decide +kernel
theorem dX12_write_25 : decode cX12_write 25 = .ok (.getfield 21, 3) := by decide +kernel
theorem dX12_write_28 : decode cX12_write 28 = .ok (.iload_n 1, 1) := by decide +kernel
theorem dX12_write_29 : decode cX12_write 29 = .ok (.iaload, 1) := by decide +kernel
theorem dX12_write_30 : decode cX12_write 30 = .ok (.invokestatic 109, 3) := by decide +kernel
theorem dX12_write_33 : decode cX12_write 33 = .ok (.lastore, 1) := by decide +kernel
theorem dX12_write_34 : decode cX12_write 34 = .ok (.aload_n 0, 1) := by decide +kernel
theorem dX12_write_35 : decode cX12_write 35 = .ok (.iload 5, 2) := by decide +kernel
theorem dX12_write_37 : decode cX12_write 37 = .ok (.invokevirtual 98, 3) := by decide +kernel
theorem dX12_write_40 : decode cX12_write 40 = .ok (.ireturn, 1) := by decide +kernel
theorem dX12_read_0 : decode cX12_read 0 = .ok (.aload_n 0, 1) := by decide +kernel
theorem dX12_read_1 : decode cX12_read 1 = .ok (.aload_n 0, 1) := by decide +kernel
theorem dX12_read_2 : decode cX12_read 2 = .ok (.iload_n 1, 1) := by decide +kernel
theorem dX12_read_3 : decode cX12_read 3 = .ok (.iload_n 2, 1) := by decide +kernel
theorem dX12_read_4 : decode cX12_read 4 = .ok (.invokevirtual 105, 3) := by decide +kernel
theorem dX12_read_7 : decode cX12_read 7 = .ok (.putfield 85, 3) := by decide +kernel
theorem dX12_read_10 : decode cX12_read 10 = .ok (.aload_n 0, 1) := by decide +kernel
theorem dX12_read_11 : decode cX12_read 11 = .ok (.getfield 85, 3) := by decide +kernel
theorem dX12_read_14 : decode cX12_read 14 = .ok (.ifCond .le 9, 3) := by decide +kernel
theorem dX12_read_17 : decode cX12_read 17 = .ok (.ldc2_w 113, 3) := by decide +kernel
theorem dX12_read_20 : decode cX12_read 20 = .ok (.goto 14, 3) := by decide +kernel
theorem dX12_read_23 : decode cX12_read 23 = .ok (.aload_n 0, 1) := by decide +kernel
theorem dX12_read_24 : decode cX12_read 24 = .ok (.getfield 27, 3) := by decide +kernel
theorem dX12_read_27 : decode cX12_read 27 = .ok (.bipush 60, 2) := by decide +kernel
theorem dX12_read_29 : decode cX12_read 29 = .ok (.iload_n 1, 1) := by decide +kernel
theorem dX12_read_30 : decode cX12_read 30 = .ok (.imul, 1) := by decide +kernel
theorem dX12_read_31 : decode cX12_read 31 = .ok (.iload_n 2, 1) := by decide +kernel
theorem dX12_read_32 : decode cX12_read 32 = .ok (.iadd, 1) := by decide +kernel
theorem dX12_read_33 : decode cX12_read 33 = .ok (.laload, 1) := by decide +kernel
theorem dX12_read_34 : decode cX12_read 34 = .ok (.lreturn, 1) := by decide +kernel
theorem dX12_pour_0 : decode cX12_pour 0 = .ok (.iload_n 1, 1) := by decide +kernel
theorem dX12_pour_1 : decode cX12_pour 1 = .ok (.invokestatic 102, 3) := by decide +kernel
theorem dX12_pour_4 : decode cX12_pour 4 = .ok (.ifCond .eq 24, 3) := by decide +kernel
theorem dX12_pour_7 : decode cX12_pour 7 = .ok (.iload_n 3, 1) := by decide +kernel
theorem dX12_pour_8 : decode cX12_pour 8 = .ok (.invokestatic 102, 3) := by decide +kernel
theorem dX12_pour_11 : decode cX12_pour 11 = .ok (.ifCond .eq 17, 3) := by decide +kernel
theorem dX12_pour_14 : decode cX12_pour 14 = .ok (.iload_n 2, 1) := by decide +kernel
theorem dX12_pour_15 : decode cX12_pour 15 = .ok (.ifCond .lt 13, 3) := by decide +kernel
theorem dX12_pour_18 : decode cX12_pour 18 = .ok (.iload 4, 2) := by decide +kernel
theorem dX12_pour_20 : decode cX12_pour 20 = .ok (.ifCond .lt 8, 3) := by decide +kernel
theorem dX12_pour_23 : decode cX12_pour 23 = .ok (.iload 5, 2) := by decide +kernel
theorem dX12_pour_25 : decode cX12_pour 25 = .ok (.ifCond .ge 9, 3) := by decide +kernel
theorem dX12_pour_28 : decode cX12_pour 28 = .ok (.aload_n 0, 1) := by decide +kernel
theorem dX12_pour_29 : decode cX12_pour 29 = .ok (.iconst 1, 1) := by decide +kernel
theorem dX12_pour_30 : decode cX12_pour 30 = .ok (.invokevirtual 98, 3) := by decide +kernel
theorem dX12_pour_33 : decode cX12_pour 33 = .ok (.ireturn, 1) := by decide +kernel
theorem dX12_pour_34 : decode cX12_pour 34 = .ok (.aload_n 0, 1) := by decide +kernel
theorem dX12_pour_35 : decode cX12_pour 35 = .ok (.getfield 24, 3) := by decide +kernel
theorem dX12_pour_38 : decode cX12_pour 38 = .ok (.iload_n 1, 1) := by decide +kernel
theorem dX12_pour_39 : decode cX12_pour 39 = .ok (.iaload, 1) := by decide +kernel
theorem dX12_pour_40 : decode cX12_pour 40 = .ok (.iconst (-1), 1) := by decide +kernel
theorem dX12_pour_41 : decode cX12_pour 41 = .ok (.if_icmp .eq 13, 3) := by decide +kernel
theorem dX12_pour_44 : decode cX12_pour 44 = .ok (.aload_n 0, 1) := by decide +kernel
theorem dX12_pour_45 : decode cX12_pour 45 = .ok (.getfield 24, 3) := by decide +kernel
theorem dX12_pour_48 : decode cX12_pour 48 = .ok (.iload_n 3, 1) := by decide +kernel
theorem dX12_pour_49 : decode cX12_pour 49 = .ok (.iaload, 1) := by decide +kernel
theorem dX12_pour_50 : decode cX12_pour 50 = .ok (.iconst (-1), 1) := by decide +kernel
theorem dX12_pour_51 : decode cX12_pour 51 = .ok (.if_icmp .ne 9, 3) := by decide +kernel
theorem dX12_pour_54 : decode cX12_pour 54 = .ok (.aload_n 0, 1) := by decide +kernel
theorem dX12_pour_55 : decode cX12_pour 55 = .ok (.iconst 2, 1) := by decide +kernel
theorem dX12_pour_56 : decode cX12_pour 56 = .ok (.invokevirtual 98, 3) := by decide +kernel
theorem dX12_pour_59 : decode cX12_pour 59 = .ok (.ireturn, 1) := by decide +kernel
theorem dX12_pour_60 : decode cX12_pour 60 = .ok (.aload_n 0, 1) := by decide +kernel
theorem dX12_pour_61 : decode cX12_pour 61 = .ok (.getfield 21, 3) := by decide +kernel
theorem dX12_pour_64 : decode cX12_pour 64 = .ok (.iload_n 1, 1) := by decide +kernel
theorem dX12_pour_65 : decode cX12_pour 65 = .ok (.iaload, 1) := by decide +kernel
theorem dX12_pour_66 : decode cX12_pour 66 = .ok (.aload_n 0, 1) := by decide +kernel
theorem dX12_pour_67 : decode cX12_pour 67 = .ok (.getfield 21, 3) := by decide +kernel
theorem dX12_pour_70 : decode cX12_pour 70 = .ok (.iload_n 3, 1) := by decide +kernel
theorem dX12_pour_71 : decode cX12_pour 71 = .ok (.iaload, 1) := by decide +kernel
theorem dX12_pour_72 : decode cX12_pour 72 = .ok (.if_icmp .eq 10, 3) := by decide +kernel
theorem dX12_pour_75 : decode cX12_pour 75 = .ok (.aload_n 0, 1) := by decide +kernel
theorem dX12_pour_76 : decode cX12_pour 76 = .ok (.bipush 8, 2) := by decide +kernel
theorem dX12_pour_78 : decode cX12_pour 78 = .ok (.invokevirtual 98, 3) := by decide +kernel
theorem dX12_pour_81 : decode cX12_pour 81 = .ok (.ireturn, 1) := by decide +kernel
theorem dX12_pour_82 : decode cX12_pour 82 = .ok (.iload 5, 2) := by decide +kernel
theorem dX12_pour_84 : decode cX12_pour 84 = .ok (.aload_n 0, 1) := by decide +kernel
theorem dX12_pour_85 : decode cX12_pour 85 = .ok (.getfield 24, 3) := by decide +kernel
theorem dX12_pour_88 : decode cX12_pour 88 = .ok (.iload_n 1, 1) := by decide +kernel
theorem dX12_pour_89 : decode cX12_pour 89 = .ok (.iaload, 1) := by decide +kernel
theorem dX12_pour_90 : decode cX12_pour 90 = .ok (.iload_n 2, 1) := by decide +kernel
theorem dX12_pour_91 : decode cX12_pour 91 = .ok (.isub, 1) := by decide +kernel
theorem dX12_pour_92 : decode cX12_pour 92 = .ok (.if_icmp .gt 17, 3) := by decide +kernel
theorem dX12_pour_95 : decode cX12_pour 95 = .ok (.iload 5, 2) := by decide +kernel
theorem dX12_pour_97 : decode cX12_pour 97 = .ok (.aload_n 0, 1) := by decide +kernel
theorem dX12_pour_98 : decode cX12_pour 98 = .ok (.getfield 24, 3) := by decide +kernel
theorem dX12_pour_101 : decode cX12_pour 101 = .ok (.iload_n 3, 1) := by decide +kernel
theorem dX12_pour_102 : decode cX12_pour 102 = .ok (.iaload, 1) := by decide +kernel
theorem dX12_pour_103 : decode cX12_pour 103 = .ok (.iload 4, 2) := by decide +kernel
theorem dX12_pour_105 : decode cX12_pour 105 = .ok (.isub, 1) := by decide +kernel
theorem dX12_pour_106 : decode cX12_pour 106 = .ok (.if_icmp .le 9, 3) := by decide +kernel
theorem dX12_pour_109 : decode cX12_pour 109 = .ok (.aload_n 0, 1) := by decide +kernel
theorem dX12_pour_110 : decode cX12_pour 110 = .ok (.iconst 3, 1) := by decide +kernel
theorem dX12_pour_111 : decode cX12_pour 111 = .ok (.invokevirtual 98, 3) := by decide +kernel
theorem dX12_pour_114 : decode cX12_pour 114 = .ok (.ireturn, 1) := by decide +kernel
theorem dX12_pour_115 : decode cX12_pour 115 = .ok (.iconst 0, 1) := by decide +kernel
theorem dX12_pour_116 : decode cX12_pour 116 = .ok (.istore 6, 2) := by decide +kernel
theorem dX12_pour_118 : decode cX12_pour 118 = .ok (.iload 6, 2) := by decide +kernel
theorem dX12_pour_120 : decode cX12_pour 120 = .ok (.iload 5, 2) := by decide +kernel
theorem dX12_pour_122 : decode cX12_pour 122 = .ok (.if_icmp .ge 58, 3) := by decide +kernel
theorem dX12_pour_125 : decode cX12_pour 125 = .ok (.iload_n 2, 1) := by decide +kernel
theorem dX12_pour_126 : decode cX12_pour 126 = .ok (.iload 4, 2) := by decide +kernel
theorem dX12_pour_128 : decode cX12_pour 128 = .ok (.if_icmp .ge 13, 3) := by decide +kernel
theorem dX12_pour_131 : decode cX12_pour 131 = .ok (.iload 5, 2) := by decide +kernel
theorem dX12_pour_133 : decode cX12_pour 133 = .ok (.iconst 1, 1) := by decide +kernel
theorem dX12_pour_134 : decode cX12_pour 134 = .ok (.isub, 1) := by decide +kernel
theorem dX12_pour_135 : decode cX12_pour 135 = .ok (.iload 6, 2) := by decide +kernel
theorem dX12_pour_137 : decode cX12_pour 137 = .ok (.isub, 1) := by decide +kernel
theorem dX12_pour_138 : decode cX12_pour 138 = .ok (.goto 5, 3) := by decide +kernel
theorem dX12_pour_141 : decode cX12_pour 141 = .ok (.iload 6, 2) := by decide +kernel
theorem dX12_pour_143 : decode cX12_pour 143 = .ok (.istore 7, 2) := by decide +kernel
theorem dX12_pour_145 : decode cX12_pour 145 = .ok (.aload_n 0, 1) := by decide +kernel
theorem dX12_pour_146 : decode cX12_pour 146 = .ok (.getfield 27, 3) := by decide +kernel
theorem dX12_pour_149 : decode cX12_pour 149 = .ok (.bipush 60, 2) := by decide +kernel
theorem dX12_pour_151 : decode cX12_pour 151 = .ok (.iload_n 3, 1) := by decide +kernel
theorem dX12_pour_152 : decode cX12_pour 152 = .ok (.imul, 1) := by decide +kernel
theorem dX12_pour_153 : decode cX12_pour 153 = .ok (.iload 4, 2) := by decide +kernel
theorem dX12_pour_155 : decode cX12_pour 155 = .ok (.iadd, 1) := by decide +kernel
theorem dX12_pour_156 : decode cX12_pour 156 = .ok (.iload 7, 2) := by decide +kernel
theorem dX12_pour_158 : decode cX12_pour 158 = .ok (.iadd, 1) := by decide +kernel
theorem dX12_pour_159 : decode cX12_pour 159 = .ok (.aload_n 0, 1) := by decide +kernel
theorem dX12_pour_160 : decode cX12_pour 160 = .ok (.getfield 27, 3) := by decide +kernel
theorem dX12_pour_163 : decode cX12_pour 163 = .ok (.bipush 60, 2) := by decide +kernel
theorem dX12_pour_165 : decode cX12_pour 165 = .ok (.iload_n 1, 1) := by decide +kernel
theorem dX12_pour_166 : decode cX12_pour 166 = .ok (.imul, 1) := by decide +kernel
theorem dX12_pour_167 : decode cX12_pour 167 = .ok (.iload_n 2, 1) := by decide +kernel
theorem dX12_pour_168 : decode cX12_pour 168 = .ok (.iadd, 1) := by decide +kernel
theorem dX12_pour_169 : decode cX12_pour 169 = .ok (.iload 7, 2) := by decide +kernel
theorem dX12_pour_171 : decode cX12_pour 171 = .ok (.iadd, 1) := by decide +kernel
theorem dX12_pour_172 : decode cX12_pour 172 = .ok (.laload, 1) := by decide +kernel
theorem dX12_pour_173 : decode cX12_pour 173 = .ok (.lastore, 1) := by decide +kernel
theorem dX12_pour_174 : decode cX12_pour 174 = .ok (.iinc 6 1, 3) := by decide +kernel
theorem dX12_pour_177 : decode cX12_pour 177 = .ok (.goto (-59), 3) := by decide +kernel
theorem dX12_pour_180 : decode cX12_pour 180 = .ok (.aload_n 0, 1) := by decide +kernel
theorem dX12_pour_181 : decode cX12_pour 181 = .ok (.iconst 0, 1) := by decide +kernel
theorem dX12_pour_182 : decode cX12_pour 182 = .ok (.invokevirtual 98, 3) := by decide +kernel
theorem dX12_pour_185 : decode cX12_pour 185 = .ok (.ireturn, 1) := by decide +kernel
theorem dX12_isFrom_0 : decode cX12_isFrom 0 = .ok (.lload_n 0, 1) := by decide +kernel
theorem dX12_isFrom_1 : decode cX12_isFrom 1 = .ok (.lload_n 2, 1) := by decide +kernel
theorem dX12_isFrom_2 : decode cX12_isFrom 2 = .ok (.lcmp, 1) := by decide +kernel
theorem dX12_isFrom_3 : decode cX12_isFrom 3 = .ok (.ifCond .lt 14, 3) := by decide +kernel
theorem dX12_isFrom_6 : decode cX12_isFrom 6 = .ok (.lload_n 0, 1) := by decide +kernel
theorem dX12_isFrom_7 : decode cX12_isFrom 7 = .ok (.lload 4, 2) := by decide +kernel
theorem dX12_isFrom_9 : decode cX12_isFrom 9 = .ok (.lcmp, 1) := by decide +kernel
theorem dX12_isFrom_10 : decode cX12_isFrom 10 = .ok (.ifCond .gt 7, 3) := by decide +kernel
theorem dX12_isFrom_13 : decode cX12_isFrom 13 = .ok (.iconst 1, 1) := by decide +kernel
theorem dX12_isFrom_14 : decode cX12_isFrom 14 = .ok (.goto 4, 3) := by decide +kernel
theorem dX12_isFrom_17 : decode cX12_isFrom 17 = .ok (.iconst 0, 1) := by decide +kernel
theorem dX12_isFrom_18 : decode cX12_isFrom 18 = .ok (.ireturn, 1) := by decide +kernel
theorem dX12_feed_0 : decode cX12_feed 0 = .ok (.aload_n 0, 1) := by decide +kernel
theorem dX12_feed_1 : decode cX12_feed 1 = .ok (.getfield 115, 3) := by decide +kernel
theorem dX12_feed_4 : decode cX12_feed 4 = .ok (.bipush 20, 2) := by decide +kernel
theorem dX12_feed_6 : decode cX12_feed 6 = .ok (.iadd, 1) := by decide +kernel
theorem dX12_feed_7 : decode cX12_feed 7 = .ok (.sipush 900, 3) := by decide +kernel
theorem dX12_feed_10 : decode cX12_feed 10 = .ok (.if_icmp .le 5, 3) := by decide +kernel
theorem dX12_feed_13 : decode cX12_feed 13 = .ok (.iconst (-1), 1) := by decide +kernel
theorem dX12_feed_14 : decode cX12_feed 14 = .ok (.ireturn, 1) := by decide +kernel
theorem dX12_feed_15 : decode cX12_feed 15 = .ok (.aload_n 0, 1) := by decide +kernel
theorem dX12_feed_16 : decode cX12_feed 16 = .ok (.iload_n 1, 1) := by decide +kernel
theorem dX12_feed_17 : decode cX12_feed 17 = .ok (.invokevirtual 118, 3) := by decide +kernel
theorem dX12_feed_20 : decode cX12_feed 20 = .ok (.aload_n 0, 1) := by decide +kernel
theorem dX12_feed_21 : decode cX12_feed 21 = .ok (.iload_n 2, 1) := by decide +kernel
theorem dX12_feed_22 : decode cX12_feed 22 = .ok (.invokevirtual 118, 3) := by decide +kernel
theorem dX12_feed_25 : decode cX12_feed 25 = .ok (.aload_n 0, 1) := by decide +kernel
theorem dX12_feed_26 : decode cX12_feed 26 = .ok (.iload_n 3, 1) := by decide +kernel
theorem dX12_feed_27 : decode cX12_feed 27 = .ok (.invokevirtual 118, 3) := by decide +kernel
theorem dX12_feed_30 : decode cX12_feed 30 = .ok (.aload_n 0, 1) := by decide +kernel
theorem dX12_feed_31 : decode cX12_feed 31 = .ok (.iload 4, 2) := by decide +kernel
theorem dX12_feed_33 : decode cX12_feed 33 = .ok (.invokevirtual 118, 3) := by decide +kernel
theorem dX12_feed_36 : decode cX12_feed 36 = .ok (.aload_n 0, 1) := by decide +kernel
theorem dX12_feed_37 : decode cX12_feed 37 = .ok (.iload 5, 2) := by decide +kernel
theorem dX12_feed_39 : decode cX12_feed 39 = .ok (.invokevirtual 118, 3) := by decide +kernel
theorem dX12_feed_42 : decode cX12_feed 42 = .ok (.aload_n 0, 1) := by decide +kernel
theorem dX12_feed_43 : decode cX12_feed 43 = .ok (.getfield 115, 3) := by decide +kernel
theorem dX12_feed_46 : decode cX12_feed 46 = .ok (.ireturn, 1) := by decide +kernel
theorem dX12_four_0 : decode cX12_four 0 = .ok (.bipush 24, 2) := by decide +kernel
theorem dX12_four_2 : decode cX12_four 2 = .ok (.istore_n 2, 1) := by decide +kernel
theorem dX12_four_3 : decode cX12_four 3 = .ok (.iload_n 2, 1) := by decide +kernel
theorem dX12_four_4 : decode cX12_four 4 = .ok (.ifCond .lt 32, 3) := by decide +kernel
theorem dX12_four_7 : decode cX12_four 7 = .ok (.aload_n 0, 1) := by decide +kernel
theorem dX12_four_8 : decode cX12_four 8 = .ok (.getfield 30, 3) := by decide +kernel
theorem dX12_four_11 : decode cX12_four 11 = .ok (.aload_n 0, 1) := by decide +kernel
theorem dX12_four_12 : decode cX12_four 12 = .ok (.getfield 115, 3) := by decide +kernel
theorem dX12_four_15 : decode cX12_four 15 = .ok (.iload_n 1, 1) := by decide +kernel
theorem dX12_four_16 : decode cX12_four 16 = .ok (.iload_n 2, 1) := by decide +kernel
theorem dX12_four_17 : decode cX12_four 17 = .ok (.ishr, 1) := by decide +kernel
theorem dX12_four_18 : decode cX12_four 18 = .ok (.i2b, 1) := by decide +kernel
theorem dX12_four_19 : decode cX12_four 19 = .ok (.bastore, 1) := by decide +kernel
theorem dX12_four_20 : decode cX12_four 20 = .ok (.aload_n 0, 1) := by decide +kernel
theorem dX12_four_21 : decode cX12_four 21 = .ok (.dup, 1) := by decide +kernel
theorem dX12_four_22 : decode cX12_four 22 = .ok (.getfield 115, 3) := by decide +kernel
theorem dX12_four_25 : decode cX12_four 25 = .ok (.iconst 1, 1) := by decide +kernel
theorem dX12_four_26 : decode cX12_four 26 = .ok (.iadd, 1) := by decide +kernel
theorem dX12_four_27 : decode cX12_four 27 = .ok (.putfield 115, 3) := by decide +kernel
theorem dX12_four_30 : decode cX12_four 30 = .ok (.iinc 2 (-8), 3) := by decide +kernel
theorem dX12_four_33 : decode cX12_four 33 = .ok (.goto (-30), 3) := by decide +kernel
theorem dX12_four_36 : decode cX12_four 36 = .ok (.return_, 1) := by decide +kernel
theorem dX12_byteAt_0 : decode cX12_byteAt 0 = .ok (.iload_n 1, 1) := by decide +kernel
theorem dX12_byteAt_1 : decode cX12_byteAt 1 = .ok (.aload_n 0, 1) := by decide +kernel
theorem dX12_byteAt_2 : decode cX12_byteAt 2 = .ok (.getfield 121, 3) := by decide +kernel
theorem dX12_byteAt_5 : decode cX12_byteAt 5 = .ok (.if_icmp .ge 16, 3) := by decide +kernel
theorem dX12_byteAt_8 : decode cX12_byteAt 8 = .ok (.aload_n 0, 1) := by decide +kernel
theorem dX12_byteAt_9 : decode cX12_byteAt 9 = .ok (.getfield 34, 3) := by decide +kernel
theorem dX12_byteAt_12 : decode cX12_byteAt 12 = .ok (.iload_n 1, 1) := by decide +kernel
theorem dX12_byteAt_13 : decode cX12_byteAt 13 = .ok (.baload, 1) := by decide +kernel
theorem dX12_byteAt_14 : decode cX12_byteAt 14 = .ok (.sipush 255, 3) := by decide +kernel
theorem dX12_byteAt_17 : decode cX12_byteAt 17 = .ok (.iand, 1) := by decide +kernel
theorem dX12_byteAt_18 : decode cX12_byteAt 18 = .ok (.goto 4, 3) := by decide +kernel
theorem dX12_byteAt_21 : decode cX12_byteAt 21 = .ok (.iconst (-1), 1) := by decide +kernel
theorem dX12_byteAt_22 : decode cX12_byteAt 22 = .ok (.ireturn, 1) := by decide +kernel
theorem dX12_isSmall_0 : decode cX12_isSmall 0 = .ok (.iload_n 0, 1) := by decide +kernel
theorem dX12_isSmall_1 : decode cX12_isSmall 1 = .ok (.bipush 97, 2) := by decide +kernel
theorem dX12_isSmall_3 : decode cX12_isSmall 3 = .ok (.if_icmp .lt 13, 3) := by decide +kernel
theorem dX12_isSmall_6 : decode cX12_isSmall 6 = .ok (.iload_n 0, 1) := by decide +kernel
theorem dX12_isSmall_7 : decode cX12_isSmall 7 = .ok (.bipush 122, 2) := by decide +kernel
theorem dX12_isSmall_9 : decode cX12_isSmall 9 = .ok (.if_icmp .gt 7, 3) := by decide +kernel
theorem dX12_isSmall_12 : decode cX12_isSmall 12 = .ok (.iconst 1, 1) := by decide +kernel
theorem dX12_isSmall_13 : decode cX12_isSmall 13 = .ok (.goto 4, 3) := by decide +kernel
theorem dX12_isSmall_16 : decode cX12_isSmall 16 = .ok (.iconst 0, 1) := by decide +kernel
theorem dX12_isSmall_17 : decode cX12_isSmall 17 = .ok (.ireturn, 1) := by decide +kernel
theorem dX12_isDigit_0 : decode cX12_isDigit 0 = .ok (.iload_n 0, 1) := by decide +kernel
theorem dX12_isDigit_1 : decode cX12_isDigit 1 = .ok (.bipush 48, 2) := by decide +kernel
theorem dX12_isDigit_3 : decode cX12_isDigit 3 = .ok (.if_icmp .lt 13, 3) := by decide +kernel
theorem dX12_isDigit_6 : decode cX12_isDigit 6 = .ok (.iload_n 0, 1) := by decide +kernel
theorem dX12_isDigit_7 : decode cX12_isDigit 7 = .ok (.bipush 57, 2) := by decide +kernel
theorem dX12_isDigit_9 : decode cX12_isDigit 9 = .ok (.if_icmp .gt 7, 3) := by decide +kernel
theorem dX12_isDigit_12 : decode cX12_isDigit 12 = .ok (.iconst 1, 1) := by decide +kernel
theorem dX12_isDigit_13 : decode cX12_isDigit 13 = .ok (.goto 4, 3) := by decide +kernel
theorem dX12_isDigit_16 : decode cX12_isDigit 16 = .ok (.iconst 0, 1) := by decide +kernel
theorem dX12_isDigit_17 : decode cX12_isDigit 17 = .ok (.ireturn, 1) := by decide +kernel
theorem dX12_ahead_0 : decode cX12_ahead 0 = .ok (.aload_n 0, 1) := by decide +kernel
theorem dX12_ahead_1 : decode cX12_ahead 1 = .ok (.aload_n 0, 1) := by decide +kernel
theorem dX12_ahead_2 : decode cX12_ahead 2 = .ok (.getfield 124, 3) := by decide +kernel
theorem dX12_ahead_5 : decode cX12_ahead 5 = .ok (.invokevirtual 127, 3) := by decide +kernel
theorem dX12_ahead_8 : decode cX12_ahead 8 = .ok (.bipush 32, 2) := by decide +kernel
theorem dX12_ahead_10 : decode cX12_ahead 10 = .ok (.if_icmp .eq 16, 3) := by decide +kernel
theorem dX12_ahead_13 : decode cX12_ahead 13 = .ok (.aload_n 0, 1) := by decide +kernel
theorem dX12_ahead_14 : decode cX12_ahead 14 = .ok (.aload_n 0, 1) := by decide +kernel
theorem dX12_ahead_15 : decode cX12_ahead 15 = .ok (.getfield 124, 3) := by decide +kernel
theorem dX12_ahead_18 : decode cX12_ahead 18 = .ok (.invokevirtual 127, 3) := by decide +kernel
theorem dX12_ahead_21 : decode cX12_ahead 21 = .ok (.bipush 10, 2) := by decide +kernel
theorem dX12_ahead_23 : decode cX12_ahead 23 = .ok (.if_icmp .ne 16, 3) := by decide +kernel
theorem dX12_ahead_26 : decode cX12_ahead 26 = .ok (.aload_n 0, 1) := by decide +kernel
theorem dX12_ahead_27 : decode cX12_ahead 27 = .ok (.dup, 1) := by decide +kernel
theorem dX12_ahead_28 : decode cX12_ahead 28 = .ok (.getfield 124, 3) := by decide +kernel
theorem dX12_ahead_31 : decode cX12_ahead 31 = .ok (.iconst 1, 1) := by decide +kernel
theorem dX12_ahead_32 : decode cX12_ahead 32 = .ok (.iadd, 1) := by decide +kernel
theorem dX12_ahead_33 : decode cX12_ahead 33 = .ok (.putfield 124, 3) := by decide +kernel
theorem dX12_ahead_36 : decode cX12_ahead 36 = .ok (.goto (-36), 3) := by decide +kernel
theorem dX12_ahead_39 : decode cX12_ahead 39 = .ok (.aload_n 0, 1) := by decide +kernel
theorem dX12_ahead_40 : decode cX12_ahead 40 = .ok (.aload_n 0, 1) := by decide +kernel
theorem dX12_ahead_41 : decode cX12_ahead 41 = .ok (.getfield 124, 3) := by decide +kernel
theorem dX12_ahead_44 : decode cX12_ahead 44 = .ok (.putfield 130, 3) := by decide +kernel
theorem dX12_ahead_47 : decode cX12_ahead 47 = .ok (.aload_n 0, 1) := by decide +kernel
theorem dX12_ahead_48 : decode cX12_ahead 48 = .ok (.aload_n 0, 1) := by decide +kernel
theorem dX12_ahead_49 : decode cX12_ahead 49 = .ok (.getfield 124, 3) := by decide +kernel
theorem dX12_ahead_52 : decode cX12_ahead 52 = .ok (.invokevirtual 127, 3) := by decide +kernel
theorem dX12_ahead_55 : decode cX12_ahead 55 = .ok (.istore_n 1, 1) := by decide +kernel
theorem dX12_ahead_56 : decode cX12_ahead 56 = .ok (.aload_n 0, 1) := by decide +kernel
theorem dX12_ahead_57 : decode cX12_ahead 57 = .ok (.iload_n 1, 1) := by decide +kernel
theorem dX12_ahead_58 : decode cX12_ahead 58 = .ok (.putfield 133, 3) := by decide +kernel
theorem dX12_ahead_61 : decode cX12_ahead 61 = .ok (.iload_n 1, 1) := by decide +kernel
theorem dX12_ahead_62 : decode cX12_ahead 62 = .ok (.iconst (-1), 1) := by decide +kernel
theorem dX12_ahead_63 : decode cX12_ahead 63 = .ok (.if_icmp .ne 11, 3) := by decide +kernel
theorem dX12_ahead_66 : decode cX12_ahead 66 = .ok (.aload_n 0, 1) := by decide +kernel
theorem dX12_ahead_67 : decode cX12_ahead 67 = .ok (.iconst 0, 1) := by decide +kernel
theorem dX12_ahead_68 : decode cX12_ahead 68 = .ok (.putfield 136, 3) := by decide +kernel
theorem dX12_ahead_71 : decode cX12_ahead 71 = .ok (.goto 180, 3) := by decide +kernel
theorem dX12_ahead_74 : decode cX12_ahead 74 = .ok (.iload_n 1, 1) := by decide +kernel
theorem dX12_ahead_75 : decode cX12_ahead 75 = .ok (.invokestatic 139, 3) := by decide +kernel
theorem dX12_ahead_78 : decode cX12_ahead 78 = .ok (.ifCond .eq 38, 3) := by decide +kernel
theorem dX12_ahead_81 : decode cX12_ahead 81 = .ok (.aload_n 0, 1) := by decide +kernel
theorem dX12_ahead_82 : decode cX12_ahead 82 = .ok (.aload_n 0, 1) := by decide +kernel
theorem dX12_ahead_83 : decode cX12_ahead 83 = .ok (.getfield 124, 3) := by decide +kernel
theorem dX12_ahead_86 : decode cX12_ahead 86 = .ok (.invokevirtual 127, 3) := by decide +kernel
theorem dX12_ahead_89 : decode cX12_ahead 89 = .ok (.invokestatic 139, 3) := by decide +kernel
theorem dX12_ahead_92 : decode cX12_ahead 92 = .ok (.ifCond .eq 16, 3) := by decide +kernel
theorem dX12_ahead_95 : decode cX12_ahead 95 = .ok (.aload_n 0, 1) := by decide +kernel
theorem dX12_ahead_96 : decode cX12_ahead 96 = .ok (.dup, 1) := by decide +kernel
theorem dX12_ahead_97 : decode cX12_ahead 97 = .ok (.getfield 124, 3) := by decide +kernel
theorem dX12_ahead_100 : decode cX12_ahead 100 = .ok (.iconst 1, 1) := by decide +kernel
theorem dX12_ahead_101 : decode cX12_ahead 101 = .ok (.iadd, 1) := by decide +kernel
theorem dX12_ahead_102 : decode cX12_ahead 102 = .ok (.putfield 124, 3) := by decide +kernel
theorem dX12_ahead_105 : decode cX12_ahead 105 = .ok (.goto (-24), 3) := by decide +kernel
theorem dX12_ahead_108 : decode cX12_ahead 108 = .ok (.aload_n 0, 1) := by decide +kernel
theorem dX12_ahead_109 : decode cX12_ahead 109 = .ok (.iconst 2, 1) := by decide +kernel
theorem dX12_ahead_110 : decode cX12_ahead 110 = .ok (.putfield 136, 3) := by decide +kernel
theorem dX12_ahead_113 : decode cX12_ahead 113 = .ok (.goto 138, 3) := by decide +kernel
theorem dX12_ahead_116 : decode cX12_ahead 116 = .ok (.iload_n 1, 1) := by decide +kernel
theorem dX12_ahead_117 : decode cX12_ahead 117 = .ok (.invokestatic 142, 3) := by decide +kernel
theorem dX12_ahead_120 : decode cX12_ahead 120 = .ok (.ifCond .eq 88, 3) := by decide +kernel
theorem dX12_ahead_123 : decode cX12_ahead 123 = .ok (.aload_n 0, 1) := by decide +kernel
theorem dX12_ahead_124 : decode cX12_ahead 124 = .ok (.iconst 0, 1) := by decide +kernel
theorem dX12_ahead_125 : decode cX12_ahead 125 = .ok (.putfield 133, 3) := by decide +kernel
theorem dX12_ahead_128 : decode cX12_ahead 128 = .ok (.aload_n 0, 1) := by decide +kernel
theorem dX12_ahead_129 : decode cX12_ahead 129 = .ok (.aload_n 0, 1) := by decide +kernel
theorem dX12_ahead_130 : decode cX12_ahead 130 = .ok (.getfield 124, 3) := by decide +kernel
theorem dX12_ahead_133 : decode cX12_ahead 133 = .ok (.invokevirtual 127, 3) := by decide +kernel
theorem dX12_ahead_136 : decode cX12_ahead 136 = .ok (.invokestatic 142, 3) := by decide +kernel
theorem dX12_ahead_139 : decode cX12_ahead 139 = .ok (.ifCond .eq 44, 3) := by decide +kernel
theorem dX12_ahead_142 : decode cX12_ahead 142 = .ok (.aload_n 0, 1) := by decide +kernel
theorem dX12_ahead_143 : decode cX12_ahead 143 = .ok (.ldc 145, 2) := by decide +kernel
theorem dX12_ahead_145 : decode cX12_ahead 145 = .ok (.bipush 10, 2) := by decide +kernel
theorem dX12_ahead_147 : decode cX12_ahead 147 = .ok (.aload_n 0, 1) := by decide +kernel
theorem dX12_ahead_148 : decode cX12_ahead 148 = .ok (.getfield 133, 3) := by decide +kernel
theorem dX12_ahead_151 : decode cX12_ahead 151 = .ok (.imul, 1) := by decide +kernel
theorem dX12_ahead_152 : decode cX12_ahead 152 = .ok (.aload_n 0, 1) := by decide +kernel
theorem dX12_ahead_153 : decode cX12_ahead 153 = .ok (.aload_n 0, 1) := by decide +kernel
theorem dX12_ahead_154 : decode cX12_ahead 154 = .ok (.getfield 124, 3) := by decide +kernel
theorem dX12_ahead_157 : decode cX12_ahead 157 = .ok (.invokevirtual 127, 3) := by decide +kernel
theorem dX12_ahead_160 : decode cX12_ahead 160 = .ok (.iadd, 1) := by decide +kernel
theorem dX12_ahead_161 : decode cX12_ahead 161 = .ok (.bipush 48, 2) := by decide +kernel
theorem dX12_ahead_163 : decode cX12_ahead 163 = .ok (.isub, 1) := by decide +kernel
theorem dX12_ahead_164 : decode cX12_ahead 164 = .ok (.invokestatic 146, 3) := by decide +kernel
theorem dX12_ahead_167 : decode cX12_ahead 167 = .ok (.putfield 133, 3) := by decide +kernel
theorem dX12_ahead_170 : decode cX12_ahead 170 = .ok (.aload_n 0, 1) := by decide +kernel
theorem dX12_ahead_171 : decode cX12_ahead 171 = .ok (.dup, 1) := by decide +kernel
theorem dX12_ahead_172 : decode cX12_ahead 172 = .ok (.getfield 124, 3) := by decide +kernel
theorem dX12_ahead_175 : decode cX12_ahead 175 = .ok (.iconst 1, 1) := by decide +kernel
theorem dX12_ahead_176 : decode cX12_ahead 176 = .ok (.iadd, 1) := by decide +kernel
theorem dX12_ahead_177 : decode cX12_ahead 177 = .ok (.putfield 124, 3) := by decide +kernel
theorem dX12_ahead_180 : decode cX12_ahead 180 = .ok (.goto (-52), 3) := by decide +kernel
theorem dX12_ahead_183 : decode cX12_ahead 183 = .ok (.aload_n 0, 1) := by decide +kernel
theorem dX12_ahead_184 : decode cX12_ahead 184 = .ok (.aload_n 0, 1) := by decide +kernel
theorem dX12_ahead_185 : decode cX12_ahead 185 = .ok (.getfield 124, 3) := by decide +kernel
theorem dX12_ahead_188 : decode cX12_ahead 188 = .ok (.aload_n 0, 1) := by decide +kernel
theorem dX12_ahead_189 : decode cX12_ahead 189 = .ok (.getfield 130, 3) := by decide +kernel
theorem dX12_ahead_192 : decode cX12_ahead 192 = .ok (.isub, 1) := by decide +kernel
theorem dX12_ahead_193 : decode cX12_ahead 193 = .ok (.iconst 4, 1) := by decide +kernel
theorem dX12_ahead_194 : decode cX12_ahead 194 = .ok (.if_icmp .le 7, 3) := by decide +kernel
theorem dX12_ahead_197 : decode cX12_ahead 197 = .ok (.iconst 1, 1) := by decide +kernel
theorem dX12_ahead_198 : decode cX12_ahead 198 = .ok (.goto 4, 3) := by decide +kernel
theorem dX12_ahead_201 : decode cX12_ahead 201 = .ok (.iconst 3, 1) := by decide +kernel
theorem dX12_ahead_202 : decode cX12_ahead 202 = .ok (.putfield 136, 3) := by decide +kernel
theorem dX12_ahead_205 : decode cX12_ahead 205 = .ok (.goto 46, 3) := by decide +kernel
theorem dX12_ahead_208 : decode cX12_ahead 208 = .ok (.aload_n 0, 1) := by decide +kernel
theorem dX12_ahead_209 : decode cX12_ahead 209 = .ok (.dup, 1) := by decide +kernel
theorem dX12_ahead_210 : decode cX12_ahead 210 = .ok (.getfield 124, 3) := by decide +kernel
theorem dX12_ahead_213 : decode cX12_ahead 213 = .ok (.iconst 1, 1) := by decide +kernel
theorem dX12_ahead_214 : decode cX12_ahead 214 = .ok (.iadd, 1) := by decide +kernel
theorem dX12_ahead_215 : decode cX12_ahead 215 = .ok (.putfield 124, 3) := by decide +kernel
theorem dX12_ahead_218 : decode cX12_ahead 218 = .ok (.aload_n 0, 1) := by decide +kernel
theorem dX12_ahead_219 : decode cX12_ahead 219 = .ok (.iload_n 1, 1) := by decide +kernel
theorem dX12_ahead_220 : decode cX12_ahead 220 = .ok (.bipush 59, 2) := by decide +kernel
theorem dX12_ahead_222 : decode cX12_ahead 222 = .ok (.if_icmp .eq 21, 3) := by decide +kernel
theorem dX12_ahead_225 : decode cX12_ahead 225 = .ok (.iload_n 1, 1) := by decide +kernel
theorem dX12_ahead_226 : decode cX12_ahead 226 = .ok (.bipush 60, 2) := by decide +kernel
theorem dX12_ahead_228 : decode cX12_ahead 228 = .ok (.if_icmp .eq 15, 3) := by decide +kernel
theorem dX12_ahead_231 : decode cX12_ahead 231 = .ok (.iload_n 1, 1) := by decide +kernel
theorem dX12_ahead_232 : decode cX12_ahead 232 = .ok (.bipush 62, 2) := by decide +kernel
theorem dX12_ahead_234 : decode cX12_ahead 234 = .ok (.if_icmp .eq 9, 3) := by decide +kernel
theorem dX12_ahead_237 : decode cX12_ahead 237 = .ok (.iload_n 1, 1) := by decide +kernel
theorem dX12_ahead_238 : decode cX12_ahead 238 = .ok (.bipush 61, 2) := by decide +kernel
theorem dX12_ahead_240 : decode cX12_ahead 240 = .ok (.if_icmp .ne 7, 3) := by decide +kernel
theorem dX12_ahead_243 : decode cX12_ahead 243 = .ok (.iconst 4, 1) := by decide +kernel
theorem dX12_ahead_244 : decode cX12_ahead 244 = .ok (.goto 4, 3) := by decide +kernel
theorem dX12_ahead_247 : decode cX12_ahead 247 = .ok (.iconst 1, 1) := by decide +kernel
theorem dX12_ahead_248 : decode cX12_ahead 248 = .ok (.putfield 136, 3) := by decide +kernel
theorem dX12_ahead_251 : decode cX12_ahead 251 = .ok (.return_, 1) := by decide +kernel
theorem dX12_isSign_0 : decode cX12_isSign 0 = .ok (.aload_n 0, 1) := by decide +kernel
theorem dX12_isSign_1 : decode cX12_isSign 1 = .ok (.getfield 136, 3) := by decide +kernel
theorem dX12_isSign_4 : decode cX12_isSign 4 = .ok (.iconst 4, 1) := by decide +kernel
theorem dX12_isSign_5 : decode cX12_isSign 5 = .ok (.if_icmp .ne 15, 3) := by decide +kernel
theorem dX12_isSign_8 : decode cX12_isSign 8 = .ok (.aload_n 0, 1) := by decide +kernel
theorem dX12_isSign_9 : decode cX12_isSign 9 = .ok (.getfield 133, 3) := by decide +kernel
theorem dX12_isSign_12 : decode cX12_isSign 12 = .ok (.iload_n 1, 1) := by decide +kernel
theorem dX12_isSign_13 : decode cX12_isSign 13 = .ok (.if_icmp .ne 7, 3) := by decide +kernel
theorem dX12_isSign_16 : decode cX12_isSign 16 = .ok (.iconst 1, 1) := by decide +kernel
theorem dX12_isSign_17 : decode cX12_isSign 17 = .ok (.goto 4, 3) := by decide +kernel
theorem dX12_isSign_20 : decode cX12_isSign 20 = .ok (.iconst 0, 1) := by decide +kernel
theorem dX12_isSign_21 : decode cX12_isSign 21 = .ok (.ireturn, 1) := by decide +kernel
theorem dX12_inWords_0 : decode cX12_inWords 0 = .ok (.aload_n 0, 1) := by decide +kernel
theorem dX12_inWords_1 : decode cX12_inWords 1 = .ok (.getfield 136, 3) := by decide +kernel
theorem dX12_inWords_4 : decode cX12_inWords 4 = .ok (.iconst 2, 1) := by decide +kernel
theorem dX12_inWords_5 : decode cX12_inWords 5 = .ok (.if_icmp .eq 5, 3) := by decide +kernel
theorem dX12_inWords_8 : decode cX12_inWords 8 = .ok (.iconst (-1), 1) := by decide +kernel
theorem dX12_inWords_9 : decode cX12_inWords 9 = .ok (.ireturn, 1) := by decide +kernel
theorem dX12_inWords_10 : decode cX12_inWords 10 = .ok (.iconst 0, 1) := by decide +kernel
theorem dX12_inWords_11 : decode cX12_inWords 11 = .ok (.istore_n 2, 1) := by decide +kernel
theorem dX12_inWords_12 : decode cX12_inWords 12 = .ok (.iconst 1, 1) := by decide +kernel
theorem dX12_inWords_13 : decode cX12_inWords 13 = .ok (.istore_n 3, 1) := by decide +kernel
theorem dX12_inWords_14 : decode cX12_inWords 14 = .ok (.iload_n 3, 1) := by decide +kernel
theorem dX12_inWords_15 : decode cX12_inWords 15 = .ok (.aload_n 1, 1) := by decide +kernel
theorem dX12_inWords_16 : decode cX12_inWords 16 = .ok (.invokevirtual 151, 3) := by decide +kernel
theorem dX12_inWords_19 : decode cX12_inWords 19 = .ok (.if_icmp .ge 114, 3) := by decide +kernel
theorem dX12_inWords_22 : decode cX12_inWords 22 = .ok (.iload_n 3, 1) := by decide +kernel
theorem dX12_inWords_23 : decode cX12_inWords 23 = .ok (.istore 4, 2) := by decide +kernel
theorem dX12_inWords_25 : decode cX12_inWords 25 = .ok (.aload_n 1, 1) := by decide +kernel
theorem dX12_inWords_26 : decode cX12_inWords 26 = .ok (.iload 4, 2) := by decide +kernel
theorem dX12_inWords_28 : decode cX12_inWords 28 = .ok (.invokevirtual 157, 3) := by decide +kernel
theorem dX12_inWords_31 : decode cX12_inWords 31 = .ok (.bipush 32, 2) := by decide +kernel
theorem dX12_inWords_33 : decode cX12_inWords 33 = .ok (.if_icmp .eq 9, 3) := by decide +kernel
theorem dX12_inWords_36 : decode cX12_inWords 36 = .ok (.iinc 4 1, 3) := by decide +kernel
theorem dX12_inWords_39 : decode cX12_inWords 39 = .ok (.goto (-14), 3) := by decide +kernel
theorem dX12_inWords_42 : decode cX12_inWords 42 = .ok (.iload 4, 2) := by decide +kernel
theorem dX12_inWords_44 : decode cX12_inWords 44 = .ok (.iload_n 3, 1) := by decide +kernel
theorem dX12_inWords_45 : decode cX12_inWords 45 = .ok (.isub, 1) := by decide +kernel
theorem dX12_inWords_46 : decode cX12_inWords 46 = .ok (.aload_n 0, 1) := by decide +kernel
theorem dX12_inWords_47 : decode cX12_inWords 47 = .ok (.getfield 124, 3) := by decide +kernel
theorem dX12_inWords_50 : decode cX12_inWords 50 = .ok (.aload_n 0, 1) := by decide +kernel
theorem dX12_inWords_51 : decode cX12_inWords 51 = .ok (.getfield 130, 3) := by decide +kernel
theorem dX12_inWords_54 : decode cX12_inWords 54 = .ok (.isub, 1) := by decide +kernel
theorem dX12_inWords_55 : decode cX12_inWords 55 = .ok (.if_icmp .ne 7, 3) := by decide +kernel
theorem dX12_inWords_58 : decode cX12_inWords 58 = .ok (.iconst 1, 1) := by decide +kernel
theorem dX12_inWords_59 : decode cX12_inWords 59 = .ok (.goto 4, 3) := by decide +kernel
theorem dX12_inWords_62 : decode cX12_inWords 62 = .ok (.iconst 0, 1) := by decide +kernel
theorem dX12_inWords_63 : decode cX12_inWords 63 = .ok (.istore 5, 2) := by decide +kernel
theorem dX12_inWords_65 : decode cX12_inWords 65 = .ok (.iload_n 3, 1) := by decide +kernel
theorem dX12_inWords_66 : decode cX12_inWords 66 = .ok (.istore 6, 2) := by decide +kernel
theorem dX12_inWords_68 : decode cX12_inWords 68 = .ok (.iload 6, 2) := by decide +kernel
theorem dX12_inWords_70 : decode cX12_inWords 70 = .ok (.iload 4, 2) := by decide +kernel
theorem dX12_inWords_72 : decode cX12_inWords 72 = .ok (.if_icmp .ge 43, 3) := by decide +kernel
theorem dX12_inWords_75 : decode cX12_inWords 75 = .ok (.iload 5, 2) := by decide +kernel
theorem dX12_inWords_77 : decode cX12_inWords 77 = .ok (.ifCond .eq 38, 3) := by decide +kernel
theorem dX12_inWords_80 : decode cX12_inWords 80 = .ok (.aload_n 1, 1) := by decide +kernel
theorem dX12_inWords_81 : decode cX12_inWords 81 = .ok (.iload 6, 2) := by decide +kernel
theorem dX12_inWords_83 : decode cX12_inWords 83 = .ok (.invokevirtual 157, 3) := by decide +kernel
theorem dX12_inWords_86 : decode cX12_inWords 86 = .ok (.aload_n 0, 1) := by decide +kernel
theorem dX12_inWords_87 : decode cX12_inWords 87 = .ok (.aload_n 0, 1) := by decide +kernel
theorem dX12_inWords_88 : decode cX12_inWords 88 = .ok (.getfield 130, 3) := by decide +kernel
theorem dX12_inWords_91 : decode cX12_inWords 91 = .ok (.iload 6, 2) := by decide +kernel
theorem dX12_inWords_93 : decode cX12_inWords 93 = .ok (.iadd, 1) := by decide +kernel
theorem dX12_inWords_94 : decode cX12_inWords 94 = .ok (.iload_n 3, 1) := by decide +kernel
theorem dX12_inWords_95 : decode cX12_inWords 95 = .ok (.isub, 1) := by decide +kernel
theorem dX12_inWords_96 : decode cX12_inWords 96 = .ok (.invokevirtual 127, 3) := by decide +kernel
theorem dX12_inWords_99 : decode cX12_inWords 99 = .ok (.if_icmp .ne 7, 3) := by decide +kernel
theorem dX12_inWords_102 : decode cX12_inWords 102 = .ok (.iconst 1, 1) := by decide +kernel
theorem dX12_inWords_103 : decode cX12_inWords 103 = .ok (.goto 4, 3) := by decide +kernel
theorem dX12_inWords_106 : decode cX12_inWords 106 = .ok (.iconst 0, 1) := by decide +kernel
theorem dX12_inWords_107 : decode cX12_inWords 107 = .ok (.istore 5, 2) := by decide +kernel
theorem dX12_inWords_109 : decode cX12_inWords 109 = .ok (.iinc 6 1, 3) := by decide +kernel
theorem dX12_inWords_112 : decode cX12_inWords 112 = .ok (.goto (-44), 3) := by decide +kernel
theorem dX12_inWords_115 : decode cX12_inWords 115 = .ok (.iload 5, 2) := by decide +kernel
theorem dX12_inWords_117 : decode cX12_inWords 117 = .ok (.ifCond .eq 5, 3) := by decide +kernel
theorem dX12_inWords_120 : decode cX12_inWords 120 = .ok (.iload_n 2, 1) := by decide +kernel
theorem dX12_inWords_121 : decode cX12_inWords 121 = .ok (.ireturn, 1) := by decide +kernel
theorem dX12_inWords_122 : decode cX12_inWords 122 = .ok (.iinc 2 1, 3) := by decide +kernel
theorem dX12_inWords_125 : decode cX12_inWords 125 = .ok (.iload 4, 2) := by decide +kernel
theorem dX12_inWords_127 : decode cX12_inWords 127 = .ok (.iconst 1, 1) := by decide +kernel
theorem dX12_inWords_128 : decode cX12_inWords 128 = .ok (.iadd, 1) := by decide +kernel
theorem dX12_inWords_129 : decode cX12_inWords 129 = .ok (.istore_n 3, 1) := by decide +kernel
theorem dX12_inWords_130 : decode cX12_inWords 130 = .ok (.goto (-116), 3) := by decide +kernel
theorem dX12_inWords_133 : decode cX12_inWords 133 = .ok (.iconst (-1), 1) := by decide +kernel
theorem dX12_inWords_134 : decode cX12_inWords 134 = .ok (.ireturn, 1) := by decide +kernel
theorem dX12_fails_0 : decode cX12_fails 0 = .ok (.aload_n 0, 1) := by decide +kernel
theorem dX12_fails_1 : decode cX12_fails 1 = .ok (.getfield 161, 3) := by decide +kernel
theorem dX12_fails_4 : decode cX12_fails 4 = .ok (.ifCond .ne 28, 3) := by decide +kernel
theorem dX12_fails_7 : decode cX12_fails 7 = .ok (.aload_n 0, 1) := by decide +kernel
theorem dX12_fails_8 : decode cX12_fails 8 = .ok (.aload_n 0, 1) := by decide +kernel
theorem dX12_fails_9 : decode cX12_fails 9 = .ok (.getfield 136, 3) := by decide +kernel
theorem dX12_fails_12 : decode cX12_fails 12 = .ok (.iconst 1, 1) := by decide +kernel
theorem dX12_fails_13 : decode cX12_fails 13 = .ok (.if_icmp .ne 7, 3) := by decide +kernel
theorem dX12_fails_16 : decode cX12_fails 16 = .ok (.iconst 1, 1) := by decide +kernel
theorem dX12_fails_17 : decode cX12_fails 17 = .ok (.goto 4, 3) := by decide +kernel
theorem dX12_fails_20 : decode cX12_fails 20 = .ok (.iload_n 1, 1) := by decide +kernel
theorem dX12_fails_21 : decode cX12_fails 21 = .ok (.putfield 161, 3) := by decide +kernel
theorem dX12_fails_24 : decode cX12_fails 24 = .ok (.aload_n 0, 1) := by decide +kernel
theorem dX12_fails_25 : decode cX12_fails 25 = .ok (.aload_n 0, 1) := by decide +kernel
theorem dX12_fails_26 : decode cX12_fails 26 = .ok (.getfield 130, 3) := by decide +kernel
theorem dX12_fails_29 : decode cX12_fails 29 = .ok (.putfield 41, 3) := by decide +kernel
theorem dX12_fails_32 : decode cX12_fails 32 = .ok (.iconst 0, 1) := by decide +kernel
theorem dX12_fails_33 : decode cX12_fails 33 = .ok (.ireturn, 1) := by decide +kernel
theorem dX12_begins_0 : decode cX12_begins 0 = .ok (.iload_n 1, 1) := by decide +kernel
theorem dX12_begins_1 : decode cX12_begins 1 = .ok (.ifCond .lt 16, 3) := by decide +kernel
theorem dX12_begins_4 : decode cX12_begins 4 = .ok (.iload_n 1, 1) := by decide +kernel
theorem dX12_begins_5 : decode cX12_begins 5 = .ok (.aload_n 0, 1) := by decide +kernel
theorem dX12_begins_6 : decode cX12_begins 6 = .ok (.getfield 115, 3) := by decide +kernel
theorem dX12_begins_9 : decode cX12_begins 9 = .ok (.if_icmp .gt 8, 3) := by decide +kernel
theorem dX12_begins_12 : decode cX12_begins 12 = .ok (.iload_n 1, 1) := by decide +kernel
theorem dX12_begins_13 : decode cX12_begins 13 = .ok (.iload_n 2, 1) := by decide +kernel
theorem dX12_begins_14 : decode cX12_begins 14 = .ok (.if_icmp .le 5, 3) := by decide +kernel
theorem dX12_begins_17 : decode cX12_begins 17 = .ok (.iconst 0, 1) := by decide +kernel
theorem dX12_begins_18 : decode cX12_begins 18 = .ok (.ireturn, 1) := by decide +kernel
theorem dX12_begins_19 : decode cX12_begins 19 = .ok (.aload_n 0, 1) := by decide +kernel
theorem dX12_begins_20 : decode cX12_begins 20 = .ok (.iload_n 1, 1) := by decide +kernel
theorem dX12_begins_21 : decode cX12_begins 21 = .ok (.putfield 121, 3) := by decide +kernel
theorem dX12_begins_24 : decode cX12_begins 24 = .ok (.iconst 0, 1) := by decide +kernel
theorem dX12_begins_25 : decode cX12_begins 25 = .ok (.istore_n 3, 1) := by decide +kernel
theorem dX12_begins_26 : decode cX12_begins 26 = .ok (.iload_n 3, 1) := by decide +kernel
theorem dX12_begins_27 : decode cX12_begins 27 = .ok (.iload_n 1, 1) := by decide +kernel
theorem dX12_begins_28 : decode cX12_begins 28 = .ok (.if_icmp .ge 21, 3) := by decide +kernel
theorem dX12_begins_31 : decode cX12_begins 31 = .ok (.aload_n 0, 1) := by decide +kernel
theorem dX12_begins_32 : decode cX12_begins 32 = .ok (.getfield 34, 3) := by decide +kernel
theorem dX12_begins_35 : decode cX12_begins 35 = .ok (.iload_n 3, 1) := by decide +kernel
theorem dX12_begins_36 : decode cX12_begins 36 = .ok (.aload_n 0, 1) := by decide +kernel
theorem dX12_begins_37 : decode cX12_begins 37 = .ok (.getfield 30, 3) := by decide +kernel
theorem dX12_begins_40 : decode cX12_begins 40 = .ok (.iload_n 3, 1) := by decide +kernel
theorem dX12_begins_41 : decode cX12_begins 41 = .ok (.baload, 1) := by decide +kernel
theorem dX12_begins_42 : decode cX12_begins 42 = .ok (.bastore, 1) := by decide +kernel
theorem dX12_begins_43 : decode cX12_begins 43 = .ok (.iinc 3 1, 3) := by decide +kernel
theorem dX12_begins_46 : decode cX12_begins 46 = .ok (.goto (-20), 3) := by decide +kernel
theorem dX12_begins_49 : decode cX12_begins 49 = .ok (.aload_n 0, 1) := by decide +kernel
theorem dX12_begins_50 : decode cX12_begins 50 = .ok (.iconst 0, 1) := by decide +kernel
theorem dX12_begins_51 : decode cX12_begins 51 = .ok (.putfield 115, 3) := by decide +kernel
theorem dX12_begins_54 : decode cX12_begins 54 = .ok (.aload_n 0, 1) := by decide +kernel
theorem dX12_begins_55 : decode cX12_begins 55 = .ok (.iconst 0, 1) := by decide +kernel
theorem dX12_begins_56 : decode cX12_begins 56 = .ok (.putfield 161, 3) := by decide +kernel
theorem dX12_begins_59 : decode cX12_begins 59 = .ok (.aload_n 0, 1) := by decide +kernel
theorem dX12_begins_60 : decode cX12_begins 60 = .ok (.iconst (-1), 1) := by decide +kernel
theorem dX12_begins_61 : decode cX12_begins 61 = .ok (.putfield 41, 3) := by decide +kernel
theorem dX12_begins_64 : decode cX12_begins 64 = .ok (.aload_n 0, 1) := by decide +kernel
theorem dX12_begins_65 : decode cX12_begins 65 = .ok (.iconst 0, 1) := by decide +kernel
theorem dX12_begins_66 : decode cX12_begins 66 = .ok (.putfield 124, 3) := by decide +kernel
theorem dX12_begins_69 : decode cX12_begins 69 = .ok (.aload_n 0, 1) := by decide +kernel
theorem dX12_begins_70 : decode cX12_begins 70 = .ok (.iconst 0, 1) := by decide +kernel
theorem dX12_begins_71 : decode cX12_begins 71 = .ok (.putfield 164, 3) := by decide +kernel
theorem dX12_begins_74 : decode cX12_begins 74 = .ok (.aload_n 0, 1) := by decide +kernel
theorem dX12_begins_75 : decode cX12_begins 75 = .ok (.invokevirtual 167, 3) := by decide +kernel
theorem dX12_begins_78 : decode cX12_begins 78 = .ok (.iconst 1, 1) := by decide +kernel
theorem dX12_begins_79 : decode cX12_begins 79 = .ok (.ireturn, 1) := by decide +kernel
theorem dX12_wantSign_0 : decode cX12_wantSign 0 = .ok (.aload_n 0, 1) := by decide +kernel
theorem dX12_wantSign_1 : decode cX12_wantSign 1 = .ok (.iload_n 1, 1) := by decide +kernel
theorem dX12_wantSign_2 : decode cX12_wantSign 2 = .ok (.invokevirtual 170, 3) := by decide +kernel
theorem dX12_wantSign_5 : decode cX12_wantSign 5 = .ok (.ifCond .ne 9, 3) := by decide +kernel
theorem dX12_wantSign_8 : decode cX12_wantSign 8 = .ok (.aload_n 0, 1) := by decide +kernel
theorem dX12_wantSign_9 : decode cX12_wantSign 9 = .ok (.iconst 2, 1) := by decide +kernel
theorem dX12_wantSign_10 : decode cX12_wantSign 10 = .ok (.invokevirtual 173, 3) := by decide +kernel
theorem dX12_wantSign_13 : decode cX12_wantSign 13 = .ok (.ireturn, 1) := by decide +kernel
theorem dX12_wantSign_14 : decode cX12_wantSign 14 = .ok (.aload_n 0, 1) := by decide +kernel
theorem dX12_wantSign_15 : decode cX12_wantSign 15 = .ok (.invokevirtual 167, 3) := by decide +kernel
theorem dX12_wantSign_18 : decode cX12_wantSign 18 = .ok (.iconst 1, 1) := by decide +kernel
theorem dX12_wantSign_19 : decode cX12_wantSign 19 = .ok (.ireturn, 1) := by decide +kernel
theorem dX12_wantWord_0 : decode cX12_wantWord 0 = .ok (.aload_n 0, 1) := by decide +kernel
theorem dX12_wantWord_1 : decode cX12_wantWord 1 = .ok (.aload_n 1, 1) := by decide +kernel
theorem dX12_wantWord_2 : decode cX12_wantWord 2 = .ok (.invokevirtual 176, 3) := by decide +kernel
theorem dX12_wantWord_5 : decode cX12_wantWord 5 = .ok (.iload_n 2, 1) := by decide +kernel
theorem dX12_wantWord_6 : decode cX12_wantWord 6 = .ok (.if_icmp .eq 9, 3) := by decide +kernel
theorem dX12_wantWord_9 : decode cX12_wantWord 9 = .ok (.aload_n 0, 1) := by decide +kernel
theorem dX12_wantWord_10 : decode cX12_wantWord 10 = .ok (.iconst 2, 1) := by decide +kernel
theorem dX12_wantWord_11 : decode cX12_wantWord 11 = .ok (.invokevirtual 173, 3) := by decide +kernel
theorem dX12_wantWord_14 : decode cX12_wantWord 14 = .ok (.ireturn, 1) := by decide +kernel
theorem dX12_wantWord_15 : decode cX12_wantWord 15 = .ok (.aload_n 0, 1) := by decide +kernel
theorem dX12_wantWord_16 : decode cX12_wantWord 16 = .ok (.invokevirtual 167, 3) := by decide +kernel
theorem dX12_wantWord_19 : decode cX12_wantWord 19 = .ok (.iconst 1, 1) := by decide +kernel
theorem dX12_wantWord_20 : decode cX12_wantWord 20 = .ok (.ireturn, 1) := by decide +kernel
theorem dX12_number_0 : decode cX12_number 0 = .ok (.aload_n 0, 1) := by decide +kernel
theorem dX12_number_1 : decode cX12_number 1 = .ok (.getfield 136, 3) := by decide +kernel
theorem dX12_number_4 : decode cX12_number 4 = .ok (.iconst 3, 1) := by decide +kernel
theorem dX12_number_5 : decode cX12_number 5 = .ok (.if_icmp .eq 9, 3) := by decide +kernel
theorem dX12_number_8 : decode cX12_number 8 = .ok (.aload_n 0, 1) := by decide +kernel
theorem dX12_number_9 : decode cX12_number 9 = .ok (.iconst 2, 1) := by decide +kernel
theorem dX12_number_10 : decode cX12_number 10 = .ok (.invokevirtual 173, 3) := by decide +kernel
theorem dX12_number_13 : decode cX12_number 13 = .ok (.ireturn, 1) := by decide +kernel
theorem dX12_number_14 : decode cX12_number 14 = .ok (.aload_n 0, 1) := by decide +kernel
theorem dX12_number_15 : decode cX12_number 15 = .ok (.getfield 133, 3) := by decide +kernel
theorem dX12_number_18 : decode cX12_number 18 = .ok (.iload_n 2, 1) := by decide +kernel
theorem dX12_number_19 : decode cX12_number 19 = .ok (.if_icmp .lt 11, 3) := by decide +kernel
theorem dX12_number_22 : decode cX12_number 22 = .ok (.aload_n 0, 1) := by decide +kernel
theorem dX12_number_23 : decode cX12_number 23 = .ok (.getfield 133, 3) := by decide +kernel
theorem dX12_number_26 : decode cX12_number 26 = .ok (.iload_n 3, 1) := by decide +kernel
theorem dX12_number_27 : decode cX12_number 27 = .ok (.if_icmp .le 9, 3) := by decide +kernel
theorem dX12_number_30 : decode cX12_number 30 = .ok (.aload_n 0, 1) := by decide +kernel
theorem dX12_number_31 : decode cX12_number 31 = .ok (.iconst 4, 1) := by decide +kernel
theorem dX12_number_32 : decode cX12_number 32 = .ok (.invokevirtual 173, 3) := by decide +kernel
theorem dX12_number_35 : decode cX12_number 35 = .ok (.ireturn, 1) := by decide +kernel
theorem dX12_number_36 : decode cX12_number 36 = .ok (.aload_n 0, 1) := by decide +kernel
theorem dX12_number_37 : decode cX12_number 37 = .ok (.getfield 7, 3) := by decide +kernel
theorem dX12_number_40 : decode cX12_number 40 = .ok (.iload_n 1, 1) := by decide +kernel
theorem dX12_number_41 : decode cX12_number 41 = .ok (.aload_n 0, 1) := by decide +kernel
theorem dX12_number_42 : decode cX12_number 42 = .ok (.getfield 133, 3) := by decide +kernel
theorem dX12_number_45 : decode cX12_number 45 = .ok (.iastore, 1) := by decide +kernel
theorem dX12_number_46 : decode cX12_number 46 = .ok (.aload_n 0, 1) := by decide +kernel
theorem dX12_number_47 : decode cX12_number 47 = .ok (.invokevirtual 167, 3) := by decide +kernel
theorem dX12_number_50 : decode cX12_number 50 = .ok (.iconst 1, 1) := by decide +kernel
theorem dX12_number_51 : decode cX12_number 51 = .ok (.ireturn, 1) := by decide +kernel
theorem dX12_isName_0 : decode cX12_isName 0 = .ok (.aload_n 0, 1) := by decide +kernel
theorem dX12_isName_1 : decode cX12_isName 1 = .ok (.getfield 136, 3) := by decide +kernel
theorem dX12_isName_4 : decode cX12_isName 4 = .ok (.iconst 2, 1) := by decide +kernel
theorem dX12_isName_5 : decode cX12_isName 5 = .ok (.if_icmp .ne 30, 3) := by decide +kernel
theorem dX12_isName_8 : decode cX12_isName 8 = .ok (.aload_n 0, 1) := by decide +kernel
theorem dX12_isName_9 : decode cX12_isName 9 = .ok (.getfield 124, 3) := by decide +kernel
theorem dX12_isName_12 : decode cX12_isName 12 = .ok (.aload_n 0, 1) := by decide +kernel
theorem dX12_isName_13 : decode cX12_isName 13 = .ok (.getfield 130, 3) := by decide +kernel
theorem dX12_isName_16 : decode cX12_isName 16 = .ok (.isub, 1) := by decide +kernel
theorem dX12_isName_17 : decode cX12_isName 17 = .ok (.bipush 8, 2) := by decide +kernel
theorem dX12_isName_19 : decode cX12_isName 19 = .ok (.if_icmp .gt 16, 3) := by decide +kernel
theorem dX12_isName_22 : decode cX12_isName 22 = .ok (.aload_n 0, 1) := by decide +kernel
theorem dX12_isName_23 : decode cX12_isName 23 = .ok (.aload_n 1, 1) := by decide +kernel
theorem dX12_isName_24 : decode cX12_isName 24 = .ok (.invokevirtual 176, 3) := by decide +kernel
theorem dX12_isName_27 : decode cX12_isName 27 = .ok (.iconst (-1), 1) := by decide +kernel
theorem dX12_isName_28 : decode cX12_isName 28 = .ok (.if_icmp .ne 7, 3) := by decide +kernel
theorem dX12_isName_31 : decode cX12_isName 31 = .ok (.iconst 1, 1) := by decide +kernel
theorem dX12_isName_32 : decode cX12_isName 32 = .ok (.goto 4, 3) := by decide +kernel
theorem dX12_isName_35 : decode cX12_isName 35 = .ok (.iconst 0, 1) := by decide +kernel
theorem dX12_isName_36 : decode cX12_isName 36 = .ok (.ireturn, 1) := by decide +kernel
theorem dX12_nameHere_0 : decode cX12_nameHere 0 = .ok (.lconst 0, 1) := by decide +kernel
theorem dX12_nameHere_1 : decode cX12_nameHere 1 = .ok (.lstore_n 1, 1) := by decide +kernel
theorem dX12_nameHere_2 : decode cX12_nameHere 2 = .ok (.aload_n 0, 1) := by decide +kernel
theorem dX12_nameHere_3 : decode cX12_nameHere 3 = .ok (.getfield 130, 3) := by decide +kernel
theorem dX12_nameHere_6 : decode cX12_nameHere 6 = .ok (.istore_n 3, 1) := by decide +kernel
theorem dX12_nameHere_7 : decode cX12_nameHere 7 = .ok (.iload_n 3, 1) := by decide +kernel
theorem dX12_nameHere_8 : decode cX12_nameHere 8 = .ok (.aload_n 0, 1) := by decide +kernel
theorem dX12_nameHere_9 : decode cX12_nameHere 9 = .ok (.getfield 124, 3) := by decide +kernel
theorem dX12_nameHere_12 : decode cX12_nameHere 12 = .ok (.if_icmp .ge 21, 3) := by decide +kernel
theorem dX12_nameHere_15 : decode cX12_nameHere 15 = .ok (.lload_n 1, 1) := by decide +kernel
theorem dX12_nameHere_16 : decode cX12_nameHere 16 = .ok (.bipush 8, 2) := by decide +kernel
theorem dX12_nameHere_18 : decode cX12_nameHere 18 = .ok (.lshl, 1) := by decide +kernel
theorem dX12_nameHere_19 : decode cX12_nameHere 19 = .ok (.aload_n 0, 1) := by decide +kernel
theorem dX12_nameHere_20 : decode cX12_nameHere 20 = .ok (.iload_n 3, 1) := by decide +kernel
theorem dX12_nameHere_21 : decode cX12_nameHere 21 = .ok (.invokevirtual 127, 3) := by decide +kernel
theorem dX12_nameHere_24 : decode cX12_nameHere 24 = .ok (.i2l, 1) := by decide +kernel
theorem dX12_nameHere_25 : decode cX12_nameHere 25 = .ok (.lor, 1) := by decide +kernel
theorem dX12_nameHere_26 : decode cX12_nameHere 26 = .ok (.lstore_n 1, 1) := by decide +kernel
theorem dX12_nameHere_27 : decode cX12_nameHere 27 = .ok (.iinc 3 1, 3) := by decide +kernel
theorem dX12_nameHere_30 : decode cX12_nameHere 30 = .ok (.goto (-23), 3) := by decide +kernel
theorem dX12_nameHere_33 : decode cX12_nameHere 33 = .ok (.lload_n 1, 1) := by decide +kernel
theorem dX12_nameHere_34 : decode cX12_nameHere 34 = .ok (.lreturn, 1) := by decide +kernel
theorem dX12_findHere_0 : decode cX12_findHere 0 = .ok (.iconst 0, 1) := by decide +kernel
theorem dX12_findHere_1 : decode cX12_findHere 1 = .ok (.istore_n 3, 1) := by decide +kernel
theorem dX12_findHere_2 : decode cX12_findHere 2 = .ok (.iload_n 3, 1) := by decide +kernel
theorem dX12_findHere_3 : decode cX12_findHere 3 = .ok (.iload_n 2, 1) := by decide +kernel
theorem dX12_findHere_4 : decode cX12_findHere 4 = .ok (.if_icmp .ge 27, 3) := by decide +kernel
theorem dX12_findHere_7 : decode cX12_findHere 7 = .ok (.aload_n 0, 1) := by decide +kernel
theorem dX12_findHere_8 : decode cX12_findHere 8 = .ok (.getfield 13, 3) := by decide +kernel
theorem dX12_findHere_11 : decode cX12_findHere 11 = .ok (.iload_n 1, 1) := by decide +kernel
theorem dX12_findHere_12 : decode cX12_findHere 12 = .ok (.iload_n 3, 1) := by decide +kernel
theorem dX12_findHere_13 : decode cX12_findHere 13 = .ok (.iadd, 1) := by decide +kernel
theorem dX12_findHere_14 : decode cX12_findHere 14 = .ok (.laload, 1) := by decide +kernel
theorem dX12_findHere_15 : decode cX12_findHere 15 = .ok (.aload_n 0, 1) := by decide +kernel
theorem dX12_findHere_16 : decode cX12_findHere 16 = .ok (.invokevirtual 180, 3) := by decide +kernel
theorem dX12_findHere_19 : decode cX12_findHere 19 = .ok (.lcmp, 1) := by decide +kernel
theorem dX12_findHere_20 : decode cX12_findHere 20 = .ok (.ifCond .ne 5, 3) := by decide +kernel
theorem dX12_findHere_23 : decode cX12_findHere 23 = .ok (.iload_n 3, 1) := by decide +kernel
theorem dX12_findHere_24 : decode cX12_findHere 24 = .ok (.ireturn, 1) := by decide +kernel
theorem dX12_findHere_25 : decode cX12_findHere 25 = .ok (.iinc 3 1, 3) := by decide +kernel
theorem dX12_findHere_28 : decode cX12_findHere 28 = .ok (.goto (-26), 3) := by decide +kernel
theorem dX12_findHere_31 : decode cX12_findHere 31 = .ok (.iconst (-1), 1) := by decide +kernel
theorem dX12_findHere_32 : decode cX12_findHere 32 = .ok (.ireturn, 1) := by decide +kernel
theorem dX12_fault_0 : decode cX12_fault 0 = .ok (.iload_n 1, 1) := by decide +kernel
theorem dX12_fault_1 : decode cX12_fault 1 = .ok (.ifCond .ne 10, 3) := by decide +kernel
theorem dX12_fault_4 : decode cX12_fault 4 = .ok (.aload_n 0, 1) := by decide +kernel
theorem dX12_fault_5 : decode cX12_fault 5 = .ok (.getfield 37, 3) := by decide +kernel
theorem dX12_fault_8 : decode cX12_fault 8 = .ok (.goto 16, 3) := by decide +kernel
theorem dX12_fault_11 : decode cX12_fault 11 = .ok (.iload_n 1, 1) := by decide +kernel
theorem dX12_fault_12 : decode cX12_fault 12 = .ok (.iconst 1, 1) := by decide +kernel
theorem dX12_fault_13 : decode cX12_fault 13 = .ok (.if_icmp .ne 10, 3) := by decide +kernel
theorem dX12_fault_16 : decode cX12_fault 16 = .ok (.aload_n 0, 1) := by decide +kernel
theorem dX12_fault_17 : decode cX12_fault 17 = .ok (.getfield 41, 3) := by decide +kernel
theorem dX12_fault_20 : decode cX12_fault 20 = .ok (.goto 4, 3) := by decide +kernel
theorem dX12_fault_23 : decode cX12_fault 23 = .ok (.iconst (-1), 1) := by decide +kernel
theorem dX12_fault_24 : decode cX12_fault 24 = .ok (.ireturn, 1) := by decide +kernel
theorem dX12_taken_0 : decode cX12_taken 0 = .ok (.aload_n 0, 1) := by decide +kernel
theorem dX12_taken_1 : decode cX12_taken 1 = .ok (.aload_n 0, 1) := by decide +kernel
theorem dX12_taken_2 : decode cX12_taken 2 = .ok (.getfield 161, 3) := by decide +kernel
theorem dX12_taken_5 : decode cX12_taken 5 = .ok (.putfield 37, 3) := by decide +kernel
theorem dX12_taken_8 : decode cX12_taken 8 = .ok (.aload_n 0, 1) := by decide +kernel
theorem dX12_taken_9 : decode cX12_taken 9 = .ok (.getfield 161, 3) := by decide +kernel
theorem dX12_taken_12 : decode cX12_taken 12 = .ok (.ifCond .le 12, 3) := by decide +kernel
theorem dX12_taken_15 : decode cX12_taken 15 = .ok (.aload_n 0, 1) := by decide +kernel
theorem dX12_taken_16 : decode cX12_taken 16 = .ok (.bipush 9, 2) := by decide +kernel
theorem dX12_taken_18 : decode cX12_taken 18 = .ok (.invokevirtual 91, 3) := by decide +kernel
theorem dX12_taken_21 : decode cX12_taken 21 = .ok (.goto 8, 3) := by decide +kernel
theorem dX12_taken_24 : decode cX12_taken 24 = .ok (.aload_n 0, 1) := by decide +kernel
theorem dX12_taken_25 : decode cX12_taken 25 = .ok (.iload_n 1, 1) := by decide +kernel
theorem dX12_taken_26 : decode cX12_taken 26 = .ok (.invokevirtual 95, 3) := by decide +kernel
theorem dX12_taken_29 : decode cX12_taken 29 = .ok (.ireturn, 1) := by decide +kernel
theorem dX12_thingRow_0 : decode cX12_thingRow 0 = .ok (.bipush 12, 2) := by decide +kernel
theorem dX12_thingRow_2 : decode cX12_thingRow 2 = .ok (.bipush 7, 2) := by decide +kernel
theorem dX12_thingRow_4 : decode cX12_thingRow 4 = .ok (.iload_n 0, 1) := by decide +kernel
theorem dX12_thingRow_5 : decode cX12_thingRow 5 = .ok (.imul, 1) := by decide +kernel
theorem dX12_thingRow_6 : decode cX12_thingRow 6 = .ok (.iadd, 1) := by decide +kernel
theorem dX12_thingRow_7 : decode cX12_thingRow 7 = .ok (.ireturn, 1) := by decide +kernel
theorem dX12_millRow_0 : decode cX12_millRow 0 = .ok (.bipush 68, 2) := by decide +kernel
theorem dX12_millRow_2 : decode cX12_millRow 2 = .ok (.iconst 3, 1) := by decide +kernel
theorem dX12_millRow_3 : decode cX12_millRow 3 = .ok (.iload_n 0, 1) := by decide +kernel
theorem dX12_millRow_4 : decode cX12_millRow 4 = .ok (.imul, 1) := by decide +kernel
theorem dX12_millRow_5 : decode cX12_millRow 5 = .ok (.iadd, 1) := by decide +kernel
theorem dX12_millRow_6 : decode cX12_millRow 6 = .ok (.ireturn, 1) := by decide +kernel
theorem dX12_isThere_0 : decode cX12_isThere 0 = .ok (.aload_n 0, 1) := by decide +kernel
theorem dX12_isThere_1 : decode cX12_isThere 1 = .ok (.ldc 184, 2) := by decide +kernel
theorem dX12_isThere_3 : decode cX12_isThere 3 = .ok (.invokevirtual 176, 3) := by decide +kernel
theorem dX12_isThere_6 : decode cX12_isThere 6 = .ok (.iload_n 1, 1) := by decide +kernel
theorem dX12_isThere_7 : decode cX12_isThere 7 = .ok (.if_icmp .eq 5, 3) := by decide +kernel
theorem dX12_isThere_10 : decode cX12_isThere 10 = .ok (.iconst 0, 1) := by decide +kernel
theorem dX12_isThere_11 : decode cX12_isThere 11 = .ok (.ireturn, 1) := by decide +kernel
theorem dX12_isThere_12 : decode cX12_isThere 12 = .ok (.aload_n 0, 1) := by decide +kernel
theorem dX12_isThere_13 : decode cX12_isThere 13 = .ok (.invokevirtual 167, 3) := by decide +kernel
theorem dX12_isThere_16 : decode cX12_isThere 16 = .ok (.iconst 1, 1) := by decide +kernel
theorem dX12_isThere_17 : decode cX12_isThere 17 = .ok (.ireturn, 1) := by decide +kernel
theorem dX12_newOne_0 : decode cX12_newOne 0 = .ok (.aload_n 0, 1) := by decide +kernel
theorem dX12_newOne_1 : decode cX12_newOne 1 = .ok (.getfield 7, 3) := by decide +kernel
theorem dX12_newOne_4 : decode cX12_newOne 4 = .ok (.sipush 1792, 3) := by decide +kernel
theorem dX12_newOne_7 : decode cX12_newOne 7 = .ok (.iload_n 1, 1) := by decide +kernel
theorem dX12_newOne_8 : decode cX12_newOne 8 = .ok (.iadd, 1) := by decide +kernel
theorem dX12_newOne_9 : decode cX12_newOne 9 = .ok (.iaload, 1) := by decide +kernel
theorem dX12_newOne_10 : decode cX12_newOne 10 = .ok (.iload_n 2, 1) := by decide +kernel
theorem dX12_newOne_11 : decode cX12_newOne 11 = .ok (.if_icmp .ne 10, 3) := by decide +kernel
theorem dX12_newOne_14 : decode cX12_newOne 14 = .ok (.aload_n 0, 1) := by decide +kernel
theorem dX12_newOne_15 : decode cX12_newOne 15 = .ok (.bipush 6, 2) := by decide +kernel
theorem dX12_newOne_17 : decode cX12_newOne 17 = .ok (.invokevirtual 173, 3) := by decide +kernel
theorem dX12_newOne_20 : decode cX12_newOne 20 = .ok (.ireturn, 1) := by decide +kernel
theorem dX12_newOne_21 : decode cX12_newOne 21 = .ok (.aload_n 0, 1) := by decide +kernel
theorem dX12_newOne_22 : decode cX12_newOne 22 = .ok (.invokevirtual 167, 3) := by decide +kernel
theorem dX12_newOne_25 : decode cX12_newOne 25 = .ok (.aload_n 0, 1) := by decide +kernel
theorem dX12_newOne_26 : decode cX12_newOne 26 = .ok (.ldc 184, 2) := by decide +kernel
theorem dX12_newOne_28 : decode cX12_newOne 28 = .ok (.invokevirtual 186, 3) := by decide +kernel
theorem dX12_newOne_31 : decode cX12_newOne 31 = .ok (.ifCond .ne 9, 3) := by decide +kernel
theorem dX12_newOne_34 : decode cX12_newOne 34 = .ok (.aload_n 0, 1) := by decide +kernel
theorem dX12_newOne_35 : decode cX12_newOne 35 = .ok (.iconst 2, 1) := by decide +kernel
theorem dX12_newOne_36 : decode cX12_newOne 36 = .ok (.invokevirtual 173, 3) := by decide +kernel
theorem dX12_newOne_39 : decode cX12_newOne 39 = .ok (.ireturn, 1) := by decide +kernel
theorem dX12_newOne_40 : decode cX12_newOne 40 = .ok (.aload_n 0, 1) := by decide +kernel
theorem dX12_newOne_41 : decode cX12_newOne 41 = .ok (.bipush 48, 2) := by decide +kernel
theorem dX12_newOne_43 : decode cX12_newOne 43 = .ok (.aload_n 0, 1) := by decide +kernel
theorem dX12_newOne_44 : decode cX12_newOne 44 = .ok (.getfield 7, 3) := by decide +kernel
theorem dX12_newOne_47 : decode cX12_newOne 47 = .ok (.sipush 1792, 3) := by decide +kernel
theorem dX12_newOne_50 : decode cX12_newOne 50 = .ok (.iaload, 1) := by decide +kernel
theorem dX12_newOne_51 : decode cX12_newOne 51 = .ok (.invokevirtual 190, 3) := by decide +kernel
theorem dX12_newOne_54 : decode cX12_newOne 54 = .ok (.iconst (-1), 1) := by decide +kernel
theorem dX12_newOne_55 : decode cX12_newOne 55 = .ok (.if_icmp .ne 21, 3) := by decide +kernel
theorem dX12_newOne_58 : decode cX12_newOne 58 = .ok (.aload_n 0, 1) := by decide +kernel
theorem dX12_newOne_59 : decode cX12_newOne 59 = .ok (.bipush 56, 2) := by decide +kernel
theorem dX12_newOne_61 : decode cX12_newOne 61 = .ok (.aload_n 0, 1) := by decide +kernel
theorem dX12_newOne_62 : decode cX12_newOne 62 = .ok (.getfield 7, 3) := by decide +kernel
theorem dX12_newOne_65 : decode cX12_newOne 65 = .ok (.sipush 1793, 3) := by decide +kernel
theorem dX12_newOne_68 : decode cX12_newOne 68 = .ok (.iaload, 1) := by decide +kernel
theorem dX12_newOne_69 : decode cX12_newOne 69 = .ok (.invokevirtual 190, 3) := by decide +kernel
theorem dX12_newOne_72 : decode cX12_newOne 72 = .ok (.iconst (-1), 1) := by decide +kernel
theorem dX12_newOne_73 : decode cX12_newOne 73 = .ok (.if_icmp .eq 9, 3) := by decide +kernel
theorem dX12_newOne_76 : decode cX12_newOne 76 = .ok (.aload_n 0, 1) := by decide +kernel
theorem dX12_newOne_77 : decode cX12_newOne 77 = .ok (.iconst 3, 1) := by decide +kernel
theorem dX12_newOne_78 : decode cX12_newOne 78 = .ok (.invokevirtual 173, 3) := by decide +kernel
theorem dX12_newOne_81 : decode cX12_newOne 81 = .ok (.ireturn, 1) := by decide +kernel
theorem dX12_newOne_82 : decode cX12_newOne 82 = .ok (.aload_n 0, 1) := by decide +kernel
theorem dX12_newOne_83 : decode cX12_newOne 83 = .ok (.getfield 13, 3) := by decide +kernel
theorem dX12_newOne_86 : decode cX12_newOne 86 = .ok (.bipush 48, 2) := by decide +kernel
theorem dX12_newOne_88 : decode cX12_newOne 88 = .ok (.iload_n 3, 1) := by decide +kernel
theorem dX12_newOne_89 : decode cX12_newOne 89 = .ok (.iadd, 1) := by decide +kernel
theorem dX12_newOne_90 : decode cX12_newOne 90 = .ok (.aload_n 0, 1) := by decide +kernel
theorem dX12_newOne_91 : decode cX12_newOne 91 = .ok (.getfield 7, 3) := by decide +kernel
theorem dX12_newOne_94 : decode cX12_newOne 94 = .ok (.sipush 1792, 3) := by decide +kernel
theorem dX12_newOne_97 : decode cX12_newOne 97 = .ok (.iload_n 1, 1) := by decide +kernel
theorem dX12_newOne_98 : decode cX12_newOne 98 = .ok (.iadd, 1) := by decide +kernel
theorem dX12_newOne_99 : decode cX12_newOne 99 = .ok (.iaload, 1) := by decide +kernel
theorem dX12_newOne_100 : decode cX12_newOne 100 = .ok (.iadd, 1) := by decide +kernel
theorem dX12_newOne_101 : decode cX12_newOne 101 = .ok (.aload_n 0, 1) := by decide +kernel
theorem dX12_newOne_102 : decode cX12_newOne 102 = .ok (.invokevirtual 180, 3) := by decide +kernel
theorem dX12_newOne_105 : decode cX12_newOne 105 = .ok (.lastore, 1) := by decide +kernel
theorem dX12_newOne_106 : decode cX12_newOne 106 = .ok (.aload_n 0, 1) := by decide +kernel
theorem dX12_newOne_107 : decode cX12_newOne 107 = .ok (.invokevirtual 167, 3) := by decide +kernel
theorem dX12_newOne_110 : decode cX12_newOne 110 = .ok (.iconst 1, 1) := by decide +kernel
theorem dX12_newOne_111 : decode cX12_newOne 111 = .ok (.ireturn, 1) := by decide +kernel
theorem dX12_oldOne_0 : decode cX12_oldOne 0 = .ok (.aload_n 0, 1) := by decide +kernel
theorem dX12_oldOne_1 : decode cX12_oldOne 1 = .ok (.ldc 184, 2) := by decide +kernel
theorem dX12_oldOne_3 : decode cX12_oldOne 3 = .ok (.invokevirtual 186, 3) := by decide +kernel
theorem dX12_oldOne_6 : decode cX12_oldOne 6 = .ok (.ifCond .ne 9, 3) := by decide +kernel
theorem dX12_oldOne_9 : decode cX12_oldOne 9 = .ok (.aload_n 0, 1) := by decide +kernel
theorem dX12_oldOne_10 : decode cX12_oldOne 10 = .ok (.iconst 2, 1) := by decide +kernel
theorem dX12_oldOne_11 : decode cX12_oldOne 11 = .ok (.invokevirtual 173, 3) := by decide +kernel
theorem dX12_oldOne_14 : decode cX12_oldOne 14 = .ok (.ireturn, 1) := by decide +kernel
theorem dX12_oldOne_15 : decode cX12_oldOne 15 = .ok (.aload_n 0, 1) := by decide +kernel
theorem dX12_oldOne_16 : decode cX12_oldOne 16 = .ok (.getfield 7, 3) := by decide +kernel
theorem dX12_oldOne_19 : decode cX12_oldOne 19 = .ok (.iload_n 3, 1) := by decide +kernel
theorem dX12_oldOne_20 : decode cX12_oldOne 20 = .ok (.aload_n 0, 1) := by decide +kernel
theorem dX12_oldOne_21 : decode cX12_oldOne 21 = .ok (.iload_n 1, 1) := by decide +kernel
theorem dX12_oldOne_22 : decode cX12_oldOne 22 = .ok (.iload_n 2, 1) := by decide +kernel
theorem dX12_oldOne_23 : decode cX12_oldOne 23 = .ok (.invokevirtual 190, 3) := by decide +kernel
theorem dX12_oldOne_26 : decode cX12_oldOne 26 = .ok (.iastore, 1) := by decide +kernel
theorem dX12_oldOne_27 : decode cX12_oldOne 27 = .ok (.aload_n 0, 1) := by decide +kernel
theorem dX12_oldOne_28 : decode cX12_oldOne 28 = .ok (.getfield 7, 3) := by decide +kernel
theorem dX12_oldOne_31 : decode cX12_oldOne 31 = .ok (.iload_n 3, 1) := by decide +kernel
theorem dX12_oldOne_32 : decode cX12_oldOne 32 = .ok (.iaload, 1) := by decide +kernel
theorem dX12_oldOne_33 : decode cX12_oldOne 33 = .ok (.iconst (-1), 1) := by decide +kernel
theorem dX12_oldOne_34 : decode cX12_oldOne 34 = .ok (.if_icmp .ne 9, 3) := by decide +kernel
theorem dX12_oldOne_37 : decode cX12_oldOne 37 = .ok (.aload_n 0, 1) := by decide +kernel
theorem dX12_oldOne_38 : decode cX12_oldOne 38 = .ok (.iconst 3, 1) := by decide +kernel
theorem dX12_oldOne_39 : decode cX12_oldOne 39 = .ok (.invokevirtual 173, 3) := by decide +kernel
theorem dX12_oldOne_42 : decode cX12_oldOne 42 = .ok (.ireturn, 1) := by decide +kernel
theorem dX12_oldOne_43 : decode cX12_oldOne 43 = .ok (.aload_n 0, 1) := by decide +kernel
theorem dX12_oldOne_44 : decode cX12_oldOne 44 = .ok (.invokevirtual 167, 3) := by decide +kernel
theorem dX12_oldOne_47 : decode cX12_oldOne 47 = .ok (.iconst 1, 1) := by decide +kernel
theorem dX12_oldOne_48 : decode cX12_oldOne 48 = .ok (.ireturn, 1) := by decide +kernel
theorem dX12_newCell_0 : decode cX12_newCell 0 = .ok (.aload_n 0, 1) := by decide +kernel
theorem dX12_newCell_1 : decode cX12_newCell 1 = .ok (.iload_n 1, 1) := by decide +kernel
theorem dX12_newCell_2 : decode cX12_newCell 2 = .ok (.iconst 0, 1) := by decide +kernel
theorem dX12_newCell_3 : decode cX12_newCell 3 = .ok (.aload_n 0, 1) := by decide +kernel
theorem dX12_newCell_4 : decode cX12_newCell 4 = .ok (.getfield 7, 3) := by decide +kernel
theorem dX12_newCell_7 : decode cX12_newCell 7 = .ok (.sipush 1794, 3) := by decide +kernel
theorem dX12_newCell_10 : decode cX12_newCell 10 = .ok (.iaload, 1) := by decide +kernel
theorem dX12_newCell_11 : decode cX12_newCell 11 = .ok (.iconst 1, 1) := by decide +kernel
theorem dX12_newCell_12 : decode cX12_newCell 12 = .ok (.isub, 1) := by decide +kernel
theorem dX12_newCell_13 : decode cX12_newCell 13 = .ok (.invokevirtual 193, 3) := by decide +kernel
theorem dX12_newCell_16 : decode cX12_newCell 16 = .ok (.ireturn, 1) := by decide +kernel
theorem dX12_aStream_0 : decode cX12_aStream 0 = .ok (.aload_n 0, 1) := by decide +kernel
theorem dX12_aStream_1 : decode cX12_aStream 1 = .ok (.sipush 1798, 3) := by decide +kernel
theorem dX12_aStream_4 : decode cX12_aStream 4 = .ok (.invokevirtual 197, 3) := by decide +kernel
theorem dX12_aStream_7 : decode cX12_aStream 7 = .ok (.ifCond .ne 5, 3) := by decide +kernel
theorem dX12_aStream_10 : decode cX12_aStream 10 = .ok (.iconst 0, 1) := by decide +kernel
theorem dX12_aStream_11 : decode cX12_aStream 11 = .ok (.ireturn, 1) := by decide +kernel
theorem dX12_aStream_12 : decode cX12_aStream 12 = .ok (.aload_n 0, 1) := by decide +kernel
theorem dX12_aStream_13 : decode cX12_aStream 13 = .ok (.bipush 6, 2) := by decide +kernel
theorem dX12_aStream_15 : decode cX12_aStream 15 = .ok (.invokevirtual 200, 3) := by decide +kernel
theorem dX12_aStream_18 : decode cX12_aStream 18 = .ok (.ifCond .eq 12, 3) := by decide +kernel
theorem dX12_aStream_21 : decode cX12_aStream 21 = .ok (.aload_n 0, 1) := by decide +kernel
theorem dX12_aStream_22 : decode cX12_aStream 22 = .ok (.getfield 7, 3) := by decide +kernel
theorem dX12_aStream_25 : decode cX12_aStream 25 = .ok (.sipush 1799, 3) := by decide +kernel
theorem dX12_aStream_28 : decode cX12_aStream 28 = .ok (.iconst 0, 1) := by decide +kernel
theorem dX12_aStream_29 : decode cX12_aStream 29 = .ok (.iastore, 1) := by decide +kernel
theorem dX12_aStream_30 : decode cX12_aStream 30 = .ok (.iconst 1, 1) := by decide +kernel
theorem dX12_aStream_31 : decode cX12_aStream 31 = .ok (.ireturn, 1) := by decide +kernel
theorem dX12_aThing_0 : decode cX12_aThing 0 = .ok (.sipush 1792, 3) := by decide +kernel
theorem dX12_aThing_3 : decode cX12_aThing 3 = .ok (.aload_n 0, 1) := by decide +kernel
theorem dX12_aThing_4 : decode cX12_aThing 4 = .ok (.getfield 7, 3) := by decide +kernel
theorem dX12_aThing_7 : decode cX12_aThing 7 = .ok (.sipush 1792, 3) := by decide +kernel
theorem dX12_aThing_10 : decode cX12_aThing 10 = .ok (.iaload, 1) := by decide +kernel
theorem dX12_aThing_11 : decode cX12_aThing 11 = .ok (.invokestatic 203, 3) := by decide +kernel
theorem dX12_aThing_14 : decode cX12_aThing 14 = .ok (.iadd, 1) := by decide +kernel
theorem dX12_aThing_15 : decode cX12_aThing 15 = .ok (.istore_n 1, 1) := by decide +kernel
theorem dX12_aThing_16 : decode cX12_aThing 16 = .ok (.aload_n 0, 1) := by decide +kernel
theorem dX12_aThing_17 : decode cX12_aThing 17 = .ok (.iconst 0, 1) := by decide +kernel
theorem dX12_aThing_18 : decode cX12_aThing 18 = .ok (.bipush 8, 2) := by decide +kernel
theorem dX12_aThing_20 : decode cX12_aThing 20 = .ok (.iconst 0, 1) := by decide +kernel
theorem dX12_aThing_21 : decode cX12_aThing 21 = .ok (.invokevirtual 206, 3) := by decide +kernel
theorem dX12_aThing_24 : decode cX12_aThing 24 = .ok (.ifCond .eq 25, 3) := by decide +kernel
theorem dX12_aThing_27 : decode cX12_aThing 27 = .ok (.aload_n 0, 1) := by decide +kernel
theorem dX12_aThing_28 : decode cX12_aThing 28 = .ok (.ldc 184, 2) := by decide +kernel
theorem dX12_aThing_30 : decode cX12_aThing 30 = .ok (.bipush 9, 2) := by decide +kernel
theorem dX12_aThing_32 : decode cX12_aThing 32 = .ok (.invokevirtual 209, 3) := by decide +kernel
theorem dX12_aThing_35 : decode cX12_aThing 35 = .ok (.ifCond .eq 14, 3) := by decide +kernel
theorem dX12_aThing_38 : decode cX12_aThing 38 = .ok (.aload_n 0, 1) := by decide +kernel
theorem dX12_aThing_39 : decode cX12_aThing 39 = .ok (.iload_n 1, 1) := by decide +kernel
theorem dX12_aThing_40 : decode cX12_aThing 40 = .ok (.iconst 0, 1) := by decide +kernel
theorem dX12_aThing_41 : decode cX12_aThing 41 = .ok (.bipush 9, 2) := by decide +kernel
theorem dX12_aThing_43 : decode cX12_aThing 43 = .ok (.invokevirtual 193, 3) := by decide +kernel
theorem dX12_aThing_46 : decode cX12_aThing 46 = .ok (.ifCond .ne 5, 3) := by decide +kernel
theorem dX12_aThing_49 : decode cX12_aThing 49 = .ok (.iconst 0, 1) := by decide +kernel
theorem dX12_aThing_50 : decode cX12_aThing 50 = .ok (.ireturn, 1) := by decide +kernel
theorem dX12_aThing_51 : decode cX12_aThing 51 = .ok (.aload_n 0, 1) := by decide +kernel
theorem dX12_aThing_52 : decode cX12_aThing 52 = .ok (.ldc 184, 2) := by decide +kernel
theorem dX12_aThing_54 : decode cX12_aThing 54 = .ok (.bipush 10, 2) := by decide +kernel
theorem dX12_aThing_56 : decode cX12_aThing 56 = .ok (.invokevirtual 209, 3) := by decide +kernel
theorem dX12_aThing_59 : decode cX12_aThing 59 = .ok (.ifCond .eq 40, 3) := by decide +kernel
theorem dX12_aThing_62 : decode cX12_aThing 62 = .ok (.aload_n 0, 1) := by decide +kernel
theorem dX12_aThing_63 : decode cX12_aThing 63 = .ok (.iload_n 1, 1) := by decide +kernel
theorem dX12_aThing_64 : decode cX12_aThing 64 = .ok (.iconst 1, 1) := by decide +kernel
theorem dX12_aThing_65 : decode cX12_aThing 65 = .ok (.iadd, 1) := by decide +kernel
theorem dX12_aThing_66 : decode cX12_aThing 66 = .ok (.iconst 1, 1) := by decide +kernel
theorem dX12_aThing_67 : decode cX12_aThing 67 = .ok (.bipush 24, 2) := by decide +kernel
theorem dX12_aThing_69 : decode cX12_aThing 69 = .ok (.invokevirtual 193, 3) := by decide +kernel
theorem dX12_aThing_72 : decode cX12_aThing 72 = .ok (.ifCond .eq 27, 3) := by decide +kernel
theorem dX12_aThing_75 : decode cX12_aThing 75 = .ok (.aload_n 0, 1) := by decide +kernel
theorem dX12_aThing_76 : decode cX12_aThing 76 = .ok (.ldc 184, 2) := by decide +kernel
theorem dX12_aThing_78 : decode cX12_aThing 78 = .ok (.bipush 11, 2) := by decide +kernel
theorem dX12_aThing_80 : decode cX12_aThing 80 = .ok (.invokevirtual 209, 3) := by decide +kernel
theorem dX12_aThing_83 : decode cX12_aThing 83 = .ok (.ifCond .eq 16, 3) := by decide +kernel
theorem dX12_aThing_86 : decode cX12_aThing 86 = .ok (.aload_n 0, 1) := by decide +kernel
theorem dX12_aThing_87 : decode cX12_aThing 87 = .ok (.iload_n 1, 1) := by decide +kernel
theorem dX12_aThing_88 : decode cX12_aThing 88 = .ok (.iconst 2, 1) := by decide +kernel
theorem dX12_aThing_89 : decode cX12_aThing 89 = .ok (.iadd, 1) := by decide +kernel
theorem dX12_aThing_90 : decode cX12_aThing 90 = .ok (.iconst 1, 1) := by decide +kernel
theorem dX12_aThing_91 : decode cX12_aThing 91 = .ok (.bipush 24, 2) := by decide +kernel
theorem dX12_aThing_93 : decode cX12_aThing 93 = .ok (.invokevirtual 193, 3) := by decide +kernel
theorem dX12_aThing_96 : decode cX12_aThing 96 = .ok (.ifCond .ne 5, 3) := by decide +kernel
theorem dX12_aThing_99 : decode cX12_aThing 99 = .ok (.iconst 0, 1) := by decide +kernel
theorem dX12_aThing_100 : decode cX12_aThing 100 = .ok (.ireturn, 1) := by decide +kernel
theorem dX12_aThing_101 : decode cX12_aThing 101 = .ok (.aload_n 0, 1) := by decide +kernel
theorem dX12_aThing_102 : decode cX12_aThing 102 = .ok (.bipush 12, 2) := by decide +kernel
theorem dX12_aThing_104 : decode cX12_aThing 104 = .ok (.invokevirtual 200, 3) := by decide +kernel
theorem dX12_aThing_107 : decode cX12_aThing 107 = .ok (.ifCond .eq 24, 3) := by decide +kernel
theorem dX12_aThing_110 : decode cX12_aThing 110 = .ok (.aload_n 0, 1) := by decide +kernel
theorem dX12_aThing_111 : decode cX12_aThing 111 = .ok (.iload_n 1, 1) := by decide +kernel
theorem dX12_aThing_112 : decode cX12_aThing 112 = .ok (.iconst 4, 1) := by decide +kernel
theorem dX12_aThing_113 : decode cX12_aThing 113 = .ok (.iadd, 1) := by decide +kernel
theorem dX12_aThing_114 : decode cX12_aThing 114 = .ok (.invokevirtual 197, 3) := by decide +kernel
theorem dX12_aThing_117 : decode cX12_aThing 117 = .ok (.ifCond .ne 5, 3) := by decide +kernel
theorem dX12_aThing_120 : decode cX12_aThing 120 = .ok (.iconst 0, 1) := by decide +kernel
theorem dX12_aThing_121 : decode cX12_aThing 121 = .ok (.ireturn, 1) := by decide +kernel
theorem dX12_aThing_122 : decode cX12_aThing 122 = .ok (.aload_n 0, 1) := by decide +kernel
theorem dX12_aThing_123 : decode cX12_aThing 123 = .ok (.getfield 7, 3) := by decide +kernel
theorem dX12_aThing_126 : decode cX12_aThing 126 = .ok (.iload_n 1, 1) := by decide +kernel
theorem dX12_aThing_127 : decode cX12_aThing 127 = .ok (.iconst 3, 1) := by decide +kernel
theorem dX12_aThing_128 : decode cX12_aThing 128 = .ok (.iadd, 1) := by decide +kernel
theorem dX12_aThing_129 : decode cX12_aThing 129 = .ok (.iconst 1, 1) := by decide +kernel
theorem dX12_aThing_130 : decode cX12_aThing 130 = .ok (.iastore, 1) := by decide +kernel
theorem dX12_aThing_131 : decode cX12_aThing 131 = .ok (.aload_n 0, 1) := by decide +kernel
theorem dX12_aThing_132 : decode cX12_aThing 132 = .ok (.getfield 7, 3) := by decide +kernel
theorem dX12_aThing_135 : decode cX12_aThing 135 = .ok (.sipush 1792, 3) := by decide +kernel
theorem dX12_aThing_138 : decode cX12_aThing 138 = .ok (.dup2, 1) := by decide +kernel
theorem dX12_aThing_139 : decode cX12_aThing 139 = .ok (.iaload, 1) := by decide +kernel
theorem dX12_aThing_140 : decode cX12_aThing 140 = .ok (.iconst 1, 1) := by decide +kernel
theorem dX12_aThing_141 : decode cX12_aThing 141 = .ok (.iadd, 1) := by decide +kernel
theorem dX12_aThing_142 : decode cX12_aThing 142 = .ok (.iastore, 1) := by decide +kernel
theorem dX12_aThing_143 : decode cX12_aThing 143 = .ok (.iconst 1, 1) := by decide +kernel
theorem dX12_aThing_144 : decode cX12_aThing 144 = .ok (.ireturn, 1) := by decide +kernel
theorem dX12_aMill_0 : decode cX12_aMill 0 = .ok (.sipush 1792, 3) := by decide +kernel
theorem dX12_aMill_3 : decode cX12_aMill 3 = .ok (.aload_n 0, 1) := by decide +kernel
theorem dX12_aMill_4 : decode cX12_aMill 4 = .ok (.getfield 7, 3) := by decide +kernel
theorem dX12_aMill_7 : decode cX12_aMill 7 = .ok (.sipush 1793, 3) := by decide +kernel
theorem dX12_aMill_10 : decode cX12_aMill 10 = .ok (.iaload, 1) := by decide +kernel
theorem dX12_aMill_11 : decode cX12_aMill 11 = .ok (.invokestatic 213, 3) := by decide +kernel
theorem dX12_aMill_14 : decode cX12_aMill 14 = .ok (.iadd, 1) := by decide +kernel
theorem dX12_aMill_15 : decode cX12_aMill 15 = .ok (.istore_n 1, 1) := by decide +kernel
theorem dX12_aMill_16 : decode cX12_aMill 16 = .ok (.aload_n 0, 1) := by decide +kernel
theorem dX12_aMill_17 : decode cX12_aMill 17 = .ok (.iconst 1, 1) := by decide +kernel
theorem dX12_aMill_18 : decode cX12_aMill 18 = .ok (.iconst 4, 1) := by decide +kernel
theorem dX12_aMill_19 : decode cX12_aMill 19 = .ok (.bipush 8, 2) := by decide +kernel
theorem dX12_aMill_21 : decode cX12_aMill 21 = .ok (.invokevirtual 206, 3) := by decide +kernel
theorem dX12_aMill_24 : decode cX12_aMill 24 = .ok (.ifCond .eq 22, 3) := by decide +kernel
theorem dX12_aMill_27 : decode cX12_aMill 27 = .ok (.aload_n 0, 1) := by decide +kernel
theorem dX12_aMill_28 : decode cX12_aMill 28 = .ok (.ldc 184, 2) := by decide +kernel
theorem dX12_aMill_30 : decode cX12_aMill 30 = .ok (.bipush 13, 2) := by decide +kernel
theorem dX12_aMill_32 : decode cX12_aMill 32 = .ok (.invokevirtual 209, 3) := by decide +kernel
theorem dX12_aMill_35 : decode cX12_aMill 35 = .ok (.ifCond .eq 11, 3) := by decide +kernel
theorem dX12_aMill_38 : decode cX12_aMill 38 = .ok (.aload_n 0, 1) := by decide +kernel
theorem dX12_aMill_39 : decode cX12_aMill 39 = .ok (.iload_n 1, 1) := by decide +kernel
theorem dX12_aMill_40 : decode cX12_aMill 40 = .ok (.invokevirtual 197, 3) := by decide +kernel
theorem dX12_aMill_43 : decode cX12_aMill 43 = .ok (.ifCond .ne 5, 3) := by decide +kernel
theorem dX12_aMill_46 : decode cX12_aMill 46 = .ok (.iconst 0, 1) := by decide +kernel
theorem dX12_aMill_47 : decode cX12_aMill 47 = .ok (.ireturn, 1) := by decide +kernel
theorem dX12_aMill_48 : decode cX12_aMill 48 = .ok (.aload_n 0, 1) := by decide +kernel
theorem dX12_aMill_49 : decode cX12_aMill 49 = .ok (.ldc 184, 2) := by decide +kernel
theorem dX12_aMill_51 : decode cX12_aMill 51 = .ok (.invokevirtual 176, 3) := by decide +kernel
theorem dX12_aMill_54 : decode cX12_aMill 54 = .ok (.istore_n 2, 1) := by decide +kernel
theorem dX12_aMill_55 : decode cX12_aMill 55 = .ok (.iload_n 2, 1) := by decide +kernel
theorem dX12_aMill_56 : decode cX12_aMill 56 = .ok (.bipush 6, 2) := by decide +kernel
theorem dX12_aMill_58 : decode cX12_aMill 58 = .ok (.if_icmp .lt 9, 3) := by decide +kernel
theorem dX12_aMill_61 : decode cX12_aMill 61 = .ok (.iload_n 2, 1) := by decide +kernel
theorem dX12_aMill_62 : decode cX12_aMill 62 = .ok (.bipush 8, 2) := by decide +kernel
theorem dX12_aMill_64 : decode cX12_aMill 64 = .ok (.if_icmp .le 9, 3) := by decide +kernel
theorem dX12_aMill_67 : decode cX12_aMill 67 = .ok (.aload_n 0, 1) := by decide +kernel
theorem dX12_aMill_68 : decode cX12_aMill 68 = .ok (.iconst 2, 1) := by decide +kernel
theorem dX12_aMill_69 : decode cX12_aMill 69 = .ok (.invokevirtual 173, 3) := by decide +kernel
theorem dX12_aMill_72 : decode cX12_aMill 72 = .ok (.ireturn, 1) := by decide +kernel
theorem dX12_aMill_73 : decode cX12_aMill 73 = .ok (.aload_n 0, 1) := by decide +kernel
theorem dX12_aMill_74 : decode cX12_aMill 74 = .ok (.getfield 7, 3) := by decide +kernel
theorem dX12_aMill_77 : decode cX12_aMill 77 = .ok (.iload_n 1, 1) := by decide +kernel
theorem dX12_aMill_78 : decode cX12_aMill 78 = .ok (.iconst 1, 1) := by decide +kernel
theorem dX12_aMill_79 : decode cX12_aMill 79 = .ok (.iadd, 1) := by decide +kernel
theorem dX12_aMill_80 : decode cX12_aMill 80 = .ok (.iload_n 2, 1) := by decide +kernel
theorem dX12_aMill_81 : decode cX12_aMill 81 = .ok (.bipush 6, 2) := by decide +kernel
theorem dX12_aMill_83 : decode cX12_aMill 83 = .ok (.isub, 1) := by decide +kernel
theorem dX12_aMill_84 : decode cX12_aMill 84 = .ok (.iastore, 1) := by decide +kernel
theorem dX12_aMill_85 : decode cX12_aMill 85 = .ok (.aload_n 0, 1) := by decide +kernel
theorem dX12_aMill_86 : decode cX12_aMill 86 = .ok (.invokevirtual 167, 3) := by decide +kernel
theorem dX12_aMill_89 : decode cX12_aMill 89 = .ok (.aload_n 0, 1) := by decide +kernel
theorem dX12_aMill_90 : decode cX12_aMill 90 = .ok (.getfield 7, 3) := by decide +kernel
theorem dX12_aMill_93 : decode cX12_aMill 93 = .ok (.sipush 1793, 3) := by decide +kernel
theorem dX12_aMill_96 : decode cX12_aMill 96 = .ok (.dup2, 1) := by decide +kernel
theorem dX12_aMill_97 : decode cX12_aMill 97 = .ok (.iaload, 1) := by decide +kernel
theorem dX12_aMill_98 : decode cX12_aMill 98 = .ok (.iconst 1, 1) := by decide +kernel
theorem dX12_aMill_99 : decode cX12_aMill 99 = .ok (.iadd, 1) := by decide +kernel
theorem dX12_aMill_100 : decode cX12_aMill 100 = .ok (.iastore, 1) := by decide +kernel
theorem dX12_aMill_101 : decode cX12_aMill 101 = .ok (.iconst 1, 1) := by decide +kernel
theorem dX12_aMill_102 : decode cX12_aMill 102 = .ok (.ireturn, 1) := by decide +kernel
theorem dX12_glenPart_0 : decode cX12_glenPart 0 = .ok (.aload_n 0, 1) := by decide +kernel
theorem dX12_glenPart_1 : decode cX12_glenPart 1 = .ok (.ldc 184, 2) := by decide +kernel
theorem dX12_glenPart_3 : decode cX12_glenPart 3 = .ok (.invokevirtual 176, 3) := by decide +kernel
theorem dX12_glenPart_6 : decode cX12_glenPart 6 = .ok (.istore_n 1, 1) := by decide +kernel
theorem dX12_glenPart_7 : decode cX12_glenPart 7 = .ok (.iload_n 1, 1) := by decide +kernel
theorem dX12_glenPart_8 : decode cX12_glenPart 8 = .ok (.ifCond .lt 8, 3) := by decide +kernel
theorem dX12_glenPart_11 : decode cX12_glenPart 11 = .ok (.iload_n 1, 1) := by decide +kernel
theorem dX12_glenPart_12 : decode cX12_glenPart 12 = .ok (.iconst 5, 1) := by decide +kernel
theorem dX12_glenPart_13 : decode cX12_glenPart 13 = .ok (.if_icmp .le 9, 3) := by decide +kernel
theorem dX12_glenPart_16 : decode cX12_glenPart 16 = .ok (.aload_n 0, 1) := by decide +kernel
theorem dX12_glenPart_17 : decode cX12_glenPart 17 = .ok (.iconst 2, 1) := by decide +kernel
theorem dX12_glenPart_18 : decode cX12_glenPart 18 = .ok (.invokevirtual 173, 3) := by decide +kernel
theorem dX12_glenPart_21 : decode cX12_glenPart 21 = .ok (.ireturn, 1) := by decide +kernel
theorem dX12_glenPart_22 : decode cX12_glenPart 22 = .ok (.iload_n 1, 1) := by decide +kernel
theorem dX12_glenPart_23 : decode cX12_glenPart 23 = .ok (.iconst 3, 1) := by decide +kernel
theorem dX12_glenPart_24 : decode cX12_glenPart 24 = .ok (.if_icmp .gt 21, 3) := by decide +kernel
theorem dX12_glenPart_27 : decode cX12_glenPart 27 = .ok (.aload_n 0, 1) := by decide +kernel
theorem dX12_glenPart_28 : decode cX12_glenPart 28 = .ok (.getfield 216, 3) := by decide +kernel
theorem dX12_glenPart_31 : decode cX12_glenPart 31 = .ok (.iload_n 1, 1) := by decide +kernel
theorem dX12_glenPart_32 : decode cX12_glenPart 32 = .ok (.ishr, 1) := by decide +kernel
theorem dX12_glenPart_33 : decode cX12_glenPart 33 = .ok (.iconst 1, 1) := by decide +kernel
theorem dX12_glenPart_34 : decode cX12_glenPart 34 = .ok (.iand, 1) := by decide +kernel
theorem dX12_glenPart_35 : decode cX12_glenPart 35 = .ok (.iconst 1, 1) := by decide +kernel
theorem dX12_glenPart_36 : decode cX12_glenPart 36 = .ok (.if_icmp .ne 9, 3) := by decide +kernel
theorem dX12_glenPart_39 : decode cX12_glenPart 39 = .ok (.aload_n 0, 1) := by decide +kernel
theorem dX12_glenPart_40 : decode cX12_glenPart 40 = .ok (.iconst 5, 1) := by decide +kernel
theorem dX12_glenPart_41 : decode cX12_glenPart 41 = .ok (.invokevirtual 173, 3) := by decide +kernel
theorem dX12_glenPart_44 : decode cX12_glenPart 44 = .ok (.ireturn, 1) := by decide +kernel
theorem dX12_glenPart_45 : decode cX12_glenPart 45 = .ok (.aload_n 0, 1) := by decide +kernel
theorem dX12_glenPart_46 : decode cX12_glenPart 46 = .ok (.dup, 1) := by decide +kernel
theorem dX12_glenPart_47 : decode cX12_glenPart 47 = .ok (.getfield 216, 3) := by decide +kernel
theorem dX12_glenPart_50 : decode cX12_glenPart 50 = .ok (.iconst 1, 1) := by decide +kernel
theorem dX12_glenPart_51 : decode cX12_glenPart 51 = .ok (.iload_n 1, 1) := by decide +kernel
theorem dX12_glenPart_52 : decode cX12_glenPart 52 = .ok (.ishl, 1) := by decide +kernel
theorem dX12_glenPart_53 : decode cX12_glenPart 53 = .ok (.iload_n 1, 1) := by decide +kernel
theorem dX12_glenPart_54 : decode cX12_glenPart 54 = .ok (.iconst 3, 1) := by decide +kernel
theorem dX12_glenPart_55 : decode cX12_glenPart 55 = .ok (.if_icmp .lt 7, 3) := by decide +kernel
theorem dX12_glenPart_58 : decode cX12_glenPart 58 = .ok (.iconst 1, 1) := by decide +kernel
theorem dX12_glenPart_59 : decode cX12_glenPart 59 = .ok (.goto 4, 3) := by decide +kernel
theorem dX12_glenPart_62 : decode cX12_glenPart 62 = .ok (.iconst 0, 1) := by decide +kernel
theorem dX12_glenPart_63 : decode cX12_glenPart 63 = .ok (.ior, 1) := by decide +kernel
theorem dX12_glenPart_64 : decode cX12_glenPart 64 = .ok (.ior, 1) := by decide +kernel
theorem dX12_glenPart_65 : decode cX12_glenPart 65 = .ok (.putfield 216, 3) := by decide +kernel
theorem dX12_glenPart_68 : decode cX12_glenPart 68 = .ok (.iload_n 1, 1) := by decide +kernel
theorem dX12_glenPart_69 : decode cX12_glenPart 69 = .ok (.iconst 3, 1) := by decide +kernel
theorem dX12_glenPart_70 : decode cX12_glenPart 70 = .ok (.if_icmp .gt 7, 3) := by decide +kernel
theorem dX12_glenPart_73 : decode cX12_glenPart 73 = .ok (.aload_n 0, 1) := by decide +kernel
theorem dX12_glenPart_74 : decode cX12_glenPart 74 = .ok (.invokevirtual 167, 3) := by decide +kernel
theorem dX12_glenPart_77 : decode cX12_glenPart 77 = .ok (.iload_n 1, 1) := by decide +kernel
theorem dX12_glenPart_78 : decode cX12_glenPart 78 = .ok (.tableswitch 92 0 4 #[34, 48, 62, 76, 84], 34) := by decide +kernel
theorem dX12_glenPart_112 : decode cX12_glenPart 112 = .ok (.aload_n 0, 1) := by decide +kernel
theorem dX12_glenPart_113 : decode cX12_glenPart 113 = .ok (.sipush 1794, 3) := by decide +kernel
theorem dX12_glenPart_116 : decode cX12_glenPart 116 = .ok (.iconst 2, 1) := by decide +kernel
theorem dX12_glenPart_117 : decode cX12_glenPart 117 = .ok (.bipush 16, 2) := by decide +kernel
theorem dX12_glenPart_119 : decode cX12_glenPart 119 = .ok (.invokevirtual 193, 3) := by decide +kernel
theorem dX12_glenPart_122 : decode cX12_glenPart 122 = .ok (.istore_n 2, 1) := by decide +kernel
theorem dX12_glenPart_123 : decode cX12_glenPart 123 = .ok (.goto 52, 3) := by decide +kernel
theorem dX12_glenPart_126 : decode cX12_glenPart 126 = .ok (.aload_n 0, 1) := by decide +kernel
theorem dX12_glenPart_127 : decode cX12_glenPart 127 = .ok (.sipush 1795, 3) := by decide +kernel
theorem dX12_glenPart_130 : decode cX12_glenPart 130 = .ok (.iconst 1, 1) := by decide +kernel
theorem dX12_glenPart_131 : decode cX12_glenPart 131 = .ok (.bipush 40, 2) := by decide +kernel
theorem dX12_glenPart_133 : decode cX12_glenPart 133 = .ok (.invokevirtual 193, 3) := by decide +kernel
theorem dX12_glenPart_136 : decode cX12_glenPart 136 = .ok (.istore_n 2, 1) := by decide +kernel
theorem dX12_glenPart_137 : decode cX12_glenPart 137 = .ok (.goto 38, 3) := by decide +kernel
theorem dX12_glenPart_140 : decode cX12_glenPart 140 = .ok (.aload_n 0, 1) := by decide +kernel
theorem dX12_glenPart_141 : decode cX12_glenPart 141 = .ok (.sipush 1796, 3) := by decide +kernel
theorem dX12_glenPart_144 : decode cX12_glenPart 144 = .ok (.iconst 0, 1) := by decide +kernel
theorem dX12_glenPart_145 : decode cX12_glenPart 145 = .ok (.bipush 16, 2) := by decide +kernel
theorem dX12_glenPart_147 : decode cX12_glenPart 147 = .ok (.invokevirtual 193, 3) := by decide +kernel
theorem dX12_glenPart_150 : decode cX12_glenPart 150 = .ok (.istore_n 2, 1) := by decide +kernel
theorem dX12_glenPart_151 : decode cX12_glenPart 151 = .ok (.goto 24, 3) := by decide +kernel
theorem dX12_glenPart_154 : decode cX12_glenPart 154 = .ok (.aload_n 0, 1) := by decide +kernel
theorem dX12_glenPart_155 : decode cX12_glenPart 155 = .ok (.invokevirtual 219, 3) := by decide +kernel
theorem dX12_glenPart_158 : decode cX12_glenPart 158 = .ok (.istore_n 2, 1) := by decide +kernel
theorem dX12_glenPart_159 : decode cX12_glenPart 159 = .ok (.goto 16, 3) := by decide +kernel
theorem dX12_glenPart_162 : decode cX12_glenPart 162 = .ok (.aload_n 0, 1) := by decide +kernel
theorem dX12_glenPart_163 : decode cX12_glenPart 163 = .ok (.invokevirtual 223, 3) := by decide +kernel
theorem dX12_glenPart_166 : decode cX12_glenPart 166 = .ok (.istore_n 2, 1) := by decide +kernel
theorem dX12_glenPart_167 : decode cX12_glenPart 167 = .ok (.goto 8, 3) := by decide +kernel
theorem dX12_glenPart_170 : decode cX12_glenPart 170 = .ok (.aload_n 0, 1) := by decide +kernel
theorem dX12_glenPart_171 : decode cX12_glenPart 171 = .ok (.invokevirtual 226, 3) := by decide +kernel
theorem dX12_glenPart_174 : decode cX12_glenPart 174 = .ok (.istore_n 2, 1) := by decide +kernel
theorem dX12_glenPart_175 : decode cX12_glenPart 175 = .ok (.iload_n 2, 1) := by decide +kernel
theorem dX12_glenPart_176 : decode cX12_glenPart 176 = .ok (.ifCond .eq 16, 3) := by decide +kernel
theorem dX12_glenPart_179 : decode cX12_glenPart 179 = .ok (.aload_n 0, 1) := by decide +kernel
theorem dX12_glenPart_180 : decode cX12_glenPart 180 = .ok (.bipush 59, 2) := by decide +kernel
theorem dX12_glenPart_182 : decode cX12_glenPart 182 = .ok (.invokevirtual 229, 3) := by decide +kernel
theorem dX12_glenPart_185 : decode cX12_glenPart 185 = .ok (.ifCond .eq 7, 3) := by decide +kernel
theorem dX12_glenPart_188 : decode cX12_glenPart 188 = .ok (.iconst 1, 1) := by decide +kernel
theorem dX12_glenPart_189 : decode cX12_glenPart 189 = .ok (.goto 4, 3) := by decide +kernel
theorem dX12_glenPart_192 : decode cX12_glenPart 192 = .ok (.iconst 0, 1) := by decide +kernel
theorem dX12_glenPart_193 : decode cX12_glenPart 193 = .ok (.ireturn, 1) := by decide +kernel
theorem dX12_glen_0 : decode cX12_glen 0 = .ok (.aload_n 0, 1) := by decide +kernel
theorem dX12_glen_1 : decode cX12_glen 1 = .ok (.iload_n 1, 1) := by decide +kernel
theorem dX12_glen_2 : decode cX12_glen 2 = .ok (.sipush 900, 3) := by decide +kernel
theorem dX12_glen_5 : decode cX12_glen 5 = .ok (.invokevirtual 232, 3) := by decide +kernel
theorem dX12_glen_8 : decode cX12_glen 8 = .ok (.ifCond .ne 9, 3) := by decide +kernel
theorem dX12_glen_11 : decode cX12_glen 11 = .ok (.aload_n 0, 1) := by decide +kernel
theorem dX12_glen_12 : decode cX12_glen 12 = .ok (.iconst 1, 1) := by decide +kernel
theorem dX12_glen_13 : decode cX12_glen 13 = .ok (.invokevirtual 91, 3) := by decide +kernel
theorem dX12_glen_16 : decode cX12_glen 16 = .ok (.ireturn, 1) := by decide +kernel
theorem dX12_glen_17 : decode cX12_glen 17 = .ok (.aload_n 0, 1) := by decide +kernel
theorem dX12_glen_18 : decode cX12_glen 18 = .ok (.sipush 1792, 3) := by decide +kernel
theorem dX12_glen_21 : decode cX12_glen 21 = .ok (.invokevirtual 81, 3) := by decide +kernel
theorem dX12_glen_24 : decode cX12_glen 24 = .ok (.aload_n 0, 1) := by decide +kernel
theorem dX12_glen_25 : decode cX12_glen 25 = .ok (.iconst 0, 1) := by decide +kernel
theorem dX12_glen_26 : decode cX12_glen 26 = .ok (.putfield 216, 3) := by decide +kernel
theorem dX12_glen_29 : decode cX12_glen 29 = .ok (.iconst 1, 1) := by decide +kernel
theorem dX12_glen_30 : decode cX12_glen 30 = .ok (.istore_n 2, 1) := by decide +kernel
theorem dX12_glen_31 : decode cX12_glen 31 = .ok (.iload_n 2, 1) := by decide +kernel
theorem dX12_glen_32 : decode cX12_glen 32 = .ok (.ifCond .eq 18, 3) := by decide +kernel
theorem dX12_glen_35 : decode cX12_glen 35 = .ok (.aload_n 0, 1) := by decide +kernel
theorem dX12_glen_36 : decode cX12_glen 36 = .ok (.getfield 136, 3) := by decide +kernel
theorem dX12_glen_39 : decode cX12_glen 39 = .ok (.ifCond .eq 11, 3) := by decide +kernel
theorem dX12_glen_42 : decode cX12_glen 42 = .ok (.aload_n 0, 1) := by decide +kernel
theorem dX12_glen_43 : decode cX12_glen 43 = .ok (.invokevirtual 236, 3) := by decide +kernel
theorem dX12_glen_46 : decode cX12_glen 46 = .ok (.istore_n 2, 1) := by decide +kernel
theorem dX12_glen_47 : decode cX12_glen 47 = .ok (.goto (-16), 3) := by decide +kernel
theorem dX12_glen_50 : decode cX12_glen 50 = .ok (.aload_n 0, 1) := by decide +kernel
theorem dX12_glen_51 : decode cX12_glen 51 = .ok (.getfield 161, 3) := by decide +kernel
theorem dX12_glen_54 : decode cX12_glen 54 = .ok (.ifCond .ne 63, 3) := by decide +kernel
theorem dX12_glen_57 : decode cX12_glen 57 = .ok (.iconst 0, 1) := by decide +kernel
theorem dX12_glen_58 : decode cX12_glen 58 = .ok (.istore_n 3, 1) := by decide +kernel
theorem dX12_glen_59 : decode cX12_glen 59 = .ok (.iload_n 3, 1) := by decide +kernel
theorem dX12_glen_60 : decode cX12_glen 60 = .ok (.sipush 448, 3) := by decide +kernel
theorem dX12_glen_63 : decode cX12_glen 63 = .ok (.if_icmp .ge 25, 3) := by decide +kernel
theorem dX12_glen_66 : decode cX12_glen 66 = .ok (.aload_n 0, 1) := by decide +kernel
theorem dX12_glen_67 : decode cX12_glen 67 = .ok (.getfield 7, 3) := by decide +kernel
theorem dX12_glen_70 : decode cX12_glen 70 = .ok (.iload_n 3, 1) := by decide +kernel
theorem dX12_glen_71 : decode cX12_glen 71 = .ok (.aload_n 0, 1) := by decide +kernel
theorem dX12_glen_72 : decode cX12_glen 72 = .ok (.getfield 7, 3) := by decide +kernel
theorem dX12_glen_75 : decode cX12_glen 75 = .ok (.sipush 1792, 3) := by decide +kernel
theorem dX12_glen_78 : decode cX12_glen 78 = .ok (.iload_n 3, 1) := by decide +kernel
theorem dX12_glen_79 : decode cX12_glen 79 = .ok (.iadd, 1) := by decide +kernel
theorem dX12_glen_80 : decode cX12_glen 80 = .ok (.iaload, 1) := by decide +kernel
theorem dX12_glen_81 : decode cX12_glen 81 = .ok (.iastore, 1) := by decide +kernel
theorem dX12_glen_82 : decode cX12_glen 82 = .ok (.iinc 3 1, 3) := by decide +kernel
theorem dX12_glen_85 : decode cX12_glen 85 = .ok (.goto (-26), 3) := by decide +kernel
theorem dX12_glen_88 : decode cX12_glen 88 = .ok (.iconst 0, 1) := by decide +kernel
theorem dX12_glen_89 : decode cX12_glen 89 = .ok (.istore_n 3, 1) := by decide +kernel
theorem dX12_glen_90 : decode cX12_glen 90 = .ok (.iload_n 3, 1) := by decide +kernel
theorem dX12_glen_91 : decode cX12_glen 91 = .ok (.bipush 12, 2) := by decide +kernel
theorem dX12_glen_93 : decode cX12_glen 93 = .ok (.if_icmp .ge 24, 3) := by decide +kernel
theorem dX12_glen_96 : decode cX12_glen 96 = .ok (.aload_n 0, 1) := by decide +kernel
theorem dX12_glen_97 : decode cX12_glen 97 = .ok (.getfield 13, 3) := by decide +kernel
theorem dX12_glen_100 : decode cX12_glen 100 = .ok (.iload_n 3, 1) := by decide +kernel
theorem dX12_glen_101 : decode cX12_glen 101 = .ok (.aload_n 0, 1) := by decide +kernel
theorem dX12_glen_102 : decode cX12_glen 102 = .ok (.getfield 13, 3) := by decide +kernel
theorem dX12_glen_105 : decode cX12_glen 105 = .ok (.bipush 48, 2) := by decide +kernel
theorem dX12_glen_107 : decode cX12_glen 107 = .ok (.iload_n 3, 1) := by decide +kernel
theorem dX12_glen_108 : decode cX12_glen 108 = .ok (.iadd, 1) := by decide +kernel
theorem dX12_glen_109 : decode cX12_glen 109 = .ok (.laload, 1) := by decide +kernel
theorem dX12_glen_110 : decode cX12_glen 110 = .ok (.lastore, 1) := by decide +kernel
theorem dX12_glen_111 : decode cX12_glen 111 = .ok (.iinc 3 1, 3) := by decide +kernel
theorem dX12_glen_114 : decode cX12_glen 114 = .ok (.goto (-24), 3) := by decide +kernel
theorem dX12_glen_117 : decode cX12_glen 117 = .ok (.aload_n 0, 1) := by decide +kernel
theorem dX12_glen_118 : decode cX12_glen 118 = .ok (.aload_n 0, 1) := by decide +kernel
theorem dX12_glen_119 : decode cX12_glen 119 = .ok (.getfield 7, 3) := by decide +kernel
theorem dX12_glen_122 : decode cX12_glen 122 = .ok (.iconst 0, 1) := by decide +kernel
theorem dX12_glen_123 : decode cX12_glen 123 = .ok (.iaload, 1) := by decide +kernel
theorem dX12_glen_124 : decode cX12_glen 124 = .ok (.invokevirtual 239, 3) := by decide +kernel
theorem dX12_glen_127 : decode cX12_glen 127 = .ok (.ireturn, 1) := by decide +kernel
theorem dX12_thingTo_0 : decode cX12_thingTo 0 = .ok (.aload_n 0, 1) := by decide +kernel
theorem dX12_thingTo_1 : decode cX12_thingTo 1 = .ok (.iconst 0, 1) := by decide +kernel
theorem dX12_thingTo_2 : decode cX12_thingTo 2 = .ok (.aload_n 0, 1) := by decide +kernel
theorem dX12_thingTo_3 : decode cX12_thingTo 3 = .ok (.getfield 7, 3) := by decide +kernel
theorem dX12_thingTo_6 : decode cX12_thingTo 6 = .ok (.iconst 0, 1) := by decide +kernel
theorem dX12_thingTo_7 : decode cX12_thingTo 7 = .ok (.iaload, 1) := by decide +kernel
theorem dX12_thingTo_8 : decode cX12_thingTo 8 = .ok (.iload_n 1, 1) := by decide +kernel
theorem dX12_thingTo_9 : decode cX12_thingTo 9 = .ok (.invokevirtual 242, 3) := by decide +kernel
theorem dX12_thingTo_12 : decode cX12_thingTo 12 = .ok (.ireturn, 1) := by decide +kernel
theorem dX12_test_0 : decode cX12_test 0 = .ok (.aload_n 0, 1) := by decide +kernel
theorem dX12_test_1 : decode cX12_test 1 = .ok (.ldc 184, 2) := by decide +kernel
theorem dX12_test_3 : decode cX12_test 3 = .ok (.invokevirtual 176, 3) := by decide +kernel
theorem dX12_test_6 : decode cX12_test 6 = .ok (.istore_n 2, 1) := by decide +kernel
theorem dX12_test_7 : decode cX12_test 7 = .ok (.iload_n 2, 1) := by decide +kernel
theorem dX12_test_8 : decode cX12_test 8 = .ok (.bipush 12, 2) := by decide +kernel
theorem dX12_test_10 : decode cX12_test 10 = .ok (.if_icmp .eq 21, 3) := by decide +kernel
theorem dX12_test_13 : decode cX12_test 13 = .ok (.iload_n 2, 1) := by decide +kernel
theorem dX12_test_14 : decode cX12_test 14 = .ok (.bipush 13, 2) := by decide +kernel
theorem dX12_test_16 : decode cX12_test 16 = .ok (.if_icmp .eq 15, 3) := by decide +kernel
theorem dX12_test_19 : decode cX12_test 19 = .ok (.iload_n 2, 1) := by decide +kernel
theorem dX12_test_20 : decode cX12_test 20 = .ok (.bipush 22, 2) := by decide +kernel
theorem dX12_test_22 : decode cX12_test 22 = .ok (.if_icmp .ge 9, 3) := by decide +kernel
theorem dX12_test_25 : decode cX12_test 25 = .ok (.aload_n 0, 1) := by decide +kernel
theorem dX12_test_26 : decode cX12_test 26 = .ok (.iconst 2, 1) := by decide +kernel
theorem dX12_test_27 : decode cX12_test 27 = .ok (.invokevirtual 173, 3) := by decide +kernel
theorem dX12_test_30 : decode cX12_test 30 = .ok (.ireturn, 1) := by decide +kernel
theorem dX12_test_31 : decode cX12_test 31 = .ok (.aload_n 0, 1) := by decide +kernel
theorem dX12_test_32 : decode cX12_test 32 = .ok (.getfield 7, 3) := by decide +kernel
theorem dX12_test_35 : decode cX12_test 35 = .ok (.iload_n 1, 1) := by decide +kernel
theorem dX12_test_36 : decode cX12_test 36 = .ok (.sipush 1800, 3) := by decide +kernel
theorem dX12_test_39 : decode cX12_test 39 = .ok (.iload_n 2, 1) := by decide +kernel
theorem dX12_test_40 : decode cX12_test 40 = .ok (.iadd, 1) := by decide +kernel
theorem dX12_test_41 : decode cX12_test 41 = .ok (.iastore, 1) := by decide +kernel
theorem dX12_test_42 : decode cX12_test 42 = .ok (.aload_n 0, 1) := by decide +kernel
theorem dX12_test_43 : decode cX12_test 43 = .ok (.invokevirtual 167, 3) := by decide +kernel
theorem dX12_test_46 : decode cX12_test 46 = .ok (.iload_n 2, 1) := by decide +kernel
theorem dX12_test_47 : decode cX12_test 47 = .ok (.bipush 12, 2) := by decide +kernel
theorem dX12_test_49 : decode cX12_test 49 = .ok (.if_icmp .ne 11, 3) := by decide +kernel
theorem dX12_test_52 : decode cX12_test 52 = .ok (.aload_n 0, 1) := by decide +kernel
theorem dX12_test_53 : decode cX12_test 53 = .ok (.iload_n 1, 1) := by decide +kernel
theorem dX12_test_54 : decode cX12_test 54 = .ok (.iconst 1, 1) := by decide +kernel
theorem dX12_test_55 : decode cX12_test 55 = .ok (.iadd, 1) := by decide +kernel
theorem dX12_test_56 : decode cX12_test 56 = .ok (.invokevirtual 245, 3) := by decide +kernel
theorem dX12_test_59 : decode cX12_test 59 = .ok (.ireturn, 1) := by decide +kernel
theorem dX12_test_60 : decode cX12_test 60 = .ok (.iload_n 2, 1) := by decide +kernel
theorem dX12_test_61 : decode cX12_test 61 = .ok (.bipush 22, 2) := by decide +kernel
theorem dX12_test_63 : decode cX12_test 63 = .ok (.if_icmp .ne 46, 3) := by decide +kernel
theorem dX12_test_66 : decode cX12_test 66 = .ok (.aload_n 0, 1) := by decide +kernel
theorem dX12_test_67 : decode cX12_test 67 = .ok (.ldc 184, 2) := by decide +kernel
theorem dX12_test_69 : decode cX12_test 69 = .ok (.invokevirtual 176, 3) := by decide +kernel
theorem dX12_test_72 : decode cX12_test 72 = .ok (.istore_n 3, 1) := by decide +kernel
theorem dX12_test_73 : decode cX12_test 73 = .ok (.iload_n 3, 1) := by decide +kernel
theorem dX12_test_74 : decode cX12_test 74 = .ok (.bipush 6, 2) := by decide +kernel
theorem dX12_test_76 : decode cX12_test 76 = .ok (.if_icmp .eq 15, 3) := by decide +kernel
theorem dX12_test_79 : decode cX12_test 79 = .ok (.iload_n 3, 1) := by decide +kernel
theorem dX12_test_80 : decode cX12_test 80 = .ok (.bipush 7, 2) := by decide +kernel
theorem dX12_test_82 : decode cX12_test 82 = .ok (.if_icmp .eq 9, 3) := by decide +kernel
theorem dX12_test_85 : decode cX12_test 85 = .ok (.aload_n 0, 1) := by decide +kernel
theorem dX12_test_86 : decode cX12_test 86 = .ok (.iconst 2, 1) := by decide +kernel
theorem dX12_test_87 : decode cX12_test 87 = .ok (.invokevirtual 173, 3) := by decide +kernel
theorem dX12_test_90 : decode cX12_test 90 = .ok (.ireturn, 1) := by decide +kernel
theorem dX12_test_91 : decode cX12_test 91 = .ok (.aload_n 0, 1) := by decide +kernel
theorem dX12_test_92 : decode cX12_test 92 = .ok (.getfield 7, 3) := by decide +kernel
theorem dX12_test_95 : decode cX12_test 95 = .ok (.iload_n 1, 1) := by decide +kernel
theorem dX12_test_96 : decode cX12_test 96 = .ok (.iconst 1, 1) := by decide +kernel
theorem dX12_test_97 : decode cX12_test 97 = .ok (.iadd, 1) := by decide +kernel
theorem dX12_test_98 : decode cX12_test 98 = .ok (.iload_n 3, 1) := by decide +kernel
theorem dX12_test_99 : decode cX12_test 99 = .ok (.bipush 6, 2) := by decide +kernel
theorem dX12_test_101 : decode cX12_test 101 = .ok (.isub, 1) := by decide +kernel
theorem dX12_test_102 : decode cX12_test 102 = .ok (.iastore, 1) := by decide +kernel
theorem dX12_test_103 : decode cX12_test 103 = .ok (.aload_n 0, 1) := by decide +kernel
theorem dX12_test_104 : decode cX12_test 104 = .ok (.invokevirtual 167, 3) := by decide +kernel
theorem dX12_test_107 : decode cX12_test 107 = .ok (.iconst 1, 1) := by decide +kernel
theorem dX12_test_108 : decode cX12_test 108 = .ok (.ireturn, 1) := by decide +kernel
theorem dX12_test_109 : decode cX12_test 109 = .ok (.iload_n 2, 1) := by decide +kernel
theorem dX12_test_110 : decode cX12_test 110 = .ok (.bipush 23, 2) := by decide +kernel
theorem dX12_test_112 : decode cX12_test 112 = .ok (.if_icmp .ne 23, 3) := by decide +kernel
theorem dX12_test_115 : decode cX12_test 115 = .ok (.aload_n 0, 1) := by decide +kernel
theorem dX12_test_116 : decode cX12_test 116 = .ok (.bipush 8, 2) := by decide +kernel
theorem dX12_test_118 : decode cX12_test 118 = .ok (.aload_n 0, 1) := by decide +kernel
theorem dX12_test_119 : decode cX12_test 119 = .ok (.getfield 7, 3) := by decide +kernel
theorem dX12_test_122 : decode cX12_test 122 = .ok (.iconst 1, 1) := by decide +kernel
theorem dX12_test_123 : decode cX12_test 123 = .ok (.iaload, 1) := by decide +kernel
theorem dX12_test_124 : decode cX12_test 124 = .ok (.iload_n 1, 1) := by decide +kernel
theorem dX12_test_125 : decode cX12_test 125 = .ok (.iconst 1, 1) := by decide +kernel
theorem dX12_test_126 : decode cX12_test 126 = .ok (.iadd, 1) := by decide +kernel
theorem dX12_test_127 : decode cX12_test 127 = .ok (.invokevirtual 242, 3) := by decide +kernel
theorem dX12_test_130 : decode cX12_test 130 = .ok (.ifCond .ne 5, 3) := by decide +kernel
theorem dX12_test_133 : decode cX12_test 133 = .ok (.iconst 0, 1) := by decide +kernel
theorem dX12_test_134 : decode cX12_test 134 = .ok (.ireturn, 1) := by decide +kernel
theorem dX12_test_135 : decode cX12_test 135 = .ok (.aload_n 0, 1) := by decide +kernel
theorem dX12_test_136 : decode cX12_test 136 = .ok (.bipush 60, 2) := by decide +kernel
theorem dX12_test_138 : decode cX12_test 138 = .ok (.invokevirtual 170, 3) := by decide +kernel
theorem dX12_test_141 : decode cX12_test 141 = .ok (.ifCond .ne 27, 3) := by decide +kernel
theorem dX12_test_144 : decode cX12_test 144 = .ok (.aload_n 0, 1) := by decide +kernel
theorem dX12_test_145 : decode cX12_test 145 = .ok (.bipush 62, 2) := by decide +kernel
theorem dX12_test_147 : decode cX12_test 147 = .ok (.invokevirtual 170, 3) := by decide +kernel
theorem dX12_test_150 : decode cX12_test 150 = .ok (.ifCond .ne 18, 3) := by decide +kernel
theorem dX12_test_153 : decode cX12_test 153 = .ok (.aload_n 0, 1) := by decide +kernel
theorem dX12_test_154 : decode cX12_test 154 = .ok (.bipush 61, 2) := by decide +kernel
theorem dX12_test_156 : decode cX12_test 156 = .ok (.invokevirtual 170, 3) := by decide +kernel
theorem dX12_test_159 : decode cX12_test 159 = .ok (.ifCond .ne 9, 3) := by decide +kernel
theorem dX12_test_162 : decode cX12_test 162 = .ok (.aload_n 0, 1) := by decide +kernel
theorem dX12_test_163 : decode cX12_test 163 = .ok (.iconst 2, 1) := by decide +kernel
theorem dX12_test_164 : decode cX12_test 164 = .ok (.invokevirtual 173, 3) := by decide +kernel
theorem dX12_test_167 : decode cX12_test 167 = .ok (.ireturn, 1) := by decide +kernel
theorem dX12_test_168 : decode cX12_test 168 = .ok (.aload_n 0, 1) := by decide +kernel
theorem dX12_test_169 : decode cX12_test 169 = .ok (.getfield 7, 3) := by decide +kernel
theorem dX12_test_172 : decode cX12_test 172 = .ok (.iload_n 1, 1) := by decide +kernel
theorem dX12_test_173 : decode cX12_test 173 = .ok (.iconst 5, 1) := by decide +kernel
theorem dX12_test_174 : decode cX12_test 174 = .ok (.iadd, 1) := by decide +kernel
theorem dX12_test_175 : decode cX12_test 175 = .ok (.aload_n 0, 1) := by decide +kernel
theorem dX12_test_176 : decode cX12_test 176 = .ok (.getfield 133, 3) := by decide +kernel
theorem dX12_test_179 : decode cX12_test 179 = .ok (.iastore, 1) := by decide +kernel
theorem dX12_test_180 : decode cX12_test 180 = .ok (.aload_n 0, 1) := by decide +kernel
theorem dX12_test_181 : decode cX12_test 181 = .ok (.invokevirtual 167, 3) := by decide +kernel
theorem dX12_test_184 : decode cX12_test 184 = .ok (.aload_n 0, 1) := by decide +kernel
theorem dX12_test_185 : decode cX12_test 185 = .ok (.iload_n 1, 1) := by decide +kernel
theorem dX12_test_186 : decode cX12_test 186 = .ok (.iconst 2, 1) := by decide +kernel
theorem dX12_test_187 : decode cX12_test 187 = .ok (.iadd, 1) := by decide +kernel
theorem dX12_test_188 : decode cX12_test 188 = .ok (.iconst 0, 1) := by decide +kernel
theorem dX12_test_189 : decode cX12_test 189 = .ok (.iload_n 2, 1) := by decide +kernel
theorem dX12_test_190 : decode cX12_test 190 = .ok (.bipush 13, 2) := by decide +kernel
theorem dX12_test_192 : decode cX12_test 192 = .ok (.if_icmp .ne 8, 3) := by decide +kernel
theorem dX12_test_195 : decode cX12_test 195 = .ok (.bipush 15, 2) := by decide +kernel
theorem dX12_test_197 : decode cX12_test 197 = .ok (.goto 6, 3) := by decide +kernel
theorem dX12_test_200 : decode cX12_test 200 = .ok (.sipush 9999, 3) := by decide +kernel
theorem dX12_test_203 : decode cX12_test 203 = .ok (.invokevirtual 193, 3) := by decide +kernel
theorem dX12_test_206 : decode cX12_test 206 = .ok (.ireturn, 1) := by decide +kernel
theorem dX12_dayOrder_0 : decode cX12_dayOrder 0 = .ok (.iload_n 1, 1) := by decide +kernel
theorem dX12_dayOrder_1 : decode cX12_dayOrder 1 = .ok (.tableswitch 110 14 19 #[39, 50, 85, 110, 104, 93], 39) := by decide +kernel
theorem dX12_dayOrder_40 : decode cX12_dayOrder 40 = .ok (.aload_n 0, 1) := by decide +kernel
theorem dX12_dayOrder_41 : decode cX12_dayOrder 41 = .ok (.iload_n 2, 1) := by decide +kernel
theorem dX12_dayOrder_42 : decode cX12_dayOrder 42 = .ok (.iconst 1, 1) := by decide +kernel
theorem dX12_dayOrder_43 : decode cX12_dayOrder 43 = .ok (.iadd, 1) := by decide +kernel
theorem dX12_dayOrder_44 : decode cX12_dayOrder 44 = .ok (.iconst 1, 1) := by decide +kernel
theorem dX12_dayOrder_45 : decode cX12_dayOrder 45 = .ok (.bipush 24, 2) := by decide +kernel
theorem dX12_dayOrder_47 : decode cX12_dayOrder 47 = .ok (.invokevirtual 193, 3) := by decide +kernel
theorem dX12_dayOrder_50 : decode cX12_dayOrder 50 = .ok (.ireturn, 1) := by decide +kernel
theorem dX12_dayOrder_51 : decode cX12_dayOrder 51 = .ok (.aload_n 0, 1) := by decide +kernel
theorem dX12_dayOrder_52 : decode cX12_dayOrder 52 = .ok (.iload_n 2, 1) := by decide +kernel
theorem dX12_dayOrder_53 : decode cX12_dayOrder 53 = .ok (.iconst 1, 1) := by decide +kernel
theorem dX12_dayOrder_54 : decode cX12_dayOrder 54 = .ok (.iadd, 1) := by decide +kernel
theorem dX12_dayOrder_55 : decode cX12_dayOrder 55 = .ok (.invokevirtual 245, 3) := by decide +kernel
theorem dX12_dayOrder_58 : decode cX12_dayOrder 58 = .ok (.ifCond .eq 26, 3) := by decide +kernel
theorem dX12_dayOrder_61 : decode cX12_dayOrder 61 = .ok (.aload_n 0, 1) := by decide +kernel
theorem dX12_dayOrder_62 : decode cX12_dayOrder 62 = .ok (.iload_n 2, 1) := by decide +kernel
theorem dX12_dayOrder_63 : decode cX12_dayOrder 63 = .ok (.iconst 2, 1) := by decide +kernel
theorem dX12_dayOrder_64 : decode cX12_dayOrder 64 = .ok (.iadd, 1) := by decide +kernel
theorem dX12_dayOrder_65 : decode cX12_dayOrder 65 = .ok (.iconst 0, 1) := by decide +kernel
theorem dX12_dayOrder_66 : decode cX12_dayOrder 66 = .ok (.aload_n 0, 1) := by decide +kernel
theorem dX12_dayOrder_67 : decode cX12_dayOrder 67 = .ok (.getfield 7, 3) := by decide +kernel
theorem dX12_dayOrder_70 : decode cX12_dayOrder 70 = .ok (.iconst 2, 1) := by decide +kernel
theorem dX12_dayOrder_71 : decode cX12_dayOrder 71 = .ok (.iaload, 1) := by decide +kernel
theorem dX12_dayOrder_72 : decode cX12_dayOrder 72 = .ok (.iconst 1, 1) := by decide +kernel
theorem dX12_dayOrder_73 : decode cX12_dayOrder 73 = .ok (.isub, 1) := by decide +kernel
theorem dX12_dayOrder_74 : decode cX12_dayOrder 74 = .ok (.invokevirtual 193, 3) := by decide +kernel
theorem dX12_dayOrder_77 : decode cX12_dayOrder 77 = .ok (.ifCond .eq 7, 3) := by decide +kernel
theorem dX12_dayOrder_80 : decode cX12_dayOrder 80 = .ok (.iconst 1, 1) := by decide +kernel
theorem dX12_dayOrder_81 : decode cX12_dayOrder 81 = .ok (.goto 4, 3) := by decide +kernel
theorem dX12_dayOrder_84 : decode cX12_dayOrder 84 = .ok (.iconst 0, 1) := by decide +kernel
theorem dX12_dayOrder_85 : decode cX12_dayOrder 85 = .ok (.ireturn, 1) := by decide +kernel
theorem dX12_dayOrder_86 : decode cX12_dayOrder 86 = .ok (.aload_n 0, 1) := by decide +kernel
theorem dX12_dayOrder_87 : decode cX12_dayOrder 87 = .ok (.iload_n 2, 1) := by decide +kernel
theorem dX12_dayOrder_88 : decode cX12_dayOrder 88 = .ok (.iconst 1, 1) := by decide +kernel
theorem dX12_dayOrder_89 : decode cX12_dayOrder 89 = .ok (.iadd, 1) := by decide +kernel
theorem dX12_dayOrder_90 : decode cX12_dayOrder 90 = .ok (.invokevirtual 245, 3) := by decide +kernel
theorem dX12_dayOrder_93 : decode cX12_dayOrder 93 = .ok (.ireturn, 1) := by decide +kernel
theorem dX12_dayOrder_94 : decode cX12_dayOrder 94 = .ok (.aload_n 0, 1) := by decide +kernel
theorem dX12_dayOrder_95 : decode cX12_dayOrder 95 = .ok (.iload_n 2, 1) := by decide +kernel
theorem dX12_dayOrder_96 : decode cX12_dayOrder 96 = .ok (.iconst 1, 1) := by decide +kernel
theorem dX12_dayOrder_97 : decode cX12_dayOrder 97 = .ok (.iadd, 1) := by decide +kernel
theorem dX12_dayOrder_98 : decode cX12_dayOrder 98 = .ok (.iconst 1, 1) := by decide +kernel
theorem dX12_dayOrder_99 : decode cX12_dayOrder 99 = .ok (.bipush 99, 2) := by decide +kernel
theorem dX12_dayOrder_101 : decode cX12_dayOrder 101 = .ok (.invokevirtual 193, 3) := by decide +kernel
theorem dX12_dayOrder_104 : decode cX12_dayOrder 104 = .ok (.ireturn, 1) := by decide +kernel
theorem dX12_dayOrder_105 : decode cX12_dayOrder 105 = .ok (.aload_n 0, 1) := by decide +kernel
theorem dX12_dayOrder_106 : decode cX12_dayOrder 106 = .ok (.iload_n 2, 1) := by decide +kernel
theorem dX12_dayOrder_107 : decode cX12_dayOrder 107 = .ok (.invokevirtual 248, 3) := by decide +kernel
theorem dX12_dayOrder_110 : decode cX12_dayOrder 110 = .ok (.ireturn, 1) := by decide +kernel
theorem dX12_dayOrder_111 : decode cX12_dayOrder 111 = .ok (.iconst 1, 1) := by decide +kernel
theorem dX12_dayOrder_112 : decode cX12_dayOrder 112 = .ok (.ireturn, 1) := by decide +kernel
theorem dX12_dayStep_0 : decode cX12_dayStep 0 = .ok (.aload_n 0, 1) := by decide +kernel
theorem dX12_dayStep_1 : decode cX12_dayStep 1 = .ok (.ldc 184, 2) := by decide +kernel
theorem dX12_dayStep_3 : decode cX12_dayStep 3 = .ok (.invokevirtual 176, 3) := by decide +kernel
theorem dX12_dayStep_6 : decode cX12_dayStep 6 = .ok (.istore_n 1, 1) := by decide +kernel
theorem dX12_dayStep_7 : decode cX12_dayStep 7 = .ok (.aload_n 0, 1) := by decide +kernel
theorem dX12_dayStep_8 : decode cX12_dayStep 8 = .ok (.getfield 7, 3) := by decide +kernel
theorem dX12_dayStep_11 : decode cX12_dayStep 11 = .ok (.sipush 1801, 3) := by decide +kernel
theorem dX12_dayStep_14 : decode cX12_dayStep 14 = .ok (.iaload, 1) := by decide +kernel
theorem dX12_dayStep_15 : decode cX12_dayStep 15 = .ok (.istore_n 2, 1) := by decide +kernel
theorem dX12_dayStep_16 : decode cX12_dayStep 16 = .ok (.sipush 1872, 3) := by decide +kernel
theorem dX12_dayStep_19 : decode cX12_dayStep 19 = .ok (.bipush 6, 2) := by decide +kernel
theorem dX12_dayStep_21 : decode cX12_dayStep 21 = .ok (.iload_n 2, 1) := by decide +kernel
theorem dX12_dayStep_22 : decode cX12_dayStep 22 = .ok (.imul, 1) := by decide +kernel
theorem dX12_dayStep_23 : decode cX12_dayStep 23 = .ok (.iadd, 1) := by decide +kernel
theorem dX12_dayStep_24 : decode cX12_dayStep 24 = .ok (.istore_n 3, 1) := by decide +kernel
theorem dX12_dayStep_25 : decode cX12_dayStep 25 = .ok (.iload_n 1, 1) := by decide +kernel
theorem dX12_dayStep_26 : decode cX12_dayStep 26 = .ok (.bipush 18, 2) := by decide +kernel
theorem dX12_dayStep_28 : decode cX12_dayStep 28 = .ok (.if_icmp .eq 9, 3) := by decide +kernel
theorem dX12_dayStep_31 : decode cX12_dayStep 31 = .ok (.iload_n 1, 1) := by decide +kernel
theorem dX12_dayStep_32 : decode cX12_dayStep 32 = .ok (.bipush 19, 2) := by decide +kernel
theorem dX12_dayStep_34 : decode cX12_dayStep 34 = .ok (.if_icmp .ne 7, 3) := by decide +kernel
theorem dX12_dayStep_37 : decode cX12_dayStep 37 = .ok (.iconst 1, 1) := by decide +kernel
theorem dX12_dayStep_38 : decode cX12_dayStep 38 = .ok (.goto 4, 3) := by decide +kernel
theorem dX12_dayStep_41 : decode cX12_dayStep 41 = .ok (.iconst 0, 1) := by decide +kernel
theorem dX12_dayStep_42 : decode cX12_dayStep 42 = .ok (.istore 4, 2) := by decide +kernel
theorem dX12_dayStep_44 : decode cX12_dayStep 44 = .ok (.iload_n 1, 1) := by decide +kernel
theorem dX12_dayStep_45 : decode cX12_dayStep 45 = .ok (.bipush 14, 2) := by decide +kernel
theorem dX12_dayStep_47 : decode cX12_dayStep 47 = .ok (.if_icmp .lt 22, 3) := by decide +kernel
theorem dX12_dayStep_50 : decode cX12_dayStep 50 = .ok (.iload_n 1, 1) := by decide +kernel
theorem dX12_dayStep_51 : decode cX12_dayStep 51 = .ok (.bipush 21, 2) := by decide +kernel
theorem dX12_dayStep_53 : decode cX12_dayStep 53 = .ok (.if_icmp .gt 16, 3) := by decide +kernel
theorem dX12_dayStep_56 : decode cX12_dayStep 56 = .ok (.iload_n 1, 1) := by decide +kernel
theorem dX12_dayStep_57 : decode cX12_dayStep 57 = .ok (.bipush 20, 2) := by decide +kernel
theorem dX12_dayStep_59 : decode cX12_dayStep 59 = .ok (.if_icmp .ne 16, 3) := by decide +kernel
theorem dX12_dayStep_62 : decode cX12_dayStep 62 = .ok (.aload_n 0, 1) := by decide +kernel
theorem dX12_dayStep_63 : decode cX12_dayStep 63 = .ok (.getfield 251, 3) := by decide +kernel
theorem dX12_dayStep_66 : decode cX12_dayStep 66 = .ok (.ifCond .ne 9, 3) := by decide +kernel
theorem dX12_dayStep_69 : decode cX12_dayStep 69 = .ok (.aload_n 0, 1) := by decide +kernel
theorem dX12_dayStep_70 : decode cX12_dayStep 70 = .ok (.iconst 2, 1) := by decide +kernel
theorem dX12_dayStep_71 : decode cX12_dayStep 71 = .ok (.invokevirtual 173, 3) := by decide +kernel
theorem dX12_dayStep_74 : decode cX12_dayStep 74 = .ok (.ireturn, 1) := by decide +kernel
theorem dX12_dayStep_75 : decode cX12_dayStep 75 = .ok (.iload_n 1, 1) := by decide +kernel
theorem dX12_dayStep_76 : decode cX12_dayStep 76 = .ok (.bipush 20, 2) := by decide +kernel
theorem dX12_dayStep_78 : decode cX12_dayStep 78 = .ok (.if_icmp .eq 19, 3) := by decide +kernel
theorem dX12_dayStep_81 : decode cX12_dayStep 81 = .ok (.aload_n 0, 1) := by decide +kernel
theorem dX12_dayStep_82 : decode cX12_dayStep 82 = .ok (.getfield 254, 3) := by decide +kernel
theorem dX12_dayStep_85 : decode cX12_dayStep 85 = .ok (.bipush 30, 2) := by decide +kernel
theorem dX12_dayStep_87 : decode cX12_dayStep 87 = .ok (.if_icmp .ne 10, 3) := by decide +kernel
theorem dX12_dayStep_90 : decode cX12_dayStep 90 = .ok (.aload_n 0, 1) := by decide +kernel
theorem dX12_dayStep_91 : decode cX12_dayStep 91 = .ok (.bipush 6, 2) := by decide +kernel
theorem dX12_dayStep_93 : decode cX12_dayStep 93 = .ok (.invokevirtual 173, 3) := by decide +kernel
theorem dX12_dayStep_96 : decode cX12_dayStep 96 = .ok (.ireturn, 1) := by decide +kernel
theorem dX12_dayStep_97 : decode cX12_dayStep 97 = .ok (.iload 4, 2) := by decide +kernel
theorem dX12_dayStep_99 : decode cX12_dayStep 99 = .ok (.ifCond .eq 18, 3) := by decide +kernel
theorem dX12_dayStep_102 : decode cX12_dayStep 102 = .ok (.aload_n 0, 1) := by decide +kernel
theorem dX12_dayStep_103 : decode cX12_dayStep 103 = .ok (.getfield 251, 3) := by decide +kernel
theorem dX12_dayStep_106 : decode cX12_dayStep 106 = .ok (.iconst 3, 1) := by decide +kernel
theorem dX12_dayStep_107 : decode cX12_dayStep 107 = .ok (.if_icmp .ne 10, 3) := by decide +kernel
theorem dX12_dayStep_110 : decode cX12_dayStep 110 = .ok (.aload_n 0, 1) := by decide +kernel
theorem dX12_dayStep_111 : decode cX12_dayStep 111 = .ok (.bipush 7, 2) := by decide +kernel
theorem dX12_dayStep_113 : decode cX12_dayStep 113 = .ok (.invokevirtual 173, 3) := by decide +kernel
theorem dX12_dayStep_116 : decode cX12_dayStep 116 = .ok (.ireturn, 1) := by decide +kernel
theorem dX12_dayStep_117 : decode cX12_dayStep 117 = .ok (.aload_n 0, 1) := by decide +kernel
theorem dX12_dayStep_118 : decode cX12_dayStep 118 = .ok (.dup, 1) := by decide +kernel
theorem dX12_dayStep_119 : decode cX12_dayStep 119 = .ok (.getfield 254, 3) := by decide +kernel
theorem dX12_dayStep_122 : decode cX12_dayStep 122 = .ok (.iload_n 1, 1) := by decide +kernel
theorem dX12_dayStep_123 : decode cX12_dayStep 123 = .ok (.bipush 20, 2) := by decide +kernel
theorem dX12_dayStep_125 : decode cX12_dayStep 125 = .ok (.if_icmp .ne 7, 3) := by decide +kernel
theorem dX12_dayStep_128 : decode cX12_dayStep 128 = .ok (.iconst 0, 1) := by decide +kernel
theorem dX12_dayStep_129 : decode cX12_dayStep 129 = .ok (.goto 4, 3) := by decide +kernel
theorem dX12_dayStep_132 : decode cX12_dayStep 132 = .ok (.iconst 1, 1) := by decide +kernel
theorem dX12_dayStep_133 : decode cX12_dayStep 133 = .ok (.iadd, 1) := by decide +kernel
theorem dX12_dayStep_134 : decode cX12_dayStep 134 = .ok (.putfield 254, 3) := by decide +kernel
theorem dX12_dayStep_137 : decode cX12_dayStep 137 = .ok (.aload_n 0, 1) := by decide +kernel
theorem dX12_dayStep_138 : decode cX12_dayStep 138 = .ok (.getfield 7, 3) := by decide +kernel
theorem dX12_dayStep_141 : decode cX12_dayStep 141 = .ok (.iload_n 3, 1) := by decide +kernel
theorem dX12_dayStep_142 : decode cX12_dayStep 142 = .ok (.iload_n 1, 1) := by decide +kernel
theorem dX12_dayStep_143 : decode cX12_dayStep 143 = .ok (.iastore, 1) := by decide +kernel
theorem dX12_dayStep_144 : decode cX12_dayStep 144 = .ok (.iconst 1, 1) := by decide +kernel
theorem dX12_dayStep_145 : decode cX12_dayStep 145 = .ok (.istore 5, 2) := by decide +kernel
theorem dX12_dayStep_147 : decode cX12_dayStep 147 = .ok (.iload 5, 2) := by decide +kernel
theorem dX12_dayStep_149 : decode cX12_dayStep 149 = .ok (.bipush 6, 2) := by decide +kernel
theorem dX12_dayStep_151 : decode cX12_dayStep 151 = .ok (.if_icmp .ge 19, 3) := by decide +kernel
theorem dX12_dayStep_154 : decode cX12_dayStep 154 = .ok (.aload_n 0, 1) := by decide +kernel
theorem dX12_dayStep_155 : decode cX12_dayStep 155 = .ok (.getfield 7, 3) := by decide +kernel
theorem dX12_dayStep_158 : decode cX12_dayStep 158 = .ok (.iload_n 3, 1) := by decide +kernel
theorem dX12_dayStep_159 : decode cX12_dayStep 159 = .ok (.iload 5, 2) := by decide +kernel
theorem dX12_dayStep_161 : decode cX12_dayStep 161 = .ok (.iadd, 1) := by decide +kernel
theorem dX12_dayStep_162 : decode cX12_dayStep 162 = .ok (.iconst 0, 1) := by decide +kernel
theorem dX12_dayStep_163 : decode cX12_dayStep 163 = .ok (.iastore, 1) := by decide +kernel
theorem dX12_dayStep_164 : decode cX12_dayStep 164 = .ok (.iinc 5 1, 3) := by decide +kernel
theorem dX12_dayStep_167 : decode cX12_dayStep 167 = .ok (.goto (-20), 3) := by decide +kernel
theorem dX12_dayStep_170 : decode cX12_dayStep 170 = .ok (.aload_n 0, 1) := by decide +kernel
theorem dX12_dayStep_171 : decode cX12_dayStep 171 = .ok (.getfield 7, 3) := by decide +kernel
theorem dX12_dayStep_174 : decode cX12_dayStep 174 = .ok (.sipush 1801, 3) := by decide +kernel
theorem dX12_dayStep_177 : decode cX12_dayStep 177 = .ok (.dup2, 1) := by decide +kernel
theorem dX12_dayStep_178 : decode cX12_dayStep 178 = .ok (.iaload, 1) := by decide +kernel
theorem dX12_dayStep_179 : decode cX12_dayStep 179 = .ok (.iconst 1, 1) := by decide +kernel
theorem dX12_dayStep_180 : decode cX12_dayStep 180 = .ok (.iadd, 1) := by decide +kernel
theorem dX12_dayStep_181 : decode cX12_dayStep 181 = .ok (.iastore, 1) := by decide +kernel
theorem dX12_dayStep_182 : decode cX12_dayStep 182 = .ok (.aload_n 0, 1) := by decide +kernel
theorem dX12_dayStep_183 : decode cX12_dayStep 183 = .ok (.invokevirtual 167, 3) := by decide +kernel
theorem dX12_dayStep_186 : decode cX12_dayStep 186 = .ok (.aload_n 0, 1) := by decide +kernel
theorem dX12_dayStep_187 : decode cX12_dayStep 187 = .ok (.iload_n 1, 1) := by decide +kernel
theorem dX12_dayStep_188 : decode cX12_dayStep 188 = .ok (.iload_n 3, 1) := by decide +kernel
theorem dX12_dayStep_189 : decode cX12_dayStep 189 = .ok (.invokevirtual 257, 3) := by decide +kernel
theorem dX12_dayStep_192 : decode cX12_dayStep 192 = .ok (.ifCond .ne 5, 3) := by decide +kernel
theorem dX12_dayStep_195 : decode cX12_dayStep 195 = .ok (.iconst 0, 1) := by decide +kernel
theorem dX12_dayStep_196 : decode cX12_dayStep 196 = .ok (.ireturn, 1) := by decide +kernel
theorem dX12_dayStep_197 : decode cX12_dayStep 197 = .ok (.iload 4, 2) := by decide +kernel
theorem dX12_dayStep_199 : decode cX12_dayStep 199 = .ok (.ifCond .eq 23, 3) := by decide +kernel
theorem dX12_dayStep_202 : decode cX12_dayStep 202 = .ok (.aload_n 0, 1) := by decide +kernel
theorem dX12_dayStep_203 : decode cX12_dayStep 203 = .ok (.getfield 44, 3) := by decide +kernel
theorem dX12_dayStep_206 : decode cX12_dayStep 206 = .ok (.aload_n 0, 1) := by decide +kernel
theorem dX12_dayStep_207 : decode cX12_dayStep 207 = .ok (.getfield 251, 3) := by decide +kernel
theorem dX12_dayStep_210 : decode cX12_dayStep 210 = .ok (.iload_n 2, 1) := by decide +kernel
theorem dX12_dayStep_211 : decode cX12_dayStep 211 = .ok (.iastore, 1) := by decide +kernel
theorem dX12_dayStep_212 : decode cX12_dayStep 212 = .ok (.aload_n 0, 1) := by decide +kernel
theorem dX12_dayStep_213 : decode cX12_dayStep 213 = .ok (.dup, 1) := by decide +kernel
theorem dX12_dayStep_214 : decode cX12_dayStep 214 = .ok (.getfield 251, 3) := by decide +kernel
theorem dX12_dayStep_217 : decode cX12_dayStep 217 = .ok (.iconst 1, 1) := by decide +kernel
theorem dX12_dayStep_218 : decode cX12_dayStep 218 = .ok (.iadd, 1) := by decide +kernel
theorem dX12_dayStep_219 : decode cX12_dayStep 219 = .ok (.putfield 251, 3) := by decide +kernel
theorem dX12_dayStep_222 : decode cX12_dayStep 222 = .ok (.iload_n 1, 1) := by decide +kernel
theorem dX12_dayStep_223 : decode cX12_dayStep 223 = .ok (.bipush 20, 2) := by decide +kernel
theorem dX12_dayStep_225 : decode cX12_dayStep 225 = .ok (.if_icmp .ne 54, 3) := by decide +kernel
theorem dX12_dayStep_228 : decode cX12_dayStep 228 = .ok (.aload_n 0, 1) := by decide +kernel
theorem dX12_dayStep_229 : decode cX12_dayStep 229 = .ok (.dup, 1) := by decide +kernel
theorem dX12_dayStep_230 : decode cX12_dayStep 230 = .ok (.getfield 251, 3) := by decide +kernel
theorem dX12_dayStep_233 : decode cX12_dayStep 233 = .ok (.iconst 1, 1) := by decide +kernel
theorem dX12_dayStep_234 : decode cX12_dayStep 234 = .ok (.isub, 1) := by decide +kernel
theorem dX12_dayStep_235 : decode cX12_dayStep 235 = .ok (.putfield 251, 3) := by decide +kernel
theorem dX12_dayStep_238 : decode cX12_dayStep 238 = .ok (.aload_n 0, 1) := by decide +kernel
theorem dX12_dayStep_239 : decode cX12_dayStep 239 = .ok (.getfield 7, 3) := by decide +kernel
theorem dX12_dayStep_242 : decode cX12_dayStep 242 = .ok (.iload_n 3, 1) := by decide +kernel
theorem dX12_dayStep_243 : decode cX12_dayStep 243 = .ok (.iconst 4, 1) := by decide +kernel
theorem dX12_dayStep_244 : decode cX12_dayStep 244 = .ok (.iadd, 1) := by decide +kernel
theorem dX12_dayStep_245 : decode cX12_dayStep 245 = .ok (.aload_n 0, 1) := by decide +kernel
theorem dX12_dayStep_246 : decode cX12_dayStep 246 = .ok (.getfield 44, 3) := by decide +kernel
theorem dX12_dayStep_249 : decode cX12_dayStep 249 = .ok (.aload_n 0, 1) := by decide +kernel
theorem dX12_dayStep_250 : decode cX12_dayStep 250 = .ok (.getfield 251, 3) := by decide +kernel
theorem dX12_dayStep_253 : decode cX12_dayStep 253 = .ok (.iaload, 1) := by decide +kernel
theorem dX12_dayStep_254 : decode cX12_dayStep 254 = .ok (.iastore, 1) := by decide +kernel
theorem dX12_dayStep_255 : decode cX12_dayStep 255 = .ok (.aload_n 0, 1) := by decide +kernel
theorem dX12_dayStep_256 : decode cX12_dayStep 256 = .ok (.getfield 7, 3) := by decide +kernel
theorem dX12_dayStep_259 : decode cX12_dayStep 259 = .ok (.sipush 1872, 3) := by decide +kernel
theorem dX12_dayStep_262 : decode cX12_dayStep 262 = .ok (.bipush 6, 2) := by decide +kernel
theorem dX12_dayStep_264 : decode cX12_dayStep 264 = .ok (.aload_n 0, 1) := by decide +kernel
theorem dX12_dayStep_265 : decode cX12_dayStep 265 = .ok (.getfield 44, 3) := by decide +kernel
theorem dX12_dayStep_268 : decode cX12_dayStep 268 = .ok (.aload_n 0, 1) := by decide +kernel
theorem dX12_dayStep_269 : decode cX12_dayStep 269 = .ok (.getfield 251, 3) := by decide +kernel
theorem dX12_dayStep_272 : decode cX12_dayStep 272 = .ok (.iaload, 1) := by decide +kernel
theorem dX12_dayStep_273 : decode cX12_dayStep 273 = .ok (.imul, 1) := by decide +kernel
theorem dX12_dayStep_274 : decode cX12_dayStep 274 = .ok (.iadd, 1) := by decide +kernel
theorem dX12_dayStep_275 : decode cX12_dayStep 275 = .ok (.iconst 4, 1) := by decide +kernel
theorem dX12_dayStep_276 : decode cX12_dayStep 276 = .ok (.iadd, 1) := by decide +kernel
theorem dX12_dayStep_277 : decode cX12_dayStep 277 = .ok (.iload_n 2, 1) := by decide +kernel
theorem dX12_dayStep_278 : decode cX12_dayStep 278 = .ok (.iastore, 1) := by decide +kernel
theorem dX12_dayStep_279 : decode cX12_dayStep 279 = .ok (.aload_n 0, 1) := by decide +kernel
theorem dX12_dayStep_280 : decode cX12_dayStep 280 = .ok (.bipush 59, 2) := by decide +kernel
theorem dX12_dayStep_282 : decode cX12_dayStep 282 = .ok (.invokevirtual 229, 3) := by decide +kernel
theorem dX12_dayStep_285 : decode cX12_dayStep 285 = .ok (.ireturn, 1) := by decide +kernel
theorem dX12_days_0 : decode cX12_days 0 = .ok (.aload_n 0, 1) := by decide +kernel
theorem dX12_days_1 : decode cX12_days 1 = .ok (.iload_n 1, 1) := by decide +kernel
theorem dX12_days_2 : decode cX12_days 2 = .ok (.sipush 300, 3) := by decide +kernel
theorem dX12_days_5 : decode cX12_days 5 = .ok (.invokevirtual 232, 3) := by decide +kernel
theorem dX12_days_8 : decode cX12_days 8 = .ok (.ifCond .ne 9, 3) := by decide +kernel
theorem dX12_days_11 : decode cX12_days 11 = .ok (.aload_n 0, 1) := by decide +kernel
theorem dX12_days_12 : decode cX12_days 12 = .ok (.iconst 1, 1) := by decide +kernel
theorem dX12_days_13 : decode cX12_days 13 = .ok (.invokevirtual 91, 3) := by decide +kernel
theorem dX12_days_16 : decode cX12_days 16 = .ok (.ireturn, 1) := by decide +kernel
theorem dX12_days_17 : decode cX12_days 17 = .ok (.aload_n 0, 1) := by decide +kernel
theorem dX12_days_18 : decode cX12_days 18 = .ok (.getfield 7, 3) := by decide +kernel
theorem dX12_days_21 : decode cX12_days 21 = .ok (.sipush 1801, 3) := by decide +kernel
theorem dX12_days_24 : decode cX12_days 24 = .ok (.iconst 0, 1) := by decide +kernel
theorem dX12_days_25 : decode cX12_days 25 = .ok (.iastore, 1) := by decide +kernel
theorem dX12_days_26 : decode cX12_days 26 = .ok (.aload_n 0, 1) := by decide +kernel
theorem dX12_days_27 : decode cX12_days 27 = .ok (.iconst 0, 1) := by decide +kernel
theorem dX12_days_28 : decode cX12_days 28 = .ok (.putfield 251, 3) := by decide +kernel
theorem dX12_days_31 : decode cX12_days 31 = .ok (.aload_n 0, 1) := by decide +kernel
theorem dX12_days_32 : decode cX12_days 32 = .ok (.iconst 0, 1) := by decide +kernel
theorem dX12_days_33 : decode cX12_days 33 = .ok (.putfield 254, 3) := by decide +kernel
theorem dX12_days_36 : decode cX12_days 36 = .ok (.iconst 1, 1) := by decide +kernel
theorem dX12_days_37 : decode cX12_days 37 = .ok (.istore_n 2, 1) := by decide +kernel
theorem dX12_days_38 : decode cX12_days 38 = .ok (.iload_n 2, 1) := by decide +kernel
theorem dX12_days_39 : decode cX12_days 39 = .ok (.ifCond .eq 18, 3) := by decide +kernel
theorem dX12_days_42 : decode cX12_days 42 = .ok (.aload_n 0, 1) := by decide +kernel
theorem dX12_days_43 : decode cX12_days 43 = .ok (.getfield 136, 3) := by decide +kernel
theorem dX12_days_46 : decode cX12_days 46 = .ok (.ifCond .eq 11, 3) := by decide +kernel
theorem dX12_days_49 : decode cX12_days 49 = .ok (.aload_n 0, 1) := by decide +kernel
theorem dX12_days_50 : decode cX12_days 50 = .ok (.invokevirtual 260, 3) := by decide +kernel
theorem dX12_days_53 : decode cX12_days 53 = .ok (.istore_n 2, 1) := by decide +kernel
theorem dX12_days_54 : decode cX12_days 54 = .ok (.goto (-16), 3) := by decide +kernel
theorem dX12_days_57 : decode cX12_days 57 = .ok (.aload_n 0, 1) := by decide +kernel
theorem dX12_days_58 : decode cX12_days 58 = .ok (.getfield 161, 3) := by decide +kernel
theorem dX12_days_61 : decode cX12_days 61 = .ok (.ifCond .ne 16, 3) := by decide +kernel
theorem dX12_days_64 : decode cX12_days 64 = .ok (.aload_n 0, 1) := by decide +kernel
theorem dX12_days_65 : decode cX12_days 65 = .ok (.getfield 251, 3) := by decide +kernel
theorem dX12_days_68 : decode cX12_days 68 = .ok (.ifCond .le 9, 3) := by decide +kernel
theorem dX12_days_71 : decode cX12_days 71 = .ok (.aload_n 0, 1) := by decide +kernel
theorem dX12_days_72 : decode cX12_days 72 = .ok (.iconst 2, 1) := by decide +kernel
theorem dX12_days_73 : decode cX12_days 73 = .ok (.invokevirtual 173, 3) := by decide +kernel
theorem dX12_days_76 : decode cX12_days 76 = .ok (.pop, 1) := by decide +kernel
theorem dX12_days_77 : decode cX12_days 77 = .ok (.aload_n 0, 1) := by decide +kernel
theorem dX12_days_78 : decode cX12_days 78 = .ok (.getfield 161, 3) := by decide +kernel
theorem dX12_days_81 : decode cX12_days 81 = .ok (.ifCond .ne 50, 3) := by decide +kernel
theorem dX12_days_84 : decode cX12_days 84 = .ok (.aload_n 0, 1) := by decide +kernel
theorem dX12_days_85 : decode cX12_days 85 = .ok (.getfield 7, 3) := by decide +kernel
theorem dX12_days_88 : decode cX12_days 88 = .ok (.bipush 9, 2) := by decide +kernel
theorem dX12_days_90 : decode cX12_days 90 = .ok (.aload_n 0, 1) := by decide +kernel
theorem dX12_days_91 : decode cX12_days 91 = .ok (.getfield 7, 3) := by decide +kernel
theorem dX12_days_94 : decode cX12_days 94 = .ok (.sipush 1801, 3) := by decide +kernel
theorem dX12_days_97 : decode cX12_days 97 = .ok (.iaload, 1) := by decide +kernel
theorem dX12_days_98 : decode cX12_days 98 = .ok (.iastore, 1) := by decide +kernel
theorem dX12_days_99 : decode cX12_days 99 = .ok (.bipush 80, 2) := by decide +kernel
theorem dX12_days_101 : decode cX12_days 101 = .ok (.istore_n 3, 1) := by decide +kernel
theorem dX12_days_102 : decode cX12_days 102 = .ok (.iload_n 3, 1) := by decide +kernel
theorem dX12_days_103 : decode cX12_days 103 = .ok (.sipush 440, 3) := by decide +kernel
theorem dX12_days_106 : decode cX12_days 106 = .ok (.if_icmp .ge 25, 3) := by decide +kernel
theorem dX12_days_109 : decode cX12_days 109 = .ok (.aload_n 0, 1) := by decide +kernel
theorem dX12_days_110 : decode cX12_days 110 = .ok (.getfield 7, 3) := by decide +kernel
theorem dX12_days_113 : decode cX12_days 113 = .ok (.iload_n 3, 1) := by decide +kernel
theorem dX12_days_114 : decode cX12_days 114 = .ok (.aload_n 0, 1) := by decide +kernel
theorem dX12_days_115 : decode cX12_days 115 = .ok (.getfield 7, 3) := by decide +kernel
theorem dX12_days_118 : decode cX12_days 118 = .ok (.sipush 1792, 3) := by decide +kernel
theorem dX12_days_121 : decode cX12_days 121 = .ok (.iload_n 3, 1) := by decide +kernel
theorem dX12_days_122 : decode cX12_days 122 = .ok (.iadd, 1) := by decide +kernel
theorem dX12_days_123 : decode cX12_days 123 = .ok (.iaload, 1) := by decide +kernel
theorem dX12_days_124 : decode cX12_days 124 = .ok (.iastore, 1) := by decide +kernel
theorem dX12_days_125 : decode cX12_days 125 = .ok (.iinc 3 1, 3) := by decide +kernel
theorem dX12_days_128 : decode cX12_days 128 = .ok (.goto (-26), 3) := by decide +kernel
theorem dX12_days_131 : decode cX12_days 131 = .ok (.aload_n 0, 1) := by decide +kernel
theorem dX12_days_132 : decode cX12_days 132 = .ok (.aload_n 0, 1) := by decide +kernel
theorem dX12_days_133 : decode cX12_days 133 = .ok (.getfield 254, 3) := by decide +kernel
theorem dX12_days_136 : decode cX12_days 136 = .ok (.invokevirtual 239, 3) := by decide +kernel
theorem dX12_days_139 : decode cX12_days 139 = .ok (.ireturn, 1) := by decide +kernel
theorem dX12_isThing_0 : decode cX12_isThing 0 = .ok (.iload_n 1, 1) := by decide +kernel
theorem dX12_isThing_1 : decode cX12_isThing 1 = .ok (.ifCond .lt 17, 3) := by decide +kernel
theorem dX12_isThing_4 : decode cX12_isThing 4 = .ok (.iload_n 1, 1) := by decide +kernel
theorem dX12_isThing_5 : decode cX12_isThing 5 = .ok (.aload_n 0, 1) := by decide +kernel
theorem dX12_isThing_6 : decode cX12_isThing 6 = .ok (.getfield 7, 3) := by decide +kernel
theorem dX12_isThing_9 : decode cX12_isThing 9 = .ok (.iconst 0, 1) := by decide +kernel
theorem dX12_isThing_10 : decode cX12_isThing 10 = .ok (.iaload, 1) := by decide +kernel
theorem dX12_isThing_11 : decode cX12_isThing 11 = .ok (.if_icmp .ge 7, 3) := by decide +kernel
theorem dX12_isThing_14 : decode cX12_isThing 14 = .ok (.iconst 1, 1) := by decide +kernel
theorem dX12_isThing_15 : decode cX12_isThing 15 = .ok (.goto 4, 3) := by decide +kernel
theorem dX12_isThing_18 : decode cX12_isThing 18 = .ok (.iconst 0, 1) := by decide +kernel
theorem dX12_isThing_19 : decode cX12_isThing 19 = .ok (.ireturn, 1) := by decide +kernel
theorem dX12_isMill_0 : decode cX12_isMill 0 = .ok (.iload_n 1, 1) := by decide +kernel
theorem dX12_isMill_1 : decode cX12_isMill 1 = .ok (.ifCond .lt 17, 3) := by decide +kernel
theorem dX12_isMill_4 : decode cX12_isMill 4 = .ok (.iload_n 1, 1) := by decide +kernel
theorem dX12_isMill_5 : decode cX12_isMill 5 = .ok (.aload_n 0, 1) := by decide +kernel
theorem dX12_isMill_6 : decode cX12_isMill 6 = .ok (.getfield 7, 3) := by decide +kernel
theorem dX12_isMill_9 : decode cX12_isMill 9 = .ok (.iconst 1, 1) := by decide +kernel
theorem dX12_isMill_10 : decode cX12_isMill 10 = .ok (.iaload, 1) := by decide +kernel
theorem dX12_isMill_11 : decode cX12_isMill 11 = .ok (.if_icmp .ge 7, 3) := by decide +kernel
theorem dX12_isMill_14 : decode cX12_isMill 14 = .ok (.iconst 1, 1) := by decide +kernel
theorem dX12_isMill_15 : decode cX12_isMill 15 = .ok (.goto 4, 3) := by decide +kernel
theorem dX12_isMill_18 : decode cX12_isMill 18 = .ok (.iconst 0, 1) := by decide +kernel
theorem dX12_isMill_19 : decode cX12_isMill 19 = .ok (.ireturn, 1) := by decide +kernel
theorem dX12_isCell_0 : decode cX12_isCell 0 = .ok (.iload_n 1, 1) := by decide +kernel
theorem dX12_isCell_1 : decode cX12_isCell 1 = .ok (.ifCond .lt 17, 3) := by decide +kernel
theorem dX12_isCell_4 : decode cX12_isCell 4 = .ok (.iload_n 1, 1) := by decide +kernel
theorem dX12_isCell_5 : decode cX12_isCell 5 = .ok (.aload_n 0, 1) := by decide +kernel
theorem dX12_isCell_6 : decode cX12_isCell 6 = .ok (.getfield 7, 3) := by decide +kernel
theorem dX12_isCell_9 : decode cX12_isCell 9 = .ok (.iconst 2, 1) := by decide +kernel
theorem dX12_isCell_10 : decode cX12_isCell 10 = .ok (.iaload, 1) := by decide +kernel
theorem dX12_isCell_11 : decode cX12_isCell 11 = .ok (.if_icmp .ge 7, 3) := by decide +kernel
theorem dX12_isCell_14 : decode cX12_isCell 14 = .ok (.iconst 1, 1) := by decide +kernel
theorem dX12_isCell_15 : decode cX12_isCell 15 = .ok (.goto 4, 3) := by decide +kernel
theorem dX12_isCell_18 : decode cX12_isCell 18 = .ok (.iconst 0, 1) := by decide +kernel
theorem dX12_isCell_19 : decode cX12_isCell 19 = .ok (.ireturn, 1) := by decide +kernel
theorem dX12_isIn_0 : decode cX12_isIn 0 = .ok (.iload_n 1, 1) := by decide +kernel
theorem dX12_isIn_1 : decode cX12_isIn 1 = .ok (.iload_n 2, 1) := by decide +kernel
theorem dX12_isIn_2 : decode cX12_isIn 2 = .ok (.ishr, 1) := by decide +kernel
theorem dX12_isIn_3 : decode cX12_isIn 3 = .ok (.iconst 1, 1) := by decide +kernel
theorem dX12_isIn_4 : decode cX12_isIn 4 = .ok (.iand, 1) := by decide +kernel
theorem dX12_isIn_5 : decode cX12_isIn 5 = .ok (.iconst 1, 1) := by decide +kernel
theorem dX12_isIn_6 : decode cX12_isIn 6 = .ok (.if_icmp .ne 7, 3) := by decide +kernel
theorem dX12_isIn_9 : decode cX12_isIn 9 = .ok (.iconst 1, 1) := by decide +kernel
theorem dX12_isIn_10 : decode cX12_isIn 10 = .ok (.goto 4, 3) := by decide +kernel
theorem dX12_isIn_13 : decode cX12_isIn 13 = .ok (.iconst 0, 1) := by decide +kernel
theorem dX12_isIn_14 : decode cX12_isIn 14 = .ok (.ireturn, 1) := by decide +kernel
theorem dX12_bits_0 : decode cX12_bits 0 = .ok (.iconst 0, 1) := by decide +kernel
theorem dX12_bits_1 : decode cX12_bits 1 = .ok (.istore_n 1, 1) := by decide +kernel
theorem dX12_bits_2 : decode cX12_bits 2 = .ok (.iload_n 0, 1) := by decide +kernel
theorem dX12_bits_3 : decode cX12_bits 3 = .ok (.istore_n 2, 1) := by decide +kernel
theorem dX12_bits_4 : decode cX12_bits 4 = .ok (.iload_n 2, 1) := by decide +kernel
theorem dX12_bits_5 : decode cX12_bits 5 = .ok (.ifCond .eq 15, 3) := by decide +kernel
theorem dX12_bits_8 : decode cX12_bits 8 = .ok (.iinc 1 1, 3) := by decide +kernel
theorem dX12_bits_11 : decode cX12_bits 11 = .ok (.iload_n 2, 1) := by decide +kernel
theorem dX12_bits_12 : decode cX12_bits 12 = .ok (.iload_n 2, 1) := by decide +kernel
theorem dX12_bits_13 : decode cX12_bits 13 = .ok (.iconst 1, 1) := by decide +kernel
theorem dX12_bits_14 : decode cX12_bits 14 = .ok (.isub, 1) := by decide +kernel
theorem dX12_bits_15 : decode cX12_bits 15 = .ok (.iand, 1) := by decide +kernel
theorem dX12_bits_16 : decode cX12_bits 16 = .ok (.istore_n 2, 1) := by decide +kernel
theorem dX12_bits_17 : decode cX12_bits 17 = .ok (.goto (-13), 3) := by decide +kernel
theorem dX12_bits_20 : decode cX12_bits 20 = .ok (.iload_n 1, 1) := by decide +kernel
theorem dX12_bits_21 : decode cX12_bits 21 = .ok (.ireturn, 1) := by decide +kernel
theorem dX12_thingOf_0 : decode cX12_thingOf 0 = .ok (.aload_n 0, 1) := by decide +kernel
theorem dX12_thingOf_1 : decode cX12_thingOf 1 = .ok (.getfield 7, 3) := by decide +kernel
theorem dX12_thingOf_4 : decode cX12_thingOf 4 = .ok (.iload_n 1, 1) := by decide +kernel
theorem dX12_thingOf_5 : decode cX12_thingOf 5 = .ok (.invokestatic 203, 3) := by decide +kernel
theorem dX12_thingOf_8 : decode cX12_thingOf 8 = .ok (.iload_n 2, 1) := by decide +kernel
theorem dX12_thingOf_9 : decode cX12_thingOf 9 = .ok (.iadd, 1) := by decide +kernel
theorem dX12_thingOf_10 : decode cX12_thingOf 10 = .ok (.iaload, 1) := by decide +kernel
theorem dX12_thingOf_11 : decode cX12_thingOf 11 = .ok (.ireturn, 1) := by decide +kernel
theorem dX12_millOf_0 : decode cX12_millOf 0 = .ok (.aload_n 0, 1) := by decide +kernel
theorem dX12_millOf_1 : decode cX12_millOf 1 = .ok (.getfield 7, 3) := by decide +kernel
theorem dX12_millOf_4 : decode cX12_millOf 4 = .ok (.iload_n 1, 1) := by decide +kernel
theorem dX12_millOf_5 : decode cX12_millOf 5 = .ok (.invokestatic 213, 3) := by decide +kernel
theorem dX12_millOf_8 : decode cX12_millOf 8 = .ok (.iload_n 2, 1) := by decide +kernel
theorem dX12_millOf_9 : decode cX12_millOf 9 = .ok (.iadd, 1) := by decide +kernel
theorem dX12_millOf_10 : decode cX12_millOf 10 = .ok (.iaload, 1) := by decide +kernel
theorem dX12_millOf_11 : decode cX12_millOf 11 = .ok (.ireturn, 1) := by decide +kernel
theorem dX12_sea_0 : decode cX12_sea 0 = .ok (.aload_n 0, 1) := by decide +kernel
theorem dX12_sea_1 : decode cX12_sea 1 = .ok (.getfield 7, 3) := by decide +kernel
theorem dX12_sea_4 : decode cX12_sea 4 = .ok (.iconst 2, 1) := by decide +kernel
theorem dX12_sea_5 : decode cX12_sea 5 = .ok (.iaload, 1) := by decide +kernel
theorem dX12_sea_6 : decode cX12_sea 6 = .ok (.iconst 1, 1) := by decide +kernel
theorem dX12_sea_7 : decode cX12_sea 7 = .ok (.isub, 1) := by decide +kernel
theorem dX12_sea_8 : decode cX12_sea 8 = .ok (.ireturn, 1) := by decide +kernel
theorem dX12_isRemembered_0 : decode cX12_isRemembered 0 = .ok (.aload_n 0, 1) := by decide +kernel
theorem dX12_isRemembered_1 : decode cX12_isRemembered 1 = .ok (.iload_n 1, 1) := by decide +kernel
theorem dX12_isRemembered_2 : decode cX12_isRemembered 2 = .ok (.iconst 3, 1) := by decide +kernel
theorem dX12_isRemembered_3 : decode cX12_isRemembered 3 = .ok (.invokevirtual 263, 3) := by decide +kernel
theorem dX12_isRemembered_6 : decode cX12_isRemembered 6 = .ok (.iconst 1, 1) := by decide +kernel
theorem dX12_isRemembered_7 : decode cX12_isRemembered 7 = .ok (.if_icmp .ne 22, 3) := by decide +kernel
theorem dX12_isRemembered_10 : decode cX12_isRemembered 10 = .ok (.aload_n 0, 1) := by decide +kernel
theorem dX12_isRemembered_11 : decode cX12_isRemembered 11 = .ok (.iload_n 1, 1) := by decide +kernel
theorem dX12_isRemembered_12 : decode cX12_isRemembered 12 = .ok (.iconst 5, 1) := by decide +kernel
theorem dX12_isRemembered_13 : decode cX12_isRemembered 13 = .ok (.invokevirtual 263, 3) := by decide +kernel
theorem dX12_isRemembered_16 : decode cX12_isRemembered 16 = .ok (.aload_n 0, 1) := by decide +kernel
theorem dX12_isRemembered_17 : decode cX12_isRemembered 17 = .ok (.iload_n 1, 1) := by decide +kernel
theorem dX12_isRemembered_18 : decode cX12_isRemembered 18 = .ok (.iconst 2, 1) := by decide +kernel
theorem dX12_isRemembered_19 : decode cX12_isRemembered 19 = .ok (.invokevirtual 263, 3) := by decide +kernel
theorem dX12_isRemembered_22 : decode cX12_isRemembered 22 = .ok (.if_icmp .lt 7, 3) := by decide +kernel
theorem dX12_isRemembered_25 : decode cX12_isRemembered 25 = .ok (.iconst 1, 1) := by decide +kernel
theorem dX12_isRemembered_26 : decode cX12_isRemembered 26 = .ok (.goto 4, 3) := by decide +kernel
theorem dX12_isRemembered_29 : decode cX12_isRemembered 29 = .ok (.iconst 0, 1) := by decide +kernel
theorem dX12_isRemembered_30 : decode cX12_isRemembered 30 = .ok (.ireturn, 1) := by decide +kernel
theorem dX12_mindedMost_0 : decode cX12_mindedMost 0 = .ok (.iconst (-1), 1) := by decide +kernel
theorem dX12_mindedMost_1 : decode cX12_mindedMost 1 = .ok (.istore_n 1, 1) := by decide +kernel
theorem dX12_mindedMost_2 : decode cX12_mindedMost 2 = .ok (.iconst 0, 1) := by decide +kernel
theorem dX12_mindedMost_3 : decode cX12_mindedMost 3 = .ok (.istore_n 2, 1) := by decide +kernel
theorem dX12_mindedMost_4 : decode cX12_mindedMost 4 = .ok (.iload_n 2, 1) := by decide +kernel
theorem dX12_mindedMost_5 : decode cX12_mindedMost 5 = .ok (.aload_n 0, 1) := by decide +kernel
theorem dX12_mindedMost_6 : decode cX12_mindedMost 6 = .ok (.getfield 7, 3) := by decide +kernel
theorem dX12_mindedMost_9 : decode cX12_mindedMost 9 = .ok (.iconst 0, 1) := by decide +kernel
theorem dX12_mindedMost_10 : decode cX12_mindedMost 10 = .ok (.iaload, 1) := by decide +kernel
theorem dX12_mindedMost_11 : decode cX12_mindedMost 11 = .ok (.if_icmp .ge 39, 3) := by decide +kernel
theorem dX12_mindedMost_14 : decode cX12_mindedMost 14 = .ok (.aload_n 0, 1) := by decide +kernel
theorem dX12_mindedMost_15 : decode cX12_mindedMost 15 = .ok (.iload_n 2, 1) := by decide +kernel
theorem dX12_mindedMost_16 : decode cX12_mindedMost 16 = .ok (.invokevirtual 266, 3) := by decide +kernel
theorem dX12_mindedMost_19 : decode cX12_mindedMost 19 = .ok (.ifCond .eq 25, 3) := by decide +kernel
theorem dX12_mindedMost_22 : decode cX12_mindedMost 22 = .ok (.iload_n 1, 1) := by decide +kernel
theorem dX12_mindedMost_23 : decode cX12_mindedMost 23 = .ok (.iconst (-1), 1) := by decide +kernel
theorem dX12_mindedMost_24 : decode cX12_mindedMost 24 = .ok (.if_icmp .eq 18, 3) := by decide +kernel
theorem dX12_mindedMost_27 : decode cX12_mindedMost 27 = .ok (.aload_n 0, 1) := by decide +kernel
theorem dX12_mindedMost_28 : decode cX12_mindedMost 28 = .ok (.iload_n 2, 1) := by decide +kernel
theorem dX12_mindedMost_29 : decode cX12_mindedMost 29 = .ok (.iconst 5, 1) := by decide +kernel
theorem dX12_mindedMost_30 : decode cX12_mindedMost 30 = .ok (.invokevirtual 263, 3) := by decide +kernel
theorem dX12_mindedMost_33 : decode cX12_mindedMost 33 = .ok (.aload_n 0, 1) := by decide +kernel
theorem dX12_mindedMost_34 : decode cX12_mindedMost 34 = .ok (.iload_n 1, 1) := by decide +kernel
theorem dX12_mindedMost_35 : decode cX12_mindedMost 35 = .ok (.iconst 5, 1) := by decide +kernel
theorem dX12_mindedMost_36 : decode cX12_mindedMost 36 = .ok (.invokevirtual 263, 3) := by decide +kernel
theorem dX12_mindedMost_39 : decode cX12_mindedMost 39 = .ok (.if_icmp .le 5, 3) := by decide +kernel
theorem dX12_mindedMost_42 : decode cX12_mindedMost 42 = .ok (.iload_n 2, 1) := by decide +kernel
theorem dX12_mindedMost_43 : decode cX12_mindedMost 43 = .ok (.istore_n 1, 1) := by decide +kernel
theorem dX12_mindedMost_44 : decode cX12_mindedMost 44 = .ok (.iinc 2 1, 3) := by decide +kernel
theorem dX12_mindedMost_47 : decode cX12_mindedMost 47 = .ok (.goto (-43), 3) := by decide +kernel
theorem dX12_mindedMost_50 : decode cX12_mindedMost 50 = .ok (.iload_n 1, 1) := by decide +kernel
theorem dX12_mindedMost_51 : decode cX12_mindedMost 51 = .ok (.ireturn, 1) := by decide +kernel
theorem dX12_goalNow_0 : decode cX12_goalNow 0 = .ok (.aload_n 0, 1) := by decide +kernel
theorem dX12_goalNow_1 : decode cX12_goalNow 1 = .ok (.invokevirtual 269, 3) := by decide +kernel
theorem dX12_goalNow_4 : decode cX12_goalNow 4 = .ok (.istore_n 1, 1) := by decide +kernel
theorem dX12_goalNow_5 : decode cX12_goalNow 5 = .ok (.iload_n 1, 1) := by decide +kernel
theorem dX12_goalNow_6 : decode cX12_goalNow 6 = .ok (.iconst (-1), 1) := by decide +kernel
theorem dX12_goalNow_7 : decode cX12_goalNow 7 = .ok (.if_icmp .ne 10, 3) := by decide +kernel
theorem dX12_goalNow_10 : decode cX12_goalNow 10 = .ok (.aload_n 0, 1) := by decide +kernel
theorem dX12_goalNow_11 : decode cX12_goalNow 11 = .ok (.invokevirtual 272, 3) := by decide +kernel
theorem dX12_goalNow_14 : decode cX12_goalNow 14 = .ok (.goto 9, 3) := by decide +kernel
theorem dX12_goalNow_17 : decode cX12_goalNow 17 = .ok (.aload_n 0, 1) := by decide +kernel
theorem dX12_goalNow_18 : decode cX12_goalNow 18 = .ok (.iload_n 1, 1) := by decide +kernel
theorem dX12_goalNow_19 : decode cX12_goalNow 19 = .ok (.iconst 4, 1) := by decide +kernel
theorem dX12_goalNow_20 : decode cX12_goalNow 20 = .ok (.invokevirtual 263, 3) := by decide +kernel
theorem dX12_goalNow_23 : decode cX12_goalNow 23 = .ok (.ireturn, 1) := by decide +kernel
theorem dX12_thingsThat_0 : decode cX12_thingsThat 0 = .ok (.iconst 0, 1) := by decide +kernel
theorem dX12_thingsThat_1 : decode cX12_thingsThat 1 = .ok (.istore_n 2, 1) := by decide +kernel
theorem dX12_thingsThat_2 : decode cX12_thingsThat 2 = .ok (.iconst 0, 1) := by decide +kernel
theorem dX12_thingsThat_3 : decode cX12_thingsThat 3 = .ok (.istore_n 3, 1) := by decide +kernel
theorem dX12_thingsThat_4 : decode cX12_thingsThat 4 = .ok (.iload_n 3, 1) := by decide +kernel
theorem dX12_thingsThat_5 : decode cX12_thingsThat 5 = .ok (.aload_n 0, 1) := by decide +kernel
theorem dX12_thingsThat_6 : decode cX12_thingsThat 6 = .ok (.getfield 7, 3) := by decide +kernel
theorem dX12_thingsThat_9 : decode cX12_thingsThat 9 = .ok (.iconst 0, 1) := by decide +kernel
theorem dX12_thingsThat_10 : decode cX12_thingsThat 10 = .ok (.iaload, 1) := by decide +kernel
theorem dX12_thingsThat_11 : decode cX12_thingsThat 11 = .ok (.if_icmp .ge 54, 3) := by decide +kernel
theorem dX12_thingsThat_14 : decode cX12_thingsThat 14 = .ok (.iload_n 1, 1) := by decide +kernel
theorem dX12_thingsThat_15 : decode cX12_thingsThat 15 = .ok (.iconst 4, 1) := by decide +kernel
theorem dX12_thingsThat_16 : decode cX12_thingsThat 16 = .ok (.if_icmp .ne 11, 3) := by decide +kernel
theorem dX12_thingsThat_19 : decode cX12_thingsThat 19 = .ok (.aload_n 0, 1) := by decide +kernel
theorem dX12_thingsThat_20 : decode cX12_thingsThat 20 = .ok (.iload_n 3, 1) := by decide +kernel
theorem dX12_thingsThat_21 : decode cX12_thingsThat 21 = .ok (.invokevirtual 266, 3) := by decide +kernel
theorem dX12_thingsThat_24 : decode cX12_thingsThat 24 = .ok (.goto 18, 3) := by decide +kernel
theorem dX12_thingsThat_27 : decode cX12_thingsThat 27 = .ok (.aload_n 0, 1) := by decide +kernel
theorem dX12_thingsThat_28 : decode cX12_thingsThat 28 = .ok (.iload_n 3, 1) := by decide +kernel
theorem dX12_thingsThat_29 : decode cX12_thingsThat 29 = .ok (.iconst 3, 1) := by decide +kernel
theorem dX12_thingsThat_30 : decode cX12_thingsThat 30 = .ok (.invokevirtual 263, 3) := by decide +kernel
theorem dX12_thingsThat_33 : decode cX12_thingsThat 33 = .ok (.iload_n 1, 1) := by decide +kernel
theorem dX12_thingsThat_34 : decode cX12_thingsThat 34 = .ok (.if_icmp .ne 7, 3) := by decide +kernel
theorem dX12_thingsThat_37 : decode cX12_thingsThat 37 = .ok (.iconst 1, 1) := by decide +kernel
theorem dX12_thingsThat_38 : decode cX12_thingsThat 38 = .ok (.goto 4, 3) := by decide +kernel
theorem dX12_thingsThat_41 : decode cX12_thingsThat 41 = .ok (.iconst 0, 1) := by decide +kernel
theorem dX12_thingsThat_42 : decode cX12_thingsThat 42 = .ok (.istore 4, 2) := by decide +kernel
theorem dX12_thingsThat_44 : decode cX12_thingsThat 44 = .ok (.iload_n 2, 1) := by decide +kernel
theorem dX12_thingsThat_45 : decode cX12_thingsThat 45 = .ok (.iload 4, 2) := by decide +kernel
theorem dX12_thingsThat_47 : decode cX12_thingsThat 47 = .ok (.ifCond .eq 9, 3) := by decide +kernel
theorem dX12_thingsThat_50 : decode cX12_thingsThat 50 = .ok (.iconst 1, 1) := by decide +kernel
theorem dX12_thingsThat_51 : decode cX12_thingsThat 51 = .ok (.iload_n 3, 1) := by decide +kernel
theorem dX12_thingsThat_52 : decode cX12_thingsThat 52 = .ok (.ishl, 1) := by decide +kernel
theorem dX12_thingsThat_53 : decode cX12_thingsThat 53 = .ok (.goto 4, 3) := by decide +kernel
theorem dX12_thingsThat_56 : decode cX12_thingsThat 56 = .ok (.iconst 0, 1) := by decide +kernel
theorem dX12_thingsThat_57 : decode cX12_thingsThat 57 = .ok (.ior, 1) := by decide +kernel
theorem dX12_thingsThat_58 : decode cX12_thingsThat 58 = .ok (.istore_n 2, 1) := by decide +kernel
theorem dX12_thingsThat_59 : decode cX12_thingsThat 59 = .ok (.iinc 3 1, 3) := by decide +kernel
theorem dX12_thingsThat_62 : decode cX12_thingsThat 62 = .ok (.goto (-58), 3) := by decide +kernel
theorem dX12_thingsThat_65 : decode cX12_thingsThat 65 = .ok (.iload_n 2, 1) := by decide +kernel
theorem dX12_thingsThat_66 : decode cX12_thingsThat 66 = .ok (.ireturn, 1) := by decide +kernel
theorem dX12_weightOf_0 : decode cX12_weightOf 0 = .ok (.iconst 0, 1) := by decide +kernel
theorem dX12_weightOf_1 : decode cX12_weightOf 1 = .ok (.istore_n 2, 1) := by decide +kernel
theorem dX12_weightOf_2 : decode cX12_weightOf 2 = .ok (.iconst 0, 1) := by decide +kernel
theorem dX12_weightOf_3 : decode cX12_weightOf 3 = .ok (.istore_n 3, 1) := by decide +kernel
theorem dX12_weightOf_4 : decode cX12_weightOf 4 = .ok (.iload_n 3, 1) := by decide +kernel
theorem dX12_weightOf_5 : decode cX12_weightOf 5 = .ok (.aload_n 0, 1) := by decide +kernel
theorem dX12_weightOf_6 : decode cX12_weightOf 6 = .ok (.getfield 7, 3) := by decide +kernel
theorem dX12_weightOf_9 : decode cX12_weightOf 9 = .ok (.iconst 0, 1) := by decide +kernel
theorem dX12_weightOf_10 : decode cX12_weightOf 10 = .ok (.iaload, 1) := by decide +kernel
theorem dX12_weightOf_11 : decode cX12_weightOf 11 = .ok (.if_icmp .ge 31, 3) := by decide +kernel
theorem dX12_weightOf_14 : decode cX12_weightOf 14 = .ok (.iload_n 2, 1) := by decide +kernel
theorem dX12_weightOf_15 : decode cX12_weightOf 15 = .ok (.aload_n 0, 1) := by decide +kernel
theorem dX12_weightOf_16 : decode cX12_weightOf 16 = .ok (.iload_n 1, 1) := by decide +kernel
theorem dX12_weightOf_17 : decode cX12_weightOf 17 = .ok (.iload_n 3, 1) := by decide +kernel
theorem dX12_weightOf_18 : decode cX12_weightOf 18 = .ok (.invokevirtual 275, 3) := by decide +kernel
theorem dX12_weightOf_21 : decode cX12_weightOf 21 = .ok (.ifCond .eq 12, 3) := by decide +kernel
theorem dX12_weightOf_24 : decode cX12_weightOf 24 = .ok (.aload_n 0, 1) := by decide +kernel
theorem dX12_weightOf_25 : decode cX12_weightOf 25 = .ok (.iload_n 3, 1) := by decide +kernel
theorem dX12_weightOf_26 : decode cX12_weightOf 26 = .ok (.iconst 0, 1) := by decide +kernel
theorem dX12_weightOf_27 : decode cX12_weightOf 27 = .ok (.invokevirtual 263, 3) := by decide +kernel
theorem dX12_weightOf_30 : decode cX12_weightOf 30 = .ok (.goto 4, 3) := by decide +kernel
theorem dX12_weightOf_33 : decode cX12_weightOf 33 = .ok (.iconst 0, 1) := by decide +kernel
theorem dX12_weightOf_34 : decode cX12_weightOf 34 = .ok (.iadd, 1) := by decide +kernel
theorem dX12_weightOf_35 : decode cX12_weightOf 35 = .ok (.istore_n 2, 1) := by decide +kernel
theorem dX12_weightOf_36 : decode cX12_weightOf 36 = .ok (.iinc 3 1, 3) := by decide +kernel
theorem dX12_weightOf_39 : decode cX12_weightOf 39 = .ok (.goto (-35), 3) := by decide +kernel
theorem dX12_weightOf_42 : decode cX12_weightOf 42 = .ok (.iload_n 2, 1) := by decide +kernel
theorem dX12_weightOf_43 : decode cX12_weightOf 43 = .ok (.ireturn, 1) := by decide +kernel
theorem dX12_allHomes_0 : decode cX12_allHomes 0 = .ok (.iconst 0, 1) := by decide +kernel
theorem dX12_allHomes_1 : decode cX12_allHomes 1 = .ok (.istore_n 1, 1) := by decide +kernel
theorem dX12_allHomes_2 : decode cX12_allHomes 2 = .ok (.iconst 0, 1) := by decide +kernel
theorem dX12_allHomes_3 : decode cX12_allHomes 3 = .ok (.istore_n 2, 1) := by decide +kernel
theorem dX12_allHomes_4 : decode cX12_allHomes 4 = .ok (.iload_n 2, 1) := by decide +kernel
theorem dX12_allHomes_5 : decode cX12_allHomes 5 = .ok (.aload_n 0, 1) := by decide +kernel
theorem dX12_allHomes_6 : decode cX12_allHomes 6 = .ok (.getfield 7, 3) := by decide +kernel
theorem dX12_allHomes_9 : decode cX12_allHomes 9 = .ok (.iconst 0, 1) := by decide +kernel
theorem dX12_allHomes_10 : decode cX12_allHomes 10 = .ok (.iaload, 1) := by decide +kernel
theorem dX12_allHomes_11 : decode cX12_allHomes 11 = .ok (.if_icmp .ge 19, 3) := by decide +kernel
theorem dX12_allHomes_14 : decode cX12_allHomes 14 = .ok (.iload_n 1, 1) := by decide +kernel
theorem dX12_allHomes_15 : decode cX12_allHomes 15 = .ok (.aload_n 0, 1) := by decide +kernel
theorem dX12_allHomes_16 : decode cX12_allHomes 16 = .ok (.iload_n 2, 1) := by decide +kernel
theorem dX12_allHomes_17 : decode cX12_allHomes 17 = .ok (.bipush 6, 2) := by decide +kernel
theorem dX12_allHomes_19 : decode cX12_allHomes 19 = .ok (.invokevirtual 263, 3) := by decide +kernel
theorem dX12_allHomes_22 : decode cX12_allHomes 22 = .ok (.iadd, 1) := by decide +kernel
theorem dX12_allHomes_23 : decode cX12_allHomes 23 = .ok (.istore_n 1, 1) := by decide +kernel
theorem dX12_allHomes_24 : decode cX12_allHomes 24 = .ok (.iinc 2 1, 3) := by decide +kernel
theorem dX12_allHomes_27 : decode cX12_allHomes 27 = .ok (.goto (-23), 3) := by decide +kernel
theorem dX12_allHomes_30 : decode cX12_allHomes 30 = .ok (.iload_n 1, 1) := by decide +kernel
theorem dX12_allHomes_31 : decode cX12_allHomes 31 = .ok (.ireturn, 1) := by decide +kernel
theorem dX12_told_0 : decode cX12_told 0 = .ok (.iload_n 1, 1) := by decide +kernel
theorem dX12_told_1 : decode cX12_told 1 = .ok (.ifCond .lt 9, 3) := by decide +kernel
theorem dX12_told_4 : decode cX12_told 4 = .ok (.iload_n 1, 1) := by decide +kernel
theorem dX12_told_5 : decode cX12_told 5 = .ok (.bipush 14, 2) := by decide +kernel
theorem dX12_told_7 : decode cX12_told 7 = .ok (.if_icmp .le 9, 3) := by decide +kernel
theorem dX12_told_10 : decode cX12_told 10 = .ok (.aload_n 0, 1) := by decide +kernel
theorem dX12_told_11 : decode cX12_told 11 = .ok (.iconst 1, 1) := by decide +kernel
theorem dX12_told_12 : decode cX12_told 12 = .ok (.invokevirtual 91, 3) := by decide +kernel
theorem dX12_told_15 : decode cX12_told 15 = .ok (.ireturn, 1) := by decide +kernel
theorem dX12_told_16 : decode cX12_told 16 = .ok (.iload_n 1, 1) := by decide +kernel
theorem dX12_told_17 : decode cX12_told 17 = .ok (.bipush 9, 2) := by decide +kernel
theorem dX12_told_19 : decode cX12_told 19 = .ok (.if_icmp .ge 14, 3) := by decide +kernel
theorem dX12_told_22 : decode cX12_told 22 = .ok (.aload_n 0, 1) := by decide +kernel
theorem dX12_told_23 : decode cX12_told 23 = .ok (.aload_n 0, 1) := by decide +kernel
theorem dX12_told_24 : decode cX12_told 24 = .ok (.getfield 7, 3) := by decide +kernel
theorem dX12_told_27 : decode cX12_told 27 = .ok (.iload_n 1, 1) := by decide +kernel
theorem dX12_told_28 : decode cX12_told 28 = .ok (.iaload, 1) := by decide +kernel
theorem dX12_told_29 : decode cX12_told 29 = .ok (.invokevirtual 95, 3) := by decide +kernel
theorem dX12_told_32 : decode cX12_told 32 = .ok (.ireturn, 1) := by decide +kernel
theorem dX12_told_33 : decode cX12_told 33 = .ok (.aload_n 0, 1) := by decide +kernel
theorem dX12_told_34 : decode cX12_told 34 = .ok (.iload_n 1, 1) := by decide +kernel
theorem dX12_told_35 : decode cX12_told 35 = .ok (.bipush 14, 2) := by decide +kernel
theorem dX12_told_37 : decode cX12_told 37 = .ok (.if_icmp .ne 15, 3) := by decide +kernel
theorem dX12_told_40 : decode cX12_told 40 = .ok (.aload_n 0, 1) := by decide +kernel
theorem dX12_told_41 : decode cX12_told 41 = .ok (.aload_n 0, 1) := by decide +kernel
theorem dX12_told_42 : decode cX12_told 42 = .ok (.iconst 2, 1) := by decide +kernel
theorem dX12_told_43 : decode cX12_told 43 = .ok (.invokevirtual 278, 3) := by decide +kernel
theorem dX12_told_46 : decode cX12_told 46 = .ok (.invokevirtual 281, 3) := by decide +kernel
theorem dX12_told_49 : decode cX12_told 49 = .ok (.goto 11, 3) := by decide +kernel
theorem dX12_told_52 : decode cX12_told 52 = .ok (.aload_n 0, 1) := by decide +kernel
theorem dX12_told_53 : decode cX12_told 53 = .ok (.iload_n 1, 1) := by decide +kernel
theorem dX12_told_54 : decode cX12_told 54 = .ok (.bipush 9, 2) := by decide +kernel
theorem dX12_told_56 : decode cX12_told 56 = .ok (.isub, 1) := by decide +kernel
theorem dX12_told_57 : decode cX12_told 57 = .ok (.invokevirtual 278, 3) := by decide +kernel
theorem dX12_told_60 : decode cX12_told 60 = .ok (.invokevirtual 95, 3) := by decide +kernel
theorem dX12_told_63 : decode cX12_told 63 = .ok (.ireturn, 1) := by decide +kernel
theorem dX12_thing_0 : decode cX12_thing 0 = .ok (.aload_n 0, 1) := by decide +kernel
theorem dX12_thing_1 : decode cX12_thing 1 = .ok (.iload_n 1, 1) := by decide +kernel
theorem dX12_thing_2 : decode cX12_thing 2 = .ok (.invokevirtual 284, 3) := by decide +kernel
theorem dX12_thing_5 : decode cX12_thing 5 = .ok (.ifCond .eq 12, 3) := by decide +kernel
theorem dX12_thing_8 : decode cX12_thing 8 = .ok (.iload_n 2, 1) := by decide +kernel
theorem dX12_thing_9 : decode cX12_thing 9 = .ok (.ifCond .lt 8, 3) := by decide +kernel
theorem dX12_thing_12 : decode cX12_thing 12 = .ok (.iload_n 2, 1) := by decide +kernel
theorem dX12_thing_13 : decode cX12_thing 13 = .ok (.iconst 5, 1) := by decide +kernel
theorem dX12_thing_14 : decode cX12_thing 14 = .ok (.if_icmp .le 9, 3) := by decide +kernel
theorem dX12_thing_17 : decode cX12_thing 17 = .ok (.aload_n 0, 1) := by decide +kernel
theorem dX12_thing_18 : decode cX12_thing 18 = .ok (.iconst 1, 1) := by decide +kernel
theorem dX12_thing_19 : decode cX12_thing 19 = .ok (.invokevirtual 91, 3) := by decide +kernel
theorem dX12_thing_22 : decode cX12_thing 22 = .ok (.ireturn, 1) := by decide +kernel
theorem dX12_thing_23 : decode cX12_thing 23 = .ok (.iload_n 2, 1) := by decide +kernel
theorem dX12_thing_24 : decode cX12_thing 24 = .ok (.lookupswitch 51 #[(4, 28), (5, 39)], 28) := by decide +kernel
theorem dX12_thing_52 : decode cX12_thing 52 = .ok (.aload_n 0, 1) := by decide +kernel
theorem dX12_thing_53 : decode cX12_thing 53 = .ok (.aload_n 0, 1) := by decide +kernel
theorem dX12_thing_54 : decode cX12_thing 54 = .ok (.iload_n 1, 1) := by decide +kernel
theorem dX12_thing_55 : decode cX12_thing 55 = .ok (.iconst 5, 1) := by decide +kernel
theorem dX12_thing_56 : decode cX12_thing 56 = .ok (.invokevirtual 263, 3) := by decide +kernel
theorem dX12_thing_59 : decode cX12_thing 59 = .ok (.invokevirtual 95, 3) := by decide +kernel
theorem dX12_thing_62 : decode cX12_thing 62 = .ok (.ireturn, 1) := by decide +kernel
theorem dX12_thing_63 : decode cX12_thing 63 = .ok (.aload_n 0, 1) := by decide +kernel
theorem dX12_thing_64 : decode cX12_thing 64 = .ok (.aload_n 0, 1) := by decide +kernel
theorem dX12_thing_65 : decode cX12_thing 65 = .ok (.iload_n 1, 1) := by decide +kernel
theorem dX12_thing_66 : decode cX12_thing 66 = .ok (.bipush 6, 2) := by decide +kernel
theorem dX12_thing_68 : decode cX12_thing 68 = .ok (.invokevirtual 263, 3) := by decide +kernel
theorem dX12_thing_71 : decode cX12_thing 71 = .ok (.invokevirtual 95, 3) := by decide +kernel
theorem dX12_thing_74 : decode cX12_thing 74 = .ok (.ireturn, 1) := by decide +kernel
theorem dX12_thing_75 : decode cX12_thing 75 = .ok (.aload_n 0, 1) := by decide +kernel
theorem dX12_thing_76 : decode cX12_thing 76 = .ok (.aload_n 0, 1) := by decide +kernel
theorem dX12_thing_77 : decode cX12_thing 77 = .ok (.iload_n 1, 1) := by decide +kernel
theorem dX12_thing_78 : decode cX12_thing 78 = .ok (.iload_n 2, 1) := by decide +kernel
theorem dX12_thing_79 : decode cX12_thing 79 = .ok (.invokevirtual 263, 3) := by decide +kernel
theorem dX12_thing_82 : decode cX12_thing 82 = .ok (.invokevirtual 95, 3) := by decide +kernel
theorem dX12_thing_85 : decode cX12_thing 85 = .ok (.ireturn, 1) := by decide +kernel
theorem dX12_cellOf_0 : decode cX12_cellOf 0 = .ok (.aload_n 0, 1) := by decide +kernel
theorem dX12_cellOf_1 : decode cX12_cellOf 1 = .ok (.iload_n 1, 1) := by decide +kernel
theorem dX12_cellOf_2 : decode cX12_cellOf 2 = .ok (.invokevirtual 284, 3) := by decide +kernel
theorem dX12_cellOf_5 : decode cX12_cellOf 5 = .ok (.ifCond .ne 9, 3) := by decide +kernel
theorem dX12_cellOf_8 : decode cX12_cellOf 8 = .ok (.aload_n 0, 1) := by decide +kernel
theorem dX12_cellOf_9 : decode cX12_cellOf 9 = .ok (.iconst 1, 1) := by decide +kernel
theorem dX12_cellOf_10 : decode cX12_cellOf 10 = .ok (.invokevirtual 91, 3) := by decide +kernel
theorem dX12_cellOf_13 : decode cX12_cellOf 13 = .ok (.ireturn, 1) := by decide +kernel
theorem dX12_cellOf_14 : decode cX12_cellOf 14 = .ok (.aload_n 0, 1) := by decide +kernel
theorem dX12_cellOf_15 : decode cX12_cellOf 15 = .ok (.iload_n 1, 1) := by decide +kernel
theorem dX12_cellOf_16 : decode cX12_cellOf 16 = .ok (.iconst 3, 1) := by decide +kernel
theorem dX12_cellOf_17 : decode cX12_cellOf 17 = .ok (.invokevirtual 263, 3) := by decide +kernel
theorem dX12_cellOf_20 : decode cX12_cellOf 20 = .ok (.istore_n 2, 1) := by decide +kernel
theorem dX12_cellOf_21 : decode cX12_cellOf 21 = .ok (.iload_n 2, 1) := by decide +kernel
theorem dX12_cellOf_22 : decode cX12_cellOf 22 = .ok (.iconst 2, 1) := by decide +kernel
theorem dX12_cellOf_23 : decode cX12_cellOf 23 = .ok (.if_icmp .ne 15, 3) := by decide +kernel
theorem dX12_cellOf_26 : decode cX12_cellOf 26 = .ok (.aload_n 0, 1) := by decide +kernel
theorem dX12_cellOf_27 : decode cX12_cellOf 27 = .ok (.aload_n 0, 1) := by decide +kernel
theorem dX12_cellOf_28 : decode cX12_cellOf 28 = .ok (.getfield 7, 3) := by decide +kernel
theorem dX12_cellOf_31 : decode cX12_cellOf 31 = .ok (.bipush 6, 2) := by decide +kernel
theorem dX12_cellOf_33 : decode cX12_cellOf 33 = .ok (.iaload, 1) := by decide +kernel
theorem dX12_cellOf_34 : decode cX12_cellOf 34 = .ok (.invokevirtual 95, 3) := by decide +kernel
theorem dX12_cellOf_37 : decode cX12_cellOf 37 = .ok (.ireturn, 1) := by decide +kernel
theorem dX12_cellOf_38 : decode cX12_cellOf 38 = .ok (.iload_n 2, 1) := by decide +kernel
theorem dX12_cellOf_39 : decode cX12_cellOf 39 = .ok (.iconst 1, 1) := by decide +kernel
theorem dX12_cellOf_40 : decode cX12_cellOf 40 = .ok (.if_icmp .ne 16, 3) := by decide +kernel
theorem dX12_cellOf_43 : decode cX12_cellOf 43 = .ok (.aload_n 0, 1) := by decide +kernel
theorem dX12_cellOf_44 : decode cX12_cellOf 44 = .ok (.aload_n 0, 1) := by decide +kernel
theorem dX12_cellOf_45 : decode cX12_cellOf 45 = .ok (.iload_n 1, 1) := by decide +kernel
theorem dX12_cellOf_46 : decode cX12_cellOf 46 = .ok (.iconst 4, 1) := by decide +kernel
theorem dX12_cellOf_47 : decode cX12_cellOf 47 = .ok (.invokevirtual 263, 3) := by decide +kernel
theorem dX12_cellOf_50 : decode cX12_cellOf 50 = .ok (.invokevirtual 95, 3) := by decide +kernel
theorem dX12_cellOf_53 : decode cX12_cellOf 53 = .ok (.goto 9, 3) := by decide +kernel
theorem dX12_cellOf_56 : decode cX12_cellOf 56 = .ok (.aload_n 0, 1) := by decide +kernel
theorem dX12_cellOf_57 : decode cX12_cellOf 57 = .ok (.bipush 6, 2) := by decide +kernel
theorem dX12_cellOf_59 : decode cX12_cellOf 59 = .ok (.invokevirtual 91, 3) := by decide +kernel
theorem dX12_cellOf_62 : decode cX12_cellOf 62 = .ok (.ireturn, 1) := by decide +kernel
theorem dX12_mill_0 : decode cX12_mill 0 = .ok (.aload_n 0, 1) := by decide +kernel
theorem dX12_mill_1 : decode cX12_mill 1 = .ok (.iload_n 1, 1) := by decide +kernel
theorem dX12_mill_2 : decode cX12_mill 2 = .ok (.invokevirtual 287, 3) := by decide +kernel
theorem dX12_mill_5 : decode cX12_mill 5 = .ok (.ifCond .eq 12, 3) := by decide +kernel
theorem dX12_mill_8 : decode cX12_mill 8 = .ok (.iload_n 2, 1) := by decide +kernel
theorem dX12_mill_9 : decode cX12_mill 9 = .ok (.ifCond .lt 8, 3) := by decide +kernel
theorem dX12_mill_12 : decode cX12_mill 12 = .ok (.iload_n 2, 1) := by decide +kernel
theorem dX12_mill_13 : decode cX12_mill 13 = .ok (.iconst 2, 1) := by decide +kernel
theorem dX12_mill_14 : decode cX12_mill 14 = .ok (.if_icmp .le 9, 3) := by decide +kernel
theorem dX12_mill_17 : decode cX12_mill 17 = .ok (.aload_n 0, 1) := by decide +kernel
theorem dX12_mill_18 : decode cX12_mill 18 = .ok (.iconst 1, 1) := by decide +kernel
theorem dX12_mill_19 : decode cX12_mill 19 = .ok (.invokevirtual 91, 3) := by decide +kernel
theorem dX12_mill_22 : decode cX12_mill 22 = .ok (.ireturn, 1) := by decide +kernel
theorem dX12_mill_23 : decode cX12_mill 23 = .ok (.aload_n 0, 1) := by decide +kernel
theorem dX12_mill_24 : decode cX12_mill 24 = .ok (.aload_n 0, 1) := by decide +kernel
theorem dX12_mill_25 : decode cX12_mill 25 = .ok (.iload_n 1, 1) := by decide +kernel
theorem dX12_mill_26 : decode cX12_mill 26 = .ok (.iload_n 2, 1) := by decide +kernel
theorem dX12_mill_27 : decode cX12_mill 27 = .ok (.invokevirtual 290, 3) := by decide +kernel
theorem dX12_mill_30 : decode cX12_mill 30 = .ok (.invokevirtual 95, 3) := by decide +kernel
theorem dX12_mill_33 : decode cX12_mill 33 = .ok (.ireturn, 1) := by decide +kernel
theorem dX12_goal_0 : decode cX12_goal 0 = .ok (.aload_n 0, 1) := by decide +kernel
theorem dX12_goal_1 : decode cX12_goal 1 = .ok (.aload_n 0, 1) := by decide +kernel
theorem dX12_goal_2 : decode cX12_goal 2 = .ok (.invokevirtual 293, 3) := by decide +kernel
theorem dX12_goal_5 : decode cX12_goal 5 = .ok (.invokevirtual 95, 3) := by decide +kernel
theorem dX12_goal_8 : decode cX12_goal 8 = .ok (.ireturn, 1) := by decide +kernel
theorem dX12_goalThing_0 : decode cX12_goalThing 0 = .ok (.aload_n 0, 1) := by decide +kernel
theorem dX12_goalThing_1 : decode cX12_goalThing 1 = .ok (.aload_n 0, 1) := by decide +kernel
theorem dX12_goalThing_2 : decode cX12_goalThing 2 = .ok (.invokevirtual 269, 3) := by decide +kernel
theorem dX12_goalThing_5 : decode cX12_goalThing 5 = .ok (.invokevirtual 296, 3) := by decide +kernel
theorem dX12_goalThing_8 : decode cX12_goalThing 8 = .ok (.ireturn, 1) := by decide +kernel
theorem dX12_goes_0 : decode cX12_goes 0 = .ok (.aload_n 0, 1) := by decide +kernel
theorem dX12_goes_1 : decode cX12_goes 1 = .ok (.invokevirtual 293, 3) := by decide +kernel
theorem dX12_goes_4 : decode cX12_goes 4 = .ok (.istore_n 1, 1) := by decide +kernel
theorem dX12_goes_5 : decode cX12_goes 5 = .ok (.iload_n 1, 1) := by decide +kernel
theorem dX12_goes_6 : decode cX12_goes 6 = .ok (.aload_n 0, 1) := by decide +kernel
theorem dX12_goes_7 : decode cX12_goes 7 = .ok (.getfield 7, 3) := by decide +kernel
theorem dX12_goes_10 : decode cX12_goes 10 = .ok (.bipush 6, 2) := by decide +kernel
theorem dX12_goes_12 : decode cX12_goes 12 = .ok (.iaload, 1) := by decide +kernel
theorem dX12_goes_13 : decode cX12_goes 13 = .ok (.if_icmp .ne 4, 3) := by decide +kernel
theorem dX12_goes_16 : decode cX12_goes 16 = .ok (.return_, 1) := by decide +kernel
theorem dX12_goes_17 : decode cX12_goes 17 = .ok (.iload_n 1, 1) := by decide +kernel
theorem dX12_goes_18 : decode cX12_goes 18 = .ok (.aload_n 0, 1) := by decide +kernel
theorem dX12_goes_19 : decode cX12_goes 19 = .ok (.getfield 7, 3) := by decide +kernel
theorem dX12_goes_22 : decode cX12_goes 22 = .ok (.bipush 6, 2) := by decide +kernel
theorem dX12_goes_24 : decode cX12_goes 24 = .ok (.iaload, 1) := by decide +kernel
theorem dX12_goes_25 : decode cX12_goes 25 = .ok (.if_icmp .le 7, 3) := by decide +kernel
theorem dX12_goes_28 : decode cX12_goes 28 = .ok (.iconst 1, 1) := by decide +kernel
theorem dX12_goes_29 : decode cX12_goes 29 = .ok (.goto 4, 3) := by decide +kernel
theorem dX12_goes_32 : decode cX12_goes 32 = .ok (.iconst 0, 1) := by decide +kernel
theorem dX12_goes_33 : decode cX12_goes 33 = .ok (.istore_n 2, 1) := by decide +kernel
theorem dX12_goes_34 : decode cX12_goes 34 = .ok (.iload_n 2, 1) := by decide +kernel
theorem dX12_goes_35 : decode cX12_goes 35 = .ok (.aload_n 0, 1) := by decide +kernel
theorem dX12_goes_36 : decode cX12_goes 36 = .ok (.getfield 7, 3) := by decide +kernel
theorem dX12_goes_39 : decode cX12_goes 39 = .ok (.bipush 7, 2) := by decide +kernel
theorem dX12_goes_41 : decode cX12_goes 41 = .ok (.iaload, 1) := by decide +kernel
theorem dX12_goes_42 : decode cX12_goes 42 = .ok (.if_icmp .eq 23, 3) := by decide +kernel
theorem dX12_goes_45 : decode cX12_goes 45 = .ok (.aload_n 0, 1) := by decide +kernel
theorem dX12_goes_46 : decode cX12_goes 46 = .ok (.getfield 7, 3) := by decide +kernel
theorem dX12_goes_49 : decode cX12_goes 49 = .ok (.bipush 7, 2) := by decide +kernel
theorem dX12_goes_51 : decode cX12_goes 51 = .ok (.iload_n 2, 1) := by decide +kernel
theorem dX12_goes_52 : decode cX12_goes 52 = .ok (.iastore, 1) := by decide +kernel
theorem dX12_goes_53 : decode cX12_goes 53 = .ok (.aload_n 0, 1) := by decide +kernel
theorem dX12_goes_54 : decode cX12_goes 54 = .ok (.getfield 7, 3) := by decide +kernel
theorem dX12_goes_57 : decode cX12_goes 57 = .ok (.bipush 8, 2) := by decide +kernel
theorem dX12_goes_59 : decode cX12_goes 59 = .ok (.dup2, 1) := by decide +kernel
theorem dX12_goes_60 : decode cX12_goes 60 = .ok (.iaload, 1) := by decide +kernel
theorem dX12_goes_61 : decode cX12_goes 61 = .ok (.iconst 1, 1) := by decide +kernel
theorem dX12_goes_62 : decode cX12_goes 62 = .ok (.iadd, 1) := by decide +kernel
theorem dX12_goes_63 : decode cX12_goes 63 = .ok (.iastore, 1) := by decide +kernel
theorem dX12_goes_64 : decode cX12_goes 64 = .ok (.return_, 1) := by decide +kernel
theorem dX12_goes_65 : decode cX12_goes 65 = .ok (.aload_n 0, 1) := by decide +kernel
theorem dX12_goes_66 : decode cX12_goes 66 = .ok (.getfield 7, 3) := by decide +kernel
theorem dX12_goes_69 : decode cX12_goes 69 = .ok (.bipush 6, 2) := by decide +kernel
theorem dX12_goes_71 : decode cX12_goes 71 = .ok (.dup2, 1) := by decide +kernel
theorem dX12_goes_72 : decode cX12_goes 72 = .ok (.iaload, 1) := by decide +kernel
theorem dX12_goes_73 : decode cX12_goes 73 = .ok (.iconst 2, 1) := by decide +kernel
theorem dX12_goes_74 : decode cX12_goes 74 = .ok (.iload_n 2, 1) := by decide +kernel
theorem dX12_goes_75 : decode cX12_goes 75 = .ok (.imul, 1) := by decide +kernel
theorem dX12_goes_76 : decode cX12_goes 76 = .ok (.iconst 1, 1) := by decide +kernel
theorem dX12_goes_77 : decode cX12_goes 77 = .ok (.isub, 1) := by decide +kernel
theorem dX12_goes_78 : decode cX12_goes 78 = .ok (.iadd, 1) := by decide +kernel
theorem dX12_goes_79 : decode cX12_goes 79 = .ok (.iastore, 1) := by decide +kernel
theorem dX12_goes_80 : decode cX12_goes 80 = .ok (.iconst 0, 1) := by decide +kernel
theorem dX12_goes_81 : decode cX12_goes 81 = .ok (.istore_n 3, 1) := by decide +kernel
theorem dX12_goes_82 : decode cX12_goes 82 = .ok (.iload_n 3, 1) := by decide +kernel
theorem dX12_goes_83 : decode cX12_goes 83 = .ok (.aload_n 0, 1) := by decide +kernel
theorem dX12_goes_84 : decode cX12_goes 84 = .ok (.getfield 7, 3) := by decide +kernel
theorem dX12_goes_87 : decode cX12_goes 87 = .ok (.iconst 1, 1) := by decide +kernel
theorem dX12_goes_88 : decode cX12_goes 88 = .ok (.iaload, 1) := by decide +kernel
theorem dX12_goes_89 : decode cX12_goes 89 = .ok (.if_icmp .ge 60, 3) := by decide +kernel
theorem dX12_goes_92 : decode cX12_goes 92 = .ok (.aload_n 0, 1) := by decide +kernel
theorem dX12_goes_93 : decode cX12_goes 93 = .ok (.iload_n 3, 1) := by decide +kernel
theorem dX12_goes_94 : decode cX12_goes 94 = .ok (.iconst 1, 1) := by decide +kernel
theorem dX12_goes_95 : decode cX12_goes 95 = .ok (.invokevirtual 290, 3) := by decide +kernel
theorem dX12_goes_98 : decode cX12_goes 98 = .ok (.istore 4, 2) := by decide +kernel
theorem dX12_goes_100 : decode cX12_goes 100 = .ok (.aload_n 0, 1) := by decide +kernel
theorem dX12_goes_101 : decode cX12_goes 101 = .ok (.iload_n 3, 1) := by decide +kernel
theorem dX12_goes_102 : decode cX12_goes 102 = .ok (.iconst 0, 1) := by decide +kernel
theorem dX12_goes_103 : decode cX12_goes 103 = .ok (.invokevirtual 290, 3) := by decide +kernel
theorem dX12_goes_106 : decode cX12_goes 106 = .ok (.aload_n 0, 1) := by decide +kernel
theorem dX12_goes_107 : decode cX12_goes 107 = .ok (.getfield 7, 3) := by decide +kernel
theorem dX12_goes_110 : decode cX12_goes 110 = .ok (.bipush 6, 2) := by decide +kernel
theorem dX12_goes_112 : decode cX12_goes 112 = .ok (.iaload, 1) := by decide +kernel
theorem dX12_goes_113 : decode cX12_goes 113 = .ok (.if_icmp .ne 30, 3) := by decide +kernel
theorem dX12_goes_116 : decode cX12_goes 116 = .ok (.iload 4, 2) := by decide +kernel
theorem dX12_goes_118 : decode cX12_goes 118 = .ok (.iload_n 2, 1) := by decide +kernel
theorem dX12_goes_119 : decode cX12_goes 119 = .ok (.if_icmp .eq 9, 3) := by decide +kernel
theorem dX12_goes_122 : decode cX12_goes 122 = .ok (.iload 4, 2) := by decide +kernel
theorem dX12_goes_124 : decode cX12_goes 124 = .ok (.iconst 2, 1) := by decide +kernel
theorem dX12_goes_125 : decode cX12_goes 125 = .ok (.if_icmp .ne 18, 3) := by decide +kernel
theorem dX12_goes_128 : decode cX12_goes 128 = .ok (.aload_n 0, 1) := by decide +kernel
theorem dX12_goes_129 : decode cX12_goes 129 = .ok (.getfield 7, 3) := by decide +kernel
theorem dX12_goes_132 : decode cX12_goes 132 = .ok (.iload_n 3, 1) := by decide +kernel
theorem dX12_goes_133 : decode cX12_goes 133 = .ok (.invokestatic 213, 3) := by decide +kernel
theorem dX12_goes_136 : decode cX12_goes 136 = .ok (.iconst 2, 1) := by decide +kernel
theorem dX12_goes_137 : decode cX12_goes 137 = .ok (.iadd, 1) := by decide +kernel
theorem dX12_goes_138 : decode cX12_goes 138 = .ok (.dup2, 1) := by decide +kernel
theorem dX12_goes_139 : decode cX12_goes 139 = .ok (.iaload, 1) := by decide +kernel
theorem dX12_goes_140 : decode cX12_goes 140 = .ok (.iconst 1, 1) := by decide +kernel
theorem dX12_goes_141 : decode cX12_goes 141 = .ok (.iadd, 1) := by decide +kernel
theorem dX12_goes_142 : decode cX12_goes 142 = .ok (.iastore, 1) := by decide +kernel
theorem dX12_goes_143 : decode cX12_goes 143 = .ok (.iinc 3 1, 3) := by decide +kernel
theorem dX12_goes_146 : decode cX12_goes 146 = .ok (.goto (-64), 3) := by decide +kernel
theorem dX12_goes_149 : decode cX12_goes 149 = .ok (.return_, 1) := by decide +kernel
theorem dX12_takesUp_0 : decode cX12_takesUp 0 = .ok (.iconst 0, 1) := by decide +kernel
theorem dX12_takesUp_1 : decode cX12_takesUp 1 = .ok (.istore_n 1, 1) := by decide +kernel
theorem dX12_takesUp_2 : decode cX12_takesUp 2 = .ok (.iload_n 1, 1) := by decide +kernel
theorem dX12_takesUp_3 : decode cX12_takesUp 3 = .ok (.aload_n 0, 1) := by decide +kernel
theorem dX12_takesUp_4 : decode cX12_takesUp 4 = .ok (.getfield 7, 3) := by decide +kernel
theorem dX12_takesUp_7 : decode cX12_takesUp 7 = .ok (.iconst 0, 1) := by decide +kernel
theorem dX12_takesUp_8 : decode cX12_takesUp 8 = .ok (.iaload, 1) := by decide +kernel
theorem dX12_takesUp_9 : decode cX12_takesUp 9 = .ok (.if_icmp .ge 88, 3) := by decide +kernel
theorem dX12_takesUp_12 : decode cX12_takesUp 12 = .ok (.aload_n 0, 1) := by decide +kernel
theorem dX12_takesUp_13 : decode cX12_takesUp 13 = .ok (.iload_n 1, 1) := by decide +kernel
theorem dX12_takesUp_14 : decode cX12_takesUp 14 = .ok (.invokevirtual 266, 3) := by decide +kernel
theorem dX12_takesUp_17 : decode cX12_takesUp 17 = .ok (.ifCond .eq 74, 3) := by decide +kernel
theorem dX12_takesUp_20 : decode cX12_takesUp 20 = .ok (.aload_n 0, 1) := by decide +kernel
theorem dX12_takesUp_21 : decode cX12_takesUp 21 = .ok (.iload_n 1, 1) := by decide +kernel
theorem dX12_takesUp_22 : decode cX12_takesUp 22 = .ok (.iconst 4, 1) := by decide +kernel
theorem dX12_takesUp_23 : decode cX12_takesUp 23 = .ok (.invokevirtual 263, 3) := by decide +kernel
theorem dX12_takesUp_26 : decode cX12_takesUp 26 = .ok (.aload_n 0, 1) := by decide +kernel
theorem dX12_takesUp_27 : decode cX12_takesUp 27 = .ok (.getfield 7, 3) := by decide +kernel
theorem dX12_takesUp_30 : decode cX12_takesUp 30 = .ok (.bipush 6, 2) := by decide +kernel
theorem dX12_takesUp_32 : decode cX12_takesUp 32 = .ok (.iaload, 1) := by decide +kernel
theorem dX12_takesUp_33 : decode cX12_takesUp 33 = .ok (.if_icmp .eq 6, 3) := by decide +kernel
theorem dX12_takesUp_36 : decode cX12_takesUp 36 = .ok (.goto 55, 3) := by decide +kernel
theorem dX12_takesUp_39 : decode cX12_takesUp 39 = .ok (.aload_n 0, 1) := by decide +kernel
theorem dX12_takesUp_40 : decode cX12_takesUp 40 = .ok (.aload_n 0, 1) := by decide +kernel
theorem dX12_takesUp_41 : decode cX12_takesUp 41 = .ok (.iconst 2, 1) := by decide +kernel
theorem dX12_takesUp_42 : decode cX12_takesUp 42 = .ok (.invokevirtual 278, 3) := by decide +kernel
theorem dX12_takesUp_45 : decode cX12_takesUp 45 = .ok (.invokevirtual 281, 3) := by decide +kernel
theorem dX12_takesUp_48 : decode cX12_takesUp 48 = .ok (.aload_n 0, 1) := by decide +kernel
theorem dX12_takesUp_49 : decode cX12_takesUp 49 = .ok (.iload_n 1, 1) := by decide +kernel
theorem dX12_takesUp_50 : decode cX12_takesUp 50 = .ok (.iconst 0, 1) := by decide +kernel
theorem dX12_takesUp_51 : decode cX12_takesUp 51 = .ok (.invokevirtual 263, 3) := by decide +kernel
theorem dX12_takesUp_54 : decode cX12_takesUp 54 = .ok (.iadd, 1) := by decide +kernel
theorem dX12_takesUp_55 : decode cX12_takesUp 55 = .ok (.aload_n 0, 1) := by decide +kernel
theorem dX12_takesUp_56 : decode cX12_takesUp 56 = .ok (.getfield 7, 3) := by decide +kernel
theorem dX12_takesUp_59 : decode cX12_takesUp 59 = .ok (.iconst 3, 1) := by decide +kernel
theorem dX12_takesUp_60 : decode cX12_takesUp 60 = .ok (.iaload, 1) := by decide +kernel
theorem dX12_takesUp_61 : decode cX12_takesUp 61 = .ok (.if_icmp .le 6, 3) := by decide +kernel
theorem dX12_takesUp_64 : decode cX12_takesUp 64 = .ok (.goto 27, 3) := by decide +kernel
theorem dX12_takesUp_67 : decode cX12_takesUp 67 = .ok (.aload_n 0, 1) := by decide +kernel
theorem dX12_takesUp_68 : decode cX12_takesUp 68 = .ok (.getfield 7, 3) := by decide +kernel
theorem dX12_takesUp_71 : decode cX12_takesUp 71 = .ok (.iload_n 1, 1) := by decide +kernel
theorem dX12_takesUp_72 : decode cX12_takesUp 72 = .ok (.invokestatic 203, 3) := by decide +kernel
theorem dX12_takesUp_75 : decode cX12_takesUp 75 = .ok (.iconst 3, 1) := by decide +kernel
theorem dX12_takesUp_76 : decode cX12_takesUp 76 = .ok (.iadd, 1) := by decide +kernel
theorem dX12_takesUp_77 : decode cX12_takesUp 77 = .ok (.iconst 2, 1) := by decide +kernel
theorem dX12_takesUp_78 : decode cX12_takesUp 78 = .ok (.iastore, 1) := by decide +kernel
theorem dX12_takesUp_79 : decode cX12_takesUp 79 = .ok (.aload_n 0, 1) := by decide +kernel
theorem dX12_takesUp_80 : decode cX12_takesUp 80 = .ok (.getfield 7, 3) := by decide +kernel
theorem dX12_takesUp_83 : decode cX12_takesUp 83 = .ok (.iload_n 1, 1) := by decide +kernel
theorem dX12_takesUp_84 : decode cX12_takesUp 84 = .ok (.invokestatic 203, 3) := by decide +kernel
theorem dX12_takesUp_87 : decode cX12_takesUp 87 = .ok (.iconst 5, 1) := by decide +kernel
theorem dX12_takesUp_88 : decode cX12_takesUp 88 = .ok (.iadd, 1) := by decide +kernel
theorem dX12_takesUp_89 : decode cX12_takesUp 89 = .ok (.iconst 0, 1) := by decide +kernel
theorem dX12_takesUp_90 : decode cX12_takesUp 90 = .ok (.iastore, 1) := by decide +kernel
theorem dX12_takesUp_91 : decode cX12_takesUp 91 = .ok (.iinc 1 1, 3) := by decide +kernel
theorem dX12_takesUp_94 : decode cX12_takesUp 94 = .ok (.goto (-92), 3) := by decide +kernel
theorem dX12_takesUp_97 : decode cX12_takesUp 97 = .ok (.return_, 1) := by decide +kernel
theorem dX12_comesHome_0 : decode cX12_comesHome 0 = .ok (.aload_n 0, 1) := by decide +kernel
theorem dX12_comesHome_1 : decode cX12_comesHome 1 = .ok (.getfield 7, 3) := by decide +kernel
theorem dX12_comesHome_4 : decode cX12_comesHome 4 = .ok (.iload_n 1, 1) := by decide +kernel
theorem dX12_comesHome_5 : decode cX12_comesHome 5 = .ok (.invokestatic 203, 3) := by decide +kernel
theorem dX12_comesHome_8 : decode cX12_comesHome 8 = .ok (.iconst 3, 1) := by decide +kernel
theorem dX12_comesHome_9 : decode cX12_comesHome 9 = .ok (.iadd, 1) := by decide +kernel
theorem dX12_comesHome_10 : decode cX12_comesHome 10 = .ok (.iconst 3, 1) := by decide +kernel
theorem dX12_comesHome_11 : decode cX12_comesHome 11 = .ok (.iastore, 1) := by decide +kernel
theorem dX12_comesHome_12 : decode cX12_comesHome 12 = .ok (.aload_n 0, 1) := by decide +kernel
theorem dX12_comesHome_13 : decode cX12_comesHome 13 = .ok (.getfield 7, 3) := by decide +kernel
theorem dX12_comesHome_16 : decode cX12_comesHome 16 = .ok (.iload_n 1, 1) := by decide +kernel
theorem dX12_comesHome_17 : decode cX12_comesHome 17 = .ok (.invokestatic 203, 3) := by decide +kernel
theorem dX12_comesHome_20 : decode cX12_comesHome 20 = .ok (.iconst 5, 1) := by decide +kernel
theorem dX12_comesHome_21 : decode cX12_comesHome 21 = .ok (.iadd, 1) := by decide +kernel
theorem dX12_comesHome_22 : decode cX12_comesHome 22 = .ok (.iconst 0, 1) := by decide +kernel
theorem dX12_comesHome_23 : decode cX12_comesHome 23 = .ok (.iastore, 1) := by decide +kernel
theorem dX12_comesHome_24 : decode cX12_comesHome 24 = .ok (.aload_n 0, 1) := by decide +kernel
theorem dX12_comesHome_25 : decode cX12_comesHome 25 = .ok (.getfield 7, 3) := by decide +kernel
theorem dX12_comesHome_28 : decode cX12_comesHome 28 = .ok (.iload_n 1, 1) := by decide +kernel
theorem dX12_comesHome_29 : decode cX12_comesHome 29 = .ok (.invokestatic 203, 3) := by decide +kernel
theorem dX12_comesHome_32 : decode cX12_comesHome 32 = .ok (.bipush 6, 2) := by decide +kernel
theorem dX12_comesHome_34 : decode cX12_comesHome 34 = .ok (.iadd, 1) := by decide +kernel
theorem dX12_comesHome_35 : decode cX12_comesHome 35 = .ok (.dup2, 1) := by decide +kernel
theorem dX12_comesHome_36 : decode cX12_comesHome 36 = .ok (.iaload, 1) := by decide +kernel
theorem dX12_comesHome_37 : decode cX12_comesHome 37 = .ok (.iconst 1, 1) := by decide +kernel
theorem dX12_comesHome_38 : decode cX12_comesHome 38 = .ok (.iadd, 1) := by decide +kernel
theorem dX12_comesHome_39 : decode cX12_comesHome 39 = .ok (.iastore, 1) := by decide +kernel
theorem dX12_comesHome_40 : decode cX12_comesHome 40 = .ok (.return_, 1) := by decide +kernel
theorem dX12_lasts_0 : decode cX12_lasts 0 = .ok (.iload_n 1, 1) := by decide +kernel
theorem dX12_lasts_1 : decode cX12_lasts 1 = .ok (.invokestatic 203, 3) := by decide +kernel
theorem dX12_lasts_4 : decode cX12_lasts 4 = .ok (.istore_n 2, 1) := by decide +kernel
theorem dX12_lasts_5 : decode cX12_lasts 5 = .ok (.aload_n 0, 1) := by decide +kernel
theorem dX12_lasts_6 : decode cX12_lasts 6 = .ok (.getfield 7, 3) := by decide +kernel
theorem dX12_lasts_9 : decode cX12_lasts 9 = .ok (.iload_n 2, 1) := by decide +kernel
theorem dX12_lasts_10 : decode cX12_lasts 10 = .ok (.iconst 3, 1) := by decide +kernel
theorem dX12_lasts_11 : decode cX12_lasts 11 = .ok (.iadd, 1) := by decide +kernel
theorem dX12_lasts_12 : decode cX12_lasts 12 = .ok (.iaload, 1) := by decide +kernel
theorem dX12_lasts_13 : decode cX12_lasts 13 = .ok (.iconst 1, 1) := by decide +kernel
theorem dX12_lasts_14 : decode cX12_lasts 14 = .ok (.if_icmp .ne 29, 3) := by decide +kernel
theorem dX12_lasts_17 : decode cX12_lasts 17 = .ok (.aload_n 0, 1) := by decide +kernel
theorem dX12_lasts_18 : decode cX12_lasts 18 = .ok (.getfield 7, 3) := by decide +kernel
theorem dX12_lasts_21 : decode cX12_lasts 21 = .ok (.iload_n 2, 1) := by decide +kernel
theorem dX12_lasts_22 : decode cX12_lasts 22 = .ok (.iconst 5, 1) := by decide +kernel
theorem dX12_lasts_23 : decode cX12_lasts 23 = .ok (.iadd, 1) := by decide +kernel
theorem dX12_lasts_24 : decode cX12_lasts 24 = .ok (.bipush 99, 2) := by decide +kernel
theorem dX12_lasts_26 : decode cX12_lasts 26 = .ok (.aload_n 0, 1) := by decide +kernel
theorem dX12_lasts_27 : decode cX12_lasts 27 = .ok (.getfield 7, 3) := by decide +kernel
theorem dX12_lasts_30 : decode cX12_lasts 30 = .ok (.iload_n 2, 1) := by decide +kernel
theorem dX12_lasts_31 : decode cX12_lasts 31 = .ok (.iconst 5, 1) := by decide +kernel
theorem dX12_lasts_32 : decode cX12_lasts 32 = .ok (.iadd, 1) := by decide +kernel
theorem dX12_lasts_33 : decode cX12_lasts 33 = .ok (.iaload, 1) := by decide +kernel
theorem dX12_lasts_34 : decode cX12_lasts 34 = .ok (.iconst 1, 1) := by decide +kernel
theorem dX12_lasts_35 : decode cX12_lasts 35 = .ok (.iadd, 1) := by decide +kernel
theorem dX12_lasts_36 : decode cX12_lasts 36 = .ok (.invokestatic 146, 3) := by decide +kernel
theorem dX12_lasts_39 : decode cX12_lasts 39 = .ok (.iastore, 1) := by decide +kernel
theorem dX12_lasts_40 : decode cX12_lasts 40 = .ok (.goto 80, 3) := by decide +kernel
theorem dX12_lasts_43 : decode cX12_lasts 43 = .ok (.aload_n 0, 1) := by decide +kernel
theorem dX12_lasts_44 : decode cX12_lasts 44 = .ok (.getfield 7, 3) := by decide +kernel
theorem dX12_lasts_47 : decode cX12_lasts 47 = .ok (.iload_n 2, 1) := by decide +kernel
theorem dX12_lasts_48 : decode cX12_lasts 48 = .ok (.iconst 3, 1) := by decide +kernel
theorem dX12_lasts_49 : decode cX12_lasts 49 = .ok (.iadd, 1) := by decide +kernel
theorem dX12_lasts_50 : decode cX12_lasts 50 = .ok (.iaload, 1) := by decide +kernel
theorem dX12_lasts_51 : decode cX12_lasts 51 = .ok (.iconst 2, 1) := by decide +kernel
theorem dX12_lasts_52 : decode cX12_lasts 52 = .ok (.if_icmp .ne 68, 3) := by decide +kernel
theorem dX12_lasts_55 : decode cX12_lasts 55 = .ok (.aload_n 0, 1) := by decide +kernel
theorem dX12_lasts_56 : decode cX12_lasts 56 = .ok (.getfield 7, 3) := by decide +kernel
theorem dX12_lasts_59 : decode cX12_lasts 59 = .ok (.iload_n 2, 1) := by decide +kernel
theorem dX12_lasts_60 : decode cX12_lasts 60 = .ok (.iconst 5, 1) := by decide +kernel
theorem dX12_lasts_61 : decode cX12_lasts 61 = .ok (.iadd, 1) := by decide +kernel
theorem dX12_lasts_62 : decode cX12_lasts 62 = .ok (.dup2, 1) := by decide +kernel
theorem dX12_lasts_63 : decode cX12_lasts 63 = .ok (.iaload, 1) := by decide +kernel
theorem dX12_lasts_64 : decode cX12_lasts 64 = .ok (.iconst 1, 1) := by decide +kernel
theorem dX12_lasts_65 : decode cX12_lasts 65 = .ok (.iadd, 1) := by decide +kernel
theorem dX12_lasts_66 : decode cX12_lasts 66 = .ok (.iastore, 1) := by decide +kernel
theorem dX12_lasts_67 : decode cX12_lasts 67 = .ok (.aload_n 0, 1) := by decide +kernel
theorem dX12_lasts_68 : decode cX12_lasts 68 = .ok (.getfield 7, 3) := by decide +kernel
theorem dX12_lasts_71 : decode cX12_lasts 71 = .ok (.iload_n 2, 1) := by decide +kernel
theorem dX12_lasts_72 : decode cX12_lasts 72 = .ok (.iconst 5, 1) := by decide +kernel
theorem dX12_lasts_73 : decode cX12_lasts 73 = .ok (.iadd, 1) := by decide +kernel
theorem dX12_lasts_74 : decode cX12_lasts 74 = .ok (.iaload, 1) := by decide +kernel
theorem dX12_lasts_75 : decode cX12_lasts 75 = .ok (.aload_n 0, 1) := by decide +kernel
theorem dX12_lasts_76 : decode cX12_lasts 76 = .ok (.getfield 7, 3) := by decide +kernel
theorem dX12_lasts_79 : decode cX12_lasts 79 = .ok (.iload_n 2, 1) := by decide +kernel
theorem dX12_lasts_80 : decode cX12_lasts 80 = .ok (.iconst 1, 1) := by decide +kernel
theorem dX12_lasts_81 : decode cX12_lasts 81 = .ok (.iadd, 1) := by decide +kernel
theorem dX12_lasts_82 : decode cX12_lasts 82 = .ok (.iaload, 1) := by decide +kernel
theorem dX12_lasts_83 : decode cX12_lasts 83 = .ok (.if_icmp .ge 4, 3) := by decide +kernel
theorem dX12_lasts_86 : decode cX12_lasts 86 = .ok (.return_, 1) := by decide +kernel
theorem dX12_lasts_87 : decode cX12_lasts 87 = .ok (.aload_n 0, 1) := by decide +kernel
theorem dX12_lasts_88 : decode cX12_lasts 88 = .ok (.getfield 7, 3) := by decide +kernel
theorem dX12_lasts_91 : decode cX12_lasts 91 = .ok (.iload_n 2, 1) := by decide +kernel
theorem dX12_lasts_92 : decode cX12_lasts 92 = .ok (.iconst 3, 1) := by decide +kernel
theorem dX12_lasts_93 : decode cX12_lasts 93 = .ok (.iadd, 1) := by decide +kernel
theorem dX12_lasts_94 : decode cX12_lasts 94 = .ok (.iconst 1, 1) := by decide +kernel
theorem dX12_lasts_95 : decode cX12_lasts 95 = .ok (.iastore, 1) := by decide +kernel
theorem dX12_lasts_96 : decode cX12_lasts 96 = .ok (.aload_n 0, 1) := by decide +kernel
theorem dX12_lasts_97 : decode cX12_lasts 97 = .ok (.getfield 7, 3) := by decide +kernel
theorem dX12_lasts_100 : decode cX12_lasts 100 = .ok (.iload_n 2, 1) := by decide +kernel
theorem dX12_lasts_101 : decode cX12_lasts 101 = .ok (.iconst 4, 1) := by decide +kernel
theorem dX12_lasts_102 : decode cX12_lasts 102 = .ok (.iadd, 1) := by decide +kernel
theorem dX12_lasts_103 : decode cX12_lasts 103 = .ok (.aload_n 0, 1) := by decide +kernel
theorem dX12_lasts_104 : decode cX12_lasts 104 = .ok (.getfield 7, 3) := by decide +kernel
theorem dX12_lasts_107 : decode cX12_lasts 107 = .ok (.bipush 6, 2) := by decide +kernel
theorem dX12_lasts_109 : decode cX12_lasts 109 = .ok (.iaload, 1) := by decide +kernel
theorem dX12_lasts_110 : decode cX12_lasts 110 = .ok (.iastore, 1) := by decide +kernel
theorem dX12_lasts_111 : decode cX12_lasts 111 = .ok (.aload_n 0, 1) := by decide +kernel
theorem dX12_lasts_112 : decode cX12_lasts 112 = .ok (.getfield 7, 3) := by decide +kernel
theorem dX12_lasts_115 : decode cX12_lasts 115 = .ok (.iload_n 2, 1) := by decide +kernel
theorem dX12_lasts_116 : decode cX12_lasts 116 = .ok (.iconst 5, 1) := by decide +kernel
theorem dX12_lasts_117 : decode cX12_lasts 117 = .ok (.iadd, 1) := by decide +kernel
theorem dX12_lasts_118 : decode cX12_lasts 118 = .ok (.iconst 0, 1) := by decide +kernel
theorem dX12_lasts_119 : decode cX12_lasts 119 = .ok (.iastore, 1) := by decide +kernel
theorem dX12_lasts_120 : decode cX12_lasts 120 = .ok (.return_, 1) := by decide +kernel
theorem dX12_hourGoes_0 : decode cX12_hourGoes 0 = .ok (.aload_n 0, 1) := by decide +kernel
theorem dX12_hourGoes_1 : decode cX12_hourGoes 1 = .ok (.getfield 7, 3) := by decide +kernel
theorem dX12_hourGoes_4 : decode cX12_hourGoes 4 = .ok (.bipush 8, 2) := by decide +kernel
theorem dX12_hourGoes_6 : decode cX12_hourGoes 6 = .ok (.iaload, 1) := by decide +kernel
theorem dX12_hourGoes_7 : decode cX12_hourGoes 7 = .ok (.istore_n 1, 1) := by decide +kernel
theorem dX12_hourGoes_8 : decode cX12_hourGoes 8 = .ok (.aload_n 0, 1) := by decide +kernel
theorem dX12_hourGoes_9 : decode cX12_hourGoes 9 = .ok (.invokevirtual 299, 3) := by decide +kernel
theorem dX12_hourGoes_12 : decode cX12_hourGoes 12 = .ok (.aload_n 0, 1) := by decide +kernel
theorem dX12_hourGoes_13 : decode cX12_hourGoes 13 = .ok (.invokevirtual 302, 3) := by decide +kernel
theorem dX12_hourGoes_16 : decode cX12_hourGoes 16 = .ok (.iconst 0, 1) := by decide +kernel
theorem dX12_hourGoes_17 : decode cX12_hourGoes 17 = .ok (.istore_n 2, 1) := by decide +kernel
theorem dX12_hourGoes_18 : decode cX12_hourGoes 18 = .ok (.iload_n 2, 1) := by decide +kernel
theorem dX12_hourGoes_19 : decode cX12_hourGoes 19 = .ok (.aload_n 0, 1) := by decide +kernel
theorem dX12_hourGoes_20 : decode cX12_hourGoes 20 = .ok (.getfield 7, 3) := by decide +kernel
theorem dX12_hourGoes_23 : decode cX12_hourGoes 23 = .ok (.iconst 0, 1) := by decide +kernel
theorem dX12_hourGoes_24 : decode cX12_hourGoes 24 = .ok (.iaload, 1) := by decide +kernel
theorem dX12_hourGoes_25 : decode cX12_hourGoes 25 = .ok (.if_icmp .ge 43, 3) := by decide +kernel
theorem dX12_hourGoes_28 : decode cX12_hourGoes 28 = .ok (.aload_n 0, 1) := by decide +kernel
theorem dX12_hourGoes_29 : decode cX12_hourGoes 29 = .ok (.getfield 7, 3) := by decide +kernel
theorem dX12_hourGoes_32 : decode cX12_hourGoes 32 = .ok (.bipush 6, 2) := by decide +kernel
theorem dX12_hourGoes_34 : decode cX12_hourGoes 34 = .ok (.iaload, 1) := by decide +kernel
theorem dX12_hourGoes_35 : decode cX12_hourGoes 35 = .ok (.aload_n 0, 1) := by decide +kernel
theorem dX12_hourGoes_36 : decode cX12_hourGoes 36 = .ok (.invokevirtual 272, 3) := by decide +kernel
theorem dX12_hourGoes_39 : decode cX12_hourGoes 39 = .ok (.if_icmp .ne 18, 3) := by decide +kernel
theorem dX12_hourGoes_42 : decode cX12_hourGoes 42 = .ok (.aload_n 0, 1) := by decide +kernel
theorem dX12_hourGoes_43 : decode cX12_hourGoes 43 = .ok (.iload_n 2, 1) := by decide +kernel
theorem dX12_hourGoes_44 : decode cX12_hourGoes 44 = .ok (.iconst 3, 1) := by decide +kernel
theorem dX12_hourGoes_45 : decode cX12_hourGoes 45 = .ok (.invokevirtual 263, 3) := by decide +kernel
theorem dX12_hourGoes_48 : decode cX12_hourGoes 48 = .ok (.iconst 2, 1) := by decide +kernel
theorem dX12_hourGoes_49 : decode cX12_hourGoes 49 = .ok (.if_icmp .ne 8, 3) := by decide +kernel
theorem dX12_hourGoes_52 : decode cX12_hourGoes 52 = .ok (.aload_n 0, 1) := by decide +kernel
theorem dX12_hourGoes_53 : decode cX12_hourGoes 53 = .ok (.iload_n 2, 1) := by decide +kernel
theorem dX12_hourGoes_54 : decode cX12_hourGoes 54 = .ok (.invokevirtual 305, 3) := by decide +kernel
theorem dX12_hourGoes_57 : decode cX12_hourGoes 57 = .ok (.aload_n 0, 1) := by decide +kernel
theorem dX12_hourGoes_58 : decode cX12_hourGoes 58 = .ok (.iload_n 2, 1) := by decide +kernel
theorem dX12_hourGoes_59 : decode cX12_hourGoes 59 = .ok (.invokevirtual 308, 3) := by decide +kernel
theorem dX12_hourGoes_62 : decode cX12_hourGoes 62 = .ok (.iinc 2 1, 3) := by decide +kernel
theorem dX12_hourGoes_65 : decode cX12_hourGoes 65 = .ok (.goto (-47), 3) := by decide +kernel
theorem dX12_hourGoes_68 : decode cX12_hourGoes 68 = .ok (.aload_n 0, 1) := by decide +kernel
theorem dX12_hourGoes_69 : decode cX12_hourGoes 69 = .ok (.getfield 7, 3) := by decide +kernel
theorem dX12_hourGoes_72 : decode cX12_hourGoes 72 = .ok (.iconst 5, 1) := by decide +kernel
theorem dX12_hourGoes_73 : decode cX12_hourGoes 73 = .ok (.dup2, 1) := by decide +kernel
theorem dX12_hourGoes_74 : decode cX12_hourGoes 74 = .ok (.iaload, 1) := by decide +kernel
theorem dX12_hourGoes_75 : decode cX12_hourGoes 75 = .ok (.iconst 1, 1) := by decide +kernel
theorem dX12_hourGoes_76 : decode cX12_hourGoes 76 = .ok (.iadd, 1) := by decide +kernel
theorem dX12_hourGoes_77 : decode cX12_hourGoes 77 = .ok (.iastore, 1) := by decide +kernel
theorem dX12_hourGoes_78 : decode cX12_hourGoes 78 = .ok (.aload_n 0, 1) := by decide +kernel
theorem dX12_hourGoes_79 : decode cX12_hourGoes 79 = .ok (.getfield 7, 3) := by decide +kernel
theorem dX12_hourGoes_82 : decode cX12_hourGoes 82 = .ok (.bipush 8, 2) := by decide +kernel
theorem dX12_hourGoes_84 : decode cX12_hourGoes 84 = .ok (.iaload, 1) := by decide +kernel
theorem dX12_hourGoes_85 : decode cX12_hourGoes 85 = .ok (.iload_n 1, 1) := by decide +kernel
theorem dX12_hourGoes_86 : decode cX12_hourGoes 86 = .ok (.if_icmp .le 7, 3) := by decide +kernel
theorem dX12_hourGoes_89 : decode cX12_hourGoes 89 = .ok (.iconst 1, 1) := by decide +kernel
theorem dX12_hourGoes_90 : decode cX12_hourGoes 90 = .ok (.goto 4, 3) := by decide +kernel
theorem dX12_hourGoes_93 : decode cX12_hourGoes 93 = .ok (.iconst 0, 1) := by decide +kernel
theorem dX12_hourGoes_94 : decode cX12_hourGoes 94 = .ok (.ireturn, 1) := by decide +kernel
theorem dX12_hoursGo_0 : decode cX12_hoursGo 0 = .ok (.iconst 0, 1) := by decide +kernel
theorem dX12_hoursGo_1 : decode cX12_hoursGo 1 = .ok (.istore_n 2, 1) := by decide +kernel
theorem dX12_hoursGo_2 : decode cX12_hoursGo 2 = .ok (.iconst 0, 1) := by decide +kernel
theorem dX12_hoursGo_3 : decode cX12_hoursGo 3 = .ok (.istore_n 3, 1) := by decide +kernel
theorem dX12_hoursGo_4 : decode cX12_hoursGo 4 = .ok (.iload_n 3, 1) := by decide +kernel
theorem dX12_hoursGo_5 : decode cX12_hoursGo 5 = .ok (.iload_n 1, 1) := by decide +kernel
theorem dX12_hoursGo_6 : decode cX12_hoursGo 6 = .ok (.if_icmp .ge 24, 3) := by decide +kernel
theorem dX12_hoursGo_9 : decode cX12_hoursGo 9 = .ok (.iload_n 2, 1) := by decide +kernel
theorem dX12_hoursGo_10 : decode cX12_hoursGo 10 = .ok (.aload_n 0, 1) := by decide +kernel
theorem dX12_hoursGo_11 : decode cX12_hoursGo 11 = .ok (.invokevirtual 311, 3) := by decide +kernel
theorem dX12_hoursGo_14 : decode cX12_hoursGo 14 = .ok (.ifCond .eq 7, 3) := by decide +kernel
theorem dX12_hoursGo_17 : decode cX12_hoursGo 17 = .ok (.iconst 1, 1) := by decide +kernel
theorem dX12_hoursGo_18 : decode cX12_hoursGo 18 = .ok (.goto 4, 3) := by decide +kernel
theorem dX12_hoursGo_21 : decode cX12_hoursGo 21 = .ok (.iconst 0, 1) := by decide +kernel
theorem dX12_hoursGo_22 : decode cX12_hoursGo 22 = .ok (.iadd, 1) := by decide +kernel
theorem dX12_hoursGo_23 : decode cX12_hoursGo 23 = .ok (.istore_n 2, 1) := by decide +kernel
theorem dX12_hoursGo_24 : decode cX12_hoursGo 24 = .ok (.iinc 3 1, 3) := by decide +kernel
theorem dX12_hoursGo_27 : decode cX12_hoursGo 27 = .ok (.goto (-23), 3) := by decide +kernel
theorem dX12_hoursGo_30 : decode cX12_hoursGo 30 = .ok (.iload_n 2, 1) := by decide +kernel
theorem dX12_hoursGo_31 : decode cX12_hoursGo 31 = .ok (.ireturn, 1) := by decide +kernel
theorem dX12_hour_0 : decode cX12_hour 0 = .ok (.iload_n 1, 1) := by decide +kernel
theorem dX12_hour_1 : decode cX12_hour 1 = .ok (.i2l, 1) := by decide +kernel
theorem dX12_hour_2 : decode cX12_hour 2 = .ok (.lconst 1, 1) := by decide +kernel
theorem dX12_hour_3 : decode cX12_hour 3 = .ok (.ldc2_w 314, 3) := by decide +kernel
theorem dX12_hour_6 : decode cX12_hour 6 = .ok (.invokestatic 316, 3) := by decide +kernel
theorem dX12_hour_9 : decode cX12_hour 9 = .ok (.ifCond .ne 9, 3) := by decide +kernel
theorem dX12_hour_12 : decode cX12_hour 12 = .ok (.aload_n 0, 1) := by decide +kernel
theorem dX12_hour_13 : decode cX12_hour 13 = .ok (.iconst 1, 1) := by decide +kernel
theorem dX12_hour_14 : decode cX12_hour 14 = .ok (.invokevirtual 91, 3) := by decide +kernel
theorem dX12_hour_17 : decode cX12_hour 17 = .ok (.ireturn, 1) := by decide +kernel
theorem dX12_hour_18 : decode cX12_hour 18 = .ok (.aload_n 0, 1) := by decide +kernel
theorem dX12_hour_19 : decode cX12_hour 19 = .ok (.getfield 7, 3) := by decide +kernel
theorem dX12_hour_22 : decode cX12_hour 22 = .ok (.iconst 5, 1) := by decide +kernel
theorem dX12_hour_23 : decode cX12_hour 23 = .ok (.iaload, 1) := by decide +kernel
theorem dX12_hour_24 : decode cX12_hour 24 = .ok (.iload_n 1, 1) := by decide +kernel
theorem dX12_hour_25 : decode cX12_hour 25 = .ok (.iadd, 1) := by decide +kernel
theorem dX12_hour_26 : decode cX12_hour 26 = .ok (.sipush 9999, 3) := by decide +kernel
theorem dX12_hour_29 : decode cX12_hour 29 = .ok (.if_icmp .le 11, 3) := by decide +kernel
theorem dX12_hour_32 : decode cX12_hour 32 = .ok (.aload_n 0, 1) := by decide +kernel
theorem dX12_hour_33 : decode cX12_hour 33 = .ok (.iconst 4, 1) := by decide +kernel
theorem dX12_hour_34 : decode cX12_hour 34 = .ok (.invokevirtual 91, 3) := by decide +kernel
theorem dX12_hour_37 : decode cX12_hour 37 = .ok (.goto 12, 3) := by decide +kernel
theorem dX12_hour_40 : decode cX12_hour 40 = .ok (.aload_n 0, 1) := by decide +kernel
theorem dX12_hour_41 : decode cX12_hour 41 = .ok (.aload_n 0, 1) := by decide +kernel
theorem dX12_hour_42 : decode cX12_hour 42 = .ok (.iload_n 1, 1) := by decide +kernel
theorem dX12_hour_43 : decode cX12_hour 43 = .ok (.invokevirtual 320, 3) := by decide +kernel
theorem dX12_hour_46 : decode cX12_hour 46 = .ok (.invokevirtual 95, 3) := by decide +kernel
theorem dX12_hour_49 : decode cX12_hour 49 = .ok (.ireturn, 1) := by decide +kernel
theorem dX12_isFree_0 : decode cX12_isFree 0 = .ok (.aload_n 0, 1) := by decide +kernel
theorem dX12_isFree_1 : decode cX12_isFree 1 = .ok (.iload_n 1, 1) := by decide +kernel
theorem dX12_isFree_2 : decode cX12_isFree 2 = .ok (.iconst 3, 1) := by decide +kernel
theorem dX12_isFree_3 : decode cX12_isFree 3 = .ok (.invokevirtual 263, 3) := by decide +kernel
theorem dX12_isFree_6 : decode cX12_isFree 6 = .ok (.ifCond .eq 13, 3) := by decide +kernel
theorem dX12_isFree_9 : decode cX12_isFree 9 = .ok (.aload_n 0, 1) := by decide +kernel
theorem dX12_isFree_10 : decode cX12_isFree 10 = .ok (.iload_n 1, 1) := by decide +kernel
theorem dX12_isFree_11 : decode cX12_isFree 11 = .ok (.iconst 3, 1) := by decide +kernel
theorem dX12_isFree_12 : decode cX12_isFree 12 = .ok (.invokevirtual 263, 3) := by decide +kernel
theorem dX12_isFree_15 : decode cX12_isFree 15 = .ok (.iconst 3, 1) := by decide +kernel
theorem dX12_isFree_16 : decode cX12_isFree 16 = .ok (.if_icmp .ne 7, 3) := by decide +kernel
theorem dX12_isFree_19 : decode cX12_isFree 19 = .ok (.iconst 1, 1) := by decide +kernel
theorem dX12_isFree_20 : decode cX12_isFree 20 = .ok (.goto 4, 3) := by decide +kernel
theorem dX12_isFree_23 : decode cX12_isFree 23 = .ok (.iconst 0, 1) := by decide +kernel
theorem dX12_isFree_24 : decode cX12_isFree 24 = .ok (.ireturn, 1) := by decide +kernel
theorem dX12_tosses_0 : decode cX12_tosses 0 = .ok (.aload_n 0, 1) := by decide +kernel
theorem dX12_tosses_1 : decode cX12_tosses 1 = .ok (.iload_n 1, 1) := by decide +kernel
theorem dX12_tosses_2 : decode cX12_tosses 2 = .ok (.invokevirtual 323, 3) := by decide +kernel
theorem dX12_tosses_5 : decode cX12_tosses 5 = .ok (.ifCond .ne 5, 3) := by decide +kernel
theorem dX12_tosses_8 : decode cX12_tosses 8 = .ok (.iconst 0, 1) := by decide +kernel
theorem dX12_tosses_9 : decode cX12_tosses 9 = .ok (.ireturn, 1) := by decide +kernel
theorem dX12_tosses_10 : decode cX12_tosses 10 = .ok (.aload_n 0, 1) := by decide +kernel
theorem dX12_tosses_11 : decode cX12_tosses 11 = .ok (.getfield 7, 3) := by decide +kernel
theorem dX12_tosses_14 : decode cX12_tosses 14 = .ok (.iload_n 1, 1) := by decide +kernel
theorem dX12_tosses_15 : decode cX12_tosses 15 = .ok (.invokestatic 203, 3) := by decide +kernel
theorem dX12_tosses_18 : decode cX12_tosses 18 = .ok (.iconst 3, 1) := by decide +kernel
theorem dX12_tosses_19 : decode cX12_tosses 19 = .ok (.iadd, 1) := by decide +kernel
theorem dX12_tosses_20 : decode cX12_tosses 20 = .ok (.iconst 1, 1) := by decide +kernel
theorem dX12_tosses_21 : decode cX12_tosses 21 = .ok (.iastore, 1) := by decide +kernel
theorem dX12_tosses_22 : decode cX12_tosses 22 = .ok (.aload_n 0, 1) := by decide +kernel
theorem dX12_tosses_23 : decode cX12_tosses 23 = .ok (.getfield 7, 3) := by decide +kernel
theorem dX12_tosses_26 : decode cX12_tosses 26 = .ok (.iload_n 1, 1) := by decide +kernel
theorem dX12_tosses_27 : decode cX12_tosses 27 = .ok (.invokestatic 203, 3) := by decide +kernel
theorem dX12_tosses_30 : decode cX12_tosses 30 = .ok (.iconst 4, 1) := by decide +kernel
theorem dX12_tosses_31 : decode cX12_tosses 31 = .ok (.iadd, 1) := by decide +kernel
theorem dX12_tosses_32 : decode cX12_tosses 32 = .ok (.iload_n 2, 1) := by decide +kernel
theorem dX12_tosses_33 : decode cX12_tosses 33 = .ok (.iastore, 1) := by decide +kernel
theorem dX12_tosses_34 : decode cX12_tosses 34 = .ok (.aload_n 0, 1) := by decide +kernel
theorem dX12_tosses_35 : decode cX12_tosses 35 = .ok (.getfield 7, 3) := by decide +kernel
theorem dX12_tosses_38 : decode cX12_tosses 38 = .ok (.iload_n 1, 1) := by decide +kernel
theorem dX12_tosses_39 : decode cX12_tosses 39 = .ok (.invokestatic 203, 3) := by decide +kernel
theorem dX12_tosses_42 : decode cX12_tosses 42 = .ok (.iconst 5, 1) := by decide +kernel
theorem dX12_tosses_43 : decode cX12_tosses 43 = .ok (.iadd, 1) := by decide +kernel
theorem dX12_tosses_44 : decode cX12_tosses 44 = .ok (.iconst 0, 1) := by decide +kernel
theorem dX12_tosses_45 : decode cX12_tosses 45 = .ok (.iastore, 1) := by decide +kernel
theorem dX12_tosses_46 : decode cX12_tosses 46 = .ok (.iconst 1, 1) := by decide +kernel
theorem dX12_tosses_47 : decode cX12_tosses 47 = .ok (.ireturn, 1) := by decide +kernel
theorem dX12_toss_0 : decode cX12_toss 0 = .ok (.aload_n 0, 1) := by decide +kernel
theorem dX12_toss_1 : decode cX12_toss 1 = .ok (.iload_n 1, 1) := by decide +kernel
theorem dX12_toss_2 : decode cX12_toss 2 = .ok (.invokevirtual 284, 3) := by decide +kernel
theorem dX12_toss_5 : decode cX12_toss 5 = .ok (.ifCond .eq 11, 3) := by decide +kernel
theorem dX12_toss_8 : decode cX12_toss 8 = .ok (.aload_n 0, 1) := by decide +kernel
theorem dX12_toss_9 : decode cX12_toss 9 = .ok (.iload_n 2, 1) := by decide +kernel
theorem dX12_toss_10 : decode cX12_toss 10 = .ok (.invokevirtual 326, 3) := by decide +kernel
theorem dX12_toss_13 : decode cX12_toss 13 = .ok (.ifCond .ne 9, 3) := by decide +kernel
theorem dX12_toss_16 : decode cX12_toss 16 = .ok (.aload_n 0, 1) := by decide +kernel
theorem dX12_toss_17 : decode cX12_toss 17 = .ok (.iconst 1, 1) := by decide +kernel
theorem dX12_toss_18 : decode cX12_toss 18 = .ok (.invokevirtual 98, 3) := by decide +kernel
theorem dX12_toss_21 : decode cX12_toss 21 = .ok (.ireturn, 1) := by decide +kernel
theorem dX12_toss_22 : decode cX12_toss 22 = .ok (.aload_n 0, 1) := by decide +kernel
theorem dX12_toss_23 : decode cX12_toss 23 = .ok (.aload_n 0, 1) := by decide +kernel
theorem dX12_toss_24 : decode cX12_toss 24 = .ok (.iload_n 1, 1) := by decide +kernel
theorem dX12_toss_25 : decode cX12_toss 25 = .ok (.iload_n 2, 1) := by decide +kernel
theorem dX12_toss_26 : decode cX12_toss 26 = .ok (.invokevirtual 329, 3) := by decide +kernel
theorem dX12_toss_29 : decode cX12_toss 29 = .ok (.ifCond .eq 7, 3) := by decide +kernel
theorem dX12_toss_32 : decode cX12_toss 32 = .ok (.iconst 0, 1) := by decide +kernel
theorem dX12_toss_33 : decode cX12_toss 33 = .ok (.goto 5, 3) := by decide +kernel
theorem dX12_toss_36 : decode cX12_toss 36 = .ok (.bipush 7, 2) := by decide +kernel
theorem dX12_toss_38 : decode cX12_toss 38 = .ok (.invokevirtual 98, 3) := by decide +kernel
theorem dX12_toss_41 : decode cX12_toss 41 = .ok (.ireturn, 1) := by decide +kernel
theorem dX12_fetches_0 : decode cX12_fetches 0 = .ok (.aload_n 0, 1) := by decide +kernel
theorem dX12_fetches_1 : decode cX12_fetches 1 = .ok (.iload_n 1, 1) := by decide +kernel
theorem dX12_fetches_2 : decode cX12_fetches 2 = .ok (.iconst 3, 1) := by decide +kernel
theorem dX12_fetches_3 : decode cX12_fetches 3 = .ok (.invokevirtual 263, 3) := by decide +kernel
theorem dX12_fetches_6 : decode cX12_fetches 6 = .ok (.iconst 1, 1) := by decide +kernel
theorem dX12_fetches_7 : decode cX12_fetches 7 = .ok (.if_icmp .eq 5, 3) := by decide +kernel
theorem dX12_fetches_10 : decode cX12_fetches 10 = .ok (.iconst 0, 1) := by decide +kernel
theorem dX12_fetches_11 : decode cX12_fetches 11 = .ok (.ireturn, 1) := by decide +kernel
theorem dX12_fetches_12 : decode cX12_fetches 12 = .ok (.aload_n 0, 1) := by decide +kernel
theorem dX12_fetches_13 : decode cX12_fetches 13 = .ok (.getfield 7, 3) := by decide +kernel
theorem dX12_fetches_16 : decode cX12_fetches 16 = .ok (.iload_n 1, 1) := by decide +kernel
theorem dX12_fetches_17 : decode cX12_fetches 17 = .ok (.invokestatic 203, 3) := by decide +kernel
theorem dX12_fetches_20 : decode cX12_fetches 20 = .ok (.iconst 3, 1) := by decide +kernel
theorem dX12_fetches_21 : decode cX12_fetches 21 = .ok (.iadd, 1) := by decide +kernel
theorem dX12_fetches_22 : decode cX12_fetches 22 = .ok (.iconst 0, 1) := by decide +kernel
theorem dX12_fetches_23 : decode cX12_fetches 23 = .ok (.iastore, 1) := by decide +kernel
theorem dX12_fetches_24 : decode cX12_fetches 24 = .ok (.aload_n 0, 1) := by decide +kernel
theorem dX12_fetches_25 : decode cX12_fetches 25 = .ok (.getfield 7, 3) := by decide +kernel
theorem dX12_fetches_28 : decode cX12_fetches 28 = .ok (.iload_n 1, 1) := by decide +kernel
theorem dX12_fetches_29 : decode cX12_fetches 29 = .ok (.invokestatic 203, 3) := by decide +kernel
theorem dX12_fetches_32 : decode cX12_fetches 32 = .ok (.iconst 5, 1) := by decide +kernel
theorem dX12_fetches_33 : decode cX12_fetches 33 = .ok (.iadd, 1) := by decide +kernel
theorem dX12_fetches_34 : decode cX12_fetches 34 = .ok (.iconst 0, 1) := by decide +kernel
theorem dX12_fetches_35 : decode cX12_fetches 35 = .ok (.iastore, 1) := by decide +kernel
theorem dX12_fetches_36 : decode cX12_fetches 36 = .ok (.iconst 1, 1) := by decide +kernel
theorem dX12_fetches_37 : decode cX12_fetches 37 = .ok (.ireturn, 1) := by decide +kernel
theorem dX12_fetch_0 : decode cX12_fetch 0 = .ok (.aload_n 0, 1) := by decide +kernel
theorem dX12_fetch_1 : decode cX12_fetch 1 = .ok (.iload_n 1, 1) := by decide +kernel
theorem dX12_fetch_2 : decode cX12_fetch 2 = .ok (.invokevirtual 284, 3) := by decide +kernel
theorem dX12_fetch_5 : decode cX12_fetch 5 = .ok (.ifCond .ne 9, 3) := by decide +kernel
theorem dX12_fetch_8 : decode cX12_fetch 8 = .ok (.aload_n 0, 1) := by decide +kernel
theorem dX12_fetch_9 : decode cX12_fetch 9 = .ok (.iconst 1, 1) := by decide +kernel
theorem dX12_fetch_10 : decode cX12_fetch 10 = .ok (.invokevirtual 91, 3) := by decide +kernel
theorem dX12_fetch_13 : decode cX12_fetch 13 = .ok (.ireturn, 1) := by decide +kernel
theorem dX12_fetch_14 : decode cX12_fetch 14 = .ok (.aload_n 0, 1) := by decide +kernel
theorem dX12_fetch_15 : decode cX12_fetch 15 = .ok (.iload_n 1, 1) := by decide +kernel
theorem dX12_fetch_16 : decode cX12_fetch 16 = .ok (.invokevirtual 332, 3) := by decide +kernel
theorem dX12_fetch_19 : decode cX12_fetch 19 = .ok (.ifCond .eq 16, 3) := by decide +kernel
theorem dX12_fetch_22 : decode cX12_fetch 22 = .ok (.aload_n 0, 1) := by decide +kernel
theorem dX12_fetch_23 : decode cX12_fetch 23 = .ok (.aload_n 0, 1) := by decide +kernel
theorem dX12_fetch_24 : decode cX12_fetch 24 = .ok (.iload_n 1, 1) := by decide +kernel
theorem dX12_fetch_25 : decode cX12_fetch 25 = .ok (.iconst 4, 1) := by decide +kernel
theorem dX12_fetch_26 : decode cX12_fetch 26 = .ok (.invokevirtual 263, 3) := by decide +kernel
theorem dX12_fetch_29 : decode cX12_fetch 29 = .ok (.invokevirtual 95, 3) := by decide +kernel
theorem dX12_fetch_32 : decode cX12_fetch 32 = .ok (.goto 9, 3) := by decide +kernel
theorem dX12_fetch_35 : decode cX12_fetch 35 = .ok (.aload_n 0, 1) := by decide +kernel
theorem dX12_fetch_36 : decode cX12_fetch 36 = .ok (.bipush 7, 2) := by decide +kernel
theorem dX12_fetch_38 : decode cX12_fetch 38 = .ok (.invokevirtual 91, 3) := by decide +kernel
theorem dX12_fetch_41 : decode cX12_fetch 41 = .ok (.ireturn, 1) := by decide +kernel
theorem dX12_grip_0 : decode cX12_grip 0 = .ok (.aload_n 0, 1) := by decide +kernel
theorem dX12_grip_1 : decode cX12_grip 1 = .ok (.iload_n 1, 1) := by decide +kernel
theorem dX12_grip_2 : decode cX12_grip 2 = .ok (.invokevirtual 284, 3) := by decide +kernel
theorem dX12_grip_5 : decode cX12_grip 5 = .ok (.ifCond .eq 15, 3) := by decide +kernel
theorem dX12_grip_8 : decode cX12_grip 8 = .ok (.iload_n 2, 1) := by decide +kernel
theorem dX12_grip_9 : decode cX12_grip 9 = .ok (.i2l, 1) := by decide +kernel
theorem dX12_grip_10 : decode cX12_grip 10 = .ok (.lconst 1, 1) := by decide +kernel
theorem dX12_grip_11 : decode cX12_grip 11 = .ok (.ldc2_w 335, 3) := by decide +kernel
theorem dX12_grip_14 : decode cX12_grip 14 = .ok (.invokestatic 316, 3) := by decide +kernel
theorem dX12_grip_17 : decode cX12_grip 17 = .ok (.ifCond .ne 9, 3) := by decide +kernel
theorem dX12_grip_20 : decode cX12_grip 20 = .ok (.aload_n 0, 1) := by decide +kernel
theorem dX12_grip_21 : decode cX12_grip 21 = .ok (.iconst 1, 1) := by decide +kernel
theorem dX12_grip_22 : decode cX12_grip 22 = .ok (.invokevirtual 98, 3) := by decide +kernel
theorem dX12_grip_25 : decode cX12_grip 25 = .ok (.ireturn, 1) := by decide +kernel
theorem dX12_grip_26 : decode cX12_grip 26 = .ok (.aload_n 0, 1) := by decide +kernel
theorem dX12_grip_27 : decode cX12_grip 27 = .ok (.getfield 7, 3) := by decide +kernel
theorem dX12_grip_30 : decode cX12_grip 30 = .ok (.iload_n 1, 1) := by decide +kernel
theorem dX12_grip_31 : decode cX12_grip 31 = .ok (.invokestatic 203, 3) := by decide +kernel
theorem dX12_grip_34 : decode cX12_grip 34 = .ok (.iconst 1, 1) := by decide +kernel
theorem dX12_grip_35 : decode cX12_grip 35 = .ok (.iadd, 1) := by decide +kernel
theorem dX12_grip_36 : decode cX12_grip 36 = .ok (.iload_n 2, 1) := by decide +kernel
theorem dX12_grip_37 : decode cX12_grip 37 = .ok (.iastore, 1) := by decide +kernel
theorem dX12_grip_38 : decode cX12_grip 38 = .ok (.aload_n 0, 1) := by decide +kernel
theorem dX12_grip_39 : decode cX12_grip 39 = .ok (.iconst 0, 1) := by decide +kernel
theorem dX12_grip_40 : decode cX12_grip 40 = .ok (.invokevirtual 98, 3) := by decide +kernel
theorem dX12_grip_43 : decode cX12_grip 43 = .ok (.ireturn, 1) := by decide +kernel
theorem dX12_mind_0 : decode cX12_mind 0 = .ok (.aload_n 0, 1) := by decide +kernel
theorem dX12_mind_1 : decode cX12_mind 1 = .ok (.iload_n 1, 1) := by decide +kernel
theorem dX12_mind_2 : decode cX12_mind 2 = .ok (.invokevirtual 284, 3) := by decide +kernel
theorem dX12_mind_5 : decode cX12_mind 5 = .ok (.ifCond .eq 15, 3) := by decide +kernel
theorem dX12_mind_8 : decode cX12_mind 8 = .ok (.iload_n 2, 1) := by decide +kernel
theorem dX12_mind_9 : decode cX12_mind 9 = .ok (.i2l, 1) := by decide +kernel
theorem dX12_mind_10 : decode cX12_mind 10 = .ok (.lconst 1, 1) := by decide +kernel
theorem dX12_mind_11 : decode cX12_mind 11 = .ok (.ldc2_w 335, 3) := by decide +kernel
theorem dX12_mind_14 : decode cX12_mind 14 = .ok (.invokestatic 316, 3) := by decide +kernel
theorem dX12_mind_17 : decode cX12_mind 17 = .ok (.ifCond .ne 9, 3) := by decide +kernel
theorem dX12_mind_20 : decode cX12_mind 20 = .ok (.aload_n 0, 1) := by decide +kernel
theorem dX12_mind_21 : decode cX12_mind 21 = .ok (.iconst 1, 1) := by decide +kernel
theorem dX12_mind_22 : decode cX12_mind 22 = .ok (.invokevirtual 98, 3) := by decide +kernel
theorem dX12_mind_25 : decode cX12_mind 25 = .ok (.ireturn, 1) := by decide +kernel
theorem dX12_mind_26 : decode cX12_mind 26 = .ok (.aload_n 0, 1) := by decide +kernel
theorem dX12_mind_27 : decode cX12_mind 27 = .ok (.getfield 7, 3) := by decide +kernel
theorem dX12_mind_30 : decode cX12_mind 30 = .ok (.iload_n 1, 1) := by decide +kernel
theorem dX12_mind_31 : decode cX12_mind 31 = .ok (.invokestatic 203, 3) := by decide +kernel
theorem dX12_mind_34 : decode cX12_mind 34 = .ok (.iconst 2, 1) := by decide +kernel
theorem dX12_mind_35 : decode cX12_mind 35 = .ok (.iadd, 1) := by decide +kernel
theorem dX12_mind_36 : decode cX12_mind 36 = .ok (.iload_n 2, 1) := by decide +kernel
theorem dX12_mind_37 : decode cX12_mind 37 = .ok (.iastore, 1) := by decide +kernel
theorem dX12_mind_38 : decode cX12_mind 38 = .ok (.aload_n 0, 1) := by decide +kernel
theorem dX12_mind_39 : decode cX12_mind 39 = .ok (.iconst 0, 1) := by decide +kernel
theorem dX12_mind_40 : decode cX12_mind 40 = .ok (.invokevirtual 98, 3) := by decide +kernel
theorem dX12_mind_43 : decode cX12_mind 43 = .ok (.ireturn, 1) := by decide +kernel
theorem dX12_make_0 : decode cX12_make 0 = .ok (.iload_n 1, 1) := by decide +kernel
theorem dX12_make_1 : decode cX12_make 1 = .ok (.i2l, 1) := by decide +kernel
theorem dX12_make_2 : decode cX12_make 2 = .ok (.lconst 0, 1) := by decide +kernel
theorem dX12_make_3 : decode cX12_make 3 = .ok (.ldc2_w 337, 3) := by decide +kernel
theorem dX12_make_6 : decode cX12_make 6 = .ok (.invokestatic 316, 3) := by decide +kernel
theorem dX12_make_9 : decode cX12_make 9 = .ok (.ifCond .eq 27, 3) := by decide +kernel
theorem dX12_make_12 : decode cX12_make 12 = .ok (.iload_n 2, 1) := by decide +kernel
theorem dX12_make_13 : decode cX12_make 13 = .ok (.i2l, 1) := by decide +kernel
theorem dX12_make_14 : decode cX12_make 14 = .ok (.lconst 1, 1) := by decide +kernel
theorem dX12_make_15 : decode cX12_make 15 = .ok (.ldc2_w 335, 3) := by decide +kernel
theorem dX12_make_18 : decode cX12_make 18 = .ok (.invokestatic 316, 3) := by decide +kernel
theorem dX12_make_21 : decode cX12_make 21 = .ok (.ifCond .eq 15, 3) := by decide +kernel
theorem dX12_make_24 : decode cX12_make 24 = .ok (.iload_n 3, 1) := by decide +kernel
theorem dX12_make_25 : decode cX12_make 25 = .ok (.i2l, 1) := by decide +kernel
theorem dX12_make_26 : decode cX12_make 26 = .ok (.lconst 1, 1) := by decide +kernel
theorem dX12_make_27 : decode cX12_make 27 = .ok (.ldc2_w 335, 3) := by decide +kernel
theorem dX12_make_30 : decode cX12_make 30 = .ok (.invokestatic 316, 3) := by decide +kernel
theorem dX12_make_33 : decode cX12_make 33 = .ok (.ifCond .ne 9, 3) := by decide +kernel
theorem dX12_make_36 : decode cX12_make 36 = .ok (.aload_n 0, 1) := by decide +kernel
theorem dX12_make_37 : decode cX12_make 37 = .ok (.iconst 1, 1) := by decide +kernel
theorem dX12_make_38 : decode cX12_make 38 = .ok (.invokevirtual 91, 3) := by decide +kernel
theorem dX12_make_41 : decode cX12_make 41 = .ok (.ireturn, 1) := by decide +kernel
theorem dX12_make_42 : decode cX12_make 42 = .ok (.aload_n 0, 1) := by decide +kernel
theorem dX12_make_43 : decode cX12_make 43 = .ok (.getfield 7, 3) := by decide +kernel
theorem dX12_make_46 : decode cX12_make 46 = .ok (.iconst 0, 1) := by decide +kernel
theorem dX12_make_47 : decode cX12_make 47 = .ok (.iaload, 1) := by decide +kernel
theorem dX12_make_48 : decode cX12_make 48 = .ok (.istore 4, 2) := by decide +kernel
theorem dX12_make_50 : decode cX12_make 50 = .ok (.iload 4, 2) := by decide +kernel
theorem dX12_make_52 : decode cX12_make 52 = .ok (.bipush 8, 2) := by decide +kernel
theorem dX12_make_54 : decode cX12_make 54 = .ok (.if_icmp .ne 9, 3) := by decide +kernel
theorem dX12_make_57 : decode cX12_make 57 = .ok (.aload_n 0, 1) := by decide +kernel
theorem dX12_make_58 : decode cX12_make 58 = .ok (.iconst 4, 1) := by decide +kernel
theorem dX12_make_59 : decode cX12_make 59 = .ok (.invokevirtual 91, 3) := by decide +kernel
theorem dX12_make_62 : decode cX12_make 62 = .ok (.ireturn, 1) := by decide +kernel
theorem dX12_make_63 : decode cX12_make 63 = .ok (.aload_n 0, 1) := by decide +kernel
theorem dX12_make_64 : decode cX12_make 64 = .ok (.getfield 7, 3) := by decide +kernel
theorem dX12_make_67 : decode cX12_make 67 = .ok (.iconst 0, 1) := by decide +kernel
theorem dX12_make_68 : decode cX12_make 68 = .ok (.dup2, 1) := by decide +kernel
theorem dX12_make_69 : decode cX12_make 69 = .ok (.iaload, 1) := by decide +kernel
theorem dX12_make_70 : decode cX12_make 70 = .ok (.iconst 1, 1) := by decide +kernel
theorem dX12_make_71 : decode cX12_make 71 = .ok (.iadd, 1) := by decide +kernel
theorem dX12_make_72 : decode cX12_make 72 = .ok (.iastore, 1) := by decide +kernel
theorem dX12_make_73 : decode cX12_make 73 = .ok (.iconst 0, 1) := by decide +kernel
theorem dX12_make_74 : decode cX12_make 74 = .ok (.istore 5, 2) := by decide +kernel
theorem dX12_make_76 : decode cX12_make 76 = .ok (.iload 5, 2) := by decide +kernel
theorem dX12_make_78 : decode cX12_make 78 = .ok (.bipush 7, 2) := by decide +kernel
theorem dX12_make_80 : decode cX12_make 80 = .ok (.if_icmp .ge 23, 3) := by decide +kernel
theorem dX12_make_83 : decode cX12_make 83 = .ok (.aload_n 0, 1) := by decide +kernel
theorem dX12_make_84 : decode cX12_make 84 = .ok (.getfield 7, 3) := by decide +kernel
theorem dX12_make_87 : decode cX12_make 87 = .ok (.iload 4, 2) := by decide +kernel
theorem dX12_make_89 : decode cX12_make 89 = .ok (.invokestatic 203, 3) := by decide +kernel
theorem dX12_make_92 : decode cX12_make 92 = .ok (.iload 5, 2) := by decide +kernel
theorem dX12_make_94 : decode cX12_make 94 = .ok (.iadd, 1) := by decide +kernel
theorem dX12_make_95 : decode cX12_make 95 = .ok (.iconst 0, 1) := by decide +kernel
theorem dX12_make_96 : decode cX12_make 96 = .ok (.iastore, 1) := by decide +kernel
theorem dX12_make_97 : decode cX12_make 97 = .ok (.iinc 5 1, 3) := by decide +kernel
theorem dX12_make_100 : decode cX12_make 100 = .ok (.goto (-24), 3) := by decide +kernel
theorem dX12_make_103 : decode cX12_make 103 = .ok (.aload_n 0, 1) := by decide +kernel
theorem dX12_make_104 : decode cX12_make 104 = .ok (.getfield 7, 3) := by decide +kernel
theorem dX12_make_107 : decode cX12_make 107 = .ok (.iload 4, 2) := by decide +kernel
theorem dX12_make_109 : decode cX12_make 109 = .ok (.invokestatic 203, 3) := by decide +kernel
theorem dX12_make_112 : decode cX12_make 112 = .ok (.iload_n 1, 1) := by decide +kernel
theorem dX12_make_113 : decode cX12_make 113 = .ok (.iastore, 1) := by decide +kernel
theorem dX12_make_114 : decode cX12_make 114 = .ok (.aload_n 0, 1) := by decide +kernel
theorem dX12_make_115 : decode cX12_make 115 = .ok (.getfield 7, 3) := by decide +kernel
theorem dX12_make_118 : decode cX12_make 118 = .ok (.iload 4, 2) := by decide +kernel
theorem dX12_make_120 : decode cX12_make 120 = .ok (.invokestatic 203, 3) := by decide +kernel
theorem dX12_make_123 : decode cX12_make 123 = .ok (.iconst 1, 1) := by decide +kernel
theorem dX12_make_124 : decode cX12_make 124 = .ok (.iadd, 1) := by decide +kernel
theorem dX12_make_125 : decode cX12_make 125 = .ok (.iload_n 2, 1) := by decide +kernel
theorem dX12_make_126 : decode cX12_make 126 = .ok (.iastore, 1) := by decide +kernel
theorem dX12_make_127 : decode cX12_make 127 = .ok (.aload_n 0, 1) := by decide +kernel
theorem dX12_make_128 : decode cX12_make 128 = .ok (.getfield 7, 3) := by decide +kernel
theorem dX12_make_131 : decode cX12_make 131 = .ok (.iload 4, 2) := by decide +kernel
theorem dX12_make_133 : decode cX12_make 133 = .ok (.invokestatic 203, 3) := by decide +kernel
theorem dX12_make_136 : decode cX12_make 136 = .ok (.iconst 2, 1) := by decide +kernel
theorem dX12_make_137 : decode cX12_make 137 = .ok (.iadd, 1) := by decide +kernel
theorem dX12_make_138 : decode cX12_make 138 = .ok (.iload_n 3, 1) := by decide +kernel
theorem dX12_make_139 : decode cX12_make 139 = .ok (.iastore, 1) := by decide +kernel
theorem dX12_make_140 : decode cX12_make 140 = .ok (.aload_n 0, 1) := by decide +kernel
theorem dX12_make_141 : decode cX12_make 141 = .ok (.getfield 13, 3) := by decide +kernel
theorem dX12_make_144 : decode cX12_make 144 = .ok (.iload 4, 2) := by decide +kernel
theorem dX12_make_146 : decode cX12_make 146 = .ok (.lconst 0, 1) := by decide +kernel
theorem dX12_make_147 : decode cX12_make 147 = .ok (.lastore, 1) := by decide +kernel
theorem dX12_make_148 : decode cX12_make 148 = .ok (.aload_n 0, 1) := by decide +kernel
theorem dX12_make_149 : decode cX12_make 149 = .ok (.iload 4, 2) := by decide +kernel
theorem dX12_make_151 : decode cX12_make 151 = .ok (.invokevirtual 95, 3) := by decide +kernel
theorem dX12_make_154 : decode cX12_make 154 = .ok (.ireturn, 1) := by decide +kernel
theorem dX12_build_0 : decode cX12_build 0 = .ok (.aload_n 0, 1) := by decide +kernel
theorem dX12_build_1 : decode cX12_build 1 = .ok (.iload_n 1, 1) := by decide +kernel
theorem dX12_build_2 : decode cX12_build 2 = .ok (.invokevirtual 326, 3) := by decide +kernel
theorem dX12_build_5 : decode cX12_build 5 = .ok (.ifCond .eq 15, 3) := by decide +kernel
theorem dX12_build_8 : decode cX12_build 8 = .ok (.iload_n 2, 1) := by decide +kernel
theorem dX12_build_9 : decode cX12_build 9 = .ok (.i2l, 1) := by decide +kernel
theorem dX12_build_10 : decode cX12_build 10 = .ok (.lconst 0, 1) := by decide +kernel
theorem dX12_build_11 : decode cX12_build 11 = .ok (.ldc2_w 339, 3) := by decide +kernel
theorem dX12_build_14 : decode cX12_build 14 = .ok (.invokestatic 316, 3) := by decide +kernel
theorem dX12_build_17 : decode cX12_build 17 = .ok (.ifCond .ne 9, 3) := by decide +kernel
theorem dX12_build_20 : decode cX12_build 20 = .ok (.aload_n 0, 1) := by decide +kernel
theorem dX12_build_21 : decode cX12_build 21 = .ok (.iconst 1, 1) := by decide +kernel
theorem dX12_build_22 : decode cX12_build 22 = .ok (.invokevirtual 91, 3) := by decide +kernel
theorem dX12_build_25 : decode cX12_build 25 = .ok (.ireturn, 1) := by decide +kernel
theorem dX12_build_26 : decode cX12_build 26 = .ok (.aload_n 0, 1) := by decide +kernel
theorem dX12_build_27 : decode cX12_build 27 = .ok (.getfield 7, 3) := by decide +kernel
theorem dX12_build_30 : decode cX12_build 30 = .ok (.iconst 1, 1) := by decide +kernel
theorem dX12_build_31 : decode cX12_build 31 = .ok (.iaload, 1) := by decide +kernel
theorem dX12_build_32 : decode cX12_build 32 = .ok (.istore_n 3, 1) := by decide +kernel
theorem dX12_build_33 : decode cX12_build 33 = .ok (.iload_n 3, 1) := by decide +kernel
theorem dX12_build_34 : decode cX12_build 34 = .ok (.iconst 4, 1) := by decide +kernel
theorem dX12_build_35 : decode cX12_build 35 = .ok (.if_icmp .ne 9, 3) := by decide +kernel
theorem dX12_build_38 : decode cX12_build 38 = .ok (.aload_n 0, 1) := by decide +kernel
theorem dX12_build_39 : decode cX12_build 39 = .ok (.iconst 4, 1) := by decide +kernel
theorem dX12_build_40 : decode cX12_build 40 = .ok (.invokevirtual 91, 3) := by decide +kernel
theorem dX12_build_43 : decode cX12_build 43 = .ok (.ireturn, 1) := by decide +kernel
theorem dX12_build_44 : decode cX12_build 44 = .ok (.aload_n 0, 1) := by decide +kernel
theorem dX12_build_45 : decode cX12_build 45 = .ok (.getfield 7, 3) := by decide +kernel
theorem dX12_build_48 : decode cX12_build 48 = .ok (.iconst 1, 1) := by decide +kernel
theorem dX12_build_49 : decode cX12_build 49 = .ok (.dup2, 1) := by decide +kernel
theorem dX12_build_50 : decode cX12_build 50 = .ok (.iaload, 1) := by decide +kernel
theorem dX12_build_51 : decode cX12_build 51 = .ok (.iconst 1, 1) := by decide +kernel
theorem dX12_build_52 : decode cX12_build 52 = .ok (.iadd, 1) := by decide +kernel
theorem dX12_build_53 : decode cX12_build 53 = .ok (.iastore, 1) := by decide +kernel
theorem dX12_build_54 : decode cX12_build 54 = .ok (.aload_n 0, 1) := by decide +kernel
theorem dX12_build_55 : decode cX12_build 55 = .ok (.getfield 7, 3) := by decide +kernel
theorem dX12_build_58 : decode cX12_build 58 = .ok (.iload_n 3, 1) := by decide +kernel
theorem dX12_build_59 : decode cX12_build 59 = .ok (.invokestatic 213, 3) := by decide +kernel
theorem dX12_build_62 : decode cX12_build 62 = .ok (.iload_n 1, 1) := by decide +kernel
theorem dX12_build_63 : decode cX12_build 63 = .ok (.iastore, 1) := by decide +kernel
theorem dX12_build_64 : decode cX12_build 64 = .ok (.aload_n 0, 1) := by decide +kernel
theorem dX12_build_65 : decode cX12_build 65 = .ok (.getfield 7, 3) := by decide +kernel
theorem dX12_build_68 : decode cX12_build 68 = .ok (.iload_n 3, 1) := by decide +kernel
theorem dX12_build_69 : decode cX12_build 69 = .ok (.invokestatic 213, 3) := by decide +kernel
theorem dX12_build_72 : decode cX12_build 72 = .ok (.iconst 1, 1) := by decide +kernel
theorem dX12_build_73 : decode cX12_build 73 = .ok (.iadd, 1) := by decide +kernel
theorem dX12_build_74 : decode cX12_build 74 = .ok (.iload_n 2, 1) := by decide +kernel
theorem dX12_build_75 : decode cX12_build 75 = .ok (.iastore, 1) := by decide +kernel
theorem dX12_build_76 : decode cX12_build 76 = .ok (.aload_n 0, 1) := by decide +kernel
theorem dX12_build_77 : decode cX12_build 77 = .ok (.getfield 7, 3) := by decide +kernel
theorem dX12_build_80 : decode cX12_build 80 = .ok (.iload_n 3, 1) := by decide +kernel
theorem dX12_build_81 : decode cX12_build 81 = .ok (.invokestatic 213, 3) := by decide +kernel
theorem dX12_build_84 : decode cX12_build 84 = .ok (.iconst 2, 1) := by decide +kernel
theorem dX12_build_85 : decode cX12_build 85 = .ok (.iadd, 1) := by decide +kernel
theorem dX12_build_86 : decode cX12_build 86 = .ok (.iconst 0, 1) := by decide +kernel
theorem dX12_build_87 : decode cX12_build 87 = .ok (.iastore, 1) := by decide +kernel
theorem dX12_build_88 : decode cX12_build 88 = .ok (.aload_n 0, 1) := by decide +kernel
theorem dX12_build_89 : decode cX12_build 89 = .ok (.getfield 13, 3) := by decide +kernel
theorem dX12_build_92 : decode cX12_build 92 = .ok (.bipush 8, 2) := by decide +kernel
theorem dX12_build_94 : decode cX12_build 94 = .ok (.iload_n 3, 1) := by decide +kernel
theorem dX12_build_95 : decode cX12_build 95 = .ok (.iadd, 1) := by decide +kernel
theorem dX12_build_96 : decode cX12_build 96 = .ok (.lconst 0, 1) := by decide +kernel
theorem dX12_build_97 : decode cX12_build 97 = .ok (.lastore, 1) := by decide +kernel
theorem dX12_build_98 : decode cX12_build 98 = .ok (.aload_n 0, 1) := by decide +kernel
theorem dX12_build_99 : decode cX12_build 99 = .ok (.iload_n 3, 1) := by decide +kernel
theorem dX12_build_100 : decode cX12_build 100 = .ok (.invokevirtual 95, 3) := by decide +kernel
theorem dX12_build_103 : decode cX12_build 103 = .ok (.ireturn, 1) := by decide +kernel
theorem dX12_rule_0 : decode cX12_rule 0 = .ok (.iload_n 1, 1) := by decide +kernel
theorem dX12_rule_1 : decode cX12_rule 1 = .ok (.iconst 3, 1) := by decide +kernel
theorem dX12_rule_2 : decode cX12_rule 2 = .ok (.if_icmp .lt 40, 3) := by decide +kernel
theorem dX12_rule_5 : decode cX12_rule 5 = .ok (.iload_n 1, 1) := by decide +kernel
theorem dX12_rule_6 : decode cX12_rule 6 = .ok (.iconst 4, 1) := by decide +kernel
theorem dX12_rule_7 : decode cX12_rule 7 = .ok (.if_icmp .gt 35, 3) := by decide +kernel
theorem dX12_rule_10 : decode cX12_rule 10 = .ok (.iload_n 2, 1) := by decide +kernel
theorem dX12_rule_11 : decode cX12_rule 11 = .ok (.i2l, 1) := by decide +kernel
theorem dX12_rule_12 : decode cX12_rule 12 = .ok (.iload_n 1, 1) := by decide +kernel
theorem dX12_rule_13 : decode cX12_rule 13 = .ok (.iconst 3, 1) := by decide +kernel
theorem dX12_rule_14 : decode cX12_rule 14 = .ok (.if_icmp .ne 7, 3) := by decide +kernel
theorem dX12_rule_17 : decode cX12_rule 17 = .ok (.lconst 1, 1) := by decide +kernel
theorem dX12_rule_18 : decode cX12_rule 18 = .ok (.goto 4, 3) := by decide +kernel
theorem dX12_rule_21 : decode cX12_rule 21 = .ok (.lconst 0, 1) := by decide +kernel
theorem dX12_rule_22 : decode cX12_rule 22 = .ok (.iload_n 1, 1) := by decide +kernel
theorem dX12_rule_23 : decode cX12_rule 23 = .ok (.iconst 3, 1) := by decide +kernel
theorem dX12_rule_24 : decode cX12_rule 24 = .ok (.if_icmp .ne 9, 3) := by decide +kernel
theorem dX12_rule_27 : decode cX12_rule 27 = .ok (.ldc2_w 341, 3) := by decide +kernel
theorem dX12_rule_30 : decode cX12_rule 30 = .ok (.goto 6, 3) := by decide +kernel
theorem dX12_rule_33 : decode cX12_rule 33 = .ok (.ldc2_w 343, 3) := by decide +kernel
theorem dX12_rule_36 : decode cX12_rule 36 = .ok (.invokestatic 316, 3) := by decide +kernel
theorem dX12_rule_39 : decode cX12_rule 39 = .ok (.ifCond .ne 9, 3) := by decide +kernel
theorem dX12_rule_42 : decode cX12_rule 42 = .ok (.aload_n 0, 1) := by decide +kernel
theorem dX12_rule_43 : decode cX12_rule 43 = .ok (.iconst 1, 1) := by decide +kernel
theorem dX12_rule_44 : decode cX12_rule 44 = .ok (.invokevirtual 98, 3) := by decide +kernel
theorem dX12_rule_47 : decode cX12_rule 47 = .ok (.ireturn, 1) := by decide +kernel
theorem dX12_rule_48 : decode cX12_rule 48 = .ok (.aload_n 0, 1) := by decide +kernel
theorem dX12_rule_49 : decode cX12_rule 49 = .ok (.getfield 7, 3) := by decide +kernel
theorem dX12_rule_52 : decode cX12_rule 52 = .ok (.iload_n 1, 1) := by decide +kernel
theorem dX12_rule_53 : decode cX12_rule 53 = .ok (.iload_n 2, 1) := by decide +kernel
theorem dX12_rule_54 : decode cX12_rule 54 = .ok (.iastore, 1) := by decide +kernel
theorem dX12_rule_55 : decode cX12_rule 55 = .ok (.aload_n 0, 1) := by decide +kernel
theorem dX12_rule_56 : decode cX12_rule 56 = .ok (.iconst 0, 1) := by decide +kernel
theorem dX12_rule_57 : decode cX12_rule 57 = .ok (.invokevirtual 98, 3) := by decide +kernel
theorem dX12_rule_60 : decode cX12_rule 60 = .ok (.ireturn, 1) := by decide +kernel
theorem dX12_levelAt_0 : decode cX12_levelAt 0 = .ok (.sipush 2688, 3) := by decide +kernel
theorem dX12_levelAt_3 : decode cX12_levelAt 3 = .ok (.bipush 80, 2) := by decide +kernel
theorem dX12_levelAt_5 : decode cX12_levelAt 5 = .ok (.iload_n 0, 1) := by decide +kernel
theorem dX12_levelAt_6 : decode cX12_levelAt 6 = .ok (.imul, 1) := by decide +kernel
theorem dX12_levelAt_7 : decode cX12_levelAt 7 = .ok (.iadd, 1) := by decide +kernel
theorem dX12_levelAt_8 : decode cX12_levelAt 8 = .ok (.ireturn, 1) := by decide +kernel
theorem dX12_keeps_0 : decode cX12_keeps 0 = .ok (.iconst 0, 1) := by decide +kernel
theorem dX12_keeps_1 : decode cX12_keeps 1 = .ok (.istore_n 2, 1) := by decide +kernel
theorem dX12_keeps_2 : decode cX12_keeps 2 = .ok (.iload_n 2, 1) := by decide +kernel
theorem dX12_keeps_3 : decode cX12_keeps 3 = .ok (.bipush 80, 2) := by decide +kernel
theorem dX12_keeps_5 : decode cX12_keeps 5 = .ok (.if_icmp .ge 23, 3) := by decide +kernel
theorem dX12_keeps_8 : decode cX12_keeps 8 = .ok (.aload_n 0, 1) := by decide +kernel
theorem dX12_keeps_9 : decode cX12_keeps 9 = .ok (.getfield 7, 3) := by decide +kernel
theorem dX12_keeps_12 : decode cX12_keeps 12 = .ok (.iload_n 1, 1) := by decide +kernel
theorem dX12_keeps_13 : decode cX12_keeps 13 = .ok (.iload_n 2, 1) := by decide +kernel
theorem dX12_keeps_14 : decode cX12_keeps 14 = .ok (.iadd, 1) := by decide +kernel
theorem dX12_keeps_15 : decode cX12_keeps 15 = .ok (.aload_n 0, 1) := by decide +kernel
theorem dX12_keeps_16 : decode cX12_keeps 16 = .ok (.getfield 7, 3) := by decide +kernel
theorem dX12_keeps_19 : decode cX12_keeps 19 = .ok (.iload_n 2, 1) := by decide +kernel
theorem dX12_keeps_20 : decode cX12_keeps 20 = .ok (.iaload, 1) := by decide +kernel
theorem dX12_keeps_21 : decode cX12_keeps 21 = .ok (.iastore, 1) := by decide +kernel
theorem dX12_keeps_22 : decode cX12_keeps 22 = .ok (.iinc 2 1, 3) := by decide +kernel
theorem dX12_keeps_25 : decode cX12_keeps 25 = .ok (.goto (-23), 3) := by decide +kernel
theorem dX12_keeps_28 : decode cX12_keeps 28 = .ok (.return_, 1) := by decide +kernel
theorem dX12_restores_0 : decode cX12_restores 0 = .ok (.iconst 0, 1) := by decide +kernel
theorem dX12_restores_1 : decode cX12_restores 1 = .ok (.istore_n 2, 1) := by decide +kernel
theorem dX12_restores_2 : decode cX12_restores 2 = .ok (.iload_n 2, 1) := by decide +kernel
theorem dX12_restores_3 : decode cX12_restores 3 = .ok (.bipush 80, 2) := by decide +kernel
theorem dX12_restores_5 : decode cX12_restores 5 = .ok (.if_icmp .ge 23, 3) := by decide +kernel
theorem dX12_restores_8 : decode cX12_restores 8 = .ok (.aload_n 0, 1) := by decide +kernel
theorem dX12_restores_9 : decode cX12_restores 9 = .ok (.getfield 7, 3) := by decide +kernel
theorem dX12_restores_12 : decode cX12_restores 12 = .ok (.iload_n 2, 1) := by decide +kernel
theorem dX12_restores_13 : decode cX12_restores 13 = .ok (.aload_n 0, 1) := by decide +kernel
theorem dX12_restores_14 : decode cX12_restores 14 = .ok (.getfield 7, 3) := by decide +kernel
theorem dX12_restores_17 : decode cX12_restores 17 = .ok (.iload_n 1, 1) := by decide +kernel
theorem dX12_restores_18 : decode cX12_restores 18 = .ok (.iload_n 2, 1) := by decide +kernel
theorem dX12_restores_19 : decode cX12_restores 19 = .ok (.iadd, 1) := by decide +kernel
theorem dX12_restores_20 : decode cX12_restores 20 = .ok (.iaload, 1) := by decide +kernel
theorem dX12_restores_21 : decode cX12_restores 21 = .ok (.iastore, 1) := by decide +kernel
theorem dX12_restores_22 : decode cX12_restores 22 = .ok (.iinc 2 1, 3) := by decide +kernel
theorem dX12_restores_25 : decode cX12_restores 25 = .ok (.goto (-23), 3) := by decide +kernel
theorem dX12_restores_28 : decode cX12_restores 28 = .ok (.return_, 1) := by decide +kernel
theorem dX12_isSpan_0 : decode cX12_isSpan 0 = .ok (.iload_n 0, 1) := by decide +kernel
theorem dX12_isSpan_1 : decode cX12_isSpan 1 = .ok (.i2l, 1) := by decide +kernel
theorem dX12_isSpan_2 : decode cX12_isSpan 2 = .ok (.lconst 0, 1) := by decide +kernel
theorem dX12_isSpan_3 : decode cX12_isSpan 3 = .ok (.ldc2_w 345, 3) := by decide +kernel
theorem dX12_isSpan_6 : decode cX12_isSpan 6 = .ok (.invokestatic 316, 3) := by decide +kernel
theorem dX12_isSpan_9 : decode cX12_isSpan 9 = .ok (.ireturn, 1) := by decide +kernel
theorem dX12_atIn_0 : decode cX12_atIn 0 = .ok (.iload_n 1, 1) := by decide +kernel
theorem dX12_atIn_1 : decode cX12_atIn 1 = .ok (.invokestatic 347, 3) := by decide +kernel
theorem dX12_atIn_4 : decode cX12_atIn 4 = .ok (.ifCond .ne 9, 3) := by decide +kernel
theorem dX12_atIn_7 : decode cX12_atIn 7 = .ok (.aload_n 0, 1) := by decide +kernel
theorem dX12_atIn_8 : decode cX12_atIn 8 = .ok (.iconst 1, 1) := by decide +kernel
theorem dX12_atIn_9 : decode cX12_atIn 9 = .ok (.invokevirtual 91, 3) := by decide +kernel
theorem dX12_atIn_12 : decode cX12_atIn 12 = .ok (.ireturn, 1) := by decide +kernel
theorem dX12_atIn_13 : decode cX12_atIn 13 = .ok (.aload_n 0, 1) := by decide +kernel
theorem dX12_atIn_14 : decode cX12_atIn 14 = .ok (.sipush 2688, 3) := by decide +kernel
theorem dX12_atIn_17 : decode cX12_atIn 17 = .ok (.invokevirtual 350, 3) := by decide +kernel
theorem dX12_atIn_20 : decode cX12_atIn 20 = .ok (.aload_n 0, 1) := by decide +kernel
theorem dX12_atIn_21 : decode cX12_atIn 21 = .ok (.iload_n 1, 1) := by decide +kernel
theorem dX12_atIn_22 : decode cX12_atIn 22 = .ok (.invokevirtual 320, 3) := by decide +kernel
theorem dX12_atIn_25 : decode cX12_atIn 25 = .ok (.pop, 1) := by decide +kernel
theorem dX12_atIn_26 : decode cX12_atIn 26 = .ok (.aload_n 0, 1) := by decide +kernel
theorem dX12_atIn_27 : decode cX12_atIn 27 = .ok (.getfield 7, 3) := by decide +kernel
theorem dX12_atIn_30 : decode cX12_atIn 30 = .ok (.bipush 6, 2) := by decide +kernel
theorem dX12_atIn_32 : decode cX12_atIn 32 = .ok (.iaload, 1) := by decide +kernel
theorem dX12_atIn_33 : decode cX12_atIn 33 = .ok (.istore_n 2, 1) := by decide +kernel
theorem dX12_atIn_34 : decode cX12_atIn 34 = .ok (.aload_n 0, 1) := by decide +kernel
theorem dX12_atIn_35 : decode cX12_atIn 35 = .ok (.sipush 2688, 3) := by decide +kernel
theorem dX12_atIn_38 : decode cX12_atIn 38 = .ok (.invokevirtual 353, 3) := by decide +kernel
theorem dX12_atIn_41 : decode cX12_atIn 41 = .ok (.aload_n 0, 1) := by decide +kernel
theorem dX12_atIn_42 : decode cX12_atIn 42 = .ok (.iload_n 2, 1) := by decide +kernel
theorem dX12_atIn_43 : decode cX12_atIn 43 = .ok (.invokevirtual 95, 3) := by decide +kernel
theorem dX12_atIn_46 : decode cX12_atIn 46 = .ok (.ireturn, 1) := by decide +kernel
theorem dX12_carriedIn_0 : decode cX12_carriedIn 0 = .ok (.iload_n 1, 1) := by decide +kernel
theorem dX12_carriedIn_1 : decode cX12_carriedIn 1 = .ok (.invokestatic 347, 3) := by decide +kernel
theorem dX12_carriedIn_4 : decode cX12_carriedIn 4 = .ok (.ifCond .ne 9, 3) := by decide +kernel
theorem dX12_carriedIn_7 : decode cX12_carriedIn 7 = .ok (.aload_n 0, 1) := by decide +kernel
theorem dX12_carriedIn_8 : decode cX12_carriedIn 8 = .ok (.iconst 1, 1) := by decide +kernel
theorem dX12_carriedIn_9 : decode cX12_carriedIn 9 = .ok (.invokevirtual 91, 3) := by decide +kernel
theorem dX12_carriedIn_12 : decode cX12_carriedIn 12 = .ok (.ireturn, 1) := by decide +kernel
theorem dX12_carriedIn_13 : decode cX12_carriedIn 13 = .ok (.aload_n 0, 1) := by decide +kernel
theorem dX12_carriedIn_14 : decode cX12_carriedIn 14 = .ok (.sipush 2688, 3) := by decide +kernel
theorem dX12_carriedIn_17 : decode cX12_carriedIn 17 = .ok (.invokevirtual 350, 3) := by decide +kernel
theorem dX12_carriedIn_20 : decode cX12_carriedIn 20 = .ok (.aload_n 0, 1) := by decide +kernel
theorem dX12_carriedIn_21 : decode cX12_carriedIn 21 = .ok (.iload_n 1, 1) := by decide +kernel
theorem dX12_carriedIn_22 : decode cX12_carriedIn 22 = .ok (.invokevirtual 320, 3) := by decide +kernel
theorem dX12_carriedIn_25 : decode cX12_carriedIn 25 = .ok (.pop, 1) := by decide +kernel
theorem dX12_carriedIn_26 : decode cX12_carriedIn 26 = .ok (.aload_n 0, 1) := by decide +kernel
theorem dX12_carriedIn_27 : decode cX12_carriedIn 27 = .ok (.iconst 2, 1) := by decide +kernel
theorem dX12_carriedIn_28 : decode cX12_carriedIn 28 = .ok (.invokevirtual 278, 3) := by decide +kernel
theorem dX12_carriedIn_31 : decode cX12_carriedIn 31 = .ok (.istore_n 2, 1) := by decide +kernel
theorem dX12_carriedIn_32 : decode cX12_carriedIn 32 = .ok (.aload_n 0, 1) := by decide +kernel
theorem dX12_carriedIn_33 : decode cX12_carriedIn 33 = .ok (.sipush 2688, 3) := by decide +kernel
theorem dX12_carriedIn_36 : decode cX12_carriedIn 36 = .ok (.invokevirtual 353, 3) := by decide +kernel
theorem dX12_carriedIn_39 : decode cX12_carriedIn 39 = .ok (.aload_n 0, 1) := by decide +kernel
theorem dX12_carriedIn_40 : decode cX12_carriedIn 40 = .ok (.iload_n 2, 1) := by decide +kernel
theorem dX12_carriedIn_41 : decode cX12_carriedIn 41 = .ok (.invokevirtual 95, 3) := by decide +kernel
theorem dX12_carriedIn_44 : decode cX12_carriedIn 44 = .ok (.ireturn, 1) := by decide +kernel
theorem dX12_homeOf_0 : decode cX12_homeOf 0 = .ok (.iconst 0, 1) := by decide +kernel
theorem dX12_homeOf_1 : decode cX12_homeOf 1 = .ok (.istore_n 2, 1) := by decide +kernel
theorem dX12_homeOf_2 : decode cX12_homeOf 2 = .ok (.iload_n 2, 1) := by decide +kernel
theorem dX12_homeOf_3 : decode cX12_homeOf 3 = .ok (.sipush 400, 3) := by decide +kernel
theorem dX12_homeOf_6 : decode cX12_homeOf 6 = .ok (.if_icmp .ge 24, 3) := by decide +kernel
theorem dX12_homeOf_9 : decode cX12_homeOf 9 = .ok (.aload_n 0, 1) := by decide +kernel
theorem dX12_homeOf_10 : decode cX12_homeOf 10 = .ok (.iload_n 1, 1) := by decide +kernel
theorem dX12_homeOf_11 : decode cX12_homeOf 11 = .ok (.iconst 3, 1) := by decide +kernel
theorem dX12_homeOf_12 : decode cX12_homeOf 12 = .ok (.invokevirtual 263, 3) := by decide +kernel
theorem dX12_homeOf_15 : decode cX12_homeOf 15 = .ok (.iconst 3, 1) := by decide +kernel
theorem dX12_homeOf_16 : decode cX12_homeOf 16 = .ok (.if_icmp .eq 14, 3) := by decide +kernel
theorem dX12_homeOf_19 : decode cX12_homeOf 19 = .ok (.aload_n 0, 1) := by decide +kernel
theorem dX12_homeOf_20 : decode cX12_homeOf 20 = .ok (.invokevirtual 311, 3) := by decide +kernel
theorem dX12_homeOf_23 : decode cX12_homeOf 23 = .ok (.pop, 1) := by decide +kernel
theorem dX12_homeOf_24 : decode cX12_homeOf 24 = .ok (.iinc 2 1, 3) := by decide +kernel
theorem dX12_homeOf_27 : decode cX12_homeOf 27 = .ok (.goto (-25), 3) := by decide +kernel
theorem dX12_homeOf_30 : decode cX12_homeOf 30 = .ok (.aload_n 0, 1) := by decide +kernel
theorem dX12_homeOf_31 : decode cX12_homeOf 31 = .ok (.iload_n 1, 1) := by decide +kernel
theorem dX12_homeOf_32 : decode cX12_homeOf 32 = .ok (.iconst 3, 1) := by decide +kernel
theorem dX12_homeOf_33 : decode cX12_homeOf 33 = .ok (.invokevirtual 263, 3) := by decide +kernel
theorem dX12_homeOf_36 : decode cX12_homeOf 36 = .ok (.iconst 3, 1) := by decide +kernel
theorem dX12_homeOf_37 : decode cX12_homeOf 37 = .ok (.if_icmp .ne 7, 3) := by decide +kernel
theorem dX12_homeOf_40 : decode cX12_homeOf 40 = .ok (.iload_n 2, 1) := by decide +kernel
theorem dX12_homeOf_41 : decode cX12_homeOf 41 = .ok (.goto 4, 3) := by decide +kernel
theorem dX12_homeOf_44 : decode cX12_homeOf 44 = .ok (.iconst (-1), 1) := by decide +kernel
theorem dX12_homeOf_45 : decode cX12_homeOf 45 = .ok (.ireturn, 1) := by decide +kernel
theorem dX12_homeIn_0 : decode cX12_homeIn 0 = .ok (.aload_n 0, 1) := by decide +kernel
theorem dX12_homeIn_1 : decode cX12_homeIn 1 = .ok (.iload_n 1, 1) := by decide +kernel
theorem dX12_homeIn_2 : decode cX12_homeIn 2 = .ok (.invokevirtual 284, 3) := by decide +kernel
theorem dX12_homeIn_5 : decode cX12_homeIn 5 = .ok (.ifCond .ne 9, 3) := by decide +kernel
theorem dX12_homeIn_8 : decode cX12_homeIn 8 = .ok (.aload_n 0, 1) := by decide +kernel
theorem dX12_homeIn_9 : decode cX12_homeIn 9 = .ok (.iconst 1, 1) := by decide +kernel
theorem dX12_homeIn_10 : decode cX12_homeIn 10 = .ok (.invokevirtual 91, 3) := by decide +kernel
theorem dX12_homeIn_13 : decode cX12_homeIn 13 = .ok (.ireturn, 1) := by decide +kernel
theorem dX12_homeIn_14 : decode cX12_homeIn 14 = .ok (.aload_n 0, 1) := by decide +kernel
theorem dX12_homeIn_15 : decode cX12_homeIn 15 = .ok (.sipush 2688, 3) := by decide +kernel
theorem dX12_homeIn_18 : decode cX12_homeIn 18 = .ok (.invokevirtual 350, 3) := by decide +kernel
theorem dX12_homeIn_21 : decode cX12_homeIn 21 = .ok (.aload_n 0, 1) := by decide +kernel
theorem dX12_homeIn_22 : decode cX12_homeIn 22 = .ok (.iload_n 1, 1) := by decide +kernel
theorem dX12_homeIn_23 : decode cX12_homeIn 23 = .ok (.invokevirtual 356, 3) := by decide +kernel
theorem dX12_homeIn_26 : decode cX12_homeIn 26 = .ok (.istore_n 2, 1) := by decide +kernel
theorem dX12_homeIn_27 : decode cX12_homeIn 27 = .ok (.aload_n 0, 1) := by decide +kernel
theorem dX12_homeIn_28 : decode cX12_homeIn 28 = .ok (.sipush 2688, 3) := by decide +kernel
theorem dX12_homeIn_31 : decode cX12_homeIn 31 = .ok (.invokevirtual 353, 3) := by decide +kernel
theorem dX12_homeIn_34 : decode cX12_homeIn 34 = .ok (.aload_n 0, 1) := by decide +kernel
theorem dX12_homeIn_35 : decode cX12_homeIn 35 = .ok (.iload_n 2, 1) := by decide +kernel
theorem dX12_homeIn_36 : decode cX12_homeIn 36 = .ok (.invokevirtual 296, 3) := by decide +kernel
theorem dX12_homeIn_39 : decode cX12_homeIn 39 = .ok (.ireturn, 1) := by decide +kernel
theorem dX12_turnsIn_0 : decode cX12_turnsIn 0 = .ok (.iload_n 1, 1) := by decide +kernel
theorem dX12_turnsIn_1 : decode cX12_turnsIn 1 = .ok (.invokestatic 347, 3) := by decide +kernel
theorem dX12_turnsIn_4 : decode cX12_turnsIn 4 = .ok (.ifCond .ne 9, 3) := by decide +kernel
theorem dX12_turnsIn_7 : decode cX12_turnsIn 7 = .ok (.aload_n 0, 1) := by decide +kernel
theorem dX12_turnsIn_8 : decode cX12_turnsIn 8 = .ok (.iconst 1, 1) := by decide +kernel
theorem dX12_turnsIn_9 : decode cX12_turnsIn 9 = .ok (.invokevirtual 91, 3) := by decide +kernel
theorem dX12_turnsIn_12 : decode cX12_turnsIn 12 = .ok (.ireturn, 1) := by decide +kernel
theorem dX12_turnsIn_13 : decode cX12_turnsIn 13 = .ok (.aload_n 0, 1) := by decide +kernel
theorem dX12_turnsIn_14 : decode cX12_turnsIn 14 = .ok (.sipush 2688, 3) := by decide +kernel
theorem dX12_turnsIn_17 : decode cX12_turnsIn 17 = .ok (.invokevirtual 350, 3) := by decide +kernel
theorem dX12_turnsIn_20 : decode cX12_turnsIn 20 = .ok (.aload_n 0, 1) := by decide +kernel
theorem dX12_turnsIn_21 : decode cX12_turnsIn 21 = .ok (.iload_n 1, 1) := by decide +kernel
theorem dX12_turnsIn_22 : decode cX12_turnsIn 22 = .ok (.invokevirtual 320, 3) := by decide +kernel
theorem dX12_turnsIn_25 : decode cX12_turnsIn 25 = .ok (.istore_n 2, 1) := by decide +kernel
theorem dX12_turnsIn_26 : decode cX12_turnsIn 26 = .ok (.aload_n 0, 1) := by decide +kernel
theorem dX12_turnsIn_27 : decode cX12_turnsIn 27 = .ok (.sipush 2688, 3) := by decide +kernel
theorem dX12_turnsIn_30 : decode cX12_turnsIn 30 = .ok (.invokevirtual 353, 3) := by decide +kernel
theorem dX12_turnsIn_33 : decode cX12_turnsIn 33 = .ok (.aload_n 0, 1) := by decide +kernel
theorem dX12_turnsIn_34 : decode cX12_turnsIn 34 = .ok (.iload_n 2, 1) := by decide +kernel
theorem dX12_turnsIn_35 : decode cX12_turnsIn 35 = .ok (.invokevirtual 95, 3) := by decide +kernel
theorem dX12_turnsIn_38 : decode cX12_turnsIn 38 = .ok (.ireturn, 1) := by decide +kernel
theorem dX12_nextTurn_0 : decode cX12_nextTurn 0 = .ok (.iconst 0, 1) := by decide +kernel
theorem dX12_nextTurn_1 : decode cX12_nextTurn 1 = .ok (.istore_n 2, 1) := by decide +kernel
theorem dX12_nextTurn_2 : decode cX12_nextTurn 2 = .ok (.iload_n 2, 1) := by decide +kernel
theorem dX12_nextTurn_3 : decode cX12_nextTurn 3 = .ok (.iload_n 1, 1) := by decide +kernel
theorem dX12_nextTurn_4 : decode cX12_nextTurn 4 = .ok (.if_icmp .ge 18, 3) := by decide +kernel
theorem dX12_nextTurn_7 : decode cX12_nextTurn 7 = .ok (.aload_n 0, 1) := by decide +kernel
theorem dX12_nextTurn_8 : decode cX12_nextTurn 8 = .ok (.invokevirtual 311, 3) := by decide +kernel
theorem dX12_nextTurn_11 : decode cX12_nextTurn 11 = .ok (.ifCond .eq 5, 3) := by decide +kernel
theorem dX12_nextTurn_14 : decode cX12_nextTurn 14 = .ok (.iload_n 2, 1) := by decide +kernel
theorem dX12_nextTurn_15 : decode cX12_nextTurn 15 = .ok (.ireturn, 1) := by decide +kernel
theorem dX12_nextTurn_16 : decode cX12_nextTurn 16 = .ok (.iinc 2 1, 3) := by decide +kernel
theorem dX12_nextTurn_19 : decode cX12_nextTurn 19 = .ok (.goto (-17), 3) := by decide +kernel
theorem dX12_nextTurn_22 : decode cX12_nextTurn 22 = .ok (.iconst (-1), 1) := by decide +kernel
theorem dX12_nextTurn_23 : decode cX12_nextTurn 23 = .ok (.ireturn, 1) := by decide +kernel
theorem dX12_turnIn_0 : decode cX12_turnIn 0 = .ok (.aload_n 0, 1) := by decide +kernel
theorem dX12_turnIn_1 : decode cX12_turnIn 1 = .ok (.sipush 2688, 3) := by decide +kernel
theorem dX12_turnIn_4 : decode cX12_turnIn 4 = .ok (.invokevirtual 350, 3) := by decide +kernel
theorem dX12_turnIn_7 : decode cX12_turnIn 7 = .ok (.aload_n 0, 1) := by decide +kernel
theorem dX12_turnIn_8 : decode cX12_turnIn 8 = .ok (.sipush 400, 3) := by decide +kernel
theorem dX12_turnIn_11 : decode cX12_turnIn 11 = .ok (.invokevirtual 359, 3) := by decide +kernel
theorem dX12_turnIn_14 : decode cX12_turnIn 14 = .ok (.istore_n 1, 1) := by decide +kernel
theorem dX12_turnIn_15 : decode cX12_turnIn 15 = .ok (.aload_n 0, 1) := by decide +kernel
theorem dX12_turnIn_16 : decode cX12_turnIn 16 = .ok (.sipush 2688, 3) := by decide +kernel
theorem dX12_turnIn_19 : decode cX12_turnIn 19 = .ok (.invokevirtual 353, 3) := by decide +kernel
theorem dX12_turnIn_22 : decode cX12_turnIn 22 = .ok (.aload_n 0, 1) := by decide +kernel
theorem dX12_turnIn_23 : decode cX12_turnIn 23 = .ok (.iload_n 1, 1) := by decide +kernel
theorem dX12_turnIn_24 : decode cX12_turnIn 24 = .ok (.invokevirtual 296, 3) := by decide +kernel
theorem dX12_turnIn_27 : decode cX12_turnIn 27 = .ok (.ireturn, 1) := by decide +kernel
theorem dX12_groundIn_0 : decode cX12_groundIn 0 = .ok (.aload_n 0, 1) := by decide +kernel
theorem dX12_groundIn_1 : decode cX12_groundIn 1 = .ok (.iload_n 1, 1) := by decide +kernel
theorem dX12_groundIn_2 : decode cX12_groundIn 2 = .ok (.invokevirtual 287, 3) := by decide +kernel
theorem dX12_groundIn_5 : decode cX12_groundIn 5 = .ok (.ifCond .eq 10, 3) := by decide +kernel
theorem dX12_groundIn_8 : decode cX12_groundIn 8 = .ok (.iload_n 2, 1) := by decide +kernel
theorem dX12_groundIn_9 : decode cX12_groundIn 9 = .ok (.invokestatic 347, 3) := by decide +kernel
theorem dX12_groundIn_12 : decode cX12_groundIn 12 = .ok (.ifCond .ne 9, 3) := by decide +kernel
theorem dX12_groundIn_15 : decode cX12_groundIn 15 = .ok (.aload_n 0, 1) := by decide +kernel
theorem dX12_groundIn_16 : decode cX12_groundIn 16 = .ok (.iconst 1, 1) := by decide +kernel
theorem dX12_groundIn_17 : decode cX12_groundIn 17 = .ok (.invokevirtual 91, 3) := by decide +kernel
theorem dX12_groundIn_20 : decode cX12_groundIn 20 = .ok (.ireturn, 1) := by decide +kernel
theorem dX12_groundIn_21 : decode cX12_groundIn 21 = .ok (.aload_n 0, 1) := by decide +kernel
theorem dX12_groundIn_22 : decode cX12_groundIn 22 = .ok (.sipush 2688, 3) := by decide +kernel
theorem dX12_groundIn_25 : decode cX12_groundIn 25 = .ok (.invokevirtual 350, 3) := by decide +kernel
theorem dX12_groundIn_28 : decode cX12_groundIn 28 = .ok (.aload_n 0, 1) := by decide +kernel
theorem dX12_groundIn_29 : decode cX12_groundIn 29 = .ok (.iload_n 1, 1) := by decide +kernel
theorem dX12_groundIn_30 : decode cX12_groundIn 30 = .ok (.iconst 2, 1) := by decide +kernel
theorem dX12_groundIn_31 : decode cX12_groundIn 31 = .ok (.invokevirtual 290, 3) := by decide +kernel
theorem dX12_groundIn_34 : decode cX12_groundIn 34 = .ok (.istore_n 3, 1) := by decide +kernel
theorem dX12_groundIn_35 : decode cX12_groundIn 35 = .ok (.aload_n 0, 1) := by decide +kernel
theorem dX12_groundIn_36 : decode cX12_groundIn 36 = .ok (.iload_n 2, 1) := by decide +kernel
theorem dX12_groundIn_37 : decode cX12_groundIn 37 = .ok (.invokevirtual 320, 3) := by decide +kernel
theorem dX12_groundIn_40 : decode cX12_groundIn 40 = .ok (.pop, 1) := by decide +kernel
theorem dX12_groundIn_41 : decode cX12_groundIn 41 = .ok (.aload_n 0, 1) := by decide +kernel
theorem dX12_groundIn_42 : decode cX12_groundIn 42 = .ok (.iload_n 1, 1) := by decide +kernel
theorem dX12_groundIn_43 : decode cX12_groundIn 43 = .ok (.iconst 2, 1) := by decide +kernel
theorem dX12_groundIn_44 : decode cX12_groundIn 44 = .ok (.invokevirtual 290, 3) := by decide +kernel
theorem dX12_groundIn_47 : decode cX12_groundIn 47 = .ok (.iload_n 3, 1) := by decide +kernel
theorem dX12_groundIn_48 : decode cX12_groundIn 48 = .ok (.isub, 1) := by decide +kernel
theorem dX12_groundIn_49 : decode cX12_groundIn 49 = .ok (.istore 4, 2) := by decide +kernel
theorem dX12_groundIn_51 : decode cX12_groundIn 51 = .ok (.aload_n 0, 1) := by decide +kernel
theorem dX12_groundIn_52 : decode cX12_groundIn 52 = .ok (.sipush 2688, 3) := by decide +kernel
theorem dX12_groundIn_55 : decode cX12_groundIn 55 = .ok (.invokevirtual 353, 3) := by decide +kernel
theorem dX12_groundIn_58 : decode cX12_groundIn 58 = .ok (.aload_n 0, 1) := by decide +kernel
theorem dX12_groundIn_59 : decode cX12_groundIn 59 = .ok (.iload 4, 2) := by decide +kernel
theorem dX12_groundIn_61 : decode cX12_groundIn 61 = .ok (.invokevirtual 95, 3) := by decide +kernel
theorem dX12_groundIn_64 : decode cX12_groundIn 64 = .ok (.ireturn, 1) := by decide +kernel
theorem dX12_quietIn_0 : decode cX12_quietIn 0 = .ok (.aload_n 0, 1) := by decide +kernel
theorem dX12_quietIn_1 : decode cX12_quietIn 1 = .ok (.sipush 2688, 3) := by decide +kernel
theorem dX12_quietIn_4 : decode cX12_quietIn 4 = .ok (.invokevirtual 350, 3) := by decide +kernel
theorem dX12_quietIn_7 : decode cX12_quietIn 7 = .ok (.iconst 0, 1) := by decide +kernel
theorem dX12_quietIn_8 : decode cX12_quietIn 8 = .ok (.istore_n 1, 1) := by decide +kernel
theorem dX12_quietIn_9 : decode cX12_quietIn 9 = .ok (.iload_n 1, 1) := by decide +kernel
theorem dX12_quietIn_10 : decode cX12_quietIn 10 = .ok (.sipush 400, 3) := by decide +kernel
theorem dX12_quietIn_13 : decode cX12_quietIn 13 = .ok (.if_icmp .ge 28, 3) := by decide +kernel
theorem dX12_quietIn_16 : decode cX12_quietIn 16 = .ok (.aload_n 0, 1) := by decide +kernel
theorem dX12_quietIn_17 : decode cX12_quietIn 17 = .ok (.iconst 1, 1) := by decide +kernel
theorem dX12_quietIn_18 : decode cX12_quietIn 18 = .ok (.invokevirtual 278, 3) := by decide +kernel
theorem dX12_quietIn_21 : decode cX12_quietIn 21 = .ok (.aload_n 0, 1) := by decide +kernel
theorem dX12_quietIn_22 : decode cX12_quietIn 22 = .ok (.iconst 2, 1) := by decide +kernel
theorem dX12_quietIn_23 : decode cX12_quietIn 23 = .ok (.invokevirtual 278, 3) := by decide +kernel
theorem dX12_quietIn_26 : decode cX12_quietIn 26 = .ok (.ior, 1) := by decide +kernel
theorem dX12_quietIn_27 : decode cX12_quietIn 27 = .ok (.ifCond .eq 14, 3) := by decide +kernel
theorem dX12_quietIn_30 : decode cX12_quietIn 30 = .ok (.aload_n 0, 1) := by decide +kernel
theorem dX12_quietIn_31 : decode cX12_quietIn 31 = .ok (.invokevirtual 311, 3) := by decide +kernel
theorem dX12_quietIn_34 : decode cX12_quietIn 34 = .ok (.pop, 1) := by decide +kernel
theorem dX12_quietIn_35 : decode cX12_quietIn 35 = .ok (.iinc 1 1, 3) := by decide +kernel
theorem dX12_quietIn_38 : decode cX12_quietIn 38 = .ok (.goto (-29), 3) := by decide +kernel
theorem dX12_quietIn_41 : decode cX12_quietIn 41 = .ok (.aload_n 0, 1) := by decide +kernel
theorem dX12_quietIn_42 : decode cX12_quietIn 42 = .ok (.iconst 1, 1) := by decide +kernel
theorem dX12_quietIn_43 : decode cX12_quietIn 43 = .ok (.invokevirtual 278, 3) := by decide +kernel
theorem dX12_quietIn_46 : decode cX12_quietIn 46 = .ok (.aload_n 0, 1) := by decide +kernel
theorem dX12_quietIn_47 : decode cX12_quietIn 47 = .ok (.iconst 2, 1) := by decide +kernel
theorem dX12_quietIn_48 : decode cX12_quietIn 48 = .ok (.invokevirtual 278, 3) := by decide +kernel
theorem dX12_quietIn_51 : decode cX12_quietIn 51 = .ok (.ior, 1) := by decide +kernel
theorem dX12_quietIn_52 : decode cX12_quietIn 52 = .ok (.ifCond .ne 7, 3) := by decide +kernel
theorem dX12_quietIn_55 : decode cX12_quietIn 55 = .ok (.iconst 1, 1) := by decide +kernel
theorem dX12_quietIn_56 : decode cX12_quietIn 56 = .ok (.goto 4, 3) := by decide +kernel
theorem dX12_quietIn_59 : decode cX12_quietIn 59 = .ok (.iconst 0, 1) := by decide +kernel
theorem dX12_quietIn_60 : decode cX12_quietIn 60 = .ok (.istore_n 2, 1) := by decide +kernel
theorem dX12_quietIn_61 : decode cX12_quietIn 61 = .ok (.aload_n 0, 1) := by decide +kernel
theorem dX12_quietIn_62 : decode cX12_quietIn 62 = .ok (.sipush 2688, 3) := by decide +kernel
theorem dX12_quietIn_65 : decode cX12_quietIn 65 = .ok (.invokevirtual 353, 3) := by decide +kernel
theorem dX12_quietIn_68 : decode cX12_quietIn 68 = .ok (.iload_n 2, 1) := by decide +kernel
theorem dX12_quietIn_69 : decode cX12_quietIn 69 = .ok (.ifCond .eq 11, 3) := by decide +kernel
theorem dX12_quietIn_72 : decode cX12_quietIn 72 = .ok (.aload_n 0, 1) := by decide +kernel
theorem dX12_quietIn_73 : decode cX12_quietIn 73 = .ok (.iload_n 1, 1) := by decide +kernel
theorem dX12_quietIn_74 : decode cX12_quietIn 74 = .ok (.invokevirtual 95, 3) := by decide +kernel
theorem dX12_quietIn_77 : decode cX12_quietIn 77 = .ok (.goto 9, 3) := by decide +kernel
theorem dX12_quietIn_80 : decode cX12_quietIn 80 = .ok (.aload_n 0, 1) := by decide +kernel
theorem dX12_quietIn_81 : decode cX12_quietIn 81 = .ok (.bipush 6, 2) := by decide +kernel
theorem dX12_quietIn_83 : decode cX12_quietIn 83 = .ok (.invokevirtual 91, 3) := by decide +kernel
theorem dX12_quietIn_86 : decode cX12_quietIn 86 = .ok (.ireturn, 1) := by decide +kernel
theorem dX12_stands_0 : decode cX12_stands 0 = .ok (.bipush 25, 2) := by decide +kernel
theorem dX12_stands_2 : decode cX12_stands 2 = .ok (.iload_n 1, 1) := by decide +kernel
theorem dX12_stands_3 : decode cX12_stands 3 = .ok (.imul, 1) := by decide +kernel
theorem dX12_stands_4 : decode cX12_stands 4 = .ok (.istore_n 2, 1) := by decide +kernel
theorem dX12_stands_5 : decode cX12_stands 5 = .ok (.aload_n 0, 1) := by decide +kernel
theorem dX12_stands_6 : decode cX12_stands 6 = .ok (.getfield 47, 3) := by decide +kernel
theorem dX12_stands_9 : decode cX12_stands 9 = .ok (.iload_n 2, 1) := by decide +kernel
theorem dX12_stands_10 : decode cX12_stands 10 = .ok (.iconst 2, 1) := by decide +kernel
theorem dX12_stands_11 : decode cX12_stands 11 = .ok (.aload_n 0, 1) := by decide +kernel
theorem dX12_stands_12 : decode cX12_stands 12 = .ok (.getfield 7, 3) := by decide +kernel
theorem dX12_stands_15 : decode cX12_stands 15 = .ok (.bipush 6, 2) := by decide +kernel
theorem dX12_stands_17 : decode cX12_stands 17 = .ok (.iaload, 1) := by decide +kernel
theorem dX12_stands_18 : decode cX12_stands 18 = .ok (.imul, 1) := by decide +kernel
theorem dX12_stands_19 : decode cX12_stands 19 = .ok (.aload_n 0, 1) := by decide +kernel
theorem dX12_stands_20 : decode cX12_stands 20 = .ok (.getfield 7, 3) := by decide +kernel
theorem dX12_stands_23 : decode cX12_stands 23 = .ok (.bipush 7, 2) := by decide +kernel
theorem dX12_stands_25 : decode cX12_stands 25 = .ok (.iaload, 1) := by decide +kernel
theorem dX12_stands_26 : decode cX12_stands 26 = .ok (.iadd, 1) := by decide +kernel
theorem dX12_stands_27 : decode cX12_stands 27 = .ok (.iastore, 1) := by decide +kernel
theorem dX12_stands_28 : decode cX12_stands 28 = .ok (.iconst 0, 1) := by decide +kernel
theorem dX12_stands_29 : decode cX12_stands 29 = .ok (.istore_n 3, 1) := by decide +kernel
theorem dX12_stands_30 : decode cX12_stands 30 = .ok (.iload_n 3, 1) := by decide +kernel
theorem dX12_stands_31 : decode cX12_stands 31 = .ok (.bipush 8, 2) := by decide +kernel
theorem dX12_stands_33 : decode cX12_stands 33 = .ok (.if_icmp .ge 77, 3) := by decide +kernel
theorem dX12_stands_36 : decode cX12_stands 36 = .ok (.aload_n 0, 1) := by decide +kernel
theorem dX12_stands_37 : decode cX12_stands 37 = .ok (.iload_n 3, 1) := by decide +kernel
theorem dX12_stands_38 : decode cX12_stands 38 = .ok (.iconst 3, 1) := by decide +kernel
theorem dX12_stands_39 : decode cX12_stands 39 = .ok (.invokevirtual 263, 3) := by decide +kernel
theorem dX12_stands_42 : decode cX12_stands 42 = .ok (.istore 4, 2) := by decide +kernel
theorem dX12_stands_44 : decode cX12_stands 44 = .ok (.aload_n 0, 1) := by decide +kernel
theorem dX12_stands_45 : decode cX12_stands 45 = .ok (.getfield 47, 3) := by decide +kernel
theorem dX12_stands_48 : decode cX12_stands 48 = .ok (.iload_n 2, 1) := by decide +kernel
theorem dX12_stands_49 : decode cX12_stands 49 = .ok (.iconst 1, 1) := by decide +kernel
theorem dX12_stands_50 : decode cX12_stands 50 = .ok (.iadd, 1) := by decide +kernel
theorem dX12_stands_51 : decode cX12_stands 51 = .ok (.iconst 3, 1) := by decide +kernel
theorem dX12_stands_52 : decode cX12_stands 52 = .ok (.iload_n 3, 1) := by decide +kernel
theorem dX12_stands_53 : decode cX12_stands 53 = .ok (.imul, 1) := by decide +kernel
theorem dX12_stands_54 : decode cX12_stands 54 = .ok (.iadd, 1) := by decide +kernel
theorem dX12_stands_55 : decode cX12_stands 55 = .ok (.iload 4, 2) := by decide +kernel
theorem dX12_stands_57 : decode cX12_stands 57 = .ok (.iastore, 1) := by decide +kernel
theorem dX12_stands_58 : decode cX12_stands 58 = .ok (.aload_n 0, 1) := by decide +kernel
theorem dX12_stands_59 : decode cX12_stands 59 = .ok (.getfield 47, 3) := by decide +kernel
theorem dX12_stands_62 : decode cX12_stands 62 = .ok (.iload_n 2, 1) := by decide +kernel
theorem dX12_stands_63 : decode cX12_stands 63 = .ok (.iconst 2, 1) := by decide +kernel
theorem dX12_stands_64 : decode cX12_stands 64 = .ok (.iadd, 1) := by decide +kernel
theorem dX12_stands_65 : decode cX12_stands 65 = .ok (.iconst 3, 1) := by decide +kernel
theorem dX12_stands_66 : decode cX12_stands 66 = .ok (.iload_n 3, 1) := by decide +kernel
theorem dX12_stands_67 : decode cX12_stands 67 = .ok (.imul, 1) := by decide +kernel
theorem dX12_stands_68 : decode cX12_stands 68 = .ok (.iadd, 1) := by decide +kernel
theorem dX12_stands_69 : decode cX12_stands 69 = .ok (.iload 4, 2) := by decide +kernel
theorem dX12_stands_71 : decode cX12_stands 71 = .ok (.iconst 1, 1) := by decide +kernel
theorem dX12_stands_72 : decode cX12_stands 72 = .ok (.if_icmp .ne 12, 3) := by decide +kernel
theorem dX12_stands_75 : decode cX12_stands 75 = .ok (.aload_n 0, 1) := by decide +kernel
theorem dX12_stands_76 : decode cX12_stands 76 = .ok (.iload_n 3, 1) := by decide +kernel
theorem dX12_stands_77 : decode cX12_stands 77 = .ok (.iconst 4, 1) := by decide +kernel
theorem dX12_stands_78 : decode cX12_stands 78 = .ok (.invokevirtual 263, 3) := by decide +kernel
theorem dX12_stands_81 : decode cX12_stands 81 = .ok (.goto 4, 3) := by decide +kernel
theorem dX12_stands_84 : decode cX12_stands 84 = .ok (.iconst (-1), 1) := by decide +kernel
theorem dX12_stands_85 : decode cX12_stands 85 = .ok (.iastore, 1) := by decide +kernel
theorem dX12_stands_86 : decode cX12_stands 86 = .ok (.aload_n 0, 1) := by decide +kernel
theorem dX12_stands_87 : decode cX12_stands 87 = .ok (.getfield 47, 3) := by decide +kernel
theorem dX12_stands_90 : decode cX12_stands 90 = .ok (.iload_n 2, 1) := by decide +kernel
theorem dX12_stands_91 : decode cX12_stands 91 = .ok (.iconst 3, 1) := by decide +kernel
theorem dX12_stands_92 : decode cX12_stands 92 = .ok (.iadd, 1) := by decide +kernel
theorem dX12_stands_93 : decode cX12_stands 93 = .ok (.iconst 3, 1) := by decide +kernel
theorem dX12_stands_94 : decode cX12_stands 94 = .ok (.iload_n 3, 1) := by decide +kernel
theorem dX12_stands_95 : decode cX12_stands 95 = .ok (.imul, 1) := by decide +kernel
theorem dX12_stands_96 : decode cX12_stands 96 = .ok (.iadd, 1) := by decide +kernel
theorem dX12_stands_97 : decode cX12_stands 97 = .ok (.aload_n 0, 1) := by decide +kernel
theorem dX12_stands_98 : decode cX12_stands 98 = .ok (.iload_n 3, 1) := by decide +kernel
theorem dX12_stands_99 : decode cX12_stands 99 = .ok (.iconst 5, 1) := by decide +kernel
theorem dX12_stands_100 : decode cX12_stands 100 = .ok (.invokevirtual 263, 3) := by decide +kernel
theorem dX12_stands_103 : decode cX12_stands 103 = .ok (.iastore, 1) := by decide +kernel
theorem dX12_stands_104 : decode cX12_stands 104 = .ok (.iinc 3 1, 3) := by decide +kernel
theorem dX12_stands_107 : decode cX12_stands 107 = .ok (.goto (-77), 3) := by decide +kernel
theorem dX12_stands_110 : decode cX12_stands 110 = .ok (.return_, 1) := by decide +kernel
theorem dX12_areAlike_0 : decode cX12_areAlike 0 = .ok (.iconst 0, 1) := by decide +kernel
theorem dX12_areAlike_1 : decode cX12_areAlike 1 = .ok (.istore_n 3, 1) := by decide +kernel
theorem dX12_areAlike_2 : decode cX12_areAlike 2 = .ok (.iload_n 3, 1) := by decide +kernel
theorem dX12_areAlike_3 : decode cX12_areAlike 3 = .ok (.bipush 25, 2) := by decide +kernel
theorem dX12_areAlike_5 : decode cX12_areAlike 5 = .ok (.if_icmp .ge 36, 3) := by decide +kernel
theorem dX12_areAlike_8 : decode cX12_areAlike 8 = .ok (.aload_n 0, 1) := by decide +kernel
theorem dX12_areAlike_9 : decode cX12_areAlike 9 = .ok (.getfield 47, 3) := by decide +kernel
theorem dX12_areAlike_12 : decode cX12_areAlike 12 = .ok (.bipush 25, 2) := by decide +kernel
theorem dX12_areAlike_14 : decode cX12_areAlike 14 = .ok (.iload_n 1, 1) := by decide +kernel
theorem dX12_areAlike_15 : decode cX12_areAlike 15 = .ok (.imul, 1) := by decide +kernel
theorem dX12_areAlike_16 : decode cX12_areAlike 16 = .ok (.iload_n 3, 1) := by decide +kernel
theorem dX12_areAlike_17 : decode cX12_areAlike 17 = .ok (.iadd, 1) := by decide +kernel
theorem dX12_areAlike_18 : decode cX12_areAlike 18 = .ok (.iaload, 1) := by decide +kernel
theorem dX12_areAlike_19 : decode cX12_areAlike 19 = .ok (.aload_n 0, 1) := by decide +kernel
theorem dX12_areAlike_20 : decode cX12_areAlike 20 = .ok (.getfield 47, 3) := by decide +kernel
theorem dX12_areAlike_23 : decode cX12_areAlike 23 = .ok (.bipush 25, 2) := by decide +kernel
theorem dX12_areAlike_25 : decode cX12_areAlike 25 = .ok (.iload_n 2, 1) := by decide +kernel
theorem dX12_areAlike_26 : decode cX12_areAlike 26 = .ok (.imul, 1) := by decide +kernel
theorem dX12_areAlike_27 : decode cX12_areAlike 27 = .ok (.iload_n 3, 1) := by decide +kernel
theorem dX12_areAlike_28 : decode cX12_areAlike 28 = .ok (.iadd, 1) := by decide +kernel
theorem dX12_areAlike_29 : decode cX12_areAlike 29 = .ok (.iaload, 1) := by decide +kernel
theorem dX12_areAlike_30 : decode cX12_areAlike 30 = .ok (.if_icmp .eq 5, 3) := by decide +kernel
theorem dX12_areAlike_33 : decode cX12_areAlike 33 = .ok (.iconst 0, 1) := by decide +kernel
theorem dX12_areAlike_34 : decode cX12_areAlike 34 = .ok (.ireturn, 1) := by decide +kernel
theorem dX12_areAlike_35 : decode cX12_areAlike 35 = .ok (.iinc 3 1, 3) := by decide +kernel
theorem dX12_areAlike_38 : decode cX12_areAlike 38 = .ok (.goto (-36), 3) := by decide +kernel
theorem dX12_areAlike_41 : decode cX12_areAlike 41 = .ok (.iconst 1, 1) := by decide +kernel
theorem dX12_areAlike_42 : decode cX12_areAlike 42 = .ok (.ireturn, 1) := by decide +kernel
theorem dX12_ringing_0 : decode cX12_ringing 0 = .ok (.aload_n 0, 1) := by decide +kernel
theorem dX12_ringing_1 : decode cX12_ringing 1 = .ok (.iconst 0, 1) := by decide +kernel
theorem dX12_ringing_2 : decode cX12_ringing 2 = .ok (.invokevirtual 362, 3) := by decide +kernel
theorem dX12_ringing_5 : decode cX12_ringing 5 = .ok (.iconst 1, 1) := by decide +kernel
theorem dX12_ringing_6 : decode cX12_ringing 6 = .ok (.istore_n 1, 1) := by decide +kernel
theorem dX12_ringing_7 : decode cX12_ringing 7 = .ok (.iload_n 1, 1) := by decide +kernel
theorem dX12_ringing_8 : decode cX12_ringing 8 = .ok (.sipush 200, 3) := by decide +kernel
theorem dX12_ringing_11 : decode cX12_ringing 11 = .ok (.if_icmp .gt 45, 3) := by decide +kernel
theorem dX12_ringing_14 : decode cX12_ringing 14 = .ok (.aload_n 0, 1) := by decide +kernel
theorem dX12_ringing_15 : decode cX12_ringing 15 = .ok (.invokevirtual 311, 3) := by decide +kernel
theorem dX12_ringing_18 : decode cX12_ringing 18 = .ok (.pop, 1) := by decide +kernel
theorem dX12_ringing_19 : decode cX12_ringing 19 = .ok (.aload_n 0, 1) := by decide +kernel
theorem dX12_ringing_20 : decode cX12_ringing 20 = .ok (.iload_n 1, 1) := by decide +kernel
theorem dX12_ringing_21 : decode cX12_ringing 21 = .ok (.invokevirtual 362, 3) := by decide +kernel
theorem dX12_ringing_24 : decode cX12_ringing 24 = .ok (.iconst 0, 1) := by decide +kernel
theorem dX12_ringing_25 : decode cX12_ringing 25 = .ok (.istore_n 2, 1) := by decide +kernel
theorem dX12_ringing_26 : decode cX12_ringing 26 = .ok (.iload_n 2, 1) := by decide +kernel
theorem dX12_ringing_27 : decode cX12_ringing 27 = .ok (.iload_n 1, 1) := by decide +kernel
theorem dX12_ringing_28 : decode cX12_ringing 28 = .ok (.if_icmp .ge 22, 3) := by decide +kernel
theorem dX12_ringing_31 : decode cX12_ringing 31 = .ok (.aload_n 0, 1) := by decide +kernel
theorem dX12_ringing_32 : decode cX12_ringing 32 = .ok (.iload_n 2, 1) := by decide +kernel
theorem dX12_ringing_33 : decode cX12_ringing 33 = .ok (.iload_n 1, 1) := by decide +kernel
theorem dX12_ringing_34 : decode cX12_ringing 34 = .ok (.invokevirtual 365, 3) := by decide +kernel
theorem dX12_ringing_37 : decode cX12_ringing 37 = .ok (.ifCond .eq 7, 3) := by decide +kernel
theorem dX12_ringing_40 : decode cX12_ringing 40 = .ok (.iload_n 1, 1) := by decide +kernel
theorem dX12_ringing_41 : decode cX12_ringing 41 = .ok (.iload_n 2, 1) := by decide +kernel
theorem dX12_ringing_42 : decode cX12_ringing 42 = .ok (.isub, 1) := by decide +kernel
theorem dX12_ringing_43 : decode cX12_ringing 43 = .ok (.ireturn, 1) := by decide +kernel
theorem dX12_ringing_44 : decode cX12_ringing 44 = .ok (.iinc 2 1, 3) := by decide +kernel
theorem dX12_ringing_47 : decode cX12_ringing 47 = .ok (.goto (-21), 3) := by decide +kernel
theorem dX12_ringing_50 : decode cX12_ringing 50 = .ok (.iinc 1 1, 3) := by decide +kernel
theorem dX12_ringing_53 : decode cX12_ringing 53 = .ok (.goto (-46), 3) := by decide +kernel
theorem dX12_ringing_56 : decode cX12_ringing 56 = .ok (.iconst (-1), 1) := by decide +kernel
theorem dX12_ringing_57 : decode cX12_ringing 57 = .ok (.ireturn, 1) := by decide +kernel
theorem dX12_ring_0 : decode cX12_ring 0 = .ok (.aload_n 0, 1) := by decide +kernel
theorem dX12_ring_1 : decode cX12_ring 1 = .ok (.sipush 2688, 3) := by decide +kernel
theorem dX12_ring_4 : decode cX12_ring 4 = .ok (.invokevirtual 350, 3) := by decide +kernel
theorem dX12_ring_7 : decode cX12_ring 7 = .ok (.aload_n 0, 1) := by decide +kernel
theorem dX12_ring_8 : decode cX12_ring 8 = .ok (.invokevirtual 368, 3) := by decide +kernel
theorem dX12_ring_11 : decode cX12_ring 11 = .ok (.istore_n 1, 1) := by decide +kernel
theorem dX12_ring_12 : decode cX12_ring 12 = .ok (.aload_n 0, 1) := by decide +kernel
theorem dX12_ring_13 : decode cX12_ring 13 = .ok (.sipush 2688, 3) := by decide +kernel
theorem dX12_ring_16 : decode cX12_ring 16 = .ok (.invokevirtual 353, 3) := by decide +kernel
theorem dX12_ring_19 : decode cX12_ring 19 = .ok (.aload_n 0, 1) := by decide +kernel
theorem dX12_ring_20 : decode cX12_ring 20 = .ok (.iload_n 1, 1) := by decide +kernel
theorem dX12_ring_21 : decode cX12_ring 21 = .ok (.invokevirtual 296, 3) := by decide +kernel
theorem dX12_ring_24 : decode cX12_ring 24 = .ok (.ireturn, 1) := by decide +kernel
theorem dX12_aim_0 : decode cX12_aim 0 = .ok (.aload_n 0, 1) := by decide +kernel
theorem dX12_aim_1 : decode cX12_aim 1 = .ok (.iload_n 1, 1) := by decide +kernel
theorem dX12_aim_2 : decode cX12_aim 2 = .ok (.invokevirtual 284, 3) := by decide +kernel
theorem dX12_aim_5 : decode cX12_aim 5 = .ok (.ifCond .eq 15, 3) := by decide +kernel
theorem dX12_aim_8 : decode cX12_aim 8 = .ok (.iload_n 2, 1) := by decide +kernel
theorem dX12_aim_9 : decode cX12_aim 9 = .ok (.i2l, 1) := by decide +kernel
theorem dX12_aim_10 : decode cX12_aim 10 = .ok (.lconst 0, 1) := by decide +kernel
theorem dX12_aim_11 : decode cX12_aim 11 = .ok (.ldc2_w 371, 3) := by decide +kernel
theorem dX12_aim_14 : decode cX12_aim 14 = .ok (.invokestatic 316, 3) := by decide +kernel
theorem dX12_aim_17 : decode cX12_aim 17 = .ok (.ifCond .ne 9, 3) := by decide +kernel
theorem dX12_aim_20 : decode cX12_aim 20 = .ok (.aload_n 0, 1) := by decide +kernel
theorem dX12_aim_21 : decode cX12_aim 21 = .ok (.iconst 1, 1) := by decide +kernel
theorem dX12_aim_22 : decode cX12_aim 22 = .ok (.invokevirtual 91, 3) := by decide +kernel
theorem dX12_aim_25 : decode cX12_aim 25 = .ok (.ireturn, 1) := by decide +kernel
theorem dX12_aim_26 : decode cX12_aim 26 = .ok (.aload_n 0, 1) := by decide +kernel
theorem dX12_aim_27 : decode cX12_aim 27 = .ok (.iload_n 1, 1) := by decide +kernel
theorem dX12_aim_28 : decode cX12_aim 28 = .ok (.invokevirtual 323, 3) := by decide +kernel
theorem dX12_aim_31 : decode cX12_aim 31 = .ok (.ifCond .ne 10, 3) := by decide +kernel
theorem dX12_aim_34 : decode cX12_aim 34 = .ok (.aload_n 0, 1) := by decide +kernel
theorem dX12_aim_35 : decode cX12_aim 35 = .ok (.bipush 7, 2) := by decide +kernel
theorem dX12_aim_37 : decode cX12_aim 37 = .ok (.invokevirtual 91, 3) := by decide +kernel
theorem dX12_aim_40 : decode cX12_aim 40 = .ok (.ireturn, 1) := by decide +kernel
theorem dX12_aim_41 : decode cX12_aim 41 = .ok (.aload_n 0, 1) := by decide +kernel
theorem dX12_aim_42 : decode cX12_aim 42 = .ok (.sipush 2688, 3) := by decide +kernel
theorem dX12_aim_45 : decode cX12_aim 45 = .ok (.invokevirtual 350, 3) := by decide +kernel
theorem dX12_aim_48 : decode cX12_aim 48 = .ok (.iconst (-1), 1) := by decide +kernel
theorem dX12_aim_49 : decode cX12_aim 49 = .ok (.istore_n 3, 1) := by decide +kernel
theorem dX12_aim_50 : decode cX12_aim 50 = .ok (.iconst 0, 1) := by decide +kernel
theorem dX12_aim_51 : decode cX12_aim 51 = .ok (.istore 4, 2) := by decide +kernel
theorem dX12_aim_53 : decode cX12_aim 53 = .ok (.iload 4, 2) := by decide +kernel
theorem dX12_aim_55 : decode cX12_aim 55 = .ok (.aload_n 0, 1) := by decide +kernel
theorem dX12_aim_56 : decode cX12_aim 56 = .ok (.getfield 7, 3) := by decide +kernel
theorem dX12_aim_59 : decode cX12_aim 59 = .ok (.iconst 2, 1) := by decide +kernel
theorem dX12_aim_60 : decode cX12_aim 60 = .ok (.iaload, 1) := by decide +kernel
theorem dX12_aim_61 : decode cX12_aim 61 = .ok (.if_icmp .ge 43, 3) := by decide +kernel
theorem dX12_aim_64 : decode cX12_aim 64 = .ok (.iload_n 3, 1) := by decide +kernel
theorem dX12_aim_65 : decode cX12_aim 65 = .ok (.iconst (-1), 1) := by decide +kernel
theorem dX12_aim_66 : decode cX12_aim 66 = .ok (.if_icmp .ne 38, 3) := by decide +kernel
theorem dX12_aim_69 : decode cX12_aim 69 = .ok (.aload_n 0, 1) := by decide +kernel
theorem dX12_aim_70 : decode cX12_aim 70 = .ok (.iload_n 1, 1) := by decide +kernel
theorem dX12_aim_71 : decode cX12_aim 71 = .ok (.iload 4, 2) := by decide +kernel
theorem dX12_aim_73 : decode cX12_aim 73 = .ok (.invokevirtual 329, 3) := by decide +kernel
theorem dX12_aim_76 : decode cX12_aim 76 = .ok (.pop, 1) := by decide +kernel
theorem dX12_aim_77 : decode cX12_aim 77 = .ok (.aload_n 0, 1) := by decide +kernel
theorem dX12_aim_78 : decode cX12_aim 78 = .ok (.iload_n 2, 1) := by decide +kernel
theorem dX12_aim_79 : decode cX12_aim 79 = .ok (.iconst 1, 1) := by decide +kernel
theorem dX12_aim_80 : decode cX12_aim 80 = .ok (.iadd, 1) := by decide +kernel
theorem dX12_aim_81 : decode cX12_aim 81 = .ok (.invokevirtual 359, 3) := by decide +kernel
theorem dX12_aim_84 : decode cX12_aim 84 = .ok (.iload_n 2, 1) := by decide +kernel
theorem dX12_aim_85 : decode cX12_aim 85 = .ok (.if_icmp .ne 6, 3) := by decide +kernel
theorem dX12_aim_88 : decode cX12_aim 88 = .ok (.iload 4, 2) := by decide +kernel
theorem dX12_aim_90 : decode cX12_aim 90 = .ok (.istore_n 3, 1) := by decide +kernel
theorem dX12_aim_91 : decode cX12_aim 91 = .ok (.aload_n 0, 1) := by decide +kernel
theorem dX12_aim_92 : decode cX12_aim 92 = .ok (.sipush 2688, 3) := by decide +kernel
theorem dX12_aim_95 : decode cX12_aim 95 = .ok (.invokevirtual 353, 3) := by decide +kernel
theorem dX12_aim_98 : decode cX12_aim 98 = .ok (.iinc 4 1, 3) := by decide +kernel
theorem dX12_aim_101 : decode cX12_aim 101 = .ok (.goto (-48), 3) := by decide +kernel
theorem dX12_aim_104 : decode cX12_aim 104 = .ok (.aload_n 0, 1) := by decide +kernel
theorem dX12_aim_105 : decode cX12_aim 105 = .ok (.iload_n 3, 1) := by decide +kernel
theorem dX12_aim_106 : decode cX12_aim 106 = .ok (.invokevirtual 296, 3) := by decide +kernel
theorem dX12_aim_109 : decode cX12_aim 109 = .ok (.ireturn, 1) := by decide +kernel
theorem dX12_laysSoonest_0 : decode cX12_laysSoonest 0 = .ok (.aload_n 0, 1) := by decide +kernel
theorem dX12_laysSoonest_1 : decode cX12_laysSoonest 1 = .ok (.sipush 2688, 3) := by decide +kernel
theorem dX12_laysSoonest_4 : decode cX12_laysSoonest 4 = .ok (.invokevirtual 350, 3) := by decide +kernel
theorem dX12_laysSoonest_7 : decode cX12_laysSoonest 7 = .ok (.aload_n 0, 1) := by decide +kernel
theorem dX12_laysSoonest_8 : decode cX12_laysSoonest 8 = .ok (.ldc_w 373, 3) := by decide +kernel
theorem dX12_laysSoonest_11 : decode cX12_laysSoonest 11 = .ok (.putfield 374, 3) := by decide +kernel
theorem dX12_laysSoonest_14 : decode cX12_laysSoonest 14 = .ok (.aload_n 0, 1) := by decide +kernel
theorem dX12_laysSoonest_15 : decode cX12_laysSoonest 15 = .ok (.iconst (-1), 1) := by decide +kernel
theorem dX12_laysSoonest_16 : decode cX12_laysSoonest 16 = .ok (.putfield 377, 3) := by decide +kernel
theorem dX12_laysSoonest_19 : decode cX12_laysSoonest 19 = .ok (.iconst 0, 1) := by decide +kernel
theorem dX12_laysSoonest_20 : decode cX12_laysSoonest 20 = .ok (.istore_n 2, 1) := by decide +kernel
theorem dX12_laysSoonest_21 : decode cX12_laysSoonest 21 = .ok (.iload_n 2, 1) := by decide +kernel
theorem dX12_laysSoonest_22 : decode cX12_laysSoonest 22 = .ok (.aload_n 0, 1) := by decide +kernel
theorem dX12_laysSoonest_23 : decode cX12_laysSoonest 23 = .ok (.getfield 7, 3) := by decide +kernel
theorem dX12_laysSoonest_26 : decode cX12_laysSoonest 26 = .ok (.iconst 2, 1) := by decide +kernel
theorem dX12_laysSoonest_27 : decode cX12_laysSoonest 27 = .ok (.iaload, 1) := by decide +kernel
theorem dX12_laysSoonest_28 : decode cX12_laysSoonest 28 = .ok (.if_icmp .ge 55, 3) := by decide +kernel
theorem dX12_laysSoonest_31 : decode cX12_laysSoonest 31 = .ok (.aload_n 0, 1) := by decide +kernel
theorem dX12_laysSoonest_32 : decode cX12_laysSoonest 32 = .ok (.iload_n 1, 1) := by decide +kernel
theorem dX12_laysSoonest_33 : decode cX12_laysSoonest 33 = .ok (.iload_n 2, 1) := by decide +kernel
theorem dX12_laysSoonest_34 : decode cX12_laysSoonest 34 = .ok (.invokevirtual 329, 3) := by decide +kernel
theorem dX12_laysSoonest_37 : decode cX12_laysSoonest 37 = .ok (.pop, 1) := by decide +kernel
theorem dX12_laysSoonest_38 : decode cX12_laysSoonest 38 = .ok (.aload_n 0, 1) := by decide +kernel
theorem dX12_laysSoonest_39 : decode cX12_laysSoonest 39 = .ok (.iload_n 1, 1) := by decide +kernel
theorem dX12_laysSoonest_40 : decode cX12_laysSoonest 40 = .ok (.invokevirtual 356, 3) := by decide +kernel
theorem dX12_laysSoonest_43 : decode cX12_laysSoonest 43 = .ok (.istore_n 3, 1) := by decide +kernel
theorem dX12_laysSoonest_44 : decode cX12_laysSoonest 44 = .ok (.aload_n 0, 1) := by decide +kernel
theorem dX12_laysSoonest_45 : decode cX12_laysSoonest 45 = .ok (.sipush 2688, 3) := by decide +kernel
theorem dX12_laysSoonest_48 : decode cX12_laysSoonest 48 = .ok (.invokevirtual 353, 3) := by decide +kernel
theorem dX12_laysSoonest_51 : decode cX12_laysSoonest 51 = .ok (.iload_n 3, 1) := by decide +kernel
theorem dX12_laysSoonest_52 : decode cX12_laysSoonest 52 = .ok (.iconst (-1), 1) := by decide +kernel
theorem dX12_laysSoonest_53 : decode cX12_laysSoonest 53 = .ok (.if_icmp .eq 24, 3) := by decide +kernel
theorem dX12_laysSoonest_56 : decode cX12_laysSoonest 56 = .ok (.iload_n 3, 1) := by decide +kernel
theorem dX12_laysSoonest_57 : decode cX12_laysSoonest 57 = .ok (.aload_n 0, 1) := by decide +kernel
theorem dX12_laysSoonest_58 : decode cX12_laysSoonest 58 = .ok (.getfield 374, 3) := by decide +kernel
theorem dX12_laysSoonest_61 : decode cX12_laysSoonest 61 = .ok (.if_icmp .lt 6, 3) := by decide +kernel
theorem dX12_laysSoonest_64 : decode cX12_laysSoonest 64 = .ok (.goto 13, 3) := by decide +kernel
theorem dX12_laysSoonest_67 : decode cX12_laysSoonest 67 = .ok (.aload_n 0, 1) := by decide +kernel
theorem dX12_laysSoonest_68 : decode cX12_laysSoonest 68 = .ok (.iload_n 3, 1) := by decide +kernel
theorem dX12_laysSoonest_69 : decode cX12_laysSoonest 69 = .ok (.putfield 374, 3) := by decide +kernel
theorem dX12_laysSoonest_72 : decode cX12_laysSoonest 72 = .ok (.aload_n 0, 1) := by decide +kernel
theorem dX12_laysSoonest_73 : decode cX12_laysSoonest 73 = .ok (.iload_n 2, 1) := by decide +kernel
theorem dX12_laysSoonest_74 : decode cX12_laysSoonest 74 = .ok (.putfield 377, 3) := by decide +kernel
theorem dX12_laysSoonest_77 : decode cX12_laysSoonest 77 = .ok (.iinc 2 1, 3) := by decide +kernel
theorem dX12_laysSoonest_80 : decode cX12_laysSoonest 80 = .ok (.goto (-59), 3) := by decide +kernel
theorem dX12_laysSoonest_83 : decode cX12_laysSoonest 83 = .ok (.return_, 1) := by decide +kernel
theorem dX12_soonest_0 : decode cX12_soonest 0 = .ok (.aload_n 0, 1) := by decide +kernel
theorem dX12_soonest_1 : decode cX12_soonest 1 = .ok (.iload_n 1, 1) := by decide +kernel
theorem dX12_soonest_2 : decode cX12_soonest 2 = .ok (.invokevirtual 284, 3) := by decide +kernel
theorem dX12_soonest_5 : decode cX12_soonest 5 = .ok (.ifCond .ne 9, 3) := by decide +kernel
theorem dX12_soonest_8 : decode cX12_soonest 8 = .ok (.aload_n 0, 1) := by decide +kernel
theorem dX12_soonest_9 : decode cX12_soonest 9 = .ok (.iconst 1, 1) := by decide +kernel
theorem dX12_soonest_10 : decode cX12_soonest 10 = .ok (.invokevirtual 91, 3) := by decide +kernel
theorem dX12_soonest_13 : decode cX12_soonest 13 = .ok (.ireturn, 1) := by decide +kernel
theorem dX12_soonest_14 : decode cX12_soonest 14 = .ok (.aload_n 0, 1) := by decide +kernel
theorem dX12_soonest_15 : decode cX12_soonest 15 = .ok (.iload_n 1, 1) := by decide +kernel
theorem dX12_soonest_16 : decode cX12_soonest 16 = .ok (.invokevirtual 323, 3) := by decide +kernel
theorem dX12_soonest_19 : decode cX12_soonest 19 = .ok (.ifCond .ne 10, 3) := by decide +kernel
theorem dX12_soonest_22 : decode cX12_soonest 22 = .ok (.aload_n 0, 1) := by decide +kernel
theorem dX12_soonest_23 : decode cX12_soonest 23 = .ok (.bipush 7, 2) := by decide +kernel
theorem dX12_soonest_25 : decode cX12_soonest 25 = .ok (.invokevirtual 91, 3) := by decide +kernel
theorem dX12_soonest_28 : decode cX12_soonest 28 = .ok (.ireturn, 1) := by decide +kernel
theorem dX12_soonest_29 : decode cX12_soonest 29 = .ok (.aload_n 0, 1) := by decide +kernel
theorem dX12_soonest_30 : decode cX12_soonest 30 = .ok (.iload_n 1, 1) := by decide +kernel
theorem dX12_soonest_31 : decode cX12_soonest 31 = .ok (.invokevirtual 380, 3) := by decide +kernel
theorem dX12_soonest_34 : decode cX12_soonest 34 = .ok (.aload_n 0, 1) := by decide +kernel
theorem dX12_soonest_35 : decode cX12_soonest 35 = .ok (.aload_n 0, 1) := by decide +kernel
theorem dX12_soonest_36 : decode cX12_soonest 36 = .ok (.getfield 377, 3) := by decide +kernel
theorem dX12_soonest_39 : decode cX12_soonest 39 = .ok (.invokevirtual 296, 3) := by decide +kernel
theorem dX12_soonest_42 : decode cX12_soonest 42 = .ok (.ireturn, 1) := by decide +kernel
theorem dX12_soonestIn_0 : decode cX12_soonestIn 0 = .ok (.aload_n 0, 1) := by decide +kernel
theorem dX12_soonestIn_1 : decode cX12_soonestIn 1 = .ok (.iload_n 1, 1) := by decide +kernel
theorem dX12_soonestIn_2 : decode cX12_soonestIn 2 = .ok (.invokevirtual 284, 3) := by decide +kernel
theorem dX12_soonestIn_5 : decode cX12_soonestIn 5 = .ok (.ifCond .ne 9, 3) := by decide +kernel
theorem dX12_soonestIn_8 : decode cX12_soonestIn 8 = .ok (.aload_n 0, 1) := by decide +kernel
theorem dX12_soonestIn_9 : decode cX12_soonestIn 9 = .ok (.iconst 1, 1) := by decide +kernel
theorem dX12_soonestIn_10 : decode cX12_soonestIn 10 = .ok (.invokevirtual 91, 3) := by decide +kernel
theorem dX12_soonestIn_13 : decode cX12_soonestIn 13 = .ok (.ireturn, 1) := by decide +kernel
theorem dX12_soonestIn_14 : decode cX12_soonestIn 14 = .ok (.aload_n 0, 1) := by decide +kernel
theorem dX12_soonestIn_15 : decode cX12_soonestIn 15 = .ok (.iload_n 1, 1) := by decide +kernel
theorem dX12_soonestIn_16 : decode cX12_soonestIn 16 = .ok (.invokevirtual 323, 3) := by decide +kernel
theorem dX12_soonestIn_19 : decode cX12_soonestIn 19 = .ok (.ifCond .ne 10, 3) := by decide +kernel
theorem dX12_soonestIn_22 : decode cX12_soonestIn 22 = .ok (.aload_n 0, 1) := by decide +kernel
theorem dX12_soonestIn_23 : decode cX12_soonestIn 23 = .ok (.bipush 7, 2) := by decide +kernel
theorem dX12_soonestIn_25 : decode cX12_soonestIn 25 = .ok (.invokevirtual 91, 3) := by decide +kernel
theorem dX12_soonestIn_28 : decode cX12_soonestIn 28 = .ok (.ireturn, 1) := by decide +kernel
theorem dX12_soonestIn_29 : decode cX12_soonestIn 29 = .ok (.aload_n 0, 1) := by decide +kernel
theorem dX12_soonestIn_30 : decode cX12_soonestIn 30 = .ok (.iload_n 1, 1) := by decide +kernel
theorem dX12_soonestIn_31 : decode cX12_soonestIn 31 = .ok (.invokevirtual 380, 3) := by decide +kernel
theorem dX12_soonestIn_34 : decode cX12_soonestIn 34 = .ok (.aload_n 0, 1) := by decide +kernel
theorem dX12_soonestIn_35 : decode cX12_soonestIn 35 = .ok (.getfield 377, 3) := by decide +kernel
theorem dX12_soonestIn_38 : decode cX12_soonestIn 38 = .ok (.iconst (-1), 1) := by decide +kernel
theorem dX12_soonestIn_39 : decode cX12_soonestIn 39 = .ok (.if_icmp .ne 12, 3) := by decide +kernel
theorem dX12_soonestIn_42 : decode cX12_soonestIn 42 = .ok (.aload_n 0, 1) := by decide +kernel
theorem dX12_soonestIn_43 : decode cX12_soonestIn 43 = .ok (.bipush 6, 2) := by decide +kernel
theorem dX12_soonestIn_45 : decode cX12_soonestIn 45 = .ok (.invokevirtual 91, 3) := by decide +kernel
theorem dX12_soonestIn_48 : decode cX12_soonestIn 48 = .ok (.goto 11, 3) := by decide +kernel
theorem dX12_soonestIn_51 : decode cX12_soonestIn 51 = .ok (.aload_n 0, 1) := by decide +kernel
theorem dX12_soonestIn_52 : decode cX12_soonestIn 52 = .ok (.aload_n 0, 1) := by decide +kernel
theorem dX12_soonestIn_53 : decode cX12_soonestIn 53 = .ok (.getfield 374, 3) := by decide +kernel
theorem dX12_soonestIn_56 : decode cX12_soonestIn 56 = .ok (.invokevirtual 95, 3) := by decide +kernel
theorem dX12_soonestIn_59 : decode cX12_soonestIn 59 = .ok (.ireturn, 1) := by decide +kernel
theorem dX12_laysDrive_0 : decode cX12_laysDrive 0 = .ok (.aload_n 0, 1) := by decide +kernel
theorem dX12_laysDrive_1 : decode cX12_laysDrive 1 = .ok (.sipush 2688, 3) := by decide +kernel
theorem dX12_laysDrive_4 : decode cX12_laysDrive 4 = .ok (.invokevirtual 350, 3) := by decide +kernel
theorem dX12_laysDrive_7 : decode cX12_laysDrive 7 = .ok (.aload_n 0, 1) := by decide +kernel
theorem dX12_laysDrive_8 : decode cX12_laysDrive 8 = .ok (.getfield 50, 3) := by decide +kernel
theorem dX12_laysDrive_11 : decode cX12_laysDrive 11 = .ok (.iconst 2, 1) := by decide +kernel
theorem dX12_laysDrive_12 : decode cX12_laysDrive 12 = .ok (.iconst (-1), 1) := by decide +kernel
theorem dX12_laysDrive_13 : decode cX12_laysDrive 13 = .ok (.iastore, 1) := by decide +kernel
theorem dX12_laysDrive_14 : decode cX12_laysDrive 14 = .ok (.aload_n 0, 1) := by decide +kernel
theorem dX12_laysDrive_15 : decode cX12_laysDrive 15 = .ok (.iload_n 1, 1) := by decide +kernel
theorem dX12_laysDrive_16 : decode cX12_laysDrive 16 = .ok (.iconst 2, 1) := by decide +kernel
theorem dX12_laysDrive_17 : decode cX12_laysDrive 17 = .ok (.invokevirtual 290, 3) := by decide +kernel
theorem dX12_laysDrive_20 : decode cX12_laysDrive 20 = .ok (.istore 5, 2) := by decide +kernel
theorem dX12_laysDrive_22 : decode cX12_laysDrive 22 = .ok (.iconst 0, 1) := by decide +kernel
theorem dX12_laysDrive_23 : decode cX12_laysDrive 23 = .ok (.istore 6, 2) := by decide +kernel
theorem dX12_laysDrive_25 : decode cX12_laysDrive 25 = .ok (.iload 6, 2) := by decide +kernel
theorem dX12_laysDrive_27 : decode cX12_laysDrive 27 = .ok (.aload_n 0, 1) := by decide +kernel
theorem dX12_laysDrive_28 : decode cX12_laysDrive 28 = .ok (.getfield 7, 3) := by decide +kernel
theorem dX12_laysDrive_31 : decode cX12_laysDrive 31 = .ok (.iconst 2, 1) := by decide +kernel
theorem dX12_laysDrive_32 : decode cX12_laysDrive 32 = .ok (.iaload, 1) := by decide +kernel
theorem dX12_laysDrive_33 : decode cX12_laysDrive 33 = .ok (.if_icmp .ge 108, 3) := by decide +kernel
theorem dX12_laysDrive_36 : decode cX12_laysDrive 36 = .ok (.iconst 0, 1) := by decide +kernel
theorem dX12_laysDrive_37 : decode cX12_laysDrive 37 = .ok (.istore 7, 2) := by decide +kernel
theorem dX12_laysDrive_39 : decode cX12_laysDrive 39 = .ok (.iload 7, 2) := by decide +kernel
theorem dX12_laysDrive_41 : decode cX12_laysDrive 41 = .ok (.aload_n 0, 1) := by decide +kernel
theorem dX12_laysDrive_42 : decode cX12_laysDrive 42 = .ok (.getfield 7, 3) := by decide +kernel
theorem dX12_laysDrive_45 : decode cX12_laysDrive 45 = .ok (.iconst 2, 1) := by decide +kernel
theorem dX12_laysDrive_46 : decode cX12_laysDrive 46 = .ok (.iaload, 1) := by decide +kernel
theorem dX12_laysDrive_47 : decode cX12_laysDrive 47 = .ok (.if_icmp .ge 88, 3) := by decide +kernel
theorem dX12_laysDrive_50 : decode cX12_laysDrive 50 = .ok (.aload_n 0, 1) := by decide +kernel
theorem dX12_laysDrive_51 : decode cX12_laysDrive 51 = .ok (.iload_n 2, 1) := by decide +kernel
theorem dX12_laysDrive_52 : decode cX12_laysDrive 52 = .ok (.iload 6, 2) := by decide +kernel
theorem dX12_laysDrive_54 : decode cX12_laysDrive 54 = .ok (.invokevirtual 329, 3) := by decide +kernel
theorem dX12_laysDrive_57 : decode cX12_laysDrive 57 = .ok (.pop, 1) := by decide +kernel
theorem dX12_laysDrive_58 : decode cX12_laysDrive 58 = .ok (.aload_n 0, 1) := by decide +kernel
theorem dX12_laysDrive_59 : decode cX12_laysDrive 59 = .ok (.iload_n 3, 1) := by decide +kernel
theorem dX12_laysDrive_60 : decode cX12_laysDrive 60 = .ok (.iload 7, 2) := by decide +kernel
theorem dX12_laysDrive_62 : decode cX12_laysDrive 62 = .ok (.invokevirtual 329, 3) := by decide +kernel
theorem dX12_laysDrive_65 : decode cX12_laysDrive 65 = .ok (.pop, 1) := by decide +kernel
theorem dX12_laysDrive_66 : decode cX12_laysDrive 66 = .ok (.aload_n 0, 1) := by decide +kernel
theorem dX12_laysDrive_67 : decode cX12_laysDrive 67 = .ok (.iload 4, 2) := by decide +kernel
theorem dX12_laysDrive_69 : decode cX12_laysDrive 69 = .ok (.invokevirtual 320, 3) := by decide +kernel
theorem dX12_laysDrive_72 : decode cX12_laysDrive 72 = .ok (.pop, 1) := by decide +kernel
theorem dX12_laysDrive_73 : decode cX12_laysDrive 73 = .ok (.aload_n 0, 1) := by decide +kernel
theorem dX12_laysDrive_74 : decode cX12_laysDrive 74 = .ok (.iload_n 1, 1) := by decide +kernel
theorem dX12_laysDrive_75 : decode cX12_laysDrive 75 = .ok (.iconst 2, 1) := by decide +kernel
theorem dX12_laysDrive_76 : decode cX12_laysDrive 76 = .ok (.invokevirtual 290, 3) := by decide +kernel
theorem dX12_laysDrive_79 : decode cX12_laysDrive 79 = .ok (.iload 5, 2) := by decide +kernel
theorem dX12_laysDrive_81 : decode cX12_laysDrive 81 = .ok (.isub, 1) := by decide +kernel
theorem dX12_laysDrive_82 : decode cX12_laysDrive 82 = .ok (.istore 8, 2) := by decide +kernel
theorem dX12_laysDrive_84 : decode cX12_laysDrive 84 = .ok (.aload_n 0, 1) := by decide +kernel
theorem dX12_laysDrive_85 : decode cX12_laysDrive 85 = .ok (.sipush 2688, 3) := by decide +kernel
theorem dX12_laysDrive_88 : decode cX12_laysDrive 88 = .ok (.invokevirtual 353, 3) := by decide +kernel
theorem dX12_laysDrive_91 : decode cX12_laysDrive 91 = .ok (.iload 8, 2) := by decide +kernel
theorem dX12_laysDrive_93 : decode cX12_laysDrive 93 = .ok (.aload_n 0, 1) := by decide +kernel
theorem dX12_laysDrive_94 : decode cX12_laysDrive 94 = .ok (.getfield 50, 3) := by decide +kernel
theorem dX12_laysDrive_97 : decode cX12_laysDrive 97 = .ok (.iconst 2, 1) := by decide +kernel
theorem dX12_laysDrive_98 : decode cX12_laysDrive 98 = .ok (.iaload, 1) := by decide +kernel
theorem dX12_laysDrive_99 : decode cX12_laysDrive 99 = .ok (.if_icmp .gt 6, 3) := by decide +kernel
theorem dX12_laysDrive_102 : decode cX12_laysDrive 102 = .ok (.goto 27, 3) := by decide +kernel
theorem dX12_laysDrive_105 : decode cX12_laysDrive 105 = .ok (.aload_n 0, 1) := by decide +kernel
theorem dX12_laysDrive_106 : decode cX12_laysDrive 106 = .ok (.getfield 50, 3) := by decide +kernel
theorem dX12_laysDrive_109 : decode cX12_laysDrive 109 = .ok (.iconst 0, 1) := by decide +kernel
theorem dX12_laysDrive_110 : decode cX12_laysDrive 110 = .ok (.iload 6, 2) := by decide +kernel
theorem dX12_laysDrive_112 : decode cX12_laysDrive 112 = .ok (.iastore, 1) := by decide +kernel
theorem dX12_laysDrive_113 : decode cX12_laysDrive 113 = .ok (.aload_n 0, 1) := by decide +kernel
theorem dX12_laysDrive_114 : decode cX12_laysDrive 114 = .ok (.getfield 50, 3) := by decide +kernel
theorem dX12_laysDrive_117 : decode cX12_laysDrive 117 = .ok (.iconst 1, 1) := by decide +kernel
theorem dX12_laysDrive_118 : decode cX12_laysDrive 118 = .ok (.iload 7, 2) := by decide +kernel
theorem dX12_laysDrive_120 : decode cX12_laysDrive 120 = .ok (.iastore, 1) := by decide +kernel
theorem dX12_laysDrive_121 : decode cX12_laysDrive 121 = .ok (.aload_n 0, 1) := by decide +kernel
theorem dX12_laysDrive_122 : decode cX12_laysDrive 122 = .ok (.getfield 50, 3) := by decide +kernel
theorem dX12_laysDrive_125 : decode cX12_laysDrive 125 = .ok (.iconst 2, 1) := by decide +kernel
theorem dX12_laysDrive_126 : decode cX12_laysDrive 126 = .ok (.iload 8, 2) := by decide +kernel
theorem dX12_laysDrive_128 : decode cX12_laysDrive 128 = .ok (.iastore, 1) := by decide +kernel
theorem dX12_laysDrive_129 : decode cX12_laysDrive 129 = .ok (.iinc 7 1, 3) := by decide +kernel
theorem dX12_laysDrive_132 : decode cX12_laysDrive 132 = .ok (.goto (-93), 3) := by decide +kernel
theorem dX12_laysDrive_135 : decode cX12_laysDrive 135 = .ok (.iinc 6 1, 3) := by decide +kernel
theorem dX12_laysDrive_138 : decode cX12_laysDrive 138 = .ok (.goto (-113), 3) := by decide +kernel
theorem dX12_laysDrive_141 : decode cX12_laysDrive 141 = .ok (.return_, 1) := by decide +kernel
theorem dX12_wrongDrive_0 : decode cX12_wrongDrive 0 = .ok (.aload_n 0, 1) := by decide +kernel
theorem dX12_wrongDrive_1 : decode cX12_wrongDrive 1 = .ok (.iload_n 1, 1) := by decide +kernel
theorem dX12_wrongDrive_2 : decode cX12_wrongDrive 2 = .ok (.invokevirtual 287, 3) := by decide +kernel
theorem dX12_wrongDrive_5 : decode cX12_wrongDrive 5 = .ok (.ifCond .eq 37, 3) := by decide +kernel
theorem dX12_wrongDrive_8 : decode cX12_wrongDrive 8 = .ok (.aload_n 0, 1) := by decide +kernel
theorem dX12_wrongDrive_9 : decode cX12_wrongDrive 9 = .ok (.iload_n 2, 1) := by decide +kernel
theorem dX12_wrongDrive_10 : decode cX12_wrongDrive 10 = .ok (.invokevirtual 284, 3) := by decide +kernel
theorem dX12_wrongDrive_13 : decode cX12_wrongDrive 13 = .ok (.ifCond .eq 29, 3) := by decide +kernel
theorem dX12_wrongDrive_16 : decode cX12_wrongDrive 16 = .ok (.aload_n 0, 1) := by decide +kernel
theorem dX12_wrongDrive_17 : decode cX12_wrongDrive 17 = .ok (.iload_n 3, 1) := by decide +kernel
theorem dX12_wrongDrive_18 : decode cX12_wrongDrive 18 = .ok (.invokevirtual 284, 3) := by decide +kernel
theorem dX12_wrongDrive_21 : decode cX12_wrongDrive 21 = .ok (.ifCond .eq 21, 3) := by decide +kernel
theorem dX12_wrongDrive_24 : decode cX12_wrongDrive 24 = .ok (.iload_n 2, 1) := by decide +kernel
theorem dX12_wrongDrive_25 : decode cX12_wrongDrive 25 = .ok (.iload_n 3, 1) := by decide +kernel
theorem dX12_wrongDrive_26 : decode cX12_wrongDrive 26 = .ok (.if_icmp .eq 16, 3) := by decide +kernel
theorem dX12_wrongDrive_29 : decode cX12_wrongDrive 29 = .ok (.iload 4, 2) := by decide +kernel
theorem dX12_wrongDrive_31 : decode cX12_wrongDrive 31 = .ok (.i2l, 1) := by decide +kernel
theorem dX12_wrongDrive_32 : decode cX12_wrongDrive 32 = .ok (.lconst 0, 1) := by decide +kernel
theorem dX12_wrongDrive_33 : decode cX12_wrongDrive 33 = .ok (.ldc2_w 383, 3) := by decide +kernel
theorem dX12_wrongDrive_36 : decode cX12_wrongDrive 36 = .ok (.invokestatic 316, 3) := by decide +kernel
theorem dX12_wrongDrive_39 : decode cX12_wrongDrive 39 = .ok (.ifCond .ne 5, 3) := by decide +kernel
theorem dX12_wrongDrive_42 : decode cX12_wrongDrive 42 = .ok (.iconst 1, 1) := by decide +kernel
theorem dX12_wrongDrive_43 : decode cX12_wrongDrive 43 = .ok (.ireturn, 1) := by decide +kernel
theorem dX12_wrongDrive_44 : decode cX12_wrongDrive 44 = .ok (.aload_n 0, 1) := by decide +kernel
theorem dX12_wrongDrive_45 : decode cX12_wrongDrive 45 = .ok (.iload_n 2, 1) := by decide +kernel
theorem dX12_wrongDrive_46 : decode cX12_wrongDrive 46 = .ok (.invokevirtual 323, 3) := by decide +kernel
theorem dX12_wrongDrive_49 : decode cX12_wrongDrive 49 = .ok (.ifCond .eq 15, 3) := by decide +kernel
theorem dX12_wrongDrive_52 : decode cX12_wrongDrive 52 = .ok (.aload_n 0, 1) := by decide +kernel
theorem dX12_wrongDrive_53 : decode cX12_wrongDrive 53 = .ok (.iload_n 3, 1) := by decide +kernel
theorem dX12_wrongDrive_54 : decode cX12_wrongDrive 54 = .ok (.invokevirtual 323, 3) := by decide +kernel
theorem dX12_wrongDrive_57 : decode cX12_wrongDrive 57 = .ok (.ifCond .eq 7, 3) := by decide +kernel
theorem dX12_wrongDrive_60 : decode cX12_wrongDrive 60 = .ok (.iconst 0, 1) := by decide +kernel
theorem dX12_wrongDrive_61 : decode cX12_wrongDrive 61 = .ok (.goto 5, 3) := by decide +kernel
theorem dX12_wrongDrive_64 : decode cX12_wrongDrive 64 = .ok (.bipush 7, 2) := by decide +kernel
theorem dX12_wrongDrive_66 : decode cX12_wrongDrive 66 = .ok (.ireturn, 1) := by decide +kernel
theorem dX12_drive_0 : decode cX12_drive 0 = .ok (.aload_n 0, 1) := by decide +kernel
theorem dX12_drive_1 : decode cX12_drive 1 = .ok (.iload_n 1, 1) := by decide +kernel
theorem dX12_drive_2 : decode cX12_drive 2 = .ok (.iload_n 2, 1) := by decide +kernel
theorem dX12_drive_3 : decode cX12_drive 3 = .ok (.iload_n 3, 1) := by decide +kernel
theorem dX12_drive_4 : decode cX12_drive 4 = .ok (.iload 4, 2) := by decide +kernel
theorem dX12_drive_6 : decode cX12_drive 6 = .ok (.invokevirtual 385, 3) := by decide +kernel
theorem dX12_drive_9 : decode cX12_drive 9 = .ok (.istore 5, 2) := by decide +kernel
theorem dX12_drive_11 : decode cX12_drive 11 = .ok (.iload 5, 2) := by decide +kernel
theorem dX12_drive_13 : decode cX12_drive 13 = .ok (.ifCond .le 10, 3) := by decide +kernel
theorem dX12_drive_16 : decode cX12_drive 16 = .ok (.aload_n 0, 1) := by decide +kernel
theorem dX12_drive_17 : decode cX12_drive 17 = .ok (.iload 5, 2) := by decide +kernel
theorem dX12_drive_19 : decode cX12_drive 19 = .ok (.invokevirtual 91, 3) := by decide +kernel
theorem dX12_drive_22 : decode cX12_drive 22 = .ok (.ireturn, 1) := by decide +kernel
theorem dX12_drive_23 : decode cX12_drive 23 = .ok (.aload_n 0, 1) := by decide +kernel
theorem dX12_drive_24 : decode cX12_drive 24 = .ok (.iload_n 1, 1) := by decide +kernel
theorem dX12_drive_25 : decode cX12_drive 25 = .ok (.iload_n 2, 1) := by decide +kernel
theorem dX12_drive_26 : decode cX12_drive 26 = .ok (.iload_n 3, 1) := by decide +kernel
theorem dX12_drive_27 : decode cX12_drive 27 = .ok (.iload 4, 2) := by decide +kernel
theorem dX12_drive_29 : decode cX12_drive 29 = .ok (.invokevirtual 389, 3) := by decide +kernel
theorem dX12_drive_32 : decode cX12_drive 32 = .ok (.aload_n 0, 1) := by decide +kernel
theorem dX12_drive_33 : decode cX12_drive 33 = .ok (.aload_n 0, 1) := by decide +kernel
theorem dX12_drive_34 : decode cX12_drive 34 = .ok (.getfield 50, 3) := by decide +kernel
theorem dX12_drive_37 : decode cX12_drive 37 = .ok (.iconst 2, 1) := by decide +kernel
theorem dX12_drive_38 : decode cX12_drive 38 = .ok (.iaload, 1) := by decide +kernel
theorem dX12_drive_39 : decode cX12_drive 39 = .ok (.invokevirtual 95, 3) := by decide +kernel
theorem dX12_drive_42 : decode cX12_drive 42 = .ok (.ireturn, 1) := by decide +kernel
theorem dX12_driveCell_0 : decode cX12_driveCell 0 = .ok (.iload 5, 2) := by decide +kernel
theorem dX12_driveCell_2 : decode cX12_driveCell 2 = .ok (.ifCond .lt 9, 3) := by decide +kernel
theorem dX12_driveCell_5 : decode cX12_driveCell 5 = .ok (.iload 5, 2) := by decide +kernel
theorem dX12_driveCell_7 : decode cX12_driveCell 7 = .ok (.iconst 1, 1) := by decide +kernel
theorem dX12_driveCell_8 : decode cX12_driveCell 8 = .ok (.if_icmp .le 7, 3) := by decide +kernel
theorem dX12_driveCell_11 : decode cX12_driveCell 11 = .ok (.iconst 1, 1) := by decide +kernel
theorem dX12_driveCell_12 : decode cX12_driveCell 12 = .ok (.goto 12, 3) := by decide +kernel
theorem dX12_driveCell_15 : decode cX12_driveCell 15 = .ok (.aload_n 0, 1) := by decide +kernel
theorem dX12_driveCell_16 : decode cX12_driveCell 16 = .ok (.iload_n 1, 1) := by decide +kernel
theorem dX12_driveCell_17 : decode cX12_driveCell 17 = .ok (.iload_n 2, 1) := by decide +kernel
theorem dX12_driveCell_18 : decode cX12_driveCell 18 = .ok (.iload_n 3, 1) := by decide +kernel
theorem dX12_driveCell_19 : decode cX12_driveCell 19 = .ok (.iload 4, 2) := by decide +kernel
theorem dX12_driveCell_21 : decode cX12_driveCell 21 = .ok (.invokevirtual 385, 3) := by decide +kernel
theorem dX12_driveCell_24 : decode cX12_driveCell 24 = .ok (.istore 6, 2) := by decide +kernel
theorem dX12_driveCell_26 : decode cX12_driveCell 26 = .ok (.iload 6, 2) := by decide +kernel
theorem dX12_driveCell_28 : decode cX12_driveCell 28 = .ok (.ifCond .le 10, 3) := by decide +kernel
theorem dX12_driveCell_31 : decode cX12_driveCell 31 = .ok (.aload_n 0, 1) := by decide +kernel
theorem dX12_driveCell_32 : decode cX12_driveCell 32 = .ok (.iload 6, 2) := by decide +kernel
theorem dX12_driveCell_34 : decode cX12_driveCell 34 = .ok (.invokevirtual 91, 3) := by decide +kernel
theorem dX12_driveCell_37 : decode cX12_driveCell 37 = .ok (.ireturn, 1) := by decide +kernel
theorem dX12_driveCell_38 : decode cX12_driveCell 38 = .ok (.aload_n 0, 1) := by decide +kernel
theorem dX12_driveCell_39 : decode cX12_driveCell 39 = .ok (.iload_n 1, 1) := by decide +kernel
theorem dX12_driveCell_40 : decode cX12_driveCell 40 = .ok (.iload_n 2, 1) := by decide +kernel
theorem dX12_driveCell_41 : decode cX12_driveCell 41 = .ok (.iload_n 3, 1) := by decide +kernel
theorem dX12_driveCell_42 : decode cX12_driveCell 42 = .ok (.iload 4, 2) := by decide +kernel
theorem dX12_driveCell_44 : decode cX12_driveCell 44 = .ok (.invokevirtual 389, 3) := by decide +kernel
theorem dX12_driveCell_47 : decode cX12_driveCell 47 = .ok (.aload_n 0, 1) := by decide +kernel
theorem dX12_driveCell_48 : decode cX12_driveCell 48 = .ok (.aload_n 0, 1) := by decide +kernel
theorem dX12_driveCell_49 : decode cX12_driveCell 49 = .ok (.getfield 50, 3) := by decide +kernel
theorem dX12_driveCell_52 : decode cX12_driveCell 52 = .ok (.iload 5, 2) := by decide +kernel
theorem dX12_driveCell_54 : decode cX12_driveCell 54 = .ok (.iaload, 1) := by decide +kernel
theorem dX12_driveCell_55 : decode cX12_driveCell 55 = .ok (.invokevirtual 95, 3) := by decide +kernel
theorem dX12_driveCell_58 : decode cX12_driveCell 58 = .ok (.ireturn, 1) := by decide +kernel
theorem dX12_wrongMinded_0 : decode cX12_wrongMinded 0 = .ok (.aload_n 0, 1) := by decide +kernel
theorem dX12_wrongMinded_1 : decode cX12_wrongMinded 1 = .ok (.iload_n 1, 1) := by decide +kernel
theorem dX12_wrongMinded_2 : decode cX12_wrongMinded 2 = .ok (.invokevirtual 284, 3) := by decide +kernel
theorem dX12_wrongMinded_5 : decode cX12_wrongMinded 5 = .ok (.ifCond .eq 22, 3) := by decide +kernel
theorem dX12_wrongMinded_8 : decode cX12_wrongMinded 8 = .ok (.iload_n 2, 1) := by decide +kernel
theorem dX12_wrongMinded_9 : decode cX12_wrongMinded 9 = .ok (.invokestatic 102, 3) := by decide +kernel
theorem dX12_wrongMinded_12 : decode cX12_wrongMinded 12 = .ok (.ifCond .eq 15, 3) := by decide +kernel
theorem dX12_wrongMinded_15 : decode cX12_wrongMinded 15 = .ok (.iload_n 3, 1) := by decide +kernel
theorem dX12_wrongMinded_16 : decode cX12_wrongMinded 16 = .ok (.i2l, 1) := by decide +kernel
theorem dX12_wrongMinded_17 : decode cX12_wrongMinded 17 = .ok (.lconst 0, 1) := by decide +kernel
theorem dX12_wrongMinded_18 : decode cX12_wrongMinded 18 = .ok (.ldc2_w 393, 3) := by decide +kernel
theorem dX12_wrongMinded_21 : decode cX12_wrongMinded 21 = .ok (.invokestatic 316, 3) := by decide +kernel
theorem dX12_wrongMinded_24 : decode cX12_wrongMinded 24 = .ok (.ifCond .ne 5, 3) := by decide +kernel
theorem dX12_wrongMinded_27 : decode cX12_wrongMinded 27 = .ok (.iconst 1, 1) := by decide +kernel
theorem dX12_wrongMinded_28 : decode cX12_wrongMinded 28 = .ok (.ireturn, 1) := by decide +kernel
theorem dX12_wrongMinded_29 : decode cX12_wrongMinded 29 = .ok (.aload_n 0, 1) := by decide +kernel
theorem dX12_wrongMinded_30 : decode cX12_wrongMinded 30 = .ok (.getfield 24, 3) := by decide +kernel
theorem dX12_wrongMinded_33 : decode cX12_wrongMinded 33 = .ok (.iload_n 2, 1) := by decide +kernel
theorem dX12_wrongMinded_34 : decode cX12_wrongMinded 34 = .ok (.iaload, 1) := by decide +kernel
theorem dX12_wrongMinded_35 : decode cX12_wrongMinded 35 = .ok (.iconst (-1), 1) := by decide +kernel
theorem dX12_wrongMinded_36 : decode cX12_wrongMinded 36 = .ok (.if_icmp .ne 5, 3) := by decide +kernel
theorem dX12_wrongMinded_39 : decode cX12_wrongMinded 39 = .ok (.iconst 2, 1) := by decide +kernel
theorem dX12_wrongMinded_40 : decode cX12_wrongMinded 40 = .ok (.ireturn, 1) := by decide +kernel
theorem dX12_wrongMinded_41 : decode cX12_wrongMinded 41 = .ok (.aload_n 0, 1) := by decide +kernel
theorem dX12_wrongMinded_42 : decode cX12_wrongMinded 42 = .ok (.getfield 24, 3) := by decide +kernel
theorem dX12_wrongMinded_45 : decode cX12_wrongMinded 45 = .ok (.iload_n 2, 1) := by decide +kernel
theorem dX12_wrongMinded_46 : decode cX12_wrongMinded 46 = .ok (.iaload, 1) := by decide +kernel
theorem dX12_wrongMinded_47 : decode cX12_wrongMinded 47 = .ok (.iconst 2, 1) := by decide +kernel
theorem dX12_wrongMinded_48 : decode cX12_wrongMinded 48 = .ok (.iload_n 3, 1) := by decide +kernel
theorem dX12_wrongMinded_49 : decode cX12_wrongMinded 49 = .ok (.imul, 1) := by decide +kernel
theorem dX12_wrongMinded_50 : decode cX12_wrongMinded 50 = .ok (.if_icmp .ge 5, 3) := by decide +kernel
theorem dX12_wrongMinded_53 : decode cX12_wrongMinded 53 = .ok (.iconst 3, 1) := by decide +kernel
theorem dX12_wrongMinded_54 : decode cX12_wrongMinded 54 = .ok (.ireturn, 1) := by decide +kernel
theorem dX12_wrongMinded_55 : decode cX12_wrongMinded 55 = .ok (.iconst 0, 1) := by decide +kernel
theorem dX12_wrongMinded_56 : decode cX12_wrongMinded 56 = .ok (.istore 4, 2) := by decide +kernel
theorem dX12_wrongMinded_58 : decode cX12_wrongMinded 58 = .ok (.iload 4, 2) := by decide +kernel
theorem dX12_wrongMinded_60 : decode cX12_wrongMinded 60 = .ok (.iload_n 3, 1) := by decide +kernel
theorem dX12_wrongMinded_61 : decode cX12_wrongMinded 61 = .ok (.if_icmp .ge 56, 3) := by decide +kernel
theorem dX12_wrongMinded_64 : decode cX12_wrongMinded 64 = .ok (.bipush 60, 2) := by decide +kernel
theorem dX12_wrongMinded_66 : decode cX12_wrongMinded 66 = .ok (.iload_n 2, 1) := by decide +kernel
theorem dX12_wrongMinded_67 : decode cX12_wrongMinded 67 = .ok (.imul, 1) := by decide +kernel
theorem dX12_wrongMinded_68 : decode cX12_wrongMinded 68 = .ok (.iconst 2, 1) := by decide +kernel
theorem dX12_wrongMinded_69 : decode cX12_wrongMinded 69 = .ok (.iload 4, 2) := by decide +kernel
theorem dX12_wrongMinded_71 : decode cX12_wrongMinded 71 = .ok (.imul, 1) := by decide +kernel
theorem dX12_wrongMinded_72 : decode cX12_wrongMinded 72 = .ok (.iadd, 1) := by decide +kernel
theorem dX12_wrongMinded_73 : decode cX12_wrongMinded 73 = .ok (.istore 5, 2) := by decide +kernel
theorem dX12_wrongMinded_75 : decode cX12_wrongMinded 75 = .ok (.aload_n 0, 1) := by decide +kernel
theorem dX12_wrongMinded_76 : decode cX12_wrongMinded 76 = .ok (.getfield 27, 3) := by decide +kernel
theorem dX12_wrongMinded_79 : decode cX12_wrongMinded 79 = .ok (.iload 5, 2) := by decide +kernel
theorem dX12_wrongMinded_81 : decode cX12_wrongMinded 81 = .ok (.laload, 1) := by decide +kernel
theorem dX12_wrongMinded_82 : decode cX12_wrongMinded 82 = .ok (.lconst 0, 1) := by decide +kernel
theorem dX12_wrongMinded_83 : decode cX12_wrongMinded 83 = .ok (.ldc2_w 371, 3) := by decide +kernel
theorem dX12_wrongMinded_86 : decode cX12_wrongMinded 86 = .ok (.invokestatic 316, 3) := by decide +kernel
theorem dX12_wrongMinded_89 : decode cX12_wrongMinded 89 = .ok (.ifCond .eq 20, 3) := by decide +kernel
theorem dX12_wrongMinded_92 : decode cX12_wrongMinded 92 = .ok (.aload_n 0, 1) := by decide +kernel
theorem dX12_wrongMinded_93 : decode cX12_wrongMinded 93 = .ok (.getfield 27, 3) := by decide +kernel
theorem dX12_wrongMinded_96 : decode cX12_wrongMinded 96 = .ok (.iload 5, 2) := by decide +kernel
theorem dX12_wrongMinded_98 : decode cX12_wrongMinded 98 = .ok (.iconst 1, 1) := by decide +kernel
theorem dX12_wrongMinded_99 : decode cX12_wrongMinded 99 = .ok (.iadd, 1) := by decide +kernel
theorem dX12_wrongMinded_100 : decode cX12_wrongMinded 100 = .ok (.laload, 1) := by decide +kernel
theorem dX12_wrongMinded_101 : decode cX12_wrongMinded 101 = .ok (.lconst 0, 1) := by decide +kernel
theorem dX12_wrongMinded_102 : decode cX12_wrongMinded 102 = .ok (.lconst 1, 1) := by decide +kernel
theorem dX12_wrongMinded_103 : decode cX12_wrongMinded 103 = .ok (.invokestatic 316, 3) := by decide +kernel
theorem dX12_wrongMinded_106 : decode cX12_wrongMinded 106 = .ok (.ifCond .ne 5, 3) := by decide +kernel
theorem dX12_wrongMinded_109 : decode cX12_wrongMinded 109 = .ok (.iconst 5, 1) := by decide +kernel
theorem dX12_wrongMinded_110 : decode cX12_wrongMinded 110 = .ok (.ireturn, 1) := by decide +kernel
theorem dX12_wrongMinded_111 : decode cX12_wrongMinded 111 = .ok (.iinc 4 1, 3) := by decide +kernel
theorem dX12_wrongMinded_114 : decode cX12_wrongMinded 114 = .ok (.goto (-56), 3) := by decide +kernel
theorem dX12_wrongMinded_117 : decode cX12_wrongMinded 117 = .ok (.iconst 0, 1) := by decide +kernel
theorem dX12_wrongMinded_118 : decode cX12_wrongMinded 118 = .ok (.ireturn, 1) := by decide +kernel
theorem dX12_laysMinds_0 : decode cX12_laysMinds 0 = .ok (.aload_n 0, 1) := by decide +kernel
theorem dX12_laysMinds_1 : decode cX12_laysMinds 1 = .ok (.sipush 2688, 3) := by decide +kernel
theorem dX12_laysMinds_4 : decode cX12_laysMinds 4 = .ok (.invokevirtual 350, 3) := by decide +kernel
theorem dX12_laysMinds_7 : decode cX12_laysMinds 7 = .ok (.aload_n 0, 1) := by decide +kernel
theorem dX12_laysMinds_8 : decode cX12_laysMinds 8 = .ok (.iconst 0, 1) := by decide +kernel
theorem dX12_laysMinds_9 : decode cX12_laysMinds 9 = .ok (.putfield 395, 3) := by decide +kernel
theorem dX12_laysMinds_12 : decode cX12_laysMinds 12 = .ok (.iconst 1, 1) := by decide +kernel
theorem dX12_laysMinds_13 : decode cX12_laysMinds 13 = .ok (.istore 4, 2) := by decide +kernel
theorem dX12_laysMinds_15 : decode cX12_laysMinds 15 = .ok (.iload 4, 2) := by decide +kernel
theorem dX12_laysMinds_17 : decode cX12_laysMinds 17 = .ok (.bipush 24, 2) := by decide +kernel
theorem dX12_laysMinds_19 : decode cX12_laysMinds 19 = .ok (.if_icmp .gt 179, 3) := by decide +kernel
theorem dX12_laysMinds_22 : decode cX12_laysMinds 22 = .ok (.aload_n 0, 1) := by decide +kernel
theorem dX12_laysMinds_23 : decode cX12_laysMinds 23 = .ok (.getfield 7, 3) := by decide +kernel
theorem dX12_laysMinds_26 : decode cX12_laysMinds 26 = .ok (.iload_n 1, 1) := by decide +kernel
theorem dX12_laysMinds_27 : decode cX12_laysMinds 27 = .ok (.invokestatic 203, 3) := by decide +kernel
theorem dX12_laysMinds_30 : decode cX12_laysMinds 30 = .ok (.iconst 2, 1) := by decide +kernel
theorem dX12_laysMinds_31 : decode cX12_laysMinds 31 = .ok (.iadd, 1) := by decide +kernel
theorem dX12_laysMinds_32 : decode cX12_laysMinds 32 = .ok (.iload 4, 2) := by decide +kernel
theorem dX12_laysMinds_34 : decode cX12_laysMinds 34 = .ok (.iastore, 1) := by decide +kernel
theorem dX12_laysMinds_35 : decode cX12_laysMinds 35 = .ok (.iconst 0, 1) := by decide +kernel
theorem dX12_laysMinds_36 : decode cX12_laysMinds 36 = .ok (.istore 5, 2) := by decide +kernel
theorem dX12_laysMinds_38 : decode cX12_laysMinds 38 = .ok (.iload 5, 2) := by decide +kernel
theorem dX12_laysMinds_40 : decode cX12_laysMinds 40 = .ok (.bipush 60, 2) := by decide +kernel
theorem dX12_laysMinds_42 : decode cX12_laysMinds 42 = .ok (.if_icmp .gt 26, 3) := by decide +kernel
theorem dX12_laysMinds_45 : decode cX12_laysMinds 45 = .ok (.aload_n 0, 1) := by decide +kernel
theorem dX12_laysMinds_46 : decode cX12_laysMinds 46 = .ok (.getfield 57, 3) := by decide +kernel
theorem dX12_laysMinds_49 : decode cX12_laysMinds 49 = .ok (.bipush 61, 2) := by decide +kernel
theorem dX12_laysMinds_51 : decode cX12_laysMinds 51 = .ok (.iload 4, 2) := by decide +kernel
theorem dX12_laysMinds_53 : decode cX12_laysMinds 53 = .ok (.imul, 1) := by decide +kernel
theorem dX12_laysMinds_54 : decode cX12_laysMinds 54 = .ok (.iload 5, 2) := by decide +kernel
theorem dX12_laysMinds_56 : decode cX12_laysMinds 56 = .ok (.iadd, 1) := by decide +kernel
theorem dX12_laysMinds_57 : decode cX12_laysMinds 57 = .ok (.aload_n 0, 1) := by decide +kernel
theorem dX12_laysMinds_58 : decode cX12_laysMinds 58 = .ok (.invokevirtual 311, 3) := by decide +kernel
theorem dX12_laysMinds_61 : decode cX12_laysMinds 61 = .ok (.bastore, 1) := by decide +kernel
theorem dX12_laysMinds_62 : decode cX12_laysMinds 62 = .ok (.iinc 5 1, 3) := by decide +kernel
theorem dX12_laysMinds_65 : decode cX12_laysMinds 65 = .ok (.goto (-27), 3) := by decide +kernel
theorem dX12_laysMinds_68 : decode cX12_laysMinds 68 = .ok (.aload_n 0, 1) := by decide +kernel
theorem dX12_laysMinds_69 : decode cX12_laysMinds 69 = .ok (.sipush 2688, 3) := by decide +kernel
theorem dX12_laysMinds_72 : decode cX12_laysMinds 72 = .ok (.invokevirtual 353, 3) := by decide +kernel
theorem dX12_laysMinds_75 : decode cX12_laysMinds 75 = .ok (.iconst 1, 1) := by decide +kernel
theorem dX12_laysMinds_76 : decode cX12_laysMinds 76 = .ok (.istore 5, 2) := by decide +kernel
theorem dX12_laysMinds_78 : decode cX12_laysMinds 78 = .ok (.iconst 0, 1) := by decide +kernel
theorem dX12_laysMinds_79 : decode cX12_laysMinds 79 = .ok (.istore 6, 2) := by decide +kernel
theorem dX12_laysMinds_81 : decode cX12_laysMinds 81 = .ok (.iload 6, 2) := by decide +kernel
theorem dX12_laysMinds_83 : decode cX12_laysMinds 83 = .ok (.iload_n 3, 1) := by decide +kernel
theorem dX12_laysMinds_84 : decode cX12_laysMinds 84 = .ok (.if_icmp .ge 80, 3) := by decide +kernel
theorem dX12_laysMinds_87 : decode cX12_laysMinds 87 = .ok (.aload_n 0, 1) := by decide +kernel
theorem dX12_laysMinds_88 : decode cX12_laysMinds 88 = .ok (.getfield 27, 3) := by decide +kernel
theorem dX12_laysMinds_91 : decode cX12_laysMinds 91 = .ok (.bipush 60, 2) := by decide +kernel
theorem dX12_laysMinds_93 : decode cX12_laysMinds 93 = .ok (.iload_n 2, 1) := by decide +kernel
theorem dX12_laysMinds_94 : decode cX12_laysMinds 94 = .ok (.imul, 1) := by decide +kernel
theorem dX12_laysMinds_95 : decode cX12_laysMinds 95 = .ok (.iconst 2, 1) := by decide +kernel
theorem dX12_laysMinds_96 : decode cX12_laysMinds 96 = .ok (.iload 6, 2) := by decide +kernel
theorem dX12_laysMinds_98 : decode cX12_laysMinds 98 = .ok (.imul, 1) := by decide +kernel
theorem dX12_laysMinds_99 : decode cX12_laysMinds 99 = .ok (.iadd, 1) := by decide +kernel
theorem dX12_laysMinds_100 : decode cX12_laysMinds 100 = .ok (.laload, 1) := by decide +kernel
theorem dX12_laysMinds_101 : decode cX12_laysMinds 101 = .ok (.l2i, 1) := by decide +kernel
theorem dX12_laysMinds_102 : decode cX12_laysMinds 102 = .ok (.istore 7, 2) := by decide +kernel
theorem dX12_laysMinds_104 : decode cX12_laysMinds 104 = .ok (.iload 5, 2) := by decide +kernel
theorem dX12_laysMinds_106 : decode cX12_laysMinds 106 = .ok (.ifCond .eq 49, 3) := by decide +kernel
theorem dX12_laysMinds_109 : decode cX12_laysMinds 109 = .ok (.aload_n 0, 1) := by decide +kernel
theorem dX12_laysMinds_110 : decode cX12_laysMinds 110 = .ok (.getfield 57, 3) := by decide +kernel
theorem dX12_laysMinds_113 : decode cX12_laysMinds 113 = .ok (.bipush 61, 2) := by decide +kernel
theorem dX12_laysMinds_115 : decode cX12_laysMinds 115 = .ok (.iload 4, 2) := by decide +kernel
theorem dX12_laysMinds_117 : decode cX12_laysMinds 117 = .ok (.imul, 1) := by decide +kernel
theorem dX12_laysMinds_118 : decode cX12_laysMinds 118 = .ok (.iload 7, 2) := by decide +kernel
theorem dX12_laysMinds_120 : decode cX12_laysMinds 120 = .ok (.iadd, 1) := by decide +kernel
theorem dX12_laysMinds_121 : decode cX12_laysMinds 121 = .ok (.baload, 1) := by decide +kernel
theorem dX12_laysMinds_122 : decode cX12_laysMinds 122 = .ok (.aload_n 0, 1) := by decide +kernel
theorem dX12_laysMinds_123 : decode cX12_laysMinds 123 = .ok (.getfield 27, 3) := by decide +kernel
theorem dX12_laysMinds_126 : decode cX12_laysMinds 126 = .ok (.bipush 60, 2) := by decide +kernel
theorem dX12_laysMinds_128 : decode cX12_laysMinds 128 = .ok (.iload_n 2, 1) := by decide +kernel
theorem dX12_laysMinds_129 : decode cX12_laysMinds 129 = .ok (.imul, 1) := by decide +kernel
theorem dX12_laysMinds_130 : decode cX12_laysMinds 130 = .ok (.iconst 2, 1) := by decide +kernel
theorem dX12_laysMinds_131 : decode cX12_laysMinds 131 = .ok (.iload 6, 2) := by decide +kernel
theorem dX12_laysMinds_133 : decode cX12_laysMinds 133 = .ok (.imul, 1) := by decide +kernel
theorem dX12_laysMinds_134 : decode cX12_laysMinds 134 = .ok (.iadd, 1) := by decide +kernel
theorem dX12_laysMinds_135 : decode cX12_laysMinds 135 = .ok (.iconst 1, 1) := by decide +kernel
theorem dX12_laysMinds_136 : decode cX12_laysMinds 136 = .ok (.iadd, 1) := by decide +kernel
theorem dX12_laysMinds_137 : decode cX12_laysMinds 137 = .ok (.laload, 1) := by decide +kernel
theorem dX12_laysMinds_138 : decode cX12_laysMinds 138 = .ok (.lconst 1, 1) := by decide +kernel
theorem dX12_laysMinds_139 : decode cX12_laysMinds 139 = .ok (.lcmp, 1) := by decide +kernel
theorem dX12_laysMinds_140 : decode cX12_laysMinds 140 = .ok (.ifCond .ne 7, 3) := by decide +kernel
theorem dX12_laysMinds_143 : decode cX12_laysMinds 143 = .ok (.iconst 1, 1) := by decide +kernel
theorem dX12_laysMinds_144 : decode cX12_laysMinds 144 = .ok (.goto 4, 3) := by decide +kernel
theorem dX12_laysMinds_147 : decode cX12_laysMinds 147 = .ok (.iconst 0, 1) := by decide +kernel
theorem dX12_laysMinds_148 : decode cX12_laysMinds 148 = .ok (.if_icmp .ne 7, 3) := by decide +kernel
theorem dX12_laysMinds_151 : decode cX12_laysMinds 151 = .ok (.iconst 1, 1) := by decide +kernel
theorem dX12_laysMinds_152 : decode cX12_laysMinds 152 = .ok (.goto 4, 3) := by decide +kernel
theorem dX12_laysMinds_155 : decode cX12_laysMinds 155 = .ok (.iconst 0, 1) := by decide +kernel
theorem dX12_laysMinds_156 : decode cX12_laysMinds 156 = .ok (.istore 5, 2) := by decide +kernel
theorem dX12_laysMinds_158 : decode cX12_laysMinds 158 = .ok (.iinc 6 1, 3) := by decide +kernel
theorem dX12_laysMinds_161 : decode cX12_laysMinds 161 = .ok (.goto (-80), 3) := by decide +kernel
theorem dX12_laysMinds_164 : decode cX12_laysMinds 164 = .ok (.aload_n 0, 1) := by decide +kernel
theorem dX12_laysMinds_165 : decode cX12_laysMinds 165 = .ok (.getfield 53, 3) := by decide +kernel
theorem dX12_laysMinds_168 : decode cX12_laysMinds 168 = .ok (.iload 4, 2) := by decide +kernel
theorem dX12_laysMinds_170 : decode cX12_laysMinds 170 = .ok (.iload 5, 2) := by decide +kernel
theorem dX12_laysMinds_172 : decode cX12_laysMinds 172 = .ok (.bastore, 1) := by decide +kernel
theorem dX12_laysMinds_173 : decode cX12_laysMinds 173 = .ok (.aload_n 0, 1) := by decide +kernel
theorem dX12_laysMinds_174 : decode cX12_laysMinds 174 = .ok (.dup, 1) := by decide +kernel
theorem dX12_laysMinds_175 : decode cX12_laysMinds 175 = .ok (.getfield 395, 3) := by decide +kernel
theorem dX12_laysMinds_178 : decode cX12_laysMinds 178 = .ok (.iload 5, 2) := by decide +kernel
theorem dX12_laysMinds_180 : decode cX12_laysMinds 180 = .ok (.ifCond .eq 7, 3) := by decide +kernel
theorem dX12_laysMinds_183 : decode cX12_laysMinds 183 = .ok (.iconst 1, 1) := by decide +kernel
theorem dX12_laysMinds_184 : decode cX12_laysMinds 184 = .ok (.goto 4, 3) := by decide +kernel
theorem dX12_laysMinds_187 : decode cX12_laysMinds 187 = .ok (.iconst 0, 1) := by decide +kernel
theorem dX12_laysMinds_188 : decode cX12_laysMinds 188 = .ok (.iadd, 1) := by decide +kernel
theorem dX12_laysMinds_189 : decode cX12_laysMinds 189 = .ok (.putfield 395, 3) := by decide +kernel
theorem dX12_laysMinds_192 : decode cX12_laysMinds 192 = .ok (.iinc 4 1, 3) := by decide +kernel
theorem dX12_laysMinds_195 : decode cX12_laysMinds 195 = .ok (.goto (-180), 3) := by decide +kernel
theorem dX12_laysMinds_198 : decode cX12_laysMinds 198 = .ok (.return_, 1) := by decide +kernel
theorem dX12_minded_0 : decode cX12_minded 0 = .ok (.aload_n 0, 1) := by decide +kernel
theorem dX12_minded_1 : decode cX12_minded 1 = .ok (.iload_n 1, 1) := by decide +kernel
theorem dX12_minded_2 : decode cX12_minded 2 = .ok (.iload_n 2, 1) := by decide +kernel
theorem dX12_minded_3 : decode cX12_minded 3 = .ok (.iload_n 3, 1) := by decide +kernel
theorem dX12_minded_4 : decode cX12_minded 4 = .ok (.invokevirtual 398, 3) := by decide +kernel
theorem dX12_minded_7 : decode cX12_minded 7 = .ok (.istore 4, 2) := by decide +kernel
theorem dX12_minded_9 : decode cX12_minded 9 = .ok (.iload 4, 2) := by decide +kernel
theorem dX12_minded_11 : decode cX12_minded 11 = .ok (.ifCond .le 10, 3) := by decide +kernel
theorem dX12_minded_14 : decode cX12_minded 14 = .ok (.aload_n 0, 1) := by decide +kernel
theorem dX12_minded_15 : decode cX12_minded 15 = .ok (.iload 4, 2) := by decide +kernel
theorem dX12_minded_17 : decode cX12_minded 17 = .ok (.invokevirtual 91, 3) := by decide +kernel
theorem dX12_minded_20 : decode cX12_minded 20 = .ok (.ireturn, 1) := by decide +kernel
theorem dX12_minded_21 : decode cX12_minded 21 = .ok (.aload_n 0, 1) := by decide +kernel
theorem dX12_minded_22 : decode cX12_minded 22 = .ok (.iload_n 1, 1) := by decide +kernel
theorem dX12_minded_23 : decode cX12_minded 23 = .ok (.iload_n 2, 1) := by decide +kernel
theorem dX12_minded_24 : decode cX12_minded 24 = .ok (.iload_n 3, 1) := by decide +kernel
theorem dX12_minded_25 : decode cX12_minded 25 = .ok (.invokevirtual 402, 3) := by decide +kernel
theorem dX12_minded_28 : decode cX12_minded 28 = .ok (.aload_n 0, 1) := by decide +kernel
theorem dX12_minded_29 : decode cX12_minded 29 = .ok (.aload_n 0, 1) := by decide +kernel
theorem dX12_minded_30 : decode cX12_minded 30 = .ok (.getfield 395, 3) := by decide +kernel
theorem dX12_minded_33 : decode cX12_minded 33 = .ok (.invokevirtual 95, 3) := by decide +kernel
theorem dX12_minded_36 : decode cX12_minded 36 = .ok (.ireturn, 1) := by decide +kernel
theorem dX12_mindedAt_0 : decode cX12_mindedAt 0 = .ok (.iload 4, 2) := by decide +kernel
theorem dX12_mindedAt_2 : decode cX12_mindedAt 2 = .ok (.ifCond .lt 9, 3) := by decide +kernel
theorem dX12_mindedAt_5 : decode cX12_mindedAt 5 = .ok (.iload 4, 2) := by decide +kernel
theorem dX12_mindedAt_7 : decode cX12_mindedAt 7 = .ok (.iconst 1, 1) := by decide +kernel
theorem dX12_mindedAt_8 : decode cX12_mindedAt 8 = .ok (.if_icmp .le 7, 3) := by decide +kernel
theorem dX12_mindedAt_11 : decode cX12_mindedAt 11 = .ok (.iconst 1, 1) := by decide +kernel
theorem dX12_mindedAt_12 : decode cX12_mindedAt 12 = .ok (.goto 10, 3) := by decide +kernel
theorem dX12_mindedAt_15 : decode cX12_mindedAt 15 = .ok (.aload_n 0, 1) := by decide +kernel
theorem dX12_mindedAt_16 : decode cX12_mindedAt 16 = .ok (.iload_n 1, 1) := by decide +kernel
theorem dX12_mindedAt_17 : decode cX12_mindedAt 17 = .ok (.iload_n 2, 1) := by decide +kernel
theorem dX12_mindedAt_18 : decode cX12_mindedAt 18 = .ok (.iload_n 3, 1) := by decide +kernel
theorem dX12_mindedAt_19 : decode cX12_mindedAt 19 = .ok (.invokevirtual 398, 3) := by decide +kernel
theorem dX12_mindedAt_22 : decode cX12_mindedAt 22 = .ok (.istore 5, 2) := by decide +kernel
theorem dX12_mindedAt_24 : decode cX12_mindedAt 24 = .ok (.iload 5, 2) := by decide +kernel
theorem dX12_mindedAt_26 : decode cX12_mindedAt 26 = .ok (.ifCond .le 10, 3) := by decide +kernel
theorem dX12_mindedAt_29 : decode cX12_mindedAt 29 = .ok (.aload_n 0, 1) := by decide +kernel
theorem dX12_mindedAt_30 : decode cX12_mindedAt 30 = .ok (.iload 5, 2) := by decide +kernel
theorem dX12_mindedAt_32 : decode cX12_mindedAt 32 = .ok (.invokevirtual 91, 3) := by decide +kernel
theorem dX12_mindedAt_35 : decode cX12_mindedAt 35 = .ok (.ireturn, 1) := by decide +kernel
theorem dX12_mindedAt_36 : decode cX12_mindedAt 36 = .ok (.aload_n 0, 1) := by decide +kernel
theorem dX12_mindedAt_37 : decode cX12_mindedAt 37 = .ok (.iload_n 1, 1) := by decide +kernel
theorem dX12_mindedAt_38 : decode cX12_mindedAt 38 = .ok (.iload_n 2, 1) := by decide +kernel
theorem dX12_mindedAt_39 : decode cX12_mindedAt 39 = .ok (.iload_n 3, 1) := by decide +kernel
theorem dX12_mindedAt_40 : decode cX12_mindedAt 40 = .ok (.invokevirtual 402, 3) := by decide +kernel
theorem dX12_mindedAt_43 : decode cX12_mindedAt 43 = .ok (.aload_n 0, 1) := by decide +kernel
theorem dX12_mindedAt_44 : decode cX12_mindedAt 44 = .ok (.getfield 395, 3) := by decide +kernel
theorem dX12_mindedAt_47 : decode cX12_mindedAt 47 = .ok (.ifCond .ne 10, 3) := by decide +kernel
theorem dX12_mindedAt_50 : decode cX12_mindedAt 50 = .ok (.aload_n 0, 1) := by decide +kernel
theorem dX12_mindedAt_51 : decode cX12_mindedAt 51 = .ok (.bipush 6, 2) := by decide +kernel
theorem dX12_mindedAt_53 : decode cX12_mindedAt 53 = .ok (.invokevirtual 91, 3) := by decide +kernel
theorem dX12_mindedAt_56 : decode cX12_mindedAt 56 = .ok (.ireturn, 1) := by decide +kernel
theorem dX12_mindedAt_57 : decode cX12_mindedAt 57 = .ok (.iload 4, 2) := by decide +kernel
theorem dX12_mindedAt_59 : decode cX12_mindedAt 59 = .ok (.ifCond .ne 7, 3) := by decide +kernel
theorem dX12_mindedAt_62 : decode cX12_mindedAt 62 = .ok (.iconst 1, 1) := by decide +kernel
theorem dX12_mindedAt_63 : decode cX12_mindedAt 63 = .ok (.goto 5, 3) := by decide +kernel
theorem dX12_mindedAt_66 : decode cX12_mindedAt 66 = .ok (.bipush 24, 2) := by decide +kernel
theorem dX12_mindedAt_68 : decode cX12_mindedAt 68 = .ok (.istore 6, 2) := by decide +kernel
theorem dX12_mindedAt_70 : decode cX12_mindedAt 70 = .ok (.aload_n 0, 1) := by decide +kernel
theorem dX12_mindedAt_71 : decode cX12_mindedAt 71 = .ok (.getfield 53, 3) := by decide +kernel
theorem dX12_mindedAt_74 : decode cX12_mindedAt 74 = .ok (.iload 6, 2) := by decide +kernel
theorem dX12_mindedAt_76 : decode cX12_mindedAt 76 = .ok (.baload, 1) := by decide +kernel
theorem dX12_mindedAt_77 : decode cX12_mindedAt 77 = .ok (.ifCond .ne 21, 3) := by decide +kernel
theorem dX12_mindedAt_80 : decode cX12_mindedAt 80 = .ok (.iload 6, 2) := by decide +kernel
theorem dX12_mindedAt_82 : decode cX12_mindedAt 82 = .ok (.iload 4, 2) := by decide +kernel
theorem dX12_mindedAt_84 : decode cX12_mindedAt 84 = .ok (.ifCond .ne 7, 3) := by decide +kernel
theorem dX12_mindedAt_87 : decode cX12_mindedAt 87 = .ok (.iconst 1, 1) := by decide +kernel
theorem dX12_mindedAt_88 : decode cX12_mindedAt 88 = .ok (.goto 4, 3) := by decide +kernel
theorem dX12_mindedAt_91 : decode cX12_mindedAt 91 = .ok (.iconst (-1), 1) := by decide +kernel
theorem dX12_mindedAt_92 : decode cX12_mindedAt 92 = .ok (.iadd, 1) := by decide +kernel
theorem dX12_mindedAt_93 : decode cX12_mindedAt 93 = .ok (.istore 6, 2) := by decide +kernel
theorem dX12_mindedAt_95 : decode cX12_mindedAt 95 = .ok (.goto (-25), 3) := by decide +kernel
theorem dX12_mindedAt_98 : decode cX12_mindedAt 98 = .ok (.aload_n 0, 1) := by decide +kernel
theorem dX12_mindedAt_99 : decode cX12_mindedAt 99 = .ok (.iload 6, 2) := by decide +kernel
theorem dX12_mindedAt_101 : decode cX12_mindedAt 101 = .ok (.invokevirtual 95, 3) := by decide +kernel
theorem dX12_mindedAt_104 : decode cX12_mindedAt 104 = .ok (.ireturn, 1) := by decide +kernel
theorem dX12_ask_0 : decode cX12_ask 0 = .ok (.aload_n 0, 1) := by decide +kernel
theorem dX12_ask_1 : decode cX12_ask 1 = .ok (.iload_n 1, 1) := by decide +kernel
theorem dX12_ask_2 : decode cX12_ask 2 = .ok (.iload_n 2, 1) := by decide +kernel
theorem dX12_ask_3 : decode cX12_ask 3 = .ok (.iload_n 3, 1) := by decide +kernel
theorem dX12_ask_4 : decode cX12_ask 4 = .ok (.invokevirtual 398, 3) := by decide +kernel
theorem dX12_ask_7 : decode cX12_ask 7 = .ok (.istore 4, 2) := by decide +kernel
theorem dX12_ask_9 : decode cX12_ask 9 = .ok (.iload 4, 2) := by decide +kernel
theorem dX12_ask_11 : decode cX12_ask 11 = .ok (.ifCond .le 10, 3) := by decide +kernel
theorem dX12_ask_14 : decode cX12_ask 14 = .ok (.aload_n 0, 1) := by decide +kernel
theorem dX12_ask_15 : decode cX12_ask 15 = .ok (.iload 4, 2) := by decide +kernel
theorem dX12_ask_17 : decode cX12_ask 17 = .ok (.invokevirtual 91, 3) := by decide +kernel
theorem dX12_ask_20 : decode cX12_ask 20 = .ok (.ireturn, 1) := by decide +kernel
theorem dX12_ask_21 : decode cX12_ask 21 = .ok (.aload_n 0, 1) := by decide +kernel
theorem dX12_ask_22 : decode cX12_ask 22 = .ok (.iload_n 1, 1) := by decide +kernel
theorem dX12_ask_23 : decode cX12_ask 23 = .ok (.iload_n 2, 1) := by decide +kernel
theorem dX12_ask_24 : decode cX12_ask 24 = .ok (.iload_n 3, 1) := by decide +kernel
theorem dX12_ask_25 : decode cX12_ask 25 = .ok (.invokevirtual 402, 3) := by decide +kernel
theorem dX12_ask_28 : decode cX12_ask 28 = .ok (.aload_n 0, 1) := by decide +kernel
theorem dX12_ask_29 : decode cX12_ask 29 = .ok (.getfield 395, 3) := by decide +kernel
theorem dX12_ask_32 : decode cX12_ask 32 = .ok (.iconst 2, 1) := by decide +kernel
theorem dX12_ask_33 : decode cX12_ask 33 = .ok (.if_icmp .ge 10, 3) := by decide +kernel
theorem dX12_ask_36 : decode cX12_ask 36 = .ok (.aload_n 0, 1) := by decide +kernel
theorem dX12_ask_37 : decode cX12_ask 37 = .ok (.bipush 6, 2) := by decide +kernel
theorem dX12_ask_39 : decode cX12_ask 39 = .ok (.invokevirtual 91, 3) := by decide +kernel
theorem dX12_ask_42 : decode cX12_ask 42 = .ok (.ireturn, 1) := by decide +kernel
theorem dX12_ask_43 : decode cX12_ask 43 = .ok (.iconst (-1), 1) := by decide +kernel
theorem dX12_ask_44 : decode cX12_ask 44 = .ok (.istore 5, 2) := by decide +kernel
theorem dX12_ask_46 : decode cX12_ask 46 = .ok (.ldc_w 373, 3) := by decide +kernel
theorem dX12_ask_49 : decode cX12_ask 49 = .ok (.istore 6, 2) := by decide +kernel
theorem dX12_ask_51 : decode cX12_ask 51 = .ok (.iconst 0, 1) := by decide +kernel
theorem dX12_ask_52 : decode cX12_ask 52 = .ok (.istore 7, 2) := by decide +kernel
theorem dX12_ask_54 : decode cX12_ask 54 = .ok (.iload 7, 2) := by decide +kernel
theorem dX12_ask_56 : decode cX12_ask 56 = .ok (.bipush 60, 2) := by decide +kernel
theorem dX12_ask_58 : decode cX12_ask 58 = .ok (.if_icmp .gt 96, 3) := by decide +kernel
theorem dX12_ask_61 : decode cX12_ask 61 = .ok (.iconst 0, 1) := by decide +kernel
theorem dX12_ask_62 : decode cX12_ask 62 = .ok (.istore 8, 2) := by decide +kernel
theorem dX12_ask_64 : decode cX12_ask 64 = .ok (.iconst 1, 1) := by decide +kernel
theorem dX12_ask_65 : decode cX12_ask 65 = .ok (.istore 9, 2) := by decide +kernel
theorem dX12_ask_67 : decode cX12_ask 67 = .ok (.iload 9, 2) := by decide +kernel
theorem dX12_ask_69 : decode cX12_ask 69 = .ok (.bipush 24, 2) := by decide +kernel
theorem dX12_ask_71 : decode cX12_ask 71 = .ok (.if_icmp .gt 45, 3) := by decide +kernel
theorem dX12_ask_74 : decode cX12_ask 74 = .ok (.iload 8, 2) := by decide +kernel
theorem dX12_ask_76 : decode cX12_ask 76 = .ok (.aload_n 0, 1) := by decide +kernel
theorem dX12_ask_77 : decode cX12_ask 77 = .ok (.getfield 53, 3) := by decide +kernel
theorem dX12_ask_80 : decode cX12_ask 80 = .ok (.iload 9, 2) := by decide +kernel
theorem dX12_ask_82 : decode cX12_ask 82 = .ok (.baload, 1) := by decide +kernel
theorem dX12_ask_83 : decode cX12_ask 83 = .ok (.ifCond .eq 23, 3) := by decide +kernel
theorem dX12_ask_86 : decode cX12_ask 86 = .ok (.aload_n 0, 1) := by decide +kernel
theorem dX12_ask_87 : decode cX12_ask 87 = .ok (.getfield 57, 3) := by decide +kernel
theorem dX12_ask_90 : decode cX12_ask 90 = .ok (.bipush 61, 2) := by decide +kernel
theorem dX12_ask_92 : decode cX12_ask 92 = .ok (.iload 9, 2) := by decide +kernel
theorem dX12_ask_94 : decode cX12_ask 94 = .ok (.imul, 1) := by decide +kernel
theorem dX12_ask_95 : decode cX12_ask 95 = .ok (.iload 7, 2) := by decide +kernel
theorem dX12_ask_97 : decode cX12_ask 97 = .ok (.iadd, 1) := by decide +kernel
theorem dX12_ask_98 : decode cX12_ask 98 = .ok (.baload, 1) := by decide +kernel
theorem dX12_ask_99 : decode cX12_ask 99 = .ok (.ifCond .eq 7, 3) := by decide +kernel
theorem dX12_ask_102 : decode cX12_ask 102 = .ok (.iconst 1, 1) := by decide +kernel
theorem dX12_ask_103 : decode cX12_ask 103 = .ok (.goto 4, 3) := by decide +kernel
theorem dX12_ask_106 : decode cX12_ask 106 = .ok (.iconst 0, 1) := by decide +kernel
theorem dX12_ask_107 : decode cX12_ask 107 = .ok (.iadd, 1) := by decide +kernel
theorem dX12_ask_108 : decode cX12_ask 108 = .ok (.istore 8, 2) := by decide +kernel
theorem dX12_ask_110 : decode cX12_ask 110 = .ok (.iinc 9 1, 3) := by decide +kernel
theorem dX12_ask_113 : decode cX12_ask 113 = .ok (.goto (-46), 3) := by decide +kernel
theorem dX12_ask_116 : decode cX12_ask 116 = .ok (.iload 8, 2) := by decide +kernel
theorem dX12_ask_118 : decode cX12_ask 118 = .ok (.aload_n 0, 1) := by decide +kernel
theorem dX12_ask_119 : decode cX12_ask 119 = .ok (.getfield 395, 3) := by decide +kernel
theorem dX12_ask_122 : decode cX12_ask 122 = .ok (.iload 8, 2) := by decide +kernel
theorem dX12_ask_124 : decode cX12_ask 124 = .ok (.isub, 1) := by decide +kernel
theorem dX12_ask_125 : decode cX12_ask 125 = .ok (.invokestatic 406, 3) := by decide +kernel
theorem dX12_ask_128 : decode cX12_ask 128 = .ok (.istore 9, 2) := by decide +kernel
theorem dX12_ask_130 : decode cX12_ask 130 = .ok (.iload 9, 2) := by decide +kernel
theorem dX12_ask_132 : decode cX12_ask 132 = .ok (.iload 6, 2) := by decide +kernel
theorem dX12_ask_134 : decode cX12_ask 134 = .ok (.if_icmp .lt 6, 3) := by decide +kernel
theorem dX12_ask_137 : decode cX12_ask 137 = .ok (.goto 11, 3) := by decide +kernel
theorem dX12_ask_140 : decode cX12_ask 140 = .ok (.iload 9, 2) := by decide +kernel
theorem dX12_ask_142 : decode cX12_ask 142 = .ok (.istore 6, 2) := by decide +kernel
theorem dX12_ask_144 : decode cX12_ask 144 = .ok (.iload 7, 2) := by decide +kernel
theorem dX12_ask_146 : decode cX12_ask 146 = .ok (.istore 5, 2) := by decide +kernel
theorem dX12_ask_148 : decode cX12_ask 148 = .ok (.iinc 7 1, 3) := by decide +kernel
theorem dX12_ask_151 : decode cX12_ask 151 = .ok (.goto (-97), 3) := by decide +kernel
theorem dX12_ask_154 : decode cX12_ask 154 = .ok (.aload_n 0, 1) := by decide +kernel
theorem dX12_ask_155 : decode cX12_ask 155 = .ok (.iload 5, 2) := by decide +kernel
theorem dX12_ask_157 : decode cX12_ask 157 = .ok (.invokevirtual 95, 3) := by decide +kernel
theorem dX12_ask_160 : decode cX12_ask 160 = .ok (.ireturn, 1) := by decide +kernel
theorem dX12_heaviestOf_0 : decode cX12_heaviestOf 0 = .ok (.aload_n 0, 1) := by decide +kernel
theorem dX12_heaviestOf_1 : decode cX12_heaviestOf 1 = .ok (.getfield 7, 3) := by decide +kernel
theorem dX12_heaviestOf_4 : decode cX12_heaviestOf 4 = .ok (.iconst 3, 1) := by decide +kernel
theorem dX12_heaviestOf_5 : decode cX12_heaviestOf 5 = .ok (.iaload, 1) := by decide +kernel
theorem dX12_heaviestOf_6 : decode cX12_heaviestOf 6 = .ok (.aload_n 0, 1) := by decide +kernel
theorem dX12_heaviestOf_7 : decode cX12_heaviestOf 7 = .ok (.aload_n 0, 1) := by decide +kernel
theorem dX12_heaviestOf_8 : decode cX12_heaviestOf 8 = .ok (.iconst 2, 1) := by decide +kernel
theorem dX12_heaviestOf_9 : decode cX12_heaviestOf 9 = .ok (.invokevirtual 278, 3) := by decide +kernel
theorem dX12_heaviestOf_12 : decode cX12_heaviestOf 12 = .ok (.invokevirtual 281, 3) := by decide +kernel
theorem dX12_heaviestOf_15 : decode cX12_heaviestOf 15 = .ok (.isub, 1) := by decide +kernel
theorem dX12_heaviestOf_16 : decode cX12_heaviestOf 16 = .ok (.istore_n 1, 1) := by decide +kernel
theorem dX12_heaviestOf_17 : decode cX12_heaviestOf 17 = .ok (.iconst 0, 1) := by decide +kernel
theorem dX12_heaviestOf_18 : decode cX12_heaviestOf 18 = .ok (.istore_n 2, 1) := by decide +kernel
theorem dX12_heaviestOf_19 : decode cX12_heaviestOf 19 = .ok (.iconst 1, 1) := by decide +kernel
theorem dX12_heaviestOf_20 : decode cX12_heaviestOf 20 = .ok (.istore_n 3, 1) := by decide +kernel
theorem dX12_heaviestOf_21 : decode cX12_heaviestOf 21 = .ok (.iload_n 3, 1) := by decide +kernel
theorem dX12_heaviestOf_22 : decode cX12_heaviestOf 22 = .ok (.iconst 1, 1) := by decide +kernel
theorem dX12_heaviestOf_23 : decode cX12_heaviestOf 23 = .ok (.aload_n 0, 1) := by decide +kernel
theorem dX12_heaviestOf_24 : decode cX12_heaviestOf 24 = .ok (.getfield 7, 3) := by decide +kernel
theorem dX12_heaviestOf_27 : decode cX12_heaviestOf 27 = .ok (.iconst 0, 1) := by decide +kernel
theorem dX12_heaviestOf_28 : decode cX12_heaviestOf 28 = .ok (.iaload, 1) := by decide +kernel
theorem dX12_heaviestOf_29 : decode cX12_heaviestOf 29 = .ok (.ishl, 1) := by decide +kernel
theorem dX12_heaviestOf_30 : decode cX12_heaviestOf 30 = .ok (.if_icmp .ge 69, 3) := by decide +kernel
theorem dX12_heaviestOf_33 : decode cX12_heaviestOf 33 = .ok (.iload_n 3, 1) := by decide +kernel
theorem dX12_heaviestOf_34 : decode cX12_heaviestOf 34 = .ok (.aload_n 0, 1) := by decide +kernel
theorem dX12_heaviestOf_35 : decode cX12_heaviestOf 35 = .ok (.iconst 1, 1) := by decide +kernel
theorem dX12_heaviestOf_36 : decode cX12_heaviestOf 36 = .ok (.invokevirtual 278, 3) := by decide +kernel
theorem dX12_heaviestOf_39 : decode cX12_heaviestOf 39 = .ok (.iconst (-1), 1) := by decide +kernel
theorem dX12_heaviestOf_40 : decode cX12_heaviestOf 40 = .ok (.ixor, 1) := by decide +kernel
theorem dX12_heaviestOf_41 : decode cX12_heaviestOf 41 = .ok (.iand, 1) := by decide +kernel
theorem dX12_heaviestOf_42 : decode cX12_heaviestOf 42 = .ok (.ifCond .ne 51, 3) := by decide +kernel
theorem dX12_heaviestOf_45 : decode cX12_heaviestOf 45 = .ok (.aload_n 0, 1) := by decide +kernel
theorem dX12_heaviestOf_46 : decode cX12_heaviestOf 46 = .ok (.iload_n 3, 1) := by decide +kernel
theorem dX12_heaviestOf_47 : decode cX12_heaviestOf 47 = .ok (.invokevirtual 281, 3) := by decide +kernel
theorem dX12_heaviestOf_50 : decode cX12_heaviestOf 50 = .ok (.iload_n 1, 1) := by decide +kernel
theorem dX12_heaviestOf_51 : decode cX12_heaviestOf 51 = .ok (.if_icmp .le 6, 3) := by decide +kernel
theorem dX12_heaviestOf_54 : decode cX12_heaviestOf 54 = .ok (.goto 39, 3) := by decide +kernel
theorem dX12_heaviestOf_57 : decode cX12_heaviestOf 57 = .ok (.aload_n 0, 1) := by decide +kernel
theorem dX12_heaviestOf_58 : decode cX12_heaviestOf 58 = .ok (.iload_n 3, 1) := by decide +kernel
theorem dX12_heaviestOf_59 : decode cX12_heaviestOf 59 = .ok (.invokevirtual 281, 3) := by decide +kernel
theorem dX12_heaviestOf_62 : decode cX12_heaviestOf 62 = .ok (.aload_n 0, 1) := by decide +kernel
theorem dX12_heaviestOf_63 : decode cX12_heaviestOf 63 = .ok (.iload_n 2, 1) := by decide +kernel
theorem dX12_heaviestOf_64 : decode cX12_heaviestOf 64 = .ok (.invokevirtual 281, 3) := by decide +kernel
theorem dX12_heaviestOf_67 : decode cX12_heaviestOf 67 = .ok (.isub, 1) := by decide +kernel
theorem dX12_heaviestOf_68 : decode cX12_heaviestOf 68 = .ok (.istore 4, 2) := by decide +kernel
theorem dX12_heaviestOf_70 : decode cX12_heaviestOf 70 = .ok (.iload 4, 2) := by decide +kernel
theorem dX12_heaviestOf_72 : decode cX12_heaviestOf 72 = .ok (.ifCond .gt 19, 3) := by decide +kernel
theorem dX12_heaviestOf_75 : decode cX12_heaviestOf 75 = .ok (.iload 4, 2) := by decide +kernel
theorem dX12_heaviestOf_77 : decode cX12_heaviestOf 77 = .ok (.ifCond .ne 16, 3) := by decide +kernel
theorem dX12_heaviestOf_80 : decode cX12_heaviestOf 80 = .ok (.iload_n 3, 1) := by decide +kernel
theorem dX12_heaviestOf_81 : decode cX12_heaviestOf 81 = .ok (.invokestatic 409, 3) := by decide +kernel
theorem dX12_heaviestOf_84 : decode cX12_heaviestOf 84 = .ok (.iload_n 2, 1) := by decide +kernel
theorem dX12_heaviestOf_85 : decode cX12_heaviestOf 85 = .ok (.invokestatic 409, 3) := by decide +kernel
theorem dX12_heaviestOf_88 : decode cX12_heaviestOf 88 = .ok (.if_icmp .ge 5, 3) := by decide +kernel
theorem dX12_heaviestOf_91 : decode cX12_heaviestOf 91 = .ok (.iload_n 3, 1) := by decide +kernel
theorem dX12_heaviestOf_92 : decode cX12_heaviestOf 92 = .ok (.istore_n 2, 1) := by decide +kernel
theorem dX12_heaviestOf_93 : decode cX12_heaviestOf 93 = .ok (.iinc 3 1, 3) := by decide +kernel
theorem dX12_heaviestOf_96 : decode cX12_heaviestOf 96 = .ok (.goto (-75), 3) := by decide +kernel
theorem dX12_heaviestOf_99 : decode cX12_heaviestOf 99 = .ok (.iload_n 2, 1) := by decide +kernel
theorem dX12_heaviestOf_100 : decode cX12_heaviestOf 100 = .ok (.ireturn, 1) := by decide +kernel
theorem dX12_heaviest_0 : decode cX12_heaviest 0 = .ok (.aload_n 0, 1) := by decide +kernel
theorem dX12_heaviest_1 : decode cX12_heaviest 1 = .ok (.aload_n 0, 1) := by decide +kernel
theorem dX12_heaviest_2 : decode cX12_heaviest 2 = .ok (.invokevirtual 412, 3) := by decide +kernel
theorem dX12_heaviest_5 : decode cX12_heaviest 5 = .ok (.invokevirtual 95, 3) := by decide +kernel
theorem dX12_heaviest_8 : decode cX12_heaviest 8 = .ok (.ireturn, 1) := by decide +kernel
theorem dX12_heaviestWeight_0 : decode cX12_heaviestWeight 0 = .ok (.aload_n 0, 1) := by decide +kernel
theorem dX12_heaviestWeight_1 : decode cX12_heaviestWeight 1 = .ok (.aload_n 0, 1) := by decide +kernel
theorem dX12_heaviestWeight_2 : decode cX12_heaviestWeight 2 = .ok (.aload_n 0, 1) := by decide +kernel
theorem dX12_heaviestWeight_3 : decode cX12_heaviestWeight 3 = .ok (.invokevirtual 412, 3) := by decide +kernel
theorem dX12_heaviestWeight_6 : decode cX12_heaviestWeight 6 = .ok (.invokevirtual 281, 3) := by decide +kernel
theorem dX12_heaviestWeight_9 : decode cX12_heaviestWeight 9 = .ok (.invokevirtual 95, 3) := by decide +kernel
theorem dX12_heaviestWeight_12 : decode cX12_heaviestWeight 12 = .ok (.ireturn, 1) := by decide +kernel
theorem dX12_laysRide_0 : decode cX12_laysRide 0 = .ok (.aload_n 0, 1) := by decide +kernel
theorem dX12_laysRide_1 : decode cX12_laysRide 1 = .ok (.sipush 2688, 3) := by decide +kernel
theorem dX12_laysRide_4 : decode cX12_laysRide 4 = .ok (.invokevirtual 350, 3) := by decide +kernel
theorem dX12_laysRide_7 : decode cX12_laysRide 7 = .ok (.aload_n 0, 1) := by decide +kernel
theorem dX12_laysRide_8 : decode cX12_laysRide 8 = .ok (.iconst (-1), 1) := by decide +kernel
theorem dX12_laysRide_9 : decode cX12_laysRide 9 = .ok (.putfield 415, 3) := by decide +kernel
theorem dX12_laysRide_12 : decode cX12_laysRide 12 = .ok (.aload_n 0, 1) := by decide +kernel
theorem dX12_laysRide_13 : decode cX12_laysRide 13 = .ok (.iconst (-1), 1) := by decide +kernel
theorem dX12_laysRide_14 : decode cX12_laysRide 14 = .ok (.putfield 418, 3) := by decide +kernel
theorem dX12_laysRide_17 : decode cX12_laysRide 17 = .ok (.iconst 0, 1) := by decide +kernel
theorem dX12_laysRide_18 : decode cX12_laysRide 18 = .ok (.istore_n 3, 1) := by decide +kernel
theorem dX12_laysRide_19 : decode cX12_laysRide 19 = .ok (.iload_n 3, 1) := by decide +kernel
theorem dX12_laysRide_20 : decode cX12_laysRide 20 = .ok (.sipush 400, 3) := by decide +kernel
theorem dX12_laysRide_23 : decode cX12_laysRide 23 = .ok (.if_icmp .gt 70, 3) := by decide +kernel
theorem dX12_laysRide_26 : decode cX12_laysRide 26 = .ok (.aload_n 0, 1) := by decide +kernel
theorem dX12_laysRide_27 : decode cX12_laysRide 27 = .ok (.getfield 418, 3) := by decide +kernel
theorem dX12_laysRide_30 : decode cX12_laysRide 30 = .ok (.iconst (-1), 1) := by decide +kernel
theorem dX12_laysRide_31 : decode cX12_laysRide 31 = .ok (.if_icmp .ne 62, 3) := by decide +kernel
theorem dX12_laysRide_34 : decode cX12_laysRide 34 = .ok (.aload_n 0, 1) := by decide +kernel
theorem dX12_laysRide_35 : decode cX12_laysRide 35 = .ok (.getfield 415, 3) := by decide +kernel
theorem dX12_laysRide_38 : decode cX12_laysRide 38 = .ok (.iconst (-1), 1) := by decide +kernel
theorem dX12_laysRide_39 : decode cX12_laysRide 39 = .ok (.if_icmp .ne 19, 3) := by decide +kernel
theorem dX12_laysRide_42 : decode cX12_laysRide 42 = .ok (.aload_n 0, 1) := by decide +kernel
theorem dX12_laysRide_43 : decode cX12_laysRide 43 = .ok (.getfield 7, 3) := by decide +kernel
theorem dX12_laysRide_46 : decode cX12_laysRide 46 = .ok (.bipush 6, 2) := by decide +kernel
theorem dX12_laysRide_48 : decode cX12_laysRide 48 = .ok (.iaload, 1) := by decide +kernel
theorem dX12_laysRide_49 : decode cX12_laysRide 49 = .ok (.iload_n 1, 1) := by decide +kernel
theorem dX12_laysRide_50 : decode cX12_laysRide 50 = .ok (.if_icmp .ne 8, 3) := by decide +kernel
theorem dX12_laysRide_53 : decode cX12_laysRide 53 = .ok (.aload_n 0, 1) := by decide +kernel
theorem dX12_laysRide_54 : decode cX12_laysRide 54 = .ok (.iload_n 3, 1) := by decide +kernel
theorem dX12_laysRide_55 : decode cX12_laysRide 55 = .ok (.putfield 415, 3) := by decide +kernel
theorem dX12_laysRide_58 : decode cX12_laysRide 58 = .ok (.aload_n 0, 1) := by decide +kernel
theorem dX12_laysRide_59 : decode cX12_laysRide 59 = .ok (.getfield 415, 3) := by decide +kernel
theorem dX12_laysRide_62 : decode cX12_laysRide 62 = .ok (.iconst (-1), 1) := by decide +kernel
theorem dX12_laysRide_63 : decode cX12_laysRide 63 = .ok (.if_icmp .eq 19, 3) := by decide +kernel
theorem dX12_laysRide_66 : decode cX12_laysRide 66 = .ok (.aload_n 0, 1) := by decide +kernel
theorem dX12_laysRide_67 : decode cX12_laysRide 67 = .ok (.getfield 7, 3) := by decide +kernel
theorem dX12_laysRide_70 : decode cX12_laysRide 70 = .ok (.bipush 6, 2) := by decide +kernel
theorem dX12_laysRide_72 : decode cX12_laysRide 72 = .ok (.iaload, 1) := by decide +kernel
theorem dX12_laysRide_73 : decode cX12_laysRide 73 = .ok (.iload_n 2, 1) := by decide +kernel
theorem dX12_laysRide_74 : decode cX12_laysRide 74 = .ok (.if_icmp .ne 8, 3) := by decide +kernel
theorem dX12_laysRide_77 : decode cX12_laysRide 77 = .ok (.aload_n 0, 1) := by decide +kernel
theorem dX12_laysRide_78 : decode cX12_laysRide 78 = .ok (.iload_n 3, 1) := by decide +kernel
theorem dX12_laysRide_79 : decode cX12_laysRide 79 = .ok (.putfield 418, 3) := by decide +kernel
theorem dX12_laysRide_82 : decode cX12_laysRide 82 = .ok (.aload_n 0, 1) := by decide +kernel
theorem dX12_laysRide_83 : decode cX12_laysRide 83 = .ok (.invokevirtual 311, 3) := by decide +kernel
theorem dX12_laysRide_86 : decode cX12_laysRide 86 = .ok (.pop, 1) := by decide +kernel
theorem dX12_laysRide_87 : decode cX12_laysRide 87 = .ok (.iinc 3 1, 3) := by decide +kernel
theorem dX12_laysRide_90 : decode cX12_laysRide 90 = .ok (.goto (-71), 3) := by decide +kernel
theorem dX12_laysRide_93 : decode cX12_laysRide 93 = .ok (.aload_n 0, 1) := by decide +kernel
theorem dX12_laysRide_94 : decode cX12_laysRide 94 = .ok (.sipush 2688, 3) := by decide +kernel
theorem dX12_laysRide_97 : decode cX12_laysRide 97 = .ok (.invokevirtual 353, 3) := by decide +kernel
theorem dX12_laysRide_100 : decode cX12_laysRide 100 = .ok (.return_, 1) := by decide +kernel
theorem dX12_ride_0 : decode cX12_ride 0 = .ok (.aload_n 0, 1) := by decide +kernel
theorem dX12_ride_1 : decode cX12_ride 1 = .ok (.iload_n 1, 1) := by decide +kernel
theorem dX12_ride_2 : decode cX12_ride 2 = .ok (.invokevirtual 326, 3) := by decide +kernel
theorem dX12_ride_5 : decode cX12_ride 5 = .ok (.ifCond .eq 11, 3) := by decide +kernel
theorem dX12_ride_8 : decode cX12_ride 8 = .ok (.aload_n 0, 1) := by decide +kernel
theorem dX12_ride_9 : decode cX12_ride 9 = .ok (.iload_n 2, 1) := by decide +kernel
theorem dX12_ride_10 : decode cX12_ride 10 = .ok (.invokevirtual 326, 3) := by decide +kernel
theorem dX12_ride_13 : decode cX12_ride 13 = .ok (.ifCond .ne 9, 3) := by decide +kernel
theorem dX12_ride_16 : decode cX12_ride 16 = .ok (.aload_n 0, 1) := by decide +kernel
theorem dX12_ride_17 : decode cX12_ride 17 = .ok (.iconst 1, 1) := by decide +kernel
theorem dX12_ride_18 : decode cX12_ride 18 = .ok (.invokevirtual 91, 3) := by decide +kernel
theorem dX12_ride_21 : decode cX12_ride 21 = .ok (.ireturn, 1) := by decide +kernel
theorem dX12_ride_22 : decode cX12_ride 22 = .ok (.aload_n 0, 1) := by decide +kernel
theorem dX12_ride_23 : decode cX12_ride 23 = .ok (.iload_n 1, 1) := by decide +kernel
theorem dX12_ride_24 : decode cX12_ride 24 = .ok (.iload_n 2, 1) := by decide +kernel
theorem dX12_ride_25 : decode cX12_ride 25 = .ok (.invokevirtual 421, 3) := by decide +kernel
theorem dX12_ride_28 : decode cX12_ride 28 = .ok (.aload_n 0, 1) := by decide +kernel
theorem dX12_ride_29 : decode cX12_ride 29 = .ok (.aload_n 0, 1) := by decide +kernel
theorem dX12_ride_30 : decode cX12_ride 30 = .ok (.getfield 418, 3) := by decide +kernel
theorem dX12_ride_33 : decode cX12_ride 33 = .ok (.invokevirtual 296, 3) := by decide +kernel
theorem dX12_ride_36 : decode cX12_ride 36 = .ok (.ireturn, 1) := by decide +kernel
theorem dX12_waits_0 : decode cX12_waits 0 = .ok (.aload_n 0, 1) := by decide +kernel
theorem dX12_waits_1 : decode cX12_waits 1 = .ok (.iload_n 1, 1) := by decide +kernel
theorem dX12_waits_2 : decode cX12_waits 2 = .ok (.invokevirtual 326, 3) := by decide +kernel
theorem dX12_waits_5 : decode cX12_waits 5 = .ok (.ifCond .eq 11, 3) := by decide +kernel
theorem dX12_waits_8 : decode cX12_waits 8 = .ok (.aload_n 0, 1) := by decide +kernel
theorem dX12_waits_9 : decode cX12_waits 9 = .ok (.iload_n 2, 1) := by decide +kernel
theorem dX12_waits_10 : decode cX12_waits 10 = .ok (.invokevirtual 326, 3) := by decide +kernel
theorem dX12_waits_13 : decode cX12_waits 13 = .ok (.ifCond .ne 9, 3) := by decide +kernel
theorem dX12_waits_16 : decode cX12_waits 16 = .ok (.aload_n 0, 1) := by decide +kernel
theorem dX12_waits_17 : decode cX12_waits 17 = .ok (.iconst 1, 1) := by decide +kernel
theorem dX12_waits_18 : decode cX12_waits 18 = .ok (.invokevirtual 91, 3) := by decide +kernel
theorem dX12_waits_21 : decode cX12_waits 21 = .ok (.ireturn, 1) := by decide +kernel
theorem dX12_waits_22 : decode cX12_waits 22 = .ok (.aload_n 0, 1) := by decide +kernel
theorem dX12_waits_23 : decode cX12_waits 23 = .ok (.iload_n 1, 1) := by decide +kernel
theorem dX12_waits_24 : decode cX12_waits 24 = .ok (.iload_n 2, 1) := by decide +kernel
theorem dX12_waits_25 : decode cX12_waits 25 = .ok (.invokevirtual 421, 3) := by decide +kernel
theorem dX12_waits_28 : decode cX12_waits 28 = .ok (.aload_n 0, 1) := by decide +kernel
theorem dX12_waits_29 : decode cX12_waits 29 = .ok (.getfield 418, 3) := by decide +kernel
theorem dX12_waits_32 : decode cX12_waits 32 = .ok (.iconst (-1), 1) := by decide +kernel
theorem dX12_waits_33 : decode cX12_waits 33 = .ok (.if_icmp .ne 12, 3) := by decide +kernel
theorem dX12_waits_36 : decode cX12_waits 36 = .ok (.aload_n 0, 1) := by decide +kernel
theorem dX12_waits_37 : decode cX12_waits 37 = .ok (.bipush 6, 2) := by decide +kernel
theorem dX12_waits_39 : decode cX12_waits 39 = .ok (.invokevirtual 91, 3) := by decide +kernel
theorem dX12_waits_42 : decode cX12_waits 42 = .ok (.goto 11, 3) := by decide +kernel
theorem dX12_waits_45 : decode cX12_waits 45 = .ok (.aload_n 0, 1) := by decide +kernel
theorem dX12_waits_46 : decode cX12_waits 46 = .ok (.aload_n 0, 1) := by decide +kernel
theorem dX12_waits_47 : decode cX12_waits 47 = .ok (.getfield 415, 3) := by decide +kernel
theorem dX12_waits_50 : decode cX12_waits 50 = .ok (.invokevirtual 95, 3) := by decide +kernel
theorem dX12_waits_53 : decode cX12_waits 53 = .ok (.ireturn, 1) := by decide +kernel
theorem dX12_settles_0 : decode cX12_settles 0 = .ok (.aload_n 0, 1) := by decide +kernel
theorem dX12_settles_1 : decode cX12_settles 1 = .ok (.getfield 66, 3) := by decide +kernel
theorem dX12_settles_4 : decode cX12_settles 4 = .ok (.iload_n 1, 1) := by decide +kernel
theorem dX12_settles_5 : decode cX12_settles 5 = .ok (.iaload, 1) := by decide +kernel
theorem dX12_settles_6 : decode cX12_settles 6 = .ok (.iconst (-1), 1) := by decide +kernel
theorem dX12_settles_7 : decode cX12_settles 7 = .ok (.if_icmp .ne 7, 3) := by decide +kernel
theorem dX12_settles_10 : decode cX12_settles 10 = .ok (.iconst 1, 1) := by decide +kernel
theorem dX12_settles_11 : decode cX12_settles 11 = .ok (.goto 4, 3) := by decide +kernel
theorem dX12_settles_14 : decode cX12_settles 14 = .ok (.iconst 0, 1) := by decide +kernel
theorem dX12_settles_15 : decode cX12_settles 15 = .ok (.istore_n 3, 1) := by decide +kernel
theorem dX12_settles_16 : decode cX12_settles 16 = .ok (.iload_n 3, 1) := by decide +kernel
theorem dX12_settles_17 : decode cX12_settles 17 = .ok (.ifCond .ne 33, 3) := by decide +kernel
theorem dX12_settles_20 : decode cX12_settles 20 = .ok (.iload_n 1, 1) := by decide +kernel
theorem dX12_settles_21 : decode cX12_settles 21 = .ok (.iconst 2, 1) := by decide +kernel
theorem dX12_settles_22 : decode cX12_settles 22 = .ok (.irem, 1) := by decide +kernel
theorem dX12_settles_23 : decode cX12_settles 23 = .ok (.ifCond .ne 16, 3) := by decide +kernel
theorem dX12_settles_26 : decode cX12_settles 26 = .ok (.iload_n 2, 1) := by decide +kernel
theorem dX12_settles_27 : decode cX12_settles 27 = .ok (.aload_n 0, 1) := by decide +kernel
theorem dX12_settles_28 : decode cX12_settles 28 = .ok (.getfield 63, 3) := by decide +kernel
theorem dX12_settles_31 : decode cX12_settles 31 = .ok (.iload_n 1, 1) := by decide +kernel
theorem dX12_settles_32 : decode cX12_settles 32 = .ok (.iaload, 1) := by decide +kernel
theorem dX12_settles_33 : decode cX12_settles 33 = .ok (.if_icmp .gt 17, 3) := by decide +kernel
theorem dX12_settles_36 : decode cX12_settles 36 = .ok (.goto 13, 3) := by decide +kernel
theorem dX12_settles_39 : decode cX12_settles 39 = .ok (.iload_n 2, 1) := by decide +kernel
theorem dX12_settles_40 : decode cX12_settles 40 = .ok (.aload_n 0, 1) := by decide +kernel
theorem dX12_settles_41 : decode cX12_settles 41 = .ok (.getfield 63, 3) := by decide +kernel
theorem dX12_settles_44 : decode cX12_settles 44 = .ok (.iload_n 1, 1) := by decide +kernel
theorem dX12_settles_45 : decode cX12_settles 45 = .ok (.iaload, 1) := by decide +kernel
theorem dX12_settles_46 : decode cX12_settles 46 = .ok (.if_icmp .lt 4, 3) := by decide +kernel
theorem dX12_settles_49 : decode cX12_settles 49 = .ok (.return_, 1) := by decide +kernel
theorem dX12_settles_50 : decode cX12_settles 50 = .ok (.aload_n 0, 1) := by decide +kernel
theorem dX12_settles_51 : decode cX12_settles 51 = .ok (.getfield 63, 3) := by decide +kernel
theorem dX12_settles_54 : decode cX12_settles 54 = .ok (.iload_n 1, 1) := by decide +kernel
theorem dX12_settles_55 : decode cX12_settles 55 = .ok (.iload_n 2, 1) := by decide +kernel
theorem dX12_settles_56 : decode cX12_settles 56 = .ok (.iastore, 1) := by decide +kernel
theorem dX12_settles_57 : decode cX12_settles 57 = .ok (.aload_n 0, 1) := by decide +kernel
theorem dX12_settles_58 : decode cX12_settles 58 = .ok (.getfield 66, 3) := by decide +kernel
theorem dX12_settles_61 : decode cX12_settles 61 = .ok (.iload_n 1, 1) := by decide +kernel
theorem dX12_settles_62 : decode cX12_settles 62 = .ok (.aload_n 0, 1) := by decide +kernel
theorem dX12_settles_63 : decode cX12_settles 63 = .ok (.getfield 60, 3) := by decide +kernel
theorem dX12_settles_66 : decode cX12_settles 66 = .ok (.iload_n 1, 1) := by decide +kernel
theorem dX12_settles_67 : decode cX12_settles 67 = .ok (.iaload, 1) := by decide +kernel
theorem dX12_settles_68 : decode cX12_settles 68 = .ok (.iastore, 1) := by decide +kernel
theorem dX12_settles_69 : decode cX12_settles 69 = .ok (.return_, 1) := by decide +kernel
theorem dX12_groundMore_0 : decode cX12_groundMore 0 = .ok (.aload_n 0, 1) := by decide +kernel
theorem dX12_groundMore_1 : decode cX12_groundMore 1 = .ok (.iload_n 1, 1) := by decide +kernel
theorem dX12_groundMore_2 : decode cX12_groundMore 2 = .ok (.iconst 2, 1) := by decide +kernel
theorem dX12_groundMore_3 : decode cX12_groundMore 3 = .ok (.invokevirtual 290, 3) := by decide +kernel
theorem dX12_groundMore_6 : decode cX12_groundMore 6 = .ok (.aload_n 0, 1) := by decide +kernel
theorem dX12_groundMore_7 : decode cX12_groundMore 7 = .ok (.iload_n 2, 1) := by decide +kernel
theorem dX12_groundMore_8 : decode cX12_groundMore 8 = .ok (.iconst 2, 1) := by decide +kernel
theorem dX12_groundMore_9 : decode cX12_groundMore 9 = .ok (.invokevirtual 290, 3) := by decide +kernel
theorem dX12_groundMore_12 : decode cX12_groundMore 12 = .ok (.isub, 1) := by decide +kernel
theorem dX12_groundMore_13 : decode cX12_groundMore 13 = .ok (.ireturn, 1) := by decide +kernel
theorem dX12_playing_0 : decode cX12_playing 0 = .ok (.aload_n 0, 1) := by decide +kernel
theorem dX12_playing_1 : decode cX12_playing 1 = .ok (.iload_n 1, 1) := by decide +kernel
theorem dX12_playing_2 : decode cX12_playing 2 = .ok (.iload_n 2, 1) := by decide +kernel
theorem dX12_playing_3 : decode cX12_playing 3 = .ok (.invokevirtual 425, 3) := by decide +kernel
theorem dX12_playing_6 : decode cX12_playing 6 = .ok (.istore 4, 2) := by decide +kernel
theorem dX12_playing_8 : decode cX12_playing 8 = .ok (.iload_n 3, 1) := by decide +kernel
theorem dX12_playing_9 : decode cX12_playing 9 = .ok (.ifCond .ne 5, 3) := by decide +kernel
theorem dX12_playing_12 : decode cX12_playing 12 = .ok (.iconst 0, 1) := by decide +kernel
theorem dX12_playing_13 : decode cX12_playing 13 = .ok (.ireturn, 1) := by decide +kernel
theorem dX12_playing_14 : decode cX12_playing 14 = .ok (.aload_n 0, 1) := by decide +kernel
theorem dX12_playing_15 : decode cX12_playing 15 = .ok (.getfield 7, 3) := by decide +kernel
theorem dX12_playing_18 : decode cX12_playing 18 = .ok (.iconst 0, 1) := by decide +kernel
theorem dX12_playing_19 : decode cX12_playing 19 = .ok (.iaload, 1) := by decide +kernel
theorem dX12_playing_20 : decode cX12_playing 20 = .ok (.aload_n 0, 1) := by decide +kernel
theorem dX12_playing_21 : decode cX12_playing 21 = .ok (.getfield 7, 3) := by decide +kernel
theorem dX12_playing_24 : decode cX12_playing 24 = .ok (.iconst 2, 1) := by decide +kernel
theorem dX12_playing_25 : decode cX12_playing 25 = .ok (.iaload, 1) := by decide +kernel
theorem dX12_playing_26 : decode cX12_playing 26 = .ok (.imul, 1) := by decide +kernel
theorem dX12_playing_27 : decode cX12_playing 27 = .ok (.istore 5, 2) := by decide +kernel
theorem dX12_playing_29 : decode cX12_playing 29 = .ok (.iconst 0, 1) := by decide +kernel
theorem dX12_playing_30 : decode cX12_playing 30 = .ok (.istore 6, 2) := by decide +kernel
theorem dX12_playing_32 : decode cX12_playing 32 = .ok (.aload_n 0, 1) := by decide +kernel
theorem dX12_playing_33 : decode cX12_playing 33 = .ok (.iconst 0, 1) := by decide +kernel
theorem dX12_playing_34 : decode cX12_playing 34 = .ok (.invokestatic 428, 3) := by decide +kernel
theorem dX12_playing_37 : decode cX12_playing 37 = .ok (.invokevirtual 350, 3) := by decide +kernel
theorem dX12_playing_40 : decode cX12_playing 40 = .ok (.aload_n 0, 1) := by decide +kernel
theorem dX12_playing_41 : decode cX12_playing 41 = .ok (.getfield 60, 3) := by decide +kernel
theorem dX12_playing_44 : decode cX12_playing 44 = .ok (.iconst 0, 1) := by decide +kernel
theorem dX12_playing_45 : decode cX12_playing 45 = .ok (.iconst (-1), 1) := by decide +kernel
theorem dX12_playing_46 : decode cX12_playing 46 = .ok (.iastore, 1) := by decide +kernel
theorem dX12_playing_47 : decode cX12_playing 47 = .ok (.aload_n 0, 1) := by decide +kernel
theorem dX12_playing_48 : decode cX12_playing 48 = .ok (.getfield 66, 3) := by decide +kernel
theorem dX12_playing_51 : decode cX12_playing 51 = .ok (.iconst 0, 1) := by decide +kernel
theorem dX12_playing_52 : decode cX12_playing 52 = .ok (.iconst (-1), 1) := by decide +kernel
theorem dX12_playing_53 : decode cX12_playing 53 = .ok (.iastore, 1) := by decide +kernel
theorem dX12_playing_54 : decode cX12_playing 54 = .ok (.aload_n 0, 1) := by decide +kernel
theorem dX12_playing_55 : decode cX12_playing 55 = .ok (.iload 6, 2) := by decide +kernel
theorem dX12_playing_57 : decode cX12_playing 57 = .ok (.invokestatic 428, 3) := by decide +kernel
theorem dX12_playing_60 : decode cX12_playing 60 = .ok (.invokevirtual 353, 3) := by decide +kernel
theorem dX12_playing_63 : decode cX12_playing 63 = .ok (.aload_n 0, 1) := by decide +kernel
theorem dX12_playing_64 : decode cX12_playing 64 = .ok (.getfield 60, 3) := by decide +kernel
theorem dX12_playing_67 : decode cX12_playing 67 = .ok (.iload 6, 2) := by decide +kernel
theorem dX12_playing_69 : decode cX12_playing 69 = .ok (.dup2, 1) := by decide +kernel
theorem dX12_playing_70 : decode cX12_playing 70 = .ok (.iaload, 1) := by decide +kernel
theorem dX12_playing_71 : decode cX12_playing 71 = .ok (.iconst 1, 1) := by decide +kernel
theorem dX12_playing_72 : decode cX12_playing 72 = .ok (.iadd, 1) := by decide +kernel
theorem dX12_playing_73 : decode cX12_playing 73 = .ok (.iastore, 1) := by decide +kernel
theorem dX12_playing_74 : decode cX12_playing 74 = .ok (.aload_n 0, 1) := by decide +kernel
theorem dX12_playing_75 : decode cX12_playing 75 = .ok (.getfield 60, 3) := by decide +kernel
theorem dX12_playing_78 : decode cX12_playing 78 = .ok (.iload 6, 2) := by decide +kernel
theorem dX12_playing_80 : decode cX12_playing 80 = .ok (.iaload, 1) := by decide +kernel
theorem dX12_playing_81 : decode cX12_playing 81 = .ok (.istore 7, 2) := by decide +kernel
theorem dX12_playing_83 : decode cX12_playing 83 = .ok (.iload 7, 2) := by decide +kernel
theorem dX12_playing_85 : decode cX12_playing 85 = .ok (.iload 5, 2) := by decide +kernel
theorem dX12_playing_87 : decode cX12_playing 87 = .ok (.if_icmp .le 32, 3) := by decide +kernel
theorem dX12_playing_90 : decode cX12_playing 90 = .ok (.iload 6, 2) := by decide +kernel
theorem dX12_playing_92 : decode cX12_playing 92 = .ok (.ifCond .ne 6, 3) := by decide +kernel
theorem dX12_playing_95 : decode cX12_playing 95 = .ok (.goto 123, 3) := by decide +kernel
theorem dX12_playing_98 : decode cX12_playing 98 = .ok (.iinc 6 (-1), 3) := by decide +kernel
theorem dX12_playing_101 : decode cX12_playing 101 = .ok (.aload_n 0, 1) := by decide +kernel
theorem dX12_playing_102 : decode cX12_playing 102 = .ok (.iload 6, 2) := by decide +kernel
theorem dX12_playing_104 : decode cX12_playing 104 = .ok (.aload_n 0, 1) := by decide +kernel
theorem dX12_playing_105 : decode cX12_playing 105 = .ok (.getfield 63, 3) := by decide +kernel
theorem dX12_playing_108 : decode cX12_playing 108 = .ok (.iload 6, 2) := by decide +kernel
theorem dX12_playing_110 : decode cX12_playing 110 = .ok (.iconst 1, 1) := by decide +kernel
theorem dX12_playing_111 : decode cX12_playing 111 = .ok (.iadd, 1) := by decide +kernel
theorem dX12_playing_112 : decode cX12_playing 112 = .ok (.iaload, 1) := by decide +kernel
theorem dX12_playing_113 : decode cX12_playing 113 = .ok (.invokevirtual 431, 3) := by decide +kernel
theorem dX12_playing_116 : decode cX12_playing 116 = .ok (.goto (-62), 3) := by decide +kernel
theorem dX12_playing_119 : decode cX12_playing 119 = .ok (.iload 7, 2) := by decide +kernel
theorem dX12_playing_121 : decode cX12_playing 121 = .ok (.iload 5, 2) := by decide +kernel
theorem dX12_playing_123 : decode cX12_playing 123 = .ok (.if_icmp .ge 31, 3) := by decide +kernel
theorem dX12_playing_126 : decode cX12_playing 126 = .ok (.aload_n 0, 1) := by decide +kernel
theorem dX12_playing_127 : decode cX12_playing 127 = .ok (.iload 7, 2) := by decide +kernel
theorem dX12_playing_129 : decode cX12_playing 129 = .ok (.aload_n 0, 1) := by decide +kernel
theorem dX12_playing_130 : decode cX12_playing 130 = .ok (.getfield 7, 3) := by decide +kernel
theorem dX12_playing_133 : decode cX12_playing 133 = .ok (.iconst 2, 1) := by decide +kernel
theorem dX12_playing_134 : decode cX12_playing 134 = .ok (.iaload, 1) := by decide +kernel
theorem dX12_playing_135 : decode cX12_playing 135 = .ok (.idiv, 1) := by decide +kernel
theorem dX12_playing_136 : decode cX12_playing 136 = .ok (.iload 7, 2) := by decide +kernel
theorem dX12_playing_138 : decode cX12_playing 138 = .ok (.aload_n 0, 1) := by decide +kernel
theorem dX12_playing_139 : decode cX12_playing 139 = .ok (.getfield 7, 3) := by decide +kernel
theorem dX12_playing_142 : decode cX12_playing 142 = .ok (.iconst 2, 1) := by decide +kernel
theorem dX12_playing_143 : decode cX12_playing 143 = .ok (.iaload, 1) := by decide +kernel
theorem dX12_playing_144 : decode cX12_playing 144 = .ok (.irem, 1) := by decide +kernel
theorem dX12_playing_145 : decode cX12_playing 145 = .ok (.invokevirtual 329, 3) := by decide +kernel
theorem dX12_playing_148 : decode cX12_playing 148 = .ok (.ifCond .ne 6, 3) := by decide +kernel
theorem dX12_playing_151 : decode cX12_playing 151 = .ok (.goto (-97), 3) := by decide +kernel
theorem dX12_playing_154 : decode cX12_playing 154 = .ok (.aload_n 0, 1) := by decide +kernel
theorem dX12_playing_155 : decode cX12_playing 155 = .ok (.bipush 6, 2) := by decide +kernel
theorem dX12_playing_157 : decode cX12_playing 157 = .ok (.invokevirtual 320, 3) := by decide +kernel
theorem dX12_playing_160 : decode cX12_playing 160 = .ok (.pop, 1) := by decide +kernel
theorem dX12_playing_161 : decode cX12_playing 161 = .ok (.iload 6, 2) := by decide +kernel
theorem dX12_playing_163 : decode cX12_playing 163 = .ok (.iconst 1, 1) := by decide +kernel
theorem dX12_playing_164 : decode cX12_playing 164 = .ok (.iadd, 1) := by decide +kernel
theorem dX12_playing_165 : decode cX12_playing 165 = .ok (.iload_n 3, 1) := by decide +kernel
theorem dX12_playing_166 : decode cX12_playing 166 = .ok (.if_icmp .ne 21, 3) := by decide +kernel
theorem dX12_playing_169 : decode cX12_playing 169 = .ok (.aload_n 0, 1) := by decide +kernel
theorem dX12_playing_170 : decode cX12_playing 170 = .ok (.iload 6, 2) := by decide +kernel
theorem dX12_playing_172 : decode cX12_playing 172 = .ok (.aload_n 0, 1) := by decide +kernel
theorem dX12_playing_173 : decode cX12_playing 173 = .ok (.iload_n 1, 1) := by decide +kernel
theorem dX12_playing_174 : decode cX12_playing 174 = .ok (.iload_n 2, 1) := by decide +kernel
theorem dX12_playing_175 : decode cX12_playing 175 = .ok (.invokevirtual 425, 3) := by decide +kernel
theorem dX12_playing_178 : decode cX12_playing 178 = .ok (.iload 4, 2) := by decide +kernel
theorem dX12_playing_180 : decode cX12_playing 180 = .ok (.isub, 1) := by decide +kernel
theorem dX12_playing_181 : decode cX12_playing 181 = .ok (.invokevirtual 431, 3) := by decide +kernel
theorem dX12_playing_184 : decode cX12_playing 184 = .ok (.goto 31, 3) := by decide +kernel
theorem dX12_playing_187 : decode cX12_playing 187 = .ok (.iinc 6 1, 3) := by decide +kernel
theorem dX12_playing_190 : decode cX12_playing 190 = .ok (.aload_n 0, 1) := by decide +kernel
theorem dX12_playing_191 : decode cX12_playing 191 = .ok (.iload 6, 2) := by decide +kernel
theorem dX12_playing_193 : decode cX12_playing 193 = .ok (.invokestatic 428, 3) := by decide +kernel
theorem dX12_playing_196 : decode cX12_playing 196 = .ok (.invokevirtual 350, 3) := by decide +kernel
theorem dX12_playing_199 : decode cX12_playing 199 = .ok (.aload_n 0, 1) := by decide +kernel
theorem dX12_playing_200 : decode cX12_playing 200 = .ok (.getfield 60, 3) := by decide +kernel
theorem dX12_playing_203 : decode cX12_playing 203 = .ok (.iload 6, 2) := by decide +kernel
theorem dX12_playing_205 : decode cX12_playing 205 = .ok (.iconst (-1), 1) := by decide +kernel
theorem dX12_playing_206 : decode cX12_playing 206 = .ok (.iastore, 1) := by decide +kernel
theorem dX12_playing_207 : decode cX12_playing 207 = .ok (.aload_n 0, 1) := by decide +kernel
theorem dX12_playing_208 : decode cX12_playing 208 = .ok (.getfield 66, 3) := by decide +kernel
theorem dX12_playing_211 : decode cX12_playing 211 = .ok (.iload 6, 2) := by decide +kernel
theorem dX12_playing_213 : decode cX12_playing 213 = .ok (.iconst (-1), 1) := by decide +kernel
theorem dX12_playing_214 : decode cX12_playing 214 = .ok (.iastore, 1) := by decide +kernel
theorem dX12_playing_215 : decode cX12_playing 215 = .ok (.goto (-161), 3) := by decide +kernel
theorem dX12_playing_218 : decode cX12_playing 218 = .ok (.aload_n 0, 1) := by decide +kernel
theorem dX12_playing_219 : decode cX12_playing 219 = .ok (.iconst 0, 1) := by decide +kernel
theorem dX12_playing_220 : decode cX12_playing 220 = .ok (.invokestatic 428, 3) := by decide +kernel
theorem dX12_playing_223 : decode cX12_playing 223 = .ok (.invokevirtual 353, 3) := by decide +kernel
theorem dX12_playing_226 : decode cX12_playing 226 = .ok (.aload_n 0, 1) := by decide +kernel
theorem dX12_playing_227 : decode cX12_playing 227 = .ok (.getfield 63, 3) := by decide +kernel
theorem dX12_playing_230 : decode cX12_playing 230 = .ok (.iconst 0, 1) := by decide +kernel
theorem dX12_playing_231 : decode cX12_playing 231 = .ok (.iaload, 1) := by decide +kernel
theorem dX12_playing_232 : decode cX12_playing 232 = .ok (.ireturn, 1) := by decide +kernel
theorem dX12_areTwo_0 : decode cX12_areTwo 0 = .ok (.aload_n 0, 1) := by decide +kernel
theorem dX12_areTwo_1 : decode cX12_areTwo 1 = .ok (.iload_n 1, 1) := by decide +kernel
theorem dX12_areTwo_2 : decode cX12_areTwo 2 = .ok (.invokevirtual 287, 3) := by decide +kernel
theorem dX12_areTwo_5 : decode cX12_areTwo 5 = .ok (.ifCond .eq 20, 3) := by decide +kernel
theorem dX12_areTwo_8 : decode cX12_areTwo 8 = .ok (.aload_n 0, 1) := by decide +kernel
theorem dX12_areTwo_9 : decode cX12_areTwo 9 = .ok (.iload_n 2, 1) := by decide +kernel
theorem dX12_areTwo_10 : decode cX12_areTwo 10 = .ok (.invokevirtual 287, 3) := by decide +kernel
theorem dX12_areTwo_13 : decode cX12_areTwo 13 = .ok (.ifCond .eq 12, 3) := by decide +kernel
theorem dX12_areTwo_16 : decode cX12_areTwo 16 = .ok (.iload_n 1, 1) := by decide +kernel
theorem dX12_areTwo_17 : decode cX12_areTwo 17 = .ok (.iload_n 2, 1) := by decide +kernel
theorem dX12_areTwo_18 : decode cX12_areTwo 18 = .ok (.if_icmp .eq 7, 3) := by decide +kernel
theorem dX12_areTwo_21 : decode cX12_areTwo 21 = .ok (.iconst 1, 1) := by decide +kernel
theorem dX12_areTwo_22 : decode cX12_areTwo 22 = .ok (.goto 4, 3) := by decide +kernel
theorem dX12_areTwo_25 : decode cX12_areTwo 25 = .ok (.iconst 0, 1) := by decide +kernel
theorem dX12_areTwo_26 : decode cX12_areTwo 26 = .ok (.ireturn, 1) := by decide +kernel
theorem dX12_game_0 : decode cX12_game 0 = .ok (.aload_n 0, 1) := by decide +kernel
theorem dX12_game_1 : decode cX12_game 1 = .ok (.iload_n 1, 1) := by decide +kernel
theorem dX12_game_2 : decode cX12_game 2 = .ok (.iload_n 2, 1) := by decide +kernel
theorem dX12_game_3 : decode cX12_game 3 = .ok (.invokevirtual 434, 3) := by decide +kernel
theorem dX12_game_6 : decode cX12_game 6 = .ok (.ifCond .eq 15, 3) := by decide +kernel
theorem dX12_game_9 : decode cX12_game 9 = .ok (.iload_n 3, 1) := by decide +kernel
theorem dX12_game_10 : decode cX12_game 10 = .ok (.i2l, 1) := by decide +kernel
theorem dX12_game_11 : decode cX12_game 11 = .ok (.lconst 0, 1) := by decide +kernel
theorem dX12_game_12 : decode cX12_game 12 = .ok (.ldc2_w 339, 3) := by decide +kernel
theorem dX12_game_15 : decode cX12_game 15 = .ok (.invokestatic 316, 3) := by decide +kernel
theorem dX12_game_18 : decode cX12_game 18 = .ok (.ifCond .ne 9, 3) := by decide +kernel
theorem dX12_game_21 : decode cX12_game 21 = .ok (.aload_n 0, 1) := by decide +kernel
theorem dX12_game_22 : decode cX12_game 22 = .ok (.iconst 1, 1) := by decide +kernel
theorem dX12_game_23 : decode cX12_game 23 = .ok (.invokevirtual 91, 3) := by decide +kernel
theorem dX12_game_26 : decode cX12_game 26 = .ok (.ireturn, 1) := by decide +kernel
theorem dX12_game_27 : decode cX12_game 27 = .ok (.aload_n 0, 1) := by decide +kernel
theorem dX12_game_28 : decode cX12_game 28 = .ok (.aload_n 0, 1) := by decide +kernel
theorem dX12_game_29 : decode cX12_game 29 = .ok (.iload_n 1, 1) := by decide +kernel
theorem dX12_game_30 : decode cX12_game 30 = .ok (.iload_n 2, 1) := by decide +kernel
theorem dX12_game_31 : decode cX12_game 31 = .ok (.iload_n 3, 1) := by decide +kernel
theorem dX12_game_32 : decode cX12_game 32 = .ok (.invokevirtual 437, 3) := by decide +kernel
theorem dX12_game_35 : decode cX12_game 35 = .ok (.invokevirtual 95, 3) := by decide +kernel
theorem dX12_game_38 : decode cX12_game 38 = .ok (.ireturn, 1) := by decide +kernel
theorem dX12_moveOf_0 : decode cX12_moveOf 0 = .ok (.aload_n 0, 1) := by decide +kernel
theorem dX12_moveOf_1 : decode cX12_moveOf 1 = .ok (.iload_n 1, 1) := by decide +kernel
theorem dX12_moveOf_2 : decode cX12_moveOf 2 = .ok (.iload_n 2, 1) := by decide +kernel
theorem dX12_moveOf_3 : decode cX12_moveOf 3 = .ok (.invokevirtual 434, 3) := by decide +kernel
theorem dX12_moveOf_6 : decode cX12_moveOf 6 = .ok (.ifCond .eq 26, 3) := by decide +kernel
theorem dX12_moveOf_9 : decode cX12_moveOf 9 = .ok (.iload_n 3, 1) := by decide +kernel
theorem dX12_moveOf_10 : decode cX12_moveOf 10 = .ok (.i2l, 1) := by decide +kernel
theorem dX12_moveOf_11 : decode cX12_moveOf 11 = .ok (.lconst 1, 1) := by decide +kernel
theorem dX12_moveOf_12 : decode cX12_moveOf 12 = .ok (.ldc2_w 339, 3) := by decide +kernel
theorem dX12_moveOf_15 : decode cX12_moveOf 15 = .ok (.invokestatic 316, 3) := by decide +kernel
theorem dX12_moveOf_18 : decode cX12_moveOf 18 = .ok (.ifCond .eq 14, 3) := by decide +kernel
theorem dX12_moveOf_21 : decode cX12_moveOf 21 = .ok (.iload 4, 2) := by decide +kernel
theorem dX12_moveOf_23 : decode cX12_moveOf 23 = .ok (.i2l, 1) := by decide +kernel
theorem dX12_moveOf_24 : decode cX12_moveOf 24 = .ok (.lconst 0, 1) := by decide +kernel
theorem dX12_moveOf_25 : decode cX12_moveOf 25 = .ok (.lconst 1, 1) := by decide +kernel
theorem dX12_moveOf_26 : decode cX12_moveOf 26 = .ok (.invokestatic 316, 3) := by decide +kernel
theorem dX12_moveOf_29 : decode cX12_moveOf 29 = .ok (.ifCond .ne 9, 3) := by decide +kernel
theorem dX12_moveOf_32 : decode cX12_moveOf 32 = .ok (.aload_n 0, 1) := by decide +kernel
theorem dX12_moveOf_33 : decode cX12_moveOf 33 = .ok (.iconst 1, 1) := by decide +kernel
theorem dX12_moveOf_34 : decode cX12_moveOf 34 = .ok (.invokevirtual 91, 3) := by decide +kernel
theorem dX12_moveOf_37 : decode cX12_moveOf 37 = .ok (.ireturn, 1) := by decide +kernel
theorem dX12_moveOf_38 : decode cX12_moveOf 38 = .ok (.aload_n 0, 1) := by decide +kernel
theorem dX12_moveOf_39 : decode cX12_moveOf 39 = .ok (.iload_n 1, 1) := by decide +kernel
theorem dX12_moveOf_40 : decode cX12_moveOf 40 = .ok (.iload_n 2, 1) := by decide +kernel
theorem dX12_moveOf_41 : decode cX12_moveOf 41 = .ok (.iload_n 3, 1) := by decide +kernel
theorem dX12_moveOf_42 : decode cX12_moveOf 42 = .ok (.invokevirtual 437, 3) := by decide +kernel
theorem dX12_moveOf_45 : decode cX12_moveOf 45 = .ok (.pop, 1) := by decide +kernel
theorem dX12_moveOf_46 : decode cX12_moveOf 46 = .ok (.aload_n 0, 1) := by decide +kernel
theorem dX12_moveOf_47 : decode cX12_moveOf 47 = .ok (.getfield 66, 3) := by decide +kernel
theorem dX12_moveOf_50 : decode cX12_moveOf 50 = .ok (.iconst 0, 1) := by decide +kernel
theorem dX12_moveOf_51 : decode cX12_moveOf 51 = .ok (.iaload, 1) := by decide +kernel
theorem dX12_moveOf_52 : decode cX12_moveOf 52 = .ok (.istore 5, 2) := by decide +kernel
theorem dX12_moveOf_54 : decode cX12_moveOf 54 = .ok (.iload 5, 2) := by decide +kernel
theorem dX12_moveOf_56 : decode cX12_moveOf 56 = .ok (.aload_n 0, 1) := by decide +kernel
theorem dX12_moveOf_57 : decode cX12_moveOf 57 = .ok (.getfield 7, 3) := by decide +kernel
theorem dX12_moveOf_60 : decode cX12_moveOf 60 = .ok (.iconst 0, 1) := by decide +kernel
theorem dX12_moveOf_61 : decode cX12_moveOf 61 = .ok (.iaload, 1) := by decide +kernel
theorem dX12_moveOf_62 : decode cX12_moveOf 62 = .ok (.aload_n 0, 1) := by decide +kernel
theorem dX12_moveOf_63 : decode cX12_moveOf 63 = .ok (.getfield 7, 3) := by decide +kernel
theorem dX12_moveOf_66 : decode cX12_moveOf 66 = .ok (.iconst 2, 1) := by decide +kernel
theorem dX12_moveOf_67 : decode cX12_moveOf 67 = .ok (.iaload, 1) := by decide +kernel
theorem dX12_moveOf_68 : decode cX12_moveOf 68 = .ok (.imul, 1) := by decide +kernel
theorem dX12_moveOf_69 : decode cX12_moveOf 69 = .ok (.if_icmp .ne 10, 3) := by decide +kernel
theorem dX12_moveOf_72 : decode cX12_moveOf 72 = .ok (.aload_n 0, 1) := by decide +kernel
theorem dX12_moveOf_73 : decode cX12_moveOf 73 = .ok (.bipush 6, 2) := by decide +kernel
theorem dX12_moveOf_75 : decode cX12_moveOf 75 = .ok (.invokevirtual 91, 3) := by decide +kernel
theorem dX12_moveOf_78 : decode cX12_moveOf 78 = .ok (.ireturn, 1) := by decide +kernel
theorem dX12_moveOf_79 : decode cX12_moveOf 79 = .ok (.aload_n 0, 1) := by decide +kernel
theorem dX12_moveOf_80 : decode cX12_moveOf 80 = .ok (.iload 4, 2) := by decide +kernel
theorem dX12_moveOf_82 : decode cX12_moveOf 82 = .ok (.ifCond .ne 15, 3) := by decide +kernel
theorem dX12_moveOf_85 : decode cX12_moveOf 85 = .ok (.iload 5, 2) := by decide +kernel
theorem dX12_moveOf_87 : decode cX12_moveOf 87 = .ok (.aload_n 0, 1) := by decide +kernel
theorem dX12_moveOf_88 : decode cX12_moveOf 88 = .ok (.getfield 7, 3) := by decide +kernel
theorem dX12_moveOf_91 : decode cX12_moveOf 91 = .ok (.iconst 2, 1) := by decide +kernel
theorem dX12_moveOf_92 : decode cX12_moveOf 92 = .ok (.iaload, 1) := by decide +kernel
theorem dX12_moveOf_93 : decode cX12_moveOf 93 = .ok (.idiv, 1) := by decide +kernel
theorem dX12_moveOf_94 : decode cX12_moveOf 94 = .ok (.goto 12, 3) := by decide +kernel
theorem dX12_moveOf_97 : decode cX12_moveOf 97 = .ok (.iload 5, 2) := by decide +kernel
theorem dX12_moveOf_99 : decode cX12_moveOf 99 = .ok (.aload_n 0, 1) := by decide +kernel
theorem dX12_moveOf_100 : decode cX12_moveOf 100 = .ok (.getfield 7, 3) := by decide +kernel
theorem dX12_moveOf_103 : decode cX12_moveOf 103 = .ok (.iconst 2, 1) := by decide +kernel
theorem dX12_moveOf_104 : decode cX12_moveOf 104 = .ok (.iaload, 1) := by decide +kernel
theorem dX12_moveOf_105 : decode cX12_moveOf 105 = .ok (.irem, 1) := by decide +kernel
theorem dX12_moveOf_106 : decode cX12_moveOf 106 = .ok (.invokevirtual 95, 3) := by decide +kernel
theorem dX12_moveOf_109 : decode cX12_moveOf 109 = .ok (.ireturn, 1) := by decide +kernel
theorem dX12_share_0 : decode cX12_share 0 = .ok (.aload_n 0, 1) := by decide +kernel
theorem dX12_share_1 : decode cX12_share 1 = .ok (.iload_n 1, 1) := by decide +kernel
theorem dX12_share_2 : decode cX12_share 2 = .ok (.invokevirtual 287, 3) := by decide +kernel
theorem dX12_share_5 : decode cX12_share 5 = .ok (.ifCond .ne 9, 3) := by decide +kernel
theorem dX12_share_8 : decode cX12_share 8 = .ok (.aload_n 0, 1) := by decide +kernel
theorem dX12_share_9 : decode cX12_share 9 = .ok (.iconst 1, 1) := by decide +kernel
theorem dX12_share_10 : decode cX12_share 10 = .ok (.invokevirtual 98, 3) := by decide +kernel
theorem dX12_share_13 : decode cX12_share 13 = .ok (.ireturn, 1) := by decide +kernel
theorem dX12_share_14 : decode cX12_share 14 = .ok (.iconst 0, 1) := by decide +kernel
theorem dX12_share_15 : decode cX12_share 15 = .ok (.istore_n 2, 1) := by decide +kernel
theorem dX12_share_16 : decode cX12_share 16 = .ok (.iconst 0, 1) := by decide +kernel
theorem dX12_share_17 : decode cX12_share 17 = .ok (.istore_n 3, 1) := by decide +kernel
theorem dX12_share_18 : decode cX12_share 18 = .ok (.iload_n 3, 1) := by decide +kernel
theorem dX12_share_19 : decode cX12_share 19 = .ok (.aload_n 0, 1) := by decide +kernel
theorem dX12_share_20 : decode cX12_share 20 = .ok (.getfield 7, 3) := by decide +kernel
theorem dX12_share_23 : decode cX12_share 23 = .ok (.iconst 1, 1) := by decide +kernel
theorem dX12_share_24 : decode cX12_share 24 = .ok (.iaload, 1) := by decide +kernel
theorem dX12_share_25 : decode cX12_share 25 = .ok (.if_icmp .ge 18, 3) := by decide +kernel
theorem dX12_share_28 : decode cX12_share 28 = .ok (.iload_n 2, 1) := by decide +kernel
theorem dX12_share_29 : decode cX12_share 29 = .ok (.aload_n 0, 1) := by decide +kernel
theorem dX12_share_30 : decode cX12_share 30 = .ok (.iload_n 3, 1) := by decide +kernel
theorem dX12_share_31 : decode cX12_share 31 = .ok (.iconst 2, 1) := by decide +kernel
theorem dX12_share_32 : decode cX12_share 32 = .ok (.invokevirtual 290, 3) := by decide +kernel
theorem dX12_share_35 : decode cX12_share 35 = .ok (.iadd, 1) := by decide +kernel
theorem dX12_share_36 : decode cX12_share 36 = .ok (.istore_n 2, 1) := by decide +kernel
theorem dX12_share_37 : decode cX12_share 37 = .ok (.iinc 3 1, 3) := by decide +kernel
theorem dX12_share_40 : decode cX12_share 40 = .ok (.goto (-22), 3) := by decide +kernel
theorem dX12_share_43 : decode cX12_share 43 = .ok (.iload_n 2, 1) := by decide +kernel
theorem dX12_share_44 : decode cX12_share 44 = .ok (.ifCond .ne 12, 3) := by decide +kernel
theorem dX12_share_47 : decode cX12_share 47 = .ok (.aload_n 0, 1) := by decide +kernel
theorem dX12_share_48 : decode cX12_share 48 = .ok (.bipush 6, 2) := by decide +kernel
theorem dX12_share_50 : decode cX12_share 50 = .ok (.invokevirtual 98, 3) := by decide +kernel
theorem dX12_share_53 : decode cX12_share 53 = .ok (.goto 16, 3) := by decide +kernel
theorem dX12_share_56 : decode cX12_share 56 = .ok (.aload_n 0, 1) := by decide +kernel
theorem dX12_share_57 : decode cX12_share 57 = .ok (.aload_n 0, 1) := by decide +kernel
theorem dX12_share_58 : decode cX12_share 58 = .ok (.iload_n 1, 1) := by decide +kernel
theorem dX12_share_59 : decode cX12_share 59 = .ok (.iconst 2, 1) := by decide +kernel
theorem dX12_share_60 : decode cX12_share 60 = .ok (.invokevirtual 290, 3) := by decide +kernel
theorem dX12_share_63 : decode cX12_share 63 = .ok (.i2l, 1) := by decide +kernel
theorem dX12_share_64 : decode cX12_share 64 = .ok (.iload_n 2, 1) := by decide +kernel
theorem dX12_share_65 : decode cX12_share 65 = .ok (.i2l, 1) := by decide +kernel
theorem dX12_share_66 : decode cX12_share 66 = .ok (.invokevirtual 440, 3) := by decide +kernel
theorem dX12_share_69 : decode cX12_share 69 = .ok (.ireturn, 1) := by decide +kernel
theorem dX12_rain_0 : decode cX12_rain 0 = .ok (.iload_n 1, 1) := by decide +kernel
theorem dX12_rain_1 : decode cX12_rain 1 = .ok (.i2l, 1) := by decide +kernel
theorem dX12_rain_2 : decode cX12_rain 2 = .ok (.lconst 0, 1) := by decide +kernel
theorem dX12_rain_3 : decode cX12_rain 3 = .ok (.ldc2_w 444, 3) := by decide +kernel
theorem dX12_rain_6 : decode cX12_rain 6 = .ok (.invokestatic 316, 3) := by decide +kernel
theorem dX12_rain_9 : decode cX12_rain 9 = .ok (.ifCond .eq 15, 3) := by decide +kernel
theorem dX12_rain_12 : decode cX12_rain 12 = .ok (.iload_n 2, 1) := by decide +kernel
theorem dX12_rain_13 : decode cX12_rain 13 = .ok (.i2l, 1) := by decide +kernel
theorem dX12_rain_14 : decode cX12_rain 14 = .ok (.lconst 0, 1) := by decide +kernel
theorem dX12_rain_15 : decode cX12_rain 15 = .ok (.ldc2_w 444, 3) := by decide +kernel
theorem dX12_rain_18 : decode cX12_rain 18 = .ok (.invokestatic 316, 3) := by decide +kernel
theorem dX12_rain_21 : decode cX12_rain 21 = .ok (.ifCond .ne 9, 3) := by decide +kernel
theorem dX12_rain_24 : decode cX12_rain 24 = .ok (.aload_n 0, 1) := by decide +kernel
theorem dX12_rain_25 : decode cX12_rain 25 = .ok (.iconst 1, 1) := by decide +kernel
theorem dX12_rain_26 : decode cX12_rain 26 = .ok (.invokevirtual 98, 3) := by decide +kernel
theorem dX12_rain_29 : decode cX12_rain 29 = .ok (.ireturn, 1) := by decide +kernel
theorem dX12_rain_30 : decode cX12_rain 30 = .ok (.lconst 1, 1) := by decide +kernel
theorem dX12_rain_31 : decode cX12_rain 31 = .ok (.lstore_n 3, 1) := by decide +kernel
theorem dX12_rain_32 : decode cX12_rain 32 = .ok (.iconst 0, 1) := by decide +kernel
theorem dX12_rain_33 : decode cX12_rain 33 = .ok (.istore 5, 2) := by decide +kernel
theorem dX12_rain_35 : decode cX12_rain 35 = .ok (.iload 5, 2) := by decide +kernel
theorem dX12_rain_37 : decode cX12_rain 37 = .ok (.bipush 13, 2) := by decide +kernel
theorem dX12_rain_39 : decode cX12_rain 39 = .ok (.if_icmp .ge 26, 3) := by decide +kernel
theorem dX12_rain_42 : decode cX12_rain 42 = .ok (.aload_n 0, 1) := by decide +kernel
theorem dX12_rain_43 : decode cX12_rain 43 = .ok (.getfield 69, 3) := by decide +kernel
theorem dX12_rain_46 : decode cX12_rain 46 = .ok (.iload 5, 2) := by decide +kernel
theorem dX12_rain_48 : decode cX12_rain 48 = .ok (.iload 5, 2) := by decide +kernel
theorem dX12_rain_50 : decode cX12_rain 50 = .ok (.ifCond .ne 7, 3) := by decide +kernel
theorem dX12_rain_53 : decode cX12_rain 53 = .ok (.lconst 1, 1) := by decide +kernel
theorem dX12_rain_54 : decode cX12_rain 54 = .ok (.goto 4, 3) := by decide +kernel
theorem dX12_rain_57 : decode cX12_rain 57 = .ok (.lconst 0, 1) := by decide +kernel
theorem dX12_rain_58 : decode cX12_rain 58 = .ok (.lastore, 1) := by decide +kernel
theorem dX12_rain_59 : decode cX12_rain 59 = .ok (.iinc 5 1, 3) := by decide +kernel
theorem dX12_rain_62 : decode cX12_rain 62 = .ok (.goto (-27), 3) := by decide +kernel
theorem dX12_rain_65 : decode cX12_rain 65 = .ok (.iconst 0, 1) := by decide +kernel
theorem dX12_rain_66 : decode cX12_rain 66 = .ok (.istore 5, 2) := by decide +kernel
theorem dX12_rain_68 : decode cX12_rain 68 = .ok (.iload 5, 2) := by decide +kernel
theorem dX12_rain_70 : decode cX12_rain 70 = .ok (.iload_n 1, 1) := by decide +kernel
theorem dX12_rain_71 : decode cX12_rain 71 = .ok (.if_icmp .ge 82, 3) := by decide +kernel
theorem dX12_rain_74 : decode cX12_rain 74 = .ok (.bipush 12, 2) := by decide +kernel
theorem dX12_rain_76 : decode cX12_rain 76 = .ok (.istore 6, 2) := by decide +kernel
theorem dX12_rain_78 : decode cX12_rain 78 = .ok (.iload 6, 2) := by decide +kernel
theorem dX12_rain_80 : decode cX12_rain 80 = .ok (.ifCond .lt 61, 3) := by decide +kernel
theorem dX12_rain_83 : decode cX12_rain 83 = .ok (.aload_n 0, 1) := by decide +kernel
theorem dX12_rain_84 : decode cX12_rain 84 = .ok (.getfield 69, 3) := by decide +kernel
theorem dX12_rain_87 : decode cX12_rain 87 = .ok (.iload 6, 2) := by decide +kernel
theorem dX12_rain_89 : decode cX12_rain 89 = .ok (.aload_n 0, 1) := by decide +kernel
theorem dX12_rain_90 : decode cX12_rain 90 = .ok (.getfield 69, 3) := by decide +kernel
theorem dX12_rain_93 : decode cX12_rain 93 = .ok (.iload 6, 2) := by decide +kernel
theorem dX12_rain_95 : decode cX12_rain 95 = .ok (.laload, 1) := by decide +kernel
theorem dX12_rain_96 : decode cX12_rain 96 = .ok (.bipush 16, 2) := by decide +kernel
theorem dX12_rain_98 : decode cX12_rain 98 = .ok (.aload_n 0, 1) := by decide +kernel
theorem dX12_rain_99 : decode cX12_rain 99 = .ok (.getfield 7, 3) := by decide +kernel
theorem dX12_rain_102 : decode cX12_rain 102 = .ok (.iconst 4, 1) := by decide +kernel
theorem dX12_rain_103 : decode cX12_rain 103 = .ok (.iaload, 1) := by decide +kernel
theorem dX12_rain_104 : decode cX12_rain 104 = .ok (.isub, 1) := by decide +kernel
theorem dX12_rain_105 : decode cX12_rain 105 = .ok (.i2l, 1) := by decide +kernel
theorem dX12_rain_106 : decode cX12_rain 106 = .ok (.lmul, 1) := by decide +kernel
theorem dX12_rain_107 : decode cX12_rain 107 = .ok (.iload 6, 2) := by decide +kernel
theorem dX12_rain_109 : decode cX12_rain 109 = .ok (.ifCond .ne 7, 3) := by decide +kernel
theorem dX12_rain_112 : decode cX12_rain 112 = .ok (.lconst 0, 1) := by decide +kernel
theorem dX12_rain_113 : decode cX12_rain 113 = .ok (.goto 20, 3) := by decide +kernel
theorem dX12_rain_116 : decode cX12_rain 116 = .ok (.aload_n 0, 1) := by decide +kernel
theorem dX12_rain_117 : decode cX12_rain 117 = .ok (.getfield 69, 3) := by decide +kernel
theorem dX12_rain_120 : decode cX12_rain 120 = .ok (.iload 6, 2) := by decide +kernel
theorem dX12_rain_122 : decode cX12_rain 122 = .ok (.iconst 1, 1) := by decide +kernel
theorem dX12_rain_123 : decode cX12_rain 123 = .ok (.isub, 1) := by decide +kernel
theorem dX12_rain_124 : decode cX12_rain 124 = .ok (.laload, 1) := by decide +kernel
theorem dX12_rain_125 : decode cX12_rain 125 = .ok (.aload_n 0, 1) := by decide +kernel
theorem dX12_rain_126 : decode cX12_rain 126 = .ok (.getfield 7, 3) := by decide +kernel
theorem dX12_rain_129 : decode cX12_rain 129 = .ok (.iconst 4, 1) := by decide +kernel
theorem dX12_rain_130 : decode cX12_rain 130 = .ok (.iaload, 1) := by decide +kernel
theorem dX12_rain_131 : decode cX12_rain 131 = .ok (.i2l, 1) := by decide +kernel
theorem dX12_rain_132 : decode cX12_rain 132 = .ok (.lmul, 1) := by decide +kernel
theorem dX12_rain_133 : decode cX12_rain 133 = .ok (.ladd, 1) := by decide +kernel
theorem dX12_rain_134 : decode cX12_rain 134 = .ok (.lastore, 1) := by decide +kernel
theorem dX12_rain_135 : decode cX12_rain 135 = .ok (.iinc 6 (-1), 3) := by decide +kernel
theorem dX12_rain_138 : decode cX12_rain 138 = .ok (.goto (-60), 3) := by decide +kernel
theorem dX12_rain_141 : decode cX12_rain 141 = .ok (.lload_n 3, 1) := by decide +kernel
theorem dX12_rain_142 : decode cX12_rain 142 = .ok (.ldc2_w 343, 3) := by decide +kernel
theorem dX12_rain_145 : decode cX12_rain 145 = .ok (.lmul, 1) := by decide +kernel
theorem dX12_rain_146 : decode cX12_rain 146 = .ok (.lstore_n 3, 1) := by decide +kernel
theorem dX12_rain_147 : decode cX12_rain 147 = .ok (.iinc 5 1, 3) := by decide +kernel
theorem dX12_rain_150 : decode cX12_rain 150 = .ok (.goto (-82), 3) := by decide +kernel
theorem dX12_rain_153 : decode cX12_rain 153 = .ok (.lconst 0, 1) := by decide +kernel
theorem dX12_rain_154 : decode cX12_rain 154 = .ok (.lstore 5, 2) := by decide +kernel
theorem dX12_rain_156 : decode cX12_rain 156 = .ok (.iload_n 2, 1) := by decide +kernel
theorem dX12_rain_157 : decode cX12_rain 157 = .ok (.istore 7, 2) := by decide +kernel
theorem dX12_rain_159 : decode cX12_rain 159 = .ok (.iload 7, 2) := by decide +kernel
theorem dX12_rain_161 : decode cX12_rain 161 = .ok (.bipush 13, 2) := by decide +kernel
theorem dX12_rain_163 : decode cX12_rain 163 = .ok (.if_icmp .ge 21, 3) := by decide +kernel
theorem dX12_rain_166 : decode cX12_rain 166 = .ok (.lload 5, 2) := by decide +kernel
theorem dX12_rain_168 : decode cX12_rain 168 = .ok (.aload_n 0, 1) := by decide +kernel
theorem dX12_rain_169 : decode cX12_rain 169 = .ok (.getfield 69, 3) := by decide +kernel
theorem dX12_rain_172 : decode cX12_rain 172 = .ok (.iload 7, 2) := by decide +kernel
theorem dX12_rain_174 : decode cX12_rain 174 = .ok (.laload, 1) := by decide +kernel
theorem dX12_rain_175 : decode cX12_rain 175 = .ok (.ladd, 1) := by decide +kernel
theorem dX12_rain_176 : decode cX12_rain 176 = .ok (.lstore 5, 2) := by decide +kernel
theorem dX12_rain_178 : decode cX12_rain 178 = .ok (.iinc 7 1, 3) := by decide +kernel
theorem dX12_rain_181 : decode cX12_rain 181 = .ok (.goto (-22), 3) := by decide +kernel
theorem dX12_rain_184 : decode cX12_rain 184 = .ok (.aload_n 0, 1) := by decide +kernel
theorem dX12_rain_185 : decode cX12_rain 185 = .ok (.lload 5, 2) := by decide +kernel
theorem dX12_rain_187 : decode cX12_rain 187 = .ok (.lload_n 3, 1) := by decide +kernel
theorem dX12_rain_188 : decode cX12_rain 188 = .ok (.invokevirtual 440, 3) := by decide +kernel
theorem dX12_rain_191 : decode cX12_rain 191 = .ok (.ireturn, 1) := by decide +kernel
theorem dX12_copyHours_0 : decode cX12_copyHours 0 = .ok (.iload_n 1, 1) := by decide +kernel
theorem dX12_copyHours_1 : decode cX12_copyHours 1 = .ok (.invokestatic 102, 3) := by decide +kernel
theorem dX12_copyHours_4 : decode cX12_copyHours 4 = .ok (.ifCond .ne 9, 3) := by decide +kernel
theorem dX12_copyHours_7 : decode cX12_copyHours 7 = .ok (.aload_n 0, 1) := by decide +kernel
theorem dX12_copyHours_8 : decode cX12_copyHours 8 = .ok (.iconst 1, 1) := by decide +kernel
theorem dX12_copyHours_9 : decode cX12_copyHours 9 = .ok (.invokevirtual 91, 3) := by decide +kernel
theorem dX12_copyHours_12 : decode cX12_copyHours 12 = .ok (.ireturn, 1) := by decide +kernel
theorem dX12_copyHours_13 : decode cX12_copyHours 13 = .ok (.aload_n 0, 1) := by decide +kernel
theorem dX12_copyHours_14 : decode cX12_copyHours 14 = .ok (.getfield 24, 3) := by decide +kernel
theorem dX12_copyHours_17 : decode cX12_copyHours 17 = .ok (.iload_n 1, 1) := by decide +kernel
theorem dX12_copyHours_18 : decode cX12_copyHours 18 = .ok (.iaload, 1) := by decide +kernel
theorem dX12_copyHours_19 : decode cX12_copyHours 19 = .ok (.iconst (-1), 1) := by decide +kernel
theorem dX12_copyHours_20 : decode cX12_copyHours 20 = .ok (.if_icmp .ne 9, 3) := by decide +kernel
theorem dX12_copyHours_23 : decode cX12_copyHours 23 = .ok (.aload_n 0, 1) := by decide +kernel
theorem dX12_copyHours_24 : decode cX12_copyHours 24 = .ok (.iconst 2, 1) := by decide +kernel
theorem dX12_copyHours_25 : decode cX12_copyHours 25 = .ok (.invokevirtual 91, 3) := by decide +kernel
theorem dX12_copyHours_28 : decode cX12_copyHours 28 = .ok (.ireturn, 1) := by decide +kernel
theorem dX12_copyHours_29 : decode cX12_copyHours 29 = .ok (.aload_n 0, 1) := by decide +kernel
theorem dX12_copyHours_30 : decode cX12_copyHours 30 = .ok (.getfield 24, 3) := by decide +kernel
theorem dX12_copyHours_33 : decode cX12_copyHours 33 = .ok (.iload_n 1, 1) := by decide +kernel
theorem dX12_copyHours_34 : decode cX12_copyHours 34 = .ok (.iaload, 1) := by decide +kernel
theorem dX12_copyHours_35 : decode cX12_copyHours 35 = .ok (.aload_n 0, 1) := by decide +kernel
theorem dX12_copyHours_36 : decode cX12_copyHours 36 = .ok (.getfield 7, 3) := by decide +kernel
theorem dX12_copyHours_39 : decode cX12_copyHours 39 = .ok (.iconst 0, 1) := by decide +kernel
theorem dX12_copyHours_40 : decode cX12_copyHours 40 = .ok (.iaload, 1) := by decide +kernel
theorem dX12_copyHours_41 : decode cX12_copyHours 41 = .ok (.if_icmp .ge 9, 3) := by decide +kernel
theorem dX12_copyHours_44 : decode cX12_copyHours 44 = .ok (.aload_n 0, 1) := by decide +kernel
theorem dX12_copyHours_45 : decode cX12_copyHours 45 = .ok (.iconst 3, 1) := by decide +kernel
theorem dX12_copyHours_46 : decode cX12_copyHours 46 = .ok (.invokevirtual 91, 3) := by decide +kernel
theorem dX12_copyHours_49 : decode cX12_copyHours 49 = .ok (.ireturn, 1) := by decide +kernel
theorem dX12_copyHours_50 : decode cX12_copyHours 50 = .ok (.iconst 0, 1) := by decide +kernel
theorem dX12_copyHours_51 : decode cX12_copyHours 51 = .ok (.istore_n 2, 1) := by decide +kernel
theorem dX12_copyHours_52 : decode cX12_copyHours 52 = .ok (.iload_n 2, 1) := by decide +kernel
theorem dX12_copyHours_53 : decode cX12_copyHours 53 = .ok (.aload_n 0, 1) := by decide +kernel
theorem dX12_copyHours_54 : decode cX12_copyHours 54 = .ok (.getfield 7, 3) := by decide +kernel
theorem dX12_copyHours_57 : decode cX12_copyHours 57 = .ok (.iconst 0, 1) := by decide +kernel
theorem dX12_copyHours_58 : decode cX12_copyHours 58 = .ok (.iaload, 1) := by decide +kernel
theorem dX12_copyHours_59 : decode cX12_copyHours 59 = .ok (.if_icmp .ge 36, 3) := by decide +kernel
theorem dX12_copyHours_62 : decode cX12_copyHours 62 = .ok (.aload_n 0, 1) := by decide +kernel
theorem dX12_copyHours_63 : decode cX12_copyHours 63 = .ok (.getfield 27, 3) := by decide +kernel
theorem dX12_copyHours_66 : decode cX12_copyHours 66 = .ok (.bipush 60, 2) := by decide +kernel
theorem dX12_copyHours_68 : decode cX12_copyHours 68 = .ok (.iload_n 1, 1) := by decide +kernel
theorem dX12_copyHours_69 : decode cX12_copyHours 69 = .ok (.imul, 1) := by decide +kernel
theorem dX12_copyHours_70 : decode cX12_copyHours 70 = .ok (.iload_n 2, 1) := by decide +kernel
theorem dX12_copyHours_71 : decode cX12_copyHours 71 = .ok (.iadd, 1) := by decide +kernel
theorem dX12_copyHours_72 : decode cX12_copyHours 72 = .ok (.aload_n 0, 1) := by decide +kernel
theorem dX12_copyHours_73 : decode cX12_copyHours 73 = .ok (.iload_n 2, 1) := by decide +kernel
theorem dX12_copyHours_74 : decode cX12_copyHours 74 = .ok (.iconst 5, 1) := by decide +kernel
theorem dX12_copyHours_75 : decode cX12_copyHours 75 = .ok (.invokevirtual 263, 3) := by decide +kernel
theorem dX12_copyHours_78 : decode cX12_copyHours 78 = .ok (.i2l, 1) := by decide +kernel
theorem dX12_copyHours_79 : decode cX12_copyHours 79 = .ok (.aload_n 0, 1) := by decide +kernel
theorem dX12_copyHours_80 : decode cX12_copyHours 80 = .ok (.getfield 21, 3) := by decide +kernel
theorem dX12_copyHours_83 : decode cX12_copyHours 83 = .ok (.iload_n 1, 1) := by decide +kernel
theorem dX12_copyHours_84 : decode cX12_copyHours 84 = .ok (.iaload, 1) := by decide +kernel
theorem dX12_copyHours_85 : decode cX12_copyHours 85 = .ok (.invokestatic 109, 3) := by decide +kernel
theorem dX12_copyHours_88 : decode cX12_copyHours 88 = .ok (.lastore, 1) := by decide +kernel
theorem dX12_copyHours_89 : decode cX12_copyHours 89 = .ok (.iinc 2 1, 3) := by decide +kernel
theorem dX12_copyHours_92 : decode cX12_copyHours 92 = .ok (.goto (-40), 3) := by decide +kernel
theorem dX12_copyHours_95 : decode cX12_copyHours 95 = .ok (.aload_n 0, 1) := by decide +kernel
theorem dX12_copyHours_96 : decode cX12_copyHours 96 = .ok (.aload_n 0, 1) := by decide +kernel
theorem dX12_copyHours_97 : decode cX12_copyHours 97 = .ok (.getfield 7, 3) := by decide +kernel
theorem dX12_copyHours_100 : decode cX12_copyHours 100 = .ok (.iconst 0, 1) := by decide +kernel
theorem dX12_copyHours_101 : decode cX12_copyHours 101 = .ok (.iaload, 1) := by decide +kernel
theorem dX12_copyHours_102 : decode cX12_copyHours 102 = .ok (.invokevirtual 95, 3) := by decide +kernel
theorem dX12_copyHours_105 : decode cX12_copyHours 105 = .ok (.ireturn, 1) := by decide +kernel
theorem dX12_draw_0 : decode cX12_draw 0 = .ok (.aload_n 0, 1) := by decide +kernel
theorem dX12_draw_1 : decode cX12_draw 1 = .ok (.aload_n 0, 1) := by decide +kernel
theorem dX12_draw_2 : decode cX12_draw 2 = .ok (.getfield 446, 3) := by decide +kernel
theorem dX12_draw_5 : decode cX12_draw 5 = .ok (.sipush 3169, 3) := by decide +kernel
theorem dX12_draw_8 : decode cX12_draw 8 = .ok (.imul, 1) := by decide +kernel
theorem dX12_draw_9 : decode cX12_draw 9 = .ok (.sipush 11393, 3) := by decide +kernel
theorem dX12_draw_12 : decode cX12_draw 12 = .ok (.iadd, 1) := by decide +kernel
theorem dX12_draw_13 : decode cX12_draw 13 = .ok (.ldc_w 449, 3) := by decide +kernel
theorem dX12_draw_16 : decode cX12_draw 16 = .ok (.irem, 1) := by decide +kernel
theorem dX12_draw_17 : decode cX12_draw 17 = .ok (.putfield 446, 3) := by decide +kernel
theorem dX12_draw_20 : decode cX12_draw 20 = .ok (.aload_n 0, 1) := by decide +kernel
theorem dX12_draw_21 : decode cX12_draw 21 = .ok (.getfield 446, 3) := by decide +kernel
theorem dX12_draw_24 : decode cX12_draw 24 = .ok (.bipush 8, 2) := by decide +kernel
theorem dX12_draw_26 : decode cX12_draw 26 = .ok (.idiv, 1) := by decide +kernel
theorem dX12_draw_27 : decode cX12_draw 27 = .ok (.iload_n 1, 1) := by decide +kernel
theorem dX12_draw_28 : decode cX12_draw 28 = .ok (.irem, 1) := by decide +kernel
theorem dX12_draw_29 : decode cX12_draw 29 = .ok (.ireturn, 1) := by decide +kernel
theorem dX12_hoursBy_0 : decode cX12_hoursBy 0 = .ok (.aload_n 0, 1) := by decide +kernel
theorem dX12_hoursBy_1 : decode cX12_hoursBy 1 = .ok (.getfield 7, 3) := by decide +kernel
theorem dX12_hoursBy_4 : decode cX12_hoursBy 4 = .ok (.iconst 5, 1) := by decide +kernel
theorem dX12_hoursBy_5 : decode cX12_hoursBy 5 = .ok (.iaload, 1) := by decide +kernel
theorem dX12_hoursBy_6 : decode cX12_hoursBy 6 = .ok (.iload_n 1, 1) := by decide +kernel
theorem dX12_hoursBy_7 : decode cX12_hoursBy 7 = .ok (.iadd, 1) := by decide +kernel
theorem dX12_hoursBy_8 : decode cX12_hoursBy 8 = .ok (.sipush 9999, 3) := by decide +kernel
theorem dX12_hoursBy_11 : decode cX12_hoursBy 11 = .ok (.if_icmp .le 5, 3) := by decide +kernel
theorem dX12_hoursBy_14 : decode cX12_hoursBy 14 = .ok (.iconst 0, 1) := by decide +kernel
theorem dX12_hoursBy_15 : decode cX12_hoursBy 15 = .ok (.ireturn, 1) := by decide +kernel
theorem dX12_hoursBy_16 : decode cX12_hoursBy 16 = .ok (.aload_n 0, 1) := by decide +kernel
theorem dX12_hoursBy_17 : decode cX12_hoursBy 17 = .ok (.invokevirtual 450, 3) := by decide +kernel
theorem dX12_hoursBy_20 : decode cX12_hoursBy 20 = .ok (.istore_n 2, 1) := by decide +kernel
theorem dX12_hoursBy_21 : decode cX12_hoursBy 21 = .ok (.aload_n 0, 1) := by decide +kernel
theorem dX12_hoursBy_22 : decode cX12_hoursBy 22 = .ok (.getfield 75, 3) := by decide +kernel
theorem dX12_hoursBy_25 : decode cX12_hoursBy 25 = .ok (.iconst 2, 1) := by decide +kernel
theorem dX12_hoursBy_26 : decode cX12_hoursBy 26 = .ok (.dup2, 1) := by decide +kernel
theorem dX12_hoursBy_27 : decode cX12_hoursBy 27 = .ok (.iaload, 1) := by decide +kernel
theorem dX12_hoursBy_28 : decode cX12_hoursBy 28 = .ok (.aload_n 0, 1) := by decide +kernel
theorem dX12_hoursBy_29 : decode cX12_hoursBy 29 = .ok (.iload_n 1, 1) := by decide +kernel
theorem dX12_hoursBy_30 : decode cX12_hoursBy 30 = .ok (.invokevirtual 320, 3) := by decide +kernel
theorem dX12_hoursBy_33 : decode cX12_hoursBy 33 = .ok (.iadd, 1) := by decide +kernel
theorem dX12_hoursBy_34 : decode cX12_hoursBy 34 = .ok (.iastore, 1) := by decide +kernel
theorem dX12_hoursBy_35 : decode cX12_hoursBy 35 = .ok (.aload_n 0, 1) := by decide +kernel
theorem dX12_hoursBy_36 : decode cX12_hoursBy 36 = .ok (.getfield 75, 3) := by decide +kernel
theorem dX12_hoursBy_39 : decode cX12_hoursBy 39 = .ok (.iconst 1, 1) := by decide +kernel
theorem dX12_hoursBy_40 : decode cX12_hoursBy 40 = .ok (.dup2, 1) := by decide +kernel
theorem dX12_hoursBy_41 : decode cX12_hoursBy 41 = .ok (.iaload, 1) := by decide +kernel
theorem dX12_hoursBy_42 : decode cX12_hoursBy 42 = .ok (.iload_n 1, 1) := by decide +kernel
theorem dX12_hoursBy_43 : decode cX12_hoursBy 43 = .ok (.iadd, 1) := by decide +kernel
theorem dX12_hoursBy_44 : decode cX12_hoursBy 44 = .ok (.iastore, 1) := by decide +kernel
theorem dX12_hoursBy_45 : decode cX12_hoursBy 45 = .ok (.aload_n 0, 1) := by decide +kernel
theorem dX12_hoursBy_46 : decode cX12_hoursBy 46 = .ok (.getfield 75, 3) := by decide +kernel
theorem dX12_hoursBy_49 : decode cX12_hoursBy 49 = .ok (.iconst 3, 1) := by decide +kernel
theorem dX12_hoursBy_50 : decode cX12_hoursBy 50 = .ok (.dup2, 1) := by decide +kernel
theorem dX12_hoursBy_51 : decode cX12_hoursBy 51 = .ok (.iaload, 1) := by decide +kernel
theorem dX12_hoursBy_52 : decode cX12_hoursBy 52 = .ok (.aload_n 0, 1) := by decide +kernel
theorem dX12_hoursBy_53 : decode cX12_hoursBy 53 = .ok (.invokevirtual 450, 3) := by decide +kernel
theorem dX12_hoursBy_56 : decode cX12_hoursBy 56 = .ok (.iload_n 2, 1) := by decide +kernel
theorem dX12_hoursBy_57 : decode cX12_hoursBy 57 = .ok (.isub, 1) := by decide +kernel
theorem dX12_hoursBy_58 : decode cX12_hoursBy 58 = .ok (.iadd, 1) := by decide +kernel
theorem dX12_hoursBy_59 : decode cX12_hoursBy 59 = .ok (.iastore, 1) := by decide +kernel
theorem dX12_hoursBy_60 : decode cX12_hoursBy 60 = .ok (.iconst 1, 1) := by decide +kernel
theorem dX12_hoursBy_61 : decode cX12_hoursBy 61 = .ok (.ireturn, 1) := by decide +kernel
theorem dX12_throwsAny_0 : decode cX12_throwsAny 0 = .ok (.aload_n 0, 1) := by decide +kernel
theorem dX12_throwsAny_1 : decode cX12_throwsAny 1 = .ok (.getfield 7, 3) := by decide +kernel
theorem dX12_throwsAny_4 : decode cX12_throwsAny 4 = .ok (.iconst 0, 1) := by decide +kernel
theorem dX12_throwsAny_5 : decode cX12_throwsAny 5 = .ok (.iaload, 1) := by decide +kernel
theorem dX12_throwsAny_6 : decode cX12_throwsAny 6 = .ok (.ifCond .ne 5, 3) := by decide +kernel
theorem dX12_throwsAny_9 : decode cX12_throwsAny 9 = .ok (.iconst 0, 1) := by decide +kernel
theorem dX12_throwsAny_10 : decode cX12_throwsAny 10 = .ok (.ireturn, 1) := by decide +kernel
theorem dX12_throwsAny_11 : decode cX12_throwsAny 11 = .ok (.aload_n 0, 1) := by decide +kernel
theorem dX12_throwsAny_12 : decode cX12_throwsAny 12 = .ok (.aload_n 0, 1) := by decide +kernel
theorem dX12_throwsAny_13 : decode cX12_throwsAny 13 = .ok (.getfield 7, 3) := by decide +kernel
theorem dX12_throwsAny_16 : decode cX12_throwsAny 16 = .ok (.iconst 0, 1) := by decide +kernel
theorem dX12_throwsAny_17 : decode cX12_throwsAny 17 = .ok (.iaload, 1) := by decide +kernel
theorem dX12_throwsAny_18 : decode cX12_throwsAny 18 = .ok (.invokevirtual 453, 3) := by decide +kernel
theorem dX12_throwsAny_21 : decode cX12_throwsAny 21 = .ok (.istore_n 1, 1) := by decide +kernel
theorem dX12_throwsAny_22 : decode cX12_throwsAny 22 = .ok (.aload_n 0, 1) := by decide +kernel
theorem dX12_throwsAny_23 : decode cX12_throwsAny 23 = .ok (.iload_n 1, 1) := by decide +kernel
theorem dX12_throwsAny_24 : decode cX12_throwsAny 24 = .ok (.aload_n 0, 1) := by decide +kernel
theorem dX12_throwsAny_25 : decode cX12_throwsAny 25 = .ok (.aload_n 0, 1) := by decide +kernel
theorem dX12_throwsAny_26 : decode cX12_throwsAny 26 = .ok (.getfield 7, 3) := by decide +kernel
theorem dX12_throwsAny_29 : decode cX12_throwsAny 29 = .ok (.iconst 2, 1) := by decide +kernel
theorem dX12_throwsAny_30 : decode cX12_throwsAny 30 = .ok (.iaload, 1) := by decide +kernel
theorem dX12_throwsAny_31 : decode cX12_throwsAny 31 = .ok (.invokevirtual 453, 3) := by decide +kernel
theorem dX12_throwsAny_34 : decode cX12_throwsAny 34 = .ok (.invokevirtual 329, 3) := by decide +kernel
theorem dX12_throwsAny_37 : decode cX12_throwsAny 37 = .ok (.ireturn, 1) := by decide +kernel
theorem dX12_does_0 : decode cX12_does 0 = .ok (.aload_n 0, 1) := by decide +kernel
theorem dX12_does_1 : decode cX12_does 1 = .ok (.getfield 7, 3) := by decide +kernel
theorem dX12_does_4 : decode cX12_does 4 = .ok (.iload_n 1, 1) := by decide +kernel
theorem dX12_does_5 : decode cX12_does 5 = .ok (.iconst 1, 1) := by decide +kernel
theorem dX12_does_6 : decode cX12_does 6 = .ok (.iadd, 1) := by decide +kernel
theorem dX12_does_7 : decode cX12_does 7 = .ok (.iaload, 1) := by decide +kernel
theorem dX12_does_8 : decode cX12_does 8 = .ok (.istore_n 2, 1) := by decide +kernel
theorem dX12_does_9 : decode cX12_does 9 = .ok (.aload_n 0, 1) := by decide +kernel
theorem dX12_does_10 : decode cX12_does 10 = .ok (.getfield 7, 3) := by decide +kernel
theorem dX12_does_13 : decode cX12_does 13 = .ok (.iload_n 1, 1) := by decide +kernel
theorem dX12_does_14 : decode cX12_does 14 = .ok (.iaload, 1) := by decide +kernel
theorem dX12_does_15 : decode cX12_does 15 = .ok (.tableswitch 60 14 17 #[29, 35, 49, 55], 29) := by decide +kernel
theorem dX12_does_44 : decode cX12_does 44 = .ok (.aload_n 0, 1) := by decide +kernel
theorem dX12_does_45 : decode cX12_does 45 = .ok (.iload_n 2, 1) := by decide +kernel
theorem dX12_does_46 : decode cX12_does 46 = .ok (.invokevirtual 456, 3) := by decide +kernel
theorem dX12_does_49 : decode cX12_does 49 = .ok (.ireturn, 1) := by decide +kernel
theorem dX12_does_50 : decode cX12_does 50 = .ok (.aload_n 0, 1) := by decide +kernel
theorem dX12_does_51 : decode cX12_does 51 = .ok (.iload_n 2, 1) := by decide +kernel
theorem dX12_does_52 : decode cX12_does 52 = .ok (.aload_n 0, 1) := by decide +kernel
theorem dX12_does_53 : decode cX12_does 53 = .ok (.getfield 7, 3) := by decide +kernel
theorem dX12_does_56 : decode cX12_does 56 = .ok (.iload_n 1, 1) := by decide +kernel
theorem dX12_does_57 : decode cX12_does 57 = .ok (.iconst 2, 1) := by decide +kernel
theorem dX12_does_58 : decode cX12_does 58 = .ok (.iadd, 1) := by decide +kernel
theorem dX12_does_59 : decode cX12_does 59 = .ok (.iaload, 1) := by decide +kernel
theorem dX12_does_60 : decode cX12_does 60 = .ok (.invokevirtual 329, 3) := by decide +kernel
theorem dX12_does_63 : decode cX12_does 63 = .ok (.ireturn, 1) := by decide +kernel
theorem dX12_does_64 : decode cX12_does 64 = .ok (.aload_n 0, 1) := by decide +kernel
theorem dX12_does_65 : decode cX12_does 65 = .ok (.iload_n 2, 1) := by decide +kernel
theorem dX12_does_66 : decode cX12_does 66 = .ok (.invokevirtual 332, 3) := by decide +kernel
theorem dX12_does_69 : decode cX12_does 69 = .ok (.ireturn, 1) := by decide +kernel
theorem dX12_does_70 : decode cX12_does 70 = .ok (.aload_n 0, 1) := by decide +kernel
theorem dX12_does_71 : decode cX12_does 71 = .ok (.invokevirtual 459, 3) := by decide +kernel
theorem dX12_does_74 : decode cX12_does 74 = .ok (.ireturn, 1) := by decide +kernel
theorem dX12_does_75 : decode cX12_does 75 = .ok (.iconst 1, 1) := by decide +kernel
theorem dX12_does_76 : decode cX12_does 76 = .ok (.ireturn, 1) := by decide +kernel
theorem dX12_holds_0 : decode cX12_holds 0 = .ok (.aload_n 0, 1) := by decide +kernel
theorem dX12_holds_1 : decode cX12_holds 1 = .ok (.getfield 7, 3) := by decide +kernel
theorem dX12_holds_4 : decode cX12_holds 4 = .ok (.iload_n 1, 1) := by decide +kernel
theorem dX12_holds_5 : decode cX12_holds 5 = .ok (.iaload, 1) := by decide +kernel
theorem dX12_holds_6 : decode cX12_holds 6 = .ok (.sipush 1800, 3) := by decide +kernel
theorem dX12_holds_9 : decode cX12_holds 9 = .ok (.isub, 1) := by decide +kernel
theorem dX12_holds_10 : decode cX12_holds 10 = .ok (.istore_n 2, 1) := by decide +kernel
theorem dX12_holds_11 : decode cX12_holds 11 = .ok (.aload_n 0, 1) := by decide +kernel
theorem dX12_holds_12 : decode cX12_holds 12 = .ok (.getfield 7, 3) := by decide +kernel
theorem dX12_holds_15 : decode cX12_holds 15 = .ok (.iload_n 1, 1) := by decide +kernel
theorem dX12_holds_16 : decode cX12_holds 16 = .ok (.iconst 1, 1) := by decide +kernel
theorem dX12_holds_17 : decode cX12_holds 17 = .ok (.iadd, 1) := by decide +kernel
theorem dX12_holds_18 : decode cX12_holds 18 = .ok (.iaload, 1) := by decide +kernel
theorem dX12_holds_19 : decode cX12_holds 19 = .ok (.istore_n 3, 1) := by decide +kernel
theorem dX12_holds_20 : decode cX12_holds 20 = .ok (.iload_n 2, 1) := by decide +kernel
theorem dX12_holds_21 : decode cX12_holds 21 = .ok (.bipush 12, 2) := by decide +kernel
theorem dX12_holds_23 : decode cX12_holds 23 = .ok (.if_icmp .ne 19, 3) := by decide +kernel
theorem dX12_holds_26 : decode cX12_holds 26 = .ok (.aload_n 0, 1) := by decide +kernel
theorem dX12_holds_27 : decode cX12_holds 27 = .ok (.iload_n 3, 1) := by decide +kernel
theorem dX12_holds_28 : decode cX12_holds 28 = .ok (.iconst 3, 1) := by decide +kernel
theorem dX12_holds_29 : decode cX12_holds 29 = .ok (.invokevirtual 263, 3) := by decide +kernel
theorem dX12_holds_32 : decode cX12_holds 32 = .ok (.iconst 1, 1) := by decide +kernel
theorem dX12_holds_33 : decode cX12_holds 33 = .ok (.if_icmp .ne 7, 3) := by decide +kernel
theorem dX12_holds_36 : decode cX12_holds 36 = .ok (.iconst 1, 1) := by decide +kernel
theorem dX12_holds_37 : decode cX12_holds 37 = .ok (.goto 4, 3) := by decide +kernel
theorem dX12_holds_40 : decode cX12_holds 40 = .ok (.iconst 0, 1) := by decide +kernel
theorem dX12_holds_41 : decode cX12_holds 41 = .ok (.ireturn, 1) := by decide +kernel
theorem dX12_holds_42 : decode cX12_holds 42 = .ok (.iload_n 2, 1) := by decide +kernel
theorem dX12_holds_43 : decode cX12_holds 43 = .ok (.bipush 22, 2) := by decide +kernel
theorem dX12_holds_45 : decode cX12_holds 45 = .ok (.if_icmp .ne 20, 3) := by decide +kernel
theorem dX12_holds_48 : decode cX12_holds 48 = .ok (.aload_n 0, 1) := by decide +kernel
theorem dX12_holds_49 : decode cX12_holds 49 = .ok (.getfield 7, 3) := by decide +kernel
theorem dX12_holds_52 : decode cX12_holds 52 = .ok (.bipush 7, 2) := by decide +kernel
theorem dX12_holds_54 : decode cX12_holds 54 = .ok (.iaload, 1) := by decide +kernel
theorem dX12_holds_55 : decode cX12_holds 55 = .ok (.iload_n 3, 1) := by decide +kernel
theorem dX12_holds_56 : decode cX12_holds 56 = .ok (.if_icmp .ne 7, 3) := by decide +kernel
theorem dX12_holds_59 : decode cX12_holds 59 = .ok (.iconst 1, 1) := by decide +kernel
theorem dX12_holds_60 : decode cX12_holds 60 = .ok (.goto 4, 3) := by decide +kernel
theorem dX12_holds_63 : decode cX12_holds 63 = .ok (.iconst 0, 1) := by decide +kernel
theorem dX12_holds_64 : decode cX12_holds 64 = .ok (.ireturn, 1) := by decide +kernel
theorem dX12_holds_65 : decode cX12_holds 65 = .ok (.iload_n 2, 1) := by decide +kernel
theorem dX12_holds_66 : decode cX12_holds 66 = .ok (.bipush 13, 2) := by decide +kernel
theorem dX12_holds_68 : decode cX12_holds 68 = .ok (.if_icmp .ne 13, 3) := by decide +kernel
theorem dX12_holds_71 : decode cX12_holds 71 = .ok (.aload_n 0, 1) := by decide +kernel
theorem dX12_holds_72 : decode cX12_holds 72 = .ok (.getfield 7, 3) := by decide +kernel
theorem dX12_holds_75 : decode cX12_holds 75 = .ok (.bipush 6, 2) := by decide +kernel
theorem dX12_holds_77 : decode cX12_holds 77 = .ok (.iaload, 1) := by decide +kernel
theorem dX12_holds_78 : decode cX12_holds 78 = .ok (.goto 9, 3) := by decide +kernel
theorem dX12_holds_81 : decode cX12_holds 81 = .ok (.aload_n 0, 1) := by decide +kernel
theorem dX12_holds_82 : decode cX12_holds 82 = .ok (.iload_n 3, 1) := by decide +kernel
theorem dX12_holds_83 : decode cX12_holds 83 = .ok (.iconst 2, 1) := by decide +kernel
theorem dX12_holds_84 : decode cX12_holds 84 = .ok (.invokevirtual 290, 3) := by decide +kernel
theorem dX12_holds_87 : decode cX12_holds 87 = .ok (.istore 4, 2) := by decide +kernel
theorem dX12_holds_89 : decode cX12_holds 89 = .ok (.aload_n 0, 1) := by decide +kernel
theorem dX12_holds_90 : decode cX12_holds 90 = .ok (.getfield 7, 3) := by decide +kernel
theorem dX12_holds_93 : decode cX12_holds 93 = .ok (.iload_n 1, 1) := by decide +kernel
theorem dX12_holds_94 : decode cX12_holds 94 = .ok (.iconst 5, 1) := by decide +kernel
theorem dX12_holds_95 : decode cX12_holds 95 = .ok (.iadd, 1) := by decide +kernel
theorem dX12_holds_96 : decode cX12_holds 96 = .ok (.iaload, 1) := by decide +kernel
theorem dX12_holds_97 : decode cX12_holds 97 = .ok (.bipush 60, 2) := by decide +kernel
theorem dX12_holds_99 : decode cX12_holds 99 = .ok (.if_icmp .ne 24, 3) := by decide +kernel
theorem dX12_holds_102 : decode cX12_holds 102 = .ok (.iload 4, 2) := by decide +kernel
theorem dX12_holds_104 : decode cX12_holds 104 = .ok (.aload_n 0, 1) := by decide +kernel
theorem dX12_holds_105 : decode cX12_holds 105 = .ok (.getfield 7, 3) := by decide +kernel
theorem dX12_holds_108 : decode cX12_holds 108 = .ok (.iload_n 1, 1) := by decide +kernel
theorem dX12_holds_109 : decode cX12_holds 109 = .ok (.iconst 2, 1) := by decide +kernel
theorem dX12_holds_110 : decode cX12_holds 110 = .ok (.iadd, 1) := by decide +kernel
theorem dX12_holds_111 : decode cX12_holds 111 = .ok (.iaload, 1) := by decide +kernel
theorem dX12_holds_112 : decode cX12_holds 112 = .ok (.if_icmp .ge 7, 3) := by decide +kernel
theorem dX12_holds_115 : decode cX12_holds 115 = .ok (.iconst 1, 1) := by decide +kernel
theorem dX12_holds_116 : decode cX12_holds 116 = .ok (.goto 59, 3) := by decide +kernel
theorem dX12_holds_119 : decode cX12_holds 119 = .ok (.iconst 0, 1) := by decide +kernel
theorem dX12_holds_120 : decode cX12_holds 120 = .ok (.goto 55, 3) := by decide +kernel
theorem dX12_holds_123 : decode cX12_holds 123 = .ok (.aload_n 0, 1) := by decide +kernel
theorem dX12_holds_124 : decode cX12_holds 124 = .ok (.getfield 7, 3) := by decide +kernel
theorem dX12_holds_127 : decode cX12_holds 127 = .ok (.iload_n 1, 1) := by decide +kernel
theorem dX12_holds_128 : decode cX12_holds 128 = .ok (.iconst 5, 1) := by decide +kernel
theorem dX12_holds_129 : decode cX12_holds 129 = .ok (.iadd, 1) := by decide +kernel
theorem dX12_holds_130 : decode cX12_holds 130 = .ok (.iaload, 1) := by decide +kernel
theorem dX12_holds_131 : decode cX12_holds 131 = .ok (.bipush 62, 2) := by decide +kernel
theorem dX12_holds_133 : decode cX12_holds 133 = .ok (.if_icmp .ne 24, 3) := by decide +kernel
theorem dX12_holds_136 : decode cX12_holds 136 = .ok (.iload 4, 2) := by decide +kernel
theorem dX12_holds_138 : decode cX12_holds 138 = .ok (.aload_n 0, 1) := by decide +kernel
theorem dX12_holds_139 : decode cX12_holds 139 = .ok (.getfield 7, 3) := by decide +kernel
theorem dX12_holds_142 : decode cX12_holds 142 = .ok (.iload_n 1, 1) := by decide +kernel
theorem dX12_holds_143 : decode cX12_holds 143 = .ok (.iconst 2, 1) := by decide +kernel
theorem dX12_holds_144 : decode cX12_holds 144 = .ok (.iadd, 1) := by decide +kernel
theorem dX12_holds_145 : decode cX12_holds 145 = .ok (.iaload, 1) := by decide +kernel
theorem dX12_holds_146 : decode cX12_holds 146 = .ok (.if_icmp .le 7, 3) := by decide +kernel
theorem dX12_holds_149 : decode cX12_holds 149 = .ok (.iconst 1, 1) := by decide +kernel
theorem dX12_holds_150 : decode cX12_holds 150 = .ok (.goto 25, 3) := by decide +kernel
theorem dX12_holds_153 : decode cX12_holds 153 = .ok (.iconst 0, 1) := by decide +kernel
theorem dX12_holds_154 : decode cX12_holds 154 = .ok (.goto 21, 3) := by decide +kernel
theorem dX12_holds_157 : decode cX12_holds 157 = .ok (.iload 4, 2) := by decide +kernel
theorem dX12_holds_159 : decode cX12_holds 159 = .ok (.aload_n 0, 1) := by decide +kernel
theorem dX12_holds_160 : decode cX12_holds 160 = .ok (.getfield 7, 3) := by decide +kernel
theorem dX12_holds_163 : decode cX12_holds 163 = .ok (.iload_n 1, 1) := by decide +kernel
theorem dX12_holds_164 : decode cX12_holds 164 = .ok (.iconst 2, 1) := by decide +kernel
theorem dX12_holds_165 : decode cX12_holds 165 = .ok (.iadd, 1) := by decide +kernel
theorem dX12_holds_166 : decode cX12_holds 166 = .ok (.iaload, 1) := by decide +kernel
theorem dX12_holds_167 : decode cX12_holds 167 = .ok (.if_icmp .ne 7, 3) := by decide +kernel
theorem dX12_holds_170 : decode cX12_holds 170 = .ok (.iconst 1, 1) := by decide +kernel
theorem dX12_holds_171 : decode cX12_holds 171 = .ok (.goto 4, 3) := by decide +kernel
theorem dX12_holds_174 : decode cX12_holds 174 = .ok (.iconst 0, 1) := by decide +kernel
theorem dX12_holds_175 : decode cX12_holds 175 = .ok (.ireturn, 1) := by decide +kernel
theorem dX12_behindEnds_0 : decode cX12_behindEnds 0 = .ok (.iload_n 1, 1) := by decide +kernel
theorem dX12_behindEnds_1 : decode cX12_behindEnds 1 = .ok (.istore_n 2, 1) := by decide +kernel
theorem dX12_behindEnds_2 : decode cX12_behindEnds 2 = .ok (.iload_n 2, 1) := by decide +kernel
theorem dX12_behindEnds_3 : decode cX12_behindEnds 3 = .ok (.aload_n 0, 1) := by decide +kernel
theorem dX12_behindEnds_4 : decode cX12_behindEnds 4 = .ok (.getfield 7, 3) := by decide +kernel
theorem dX12_behindEnds_7 : decode cX12_behindEnds 7 = .ok (.bipush 9, 2) := by decide +kernel
theorem dX12_behindEnds_9 : decode cX12_behindEnds 9 = .ok (.iaload, 1) := by decide +kernel
theorem dX12_behindEnds_10 : decode cX12_behindEnds 10 = .ok (.if_icmp .ge 105, 3) := by decide +kernel
theorem dX12_behindEnds_13 : decode cX12_behindEnds 13 = .ok (.aload_n 0, 1) := by decide +kernel
theorem dX12_behindEnds_14 : decode cX12_behindEnds 14 = .ok (.getfield 7, 3) := by decide +kernel
theorem dX12_behindEnds_17 : decode cX12_behindEnds 17 = .ok (.bipush 80, 2) := by decide +kernel
theorem dX12_behindEnds_19 : decode cX12_behindEnds 19 = .ok (.bipush 6, 2) := by decide +kernel
theorem dX12_behindEnds_21 : decode cX12_behindEnds 21 = .ok (.iload_n 2, 1) := by decide +kernel
theorem dX12_behindEnds_22 : decode cX12_behindEnds 22 = .ok (.imul, 1) := by decide +kernel
theorem dX12_behindEnds_23 : decode cX12_behindEnds 23 = .ok (.iadd, 1) := by decide +kernel
theorem dX12_behindEnds_24 : decode cX12_behindEnds 24 = .ok (.iaload, 1) := by decide +kernel
theorem dX12_behindEnds_25 : decode cX12_behindEnds 25 = .ok (.bipush 20, 2) := by decide +kernel
theorem dX12_behindEnds_27 : decode cX12_behindEnds 27 = .ok (.if_icmp .ne 88, 3) := by decide +kernel
theorem dX12_behindEnds_30 : decode cX12_behindEnds 30 = .ok (.aload_n 0, 1) := by decide +kernel
theorem dX12_behindEnds_31 : decode cX12_behindEnds 31 = .ok (.getfield 7, 3) := by decide +kernel
theorem dX12_behindEnds_34 : decode cX12_behindEnds 34 = .ok (.bipush 80, 2) := by decide +kernel
theorem dX12_behindEnds_36 : decode cX12_behindEnds 36 = .ok (.bipush 6, 2) := by decide +kernel
theorem dX12_behindEnds_38 : decode cX12_behindEnds 38 = .ok (.iload_n 2, 1) := by decide +kernel
theorem dX12_behindEnds_39 : decode cX12_behindEnds 39 = .ok (.imul, 1) := by decide +kernel
theorem dX12_behindEnds_40 : decode cX12_behindEnds 40 = .ok (.iadd, 1) := by decide +kernel
theorem dX12_behindEnds_41 : decode cX12_behindEnds 41 = .ok (.iconst 4, 1) := by decide +kernel
theorem dX12_behindEnds_42 : decode cX12_behindEnds 42 = .ok (.iadd, 1) := by decide +kernel
theorem dX12_behindEnds_43 : decode cX12_behindEnds 43 = .ok (.iaload, 1) := by decide +kernel
theorem dX12_behindEnds_44 : decode cX12_behindEnds 44 = .ok (.istore_n 3, 1) := by decide +kernel
theorem dX12_behindEnds_45 : decode cX12_behindEnds 45 = .ok (.aload_n 0, 1) := by decide +kernel
theorem dX12_behindEnds_46 : decode cX12_behindEnds 46 = .ok (.getfield 7, 3) := by decide +kernel
theorem dX12_behindEnds_49 : decode cX12_behindEnds 49 = .ok (.bipush 80, 2) := by decide +kernel
theorem dX12_behindEnds_51 : decode cX12_behindEnds 51 = .ok (.bipush 6, 2) := by decide +kernel
theorem dX12_behindEnds_53 : decode cX12_behindEnds 53 = .ok (.iload_n 3, 1) := by decide +kernel
theorem dX12_behindEnds_54 : decode cX12_behindEnds 54 = .ok (.imul, 1) := by decide +kernel
theorem dX12_behindEnds_55 : decode cX12_behindEnds 55 = .ok (.iadd, 1) := by decide +kernel
theorem dX12_behindEnds_56 : decode cX12_behindEnds 56 = .ok (.iaload, 1) := by decide +kernel
theorem dX12_behindEnds_57 : decode cX12_behindEnds 57 = .ok (.bipush 19, 2) := by decide +kernel
theorem dX12_behindEnds_59 : decode cX12_behindEnds 59 = .ok (.if_icmp .ne 16, 3) := by decide +kernel
theorem dX12_behindEnds_62 : decode cX12_behindEnds 62 = .ok (.aload_n 0, 1) := by decide +kernel
theorem dX12_behindEnds_63 : decode cX12_behindEnds 63 = .ok (.getfield 72, 3) := by decide +kernel
theorem dX12_behindEnds_66 : decode cX12_behindEnds 66 = .ok (.iload_n 3, 1) := by decide +kernel
theorem dX12_behindEnds_67 : decode cX12_behindEnds 67 = .ok (.iaload, 1) := by decide +kernel
theorem dX12_behindEnds_68 : decode cX12_behindEnds 68 = .ok (.ifCond .le 7, 3) := by decide +kernel
theorem dX12_behindEnds_71 : decode cX12_behindEnds 71 = .ok (.iconst 1, 1) := by decide +kernel
theorem dX12_behindEnds_72 : decode cX12_behindEnds 72 = .ok (.goto 4, 3) := by decide +kernel
theorem dX12_behindEnds_75 : decode cX12_behindEnds 75 = .ok (.iconst 0, 1) := by decide +kernel
theorem dX12_behindEnds_76 : decode cX12_behindEnds 76 = .ok (.istore 4, 2) := by decide +kernel
theorem dX12_behindEnds_78 : decode cX12_behindEnds 78 = .ok (.aload_n 0, 1) := by decide +kernel
theorem dX12_behindEnds_79 : decode cX12_behindEnds 79 = .ok (.getfield 72, 3) := by decide +kernel
theorem dX12_behindEnds_82 : decode cX12_behindEnds 82 = .ok (.iload_n 3, 1) := by decide +kernel
theorem dX12_behindEnds_83 : decode cX12_behindEnds 83 = .ok (.dup2, 1) := by decide +kernel
theorem dX12_behindEnds_84 : decode cX12_behindEnds 84 = .ok (.iaload, 1) := by decide +kernel
theorem dX12_behindEnds_85 : decode cX12_behindEnds 85 = .ok (.iload 4, 2) := by decide +kernel
theorem dX12_behindEnds_87 : decode cX12_behindEnds 87 = .ok (.ifCond .eq 7, 3) := by decide +kernel
theorem dX12_behindEnds_90 : decode cX12_behindEnds 90 = .ok (.iconst 1, 1) := by decide +kernel
theorem dX12_behindEnds_91 : decode cX12_behindEnds 91 = .ok (.goto 4, 3) := by decide +kernel
theorem dX12_behindEnds_94 : decode cX12_behindEnds 94 = .ok (.iconst 0, 1) := by decide +kernel
theorem dX12_behindEnds_95 : decode cX12_behindEnds 95 = .ok (.isub, 1) := by decide +kernel
theorem dX12_behindEnds_96 : decode cX12_behindEnds 96 = .ok (.iastore, 1) := by decide +kernel
theorem dX12_behindEnds_97 : decode cX12_behindEnds 97 = .ok (.iload 4, 2) := by decide +kernel
theorem dX12_behindEnds_99 : decode cX12_behindEnds 99 = .ok (.ifCond .eq 9, 3) := by decide +kernel
theorem dX12_behindEnds_102 : decode cX12_behindEnds 102 = .ok (.iload_n 3, 1) := by decide +kernel
theorem dX12_behindEnds_103 : decode cX12_behindEnds 103 = .ok (.iconst 1, 1) := by decide +kernel
theorem dX12_behindEnds_104 : decode cX12_behindEnds 104 = .ok (.iadd, 1) := by decide +kernel
theorem dX12_behindEnds_105 : decode cX12_behindEnds 105 = .ok (.goto 6, 3) := by decide +kernel
theorem dX12_behindEnds_108 : decode cX12_behindEnds 108 = .ok (.iload_n 2, 1) := by decide +kernel
theorem dX12_behindEnds_109 : decode cX12_behindEnds 109 = .ok (.iconst 1, 1) := by decide +kernel
theorem dX12_behindEnds_110 : decode cX12_behindEnds 110 = .ok (.iadd, 1) := by decide +kernel
theorem dX12_behindEnds_111 : decode cX12_behindEnds 111 = .ok (.istore_n 2, 1) := by decide +kernel
theorem dX12_behindEnds_112 : decode cX12_behindEnds 112 = .ok (.goto (-110), 3) := by decide +kernel
theorem dX12_behindEnds_115 : decode cX12_behindEnds 115 = .ok (.iload_n 2, 1) := by decide +kernel
theorem dX12_behindEnds_116 : decode cX12_behindEnds 116 = .ok (.ireturn, 1) := by decide +kernel
theorem dX12_lives_0 : decode cX12_lives 0 = .ok (.aload_n 0, 1) := by decide +kernel
theorem dX12_lives_1 : decode cX12_lives 1 = .ok (.iload_n 1, 1) := by decide +kernel
theorem dX12_lives_2 : decode cX12_lives 2 = .ok (.putfield 446, 3) := by decide +kernel
theorem dX12_lives_5 : decode cX12_lives 5 = .ok (.aload_n 0, 1) := by decide +kernel
theorem dX12_lives_6 : decode cX12_lives 6 = .ok (.iconst 0, 1) := by decide +kernel
theorem dX12_lives_7 : decode cX12_lives 7 = .ok (.putfield 462, 3) := by decide +kernel
theorem dX12_lives_10 : decode cX12_lives 10 = .ok (.iconst 0, 1) := by decide +kernel
theorem dX12_lives_11 : decode cX12_lives 11 = .ok (.istore_n 2, 1) := by decide +kernel
theorem dX12_lives_12 : decode cX12_lives 12 = .ok (.iload_n 2, 1) := by decide +kernel
theorem dX12_lives_13 : decode cX12_lives 13 = .ok (.iconst 5, 1) := by decide +kernel
theorem dX12_lives_14 : decode cX12_lives 14 = .ok (.if_icmp .ge 16, 3) := by decide +kernel
theorem dX12_lives_17 : decode cX12_lives 17 = .ok (.aload_n 0, 1) := by decide +kernel
theorem dX12_lives_18 : decode cX12_lives 18 = .ok (.getfield 75, 3) := by decide +kernel
theorem dX12_lives_21 : decode cX12_lives 21 = .ok (.iload_n 2, 1) := by decide +kernel
theorem dX12_lives_22 : decode cX12_lives 22 = .ok (.iconst 0, 1) := by decide +kernel
theorem dX12_lives_23 : decode cX12_lives 23 = .ok (.iastore, 1) := by decide +kernel
theorem dX12_lives_24 : decode cX12_lives 24 = .ok (.iinc 2 1, 3) := by decide +kernel
theorem dX12_lives_27 : decode cX12_lives 27 = .ok (.goto (-15), 3) := by decide +kernel
theorem dX12_lives_30 : decode cX12_lives 30 = .ok (.iconst 0, 1) := by decide +kernel
theorem dX12_lives_31 : decode cX12_lives 31 = .ok (.istore_n 2, 1) := by decide +kernel
theorem dX12_lives_32 : decode cX12_lives 32 = .ok (.iload_n 2, 1) := by decide +kernel
theorem dX12_lives_33 : decode cX12_lives 33 = .ok (.aload_n 0, 1) := by decide +kernel
theorem dX12_lives_34 : decode cX12_lives 34 = .ok (.getfield 7, 3) := by decide +kernel
theorem dX12_lives_37 : decode cX12_lives 37 = .ok (.bipush 9, 2) := by decide +kernel
theorem dX12_lives_39 : decode cX12_lives 39 = .ok (.iaload, 1) := by decide +kernel
theorem dX12_lives_40 : decode cX12_lives 40 = .ok (.if_icmp .ge 144, 3) := by decide +kernel
theorem dX12_lives_43 : decode cX12_lives 43 = .ok (.aload_n 0, 1) := by decide +kernel
theorem dX12_lives_44 : decode cX12_lives 44 = .ok (.getfield 462, 3) := by decide +kernel
theorem dX12_lives_47 : decode cX12_lives 47 = .ok (.sipush 300, 3) := by decide +kernel
theorem dX12_lives_50 : decode cX12_lives 50 = .ok (.if_icmp .ne 11, 3) := by decide +kernel
theorem dX12_lives_53 : decode cX12_lives 53 = .ok (.aload_n 0, 1) := by decide +kernel
theorem dX12_lives_54 : decode cX12_lives 54 = .ok (.getfield 75, 3) := by decide +kernel
theorem dX12_lives_57 : decode cX12_lives 57 = .ok (.iconst 4, 1) := by decide +kernel
theorem dX12_lives_58 : decode cX12_lives 58 = .ok (.iconst 1, 1) := by decide +kernel
theorem dX12_lives_59 : decode cX12_lives 59 = .ok (.iastore, 1) := by decide +kernel
theorem dX12_lives_60 : decode cX12_lives 60 = .ok (.return_, 1) := by decide +kernel
theorem dX12_lives_61 : decode cX12_lives 61 = .ok (.bipush 80, 2) := by decide +kernel
theorem dX12_lives_63 : decode cX12_lives 63 = .ok (.bipush 6, 2) := by decide +kernel
theorem dX12_lives_65 : decode cX12_lives 65 = .ok (.iload_n 2, 1) := by decide +kernel
theorem dX12_lives_66 : decode cX12_lives 66 = .ok (.imul, 1) := by decide +kernel
theorem dX12_lives_67 : decode cX12_lives 67 = .ok (.iadd, 1) := by decide +kernel
theorem dX12_lives_68 : decode cX12_lives 68 = .ok (.istore_n 3, 1) := by decide +kernel
theorem dX12_lives_69 : decode cX12_lives 69 = .ok (.aload_n 0, 1) := by decide +kernel
theorem dX12_lives_70 : decode cX12_lives 70 = .ok (.dup, 1) := by decide +kernel
theorem dX12_lives_71 : decode cX12_lives 71 = .ok (.getfield 462, 3) := by decide +kernel
theorem dX12_lives_74 : decode cX12_lives 74 = .ok (.iconst 1, 1) := by decide +kernel
theorem dX12_lives_75 : decode cX12_lives 75 = .ok (.iadd, 1) := by decide +kernel
theorem dX12_lives_76 : decode cX12_lives 76 = .ok (.putfield 462, 3) := by decide +kernel
theorem dX12_lives_79 : decode cX12_lives 79 = .ok (.aload_n 0, 1) := by decide +kernel
theorem dX12_lives_80 : decode cX12_lives 80 = .ok (.getfield 7, 3) := by decide +kernel
theorem dX12_lives_83 : decode cX12_lives 83 = .ok (.iload_n 3, 1) := by decide +kernel
theorem dX12_lives_84 : decode cX12_lives 84 = .ok (.iaload, 1) := by decide +kernel
theorem dX12_lives_85 : decode cX12_lives 85 = .ok (.bipush 21, 2) := by decide +kernel
theorem dX12_lives_87 : decode cX12_lives 87 = .ok (.if_icmp .ne 4, 3) := by decide +kernel
theorem dX12_lives_90 : decode cX12_lives 90 = .ok (.return_, 1) := by decide +kernel
theorem dX12_lives_91 : decode cX12_lives 91 = .ok (.aload_n 0, 1) := by decide +kernel
theorem dX12_lives_92 : decode cX12_lives 92 = .ok (.getfield 75, 3) := by decide +kernel
theorem dX12_lives_95 : decode cX12_lives 95 = .ok (.iconst 0, 1) := by decide +kernel
theorem dX12_lives_96 : decode cX12_lives 96 = .ok (.dup2, 1) := by decide +kernel
theorem dX12_lives_97 : decode cX12_lives 97 = .ok (.iaload, 1) := by decide +kernel
theorem dX12_lives_98 : decode cX12_lives 98 = .ok (.aload_n 0, 1) := by decide +kernel
theorem dX12_lives_99 : decode cX12_lives 99 = .ok (.iload_n 3, 1) := by decide +kernel
theorem dX12_lives_100 : decode cX12_lives 100 = .ok (.invokevirtual 465, 3) := by decide +kernel
theorem dX12_lives_103 : decode cX12_lives 103 = .ok (.ifCond .eq 7, 3) := by decide +kernel
theorem dX12_lives_106 : decode cX12_lives 106 = .ok (.iconst 0, 1) := by decide +kernel
theorem dX12_lives_107 : decode cX12_lives 107 = .ok (.goto 4, 3) := by decide +kernel
theorem dX12_lives_110 : decode cX12_lives 110 = .ok (.iconst 1, 1) := by decide +kernel
theorem dX12_lives_111 : decode cX12_lives 111 = .ok (.iadd, 1) := by decide +kernel
theorem dX12_lives_112 : decode cX12_lives 112 = .ok (.iastore, 1) := by decide +kernel
theorem dX12_lives_113 : decode cX12_lives 113 = .ok (.aload_n 0, 1) := by decide +kernel
theorem dX12_lives_114 : decode cX12_lives 114 = .ok (.getfield 7, 3) := by decide +kernel
theorem dX12_lives_117 : decode cX12_lives 117 = .ok (.iload_n 3, 1) := by decide +kernel
theorem dX12_lives_118 : decode cX12_lives 118 = .ok (.iaload, 1) := by decide +kernel
theorem dX12_lives_119 : decode cX12_lives 119 = .ok (.bipush 19, 2) := by decide +kernel
theorem dX12_lives_121 : decode cX12_lives 121 = .ok (.if_icmp .ne 19, 3) := by decide +kernel
theorem dX12_lives_124 : decode cX12_lives 124 = .ok (.aload_n 0, 1) := by decide +kernel
theorem dX12_lives_125 : decode cX12_lives 125 = .ok (.getfield 72, 3) := by decide +kernel
theorem dX12_lives_128 : decode cX12_lives 128 = .ok (.iload_n 2, 1) := by decide +kernel
theorem dX12_lives_129 : decode cX12_lives 129 = .ok (.aload_n 0, 1) := by decide +kernel
theorem dX12_lives_130 : decode cX12_lives 130 = .ok (.getfield 7, 3) := by decide +kernel
theorem dX12_lives_133 : decode cX12_lives 133 = .ok (.iload_n 3, 1) := by decide +kernel
theorem dX12_lives_134 : decode cX12_lives 134 = .ok (.iconst 1, 1) := by decide +kernel
theorem dX12_lives_135 : decode cX12_lives 135 = .ok (.iadd, 1) := by decide +kernel
theorem dX12_lives_136 : decode cX12_lives 136 = .ok (.iaload, 1) := by decide +kernel
theorem dX12_lives_137 : decode cX12_lives 137 = .ok (.iconst 1, 1) := by decide +kernel
theorem dX12_lives_138 : decode cX12_lives 138 = .ok (.isub, 1) := by decide +kernel
theorem dX12_lives_139 : decode cX12_lives 139 = .ok (.iastore, 1) := by decide +kernel
theorem dX12_lives_140 : decode cX12_lives 140 = .ok (.aload_n 0, 1) := by decide +kernel
theorem dX12_lives_141 : decode cX12_lives 141 = .ok (.aload_n 0, 1) := by decide +kernel
theorem dX12_lives_142 : decode cX12_lives 142 = .ok (.getfield 7, 3) := by decide +kernel
theorem dX12_lives_145 : decode cX12_lives 145 = .ok (.iload_n 3, 1) := by decide +kernel
theorem dX12_lives_146 : decode cX12_lives 146 = .ok (.iaload, 1) := by decide +kernel
theorem dX12_lives_147 : decode cX12_lives 147 = .ok (.sipush 1800, 3) := by decide +kernel
theorem dX12_lives_150 : decode cX12_lives 150 = .ok (.if_icmp .lt 24, 3) := by decide +kernel
theorem dX12_lives_153 : decode cX12_lives 153 = .ok (.aload_n 0, 1) := by decide +kernel
theorem dX12_lives_154 : decode cX12_lives 154 = .ok (.iload_n 3, 1) := by decide +kernel
theorem dX12_lives_155 : decode cX12_lives 155 = .ok (.invokevirtual 468, 3) := by decide +kernel
theorem dX12_lives_158 : decode cX12_lives 158 = .ok (.ifCond .ne 16, 3) := by decide +kernel
theorem dX12_lives_161 : decode cX12_lives 161 = .ok (.aload_n 0, 1) := by decide +kernel
theorem dX12_lives_162 : decode cX12_lives 162 = .ok (.getfield 7, 3) := by decide +kernel
theorem dX12_lives_165 : decode cX12_lives 165 = .ok (.iload_n 3, 1) := by decide +kernel
theorem dX12_lives_166 : decode cX12_lives 166 = .ok (.iconst 4, 1) := by decide +kernel
theorem dX12_lives_167 : decode cX12_lives 167 = .ok (.iadd, 1) := by decide +kernel
theorem dX12_lives_168 : decode cX12_lives 168 = .ok (.iaload, 1) := by decide +kernel
theorem dX12_lives_169 : decode cX12_lives 169 = .ok (.iconst 1, 1) := by decide +kernel
theorem dX12_lives_170 : decode cX12_lives 170 = .ok (.iadd, 1) := by decide +kernel
theorem dX12_lives_171 : decode cX12_lives 171 = .ok (.goto 6, 3) := by decide +kernel
theorem dX12_lives_174 : decode cX12_lives 174 = .ok (.iload_n 2, 1) := by decide +kernel
theorem dX12_lives_175 : decode cX12_lives 175 = .ok (.iconst 1, 1) := by decide +kernel
theorem dX12_lives_176 : decode cX12_lives 176 = .ok (.iadd, 1) := by decide +kernel
theorem dX12_lives_177 : decode cX12_lives 177 = .ok (.invokevirtual 471, 3) := by decide +kernel
theorem dX12_lives_180 : decode cX12_lives 180 = .ok (.istore_n 2, 1) := by decide +kernel
theorem dX12_lives_181 : decode cX12_lives 181 = .ok (.goto (-149), 3) := by decide +kernel
theorem dX12_lives_184 : decode cX12_lives 184 = .ok (.return_, 1) := by decide +kernel
theorem dX12_live_0 : decode cX12_live 0 = .ok (.iload_n 1, 1) := by decide +kernel
theorem dX12_live_1 : decode cX12_live 1 = .ok (.i2l, 1) := by decide +kernel
theorem dX12_live_2 : decode cX12_live 2 = .ok (.lconst 0, 1) := by decide +kernel
theorem dX12_live_3 : decode cX12_live 3 = .ok (.ldc2_w 474, 3) := by decide +kernel
theorem dX12_live_6 : decode cX12_live 6 = .ok (.invokestatic 316, 3) := by decide +kernel
theorem dX12_live_9 : decode cX12_live 9 = .ok (.ifCond .ne 9, 3) := by decide +kernel
theorem dX12_live_12 : decode cX12_live 12 = .ok (.aload_n 0, 1) := by decide +kernel
theorem dX12_live_13 : decode cX12_live 13 = .ok (.iconst 1, 1) := by decide +kernel
theorem dX12_live_14 : decode cX12_live 14 = .ok (.invokevirtual 91, 3) := by decide +kernel
theorem dX12_live_17 : decode cX12_live 17 = .ok (.ireturn, 1) := by decide +kernel
theorem dX12_live_18 : decode cX12_live 18 = .ok (.aload_n 0, 1) := by decide +kernel
theorem dX12_live_19 : decode cX12_live 19 = .ok (.getfield 7, 3) := by decide +kernel
theorem dX12_live_22 : decode cX12_live 22 = .ok (.bipush 9, 2) := by decide +kernel
theorem dX12_live_24 : decode cX12_live 24 = .ok (.iaload, 1) := by decide +kernel
theorem dX12_live_25 : decode cX12_live 25 = .ok (.iconst (-1), 1) := by decide +kernel
theorem dX12_live_26 : decode cX12_live 26 = .ok (.if_icmp .ne 10, 3) := by decide +kernel
theorem dX12_live_29 : decode cX12_live 29 = .ok (.aload_n 0, 1) := by decide +kernel
theorem dX12_live_30 : decode cX12_live 30 = .ok (.bipush 6, 2) := by decide +kernel
theorem dX12_live_32 : decode cX12_live 32 = .ok (.invokevirtual 91, 3) := by decide +kernel
theorem dX12_live_35 : decode cX12_live 35 = .ok (.ireturn, 1) := by decide +kernel
theorem dX12_live_36 : decode cX12_live 36 = .ok (.aload_n 0, 1) := by decide +kernel
theorem dX12_live_37 : decode cX12_live 37 = .ok (.iload_n 1, 1) := by decide +kernel
theorem dX12_live_38 : decode cX12_live 38 = .ok (.invokevirtual 476, 3) := by decide +kernel
theorem dX12_live_41 : decode cX12_live 41 = .ok (.iconst 0, 1) := by decide +kernel
theorem dX12_live_42 : decode cX12_live 42 = .ok (.istore_n 2, 1) := by decide +kernel
theorem dX12_live_43 : decode cX12_live 43 = .ok (.iload_n 2, 1) := by decide +kernel
theorem dX12_live_44 : decode cX12_live 44 = .ok (.iconst 5, 1) := by decide +kernel
theorem dX12_live_45 : decode cX12_live 45 = .ok (.if_icmp .ge 21, 3) := by decide +kernel
theorem dX12_live_48 : decode cX12_live 48 = .ok (.aload_n 0, 1) := by decide +kernel
theorem dX12_live_49 : decode cX12_live 49 = .ok (.getfield 78, 3) := by decide +kernel
theorem dX12_live_52 : decode cX12_live 52 = .ok (.iload_n 2, 1) := by decide +kernel
theorem dX12_live_53 : decode cX12_live 53 = .ok (.aload_n 0, 1) := by decide +kernel
theorem dX12_live_54 : decode cX12_live 54 = .ok (.getfield 75, 3) := by decide +kernel
theorem dX12_live_57 : decode cX12_live 57 = .ok (.iload_n 2, 1) := by decide +kernel
theorem dX12_live_58 : decode cX12_live 58 = .ok (.iaload, 1) := by decide +kernel
theorem dX12_live_59 : decode cX12_live 59 = .ok (.iastore, 1) := by decide +kernel
theorem dX12_live_60 : decode cX12_live 60 = .ok (.iinc 2 1, 3) := by decide +kernel
theorem dX12_live_63 : decode cX12_live 63 = .ok (.goto (-20), 3) := by decide +kernel
theorem dX12_live_66 : decode cX12_live 66 = .ok (.aload_n 0, 1) := by decide +kernel
theorem dX12_live_67 : decode cX12_live 67 = .ok (.iconst 1, 1) := by decide +kernel
theorem dX12_live_68 : decode cX12_live 68 = .ok (.putfield 479, 3) := by decide +kernel
theorem dX12_live_71 : decode cX12_live 71 = .ok (.aload_n 0, 1) := by decide +kernel
theorem dX12_live_72 : decode cX12_live 72 = .ok (.aload_n 0, 1) := by decide +kernel
theorem dX12_live_73 : decode cX12_live 73 = .ok (.getfield 462, 3) := by decide +kernel
theorem dX12_live_76 : decode cX12_live 76 = .ok (.invokevirtual 95, 3) := by decide +kernel
theorem dX12_live_79 : decode cX12_live 79 = .ok (.ireturn, 1) := by decide +kernel
theorem dX12_lived_0 : decode cX12_lived 0 = .ok (.iload_n 1, 1) := by decide +kernel
theorem dX12_lived_1 : decode cX12_lived 1 = .ok (.ifCond .lt 8, 3) := by decide +kernel
theorem dX12_lived_4 : decode cX12_lived 4 = .ok (.iload_n 1, 1) := by decide +kernel
theorem dX12_lived_5 : decode cX12_lived 5 = .ok (.iconst 4, 1) := by decide +kernel
theorem dX12_lived_6 : decode cX12_lived 6 = .ok (.if_icmp .le 11, 3) := by decide +kernel
theorem dX12_lived_9 : decode cX12_lived 9 = .ok (.aload_n 0, 1) := by decide +kernel
theorem dX12_lived_10 : decode cX12_lived 10 = .ok (.iconst 1, 1) := by decide +kernel
theorem dX12_lived_11 : decode cX12_lived 11 = .ok (.invokevirtual 91, 3) := by decide +kernel
theorem dX12_lived_14 : decode cX12_lived 14 = .ok (.goto 29, 3) := by decide +kernel
theorem dX12_lived_17 : decode cX12_lived 17 = .ok (.aload_n 0, 1) := by decide +kernel
theorem dX12_lived_18 : decode cX12_lived 18 = .ok (.getfield 479, 3) := by decide +kernel
theorem dX12_lived_21 : decode cX12_lived 21 = .ok (.ifCond .eq 16, 3) := by decide +kernel
theorem dX12_lived_24 : decode cX12_lived 24 = .ok (.aload_n 0, 1) := by decide +kernel
theorem dX12_lived_25 : decode cX12_lived 25 = .ok (.aload_n 0, 1) := by decide +kernel
theorem dX12_lived_26 : decode cX12_lived 26 = .ok (.getfield 78, 3) := by decide +kernel
theorem dX12_lived_29 : decode cX12_lived 29 = .ok (.iload_n 1, 1) := by decide +kernel
theorem dX12_lived_30 : decode cX12_lived 30 = .ok (.iaload, 1) := by decide +kernel
theorem dX12_lived_31 : decode cX12_lived 31 = .ok (.invokevirtual 95, 3) := by decide +kernel
theorem dX12_lived_34 : decode cX12_lived 34 = .ok (.goto 9, 3) := by decide +kernel
theorem dX12_lived_37 : decode cX12_lived 37 = .ok (.aload_n 0, 1) := by decide +kernel
theorem dX12_lived_38 : decode cX12_lived 38 = .ok (.bipush 6, 2) := by decide +kernel
theorem dX12_lived_40 : decode cX12_lived 40 = .ok (.invokevirtual 91, 3) := by decide +kernel
theorem dX12_lived_43 : decode cX12_lived 43 = .ok (.ireturn, 1) := by decide +kernel
theorem dX12_mean_0 : decode cX12_mean 0 = .ok (.iload_n 1, 1) := by decide +kernel
theorem dX12_mean_1 : decode cX12_mean 1 = .ok (.i2l, 1) := by decide +kernel
theorem dX12_mean_2 : decode cX12_mean 2 = .ok (.lconst 0, 1) := by decide +kernel
theorem dX12_mean_3 : decode cX12_mean 3 = .ok (.ldc2_w 474, 3) := by decide +kernel
theorem dX12_mean_6 : decode cX12_mean 6 = .ok (.invokestatic 316, 3) := by decide +kernel
theorem dX12_mean_9 : decode cX12_mean 9 = .ok (.ifCond .eq 26, 3) := by decide +kernel
theorem dX12_mean_12 : decode cX12_mean 12 = .ok (.iload_n 2, 1) := by decide +kernel
theorem dX12_mean_13 : decode cX12_mean 13 = .ok (.i2l, 1) := by decide +kernel
theorem dX12_mean_14 : decode cX12_mean 14 = .ok (.lconst 1, 1) := by decide +kernel
theorem dX12_mean_15 : decode cX12_mean 15 = .ok (.ldc2_w 393, 3) := by decide +kernel
theorem dX12_mean_18 : decode cX12_mean 18 = .ok (.invokestatic 316, 3) := by decide +kernel
theorem dX12_mean_21 : decode cX12_mean 21 = .ok (.ifCond .eq 14, 3) := by decide +kernel
theorem dX12_mean_24 : decode cX12_mean 24 = .ok (.iload_n 1, 1) := by decide +kernel
theorem dX12_mean_25 : decode cX12_mean 25 = .ok (.iload_n 2, 1) := by decide +kernel
theorem dX12_mean_26 : decode cX12_mean 26 = .ok (.iadd, 1) := by decide +kernel
theorem dX12_mean_27 : decode cX12_mean 27 = .ok (.iconst 1, 1) := by decide +kernel
theorem dX12_mean_28 : decode cX12_mean 28 = .ok (.isub, 1) := by decide +kernel
theorem dX12_mean_29 : decode cX12_mean 29 = .ok (.sipush 9999, 3) := by decide +kernel
theorem dX12_mean_32 : decode cX12_mean 32 = .ok (.if_icmp .le 9, 3) := by decide +kernel
theorem dX12_mean_35 : decode cX12_mean 35 = .ok (.aload_n 0, 1) := by decide +kernel
theorem dX12_mean_36 : decode cX12_mean 36 = .ok (.iconst 1, 1) := by decide +kernel
theorem dX12_mean_37 : decode cX12_mean 37 = .ok (.invokevirtual 98, 3) := by decide +kernel
theorem dX12_mean_40 : decode cX12_mean 40 = .ok (.ireturn, 1) := by decide +kernel
theorem dX12_mean_41 : decode cX12_mean 41 = .ok (.aload_n 0, 1) := by decide +kernel
theorem dX12_mean_42 : decode cX12_mean 42 = .ok (.getfield 7, 3) := by decide +kernel
theorem dX12_mean_45 : decode cX12_mean 45 = .ok (.bipush 9, 2) := by decide +kernel
theorem dX12_mean_47 : decode cX12_mean 47 = .ok (.iaload, 1) := by decide +kernel
theorem dX12_mean_48 : decode cX12_mean 48 = .ok (.iconst (-1), 1) := by decide +kernel
theorem dX12_mean_49 : decode cX12_mean 49 = .ok (.if_icmp .ne 10, 3) := by decide +kernel
theorem dX12_mean_52 : decode cX12_mean 52 = .ok (.aload_n 0, 1) := by decide +kernel
theorem dX12_mean_53 : decode cX12_mean 53 = .ok (.bipush 6, 2) := by decide +kernel
theorem dX12_mean_55 : decode cX12_mean 55 = .ok (.invokevirtual 98, 3) := by decide +kernel
theorem dX12_mean_58 : decode cX12_mean 58 = .ok (.ireturn, 1) := by decide +kernel
theorem dX12_mean_59 : decode cX12_mean 59 = .ok (.aload_n 0, 1) := by decide +kernel
theorem dX12_mean_60 : decode cX12_mean 60 = .ok (.sipush 2240, 3) := by decide +kernel
theorem dX12_mean_63 : decode cX12_mean 63 = .ok (.invokevirtual 350, 3) := by decide +kernel
theorem dX12_mean_66 : decode cX12_mean 66 = .ok (.lconst 0, 1) := by decide +kernel
theorem dX12_mean_67 : decode cX12_mean 67 = .ok (.lstore_n 3, 1) := by decide +kernel
theorem dX12_mean_68 : decode cX12_mean 68 = .ok (.iconst 0, 1) := by decide +kernel
theorem dX12_mean_69 : decode cX12_mean 69 = .ok (.istore 5, 2) := by decide +kernel
theorem dX12_mean_71 : decode cX12_mean 71 = .ok (.iload 5, 2) := by decide +kernel
theorem dX12_mean_73 : decode cX12_mean 73 = .ok (.iload_n 2, 1) := by decide +kernel
theorem dX12_mean_74 : decode cX12_mean 74 = .ok (.if_icmp .ge 32, 3) := by decide +kernel
theorem dX12_mean_77 : decode cX12_mean 77 = .ok (.aload_n 0, 1) := by decide +kernel
theorem dX12_mean_78 : decode cX12_mean 78 = .ok (.iload_n 1, 1) := by decide +kernel
theorem dX12_mean_79 : decode cX12_mean 79 = .ok (.iload 5, 2) := by decide +kernel
theorem dX12_mean_81 : decode cX12_mean 81 = .ok (.iadd, 1) := by decide +kernel
theorem dX12_mean_82 : decode cX12_mean 82 = .ok (.invokevirtual 476, 3) := by decide +kernel
theorem dX12_mean_85 : decode cX12_mean 85 = .ok (.lload_n 3, 1) := by decide +kernel
theorem dX12_mean_86 : decode cX12_mean 86 = .ok (.aload_n 0, 1) := by decide +kernel
theorem dX12_mean_87 : decode cX12_mean 87 = .ok (.invokevirtual 450, 3) := by decide +kernel
theorem dX12_mean_90 : decode cX12_mean 90 = .ok (.i2l, 1) := by decide +kernel
theorem dX12_mean_91 : decode cX12_mean 91 = .ok (.ladd, 1) := by decide +kernel
theorem dX12_mean_92 : decode cX12_mean 92 = .ok (.lstore_n 3, 1) := by decide +kernel
theorem dX12_mean_93 : decode cX12_mean 93 = .ok (.aload_n 0, 1) := by decide +kernel
theorem dX12_mean_94 : decode cX12_mean 94 = .ok (.sipush 2240, 3) := by decide +kernel
theorem dX12_mean_97 : decode cX12_mean 97 = .ok (.invokevirtual 353, 3) := by decide +kernel
theorem dX12_mean_100 : decode cX12_mean 100 = .ok (.iinc 5 1, 3) := by decide +kernel
theorem dX12_mean_103 : decode cX12_mean 103 = .ok (.goto (-32), 3) := by decide +kernel
theorem dX12_mean_106 : decode cX12_mean 106 = .ok (.aload_n 0, 1) := by decide +kernel
theorem dX12_mean_107 : decode cX12_mean 107 = .ok (.lload_n 3, 1) := by decide +kernel
theorem dX12_mean_108 : decode cX12_mean 108 = .ok (.iload_n 2, 1) := by decide +kernel
theorem dX12_mean_109 : decode cX12_mean 109 = .ok (.i2l, 1) := by decide +kernel
theorem dX12_mean_110 : decode cX12_mean 110 = .ok (.invokevirtual 440, 3) := by decide +kernel
theorem dX12_mean_113 : decode cX12_mean 113 = .ok (.ireturn, 1) := by decide +kernel
theorem dX12_copies_0 : decode cX12_copies 0 = .ok (.iconst 0, 1) := by decide +kernel
theorem dX12_copies_1 : decode cX12_copies 1 = .ok (.istore_n 3, 1) := by decide +kernel
theorem dX12_copies_2 : decode cX12_copies 2 = .ok (.iload_n 3, 1) := by decide +kernel
theorem dX12_copies_3 : decode cX12_copies 3 = .ok (.sipush 448, 3) := by decide +kernel
theorem dX12_copies_6 : decode cX12_copies 6 = .ok (.if_icmp .ge 33, 3) := by decide +kernel
theorem dX12_copies_9 : decode cX12_copies 9 = .ok (.aload_n 0, 1) := by decide +kernel
theorem dX12_copies_10 : decode cX12_copies 10 = .ok (.getfield 7, 3) := by decide +kernel
theorem dX12_copies_13 : decode cX12_copies 13 = .ok (.sipush 448, 3) := by decide +kernel
theorem dX12_copies_16 : decode cX12_copies 16 = .ok (.iload_n 2, 1) := by decide +kernel
theorem dX12_copies_17 : decode cX12_copies 17 = .ok (.imul, 1) := by decide +kernel
theorem dX12_copies_18 : decode cX12_copies 18 = .ok (.iload_n 3, 1) := by decide +kernel
theorem dX12_copies_19 : decode cX12_copies 19 = .ok (.iadd, 1) := by decide +kernel
theorem dX12_copies_20 : decode cX12_copies 20 = .ok (.aload_n 0, 1) := by decide +kernel
theorem dX12_copies_21 : decode cX12_copies 21 = .ok (.getfield 7, 3) := by decide +kernel
theorem dX12_copies_24 : decode cX12_copies 24 = .ok (.sipush 448, 3) := by decide +kernel
theorem dX12_copies_27 : decode cX12_copies 27 = .ok (.iload_n 1, 1) := by decide +kernel
theorem dX12_copies_28 : decode cX12_copies 28 = .ok (.imul, 1) := by decide +kernel
theorem dX12_copies_29 : decode cX12_copies 29 = .ok (.iload_n 3, 1) := by decide +kernel
theorem dX12_copies_30 : decode cX12_copies 30 = .ok (.iadd, 1) := by decide +kernel
theorem dX12_copies_31 : decode cX12_copies 31 = .ok (.iaload, 1) := by decide +kernel
theorem dX12_copies_32 : decode cX12_copies 32 = .ok (.iastore, 1) := by decide +kernel
theorem dX12_copies_33 : decode cX12_copies 33 = .ok (.iinc 3 1, 3) := by decide +kernel
theorem dX12_copies_36 : decode cX12_copies 36 = .ok (.goto (-34), 3) := by decide +kernel
theorem dX12_copies_39 : decode cX12_copies 39 = .ok (.iconst 0, 1) := by decide +kernel
theorem dX12_copies_40 : decode cX12_copies 40 = .ok (.istore_n 3, 1) := by decide +kernel
theorem dX12_copies_41 : decode cX12_copies 41 = .ok (.iload_n 3, 1) := by decide +kernel
theorem dX12_copies_42 : decode cX12_copies 42 = .ok (.bipush 12, 2) := by decide +kernel
theorem dX12_copies_44 : decode cX12_copies 44 = .ok (.if_icmp .ge 31, 3) := by decide +kernel
theorem dX12_copies_47 : decode cX12_copies 47 = .ok (.aload_n 0, 1) := by decide +kernel
theorem dX12_copies_48 : decode cX12_copies 48 = .ok (.getfield 13, 3) := by decide +kernel
theorem dX12_copies_51 : decode cX12_copies 51 = .ok (.bipush 12, 2) := by decide +kernel
theorem dX12_copies_53 : decode cX12_copies 53 = .ok (.iload_n 2, 1) := by decide +kernel
theorem dX12_copies_54 : decode cX12_copies 54 = .ok (.imul, 1) := by decide +kernel
theorem dX12_copies_55 : decode cX12_copies 55 = .ok (.iload_n 3, 1) := by decide +kernel
theorem dX12_copies_56 : decode cX12_copies 56 = .ok (.iadd, 1) := by decide +kernel
theorem dX12_copies_57 : decode cX12_copies 57 = .ok (.aload_n 0, 1) := by decide +kernel
theorem dX12_copies_58 : decode cX12_copies 58 = .ok (.getfield 13, 3) := by decide +kernel
theorem dX12_copies_61 : decode cX12_copies 61 = .ok (.bipush 12, 2) := by decide +kernel
theorem dX12_copies_63 : decode cX12_copies 63 = .ok (.iload_n 1, 1) := by decide +kernel
theorem dX12_copies_64 : decode cX12_copies 64 = .ok (.imul, 1) := by decide +kernel
theorem dX12_copies_65 : decode cX12_copies 65 = .ok (.iload_n 3, 1) := by decide +kernel
theorem dX12_copies_66 : decode cX12_copies 66 = .ok (.iadd, 1) := by decide +kernel
theorem dX12_copies_67 : decode cX12_copies 67 = .ok (.laload, 1) := by decide +kernel
theorem dX12_copies_68 : decode cX12_copies 68 = .ok (.lastore, 1) := by decide +kernel
theorem dX12_copies_69 : decode cX12_copies 69 = .ok (.iinc 3 1, 3) := by decide +kernel
theorem dX12_copies_72 : decode cX12_copies 72 = .ok (.goto (-31), 3) := by decide +kernel
theorem dX12_copies_75 : decode cX12_copies 75 = .ok (.return_, 1) := by decide +kernel
theorem dX12_mark_0 : decode cX12_mark 0 = .ok (.aload_n 0, 1) := by decide +kernel
theorem dX12_mark_1 : decode cX12_mark 1 = .ok (.getfield 483, 3) := by decide +kernel
theorem dX12_mark_4 : decode cX12_mark 4 = .ok (.iconst 3, 1) := by decide +kernel
theorem dX12_mark_5 : decode cX12_mark 5 = .ok (.if_icmp .ne 9, 3) := by decide +kernel
theorem dX12_mark_8 : decode cX12_mark 8 = .ok (.aload_n 0, 1) := by decide +kernel
theorem dX12_mark_9 : decode cX12_mark 9 = .ok (.iconst 4, 1) := by decide +kernel
theorem dX12_mark_10 : decode cX12_mark 10 = .ok (.invokevirtual 91, 3) := by decide +kernel
theorem dX12_mark_13 : decode cX12_mark 13 = .ok (.ireturn, 1) := by decide +kernel
theorem dX12_mark_14 : decode cX12_mark 14 = .ok (.aload_n 0, 1) := by decide +kernel
theorem dX12_mark_15 : decode cX12_mark 15 = .ok (.dup, 1) := by decide +kernel
theorem dX12_mark_16 : decode cX12_mark 16 = .ok (.getfield 483, 3) := by decide +kernel
theorem dX12_mark_19 : decode cX12_mark 19 = .ok (.iconst 1, 1) := by decide +kernel
theorem dX12_mark_20 : decode cX12_mark 20 = .ok (.iadd, 1) := by decide +kernel
theorem dX12_mark_21 : decode cX12_mark 21 = .ok (.putfield 483, 3) := by decide +kernel
theorem dX12_mark_24 : decode cX12_mark 24 = .ok (.aload_n 0, 1) := by decide +kernel
theorem dX12_mark_25 : decode cX12_mark 25 = .ok (.iconst 0, 1) := by decide +kernel
theorem dX12_mark_26 : decode cX12_mark 26 = .ok (.aload_n 0, 1) := by decide +kernel
theorem dX12_mark_27 : decode cX12_mark 27 = .ok (.getfield 483, 3) := by decide +kernel
theorem dX12_mark_30 : decode cX12_mark 30 = .ok (.invokevirtual 486, 3) := by decide +kernel
theorem dX12_mark_33 : decode cX12_mark 33 = .ok (.aload_n 0, 1) := by decide +kernel
theorem dX12_mark_34 : decode cX12_mark 34 = .ok (.aload_n 0, 1) := by decide +kernel
theorem dX12_mark_35 : decode cX12_mark 35 = .ok (.getfield 483, 3) := by decide +kernel
theorem dX12_mark_38 : decode cX12_mark 38 = .ok (.invokevirtual 95, 3) := by decide +kernel
theorem dX12_mark_41 : decode cX12_mark 41 = .ok (.ireturn, 1) := by decide +kernel
theorem dX12_undo_0 : decode cX12_undo 0 = .ok (.aload_n 0, 1) := by decide +kernel
theorem dX12_undo_1 : decode cX12_undo 1 = .ok (.getfield 483, 3) := by decide +kernel
theorem dX12_undo_4 : decode cX12_undo 4 = .ok (.ifCond .ne 10, 3) := by decide +kernel
theorem dX12_undo_7 : decode cX12_undo 7 = .ok (.aload_n 0, 1) := by decide +kernel
theorem dX12_undo_8 : decode cX12_undo 8 = .ok (.bipush 6, 2) := by decide +kernel
theorem dX12_undo_10 : decode cX12_undo 10 = .ok (.invokevirtual 91, 3) := by decide +kernel
theorem dX12_undo_13 : decode cX12_undo 13 = .ok (.ireturn, 1) := by decide +kernel
theorem dX12_undo_14 : decode cX12_undo 14 = .ok (.aload_n 0, 1) := by decide +kernel
theorem dX12_undo_15 : decode cX12_undo 15 = .ok (.aload_n 0, 1) := by decide +kernel
theorem dX12_undo_16 : decode cX12_undo 16 = .ok (.getfield 483, 3) := by decide +kernel
theorem dX12_undo_19 : decode cX12_undo 19 = .ok (.iconst 0, 1) := by decide +kernel
theorem dX12_undo_20 : decode cX12_undo 20 = .ok (.invokevirtual 486, 3) := by decide +kernel
theorem dX12_undo_23 : decode cX12_undo 23 = .ok (.aload_n 0, 1) := by decide +kernel
theorem dX12_undo_24 : decode cX12_undo 24 = .ok (.dup, 1) := by decide +kernel
theorem dX12_undo_25 : decode cX12_undo 25 = .ok (.getfield 483, 3) := by decide +kernel
theorem dX12_undo_28 : decode cX12_undo 28 = .ok (.iconst 1, 1) := by decide +kernel
theorem dX12_undo_29 : decode cX12_undo 29 = .ok (.isub, 1) := by decide +kernel
theorem dX12_undo_30 : decode cX12_undo 30 = .ok (.putfield 483, 3) := by decide +kernel
theorem dX12_undo_33 : decode cX12_undo 33 = .ok (.aload_n 0, 1) := by decide +kernel
theorem dX12_undo_34 : decode cX12_undo 34 = .ok (.aload_n 0, 1) := by decide +kernel
theorem dX12_undo_35 : decode cX12_undo 35 = .ok (.getfield 483, 3) := by decide +kernel
theorem dX12_undo_38 : decode cX12_undo 38 = .ok (.invokevirtual 95, 3) := by decide +kernel
theorem dX12_undo_41 : decode cX12_undo 41 = .ok (.ireturn, 1) := by decide +kernel
