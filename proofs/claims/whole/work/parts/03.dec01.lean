theorem dX6_valueOfToken_24 : decode cX6_valueOfToken 24 = .ok (.baload, 1) := by decide +kernel
theorem dX6_valueOfToken_25 : decode cX6_valueOfToken 25 = .ok (.iadd, 1) := by decide +kernel
theorem dX6_valueOfToken_26 : decode cX6_valueOfToken 26 = .ok (.bipush 48, 2) := by decide +kernel
theorem dX6_valueOfToken_28 : decode cX6_valueOfToken 28 = .ok (.isub, 1) := by decide +kernel
theorem dX6_valueOfToken_29 : decode cX6_valueOfToken 29 = .ok (.istore_n 1, 1) := by decide +kernel
theorem dX6_valueOfToken_30 : decode cX6_valueOfToken 30 = .ok (.iinc 2 1, 3) := by decide +kernel
theorem dX6_valueOfToken_33 : decode cX6_valueOfToken 33 = .ok (.goto (-26), 3) := by decide +kernel
theorem dX6_valueOfToken_36 : decode cX6_valueOfToken 36 = .ok (.iload_n 1, 1) := by decide +kernel
theorem dX6_valueOfToken_37 : decode cX6_valueOfToken 37 = .ok (.ireturn, 1) := by decide +kernel
theorem dX6_isLetterNext_0 : decode cX6_isLetterNext 0 = .ok (.aload_n 0, 1) := by decide +kernel
theorem dX6_isLetterNext_1 : decode cX6_isLetterNext 1 = .ok (.invokevirtual 35, 3) := by decide +kernel
theorem dX6_isLetterNext_4 : decode cX6_isLetterNext 4 = .ok (.aload_n 0, 1) := by decide +kernel
theorem dX6_isLetterNext_5 : decode cX6_isLetterNext 5 = .ok (.getfield 19, 3) := by decide +kernel
theorem dX6_isLetterNext_8 : decode cX6_isLetterNext 8 = .ok (.aload_n 0, 1) := by decide +kernel
theorem dX6_isLetterNext_9 : decode cX6_isLetterNext 9 = .ok (.getfield 15, 3) := by decide +kernel
theorem dX6_isLetterNext_12 : decode cX6_isLetterNext 12 = .ok (.if_icmp .ge 26, 3) := by decide +kernel
theorem dX6_isLetterNext_15 : decode cX6_isLetterNext 15 = .ok (.aload_n 0, 1) := by decide +kernel
theorem dX6_isLetterNext_16 : decode cX6_isLetterNext 16 = .ok (.getfield 9, 3) := by decide +kernel
theorem dX6_isLetterNext_19 : decode cX6_isLetterNext 19 = .ok (.aload_n 0, 1) := by decide +kernel
theorem dX6_isLetterNext_20 : decode cX6_isLetterNext 20 = .ok (.getfield 19, 3) := by decide +kernel
theorem dX6_isLetterNext_23 : decode cX6_isLetterNext 23 = .ok (.baload, 1) := by decide +kernel
theorem dX6_isLetterNext_24 : decode cX6_isLetterNext 24 = .ok (.bipush 97, 2) := by decide +kernel
theorem dX6_isLetterNext_26 : decode cX6_isLetterNext 26 = .ok (.bipush 122, 2) := by decide +kernel
theorem dX6_isLetterNext_28 : decode cX6_isLetterNext 28 = .ok (.invokestatic 38, 3) := by decide +kernel
theorem dX6_isLetterNext_31 : decode cX6_isLetterNext 31 = .ok (.ifCond .eq 7, 3) := by decide +kernel
theorem dX6_isLetterNext_34 : decode cX6_isLetterNext 34 = .ok (.iconst 1, 1) := by decide +kernel
theorem dX6_isLetterNext_35 : decode cX6_isLetterNext 35 = .ok (.goto 4, 3) := by decide +kernel
theorem dX6_isLetterNext_38 : decode cX6_isLetterNext 38 = .ok (.iconst 0, 1) := by decide +kernel
theorem dX6_isLetterNext_39 : decode cX6_isLetterNext 39 = .ok (.ireturn, 1) := by decide +kernel
theorem dX6_readIf_0 : decode cX6_readIf 0 = .ok (.aload_n 0, 1) := by decide +kernel
theorem dX6_readIf_1 : decode cX6_readIf 1 = .ok (.invokevirtual 31, 3) := by decide +kernel
theorem dX6_readIf_4 : decode cX6_readIf 4 = .ok (.ifCond .eq 5, 3) := by decide +kernel
theorem dX6_readIf_7 : decode cX6_readIf 7 = .ok (.iconst 0, 1) := by decide +kernel
theorem dX6_readIf_8 : decode cX6_readIf 8 = .ok (.ireturn, 1) := by decide +kernel
theorem dX6_readIf_9 : decode cX6_readIf 9 = .ok (.aload_n 0, 1) := by decide +kernel
theorem dX6_readIf_10 : decode cX6_readIf 10 = .ok (.invokevirtual 35, 3) := by decide +kernel
theorem dX6_readIf_13 : decode cX6_readIf 13 = .ok (.aload_n 0, 1) := by decide +kernel
theorem dX6_readIf_14 : decode cX6_readIf 14 = .ok (.getfield 19, 3) := by decide +kernel
theorem dX6_readIf_17 : decode cX6_readIf 17 = .ok (.aload_n 0, 1) := by decide +kernel
theorem dX6_readIf_18 : decode cX6_readIf 18 = .ok (.getfield 15, 3) := by decide +kernel
theorem dX6_readIf_21 : decode cX6_readIf 21 = .ok (.if_icmp .ge 16, 3) := by decide +kernel
theorem dX6_readIf_24 : decode cX6_readIf 24 = .ok (.aload_n 0, 1) := by decide +kernel
theorem dX6_readIf_25 : decode cX6_readIf 25 = .ok (.getfield 9, 3) := by decide +kernel
theorem dX6_readIf_28 : decode cX6_readIf 28 = .ok (.aload_n 0, 1) := by decide +kernel
theorem dX6_readIf_29 : decode cX6_readIf 29 = .ok (.getfield 19, 3) := by decide +kernel
theorem dX6_readIf_32 : decode cX6_readIf 32 = .ok (.baload, 1) := by decide +kernel
theorem dX6_readIf_33 : decode cX6_readIf 33 = .ok (.iload_n 1, 1) := by decide +kernel
theorem dX6_readIf_34 : decode cX6_readIf 34 = .ok (.if_icmp .eq 5, 3) := by decide +kernel
theorem dX6_readIf_37 : decode cX6_readIf 37 = .ok (.iconst 0, 1) := by decide +kernel
theorem dX6_readIf_38 : decode cX6_readIf 38 = .ok (.ireturn, 1) := by decide +kernel
theorem dX6_readIf_39 : decode cX6_readIf 39 = .ok (.aload_n 0, 1) := by decide +kernel
theorem dX6_readIf_40 : decode cX6_readIf 40 = .ok (.dup, 1) := by decide +kernel
theorem dX6_readIf_41 : decode cX6_readIf 41 = .ok (.getfield 19, 3) := by decide +kernel
theorem dX6_readIf_44 : decode cX6_readIf 44 = .ok (.iconst 1, 1) := by decide +kernel
theorem dX6_readIf_45 : decode cX6_readIf 45 = .ok (.iadd, 1) := by decide +kernel
theorem dX6_readIf_46 : decode cX6_readIf 46 = .ok (.putfield 19, 3) := by decide +kernel
theorem dX6_readIf_49 : decode cX6_readIf 49 = .ok (.iconst 1, 1) := by decide +kernel
theorem dX6_readIf_50 : decode cX6_readIf 50 = .ok (.ireturn, 1) := by decide +kernel
theorem dX6_readSign_0 : decode cX6_readSign 0 = .ok (.aload_n 0, 1) := by decide +kernel
theorem dX6_readSign_1 : decode cX6_readSign 1 = .ok (.iload_n 1, 1) := by decide +kernel
theorem dX6_readSign_2 : decode cX6_readSign 2 = .ok (.invokevirtual 70, 3) := by decide +kernel
theorem dX6_readSign_5 : decode cX6_readSign 5 = .ok (.ifCond .ne 8, 3) := by decide +kernel
theorem dX6_readSign_8 : decode cX6_readSign 8 = .ok (.aload_n 0, 1) := by decide +kernel
theorem dX6_readSign_9 : decode cX6_readSign 9 = .ok (.iconst 1, 1) := by decide +kernel
theorem dX6_readSign_10 : decode cX6_readSign 10 = .ok (.invokevirtual 50, 3) := by decide +kernel
theorem dX6_readSign_13 : decode cX6_readSign 13 = .ok (.return_, 1) := by decide +kernel
theorem dX7_init_0 : decode cX7_init 0 = .ok (.aload_n 0, 1) := by decide +kernel
theorem dX7_init_1 : decode cX7_init 1 = .ok (.invokespecial 3, 3) := by decide +kernel
theorem dX7_init_4 : decode cX7_init 4 = .ok (.aload_n 0, 1) := by decide +kernel
theorem dX7_init_5 : decode cX7_init 5 = .ok (.bipush 6, 2) := by decide +kernel
theorem dX7_init_7 : decode cX7_init 7 = .ok (.newarray .int, 2) := by decide +kernel
theorem dX7_init_9 : decode cX7_init 9 = .ok (.putfield 9, 3) := by decide +kernel
theorem dX7_init_12 : decode cX7_init 12 = .ok (.aload_n 0, 1) := by decide +kernel
theorem dX7_init_13 : decode cX7_init 13 = .ok (.bipush 6, 2) := by decide +kernel
theorem dX7_init_15 : decode cX7_init 15 = .ok (.newarray .int, 2) := by decide +kernel
theorem dX7_init_17 : decode cX7_init 17 = .ok (.putfield 15, 3) := by decide +kernel
theorem dX7_init_20 : decode cX7_init 20 = .ok (.aload_n 0, 1) := by decide +kernel
theorem dX7_init_21 : decode cX7_init 21 = .ok (.bipush 6, 2) := by decide +kernel
theorem dX7_init_23 : decode cX7_init 23 = .ok (.newarray .int, 2) := by decide +kernel
theorem dX7_init_25 : decode cX7_init 25 = .ok (.putfield 18, 3) := by decide +kernel
theorem dX7_init_28 : decode cX7_init 28 = .ok (.aload_n 0, 1) := by decide +kernel
theorem dX7_init_29 : decode cX7_init 29 = .ok (.bipush 6, 2) := by decide +kernel
theorem dX7_init_31 : decode cX7_init 31 = .ok (.newarray .int, 2) := by decide +kernel
theorem dX7_init_33 : decode cX7_init 33 = .ok (.putfield 21, 3) := by decide +kernel
theorem dX7_init_36 : decode cX7_init 36 = .ok (.aload_n 0, 1) := by decide +kernel
theorem dX7_init_37 : decode cX7_init 37 = .ok (.iconst 0, 1) := by decide +kernel
theorem dX7_init_38 : decode cX7_init 38 = .ok (.putfield 24, 3) := by decide +kernel
theorem dX7_init_41 : decode cX7_init 41 = .ok (.return_, 1) := by decide +kernel
theorem dX7_readFrom_0 : decode cX7_readFrom 0 = .ok (.aload_n 0, 1) := by decide +kernel
theorem dX7_readFrom_1 : decode cX7_readFrom 1 = .ok (.iconst 0, 1) := by decide +kernel
theorem dX7_readFrom_2 : decode cX7_readFrom 2 = .ok (.putfield 24, 3) := by decide +kernel
theorem dX7_readFrom_5 : decode cX7_readFrom 5 = .ok (.aload_n 1, 1) := by decide +kernel
theorem dX7_readFrom_6 : decode cX7_readFrom 6 = .ok (.invokevirtual 28, 3) := by decide +kernel
theorem dX7_readFrom_9 : decode cX7_readFrom 9 = .ok (.iconst 0, 1) := by decide +kernel
theorem dX7_readFrom_10 : decode cX7_readFrom 10 = .ok (.istore_n 2, 1) := by decide +kernel
theorem dX7_readFrom_11 : decode cX7_readFrom 11 = .ok (.iload_n 2, 1) := by decide +kernel
theorem dX7_readFrom_12 : decode cX7_readFrom 12 = .ok (.sipush 400, 3) := by decide +kernel
theorem dX7_readFrom_15 : decode cX7_readFrom 15 = .ok (.if_icmp .ge 128, 3) := by decide +kernel
theorem dX7_readFrom_18 : decode cX7_readFrom 18 = .ok (.aload_n 1, 1) := by decide +kernel
theorem dX7_readFrom_19 : decode cX7_readFrom 19 = .ok (.invokevirtual 33, 3) := by decide +kernel
theorem dX7_readFrom_22 : decode cX7_readFrom 22 = .ok (.ifCond .ne 121, 3) := by decide +kernel
theorem dX7_readFrom_25 : decode cX7_readFrom 25 = .ok (.aload_n 1, 1) := by decide +kernel
theorem dX7_readFrom_26 : decode cX7_readFrom 26 = .ok (.ldc 37, 2) := by decide +kernel
theorem dX7_readFrom_28 : decode cX7_readFrom 28 = .ok (.invokevirtual 39, 3) := by decide +kernel
theorem dX7_readFrom_31 : decode cX7_readFrom 31 = .ok (.pop, 1) := by decide +kernel
theorem dX7_readFrom_32 : decode cX7_readFrom 32 = .ok (.aload_n 0, 1) := by decide +kernel
theorem dX7_readFrom_33 : decode cX7_readFrom 33 = .ok (.getfield 24, 3) := by decide +kernel
theorem dX7_readFrom_36 : decode cX7_readFrom 36 = .ok (.bipush 6, 2) := by decide +kernel
theorem dX7_readFrom_38 : decode cX7_readFrom 38 = .ok (.if_icmp .lt 11, 3) := by decide +kernel
theorem dX7_readFrom_41 : decode cX7_readFrom 41 = .ok (.aload_n 1, 1) := by decide +kernel
theorem dX7_readFrom_42 : decode cX7_readFrom 42 = .ok (.iconst 3, 1) := by decide +kernel
theorem dX7_readFrom_43 : decode cX7_readFrom 43 = .ok (.invokevirtual 43, 3) := by decide +kernel
theorem dX7_readFrom_46 : decode cX7_readFrom 46 = .ok (.goto 85, 3) := by decide +kernel
theorem dX7_readFrom_49 : decode cX7_readFrom 49 = .ok (.aload_n 0, 1) := by decide +kernel
theorem dX7_readFrom_50 : decode cX7_readFrom 50 = .ok (.getfield 9, 3) := by decide +kernel
theorem dX7_readFrom_53 : decode cX7_readFrom 53 = .ok (.aload_n 0, 1) := by decide +kernel
theorem dX7_readFrom_54 : decode cX7_readFrom 54 = .ok (.getfield 24, 3) := by decide +kernel
theorem dX7_readFrom_57 : decode cX7_readFrom 57 = .ok (.aload_n 1, 1) := by decide +kernel
theorem dX7_readFrom_58 : decode cX7_readFrom 58 = .ok (.iconst 1, 1) := by decide +kernel
theorem dX7_readFrom_59 : decode cX7_readFrom 59 = .ok (.bipush 30, 2) := by decide +kernel
theorem dX7_readFrom_61 : decode cX7_readFrom 61 = .ok (.invokevirtual 47, 3) := by decide +kernel
theorem dX7_readFrom_64 : decode cX7_readFrom 64 = .ok (.iastore, 1) := by decide +kernel
theorem dX7_readFrom_65 : decode cX7_readFrom 65 = .ok (.aload_n 0, 1) := by decide +kernel
theorem dX7_readFrom_66 : decode cX7_readFrom 66 = .ok (.getfield 15, 3) := by decide +kernel
theorem dX7_readFrom_69 : decode cX7_readFrom 69 = .ok (.aload_n 0, 1) := by decide +kernel
theorem dX7_readFrom_70 : decode cX7_readFrom 70 = .ok (.getfield 24, 3) := by decide +kernel
theorem dX7_readFrom_73 : decode cX7_readFrom 73 = .ok (.aload_n 1, 1) := by decide +kernel
theorem dX7_readFrom_74 : decode cX7_readFrom 74 = .ok (.iconst 0, 1) := by decide +kernel
theorem dX7_readFrom_75 : decode cX7_readFrom 75 = .ok (.bipush 49, 2) := by decide +kernel
theorem dX7_readFrom_77 : decode cX7_readFrom 77 = .ok (.invokevirtual 47, 3) := by decide +kernel
theorem dX7_readFrom_80 : decode cX7_readFrom 80 = .ok (.iastore, 1) := by decide +kernel
theorem dX7_readFrom_81 : decode cX7_readFrom 81 = .ok (.aload_n 0, 1) := by decide +kernel
theorem dX7_readFrom_82 : decode cX7_readFrom 82 = .ok (.getfield 18, 3) := by decide +kernel
theorem dX7_readFrom_85 : decode cX7_readFrom 85 = .ok (.aload_n 0, 1) := by decide +kernel
theorem dX7_readFrom_86 : decode cX7_readFrom 86 = .ok (.getfield 24, 3) := by decide +kernel
theorem dX7_readFrom_89 : decode cX7_readFrom 89 = .ok (.aload_n 1, 1) := by decide +kernel
theorem dX7_readFrom_90 : decode cX7_readFrom 90 = .ok (.iconst 0, 1) := by decide +kernel
theorem dX7_readFrom_91 : decode cX7_readFrom 91 = .ok (.bipush 49, 2) := by decide +kernel
theorem dX7_readFrom_93 : decode cX7_readFrom 93 = .ok (.invokevirtual 47, 3) := by decide +kernel
theorem dX7_readFrom_96 : decode cX7_readFrom 96 = .ok (.iastore, 1) := by decide +kernel
theorem dX7_readFrom_97 : decode cX7_readFrom 97 = .ok (.aload_n 0, 1) := by decide +kernel
theorem dX7_readFrom_98 : decode cX7_readFrom 98 = .ok (.getfield 21, 3) := by decide +kernel
theorem dX7_readFrom_101 : decode cX7_readFrom 101 = .ok (.aload_n 0, 1) := by decide +kernel
theorem dX7_readFrom_102 : decode cX7_readFrom 102 = .ok (.getfield 24, 3) := by decide +kernel
theorem dX7_readFrom_105 : decode cX7_readFrom 105 = .ok (.aload_n 1, 1) := by decide +kernel
theorem dX7_readFrom_106 : decode cX7_readFrom 106 = .ok (.invokevirtual 51, 3) := by decide +kernel
theorem dX7_readFrom_109 : decode cX7_readFrom 109 = .ok (.ifCond .eq 10, 3) := by decide +kernel
theorem dX7_readFrom_112 : decode cX7_readFrom 112 = .ok (.aload_n 1, 1) := by decide +kernel
theorem dX7_readFrom_113 : decode cX7_readFrom 113 = .ok (.invokestatic 54, 3) := by decide +kernel
theorem dX7_readFrom_116 : decode cX7_readFrom 116 = .ok (.goto 4, 3) := by decide +kernel
theorem dX7_readFrom_119 : decode cX7_readFrom 119 = .ok (.iconst 0, 1) := by decide +kernel
theorem dX7_readFrom_120 : decode cX7_readFrom 120 = .ok (.iastore, 1) := by decide +kernel
theorem dX7_readFrom_121 : decode cX7_readFrom 121 = .ok (.aload_n 0, 1) := by decide +kernel
theorem dX7_readFrom_122 : decode cX7_readFrom 122 = .ok (.dup, 1) := by decide +kernel
theorem dX7_readFrom_123 : decode cX7_readFrom 123 = .ok (.getfield 24, 3) := by decide +kernel
theorem dX7_readFrom_126 : decode cX7_readFrom 126 = .ok (.iconst 1, 1) := by decide +kernel
theorem dX7_readFrom_127 : decode cX7_readFrom 127 = .ok (.iadd, 1) := by decide +kernel
theorem dX7_readFrom_128 : decode cX7_readFrom 128 = .ok (.putfield 24, 3) := by decide +kernel
theorem dX7_readFrom_131 : decode cX7_readFrom 131 = .ok (.aload_n 1, 1) := by decide +kernel
theorem dX7_readFrom_132 : decode cX7_readFrom 132 = .ok (.bipush 59, 2) := by decide +kernel
theorem dX7_readFrom_134 : decode cX7_readFrom 134 = .ok (.invokevirtual 58, 3) := by decide +kernel
theorem dX7_readFrom_137 : decode cX7_readFrom 137 = .ok (.iinc 2 1, 3) := by decide +kernel
theorem dX7_readFrom_140 : decode cX7_readFrom 140 = .ok (.goto (-129), 3) := by decide +kernel
theorem dX7_readFrom_143 : decode cX7_readFrom 143 = .ok (.return_, 1) := by decide +kernel
theorem dX7_readParts_0 : decode cX7_readParts 0 = .ok (.iconst 0, 1) := by decide +kernel
theorem dX7_readParts_1 : decode cX7_readParts 1 = .ok (.istore_n 1, 1) := by decide +kernel
theorem dX7_readParts_2 : decode cX7_readParts 2 = .ok (.iconst 0, 1) := by decide +kernel
theorem dX7_readParts_3 : decode cX7_readParts 3 = .ok (.istore_n 2, 1) := by decide +kernel
theorem dX7_readParts_4 : decode cX7_readParts 4 = .ok (.iload_n 2, 1) := by decide +kernel
theorem dX7_readParts_5 : decode cX7_readParts 5 = .ok (.iconst 4, 1) := by decide +kernel
theorem dX7_readParts_6 : decode cX7_readParts 6 = .ok (.if_icmp .gt 56, 3) := by decide +kernel
theorem dX7_readParts_9 : decode cX7_readParts 9 = .ok (.iload_n 2, 1) := by decide +kernel
theorem dX7_readParts_10 : decode cX7_readParts 10 = .ok (.ifCond .eq 12, 3) := by decide +kernel
theorem dX7_readParts_13 : decode cX7_readParts 13 = .ok (.aload_n 0, 1) := by decide +kernel
theorem dX7_readParts_14 : decode cX7_readParts 14 = .ok (.bipush 44, 2) := by decide +kernel
theorem dX7_readParts_16 : decode cX7_readParts 16 = .ok (.invokevirtual 62, 3) := by decide +kernel
theorem dX7_readParts_19 : decode cX7_readParts 19 = .ok (.ifCond .eq 43, 3) := by decide +kernel
theorem dX7_readParts_22 : decode cX7_readParts 22 = .ok (.aload_n 0, 1) := by decide +kernel
theorem dX7_readParts_23 : decode cX7_readParts 23 = .ok (.ldc 66, 2) := by decide +kernel
theorem dX7_readParts_25 : decode cX7_readParts 25 = .ok (.invokevirtual 39, 3) := by decide +kernel
theorem dX7_readParts_28 : decode cX7_readParts 28 = .ok (.istore_n 3, 1) := by decide +kernel
theorem dX7_readParts_29 : decode cX7_readParts 29 = .ok (.iload_n 3, 1) := by decide +kernel
theorem dX7_readParts_30 : decode cX7_readParts 30 = .ok (.iconst (-1), 1) := by decide +kernel
theorem dX7_readParts_31 : decode cX7_readParts 31 = .ok (.if_icmp .ne 5, 3) := by decide +kernel
theorem dX7_readParts_34 : decode cX7_readParts 34 = .ok (.iload_n 1, 1) := by decide +kernel
theorem dX7_readParts_35 : decode cX7_readParts 35 = .ok (.ireturn, 1) := by decide +kernel
theorem dX7_readParts_36 : decode cX7_readParts 36 = .ok (.iload_n 1, 1) := by decide +kernel
theorem dX7_readParts_37 : decode cX7_readParts 37 = .ok (.iload_n 3, 1) := by decide +kernel
theorem dX7_readParts_38 : decode cX7_readParts 38 = .ok (.ishr, 1) := by decide +kernel
theorem dX7_readParts_39 : decode cX7_readParts 39 = .ok (.iconst 1, 1) := by decide +kernel
theorem dX7_readParts_40 : decode cX7_readParts 40 = .ok (.iand, 1) := by decide +kernel
theorem dX7_readParts_41 : decode cX7_readParts 41 = .ok (.iconst 1, 1) := by decide +kernel
theorem dX7_readParts_42 : decode cX7_readParts 42 = .ok (.if_icmp .ne 8, 3) := by decide +kernel
theorem dX7_readParts_45 : decode cX7_readParts 45 = .ok (.aload_n 0, 1) := by decide +kernel
theorem dX7_readParts_46 : decode cX7_readParts 46 = .ok (.iconst 4, 1) := by decide +kernel
theorem dX7_readParts_47 : decode cX7_readParts 47 = .ok (.invokevirtual 43, 3) := by decide +kernel
theorem dX7_readParts_50 : decode cX7_readParts 50 = .ok (.iload_n 1, 1) := by decide +kernel
theorem dX7_readParts_51 : decode cX7_readParts 51 = .ok (.iconst 1, 1) := by decide +kernel
theorem dX7_readParts_52 : decode cX7_readParts 52 = .ok (.iload_n 3, 1) := by decide +kernel
theorem dX7_readParts_53 : decode cX7_readParts 53 = .ok (.ishl, 1) := by decide +kernel
theorem dX7_readParts_54 : decode cX7_readParts 54 = .ok (.ior, 1) := by decide +kernel
theorem dX7_readParts_55 : decode cX7_readParts 55 = .ok (.istore_n 1, 1) := by decide +kernel
theorem dX7_readParts_56 : decode cX7_readParts 56 = .ok (.iinc 2 1, 3) := by decide +kernel
theorem dX7_readParts_59 : decode cX7_readParts 59 = .ok (.goto (-55), 3) := by decide +kernel
theorem dX7_readParts_62 : decode cX7_readParts 62 = .ok (.iload_n 1, 1) := by decide +kernel
theorem dX7_readParts_63 : decode cX7_readParts 63 = .ok (.ireturn, 1) := by decide +kernel
theorem dX7_isBeyond_0 : decode cX7_isBeyond 0 = .ok (.iload_n 1, 1) := by decide +kernel
theorem dX7_isBeyond_1 : decode cX7_isBeyond 1 = .ok (.iconst 0, 1) := by decide +kernel
theorem dX7_isBeyond_2 : decode cX7_isBeyond 2 = .ok (.aload_n 0, 1) := by decide +kernel
theorem dX7_isBeyond_3 : decode cX7_isBeyond 3 = .ok (.getfield 24, 3) := by decide +kernel
theorem dX7_isBeyond_6 : decode cX7_isBeyond 6 = .ok (.iconst 1, 1) := by decide +kernel
theorem dX7_isBeyond_7 : decode cX7_isBeyond 7 = .ok (.isub, 1) := by decide +kernel
theorem dX7_isBeyond_8 : decode cX7_isBeyond 8 = .ok (.invokestatic 68, 3) := by decide +kernel
theorem dX7_isBeyond_11 : decode cX7_isBeyond 11 = .ok (.ifCond .eq 18, 3) := by decide +kernel
theorem dX7_isBeyond_14 : decode cX7_isBeyond 14 = .ok (.aload_n 0, 1) := by decide +kernel
theorem dX7_isBeyond_15 : decode cX7_isBeyond 15 = .ok (.getfield 21, 3) := by decide +kernel
theorem dX7_isBeyond_18 : decode cX7_isBeyond 18 = .ok (.iload_n 1, 1) := by decide +kernel
theorem dX7_isBeyond_19 : decode cX7_isBeyond 19 = .ok (.iaload, 1) := by decide +kernel
theorem dX7_isBeyond_20 : decode cX7_isBeyond 20 = .ok (.iload_n 2, 1) := by decide +kernel
theorem dX7_isBeyond_21 : decode cX7_isBeyond 21 = .ok (.iand, 1) := by decide +kernel
theorem dX7_isBeyond_22 : decode cX7_isBeyond 22 = .ok (.ifCond .eq 7, 3) := by decide +kernel
theorem dX7_isBeyond_25 : decode cX7_isBeyond 25 = .ok (.iconst 1, 1) := by decide +kernel
theorem dX7_isBeyond_26 : decode cX7_isBeyond 26 = .ok (.goto 4, 3) := by decide +kernel
theorem dX7_isBeyond_29 : decode cX7_isBeyond 29 = .ok (.iconst 0, 1) := by decide +kernel
theorem dX7_isBeyond_30 : decode cX7_isBeyond 30 = .ok (.ireturn, 1) := by decide +kernel
theorem dX7_percent_0 : decode cX7_percent 0 = .ok (.iload_n 1, 1) := by decide +kernel
theorem dX7_percent_1 : decode cX7_percent 1 = .ok (.iconst 0, 1) := by decide +kernel
theorem dX7_percent_2 : decode cX7_percent 2 = .ok (.aload_n 0, 1) := by decide +kernel
theorem dX7_percent_3 : decode cX7_percent 3 = .ok (.getfield 24, 3) := by decide +kernel
theorem dX7_percent_6 : decode cX7_percent 6 = .ok (.iconst 1, 1) := by decide +kernel
theorem dX7_percent_7 : decode cX7_percent 7 = .ok (.isub, 1) := by decide +kernel
theorem dX7_percent_8 : decode cX7_percent 8 = .ok (.invokestatic 68, 3) := by decide +kernel
theorem dX7_percent_11 : decode cX7_percent 11 = .ok (.ifCond .ne 5, 3) := by decide +kernel
theorem dX7_percent_14 : decode cX7_percent 14 = .ok (.iconst 0, 1) := by decide +kernel
theorem dX7_percent_15 : decode cX7_percent 15 = .ok (.ireturn, 1) := by decide +kernel
theorem dX7_percent_16 : decode cX7_percent 16 = .ok (.aload_n 0, 1) := by decide +kernel
theorem dX7_percent_17 : decode cX7_percent 17 = .ok (.iload_n 1, 1) := by decide +kernel
theorem dX7_percent_18 : decode cX7_percent 18 = .ok (.iload_n 2, 1) := by decide +kernel
theorem dX7_percent_19 : decode cX7_percent 19 = .ok (.invokevirtual 72, 3) := by decide +kernel
theorem dX7_percent_22 : decode cX7_percent 22 = .ok (.ifCond .eq 26, 3) := by decide +kernel
theorem dX7_percent_25 : decode cX7_percent 25 = .ok (.iload_n 3, 1) := by decide +kernel
theorem dX7_percent_26 : decode cX7_percent 26 = .ok (.ifCond .eq 12, 3) := by decide +kernel
theorem dX7_percent_29 : decode cX7_percent 29 = .ok (.aload_n 0, 1) := by decide +kernel
theorem dX7_percent_30 : decode cX7_percent 30 = .ok (.getfield 18, 3) := by decide +kernel
theorem dX7_percent_33 : decode cX7_percent 33 = .ok (.iload_n 1, 1) := by decide +kernel
theorem dX7_percent_34 : decode cX7_percent 34 = .ok (.iaload, 1) := by decide +kernel
theorem dX7_percent_35 : decode cX7_percent 35 = .ok (.goto 12, 3) := by decide +kernel
theorem dX7_percent_38 : decode cX7_percent 38 = .ok (.bipush 100, 2) := by decide +kernel
theorem dX7_percent_40 : decode cX7_percent 40 = .ok (.aload_n 0, 1) := by decide +kernel
theorem dX7_percent_41 : decode cX7_percent 41 = .ok (.getfield 18, 3) := by decide +kernel
theorem dX7_percent_44 : decode cX7_percent 44 = .ok (.iload_n 1, 1) := by decide +kernel
theorem dX7_percent_45 : decode cX7_percent 45 = .ok (.iaload, 1) := by decide +kernel
theorem dX7_percent_46 : decode cX7_percent 46 = .ok (.isub, 1) := by decide +kernel
theorem dX7_percent_47 : decode cX7_percent 47 = .ok (.ireturn, 1) := by decide +kernel
theorem dX7_percent_48 : decode cX7_percent 48 = .ok (.iload_n 3, 1) := by decide +kernel
theorem dX7_percent_49 : decode cX7_percent 49 = .ok (.ifCond .eq 15, 3) := by decide +kernel
theorem dX7_percent_52 : decode cX7_percent 52 = .ok (.bipush 100, 2) := by decide +kernel
theorem dX7_percent_54 : decode cX7_percent 54 = .ok (.aload_n 0, 1) := by decide +kernel
theorem dX7_percent_55 : decode cX7_percent 55 = .ok (.getfield 15, 3) := by decide +kernel
theorem dX7_percent_58 : decode cX7_percent 58 = .ok (.iload_n 1, 1) := by decide +kernel
theorem dX7_percent_59 : decode cX7_percent 59 = .ok (.iaload, 1) := by decide +kernel
theorem dX7_percent_60 : decode cX7_percent 60 = .ok (.isub, 1) := by decide +kernel
theorem dX7_percent_61 : decode cX7_percent 61 = .ok (.goto 9, 3) := by decide +kernel
theorem dX7_percent_64 : decode cX7_percent 64 = .ok (.aload_n 0, 1) := by decide +kernel
theorem dX7_percent_65 : decode cX7_percent 65 = .ok (.getfield 15, 3) := by decide +kernel
theorem dX7_percent_68 : decode cX7_percent 68 = .ok (.iload_n 1, 1) := by decide +kernel
theorem dX7_percent_69 : decode cX7_percent 69 = .ok (.iaload, 1) := by decide +kernel
theorem dX7_percent_70 : decode cX7_percent 70 = .ok (.ireturn, 1) := by decide +kernel
theorem dX7_canPart_0 : decode cX7_canPart 0 = .ok (.iconst 0, 1) := by decide +kernel
theorem dX7_canPart_1 : decode cX7_canPart 1 = .ok (.istore_n 3, 1) := by decide +kernel
theorem dX7_canPart_2 : decode cX7_canPart 2 = .ok (.iload_n 3, 1) := by decide +kernel
theorem dX7_canPart_3 : decode cX7_canPart 3 = .ok (.aload_n 0, 1) := by decide +kernel
theorem dX7_canPart_4 : decode cX7_canPart 4 = .ok (.getfield 24, 3) := by decide +kernel
theorem dX7_canPart_7 : decode cX7_canPart 7 = .ok (.if_icmp .ge 26, 3) := by decide +kernel
theorem dX7_canPart_10 : decode cX7_canPart 10 = .ok (.aload_n 0, 1) := by decide +kernel
theorem dX7_canPart_11 : decode cX7_canPart 11 = .ok (.iload_n 3, 1) := by decide +kernel
theorem dX7_canPart_12 : decode cX7_canPart 12 = .ok (.iload_n 1, 1) := by decide +kernel
theorem dX7_canPart_13 : decode cX7_canPart 13 = .ok (.invokevirtual 72, 3) := by decide +kernel
theorem dX7_canPart_16 : decode cX7_canPart 16 = .ok (.aload_n 0, 1) := by decide +kernel
theorem dX7_canPart_17 : decode cX7_canPart 17 = .ok (.iload_n 3, 1) := by decide +kernel
theorem dX7_canPart_18 : decode cX7_canPart 18 = .ok (.iload_n 2, 1) := by decide +kernel
theorem dX7_canPart_19 : decode cX7_canPart 19 = .ok (.invokevirtual 72, 3) := by decide +kernel
theorem dX7_canPart_22 : decode cX7_canPart 22 = .ok (.if_icmp .eq 5, 3) := by decide +kernel
theorem dX7_canPart_25 : decode cX7_canPart 25 = .ok (.iconst 1, 1) := by decide +kernel
theorem dX7_canPart_26 : decode cX7_canPart 26 = .ok (.ireturn, 1) := by decide +kernel
theorem dX7_canPart_27 : decode cX7_canPart 27 = .ok (.iinc 3 1, 3) := by decide +kernel
theorem dX7_canPart_30 : decode cX7_canPart 30 = .ok (.goto (-28), 3) := by decide +kernel
theorem dX7_canPart_33 : decode cX7_canPart 33 = .ok (.iconst 0, 1) := by decide +kernel
theorem dX7_canPart_34 : decode cX7_canPart 34 = .ok (.ireturn, 1) := by decide +kernel
theorem dX8_init_0 : decode cX8_init 0 = .ok (.aload_n 0, 1) := by decide +kernel
theorem dX8_init_1 : decode cX8_init 1 = .ok (.invokespecial 1, 3) := by decide +kernel
theorem dX8_init_4 : decode cX8_init 4 = .ok (.aload_n 0, 1) := by decide +kernel
theorem dX8_init_5 : decode cX8_init 5 = .ok (.new 7, 3) := by decide +kernel
theorem dX8_init_8 : decode cX8_init 8 = .ok (.dup, 1) := by decide +kernel
theorem dX8_init_9 : decode cX8_init 9 = .ok (.invokespecial 9, 3) := by decide +kernel
theorem dX8_init_12 : decode cX8_init 12 = .ok (.putfield 10, 3) := by decide +kernel
theorem dX8_init_15 : decode cX8_init 15 = .ok (.aload_n 0, 1) := by decide +kernel
theorem dX8_init_16 : decode cX8_init 16 = .ok (.new 16, 3) := by decide +kernel
theorem dX8_init_19 : decode cX8_init 19 = .ok (.dup, 1) := by decide +kernel
theorem dX8_init_20 : decode cX8_init 20 = .ok (.invokespecial 18, 3) := by decide +kernel
theorem dX8_init_23 : decode cX8_init 23 = .ok (.putfield 19, 3) := by decide +kernel
theorem dX8_init_26 : decode cX8_init 26 = .ok (.aload_n 0, 1) := by decide +kernel
theorem dX8_init_27 : decode cX8_init 27 = .ok (.new 16, 3) := by decide +kernel
theorem dX8_init_30 : decode cX8_init 30 = .ok (.dup, 1) := by decide +kernel
theorem dX8_init_31 : decode cX8_init 31 = .ok (.invokespecial 18, 3) := by decide +kernel
theorem dX8_init_34 : decode cX8_init 34 = .ok (.putfield 23, 3) := by decide +kernel
theorem dX8_init_37 : decode cX8_init 37 = .ok (.aload_n 0, 1) := by decide +kernel
theorem dX8_init_38 : decode cX8_init 38 = .ok (.new 26, 3) := by decide +kernel
theorem dX8_init_41 : decode cX8_init 41 = .ok (.dup, 1) := by decide +kernel
theorem dX8_init_42 : decode cX8_init 42 = .ok (.invokespecial 28, 3) := by decide +kernel
theorem dX8_init_45 : decode cX8_init 45 = .ok (.putfield 29, 3) := by decide +kernel
theorem dX8_init_48 : decode cX8_init 48 = .ok (.aload_n 0, 1) := by decide +kernel
theorem dX8_init_49 : decode cX8_init 49 = .ok (.new 26, 3) := by decide +kernel
theorem dX8_init_52 : decode cX8_init 52 = .ok (.dup, 1) := by decide +kernel
theorem dX8_init_53 : decode cX8_init 53 = .ok (.invokespecial 28, 3) := by decide +kernel
theorem dX8_init_56 : decode cX8_init 56 = .ok (.putfield 33, 3) := by decide +kernel
theorem dX8_init_59 : decode cX8_init 59 = .ok (.aload_n 0, 1) := by decide +kernel
theorem dX8_init_60 : decode cX8_init 60 = .ok (.invokestatic 36, 3) := by decide +kernel
theorem dX8_init_63 : decode cX8_init 63 = .ok (.putfield 40, 3) := by decide +kernel
theorem dX8_init_66 : decode cX8_init 66 = .ok (.aload_n 0, 1) := by decide +kernel
theorem dX8_init_67 : decode cX8_init 67 = .ok (.new 44, 3) := by decide +kernel
theorem dX8_init_70 : decode cX8_init 70 = .ok (.dup, 1) := by decide +kernel
theorem dX8_init_71 : decode cX8_init 71 = .ok (.invokespecial 46, 3) := by decide +kernel
theorem dX8_init_74 : decode cX8_init 74 = .ok (.putfield 47, 3) := by decide +kernel
theorem dX8_init_77 : decode cX8_init 77 = .ok (.aload_n 0, 1) := by decide +kernel
theorem dX8_init_78 : decode cX8_init 78 = .ok (.iconst 2, 1) := by decide +kernel
theorem dX8_init_79 : decode cX8_init 79 = .ok (.anewarray 44, 3) := by decide +kernel
theorem dX8_init_82 : decode cX8_init 82 = .ok (.dup, 1) := by decide +kernel
theorem dX8_init_83 : decode cX8_init 83 = .ok (.iconst 0, 1) := by decide +kernel
theorem dX8_init_84 : decode cX8_init 84 = .ok (.new 44, 3) := by decide +kernel
theorem dX8_init_87 : decode cX8_init 87 = .ok (.dup, 1) := by decide +kernel
theorem dX8_init_88 : decode cX8_init 88 = .ok (.invokespecial 46, 3) := by decide +kernel
theorem dX8_init_91 : decode cX8_init 91 = .ok (.aastore, 1) := by decide +kernel
theorem dX8_init_92 : decode cX8_init 92 = .ok (.dup, 1) := by decide +kernel
theorem dX8_init_93 : decode cX8_init 93 = .ok (.iconst 1, 1) := by decide +kernel
theorem dX8_init_94 : decode cX8_init 94 = .ok (.new 44, 3) := by decide +kernel
theorem dX8_init_97 : decode cX8_init 97 = .ok (.dup, 1) := by decide +kernel
theorem dX8_init_98 : decode cX8_init 98 = .ok (.invokespecial 46, 3) := by decide +kernel
theorem dX8_init_101 : decode cX8_init 101 = .ok (.aastore, 1) := by decide +kernel
theorem dX8_init_102 : decode cX8_init 102 = .ok (.putfield 51, 3) := by decide +kernel
theorem dX8_init_105 : decode cX8_init 105 = .ok (.aload_n 0, 1) := by decide +kernel
theorem dX8_init_106 : decode cX8_init 106 = .ok (.new 55, 3) := by decide +kernel
theorem dX8_init_109 : decode cX8_init 109 = .ok (.dup, 1) := by decide +kernel
theorem dX8_init_110 : decode cX8_init 110 = .ok (.invokespecial 57, 3) := by decide +kernel
theorem dX8_init_113 : decode cX8_init 113 = .ok (.putfield 58, 3) := by decide +kernel
theorem dX8_init_116 : decode cX8_init 116 = .ok (.aload_n 0, 1) := by decide +kernel
theorem dX8_init_117 : decode cX8_init 117 = .ok (.new 62, 3) := by decide +kernel
theorem dX8_init_120 : decode cX8_init 120 = .ok (.dup, 1) := by decide +kernel
theorem dX8_init_121 : decode cX8_init 121 = .ok (.invokespecial 64, 3) := by decide +kernel
theorem dX8_init_124 : decode cX8_init 124 = .ok (.putfield 65, 3) := by decide +kernel
theorem dX8_init_127 : decode cX8_init 127 = .ok (.aload_n 0, 1) := by decide +kernel
theorem dX8_init_128 : decode cX8_init 128 = .ok (.bipush 40, 2) := by decide +kernel
theorem dX8_init_130 : decode cX8_init 130 = .ok (.newarray .int, 2) := by decide +kernel
theorem dX8_init_132 : decode cX8_init 132 = .ok (.putfield 69, 3) := by decide +kernel
theorem dX8_init_135 : decode cX8_init 135 = .ok (.aload_n 0, 1) := by decide +kernel
theorem dX8_init_136 : decode cX8_init 136 = .ok (.iconst 0, 1) := by decide +kernel
theorem dX8_init_137 : decode cX8_init 137 = .ok (.putfield 73, 3) := by decide +kernel
theorem dX8_init_140 : decode cX8_init 140 = .ok (.aload_n 0, 1) := by decide +kernel
theorem dX8_init_141 : decode cX8_init 141 = .ok (.new 77, 3) := by decide +kernel
theorem dX8_init_144 : decode cX8_init 144 = .ok (.dup, 1) := by decide +kernel
theorem dX8_init_145 : decode cX8_init 145 = .ok (.invokespecial 79, 3) := by decide +kernel
theorem dX8_init_148 : decode cX8_init 148 = .ok (.putfield 80, 3) := by decide +kernel
theorem dX8_init_151 : decode cX8_init 151 = .ok (.aload_n 0, 1) := by decide +kernel
theorem dX8_init_152 : decode cX8_init 152 = .ok (.new 84, 3) := by decide +kernel
theorem dX8_init_155 : decode cX8_init 155 = .ok (.dup, 1) := by decide +kernel
theorem dX8_init_156 : decode cX8_init 156 = .ok (.invokespecial 86, 3) := by decide +kernel
theorem dX8_init_159 : decode cX8_init 159 = .ok (.putfield 87, 3) := by decide +kernel
theorem dX8_init_162 : decode cX8_init 162 = .ok (.return_, 1) := by decide +kernel
theorem dX8_feed_0 : decode cX8_feed 0 = .ok (.iload_n 1, 1) := by decide +kernel
theorem dX8_feed_1 : decode cX8_feed 1 = .ok (.iconst 1, 1) := by decide +kernel
theorem dX8_feed_2 : decode cX8_feed 2 = .ok (.bipush 8, 2) := by decide +kernel
theorem dX8_feed_4 : decode cX8_feed 4 = .ok (.invokestatic 91, 3) := by decide +kernel
theorem dX8_feed_7 : decode cX8_feed 7 = .ok (.ifCond .ne 6, 3) := by decide +kernel
theorem dX8_feed_10 : decode cX8_feed 10 = .ok (.ldc 95, 2) := by decide +kernel
theorem dX8_feed_12 : decode cX8_feed 12 = .ok (.ireturn, 1) := by decide +kernel
theorem dX8_feed_13 : decode cX8_feed 13 = .ok (.aload_n 0, 1) := by decide +kernel
theorem dX8_feed_14 : decode cX8_feed 14 = .ok (.getfield 10, 3) := by decide +kernel
theorem dX8_feed_17 : decode cX8_feed 17 = .ok (.getfield 96, 3) := by decide +kernel
theorem dX8_feed_20 : decode cX8_feed 20 = .ok (.iload_n 1, 1) := by decide +kernel
theorem dX8_feed_21 : decode cX8_feed 21 = .ok (.iadd, 1) := by decide +kernel
theorem dX8_feed_22 : decode cX8_feed 22 = .ok (.sipush 400, 3) := by decide +kernel
theorem dX8_feed_25 : decode cX8_feed 25 = .ok (.if_icmp .le 6, 3) := by decide +kernel
theorem dX8_feed_28 : decode cX8_feed 28 = .ok (.ldc 99, 2) := by decide +kernel
theorem dX8_feed_30 : decode cX8_feed 30 = .ok (.ireturn, 1) := by decide +kernel
theorem dX8_feed_31 : decode cX8_feed 31 = .ok (.iload_n 1, 1) := by decide +kernel
theorem dX8_feed_32 : decode cX8_feed 32 = .ok (.iconst 1, 1) := by decide +kernel
theorem dX8_feed_33 : decode cX8_feed 33 = .ok (.isub, 1) := by decide +kernel
theorem dX8_feed_34 : decode cX8_feed 34 = .ok (.istore 4, 2) := by decide +kernel
theorem dX8_feed_36 : decode cX8_feed 36 = .ok (.iload 4, 2) := by decide +kernel
theorem dX8_feed_38 : decode cX8_feed 38 = .ok (.ifCond .lt 25, 3) := by decide +kernel
theorem dX8_feed_41 : decode cX8_feed 41 = .ok (.aload_n 0, 1) := by decide +kernel
theorem dX8_feed_42 : decode cX8_feed 42 = .ok (.getfield 10, 3) := by decide +kernel
theorem dX8_feed_45 : decode cX8_feed 45 = .ok (.lload_n 2, 1) := by decide +kernel
theorem dX8_feed_46 : decode cX8_feed 46 = .ok (.bipush 8, 2) := by decide +kernel
theorem dX8_feed_48 : decode cX8_feed 48 = .ok (.iload 4, 2) := by decide +kernel
theorem dX8_feed_50 : decode cX8_feed 50 = .ok (.imul, 1) := by decide +kernel
theorem dX8_feed_51 : decode cX8_feed 51 = .ok (.lushr, 1) := by decide +kernel
theorem dX8_feed_52 : decode cX8_feed 52 = .ok (.l2i, 1) := by decide +kernel
theorem dX8_feed_53 : decode cX8_feed 53 = .ok (.i2b, 1) := by decide +kernel
theorem dX8_feed_54 : decode cX8_feed 54 = .ok (.invokevirtual 100, 3) := by decide +kernel
theorem dX8_feed_57 : decode cX8_feed 57 = .ok (.iinc 4 (-1), 3) := by decide +kernel
theorem dX8_feed_60 : decode cX8_feed 60 = .ok (.goto (-24), 3) := by decide +kernel
theorem dX8_feed_63 : decode cX8_feed 63 = .ok (.aload_n 0, 1) := by decide +kernel
theorem dX8_feed_64 : decode cX8_feed 64 = .ok (.getfield 10, 3) := by decide +kernel
theorem dX8_feed_67 : decode cX8_feed 67 = .ok (.getfield 96, 3) := by decide +kernel
theorem dX8_feed_70 : decode cX8_feed 70 = .ok (.ireturn, 1) := by decide +kernel
theorem dX8_tune_0 : decode cX8_tune 0 = .ok (.aload_n 0, 1) := by decide +kernel
theorem dX8_tune_1 : decode cX8_tune 1 = .ok (.getfield 23, 3) := by decide +kernel
theorem dX8_tune_4 : decode cX8_tune 4 = .ok (.aload_n 0, 1) := by decide +kernel
theorem dX8_tune_5 : decode cX8_tune 5 = .ok (.getfield 10, 3) := by decide +kernel
theorem dX8_tune_8 : decode cX8_tune 8 = .ok (.invokevirtual 104, 3) := by decide +kernel
theorem dX8_tune_11 : decode cX8_tune 11 = .ok (.aload_n 0, 1) := by decide +kernel
theorem dX8_tune_12 : decode cX8_tune 12 = .ok (.getfield 10, 3) := by decide +kernel
theorem dX8_tune_15 : decode cX8_tune 15 = .ok (.invokevirtual 108, 3) := by decide +kernel
theorem dX8_tune_18 : decode cX8_tune 18 = .ok (.aload_n 0, 1) := by decide +kernel
theorem dX8_tune_19 : decode cX8_tune 19 = .ok (.getfield 10, 3) := by decide +kernel
theorem dX8_tune_22 : decode cX8_tune 22 = .ok (.invokevirtual 111, 3) := by decide +kernel
theorem dX8_tune_25 : decode cX8_tune 25 = .ok (.ifCond .eq 14, 3) := by decide +kernel
theorem dX8_tune_28 : decode cX8_tune 28 = .ok (.bipush (-10), 2) := by decide +kernel
theorem dX8_tune_30 : decode cX8_tune 30 = .ok (.aload_n 0, 1) := by decide +kernel
theorem dX8_tune_31 : decode cX8_tune 31 = .ok (.getfield 10, 3) := by decide +kernel
theorem dX8_tune_34 : decode cX8_tune 34 = .ok (.getfield 115, 3) := by decide +kernel
theorem dX8_tune_37 : decode cX8_tune 37 = .ok (.isub, 1) := by decide +kernel
theorem dX8_tune_38 : decode cX8_tune 38 = .ok (.ireturn, 1) := by decide +kernel
theorem dX8_tune_39 : decode cX8_tune 39 = .ok (.aload_n 0, 1) := by decide +kernel
theorem dX8_tune_40 : decode cX8_tune 40 = .ok (.getfield 19, 3) := by decide +kernel
theorem dX8_tune_43 : decode cX8_tune 43 = .ok (.astore_n 1, 1) := by decide +kernel
theorem dX8_tune_44 : decode cX8_tune 44 = .ok (.aload_n 0, 1) := by decide +kernel
theorem dX8_tune_45 : decode cX8_tune 45 = .ok (.aload_n 0, 1) := by decide +kernel
theorem dX8_tune_46 : decode cX8_tune 46 = .ok (.getfield 23, 3) := by decide +kernel
theorem dX8_tune_49 : decode cX8_tune 49 = .ok (.putfield 19, 3) := by decide +kernel
theorem dX8_tune_52 : decode cX8_tune 52 = .ok (.aload_n 0, 1) := by decide +kernel
theorem dX8_tune_53 : decode cX8_tune 53 = .ok (.aload_n 1, 1) := by decide +kernel
theorem dX8_tune_54 : decode cX8_tune 54 = .ok (.putfield 23, 3) := by decide +kernel
theorem dX8_tune_57 : decode cX8_tune 57 = .ok (.aload_n 0, 1) := by decide +kernel
theorem dX8_tune_58 : decode cX8_tune 58 = .ok (.invokevirtual 118, 3) := by decide +kernel
theorem dX8_tune_61 : decode cX8_tune 61 = .ok (.aload_n 0, 1) := by decide +kernel
theorem dX8_tune_62 : decode cX8_tune 62 = .ok (.invokevirtual 121, 3) := by decide +kernel
theorem dX8_tune_65 : decode cX8_tune 65 = .ok (.aload_n 0, 1) := by decide +kernel
theorem dX8_tune_66 : decode cX8_tune 66 = .ok (.getfield 19, 3) := by decide +kernel
theorem dX8_tune_69 : decode cX8_tune 69 = .ok (.getfield 124, 3) := by decide +kernel
theorem dX8_tune_72 : decode cX8_tune 72 = .ok (.ireturn, 1) := by decide +kernel
theorem dX8_singers_0 : decode cX8_singers 0 = .ok (.aload_n 0, 1) := by decide +kernel
theorem dX8_singers_1 : decode cX8_singers 1 = .ok (.invokevirtual 127, 3) := by decide +kernel
theorem dX8_singers_4 : decode cX8_singers 4 = .ok (.istore_n 1, 1) := by decide +kernel
theorem dX8_singers_5 : decode cX8_singers 5 = .ok (.aload_n 0, 1) := by decide +kernel
theorem dX8_singers_6 : decode cX8_singers 6 = .ok (.getfield 10, 3) := by decide +kernel
theorem dX8_singers_9 : decode cX8_singers 9 = .ok (.invokevirtual 108, 3) := by decide +kernel
theorem dX8_singers_12 : decode cX8_singers 12 = .ok (.aload_n 0, 1) := by decide +kernel
theorem dX8_singers_13 : decode cX8_singers 13 = .ok (.getfield 10, 3) := by decide +kernel
theorem dX8_singers_16 : decode cX8_singers 16 = .ok (.invokevirtual 111, 3) := by decide +kernel
theorem dX8_singers_19 : decode cX8_singers 19 = .ok (.ifCond .eq 14, 3) := by decide +kernel
theorem dX8_singers_22 : decode cX8_singers 22 = .ok (.bipush (-10), 2) := by decide +kernel
theorem dX8_singers_24 : decode cX8_singers 24 = .ok (.aload_n 0, 1) := by decide +kernel
theorem dX8_singers_25 : decode cX8_singers 25 = .ok (.getfield 10, 3) := by decide +kernel
theorem dX8_singers_28 : decode cX8_singers 28 = .ok (.getfield 115, 3) := by decide +kernel
theorem dX8_singers_31 : decode cX8_singers 31 = .ok (.isub, 1) := by decide +kernel
theorem dX8_singers_32 : decode cX8_singers 32 = .ok (.ireturn, 1) := by decide +kernel
theorem dX8_singers_33 : decode cX8_singers 33 = .ok (.aload_n 0, 1) := by decide +kernel
theorem dX8_singers_34 : decode cX8_singers 34 = .ok (.getfield 47, 3) := by decide +kernel
theorem dX8_singers_37 : decode cX8_singers 37 = .ok (.getfield 131, 3) := by decide +kernel
theorem dX8_singers_40 : decode cX8_singers 40 = .ok (.astore_n 2, 1) := by decide +kernel
theorem dX8_singers_41 : decode cX8_singers 41 = .ok (.aload_n 0, 1) := by decide +kernel
theorem dX8_singers_42 : decode cX8_singers 42 = .ok (.getfield 47, 3) := by decide +kernel
theorem dX8_singers_45 : decode cX8_singers 45 = .ok (.aload_n 0, 1) := by decide +kernel
theorem dX8_singers_46 : decode cX8_singers 46 = .ok (.getfield 40, 3) := by decide +kernel
theorem dX8_singers_49 : decode cX8_singers 49 = .ok (.putfield 131, 3) := by decide +kernel
theorem dX8_singers_52 : decode cX8_singers 52 = .ok (.aload_n 0, 1) := by decide +kernel
theorem dX8_singers_53 : decode cX8_singers 53 = .ok (.getfield 47, 3) := by decide +kernel
theorem dX8_singers_56 : decode cX8_singers 56 = .ok (.iload_n 1, 1) := by decide +kernel
theorem dX8_singers_57 : decode cX8_singers 57 = .ok (.putfield 134, 3) := by decide +kernel
theorem dX8_singers_60 : decode cX8_singers 60 = .ok (.aload_n 0, 1) := by decide +kernel
theorem dX8_singers_61 : decode cX8_singers 61 = .ok (.aload_n 2, 1) := by decide +kernel
theorem dX8_singers_62 : decode cX8_singers 62 = .ok (.putfield 40, 3) := by decide +kernel
theorem dX8_singers_65 : decode cX8_singers 65 = .ok (.aload_n 0, 1) := by decide +kernel
theorem dX8_singers_66 : decode cX8_singers 66 = .ok (.invokevirtual 118, 3) := by decide +kernel
theorem dX8_singers_69 : decode cX8_singers 69 = .ok (.aload_n 0, 1) := by decide +kernel
theorem dX8_singers_70 : decode cX8_singers 70 = .ok (.invokevirtual 121, 3) := by decide +kernel
theorem dX8_singers_73 : decode cX8_singers 73 = .ok (.iload_n 1, 1) := by decide +kernel
theorem dX8_singers_74 : decode cX8_singers 74 = .ok (.ireturn, 1) := by decide +kernel
theorem dX8_tasks_0 : decode cX8_tasks 0 = .ok (.aload_n 0, 1) := by decide +kernel
theorem dX8_tasks_1 : decode cX8_tasks 1 = .ok (.getfield 33, 3) := by decide +kernel
theorem dX8_tasks_4 : decode cX8_tasks 4 = .ok (.aload_n 0, 1) := by decide +kernel
theorem dX8_tasks_5 : decode cX8_tasks 5 = .ok (.getfield 10, 3) := by decide +kernel
theorem dX8_tasks_8 : decode cX8_tasks 8 = .ok (.invokevirtual 137, 3) := by decide +kernel
theorem dX8_tasks_11 : decode cX8_tasks 11 = .ok (.aload_n 0, 1) := by decide +kernel
theorem dX8_tasks_12 : decode cX8_tasks 12 = .ok (.getfield 10, 3) := by decide +kernel
theorem dX8_tasks_15 : decode cX8_tasks 15 = .ok (.invokevirtual 108, 3) := by decide +kernel
theorem dX8_tasks_18 : decode cX8_tasks 18 = .ok (.aload_n 0, 1) := by decide +kernel
theorem dX8_tasks_19 : decode cX8_tasks 19 = .ok (.getfield 10, 3) := by decide +kernel
theorem dX8_tasks_22 : decode cX8_tasks 22 = .ok (.invokevirtual 111, 3) := by decide +kernel
theorem dX8_tasks_25 : decode cX8_tasks 25 = .ok (.ifCond .eq 14, 3) := by decide +kernel
theorem dX8_tasks_28 : decode cX8_tasks 28 = .ok (.bipush (-10), 2) := by decide +kernel
theorem dX8_tasks_30 : decode cX8_tasks 30 = .ok (.aload_n 0, 1) := by decide +kernel
theorem dX8_tasks_31 : decode cX8_tasks 31 = .ok (.getfield 10, 3) := by decide +kernel
theorem dX8_tasks_34 : decode cX8_tasks 34 = .ok (.getfield 115, 3) := by decide +kernel
theorem dX8_tasks_37 : decode cX8_tasks 37 = .ok (.isub, 1) := by decide +kernel
theorem dX8_tasks_38 : decode cX8_tasks 38 = .ok (.ireturn, 1) := by decide +kernel
theorem dX8_tasks_39 : decode cX8_tasks 39 = .ok (.aload_n 0, 1) := by decide +kernel
theorem dX8_tasks_40 : decode cX8_tasks 40 = .ok (.getfield 29, 3) := by decide +kernel
theorem dX8_tasks_43 : decode cX8_tasks 43 = .ok (.astore_n 1, 1) := by decide +kernel
theorem dX8_tasks_44 : decode cX8_tasks 44 = .ok (.aload_n 0, 1) := by decide +kernel
theorem dX8_tasks_45 : decode cX8_tasks 45 = .ok (.aload_n 0, 1) := by decide +kernel
theorem dX8_tasks_46 : decode cX8_tasks 46 = .ok (.getfield 33, 3) := by decide +kernel
theorem dX8_tasks_49 : decode cX8_tasks 49 = .ok (.putfield 29, 3) := by decide +kernel
theorem dX8_tasks_52 : decode cX8_tasks 52 = .ok (.aload_n 0, 1) := by decide +kernel
theorem dX8_tasks_53 : decode cX8_tasks 53 = .ok (.aload_n 1, 1) := by decide +kernel
theorem dX8_tasks_54 : decode cX8_tasks 54 = .ok (.putfield 33, 3) := by decide +kernel
theorem dX8_tasks_57 : decode cX8_tasks 57 = .ok (.aload_n 0, 1) := by decide +kernel
theorem dX8_tasks_58 : decode cX8_tasks 58 = .ok (.invokevirtual 138, 3) := by decide +kernel
theorem dX8_tasks_61 : decode cX8_tasks 61 = .ok (.aload_n 0, 1) := by decide +kernel
theorem dX8_tasks_62 : decode cX8_tasks 62 = .ok (.invokevirtual 121, 3) := by decide +kernel
theorem dX8_tasks_65 : decode cX8_tasks 65 = .ok (.aload_n 0, 1) := by decide +kernel
theorem dX8_tasks_66 : decode cX8_tasks 66 = .ok (.getfield 29, 3) := by decide +kernel
theorem dX8_tasks_69 : decode cX8_tasks 69 = .ok (.getfield 141, 3) := by decide +kernel
theorem dX8_tasks_72 : decode cX8_tasks 72 = .ok (.ireturn, 1) := by decide +kernel
theorem dX8_fault_0 : decode cX8_fault 0 = .ok (.aload_n 0, 1) := by decide +kernel
theorem dX8_fault_1 : decode cX8_fault 1 = .ok (.getfield 10, 3) := by decide +kernel
theorem dX8_fault_4 : decode cX8_fault 4 = .ok (.getfield 142, 3) := by decide +kernel
theorem dX8_fault_7 : decode cX8_fault 7 = .ok (.ireturn, 1) := by decide +kernel
theorem dX8_told_0 : decode cX8_told 0 = .ok (.iload_n 1, 1) := by decide +kernel
theorem dX8_told_1 : decode cX8_told 1 = .ok (.tableswitch 123 0 8 #[51, 59, 67, 75, 83, 94, 99, 107, 115], 51) := by decide +kernel
theorem dX8_told_52 : decode cX8_told 52 = .ok (.aload_n 0, 1) := by decide +kernel
theorem dX8_told_53 : decode cX8_told 53 = .ok (.getfield 19, 3) := by decide +kernel
theorem dX8_told_56 : decode cX8_told 56 = .ok (.getfield 124, 3) := by decide +kernel
theorem dX8_told_59 : decode cX8_told 59 = .ok (.ireturn, 1) := by decide +kernel
theorem dX8_told_60 : decode cX8_told 60 = .ok (.aload_n 0, 1) := by decide +kernel
theorem dX8_told_61 : decode cX8_told 61 = .ok (.getfield 47, 3) := by decide +kernel
theorem dX8_told_64 : decode cX8_told 64 = .ok (.getfield 134, 3) := by decide +kernel
theorem dX8_told_67 : decode cX8_told 67 = .ok (.ireturn, 1) := by decide +kernel
theorem dX8_told_68 : decode cX8_told 68 = .ok (.aload_n 0, 1) := by decide +kernel
theorem dX8_told_69 : decode cX8_told 69 = .ok (.getfield 29, 3) := by decide +kernel
theorem dX8_told_72 : decode cX8_told 72 = .ok (.getfield 141, 3) := by decide +kernel
theorem dX8_told_75 : decode cX8_told 75 = .ok (.ireturn, 1) := by decide +kernel
theorem dX8_told_76 : decode cX8_told 76 = .ok (.aload_n 0, 1) := by decide +kernel
theorem dX8_told_77 : decode cX8_told 77 = .ok (.getfield 10, 3) := by decide +kernel
theorem dX8_told_80 : decode cX8_told 80 = .ok (.getfield 96, 3) := by decide +kernel
theorem dX8_told_83 : decode cX8_told 83 = .ok (.ireturn, 1) := by decide +kernel
theorem dX8_told_84 : decode cX8_told 84 = .ok (.aload_n 0, 1) := by decide +kernel
theorem dX8_told_85 : decode cX8_told 85 = .ok (.getfield 47, 3) := by decide +kernel
theorem dX8_told_88 : decode cX8_told 88 = .ok (.getfield 145, 3) := by decide +kernel
theorem dX8_told_91 : decode cX8_told 91 = .ok (.getfield 148, 3) := by decide +kernel
theorem dX8_told_94 : decode cX8_told 94 = .ok (.ireturn, 1) := by decide +kernel
theorem dX8_told_95 : decode cX8_told 95 = .ok (.aload_n 0, 1) := by decide +kernel
theorem dX8_told_96 : decode cX8_told 96 = .ok (.getfield 73, 3) := by decide +kernel
theorem dX8_told_99 : decode cX8_told 99 = .ok (.ireturn, 1) := by decide +kernel
theorem dX8_told_100 : decode cX8_told 100 = .ok (.aload_n 0, 1) := by decide +kernel
theorem dX8_told_101 : decode cX8_told 101 = .ok (.getfield 65, 3) := by decide +kernel
theorem dX8_told_104 : decode cX8_told 104 = .ok (.getfield 151, 3) := by decide +kernel
theorem dX8_told_107 : decode cX8_told 107 = .ok (.ireturn, 1) := by decide +kernel
theorem dX8_told_108 : decode cX8_told 108 = .ok (.aload_n 0, 1) := by decide +kernel
theorem dX8_told_109 : decode cX8_told 109 = .ok (.getfield 47, 3) := by decide +kernel
theorem dX8_told_112 : decode cX8_told 112 = .ok (.getfield 152, 3) := by decide +kernel
theorem dX8_told_115 : decode cX8_told 115 = .ok (.ireturn, 1) := by decide +kernel
theorem dX8_told_116 : decode cX8_told 116 = .ok (.aload_n 0, 1) := by decide +kernel
theorem dX8_told_117 : decode cX8_told 117 = .ok (.getfield 47, 3) := by decide +kernel
theorem dX8_told_120 : decode cX8_told 120 = .ok (.getfield 155, 3) := by decide +kernel
theorem dX8_told_123 : decode cX8_told 123 = .ok (.ireturn, 1) := by decide +kernel
theorem dX8_told_124 : decode cX8_told 124 = .ok (.ldc 95, 2) := by decide +kernel
theorem dX8_told_126 : decode cX8_told 126 = .ok (.ireturn, 1) := by decide +kernel
theorem dX8_note_0 : decode cX8_note 0 = .ok (.iload_n 1, 1) := by decide +kernel
theorem dX8_note_1 : decode cX8_note 1 = .ok (.iconst 0, 1) := by decide +kernel
theorem dX8_note_2 : decode cX8_note 2 = .ok (.aload_n 0, 1) := by decide +kernel
theorem dX8_note_3 : decode cX8_note 3 = .ok (.getfield 19, 3) := by decide +kernel
theorem dX8_note_6 : decode cX8_note 6 = .ok (.getfield 124, 3) := by decide +kernel
theorem dX8_note_9 : decode cX8_note 9 = .ok (.iconst 1, 1) := by decide +kernel
theorem dX8_note_10 : decode cX8_note 10 = .ok (.isub, 1) := by decide +kernel
theorem dX8_note_11 : decode cX8_note 11 = .ok (.invokestatic 91, 3) := by decide +kernel
theorem dX8_note_14 : decode cX8_note 14 = .ok (.ifCond .ne 6, 3) := by decide +kernel
theorem dX8_note_17 : decode cX8_note 17 = .ok (.ldc 158, 2) := by decide +kernel
theorem dX8_note_19 : decode cX8_note 19 = .ok (.ireturn, 1) := by decide +kernel
theorem dX8_note_20 : decode cX8_note 20 = .ok (.iload_n 2, 1) := by decide +kernel
theorem dX8_note_21 : decode cX8_note 21 = .ok (.lookupswitch 47 #[(0, 27), (1, 37)], 27) := by decide +kernel
theorem dX8_note_48 : decode cX8_note 48 = .ok (.aload_n 0, 1) := by decide +kernel
theorem dX8_note_49 : decode cX8_note 49 = .ok (.getfield 19, 3) := by decide +kernel
theorem dX8_note_52 : decode cX8_note 52 = .ok (.getfield 159, 3) := by decide +kernel
theorem dX8_note_55 : decode cX8_note 55 = .ok (.iload_n 1, 1) := by decide +kernel
theorem dX8_note_56 : decode cX8_note 56 = .ok (.iaload, 1) := by decide +kernel
theorem dX8_note_57 : decode cX8_note 57 = .ok (.ireturn, 1) := by decide +kernel
theorem dX8_note_58 : decode cX8_note 58 = .ok (.aload_n 0, 1) := by decide +kernel
theorem dX8_note_59 : decode cX8_note 59 = .ok (.getfield 19, 3) := by decide +kernel
theorem dX8_note_62 : decode cX8_note 62 = .ok (.getfield 162, 3) := by decide +kernel
theorem dX8_note_65 : decode cX8_note 65 = .ok (.iload_n 1, 1) := by decide +kernel
theorem dX8_note_66 : decode cX8_note 66 = .ok (.iaload, 1) := by decide +kernel
theorem dX8_note_67 : decode cX8_note 67 = .ok (.ireturn, 1) := by decide +kernel
theorem dX8_note_68 : decode cX8_note 68 = .ok (.ldc 95, 2) := by decide +kernel
theorem dX8_note_70 : decode cX8_note 70 = .ok (.ireturn, 1) := by decide +kernel
theorem dX8_singer_0 : decode cX8_singer 0 = .ok (.aload_n 0, 1) := by decide +kernel
theorem dX8_singer_1 : decode cX8_singer 1 = .ok (.iload_n 1, 1) := by decide +kernel
theorem dX8_singer_2 : decode cX8_singer 2 = .ok (.invokevirtual 165, 3) := by decide +kernel
theorem dX8_singer_5 : decode cX8_singer 5 = .ok (.ifCond .ne 6, 3) := by decide +kernel
theorem dX8_singer_8 : decode cX8_singer 8 = .ok (.ldc 158, 2) := by decide +kernel
theorem dX8_singer_10 : decode cX8_singer 10 = .ok (.ireturn, 1) := by decide +kernel
theorem dX8_singer_11 : decode cX8_singer 11 = .ok (.aload_n 0, 1) := by decide +kernel
theorem dX8_singer_12 : decode cX8_singer 12 = .ok (.getfield 47, 3) := by decide +kernel
theorem dX8_singer_15 : decode cX8_singer 15 = .ok (.getfield 131, 3) := by decide +kernel
theorem dX8_singer_18 : decode cX8_singer 18 = .ok (.iload_n 1, 1) := by decide +kernel
theorem dX8_singer_19 : decode cX8_singer 19 = .ok (.aaload, 1) := by decide +kernel
theorem dX8_singer_20 : decode cX8_singer 20 = .ok (.astore_n 3, 1) := by decide +kernel
theorem dX8_singer_21 : decode cX8_singer 21 = .ok (.iload_n 2, 1) := by decide +kernel
theorem dX8_singer_22 : decode cX8_singer 22 = .ok (.tableswitch 86 0 7 #[46, 51, 56, 61, 66, 71, 76, 81], 46) := by decide +kernel
theorem dX8_singer_68 : decode cX8_singer 68 = .ok (.aload_n 3, 1) := by decide +kernel
theorem dX8_singer_69 : decode cX8_singer 69 = .ok (.getfield 169, 3) := by decide +kernel
theorem dX8_singer_72 : decode cX8_singer 72 = .ok (.ireturn, 1) := by decide +kernel
theorem dX8_singer_73 : decode cX8_singer 73 = .ok (.aload_n 3, 1) := by decide +kernel
theorem dX8_singer_74 : decode cX8_singer 74 = .ok (.getfield 172, 3) := by decide +kernel
theorem dX8_singer_77 : decode cX8_singer 77 = .ok (.ireturn, 1) := by decide +kernel
theorem dX8_singer_78 : decode cX8_singer 78 = .ok (.aload_n 3, 1) := by decide +kernel
theorem dX8_singer_79 : decode cX8_singer 79 = .ok (.getfield 175, 3) := by decide +kernel
theorem dX8_singer_82 : decode cX8_singer 82 = .ok (.ireturn, 1) := by decide +kernel
theorem dX8_singer_83 : decode cX8_singer 83 = .ok (.aload_n 3, 1) := by decide +kernel
theorem dX8_singer_84 : decode cX8_singer 84 = .ok (.getfield 178, 3) := by decide +kernel
theorem dX8_singer_87 : decode cX8_singer 87 = .ok (.ireturn, 1) := by decide +kernel
theorem dX8_singer_88 : decode cX8_singer 88 = .ok (.aload_n 3, 1) := by decide +kernel
theorem dX8_singer_89 : decode cX8_singer 89 = .ok (.getfield 181, 3) := by decide +kernel
theorem dX8_singer_92 : decode cX8_singer 92 = .ok (.ireturn, 1) := by decide +kernel
theorem dX8_singer_93 : decode cX8_singer 93 = .ok (.aload_n 3, 1) := by decide +kernel
theorem dX8_singer_94 : decode cX8_singer 94 = .ok (.getfield 184, 3) := by decide +kernel
theorem dX8_singer_97 : decode cX8_singer 97 = .ok (.ireturn, 1) := by decide +kernel
theorem dX8_singer_98 : decode cX8_singer 98 = .ok (.aload_n 3, 1) := by decide +kernel
theorem dX8_singer_99 : decode cX8_singer 99 = .ok (.getfield 187, 3) := by decide +kernel
theorem dX8_singer_102 : decode cX8_singer 102 = .ok (.ireturn, 1) := by decide +kernel
theorem dX8_singer_103 : decode cX8_singer 103 = .ok (.aload_n 3, 1) := by decide +kernel
theorem dX8_singer_104 : decode cX8_singer 104 = .ok (.getfield 190, 3) := by decide +kernel
theorem dX8_singer_107 : decode cX8_singer 107 = .ok (.ireturn, 1) := by decide +kernel
theorem dX8_singer_108 : decode cX8_singer 108 = .ok (.ldc 95, 2) := by decide +kernel
theorem dX8_singer_110 : decode cX8_singer 110 = .ok (.ireturn, 1) := by decide +kernel
theorem dX8_task_0 : decode cX8_task 0 = .ok (.aload_n 0, 1) := by decide +kernel
theorem dX8_task_1 : decode cX8_task 1 = .ok (.iload_n 1, 1) := by decide +kernel
theorem dX8_task_2 : decode cX8_task 2 = .ok (.invokevirtual 193, 3) := by decide +kernel
theorem dX8_task_5 : decode cX8_task 5 = .ok (.ifCond .ne 6, 3) := by decide +kernel
theorem dX8_task_8 : decode cX8_task 8 = .ok (.ldc 158, 2) := by decide +kernel
theorem dX8_task_10 : decode cX8_task 10 = .ok (.ireturn, 1) := by decide +kernel
theorem dX8_task_11 : decode cX8_task 11 = .ok (.iload_n 2, 1) := by decide +kernel
theorem dX8_task_12 : decode cX8_task 12 = .ok (.tableswitch 72 0 3 #[32, 42, 52, 62], 32) := by decide +kernel
theorem dX8_task_44 : decode cX8_task 44 = .ok (.aload_n 0, 1) := by decide +kernel
theorem dX8_task_45 : decode cX8_task 45 = .ok (.getfield 29, 3) := by decide +kernel
theorem dX8_task_48 : decode cX8_task 48 = .ok (.getfield 196, 3) := by decide +kernel
theorem dX8_task_51 : decode cX8_task 51 = .ok (.iload_n 1, 1) := by decide +kernel
theorem dX8_task_52 : decode cX8_task 52 = .ok (.iaload, 1) := by decide +kernel
theorem dX8_task_53 : decode cX8_task 53 = .ok (.ireturn, 1) := by decide +kernel
theorem dX8_task_54 : decode cX8_task 54 = .ok (.aload_n 0, 1) := by decide +kernel
theorem dX8_task_55 : decode cX8_task 55 = .ok (.getfield 29, 3) := by decide +kernel
theorem dX8_task_58 : decode cX8_task 58 = .ok (.getfield 199, 3) := by decide +kernel
theorem dX8_task_61 : decode cX8_task 61 = .ok (.iload_n 1, 1) := by decide +kernel
theorem dX8_task_62 : decode cX8_task 62 = .ok (.iaload, 1) := by decide +kernel
theorem dX8_task_63 : decode cX8_task 63 = .ok (.ireturn, 1) := by decide +kernel
theorem dX8_task_64 : decode cX8_task 64 = .ok (.aload_n 0, 1) := by decide +kernel
theorem dX8_task_65 : decode cX8_task 65 = .ok (.getfield 29, 3) := by decide +kernel
theorem dX8_task_68 : decode cX8_task 68 = .ok (.getfield 202, 3) := by decide +kernel
theorem dX8_task_71 : decode cX8_task 71 = .ok (.iload_n 1, 1) := by decide +kernel
theorem dX8_task_72 : decode cX8_task 72 = .ok (.iaload, 1) := by decide +kernel
theorem dX8_task_73 : decode cX8_task 73 = .ok (.ireturn, 1) := by decide +kernel
theorem dX8_task_74 : decode cX8_task 74 = .ok (.aload_n 0, 1) := by decide +kernel
theorem dX8_task_75 : decode cX8_task 75 = .ok (.getfield 29, 3) := by decide +kernel
theorem dX8_task_78 : decode cX8_task 78 = .ok (.getfield 205, 3) := by decide +kernel
theorem dX8_task_81 : decode cX8_task 81 = .ok (.iload_n 1, 1) := by decide +kernel
theorem dX8_task_82 : decode cX8_task 82 = .ok (.iaload, 1) := by decide +kernel
theorem dX8_task_83 : decode cX8_task 83 = .ok (.ireturn, 1) := by decide +kernel
theorem dX8_task_84 : decode cX8_task 84 = .ok (.ldc 95, 2) := by decide +kernel
theorem dX8_task_86 : decode cX8_task 86 = .ok (.ireturn, 1) := by decide +kernel
theorem dX8_sing_0 : decode cX8_sing 0 = .ok (.aload_n 0, 1) := by decide +kernel
theorem dX8_sing_1 : decode cX8_sing 1 = .ok (.iload_n 1, 1) := by decide +kernel
theorem dX8_sing_2 : decode cX8_sing 2 = .ok (.invokevirtual 165, 3) := by decide +kernel
theorem dX8_sing_5 : decode cX8_sing 5 = .ok (.ifCond .ne 6, 3) := by decide +kernel
theorem dX8_sing_8 : decode cX8_sing 8 = .ok (.ldc 158, 2) := by decide +kernel
theorem dX8_sing_10 : decode cX8_sing 10 = .ok (.ireturn, 1) := by decide +kernel
theorem dX8_sing_11 : decode cX8_sing 11 = .ok (.iload_n 2, 1) := by decide +kernel
theorem dX8_sing_12 : decode cX8_sing 12 = .ok (.iconst 0, 1) := by decide +kernel
theorem dX8_sing_13 : decode cX8_sing 13 = .ok (.iconst 2, 1) := by decide +kernel
theorem dX8_sing_14 : decode cX8_sing 14 = .ok (.invokestatic 91, 3) := by decide +kernel
theorem dX8_sing_17 : decode cX8_sing 17 = .ok (.ifCond .ne 6, 3) := by decide +kernel
theorem dX8_sing_20 : decode cX8_sing 20 = .ok (.ldc 95, 2) := by decide +kernel
theorem dX8_sing_22 : decode cX8_sing 22 = .ok (.ireturn, 1) := by decide +kernel
theorem dX8_sing_23 : decode cX8_sing 23 = .ok (.aload_n 0, 1) := by decide +kernel
theorem dX8_sing_24 : decode cX8_sing 24 = .ok (.aload_n 0, 1) := by decide +kernel
theorem dX8_sing_25 : decode cX8_sing 25 = .ok (.getfield 47, 3) := by decide +kernel
theorem dX8_sing_28 : decode cX8_sing 28 = .ok (.getfield 145, 3) := by decide +kernel
theorem dX8_sing_31 : decode cX8_sing 31 = .ok (.aload_n 0, 1) := by decide +kernel
theorem dX8_sing_32 : decode cX8_sing 32 = .ok (.getfield 47, 3) := by decide +kernel
theorem dX8_sing_35 : decode cX8_sing 35 = .ok (.getfield 131, 3) := by decide +kernel
theorem dX8_sing_38 : decode cX8_sing 38 = .ok (.iload_n 1, 1) := by decide +kernel
theorem dX8_sing_39 : decode cX8_sing 39 = .ok (.aaload, 1) := by decide +kernel
theorem dX8_sing_40 : decode cX8_sing 40 = .ok (.iload_n 2, 1) := by decide +kernel
theorem dX8_sing_41 : decode cX8_sing 41 = .ok (.invokevirtual 208, 3) := by decide +kernel
theorem dX8_sing_44 : decode cX8_sing 44 = .ok (.aload_n 0, 1) := by decide +kernel
theorem dX8_sing_45 : decode cX8_sing 45 = .ok (.getfield 47, 3) := by decide +kernel
theorem dX8_sing_48 : decode cX8_sing 48 = .ok (.getfield 145, 3) := by decide +kernel
theorem dX8_sing_51 : decode cX8_sing 51 = .ok (.iload_n 1, 1) := by decide +kernel
theorem dX8_sing_52 : decode cX8_sing 52 = .ok (.putfield 148, 3) := by decide +kernel
theorem dX8_sing_55 : decode cX8_sing 55 = .ok (.aload_n 0, 1) := by decide +kernel
theorem dX8_sing_56 : decode cX8_sing 56 = .ok (.getfield 47, 3) := by decide +kernel
theorem dX8_sing_59 : decode cX8_sing 59 = .ok (.getfield 145, 3) := by decide +kernel
theorem dX8_sing_62 : decode cX8_sing 62 = .ok (.iconst 0, 1) := by decide +kernel
theorem dX8_sing_63 : decode cX8_sing 63 = .ok (.aload_n 0, 1) := by decide +kernel
theorem dX8_sing_64 : decode cX8_sing 64 = .ok (.getfield 19, 3) := by decide +kernel
theorem dX8_sing_67 : decode cX8_sing 67 = .ok (.invokevirtual 212, 3) := by decide +kernel
theorem dX8_sing_70 : decode cX8_sing 70 = .ok (.ireturn, 1) := by decide +kernel
theorem dX8_height_0 : decode cX8_height 0 = .ok (.iload_n 1, 1) := by decide +kernel
theorem dX8_height_1 : decode cX8_height 1 = .ok (.iconst 0, 1) := by decide +kernel
theorem dX8_height_2 : decode cX8_height 2 = .ok (.aload_n 0, 1) := by decide +kernel
theorem dX8_height_3 : decode cX8_height 3 = .ok (.getfield 19, 3) := by decide +kernel
theorem dX8_height_6 : decode cX8_height 6 = .ok (.getfield 124, 3) := by decide +kernel
theorem dX8_height_9 : decode cX8_height 9 = .ok (.iconst 1, 1) := by decide +kernel
theorem dX8_height_10 : decode cX8_height 10 = .ok (.isub, 1) := by decide +kernel
theorem dX8_height_11 : decode cX8_height 11 = .ok (.invokestatic 91, 3) := by decide +kernel
theorem dX8_height_14 : decode cX8_height 14 = .ok (.ifCond .ne 6, 3) := by decide +kernel
theorem dX8_height_17 : decode cX8_height 17 = .ok (.ldc 158, 2) := by decide +kernel
theorem dX8_height_19 : decode cX8_height 19 = .ok (.ireturn, 1) := by decide +kernel
theorem dX8_height_20 : decode cX8_height 20 = .ok (.aload_n 0, 1) := by decide +kernel
theorem dX8_height_21 : decode cX8_height 21 = .ok (.invokevirtual 216, 3) := by decide +kernel
theorem dX8_height_24 : decode cX8_height 24 = .ok (.ifCond .ne 6, 3) := by decide +kernel
theorem dX8_height_27 : decode cX8_height 27 = .ok (.ldc 219, 2) := by decide +kernel
theorem dX8_height_29 : decode cX8_height 29 = .ok (.ireturn, 1) := by decide +kernel
theorem dX8_height_30 : decode cX8_height 30 = .ok (.aload_n 0, 1) := by decide +kernel
theorem dX8_height_31 : decode cX8_height 31 = .ok (.getfield 47, 3) := by decide +kernel
theorem dX8_height_34 : decode cX8_height 34 = .ok (.getfield 145, 3) := by decide +kernel
theorem dX8_height_37 : decode cX8_height 37 = .ok (.iload_n 1, 1) := by decide +kernel
theorem dX8_height_38 : decode cX8_height 38 = .ok (.invokevirtual 220, 3) := by decide +kernel
theorem dX8_height_41 : decode cX8_height 41 = .ok (.ireturn, 1) := by decide +kernel
theorem dX8_slid_0 : decode cX8_slid 0 = .ok (.aload_n 0, 1) := by decide +kernel
theorem dX8_slid_1 : decode cX8_slid 1 = .ok (.invokevirtual 216, 3) := by decide +kernel
theorem dX8_slid_4 : decode cX8_slid 4 = .ok (.ifCond .ne 6, 3) := by decide +kernel
theorem dX8_slid_7 : decode cX8_slid 7 = .ok (.ldc 219, 2) := by decide +kernel
theorem dX8_slid_9 : decode cX8_slid 9 = .ok (.ireturn, 1) := by decide +kernel
theorem dX8_slid_10 : decode cX8_slid 10 = .ok (.aload_n 0, 1) := by decide +kernel
theorem dX8_slid_11 : decode cX8_slid 11 = .ok (.getfield 47, 3) := by decide +kernel
theorem dX8_slid_14 : decode cX8_slid 14 = .ok (.getfield 145, 3) := by decide +kernel
theorem dX8_slid_17 : decode cX8_slid 17 = .ok (.aload_n 0, 1) := by decide +kernel
theorem dX8_slid_18 : decode cX8_slid 18 = .ok (.getfield 19, 3) := by decide +kernel
theorem dX8_slid_21 : decode cX8_slid 21 = .ok (.invokevirtual 224, 3) := by decide +kernel
theorem dX8_slid_24 : decode cX8_slid 24 = .ok (.ireturn, 1) := by decide +kernel
theorem dX8_score_0 : decode cX8_score 0 = .ok (.iload_n 1, 1) := by decide +kernel
theorem dX8_score_1 : decode cX8_score 1 = .ok (.iconst 0, 1) := by decide +kernel
theorem dX8_score_2 : decode cX8_score 2 = .ok (.iconst 3, 1) := by decide +kernel
theorem dX8_score_3 : decode cX8_score 3 = .ok (.invokestatic 91, 3) := by decide +kernel
theorem dX8_score_6 : decode cX8_score 6 = .ok (.ifCond .ne 6, 3) := by decide +kernel
theorem dX8_score_9 : decode cX8_score 9 = .ok (.ldc 95, 2) := by decide +kernel
theorem dX8_score_11 : decode cX8_score 11 = .ok (.ireturn, 1) := by decide +kernel
theorem dX8_score_12 : decode cX8_score 12 = .ok (.aload_n 0, 1) := by decide +kernel
theorem dX8_score_13 : decode cX8_score 13 = .ok (.invokevirtual 216, 3) := by decide +kernel
theorem dX8_score_16 : decode cX8_score 16 = .ok (.ifCond .ne 6, 3) := by decide +kernel
theorem dX8_score_19 : decode cX8_score 19 = .ok (.ldc 219, 2) := by decide +kernel
theorem dX8_score_21 : decode cX8_score 21 = .ok (.ireturn, 1) := by decide +kernel
theorem dX8_score_22 : decode cX8_score 22 = .ok (.aload_n 0, 1) := by decide +kernel
theorem dX8_score_23 : decode cX8_score 23 = .ok (.getfield 47, 3) := by decide +kernel
theorem dX8_score_26 : decode cX8_score 26 = .ok (.getfield 145, 3) := by decide +kernel
theorem dX8_score_29 : decode cX8_score 29 = .ok (.iload_n 1, 1) := by decide +kernel
theorem dX8_score_30 : decode cX8_score 30 = .ok (.aload_n 0, 1) := by decide +kernel
theorem dX8_score_31 : decode cX8_score 31 = .ok (.getfield 19, 3) := by decide +kernel
theorem dX8_score_34 : decode cX8_score 34 = .ok (.invokevirtual 212, 3) := by decide +kernel
theorem dX8_score_37 : decode cX8_score 37 = .ok (.ireturn, 1) := by decide +kernel
theorem dX8_calls_0 : decode cX8_calls 0 = .ok (.aload_n 0, 1) := by decide +kernel
theorem dX8_calls_1 : decode cX8_calls 1 = .ok (.invokevirtual 216, 3) := by decide +kernel
theorem dX8_calls_4 : decode cX8_calls 4 = .ok (.ifCond .ne 6, 3) := by decide +kernel
theorem dX8_calls_7 : decode cX8_calls 7 = .ok (.ldc 219, 2) := by decide +kernel
theorem dX8_calls_9 : decode cX8_calls 9 = .ok (.ireturn, 1) := by decide +kernel
theorem dX8_calls_10 : decode cX8_calls 10 = .ok (.aload_n 0, 1) := by decide +kernel
theorem dX8_calls_11 : decode cX8_calls 11 = .ok (.getfield 47, 3) := by decide +kernel
theorem dX8_calls_14 : decode cX8_calls 14 = .ok (.getfield 145, 3) := by decide +kernel
theorem dX8_calls_17 : decode cX8_calls 17 = .ok (.aload_n 0, 1) := by decide +kernel
theorem dX8_calls_18 : decode cX8_calls 18 = .ok (.getfield 19, 3) := by decide +kernel
theorem dX8_calls_21 : decode cX8_calls 21 = .ok (.invokevirtual 228, 3) := by decide +kernel
theorem dX8_calls_24 : decode cX8_calls 24 = .ok (.ireturn, 1) := by decide +kernel
theorem dX8_fooled_0 : decode cX8_fooled 0 = .ok (.iload_n 1, 1) := by decide +kernel
theorem dX8_fooled_1 : decode cX8_fooled 1 = .ok (.iconst 0, 1) := by decide +kernel
theorem dX8_fooled_2 : decode cX8_fooled 2 = .ok (.iconst 1, 1) := by decide +kernel
theorem dX8_fooled_3 : decode cX8_fooled 3 = .ok (.invokestatic 91, 3) := by decide +kernel
theorem dX8_fooled_6 : decode cX8_fooled 6 = .ok (.ifCond .ne 6, 3) := by decide +kernel
theorem dX8_fooled_9 : decode cX8_fooled 9 = .ok (.ldc 95, 2) := by decide +kernel
theorem dX8_fooled_11 : decode cX8_fooled 11 = .ok (.ireturn, 1) := by decide +kernel
theorem dX8_fooled_12 : decode cX8_fooled 12 = .ok (.iconst (-1), 1) := by decide +kernel
theorem dX8_fooled_13 : decode cX8_fooled 13 = .ok (.istore_n 2, 1) := by decide +kernel
theorem dX8_fooled_14 : decode cX8_fooled 14 = .ok (.iconst 0, 1) := by decide +kernel
theorem dX8_fooled_15 : decode cX8_fooled 15 = .ok (.istore_n 3, 1) := by decide +kernel
theorem dX8_fooled_16 : decode cX8_fooled 16 = .ok (.iconst 0, 1) := by decide +kernel
theorem dX8_fooled_17 : decode cX8_fooled 17 = .ok (.istore 4, 2) := by decide +kernel
theorem dX8_fooled_19 : decode cX8_fooled 19 = .ok (.iload 4, 2) := by decide +kernel
theorem dX8_fooled_21 : decode cX8_fooled 21 = .ok (.sipush 3600, 3) := by decide +kernel
theorem dX8_fooled_24 : decode cX8_fooled 24 = .ok (.if_icmp .gt 32, 3) := by decide +kernel
theorem dX8_fooled_27 : decode cX8_fooled 27 = .ok (.aload_n 0, 1) := by decide +kernel
theorem dX8_fooled_28 : decode cX8_fooled 28 = .ok (.getfield 19, 3) := by decide +kernel
theorem dX8_fooled_31 : decode cX8_fooled 31 = .ok (.iload 4, 2) := by decide +kernel
theorem dX8_fooled_33 : decode cX8_fooled 33 = .ok (.invokevirtual 231, 3) := by decide +kernel
theorem dX8_fooled_36 : decode cX8_fooled 36 = .ok (.istore 5, 2) := by decide +kernel
theorem dX8_fooled_38 : decode cX8_fooled 38 = .ok (.iload 5, 2) := by decide +kernel
theorem dX8_fooled_40 : decode cX8_fooled 40 = .ok (.iload_n 3, 1) := by decide +kernel
theorem dX8_fooled_41 : decode cX8_fooled 41 = .ok (.if_icmp .le 9, 3) := by decide +kernel
theorem dX8_fooled_44 : decode cX8_fooled 44 = .ok (.iload 5, 2) := by decide +kernel
theorem dX8_fooled_46 : decode cX8_fooled 46 = .ok (.istore_n 3, 1) := by decide +kernel
theorem dX8_fooled_47 : decode cX8_fooled 47 = .ok (.iload 4, 2) := by decide +kernel
theorem dX8_fooled_49 : decode cX8_fooled 49 = .ok (.istore_n 2, 1) := by decide +kernel
theorem dX8_fooled_50 : decode cX8_fooled 50 = .ok (.iinc 4 50, 3) := by decide +kernel
theorem dX8_fooled_53 : decode cX8_fooled 53 = .ok (.goto (-34), 3) := by decide +kernel
theorem dX8_fooled_56 : decode cX8_fooled 56 = .ok (.iload_n 1, 1) := by decide +kernel
theorem dX8_fooled_57 : decode cX8_fooled 57 = .ok (.ifCond .ne 7, 3) := by decide +kernel
theorem dX8_fooled_60 : decode cX8_fooled 60 = .ok (.iload_n 2, 1) := by decide +kernel
theorem dX8_fooled_61 : decode cX8_fooled 61 = .ok (.goto 4, 3) := by decide +kernel
theorem dX8_fooled_64 : decode cX8_fooled 64 = .ok (.iload_n 3, 1) := by decide +kernel
theorem dX8_fooled_65 : decode cX8_fooled 65 = .ok (.ireturn, 1) := by decide +kernel
theorem dX8_weigh_0 : decode cX8_weigh 0 = .ok (.iload_n 1, 1) := by decide +kernel
theorem dX8_weigh_1 : decode cX8_weigh 1 = .ok (.invokestatic 234, 3) := by decide +kernel
theorem dX8_weigh_4 : decode cX8_weigh 4 = .ok (.ifCond .ne 6, 3) := by decide +kernel
theorem dX8_weigh_7 : decode cX8_weigh 7 = .ok (.ldc 158, 2) := by decide +kernel
theorem dX8_weigh_9 : decode cX8_weigh 9 = .ok (.ireturn, 1) := by decide +kernel
theorem dX8_weigh_10 : decode cX8_weigh 10 = .ok (.iload_n 2, 1) := by decide +kernel
theorem dX8_weigh_11 : decode cX8_weigh 11 = .ok (.iconst 0, 1) := by decide +kernel
theorem dX8_weigh_12 : decode cX8_weigh 12 = .ok (.bipush 99, 2) := by decide +kernel
theorem dX8_weigh_14 : decode cX8_weigh 14 = .ok (.invokestatic 91, 3) := by decide +kernel
theorem dX8_weigh_17 : decode cX8_weigh 17 = .ok (.ifCond .ne 6, 3) := by decide +kernel
theorem dX8_weigh_20 : decode cX8_weigh 20 = .ok (.ldc 95, 2) := by decide +kernel
theorem dX8_weigh_22 : decode cX8_weigh 22 = .ok (.ireturn, 1) := by decide +kernel
theorem dX8_weigh_23 : decode cX8_weigh 23 = .ok (.aload_n 0, 1) := by decide +kernel
theorem dX8_weigh_24 : decode cX8_weigh 24 = .ok (.getfield 47, 3) := by decide +kernel
theorem dX8_weigh_27 : decode cX8_weigh 27 = .ok (.getfield 237, 3) := by decide +kernel
theorem dX8_weigh_30 : decode cX8_weigh 30 = .ok (.iload_n 1, 1) := by decide +kernel
theorem dX8_weigh_31 : decode cX8_weigh 31 = .ok (.iaload, 1) := by decide +kernel
theorem dX8_weigh_32 : decode cX8_weigh 32 = .ok (.istore_n 3, 1) := by decide +kernel
theorem dX8_weigh_33 : decode cX8_weigh 33 = .ok (.aload_n 0, 1) := by decide +kernel
theorem dX8_weigh_34 : decode cX8_weigh 34 = .ok (.getfield 47, 3) := by decide +kernel
theorem dX8_weigh_37 : decode cX8_weigh 37 = .ok (.getfield 237, 3) := by decide +kernel
theorem dX8_weigh_40 : decode cX8_weigh 40 = .ok (.iload_n 1, 1) := by decide +kernel
theorem dX8_weigh_41 : decode cX8_weigh 41 = .ok (.iload_n 2, 1) := by decide +kernel
theorem dX8_weigh_42 : decode cX8_weigh 42 = .ok (.iastore, 1) := by decide +kernel
theorem dX8_weigh_43 : decode cX8_weigh 43 = .ok (.iload_n 3, 1) := by decide +kernel
theorem dX8_weigh_44 : decode cX8_weigh 44 = .ok (.ireturn, 1) := by decide +kernel
theorem dX8_result_0 : decode cX8_result 0 = .ok (.aload_n 0, 1) := by decide +kernel
theorem dX8_result_1 : decode cX8_result 1 = .ok (.iload_n 1, 1) := by decide +kernel
theorem dX8_result_2 : decode cX8_result 2 = .ok (.invokevirtual 193, 3) := by decide +kernel
theorem dX8_result_5 : decode cX8_result 5 = .ok (.ifCond .ne 6, 3) := by decide +kernel
theorem dX8_result_8 : decode cX8_result 8 = .ok (.ldc 158, 2) := by decide +kernel
theorem dX8_result_10 : decode cX8_result 10 = .ok (.ireturn, 1) := by decide +kernel
theorem dX8_result_11 : decode cX8_result 11 = .ok (.aload_n 0, 1) := by decide +kernel
theorem dX8_result_12 : decode cX8_result 12 = .ok (.getfield 47, 3) := by decide +kernel
theorem dX8_result_15 : decode cX8_result 15 = .ok (.iload_n 1, 1) := by decide +kernel
theorem dX8_result_16 : decode cX8_result 16 = .ok (.invokevirtual 240, 3) := by decide +kernel
theorem dX8_result_19 : decode cX8_result 19 = .ok (.ifCond .eq 6, 3) := by decide +kernel
theorem dX8_result_22 : decode cX8_result 22 = .ok (.ldc 219, 2) := by decide +kernel
theorem dX8_result_24 : decode cX8_result 24 = .ok (.ireturn, 1) := by decide +kernel
theorem dX8_result_25 : decode cX8_result 25 = .ok (.aload_n 0, 1) := by decide +kernel
theorem dX8_result_26 : decode cX8_result 26 = .ok (.getfield 47, 3) := by decide +kernel
theorem dX8_result_29 : decode cX8_result 29 = .ok (.dup, 1) := by decide +kernel
theorem dX8_result_30 : decode cX8_result 30 = .ok (.getfield 152, 3) := by decide +kernel
theorem dX8_result_33 : decode cX8_result 33 = .ok (.iconst 1, 1) := by decide +kernel
theorem dX8_result_34 : decode cX8_result 34 = .ok (.iload_n 1, 1) := by decide +kernel
theorem dX8_result_35 : decode cX8_result 35 = .ok (.ishl, 1) := by decide +kernel
theorem dX8_result_36 : decode cX8_result 36 = .ok (.ior, 1) := by decide +kernel
theorem dX8_result_37 : decode cX8_result 37 = .ok (.putfield 152, 3) := by decide +kernel
theorem dX8_result_40 : decode cX8_result 40 = .ok (.iload_n 2, 1) := by decide +kernel
theorem dX8_result_41 : decode cX8_result 41 = .ok (.ifCond .eq 18, 3) := by decide +kernel
theorem dX8_result_44 : decode cX8_result 44 = .ok (.aload_n 0, 1) := by decide +kernel
theorem dX8_result_45 : decode cX8_result 45 = .ok (.getfield 47, 3) := by decide +kernel
theorem dX8_result_48 : decode cX8_result 48 = .ok (.dup, 1) := by decide +kernel
theorem dX8_result_49 : decode cX8_result 49 = .ok (.getfield 155, 3) := by decide +kernel
theorem dX8_result_52 : decode cX8_result 52 = .ok (.iconst 1, 1) := by decide +kernel
theorem dX8_result_53 : decode cX8_result 53 = .ok (.iload_n 1, 1) := by decide +kernel
theorem dX8_result_54 : decode cX8_result 54 = .ok (.ishl, 1) := by decide +kernel
theorem dX8_result_55 : decode cX8_result 55 = .ok (.ior, 1) := by decide +kernel
theorem dX8_result_56 : decode cX8_result 56 = .ok (.putfield 155, 3) := by decide +kernel
theorem dX8_result_59 : decode cX8_result 59 = .ok (.aload_n 0, 1) := by decide +kernel
theorem dX8_result_60 : decode cX8_result 60 = .ok (.getfield 47, 3) := by decide +kernel
theorem dX8_result_63 : decode cX8_result 63 = .ok (.getfield 152, 3) := by decide +kernel
theorem dX8_result_66 : decode cX8_result 66 = .ok (.invokestatic 243, 3) := by decide +kernel
theorem dX8_result_69 : decode cX8_result 69 = .ok (.ireturn, 1) := by decide +kernel
theorem dX8_forget_0 : decode cX8_forget 0 = .ok (.aload_n 0, 1) := by decide +kernel
theorem dX8_forget_1 : decode cX8_forget 1 = .ok (.getfield 47, 3) := by decide +kernel
theorem dX8_forget_4 : decode cX8_forget 4 = .ok (.getfield 152, 3) := by decide +kernel
theorem dX8_forget_7 : decode cX8_forget 7 = .ok (.invokestatic 243, 3) := by decide +kernel
theorem dX8_forget_10 : decode cX8_forget 10 = .ok (.istore_n 1, 1) := by decide +kernel
theorem dX8_forget_11 : decode cX8_forget 11 = .ok (.aload_n 0, 1) := by decide +kernel
theorem dX8_forget_12 : decode cX8_forget 12 = .ok (.invokevirtual 138, 3) := by decide +kernel
theorem dX8_forget_15 : decode cX8_forget 15 = .ok (.iload_n 1, 1) := by decide +kernel
theorem dX8_forget_16 : decode cX8_forget 16 = .ok (.ireturn, 1) := by decide +kernel
theorem dX8_odds_0 : decode cX8_odds 0 = .ok (.iload_n 1, 1) := by decide +kernel
theorem dX8_odds_1 : decode cX8_odds 1 = .ok (.invokestatic 234, 3) := by decide +kernel
theorem dX8_odds_4 : decode cX8_odds 4 = .ok (.ifCond .eq 9, 3) := by decide +kernel
theorem dX8_odds_7 : decode cX8_odds 7 = .ok (.aload_n 0, 1) := by decide +kernel
theorem dX8_odds_8 : decode cX8_odds 8 = .ok (.iload_n 1, 1) := by decide +kernel
theorem dX8_odds_9 : decode cX8_odds 9 = .ok (.invokevirtual 248, 3) := by decide +kernel
theorem dX8_odds_12 : decode cX8_odds 12 = .ok (.lreturn, 1) := by decide +kernel
theorem dX8_odds_13 : decode cX8_odds 13 = .ok (.iload_n 1, 1) := by decide +kernel
theorem dX8_odds_14 : decode cX8_odds 14 = .ok (.iconst (-1), 1) := by decide +kernel
theorem dX8_odds_15 : decode cX8_odds 15 = .ok (.if_icmp .eq 7, 3) := by decide +kernel
theorem dX8_odds_18 : decode cX8_odds 18 = .ok (.ldc2_w 252, 3) := by decide +kernel
theorem dX8_odds_21 : decode cX8_odds 21 = .ok (.lreturn, 1) := by decide +kernel
theorem dX8_odds_22 : decode cX8_odds 22 = .ok (.lconst 0, 1) := by decide +kernel
theorem dX8_odds_23 : decode cX8_odds 23 = .ok (.lstore_n 2, 1) := by decide +kernel
theorem dX8_odds_24 : decode cX8_odds 24 = .ok (.iconst 0, 1) := by decide +kernel
theorem dX8_odds_25 : decode cX8_odds 25 = .ok (.istore 4, 2) := by decide +kernel
theorem dX8_odds_27 : decode cX8_odds 27 = .ok (.iload 4, 2) := by decide +kernel
theorem dX8_odds_29 : decode cX8_odds 29 = .ok (.bipush 16, 2) := by decide +kernel
theorem dX8_odds_31 : decode cX8_odds 31 = .ok (.if_icmp .ge 18, 3) := by decide +kernel
theorem dX8_odds_34 : decode cX8_odds 34 = .ok (.lload_n 2, 1) := by decide +kernel
theorem dX8_odds_35 : decode cX8_odds 35 = .ok (.aload_n 0, 1) := by decide +kernel
theorem dX8_odds_36 : decode cX8_odds 36 = .ok (.iload 4, 2) := by decide +kernel
theorem dX8_odds_38 : decode cX8_odds 38 = .ok (.invokevirtual 248, 3) := by decide +kernel
theorem dX8_odds_41 : decode cX8_odds 41 = .ok (.ladd, 1) := by decide +kernel
theorem dX8_odds_42 : decode cX8_odds 42 = .ok (.lstore_n 2, 1) := by decide +kernel
theorem dX8_odds_43 : decode cX8_odds 43 = .ok (.iinc 4 1, 3) := by decide +kernel
theorem dX8_odds_46 : decode cX8_odds 46 = .ok (.goto (-19), 3) := by decide +kernel
theorem dX8_odds_49 : decode cX8_odds 49 = .ok (.lload_n 2, 1) := by decide +kernel
theorem dX8_odds_50 : decode cX8_odds 50 = .ok (.lreturn, 1) := by decide +kernel
theorem dX8_next_0 : decode cX8_next 0 = .ok (.iconst (-1), 1) := by decide +kernel
theorem dX8_next_1 : decode cX8_next 1 = .ok (.istore_n 1, 1) := by decide +kernel
theorem dX8_next_2 : decode cX8_next 2 = .ok (.lconst 0, 1) := by decide +kernel
theorem dX8_next_3 : decode cX8_next 3 = .ok (.lstore_n 2, 1) := by decide +kernel
theorem dX8_next_4 : decode cX8_next 4 = .ok (.iconst 0, 1) := by decide +kernel
theorem dX8_next_5 : decode cX8_next 5 = .ok (.istore 4, 2) := by decide +kernel
theorem dX8_next_7 : decode cX8_next 7 = .ok (.iload 4, 2) := by decide +kernel
theorem dX8_next_9 : decode cX8_next 9 = .ok (.aload_n 0, 1) := by decide +kernel
theorem dX8_next_10 : decode cX8_next 10 = .ok (.getfield 29, 3) := by decide +kernel
theorem dX8_next_13 : decode cX8_next 13 = .ok (.getfield 141, 3) := by decide +kernel
theorem dX8_next_16 : decode cX8_next 16 = .ok (.if_icmp .ge 88, 3) := by decide +kernel
theorem dX8_next_19 : decode cX8_next 19 = .ok (.aload_n 0, 1) := by decide +kernel
theorem dX8_next_20 : decode cX8_next 20 = .ok (.getfield 47, 3) := by decide +kernel
theorem dX8_next_23 : decode cX8_next 23 = .ok (.iload 4, 2) := by decide +kernel
theorem dX8_next_25 : decode cX8_next 25 = .ok (.invokevirtual 240, 3) := by decide +kernel
theorem dX8_next_28 : decode cX8_next 28 = .ok (.ifCond .eq 6, 3) := by decide +kernel
theorem dX8_next_31 : decode cX8_next 31 = .ok (.goto 67, 3) := by decide +kernel
theorem dX8_next_34 : decode cX8_next 34 = .ok (.aload_n 0, 1) := by decide +kernel
theorem dX8_next_35 : decode cX8_next 35 = .ok (.iload 4, 2) := by decide +kernel
theorem dX8_next_37 : decode cX8_next 37 = .ok (.iconst 1, 1) := by decide +kernel
theorem dX8_next_38 : decode cX8_next 38 = .ok (.invokevirtual 254, 3) := by decide +kernel
theorem dX8_next_41 : decode cX8_next 41 = .ok (.aload_n 0, 1) := by decide +kernel
theorem dX8_next_42 : decode cX8_next 42 = .ok (.iload 4, 2) := by decide +kernel
theorem dX8_next_44 : decode cX8_next 44 = .ok (.iconst 0, 1) := by decide +kernel
theorem dX8_next_45 : decode cX8_next 45 = .ok (.invokevirtual 254, 3) := by decide +kernel
theorem dX8_next_48 : decode cX8_next 48 = .ok (.ladd, 1) := by decide +kernel
theorem dX8_next_49 : decode cX8_next 49 = .ok (.lstore 5, 2) := by decide +kernel
theorem dX8_next_51 : decode cX8_next 51 = .ok (.iload_n 1, 1) := by decide +kernel
theorem dX8_next_52 : decode cX8_next 52 = .ok (.iconst (-1), 1) := by decide +kernel
theorem dX8_next_53 : decode cX8_next 53 = .ok (.if_icmp .eq 39, 3) := by decide +kernel
theorem dX8_next_56 : decode cX8_next 56 = .ok (.lload 5, 2) := by decide +kernel
theorem dX8_next_58 : decode cX8_next 58 = .ok (.lload_n 2, 1) := by decide +kernel
theorem dX8_next_59 : decode cX8_next 59 = .ok (.lcmp, 1) := by decide +kernel
theorem dX8_next_60 : decode cX8_next 60 = .ok (.ifCond .gt 32, 3) := by decide +kernel
theorem dX8_next_63 : decode cX8_next 63 = .ok (.lload 5, 2) := by decide +kernel
theorem dX8_next_65 : decode cX8_next 65 = .ok (.lload_n 2, 1) := by decide +kernel
theorem dX8_next_66 : decode cX8_next 66 = .ok (.lcmp, 1) := by decide +kernel
theorem dX8_next_67 : decode cX8_next 67 = .ok (.ifCond .ne 31, 3) := by decide +kernel
theorem dX8_next_70 : decode cX8_next 70 = .ok (.aload_n 0, 1) := by decide +kernel
theorem dX8_next_71 : decode cX8_next 71 = .ok (.getfield 29, 3) := by decide +kernel
theorem dX8_next_74 : decode cX8_next 74 = .ok (.getfield 196, 3) := by decide +kernel
theorem dX8_next_77 : decode cX8_next 77 = .ok (.iload 4, 2) := by decide +kernel
theorem dX8_next_79 : decode cX8_next 79 = .ok (.iaload, 1) := by decide +kernel
theorem dX8_next_80 : decode cX8_next 80 = .ok (.aload_n 0, 1) := by decide +kernel
theorem dX8_next_81 : decode cX8_next 81 = .ok (.getfield 29, 3) := by decide +kernel
theorem dX8_next_84 : decode cX8_next 84 = .ok (.getfield 196, 3) := by decide +kernel
theorem dX8_next_87 : decode cX8_next 87 = .ok (.iload_n 1, 1) := by decide +kernel
theorem dX8_next_88 : decode cX8_next 88 = .ok (.iaload, 1) := by decide +kernel
theorem dX8_next_89 : decode cX8_next 89 = .ok (.if_icmp .ge 9, 3) := by decide +kernel
theorem dX8_next_92 : decode cX8_next 92 = .ok (.iload 4, 2) := by decide +kernel
theorem dX8_next_94 : decode cX8_next 94 = .ok (.istore_n 1, 1) := by decide +kernel
theorem dX8_next_95 : decode cX8_next 95 = .ok (.lload 5, 2) := by decide +kernel
theorem dX8_next_97 : decode cX8_next 97 = .ok (.lstore_n 2, 1) := by decide +kernel
theorem dX8_next_98 : decode cX8_next 98 = .ok (.iinc 4 1, 3) := by decide +kernel
theorem dX8_next_101 : decode cX8_next 101 = .ok (.goto (-94), 3) := by decide +kernel
theorem dX8_next_104 : decode cX8_next 104 = .ok (.iload_n 1, 1) := by decide +kernel
theorem dX8_next_105 : decode cX8_next 105 = .ok (.ireturn, 1) := by decide +kernel
theorem dX8_left_0 : decode cX8_left 0 = .ok (.iload_n 1, 1) := by decide +kernel
theorem dX8_left_1 : decode cX8_left 1 = .ok (.iconst 1, 1) := by decide +kernel
theorem dX8_left_2 : decode cX8_left 2 = .ok (.bipush 100, 2) := by decide +kernel
theorem dX8_left_4 : decode cX8_left 4 = .ok (.invokestatic 91, 3) := by decide +kernel
theorem dX8_left_7 : decode cX8_left 7 = .ok (.ifCond .ne 6, 3) := by decide +kernel
theorem dX8_left_10 : decode cX8_left 10 = .ok (.ldc 95, 2) := by decide +kernel
theorem dX8_left_12 : decode cX8_left 12 = .ok (.ireturn, 1) := by decide +kernel
theorem dX8_left_13 : decode cX8_left 13 = .ok (.iconst 0, 1) := by decide +kernel
theorem dX8_left_14 : decode cX8_left 14 = .ok (.istore_n 2, 1) := by decide +kernel
theorem dX8_left_15 : decode cX8_left 15 = .ok (.iload_n 2, 1) := by decide +kernel
theorem dX8_left_16 : decode cX8_left 16 = .ok (.bipush 16, 2) := by decide +kernel
theorem dX8_left_18 : decode cX8_left 18 = .ok (.if_icmp .ge 25, 3) := by decide +kernel
theorem dX8_left_21 : decode cX8_left 21 = .ok (.aload_n 0, 1) := by decide +kernel
theorem dX8_left_22 : decode cX8_left 22 = .ok (.getfield 58, 3) := by decide +kernel
theorem dX8_left_25 : decode cX8_left 25 = .ok (.getfield 258, 3) := by decide +kernel
theorem dX8_left_28 : decode cX8_left 28 = .ok (.iconst 0, 1) := by decide +kernel
theorem dX8_left_29 : decode cX8_left 29 = .ok (.aaload, 1) := by decide +kernel
theorem dX8_left_30 : decode cX8_left 30 = .ok (.iload_n 2, 1) := by decide +kernel
theorem dX8_left_31 : decode cX8_left 31 = .ok (.aload_n 0, 1) := by decide +kernel
theorem dX8_left_32 : decode cX8_left 32 = .ok (.iload_n 2, 1) := by decide +kernel
theorem dX8_left_33 : decode cX8_left 33 = .ok (.invokevirtual 248, 3) := by decide +kernel
theorem dX8_left_36 : decode cX8_left 36 = .ok (.lastore, 1) := by decide +kernel
theorem dX8_left_37 : decode cX8_left 37 = .ok (.iinc 2 1, 3) := by decide +kernel
theorem dX8_left_40 : decode cX8_left 40 = .ok (.goto (-25), 3) := by decide +kernel
theorem dX8_left_43 : decode cX8_left 43 = .ok (.aload_n 0, 1) := by decide +kernel
theorem dX8_left_44 : decode cX8_left 44 = .ok (.getfield 58, 3) := by decide +kernel
theorem dX8_left_47 : decode cX8_left 47 = .ok (.aload_n 0, 1) := by decide +kernel
theorem dX8_left_48 : decode cX8_left 48 = .ok (.getfield 29, 3) := by decide +kernel
theorem dX8_left_51 : decode cX8_left 51 = .ok (.aload_n 0, 1) := by decide +kernel
theorem dX8_left_52 : decode cX8_left 52 = .ok (.getfield 47, 3) := by decide +kernel
theorem dX8_left_55 : decode cX8_left 55 = .ok (.getfield 152, 3) := by decide +kernel
theorem dX8_left_58 : decode cX8_left 58 = .ok (.iload_n 1, 1) := by decide +kernel
theorem dX8_left_59 : decode cX8_left 59 = .ok (.invokevirtual 262, 3) := by decide +kernel
theorem dX8_left_62 : decode cX8_left 62 = .ok (.ireturn, 1) := by decide +kernel
theorem dX8_alike_0 : decode cX8_alike 0 = .ok (.iload_n 1, 1) := by decide +kernel
theorem dX8_alike_1 : decode cX8_alike 1 = .ok (.invokestatic 234, 3) := by decide +kernel
theorem dX8_alike_4 : decode cX8_alike 4 = .ok (.ifCond .ne 6, 3) := by decide +kernel
theorem dX8_alike_7 : decode cX8_alike 7 = .ok (.ldc 158, 2) := by decide +kernel
theorem dX8_alike_9 : decode cX8_alike 9 = .ok (.ireturn, 1) := by decide +kernel
theorem dX8_alike_10 : decode cX8_alike 10 = .ok (.iconst 0, 1) := by decide +kernel
theorem dX8_alike_11 : decode cX8_alike 11 = .ok (.istore_n 2, 1) := by decide +kernel
theorem dX8_alike_12 : decode cX8_alike 12 = .ok (.iconst 0, 1) := by decide +kernel
theorem dX8_alike_13 : decode cX8_alike 13 = .ok (.istore_n 3, 1) := by decide +kernel
theorem dX8_alike_14 : decode cX8_alike 14 = .ok (.iload_n 3, 1) := by decide +kernel
theorem dX8_alike_15 : decode cX8_alike 15 = .ok (.bipush 16, 2) := by decide +kernel
theorem dX8_alike_17 : decode cX8_alike 17 = .ok (.if_icmp .ge 27, 3) := by decide +kernel
theorem dX8_alike_20 : decode cX8_alike 20 = .ok (.aload_n 0, 1) := by decide +kernel
theorem dX8_alike_21 : decode cX8_alike 21 = .ok (.getfield 29, 3) := by decide +kernel
theorem dX8_alike_24 : decode cX8_alike 24 = .ok (.iload_n 1, 1) := by decide +kernel
theorem dX8_alike_25 : decode cX8_alike 25 = .ok (.iload_n 3, 1) := by decide +kernel
theorem dX8_alike_26 : decode cX8_alike 26 = .ok (.invokevirtual 266, 3) := by decide +kernel
theorem dX8_alike_29 : decode cX8_alike 29 = .ok (.ifCond .ne 9, 3) := by decide +kernel
theorem dX8_alike_32 : decode cX8_alike 32 = .ok (.iload_n 2, 1) := by decide +kernel
theorem dX8_alike_33 : decode cX8_alike 33 = .ok (.iconst 1, 1) := by decide +kernel
theorem dX8_alike_34 : decode cX8_alike 34 = .ok (.iload_n 3, 1) := by decide +kernel
theorem dX8_alike_35 : decode cX8_alike 35 = .ok (.ishl, 1) := by decide +kernel
theorem dX8_alike_36 : decode cX8_alike 36 = .ok (.ior, 1) := by decide +kernel
theorem dX8_alike_37 : decode cX8_alike 37 = .ok (.istore_n 2, 1) := by decide +kernel
theorem dX8_alike_38 : decode cX8_alike 38 = .ok (.iinc 3 1, 3) := by decide +kernel
theorem dX8_alike_41 : decode cX8_alike 41 = .ok (.goto (-27), 3) := by decide +kernel
theorem dX8_alike_44 : decode cX8_alike 44 = .ok (.iload_n 2, 1) := by decide +kernel
theorem dX8_alike_45 : decode cX8_alike 45 = .ok (.ireturn, 1) := by decide +kernel
theorem dX8_lesson_0 : decode cX8_lesson 0 = .ok (.aload_n 0, 1) := by decide +kernel
theorem dX8_lesson_1 : decode cX8_lesson 1 = .ok (.iload_n 1, 1) := by decide +kernel
theorem dX8_lesson_2 : decode cX8_lesson 2 = .ok (.invokevirtual 165, 3) := by decide +kernel
theorem dX8_lesson_5 : decode cX8_lesson 5 = .ok (.ifCond .eq 12, 3) := by decide +kernel
theorem dX8_lesson_8 : decode cX8_lesson 8 = .ok (.iload_n 2, 1) := by decide +kernel
theorem dX8_lesson_9 : decode cX8_lesson 9 = .ok (.iconst 0, 1) := by decide +kernel
theorem dX8_lesson_10 : decode cX8_lesson 10 = .ok (.iconst 3, 1) := by decide +kernel
theorem dX8_lesson_11 : decode cX8_lesson 11 = .ok (.invokestatic 91, 3) := by decide +kernel
theorem dX8_lesson_14 : decode cX8_lesson 14 = .ok (.ifCond .ne 6, 3) := by decide +kernel
theorem dX8_lesson_17 : decode cX8_lesson 17 = .ok (.ldc 158, 2) := by decide +kernel
theorem dX8_lesson_19 : decode cX8_lesson 19 = .ok (.ireturn, 1) := by decide +kernel
theorem dX8_lesson_20 : decode cX8_lesson 20 = .ok (.aload_n 0, 1) := by decide +kernel
theorem dX8_lesson_21 : decode cX8_lesson 21 = .ok (.getfield 47, 3) := by decide +kernel
theorem dX8_lesson_24 : decode cX8_lesson 24 = .ok (.getfield 131, 3) := by decide +kernel
theorem dX8_lesson_27 : decode cX8_lesson 27 = .ok (.iload_n 1, 1) := by decide +kernel
theorem dX8_lesson_28 : decode cX8_lesson 28 = .ok (.aaload, 1) := by decide +kernel
theorem dX8_lesson_29 : decode cX8_lesson 29 = .ok (.iload_n 2, 1) := by decide +kernel
theorem dX8_lesson_30 : decode cX8_lesson 30 = .ok (.invokevirtual 270, 3) := by decide +kernel
theorem dX8_lesson_33 : decode cX8_lesson 33 = .ok (.aload_n 0, 1) := by decide +kernel
theorem dX8_lesson_34 : decode cX8_lesson 34 = .ok (.aload_n 0, 1) := by decide +kernel
theorem dX8_lesson_35 : decode cX8_lesson 35 = .ok (.getfield 47, 3) := by decide +kernel
theorem dX8_lesson_38 : decode cX8_lesson 38 = .ok (.getfield 131, 3) := by decide +kernel
theorem dX8_lesson_41 : decode cX8_lesson 41 = .ok (.iload_n 1, 1) := by decide +kernel
theorem dX8_lesson_42 : decode cX8_lesson 42 = .ok (.aaload, 1) := by decide +kernel
theorem dX8_lesson_43 : decode cX8_lesson 43 = .ok (.invokevirtual 274, 3) := by decide +kernel
theorem dX8_lesson_46 : decode cX8_lesson 46 = .ok (.ireturn, 1) := by decide +kernel
theorem dX8_plan_0 : decode cX8_plan 0 = .ok (.aload_n 0, 1) := by decide +kernel
theorem dX8_plan_1 : decode cX8_plan 1 = .ok (.iload_n 1, 1) := by decide +kernel
theorem dX8_plan_2 : decode cX8_plan 2 = .ok (.invokevirtual 165, 3) := by decide +kernel
theorem dX8_plan_5 : decode cX8_plan 5 = .ok (.ifCond .ne 6, 3) := by decide +kernel
theorem dX8_plan_8 : decode cX8_plan 8 = .ok (.ldc 158, 2) := by decide +kernel
theorem dX8_plan_10 : decode cX8_plan 10 = .ok (.ireturn, 1) := by decide +kernel
theorem dX8_plan_11 : decode cX8_plan 11 = .ok (.iload_n 2, 1) := by decide +kernel
theorem dX8_plan_12 : decode cX8_plan 12 = .ok (.iconst 1, 1) := by decide +kernel
theorem dX8_plan_13 : decode cX8_plan 13 = .ok (.iconst 4, 1) := by decide +kernel
theorem dX8_plan_14 : decode cX8_plan 14 = .ok (.invokestatic 91, 3) := by decide +kernel
theorem dX8_plan_17 : decode cX8_plan 17 = .ok (.ifCond .eq 12, 3) := by decide +kernel
theorem dX8_plan_20 : decode cX8_plan 20 = .ok (.iload_n 3, 1) := by decide +kernel
theorem dX8_plan_21 : decode cX8_plan 21 = .ok (.iconst 0, 1) := by decide +kernel
theorem dX8_plan_22 : decode cX8_plan 22 = .ok (.iload_n 2, 1) := by decide +kernel
theorem dX8_plan_23 : decode cX8_plan 23 = .ok (.invokestatic 91, 3) := by decide +kernel
theorem dX8_plan_26 : decode cX8_plan 26 = .ok (.ifCond .ne 6, 3) := by decide +kernel
theorem dX8_plan_29 : decode cX8_plan 29 = .ok (.ldc 95, 2) := by decide +kernel
theorem dX8_plan_31 : decode cX8_plan 31 = .ok (.ireturn, 1) := by decide +kernel
theorem dX8_plan_32 : decode cX8_plan 32 = .ok (.iconst (-1), 1) := by decide +kernel
theorem dX8_plan_33 : decode cX8_plan 33 = .ok (.istore 4, 2) := by decide +kernel
theorem dX8_plan_35 : decode cX8_plan 35 = .ok (.iconst 0, 1) := by decide +kernel
theorem dX8_plan_36 : decode cX8_plan 36 = .ok (.istore 5, 2) := by decide +kernel
theorem dX8_plan_38 : decode cX8_plan 38 = .ok (.iconst 0, 1) := by decide +kernel
theorem dX8_plan_39 : decode cX8_plan 39 = .ok (.istore 6, 2) := by decide +kernel
theorem dX8_plan_41 : decode cX8_plan 41 = .ok (.iload 6, 2) := by decide +kernel
theorem dX8_plan_43 : decode cX8_plan 43 = .ok (.iconst 1, 1) := by decide +kernel
theorem dX8_plan_44 : decode cX8_plan 44 = .ok (.iconst 2, 1) := by decide +kernel
theorem dX8_plan_45 : decode cX8_plan 45 = .ok (.iload_n 2, 1) := by decide +kernel
theorem dX8_plan_46 : decode cX8_plan 46 = .ok (.imul, 1) := by decide +kernel
theorem dX8_plan_47 : decode cX8_plan 47 = .ok (.ishl, 1) := by decide +kernel
theorem dX8_plan_48 : decode cX8_plan 48 = .ok (.if_icmp .ge 92, 3) := by decide +kernel
theorem dX8_plan_51 : decode cX8_plan 51 = .ok (.iload 6, 2) := by decide +kernel
theorem dX8_plan_53 : decode cX8_plan 53 = .ok (.iload_n 2, 1) := by decide +kernel
theorem dX8_plan_54 : decode cX8_plan 54 = .ok (.invokestatic 278, 3) := by decide +kernel
theorem dX8_plan_57 : decode cX8_plan 57 = .ok (.ifCond .ne 6, 3) := by decide +kernel
theorem dX8_plan_60 : decode cX8_plan 60 = .ok (.goto 74, 3) := by decide +kernel
theorem dX8_plan_63 : decode cX8_plan 63 = .ok (.aload_n 0, 1) := by decide +kernel
theorem dX8_plan_64 : decode cX8_plan 64 = .ok (.getfield 87, 3) := by decide +kernel
theorem dX8_plan_67 : decode cX8_plan 67 = .ok (.aload_n 0, 1) := by decide +kernel
theorem dX8_plan_68 : decode cX8_plan 68 = .ok (.getfield 47, 3) := by decide +kernel
theorem dX8_plan_71 : decode cX8_plan 71 = .ok (.getfield 131, 3) := by decide +kernel
theorem dX8_plan_74 : decode cX8_plan 74 = .ok (.iload_n 1, 1) := by decide +kernel
theorem dX8_plan_75 : decode cX8_plan 75 = .ok (.aaload, 1) := by decide +kernel
theorem dX8_plan_76 : decode cX8_plan 76 = .ok (.invokevirtual 281, 3) := by decide +kernel
theorem dX8_plan_79 : decode cX8_plan 79 = .ok (.iconst 1, 1) := by decide +kernel
theorem dX8_plan_80 : decode cX8_plan 80 = .ok (.istore 7, 2) := by decide +kernel
theorem dX8_plan_82 : decode cX8_plan 82 = .ok (.iload 7, 2) := by decide +kernel
theorem dX8_plan_84 : decode cX8_plan 84 = .ok (.iload_n 2, 1) := by decide +kernel
theorem dX8_plan_85 : decode cX8_plan 85 = .ok (.if_icmp .gt 24, 3) := by decide +kernel
theorem dX8_plan_88 : decode cX8_plan 88 = .ok (.aload_n 0, 1) := by decide +kernel
theorem dX8_plan_89 : decode cX8_plan 89 = .ok (.getfield 87, 3) := by decide +kernel
theorem dX8_plan_92 : decode cX8_plan 92 = .ok (.iload 6, 2) := by decide +kernel
theorem dX8_plan_94 : decode cX8_plan 94 = .ok (.iload_n 2, 1) := by decide +kernel
theorem dX8_plan_95 : decode cX8_plan 95 = .ok (.iload 7, 2) := by decide +kernel
theorem dX8_plan_97 : decode cX8_plan 97 = .ok (.invokestatic 285, 3) := by decide +kernel
theorem dX8_plan_100 : decode cX8_plan 100 = .ok (.invokevirtual 270, 3) := by decide +kernel
theorem dX8_plan_103 : decode cX8_plan 103 = .ok (.iinc 7 1, 3) := by decide +kernel
theorem dX8_plan_106 : decode cX8_plan 106 = .ok (.goto (-24), 3) := by decide +kernel
theorem dX8_plan_109 : decode cX8_plan 109 = .ok (.aload_n 0, 1) := by decide +kernel
theorem dX8_plan_110 : decode cX8_plan 110 = .ok (.aload_n 0, 1) := by decide +kernel
theorem dX8_plan_111 : decode cX8_plan 111 = .ok (.getfield 87, 3) := by decide +kernel
theorem dX8_plan_114 : decode cX8_plan 114 = .ok (.invokevirtual 274, 3) := by decide +kernel
theorem dX8_plan_117 : decode cX8_plan 117 = .ok (.istore 7, 2) := by decide +kernel
theorem dX8_plan_119 : decode cX8_plan 119 = .ok (.iload 7, 2) := by decide +kernel
theorem dX8_plan_121 : decode cX8_plan 121 = .ok (.iload 4, 2) := by decide +kernel
theorem dX8_plan_123 : decode cX8_plan 123 = .ok (.if_icmp .le 11, 3) := by decide +kernel
theorem dX8_plan_126 : decode cX8_plan 126 = .ok (.iload 7, 2) := by decide +kernel
theorem dX8_plan_128 : decode cX8_plan 128 = .ok (.istore 4, 2) := by decide +kernel
theorem dX8_plan_130 : decode cX8_plan 130 = .ok (.iload 6, 2) := by decide +kernel
theorem dX8_plan_132 : decode cX8_plan 132 = .ok (.istore 5, 2) := by decide +kernel
theorem dX8_plan_134 : decode cX8_plan 134 = .ok (.iinc 6 1, 3) := by decide +kernel
theorem dX8_plan_137 : decode cX8_plan 137 = .ok (.goto (-96), 3) := by decide +kernel
theorem dX8_plan_140 : decode cX8_plan 140 = .ok (.iload_n 3, 1) := by decide +kernel
theorem dX8_plan_141 : decode cX8_plan 141 = .ok (.ifCond .ne 8, 3) := by decide +kernel
theorem dX8_plan_144 : decode cX8_plan 144 = .ok (.iload 4, 2) := by decide +kernel
theorem dX8_plan_146 : decode cX8_plan 146 = .ok (.goto 10, 3) := by decide +kernel
theorem dX8_plan_149 : decode cX8_plan 149 = .ok (.iload 5, 2) := by decide +kernel
theorem dX8_plan_151 : decode cX8_plan 151 = .ok (.iload_n 2, 1) := by decide +kernel
theorem dX8_plan_152 : decode cX8_plan 152 = .ok (.iload_n 3, 1) := by decide +kernel
theorem dX8_plan_153 : decode cX8_plan 153 = .ok (.invokestatic 285, 3) := by decide +kernel
theorem dX8_plan_156 : decode cX8_plan 156 = .ok (.ireturn, 1) := by decide +kernel
theorem dX8_key_0 : decode cX8_key 0 = .ok (.iload_n 1, 1) := by decide +kernel
theorem dX8_key_1 : decode cX8_key 1 = .ok (.iconst 0, 1) := by decide +kernel
theorem dX8_key_2 : decode cX8_key 2 = .ok (.iconst 1, 1) := by decide +kernel
theorem dX8_key_3 : decode cX8_key 3 = .ok (.invokestatic 91, 3) := by decide +kernel
theorem dX8_key_6 : decode cX8_key 6 = .ok (.ifCond .ne 6, 3) := by decide +kernel
theorem dX8_key_9 : decode cX8_key 9 = .ok (.ldc 95, 2) := by decide +kernel
theorem dX8_key_11 : decode cX8_key 11 = .ok (.ireturn, 1) := by decide +kernel
theorem dX8_key_12 : decode cX8_key 12 = .ok (.iconst 0, 1) := by decide +kernel
theorem dX8_key_13 : decode cX8_key 13 = .ok (.istore_n 2, 1) := by decide +kernel
theorem dX8_key_14 : decode cX8_key 14 = .ok (.iconst (-1), 1) := by decide +kernel
theorem dX8_key_15 : decode cX8_key 15 = .ok (.istore_n 3, 1) := by decide +kernel
theorem dX8_key_16 : decode cX8_key 16 = .ok (.iconst 0, 1) := by decide +kernel
theorem dX8_key_17 : decode cX8_key 17 = .ok (.istore 4, 2) := by decide +kernel
theorem dX8_key_19 : decode cX8_key 19 = .ok (.iload 4, 2) := by decide +kernel
theorem dX8_key_21 : decode cX8_key 21 = .ok (.bipush 24, 2) := by decide +kernel
theorem dX8_key_23 : decode cX8_key 23 = .ok (.if_icmp .gt 53, 3) := by decide +kernel
theorem dX8_key_26 : decode cX8_key 26 = .ok (.iload 4, 2) := by decide +kernel
theorem dX8_key_28 : decode cX8_key 28 = .ok (.iconst 2, 1) := by decide +kernel
theorem dX8_key_29 : decode cX8_key 29 = .ok (.irem, 1) := by decide +kernel
theorem dX8_key_30 : decode cX8_key 30 = .ok (.iconst 1, 1) := by decide +kernel
theorem dX8_key_31 : decode cX8_key 31 = .ok (.if_icmp .ne 13, 3) := by decide +kernel
theorem dX8_key_34 : decode cX8_key 34 = .ok (.iload 4, 2) := by decide +kernel
theorem dX8_key_36 : decode cX8_key 36 = .ok (.iconst 1, 1) := by decide +kernel
theorem dX8_key_37 : decode cX8_key 37 = .ok (.iadd, 1) := by decide +kernel
theorem dX8_key_38 : decode cX8_key 38 = .ok (.ineg, 1) := by decide +kernel
theorem dX8_key_39 : decode cX8_key 39 = .ok (.iconst 2, 1) := by decide +kernel
theorem dX8_key_40 : decode cX8_key 40 = .ok (.idiv, 1) := by decide +kernel
theorem dX8_key_41 : decode cX8_key 41 = .ok (.goto 7, 3) := by decide +kernel
theorem dX8_key_44 : decode cX8_key 44 = .ok (.iload 4, 2) := by decide +kernel
theorem dX8_key_46 : decode cX8_key 46 = .ok (.iconst 2, 1) := by decide +kernel
theorem dX8_key_47 : decode cX8_key 47 = .ok (.idiv, 1) := by decide +kernel
theorem dX8_key_48 : decode cX8_key 48 = .ok (.istore 5, 2) := by decide +kernel
theorem dX8_key_50 : decode cX8_key 50 = .ok (.aload_n 0, 1) := by decide +kernel
theorem dX8_key_51 : decode cX8_key 51 = .ok (.iload 5, 2) := by decide +kernel
theorem dX8_key_53 : decode cX8_key 53 = .ok (.invokevirtual 289, 3) := by decide +kernel
theorem dX8_key_56 : decode cX8_key 56 = .ok (.istore 6, 2) := by decide +kernel
theorem dX8_key_58 : decode cX8_key 58 = .ok (.iload 6, 2) := by decide +kernel
theorem dX8_key_60 : decode cX8_key 60 = .ok (.iload_n 3, 1) := by decide +kernel
theorem dX8_key_61 : decode cX8_key 61 = .ok (.if_icmp .le 9, 3) := by decide +kernel
theorem dX8_key_64 : decode cX8_key 64 = .ok (.iload 6, 2) := by decide +kernel
theorem dX8_key_66 : decode cX8_key 66 = .ok (.istore_n 3, 1) := by decide +kernel
theorem dX8_key_67 : decode cX8_key 67 = .ok (.iload 5, 2) := by decide +kernel
theorem dX8_key_69 : decode cX8_key 69 = .ok (.istore_n 2, 1) := by decide +kernel
theorem dX8_key_70 : decode cX8_key 70 = .ok (.iinc 4 1, 3) := by decide +kernel
theorem dX8_key_73 : decode cX8_key 73 = .ok (.goto (-54), 3) := by decide +kernel
theorem dX8_key_76 : decode cX8_key 76 = .ok (.iload_n 1, 1) := by decide +kernel
theorem dX8_key_77 : decode cX8_key 77 = .ok (.ifCond .ne 7, 3) := by decide +kernel
theorem dX8_key_80 : decode cX8_key 80 = .ok (.iload_n 2, 1) := by decide +kernel
theorem dX8_key_81 : decode cX8_key 81 = .ok (.goto 4, 3) := by decide +kernel
theorem dX8_key_84 : decode cX8_key 84 = .ok (.iload_n 3, 1) := by decide +kernel
theorem dX8_key_85 : decode cX8_key 85 = .ok (.ireturn, 1) := by decide +kernel
theorem dX8_age_0 : decode cX8_age 0 = .ok (.aload_n 0, 1) := by decide +kernel
theorem dX8_age_1 : decode cX8_age 1 = .ok (.iload_n 1, 1) := by decide +kernel
theorem dX8_age_2 : decode cX8_age 2 = .ok (.invokevirtual 165, 3) := by decide +kernel
theorem dX8_age_5 : decode cX8_age 5 = .ok (.ifCond .ne 6, 3) := by decide +kernel
theorem dX8_age_8 : decode cX8_age 8 = .ok (.ldc 158, 2) := by decide +kernel
theorem dX8_age_10 : decode cX8_age 10 = .ok (.ireturn, 1) := by decide +kernel
theorem dX8_age_11 : decode cX8_age 11 = .ok (.aload_n 0, 1) := by decide +kernel
theorem dX8_age_12 : decode cX8_age 12 = .ok (.getfield 87, 3) := by decide +kernel
theorem dX8_age_15 : decode cX8_age 15 = .ok (.aload_n 0, 1) := by decide +kernel
theorem dX8_age_16 : decode cX8_age 16 = .ok (.getfield 47, 3) := by decide +kernel
theorem dX8_age_19 : decode cX8_age 19 = .ok (.getfield 131, 3) := by decide +kernel
theorem dX8_age_22 : decode cX8_age 22 = .ok (.iload_n 1, 1) := by decide +kernel
theorem dX8_age_23 : decode cX8_age 23 = .ok (.aaload, 1) := by decide +kernel
theorem dX8_age_24 : decode cX8_age 24 = .ok (.invokevirtual 281, 3) := by decide +kernel
theorem dX8_age_27 : decode cX8_age 27 = .ok (.iconst 0, 1) := by decide +kernel
theorem dX8_age_28 : decode cX8_age 28 = .ok (.istore_n 2, 1) := by decide +kernel
theorem dX8_age_29 : decode cX8_age 29 = .ok (.iload_n 2, 1) := by decide +kernel
theorem dX8_age_30 : decode cX8_age 30 = .ok (.bipush 30, 2) := by decide +kernel
theorem dX8_age_32 : decode cX8_age 32 = .ok (.if_icmp .gt 66, 3) := by decide +kernel
theorem dX8_age_35 : decode cX8_age 35 = .ok (.aload_n 0, 1) := by decide +kernel
theorem dX8_age_36 : decode cX8_age 36 = .ok (.aload_n 0, 1) := by decide +kernel
theorem dX8_age_37 : decode cX8_age 37 = .ok (.getfield 80, 3) := by decide +kernel
theorem dX8_age_40 : decode cX8_age 40 = .ok (.aload_n 0, 1) := by decide +kernel
theorem dX8_age_41 : decode cX8_age 41 = .ok (.getfield 87, 3) := by decide +kernel
theorem dX8_age_44 : decode cX8_age 44 = .ok (.iconst 3, 1) := by decide +kernel
theorem dX8_age_45 : decode cX8_age 45 = .ok (.invokevirtual 208, 3) := by decide +kernel
theorem dX8_age_48 : decode cX8_age 48 = .ok (.aload_n 0, 1) := by decide +kernel
theorem dX8_age_49 : decode cX8_age 49 = .ok (.getfield 80, 3) := by decide +kernel
theorem dX8_age_52 : decode cX8_age 52 = .ok (.aload_n 0, 1) := by decide +kernel
theorem dX8_age_53 : decode cX8_age 53 = .ok (.getfield 19, 3) := by decide +kernel
theorem dX8_age_56 : decode cX8_age 56 = .ok (.invokevirtual 228, 3) := by decide +kernel
theorem dX8_age_59 : decode cX8_age 59 = .ok (.istore_n 3, 1) := by decide +kernel
theorem dX8_age_60 : decode cX8_age 60 = .ok (.iload_n 3, 1) := by decide +kernel
theorem dX8_age_61 : decode cX8_age 61 = .ok (.iconst 3, 1) := by decide +kernel
theorem dX8_age_62 : decode cX8_age 62 = .ok (.iand, 1) := by decide +kernel
theorem dX8_age_63 : decode cX8_age 63 = .ok (.ifCond .ne 5, 3) := by decide +kernel
theorem dX8_age_66 : decode cX8_age 66 = .ok (.iload_n 2, 1) := by decide +kernel
theorem dX8_age_67 : decode cX8_age 67 = .ok (.ireturn, 1) := by decide +kernel
theorem dX8_age_68 : decode cX8_age 68 = .ok (.iconst 0, 1) := by decide +kernel
theorem dX8_age_69 : decode cX8_age 69 = .ok (.istore 4, 2) := by decide +kernel
theorem dX8_age_71 : decode cX8_age 71 = .ok (.iload 4, 2) := by decide +kernel
theorem dX8_age_73 : decode cX8_age 73 = .ok (.iconst 4, 1) := by decide +kernel
theorem dX8_age_74 : decode cX8_age 74 = .ok (.if_icmp .ge 18, 3) := by decide +kernel
theorem dX8_age_77 : decode cX8_age 77 = .ok (.aload_n 0, 1) := by decide +kernel
theorem dX8_age_78 : decode cX8_age 78 = .ok (.getfield 87, 3) := by decide +kernel
theorem dX8_age_81 : decode cX8_age 81 = .ok (.iload 4, 2) := by decide +kernel
theorem dX8_age_83 : decode cX8_age 83 = .ok (.invokevirtual 270, 3) := by decide +kernel
theorem dX8_age_86 : decode cX8_age 86 = .ok (.iinc 4 1, 3) := by decide +kernel
theorem dX8_age_89 : decode cX8_age 89 = .ok (.goto (-18), 3) := by decide +kernel
theorem dX8_age_92 : decode cX8_age 92 = .ok (.iinc 2 1, 3) := by decide +kernel
theorem dX8_age_95 : decode cX8_age 95 = .ok (.goto (-66), 3) := by decide +kernel
theorem dX8_age_98 : decode cX8_age 98 = .ok (.iconst (-1), 1) := by decide +kernel
theorem dX8_age_99 : decode cX8_age 99 = .ok (.ireturn, 1) := by decide +kernel
theorem dX8_passes_0 : decode cX8_passes 0 = .ok (.iload_n 1, 1) := by decide +kernel
theorem dX8_passes_1 : decode cX8_passes 1 = .ok (.iconst 1, 1) := by decide +kernel
theorem dX8_passes_2 : decode cX8_passes 2 = .ok (.bipush 16, 2) := by decide +kernel
theorem dX8_passes_4 : decode cX8_passes 4 = .ok (.invokestatic 91, 3) := by decide +kernel
theorem dX8_passes_7 : decode cX8_passes 7 = .ok (.ifCond .eq 12, 3) := by decide +kernel
theorem dX8_passes_10 : decode cX8_passes 10 = .ok (.iload_n 2, 1) := by decide +kernel
theorem dX8_passes_11 : decode cX8_passes 11 = .ok (.iconst 0, 1) := by decide +kernel
theorem dX8_passes_12 : decode cX8_passes 12 = .ok (.iconst 1, 1) := by decide +kernel
theorem dX8_passes_13 : decode cX8_passes 13 = .ok (.invokestatic 91, 3) := by decide +kernel
theorem dX8_passes_16 : decode cX8_passes 16 = .ok (.ifCond .ne 6, 3) := by decide +kernel
theorem dX8_passes_19 : decode cX8_passes 19 = .ok (.ldc 95, 2) := by decide +kernel
theorem dX8_passes_21 : decode cX8_passes 21 = .ok (.ireturn, 1) := by decide +kernel
theorem dX8_passes_22 : decode cX8_passes 22 = .ok (.iconst 0, 1) := by decide +kernel
theorem dX8_passes_23 : decode cX8_passes 23 = .ok (.istore_n 3, 1) := by decide +kernel
theorem dX8_passes_24 : decode cX8_passes 24 = .ok (.iload_n 3, 1) := by decide +kernel
theorem dX8_passes_25 : decode cX8_passes 25 = .ok (.bipush 30, 2) := by decide +kernel
theorem dX8_passes_27 : decode cX8_passes 27 = .ok (.if_icmp .ge 23, 3) := by decide +kernel
theorem dX8_passes_30 : decode cX8_passes 30 = .ok (.iconst 1, 1) := by decide +kernel
theorem dX8_passes_31 : decode cX8_passes 31 = .ok (.iload_n 3, 1) := by decide +kernel
theorem dX8_passes_32 : decode cX8_passes 32 = .ok (.ishl, 1) := by decide +kernel
theorem dX8_passes_33 : decode cX8_passes 33 = .ok (.iload_n 1, 1) := by decide +kernel
theorem dX8_passes_34 : decode cX8_passes 34 = .ok (.iload_n 2, 1) := by decide +kernel
theorem dX8_passes_35 : decode cX8_passes 35 = .ok (.iload_n 3, 1) := by decide +kernel
theorem dX8_passes_36 : decode cX8_passes 36 = .ok (.invokestatic 292, 3) := by decide +kernel
theorem dX8_passes_39 : decode cX8_passes 39 = .ok (.if_icmp .lt 5, 3) := by decide +kernel
theorem dX8_passes_42 : decode cX8_passes 42 = .ok (.iload_n 3, 1) := by decide +kernel
theorem dX8_passes_43 : decode cX8_passes 43 = .ok (.ireturn, 1) := by decide +kernel
theorem dX8_passes_44 : decode cX8_passes 44 = .ok (.iinc 3 1, 3) := by decide +kernel
theorem dX8_passes_47 : decode cX8_passes 47 = .ok (.goto (-23), 3) := by decide +kernel
theorem dX8_passes_50 : decode cX8_passes 50 = .ok (.iconst (-1), 1) := by decide +kernel
theorem dX8_passes_51 : decode cX8_passes 51 = .ok (.ireturn, 1) := by decide +kernel
theorem dX8_pairs_0 : decode cX8_pairs 0 = .ok (.iload_n 1, 1) := by decide +kernel
theorem dX8_pairs_1 : decode cX8_pairs 1 = .ok (.iconst 2, 1) := by decide +kernel
theorem dX8_pairs_2 : decode cX8_pairs 2 = .ok (.bipush 16, 2) := by decide +kernel
theorem dX8_pairs_4 : decode cX8_pairs 4 = .ok (.invokestatic 91, 3) := by decide +kernel
theorem dX8_pairs_7 : decode cX8_pairs 7 = .ok (.ifCond .ne 6, 3) := by decide +kernel
theorem dX8_pairs_10 : decode cX8_pairs 10 = .ok (.ldc 95, 2) := by decide +kernel
theorem dX8_pairs_12 : decode cX8_pairs 12 = .ok (.ireturn, 1) := by decide +kernel
theorem dX8_pairs_13 : decode cX8_pairs 13 = .ok (.iload_n 1, 1) := by decide +kernel
theorem dX8_pairs_14 : decode cX8_pairs 14 = .ok (.iload_n 1, 1) := by decide +kernel
theorem dX8_pairs_15 : decode cX8_pairs 15 = .ok (.iconst 1, 1) := by decide +kernel
theorem dX8_pairs_16 : decode cX8_pairs 16 = .ok (.isub, 1) := by decide +kernel
theorem dX8_pairs_17 : decode cX8_pairs 17 = .ok (.imul, 1) := by decide +kernel
theorem dX8_pairs_18 : decode cX8_pairs 18 = .ok (.iconst 2, 1) := by decide +kernel
theorem dX8_pairs_19 : decode cX8_pairs 19 = .ok (.idiv, 1) := by decide +kernel
theorem dX8_pairs_20 : decode cX8_pairs 20 = .ok (.istore_n 2, 1) := by decide +kernel
theorem dX8_pairs_21 : decode cX8_pairs 21 = .ok (.iconst 0, 1) := by decide +kernel
theorem dX8_pairs_22 : decode cX8_pairs 22 = .ok (.istore_n 3, 1) := by decide +kernel
theorem dX8_pairs_23 : decode cX8_pairs 23 = .ok (.iload_n 3, 1) := by decide +kernel
theorem dX8_pairs_24 : decode cX8_pairs 24 = .ok (.bipush 30, 2) := by decide +kernel
theorem dX8_pairs_26 : decode cX8_pairs 26 = .ok (.if_icmp .ge 18, 3) := by decide +kernel
theorem dX8_pairs_29 : decode cX8_pairs 29 = .ok (.iconst 1, 1) := by decide +kernel
theorem dX8_pairs_30 : decode cX8_pairs 30 = .ok (.iload_n 3, 1) := by decide +kernel
theorem dX8_pairs_31 : decode cX8_pairs 31 = .ok (.ishl, 1) := by decide +kernel
theorem dX8_pairs_32 : decode cX8_pairs 32 = .ok (.iload_n 2, 1) := by decide +kernel
theorem dX8_pairs_33 : decode cX8_pairs 33 = .ok (.if_icmp .lt 5, 3) := by decide +kernel
theorem dX8_pairs_36 : decode cX8_pairs 36 = .ok (.iload_n 3, 1) := by decide +kernel
theorem dX8_pairs_37 : decode cX8_pairs 37 = .ok (.ireturn, 1) := by decide +kernel
theorem dX8_pairs_38 : decode cX8_pairs 38 = .ok (.iinc 3 1, 3) := by decide +kernel
theorem dX8_pairs_41 : decode cX8_pairs 41 = .ok (.goto (-18), 3) := by decide +kernel
theorem dX8_pairs_44 : decode cX8_pairs 44 = .ok (.iconst (-1), 1) := by decide +kernel
theorem dX8_pairs_45 : decode cX8_pairs 45 = .ok (.ireturn, 1) := by decide +kernel
theorem dX8_join_0 : decode cX8_join 0 = .ok (.iload_n 1, 1) := by decide +kernel
theorem dX8_join_1 : decode cX8_join 1 = .ok (.invokestatic 295, 3) := by decide +kernel
theorem dX8_join_4 : decode cX8_join 4 = .ok (.ifCond .ne 6, 3) := by decide +kernel
theorem dX8_join_7 : decode cX8_join 7 = .ok (.ldc 95, 2) := by decide +kernel
theorem dX8_join_9 : decode cX8_join 9 = .ok (.ireturn, 1) := by decide +kernel
theorem dX8_join_10 : decode cX8_join 10 = .ok (.aload_n 0, 1) := by decide +kernel
theorem dX8_join_11 : decode cX8_join 11 = .ok (.getfield 65, 3) := by decide +kernel
theorem dX8_join_14 : decode cX8_join 14 = .ok (.getfield 151, 3) := by decide +kernel
theorem dX8_join_17 : decode cX8_join 17 = .ok (.bipush 8, 2) := by decide +kernel
theorem dX8_join_19 : decode cX8_join 19 = .ok (.if_icmp .lt 6, 3) := by decide +kernel
theorem dX8_join_22 : decode cX8_join 22 = .ok (.ldc 99, 2) := by decide +kernel
theorem dX8_join_24 : decode cX8_join 24 = .ok (.ireturn, 1) := by decide +kernel
theorem dX8_join_25 : decode cX8_join 25 = .ok (.aload_n 0, 1) := by decide +kernel
theorem dX8_join_26 : decode cX8_join 26 = .ok (.getfield 65, 3) := by decide +kernel
theorem dX8_join_29 : decode cX8_join 29 = .ok (.iload_n 1, 1) := by decide +kernel
theorem dX8_join_30 : decode cX8_join 30 = .ok (.invokevirtual 298, 3) := by decide +kernel
theorem dX8_join_33 : decode cX8_join 33 = .ok (.aload_n 0, 1) := by decide +kernel
theorem dX8_join_34 : decode cX8_join 34 = .ok (.getfield 65, 3) := by decide +kernel
theorem dX8_join_37 : decode cX8_join 37 = .ok (.getfield 151, 3) := by decide +kernel
theorem dX8_join_40 : decode cX8_join 40 = .ok (.ireturn, 1) := by decide +kernel
theorem dX8_part_0 : decode cX8_part 0 = .ok (.aload_n 0, 1) := by decide +kernel
theorem dX8_part_1 : decode cX8_part 1 = .ok (.getfield 65, 3) := by decide +kernel
theorem dX8_part_4 : decode cX8_part 4 = .ok (.getfield 151, 3) := by decide +kernel
theorem dX8_part_7 : decode cX8_part 7 = .ok (.istore_n 1, 1) := by decide +kernel
theorem dX8_part_8 : decode cX8_part 8 = .ok (.aload_n 0, 1) := by decide +kernel
theorem dX8_part_9 : decode cX8_part 9 = .ok (.getfield 65, 3) := by decide +kernel
theorem dX8_part_12 : decode cX8_part 12 = .ok (.iconst 0, 1) := by decide +kernel
theorem dX8_part_13 : decode cX8_part 13 = .ok (.putfield 151, 3) := by decide +kernel
theorem dX8_part_16 : decode cX8_part 16 = .ok (.iload_n 1, 1) := by decide +kernel
theorem dX8_part_17 : decode cX8_part 17 = .ok (.ireturn, 1) := by decide +kernel
theorem dX8_ends_0 : decode cX8_ends 0 = .ok (.iload_n 1, 1) := by decide +kernel
theorem dX8_ends_1 : decode cX8_ends 1 = .ok (.iconst 0, 1) := by decide +kernel
theorem dX8_ends_2 : decode cX8_ends 2 = .ok (.iconst 1, 1) := by decide +kernel
theorem dX8_ends_3 : decode cX8_ends 3 = .ok (.invokestatic 91, 3) := by decide +kernel
theorem dX8_ends_6 : decode cX8_ends 6 = .ok (.ifCond .ne 6, 3) := by decide +kernel
theorem dX8_ends_9 : decode cX8_ends 9 = .ok (.ldc 95, 2) := by decide +kernel
theorem dX8_ends_11 : decode cX8_ends 11 = .ok (.ireturn, 1) := by decide +kernel
theorem dX8_ends_12 : decode cX8_ends 12 = .ok (.aload_n 0, 1) := by decide +kernel
theorem dX8_ends_13 : decode cX8_ends 13 = .ok (.getfield 65, 3) := by decide +kernel
theorem dX8_ends_16 : decode cX8_ends 16 = .ok (.getfield 151, 3) := by decide +kernel
theorem dX8_ends_19 : decode cX8_ends 19 = .ok (.ifCond .ne 6, 3) := by decide +kernel
theorem dX8_ends_22 : decode cX8_ends 22 = .ok (.ldc 219, 2) := by decide +kernel
theorem dX8_ends_24 : decode cX8_ends 24 = .ok (.ireturn, 1) := by decide +kernel
theorem dX8_ends_25 : decode cX8_ends 25 = .ok (.aload_n 0, 1) := by decide +kernel
theorem dX8_ends_26 : decode cX8_ends 26 = .ok (.getfield 65, 3) := by decide +kernel
theorem dX8_ends_29 : decode cX8_ends 29 = .ok (.invokevirtual 300, 3) := by decide +kernel
theorem dX8_ends_32 : decode cX8_ends 32 = .ok (.iload_n 1, 1) := by decide +kernel
theorem dX8_ends_33 : decode cX8_ends 33 = .ok (.ifCond .ne 13, 3) := by decide +kernel
theorem dX8_ends_36 : decode cX8_ends 36 = .ok (.aload_n 0, 1) := by decide +kernel
theorem dX8_ends_37 : decode cX8_ends 37 = .ok (.getfield 65, 3) := by decide +kernel
theorem dX8_ends_40 : decode cX8_ends 40 = .ok (.getfield 303, 3) := by decide +kernel
theorem dX8_ends_43 : decode cX8_ends 43 = .ok (.goto 10, 3) := by decide +kernel
theorem dX8_ends_46 : decode cX8_ends 46 = .ok (.aload_n 0, 1) := by decide +kernel
theorem dX8_ends_47 : decode cX8_ends 47 = .ok (.getfield 65, 3) := by decide +kernel
theorem dX8_ends_50 : decode cX8_ends 50 = .ok (.getfield 306, 3) := by decide +kernel
theorem dX8_ends_53 : decode cX8_ends 53 = .ok (.ireturn, 1) := by decide +kernel
theorem dX8_round_0 : decode cX8_round 0 = .ok (.iload_n 1, 1) := by decide +kernel
theorem dX8_round_1 : decode cX8_round 1 = .ok (.invokestatic 295, 3) := by decide +kernel
theorem dX8_round_4 : decode cX8_round 4 = .ok (.ifCond .eq 30, 3) := by decide +kernel
theorem dX8_round_7 : decode cX8_round 7 = .ok (.iload_n 2, 1) := by decide +kernel
theorem dX8_round_8 : decode cX8_round 8 = .ok (.invokestatic 295, 3) := by decide +kernel
theorem dX8_round_11 : decode cX8_round 11 = .ok (.ifCond .eq 23, 3) := by decide +kernel
theorem dX8_round_14 : decode cX8_round 14 = .ok (.iload_n 3, 1) := by decide +kernel
theorem dX8_round_15 : decode cX8_round 15 = .ok (.iconst 0, 1) := by decide +kernel
theorem dX8_round_16 : decode cX8_round 16 = .ok (.bipush 99, 2) := by decide +kernel
theorem dX8_round_18 : decode cX8_round 18 = .ok (.invokestatic 91, 3) := by decide +kernel
theorem dX8_round_21 : decode cX8_round 21 = .ok (.ifCond .eq 13, 3) := by decide +kernel
theorem dX8_round_24 : decode cX8_round 24 = .ok (.iload 4, 2) := by decide +kernel
theorem dX8_round_26 : decode cX8_round 26 = .ok (.iconst 0, 1) := by decide +kernel
theorem dX8_round_27 : decode cX8_round 27 = .ok (.iconst 1, 1) := by decide +kernel
theorem dX8_round_28 : decode cX8_round 28 = .ok (.invokestatic 91, 3) := by decide +kernel
theorem dX8_round_31 : decode cX8_round 31 = .ok (.ifCond .ne 6, 3) := by decide +kernel
theorem dX8_round_34 : decode cX8_round 34 = .ok (.ldc 95, 2) := by decide +kernel
theorem dX8_round_36 : decode cX8_round 36 = .ok (.ireturn, 1) := by decide +kernel
theorem dX8_round_37 : decode cX8_round 37 = .ok (.iload_n 1, 1) := by decide +kernel
theorem dX8_round_38 : decode cX8_round 38 = .ok (.istore 5, 2) := by decide +kernel
theorem dX8_round_40 : decode cX8_round 40 = .ok (.iload_n 2, 1) := by decide +kernel
theorem dX8_round_41 : decode cX8_round 41 = .ok (.istore 6, 2) := by decide +kernel
theorem dX8_round_43 : decode cX8_round 43 = .ok (.iconst 0, 1) := by decide +kernel
theorem dX8_round_44 : decode cX8_round 44 = .ok (.istore 7, 2) := by decide +kernel
theorem dX8_round_46 : decode cX8_round 46 = .ok (.iload 7, 2) := by decide +kernel
theorem dX8_round_48 : decode cX8_round 48 = .ok (.iload_n 3, 1) := by decide +kernel
theorem dX8_round_49 : decode cX8_round 49 = .ok (.if_icmp .ge 32, 3) := by decide +kernel
theorem dX8_round_52 : decode cX8_round 52 = .ok (.iload 6, 2) := by decide +kernel
theorem dX8_round_54 : decode cX8_round 54 = .ok (.iload 5, 2) := by decide +kernel
theorem dX8_round_56 : decode cX8_round 56 = .ok (.isub, 1) := by decide +kernel
theorem dX8_round_57 : decode cX8_round 57 = .ok (.iconst 3, 1) := by decide +kernel
theorem dX8_round_58 : decode cX8_round 58 = .ok (.idiv, 1) := by decide +kernel
theorem dX8_round_59 : decode cX8_round 59 = .ok (.istore 8, 2) := by decide +kernel
theorem dX8_round_61 : decode cX8_round 61 = .ok (.iload 5, 2) := by decide +kernel
theorem dX8_round_63 : decode cX8_round 63 = .ok (.iload 8, 2) := by decide +kernel
theorem dX8_round_65 : decode cX8_round 65 = .ok (.iadd, 1) := by decide +kernel
theorem dX8_round_66 : decode cX8_round 66 = .ok (.istore 5, 2) := by decide +kernel
theorem dX8_round_68 : decode cX8_round 68 = .ok (.iload 6, 2) := by decide +kernel
theorem dX8_round_70 : decode cX8_round 70 = .ok (.iload 8, 2) := by decide +kernel
theorem dX8_round_72 : decode cX8_round 72 = .ok (.isub, 1) := by decide +kernel
theorem dX8_round_73 : decode cX8_round 73 = .ok (.istore 6, 2) := by decide +kernel
theorem dX8_round_75 : decode cX8_round 75 = .ok (.iinc 7 1, 3) := by decide +kernel
theorem dX8_round_78 : decode cX8_round 78 = .ok (.goto (-32), 3) := by decide +kernel
theorem dX8_round_81 : decode cX8_round 81 = .ok (.iload 4, 2) := by decide +kernel
theorem dX8_round_83 : decode cX8_round 83 = .ok (.ifCond .ne 8, 3) := by decide +kernel
theorem dX8_round_86 : decode cX8_round 86 = .ok (.iload 5, 2) := by decide +kernel
theorem dX8_round_88 : decode cX8_round 88 = .ok (.goto 5, 3) := by decide +kernel
theorem dX8_round_91 : decode cX8_round 91 = .ok (.iload 6, 2) := by decide +kernel
theorem dX8_round_93 : decode cX8_round 93 = .ok (.ireturn, 1) := by decide +kernel
theorem dX8_write_0 : decode cX8_write 0 = .ok (.iload_n 1, 1) := by decide +kernel
theorem dX8_write_1 : decode cX8_write 1 = .ok (.iconst 0, 1) := by decide +kernel
theorem dX8_write_2 : decode cX8_write 2 = .ok (.sipush 9999, 3) := by decide +kernel
theorem dX8_write_5 : decode cX8_write 5 = .ok (.invokestatic 91, 3) := by decide +kernel
theorem dX8_write_8 : decode cX8_write 8 = .ok (.ifCond .ne 6, 3) := by decide +kernel
theorem dX8_write_11 : decode cX8_write 11 = .ok (.ldc 95, 2) := by decide +kernel
theorem dX8_write_13 : decode cX8_write 13 = .ok (.ireturn, 1) := by decide +kernel
theorem dX8_write_14 : decode cX8_write 14 = .ok (.aload_n 0, 1) := by decide +kernel
theorem dX8_write_15 : decode cX8_write 15 = .ok (.getfield 73, 3) := by decide +kernel
theorem dX8_write_18 : decode cX8_write 18 = .ok (.bipush 40, 2) := by decide +kernel
theorem dX8_write_20 : decode cX8_write 20 = .ok (.if_icmp .lt 6, 3) := by decide +kernel
theorem dX8_write_23 : decode cX8_write 23 = .ok (.ldc 99, 2) := by decide +kernel
theorem dX8_write_25 : decode cX8_write 25 = .ok (.ireturn, 1) := by decide +kernel
theorem dX8_write_26 : decode cX8_write 26 = .ok (.aload_n 0, 1) := by decide +kernel
theorem dX8_write_27 : decode cX8_write 27 = .ok (.getfield 69, 3) := by decide +kernel
theorem dX8_write_30 : decode cX8_write 30 = .ok (.aload_n 0, 1) := by decide +kernel
theorem dX8_write_31 : decode cX8_write 31 = .ok (.getfield 73, 3) := by decide +kernel
theorem dX8_write_34 : decode cX8_write 34 = .ok (.iload_n 1, 1) := by decide +kernel
theorem dX8_write_35 : decode cX8_write 35 = .ok (.iastore, 1) := by decide +kernel
theorem dX8_write_36 : decode cX8_write 36 = .ok (.aload_n 0, 1) := by decide +kernel
theorem dX8_write_37 : decode cX8_write 37 = .ok (.dup, 1) := by decide +kernel
theorem dX8_write_38 : decode cX8_write 38 = .ok (.getfield 73, 3) := by decide +kernel
theorem dX8_write_41 : decode cX8_write 41 = .ok (.iconst 1, 1) := by decide +kernel
theorem dX8_write_42 : decode cX8_write 42 = .ok (.iadd, 1) := by decide +kernel
theorem dX8_write_43 : decode cX8_write 43 = .ok (.putfield 73, 3) := by decide +kernel
theorem dX8_write_46 : decode cX8_write 46 = .ok (.aload_n 0, 1) := by decide +kernel
theorem dX8_write_47 : decode cX8_write 47 = .ok (.getfield 73, 3) := by decide +kernel
theorem dX8_write_50 : decode cX8_write 50 = .ok (.ireturn, 1) := by decide +kernel
theorem dX8_tear_0 : decode cX8_tear 0 = .ok (.aload_n 0, 1) := by decide +kernel
theorem dX8_tear_1 : decode cX8_tear 1 = .ok (.getfield 73, 3) := by decide +kernel
theorem dX8_tear_4 : decode cX8_tear 4 = .ok (.istore_n 1, 1) := by decide +kernel
theorem dX8_tear_5 : decode cX8_tear 5 = .ok (.aload_n 0, 1) := by decide +kernel
theorem dX8_tear_6 : decode cX8_tear 6 = .ok (.iconst 0, 1) := by decide +kernel
theorem dX8_tear_7 : decode cX8_tear 7 = .ok (.putfield 73, 3) := by decide +kernel
theorem dX8_tear_10 : decode cX8_tear 10 = .ok (.iload_n 1, 1) := by decide +kernel
theorem dX8_tear_11 : decode cX8_tear 11 = .ok (.ireturn, 1) := by decide +kernel
theorem dX8_judge_0 : decode cX8_judge 0 = .ok (.aload_n 0, 1) := by decide +kernel
theorem dX8_judge_1 : decode cX8_judge 1 = .ok (.invokevirtual 216, 3) := by decide +kernel
theorem dX8_judge_4 : decode cX8_judge 4 = .ok (.ifCond .ne 6, 3) := by decide +kernel
theorem dX8_judge_7 : decode cX8_judge 7 = .ok (.ldc 219, 2) := by decide +kernel
theorem dX8_judge_9 : decode cX8_judge 9 = .ok (.ireturn, 1) := by decide +kernel
theorem dX8_judge_10 : decode cX8_judge 10 = .ok (.iconst 0, 1) := by decide +kernel
theorem dX8_judge_11 : decode cX8_judge 11 = .ok (.istore_n 1, 1) := by decide +kernel
theorem dX8_judge_12 : decode cX8_judge 12 = .ok (.iload_n 1, 1) := by decide +kernel
theorem dX8_judge_13 : decode cX8_judge 13 = .ok (.aload_n 0, 1) := by decide +kernel
theorem dX8_judge_14 : decode cX8_judge 14 = .ok (.getfield 73, 3) := by decide +kernel
theorem dX8_judge_17 : decode cX8_judge 17 = .ok (.if_icmp .ge 42, 3) := by decide +kernel
theorem dX8_judge_20 : decode cX8_judge 20 = .ok (.aload_n 0, 1) := by decide +kernel
theorem dX8_judge_21 : decode cX8_judge 21 = .ok (.getfield 47, 3) := by decide +kernel
theorem dX8_judge_24 : decode cX8_judge 24 = .ok (.getfield 145, 3) := by decide +kernel
theorem dX8_judge_27 : decode cX8_judge 27 = .ok (.iload_n 1, 1) := by decide +kernel
theorem dX8_judge_28 : decode cX8_judge 28 = .ok (.invokevirtual 220, 3) := by decide +kernel
theorem dX8_judge_31 : decode cX8_judge 31 = .ok (.istore_n 2, 1) := by decide +kernel
theorem dX8_judge_32 : decode cX8_judge 32 = .ok (.iload_n 2, 1) := by decide +kernel
theorem dX8_judge_33 : decode cX8_judge 33 = .ok (.iconst (-1), 1) := by decide +kernel
theorem dX8_judge_34 : decode cX8_judge 34 = .ok (.if_icmp .eq 17, 3) := by decide +kernel
theorem dX8_judge_37 : decode cX8_judge 37 = .ok (.aload_n 0, 1) := by decide +kernel
theorem dX8_judge_38 : decode cX8_judge 38 = .ok (.getfield 69, 3) := by decide +kernel
theorem dX8_judge_41 : decode cX8_judge 41 = .ok (.iload_n 1, 1) := by decide +kernel
theorem dX8_judge_42 : decode cX8_judge 42 = .ok (.iaload, 1) := by decide +kernel
theorem dX8_judge_43 : decode cX8_judge 43 = .ok (.iload_n 2, 1) := by decide +kernel
theorem dX8_judge_44 : decode cX8_judge 44 = .ok (.isub, 1) := by decide +kernel
theorem dX8_judge_45 : decode cX8_judge 45 = .ok (.invokestatic 309, 3) := by decide +kernel
theorem dX8_judge_48 : decode cX8_judge 48 = .ok (.ifCond .ne 5, 3) := by decide +kernel
theorem dX8_judge_51 : decode cX8_judge 51 = .ok (.iload_n 1, 1) := by decide +kernel
theorem dX8_judge_52 : decode cX8_judge 52 = .ok (.ireturn, 1) := by decide +kernel
theorem dX8_judge_53 : decode cX8_judge 53 = .ok (.iinc 1 1, 3) := by decide +kernel
theorem dX8_judge_56 : decode cX8_judge 56 = .ok (.goto (-44), 3) := by decide +kernel
theorem dX8_judge_59 : decode cX8_judge 59 = .ok (.iconst (-1), 1) := by decide +kernel
theorem dX8_judge_60 : decode cX8_judge 60 = .ok (.ireturn, 1) := by decide +kernel
theorem dX8_seed_0 : decode cX8_seed 0 = .ok (.iload_n 1, 1) := by decide +kernel
theorem dX8_seed_1 : decode cX8_seed 1 = .ok (.ifCond .ge 6, 3) := by decide +kernel
theorem dX8_seed_4 : decode cX8_seed 4 = .ok (.ldc 95, 2) := by decide +kernel
theorem dX8_seed_6 : decode cX8_seed 6 = .ok (.ireturn, 1) := by decide +kernel
theorem dX8_seed_7 : decode cX8_seed 7 = .ok (.aload_n 0, 1) := by decide +kernel
theorem dX8_seed_8 : decode cX8_seed 8 = .ok (.getfield 47, 3) := by decide +kernel
theorem dX8_seed_11 : decode cX8_seed 11 = .ok (.getfield 312, 3) := by decide +kernel
theorem dX8_seed_14 : decode cX8_seed 14 = .ok (.istore_n 2, 1) := by decide +kernel
theorem dX8_seed_15 : decode cX8_seed 15 = .ok (.aload_n 0, 1) := by decide +kernel
theorem dX8_seed_16 : decode cX8_seed 16 = .ok (.getfield 47, 3) := by decide +kernel
theorem dX8_seed_19 : decode cX8_seed 19 = .ok (.iload_n 1, 1) := by decide +kernel
theorem dX8_seed_20 : decode cX8_seed 20 = .ok (.putfield 312, 3) := by decide +kernel
theorem dX8_seed_23 : decode cX8_seed 23 = .ok (.iload_n 2, 1) := by decide +kernel
theorem dX8_seed_24 : decode cX8_seed 24 = .ok (.ireturn, 1) := by decide +kernel
theorem dX8_keep_0 : decode cX8_keep 0 = .ok (.iload_n 1, 1) := by decide +kernel
theorem dX8_keep_1 : decode cX8_keep 1 = .ok (.iconst 0, 1) := by decide +kernel
theorem dX8_keep_2 : decode cX8_keep 2 = .ok (.iconst 1, 1) := by decide +kernel
theorem dX8_keep_3 : decode cX8_keep 3 = .ok (.invokestatic 91, 3) := by decide +kernel
theorem dX8_keep_6 : decode cX8_keep 6 = .ok (.ifCond .ne 6, 3) := by decide +kernel
theorem dX8_keep_9 : decode cX8_keep 9 = .ok (.ldc 158, 2) := by decide +kernel
theorem dX8_keep_11 : decode cX8_keep 11 = .ok (.ireturn, 1) := by decide +kernel
theorem dX8_keep_12 : decode cX8_keep 12 = .ok (.aload_n 0, 1) := by decide +kernel
theorem dX8_keep_13 : decode cX8_keep 13 = .ok (.getfield 51, 3) := by decide +kernel
theorem dX8_keep_16 : decode cX8_keep 16 = .ok (.iload_n 1, 1) := by decide +kernel
theorem dX8_keep_17 : decode cX8_keep 17 = .ok (.aaload, 1) := by decide +kernel
theorem dX8_keep_18 : decode cX8_keep 18 = .ok (.aload_n 0, 1) := by decide +kernel
theorem dX8_keep_19 : decode cX8_keep 19 = .ok (.getfield 47, 3) := by decide +kernel
theorem dX8_keep_22 : decode cX8_keep 22 = .ok (.invokevirtual 315, 3) := by decide +kernel
theorem dX8_keep_25 : decode cX8_keep 25 = .ok (.aload_n 0, 1) := by decide +kernel
theorem dX8_keep_26 : decode cX8_keep 26 = .ok (.getfield 51, 3) := by decide +kernel
theorem dX8_keep_29 : decode cX8_keep 29 = .ok (.iload_n 1, 1) := by decide +kernel
