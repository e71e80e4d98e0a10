theorem dX9_next_110 : decode cX9_next 110 = .ok (.ireturn, 1) := by decide +kernel
theorem dX9_power_0 : decode cX9_power 0 = .ok (.iconst 1, 1) := by decide +kernel
theorem dX9_power_1 : decode cX9_power 1 = .ok (.istore_n 1, 1) := by decide +kernel
theorem dX9_power_2 : decode cX9_power 2 = .ok (.iconst 0, 1) := by decide +kernel
theorem dX9_power_3 : decode cX9_power 3 = .ok (.istore_n 2, 1) := by decide +kernel
theorem dX9_power_4 : decode cX9_power 4 = .ok (.iload_n 2, 1) := by decide +kernel
theorem dX9_power_5 : decode cX9_power 5 = .ok (.iload_n 0, 1) := by decide +kernel
theorem dX9_power_6 : decode cX9_power 6 = .ok (.if_icmp .ge 13, 3) := by decide +kernel
theorem dX9_power_9 : decode cX9_power 9 = .ok (.iload_n 1, 1) := by decide +kernel
theorem dX9_power_10 : decode cX9_power 10 = .ok (.iconst 3, 1) := by decide +kernel
theorem dX9_power_11 : decode cX9_power 11 = .ok (.imul, 1) := by decide +kernel
theorem dX9_power_12 : decode cX9_power 12 = .ok (.istore_n 1, 1) := by decide +kernel
theorem dX9_power_13 : decode cX9_power 13 = .ok (.iinc 2 1, 3) := by decide +kernel
theorem dX9_power_16 : decode cX9_power 16 = .ok (.goto (-12), 3) := by decide +kernel
theorem dX9_power_19 : decode cX9_power 19 = .ok (.iload_n 1, 1) := by decide +kernel
theorem dX9_power_20 : decode cX9_power 20 = .ok (.ireturn, 1) := by decide +kernel
theorem dX9_leftOf_0 : decode cX9_leftOf 0 = .ok (.iconst 0, 1) := by decide +kernel
theorem dX9_leftOf_1 : decode cX9_leftOf 1 = .ok (.istore_n 3, 1) := by decide +kernel
theorem dX9_leftOf_2 : decode cX9_leftOf 2 = .ok (.iload_n 3, 1) := by decide +kernel
theorem dX9_leftOf_3 : decode cX9_leftOf 3 = .ok (.bipush 6, 2) := by decide +kernel
theorem dX9_leftOf_5 : decode cX9_leftOf 5 = .ok (.if_icmp .ge 23, 3) := by decide +kernel
theorem dX9_leftOf_8 : decode cX9_leftOf 8 = .ok (.aload_n 0, 1) := by decide +kernel
theorem dX9_leftOf_9 : decode cX9_leftOf 9 = .ok (.getfield 26, 3) := by decide +kernel
theorem dX9_leftOf_12 : decode cX9_leftOf 12 = .ok (.iload_n 3, 1) := by decide +kernel
theorem dX9_leftOf_13 : decode cX9_leftOf 13 = .ok (.iload_n 1, 1) := by decide +kernel
theorem dX9_leftOf_14 : decode cX9_leftOf 14 = .ok (.iload_n 3, 1) := by decide +kernel
theorem dX9_leftOf_15 : decode cX9_leftOf 15 = .ok (.invokestatic 312, 3) := by decide +kernel
theorem dX9_leftOf_18 : decode cX9_leftOf 18 = .ok (.idiv, 1) := by decide +kernel
theorem dX9_leftOf_19 : decode cX9_leftOf 19 = .ok (.iconst 3, 1) := by decide +kernel
theorem dX9_leftOf_20 : decode cX9_leftOf 20 = .ok (.irem, 1) := by decide +kernel
theorem dX9_leftOf_21 : decode cX9_leftOf 21 = .ok (.iastore, 1) := by decide +kernel
theorem dX9_leftOf_22 : decode cX9_leftOf 22 = .ok (.iinc 3 1, 3) := by decide +kernel
theorem dX9_leftOf_25 : decode cX9_leftOf 25 = .ok (.goto (-23), 3) := by decide +kernel
theorem dX9_leftOf_28 : decode cX9_leftOf 28 = .ok (.aload_n 0, 1) := by decide +kernel
theorem dX9_leftOf_29 : decode cX9_leftOf 29 = .ok (.invokevirtual 296, 3) := by decide +kernel
theorem dX9_leftOf_32 : decode cX9_leftOf 32 = .ok (.lstore_n 3, 1) := by decide +kernel
theorem dX9_leftOf_33 : decode cX9_leftOf 33 = .ok (.aload_n 0, 1) := by decide +kernel
theorem dX9_leftOf_34 : decode cX9_leftOf 34 = .ok (.invokevirtual 306, 3) := by decide +kernel
theorem dX9_leftOf_37 : decode cX9_leftOf 37 = .ok (.ldc2_w 315, 3) := by decide +kernel
theorem dX9_leftOf_40 : decode cX9_leftOf 40 = .ok (.lmul, 1) := by decide +kernel
theorem dX9_leftOf_41 : decode cX9_leftOf 41 = .ok (.iload_n 2, 1) := by decide +kernel
theorem dX9_leftOf_42 : decode cX9_leftOf 42 = .ok (.i2l, 1) := by decide +kernel
theorem dX9_leftOf_43 : decode cX9_leftOf 43 = .ok (.lload_n 3, 1) := by decide +kernel
theorem dX9_leftOf_44 : decode cX9_leftOf 44 = .ok (.lmul, 1) := by decide +kernel
theorem dX9_leftOf_45 : decode cX9_leftOf 45 = .ok (.lcmp, 1) := by decide +kernel
theorem dX9_leftOf_46 : decode cX9_leftOf 46 = .ok (.ifCond .lt 5, 3) := by decide +kernel
theorem dX9_leftOf_49 : decode cX9_leftOf 49 = .ok (.iconst 0, 1) := by decide +kernel
theorem dX9_leftOf_50 : decode cX9_leftOf 50 = .ok (.ireturn, 1) := by decide +kernel
theorem dX9_leftOf_51 : decode cX9_leftOf 51 = .ok (.ldc_w 317, 3) := by decide +kernel
theorem dX9_leftOf_54 : decode cX9_leftOf 54 = .ok (.istore 5, 2) := by decide +kernel
theorem dX9_leftOf_56 : decode cX9_leftOf 56 = .ok (.iconst 0, 1) := by decide +kernel
theorem dX9_leftOf_57 : decode cX9_leftOf 57 = .ok (.istore 6, 2) := by decide +kernel
theorem dX9_leftOf_59 : decode cX9_leftOf 59 = .ok (.iload 6, 2) := by decide +kernel
theorem dX9_leftOf_61 : decode cX9_leftOf 61 = .ok (.aload_n 0, 1) := by decide +kernel
theorem dX9_leftOf_62 : decode cX9_leftOf 62 = .ok (.getfield 94, 3) := by decide +kernel
theorem dX9_leftOf_65 : decode cX9_leftOf 65 = .ok (.if_icmp .ge 91, 3) := by decide +kernel
theorem dX9_leftOf_68 : decode cX9_leftOf 68 = .ok (.aload_n 0, 1) := by decide +kernel
theorem dX9_leftOf_69 : decode cX9_leftOf 69 = .ok (.getfield 26, 3) := by decide +kernel
theorem dX9_leftOf_72 : decode cX9_leftOf 72 = .ok (.iload 6, 2) := by decide +kernel
theorem dX9_leftOf_74 : decode cX9_leftOf 74 = .ok (.iaload, 1) := by decide +kernel
theorem dX9_leftOf_75 : decode cX9_leftOf 75 = .ok (.ifCond .ne 75, 3) := by decide +kernel
theorem dX9_leftOf_78 : decode cX9_leftOf 78 = .ok (.aload_n 0, 1) := by decide +kernel
theorem dX9_leftOf_79 : decode cX9_leftOf 79 = .ok (.getfield 54, 3) := by decide +kernel
theorem dX9_leftOf_82 : decode cX9_leftOf 82 = .ok (.iload_n 1, 1) := by decide +kernel
theorem dX9_leftOf_83 : decode cX9_leftOf 83 = .ok (.iload 6, 2) := by decide +kernel
theorem dX9_leftOf_85 : decode cX9_leftOf 85 = .ok (.invokestatic 312, 3) := by decide +kernel
theorem dX9_leftOf_88 : decode cX9_leftOf 88 = .ok (.iadd, 1) := by decide +kernel
theorem dX9_leftOf_89 : decode cX9_leftOf 89 = .ok (.iaload, 1) := by decide +kernel
theorem dX9_leftOf_90 : decode cX9_leftOf 90 = .ok (.istore 7, 2) := by decide +kernel
theorem dX9_leftOf_92 : decode cX9_leftOf 92 = .ok (.aload_n 0, 1) := by decide +kernel
theorem dX9_leftOf_93 : decode cX9_leftOf 93 = .ok (.getfield 54, 3) := by decide +kernel
theorem dX9_leftOf_96 : decode cX9_leftOf 96 = .ok (.iload_n 1, 1) := by decide +kernel
theorem dX9_leftOf_97 : decode cX9_leftOf 97 = .ok (.iconst 2, 1) := by decide +kernel
theorem dX9_leftOf_98 : decode cX9_leftOf 98 = .ok (.iload 6, 2) := by decide +kernel
theorem dX9_leftOf_100 : decode cX9_leftOf 100 = .ok (.invokestatic 312, 3) := by decide +kernel
theorem dX9_leftOf_103 : decode cX9_leftOf 103 = .ok (.imul, 1) := by decide +kernel
theorem dX9_leftOf_104 : decode cX9_leftOf 104 = .ok (.iadd, 1) := by decide +kernel
theorem dX9_leftOf_105 : decode cX9_leftOf 105 = .ok (.iaload, 1) := by decide +kernel
theorem dX9_leftOf_106 : decode cX9_leftOf 106 = .ok (.istore 8, 2) := by decide +kernel
theorem dX9_leftOf_108 : decode cX9_leftOf 108 = .ok (.aload_n 0, 1) := by decide +kernel
theorem dX9_leftOf_109 : decode cX9_leftOf 109 = .ok (.getfield 20, 3) := by decide +kernel
theorem dX9_leftOf_112 : decode cX9_leftOf 112 = .ok (.iconst 4, 1) := by decide +kernel
theorem dX9_leftOf_113 : decode cX9_leftOf 113 = .ok (.iload 6, 2) := by decide +kernel
theorem dX9_leftOf_115 : decode cX9_leftOf 115 = .ok (.imul, 1) := by decide +kernel
theorem dX9_leftOf_116 : decode cX9_leftOf 116 = .ok (.iaload, 1) := by decide +kernel
theorem dX9_leftOf_117 : decode cX9_leftOf 117 = .ok (.iload 7, 2) := by decide +kernel
theorem dX9_leftOf_119 : decode cX9_leftOf 119 = .ok (.iload 8, 2) := by decide +kernel
theorem dX9_leftOf_121 : decode cX9_leftOf 121 = .ok (.if_icmp .le 8, 3) := by decide +kernel
theorem dX9_leftOf_124 : decode cX9_leftOf 124 = .ok (.iload 7, 2) := by decide +kernel
theorem dX9_leftOf_126 : decode cX9_leftOf 126 = .ok (.goto 5, 3) := by decide +kernel
theorem dX9_leftOf_129 : decode cX9_leftOf 129 = .ok (.iload 8, 2) := by decide +kernel
theorem dX9_leftOf_131 : decode cX9_leftOf 131 = .ok (.iadd, 1) := by decide +kernel
theorem dX9_leftOf_132 : decode cX9_leftOf 132 = .ok (.istore 9, 2) := by decide +kernel
theorem dX9_leftOf_134 : decode cX9_leftOf 134 = .ok (.iload 9, 2) := by decide +kernel
theorem dX9_leftOf_136 : decode cX9_leftOf 136 = .ok (.iload 5, 2) := by decide +kernel
theorem dX9_leftOf_138 : decode cX9_leftOf 138 = .ok (.if_icmp .ge 8, 3) := by decide +kernel
theorem dX9_leftOf_141 : decode cX9_leftOf 141 = .ok (.iload 9, 2) := by decide +kernel
theorem dX9_leftOf_143 : decode cX9_leftOf 143 = .ok (.goto 5, 3) := by decide +kernel
theorem dX9_leftOf_146 : decode cX9_leftOf 146 = .ok (.iload 5, 2) := by decide +kernel
theorem dX9_leftOf_148 : decode cX9_leftOf 148 = .ok (.istore 5, 2) := by decide +kernel
theorem dX9_leftOf_150 : decode cX9_leftOf 150 = .ok (.iinc 6 1, 3) := by decide +kernel
theorem dX9_leftOf_153 : decode cX9_leftOf 153 = .ok (.goto (-94), 3) := by decide +kernel
theorem dX9_leftOf_156 : decode cX9_leftOf 156 = .ok (.iload 5, 2) := by decide +kernel
theorem dX9_leftOf_158 : decode cX9_leftOf 158 = .ok (.ireturn, 1) := by decide +kernel
theorem dX9_left_0 : decode cX9_left 0 = .ok (.iload_n 1, 1) := by decide +kernel
theorem dX9_left_1 : decode cX9_left 1 = .ok (.i2l, 1) := by decide +kernel
theorem dX9_left_2 : decode cX9_left 2 = .ok (.lconst 1, 1) := by decide +kernel
theorem dX9_left_3 : decode cX9_left 3 = .ok (.ldc2_w 315, 3) := by decide +kernel
theorem dX9_left_6 : decode cX9_left 6 = .ok (.invokestatic 90, 3) := by decide +kernel
theorem dX9_left_9 : decode cX9_left 9 = .ok (.ifCond .ne 6, 3) := by decide +kernel
theorem dX9_left_12 : decode cX9_left 12 = .ok (.ldc 99, 2) := by decide +kernel
theorem dX9_left_14 : decode cX9_left 14 = .ok (.ireturn, 1) := by decide +kernel
theorem dX9_left_15 : decode cX9_left 15 = .ok (.iconst 0, 1) := by decide +kernel
theorem dX9_left_16 : decode cX9_left 16 = .ok (.istore_n 2, 1) := by decide +kernel
theorem dX9_left_17 : decode cX9_left 17 = .ok (.iconst 0, 1) := by decide +kernel
theorem dX9_left_18 : decode cX9_left 18 = .ok (.istore_n 3, 1) := by decide +kernel
theorem dX9_left_19 : decode cX9_left 19 = .ok (.iload_n 3, 1) := by decide +kernel
theorem dX9_left_20 : decode cX9_left 20 = .ok (.bipush 6, 2) := by decide +kernel
theorem dX9_left_22 : decode cX9_left 22 = .ok (.if_icmp .ge 35, 3) := by decide +kernel
theorem dX9_left_25 : decode cX9_left 25 = .ok (.aload_n 0, 1) := by decide +kernel
theorem dX9_left_26 : decode cX9_left 26 = .ok (.getfield 57, 3) := by decide +kernel
theorem dX9_left_29 : decode cX9_left 29 = .ok (.iload_n 3, 1) := by decide +kernel
theorem dX9_left_30 : decode cX9_left 30 = .ok (.aload_n 0, 1) := by decide +kernel
theorem dX9_left_31 : decode cX9_left 31 = .ok (.getfield 26, 3) := by decide +kernel
theorem dX9_left_34 : decode cX9_left 34 = .ok (.iload_n 3, 1) := by decide +kernel
theorem dX9_left_35 : decode cX9_left 35 = .ok (.iaload, 1) := by decide +kernel
theorem dX9_left_36 : decode cX9_left 36 = .ok (.iastore, 1) := by decide +kernel
theorem dX9_left_37 : decode cX9_left 37 = .ok (.iload_n 2, 1) := by decide +kernel
theorem dX9_left_38 : decode cX9_left 38 = .ok (.aload_n 0, 1) := by decide +kernel
theorem dX9_left_39 : decode cX9_left 39 = .ok (.getfield 26, 3) := by decide +kernel
theorem dX9_left_42 : decode cX9_left 42 = .ok (.iload_n 3, 1) := by decide +kernel
theorem dX9_left_43 : decode cX9_left 43 = .ok (.iaload, 1) := by decide +kernel
theorem dX9_left_44 : decode cX9_left 44 = .ok (.iload_n 3, 1) := by decide +kernel
theorem dX9_left_45 : decode cX9_left 45 = .ok (.invokestatic 312, 3) := by decide +kernel
theorem dX9_left_48 : decode cX9_left 48 = .ok (.imul, 1) := by decide +kernel
theorem dX9_left_49 : decode cX9_left 49 = .ok (.iadd, 1) := by decide +kernel
theorem dX9_left_50 : decode cX9_left 50 = .ok (.istore_n 2, 1) := by decide +kernel
theorem dX9_left_51 : decode cX9_left 51 = .ok (.iinc 3 1, 3) := by decide +kernel
theorem dX9_left_54 : decode cX9_left 54 = .ok (.goto (-35), 3) := by decide +kernel
theorem dX9_left_57 : decode cX9_left 57 = .ok (.aload_n 0, 1) := by decide +kernel
theorem dX9_left_58 : decode cX9_left 58 = .ok (.getfield 94, 3) := by decide +kernel
theorem dX9_left_61 : decode cX9_left 61 = .ok (.invokestatic 312, 3) := by decide +kernel
theorem dX9_left_64 : decode cX9_left 64 = .ok (.iconst 1, 1) := by decide +kernel
theorem dX9_left_65 : decode cX9_left 65 = .ok (.isub, 1) := by decide +kernel
theorem dX9_left_66 : decode cX9_left 66 = .ok (.istore_n 3, 1) := by decide +kernel
theorem dX9_left_67 : decode cX9_left 67 = .ok (.iload_n 3, 1) := by decide +kernel
theorem dX9_left_68 : decode cX9_left 68 = .ok (.ifCond .lt 21, 3) := by decide +kernel
theorem dX9_left_71 : decode cX9_left 71 = .ok (.aload_n 0, 1) := by decide +kernel
theorem dX9_left_72 : decode cX9_left 72 = .ok (.getfield 54, 3) := by decide +kernel
theorem dX9_left_75 : decode cX9_left 75 = .ok (.iload_n 3, 1) := by decide +kernel
theorem dX9_left_76 : decode cX9_left 76 = .ok (.aload_n 0, 1) := by decide +kernel
theorem dX9_left_77 : decode cX9_left 77 = .ok (.iload_n 3, 1) := by decide +kernel
theorem dX9_left_78 : decode cX9_left 78 = .ok (.iload_n 1, 1) := by decide +kernel
theorem dX9_left_79 : decode cX9_left 79 = .ok (.invokevirtual 318, 3) := by decide +kernel
theorem dX9_left_82 : decode cX9_left 82 = .ok (.iastore, 1) := by decide +kernel
theorem dX9_left_83 : decode cX9_left 83 = .ok (.iinc 3 (-1), 3) := by decide +kernel
theorem dX9_left_86 : decode cX9_left 86 = .ok (.goto (-19), 3) := by decide +kernel
theorem dX9_left_89 : decode cX9_left 89 = .ok (.iconst 0, 1) := by decide +kernel
theorem dX9_left_90 : decode cX9_left 90 = .ok (.istore_n 3, 1) := by decide +kernel
theorem dX9_left_91 : decode cX9_left 91 = .ok (.iload_n 3, 1) := by decide +kernel
theorem dX9_left_92 : decode cX9_left 92 = .ok (.bipush 6, 2) := by decide +kernel
theorem dX9_left_94 : decode cX9_left 94 = .ok (.if_icmp .ge 21, 3) := by decide +kernel
theorem dX9_left_97 : decode cX9_left 97 = .ok (.aload_n 0, 1) := by decide +kernel
theorem dX9_left_98 : decode cX9_left 98 = .ok (.getfield 26, 3) := by decide +kernel
theorem dX9_left_101 : decode cX9_left 101 = .ok (.iload_n 3, 1) := by decide +kernel
theorem dX9_left_102 : decode cX9_left 102 = .ok (.aload_n 0, 1) := by decide +kernel
theorem dX9_left_103 : decode cX9_left 103 = .ok (.getfield 57, 3) := by decide +kernel
theorem dX9_left_106 : decode cX9_left 106 = .ok (.iload_n 3, 1) := by decide +kernel
theorem dX9_left_107 : decode cX9_left 107 = .ok (.iaload, 1) := by decide +kernel
theorem dX9_left_108 : decode cX9_left 108 = .ok (.iastore, 1) := by decide +kernel
theorem dX9_left_109 : decode cX9_left 109 = .ok (.iinc 3 1, 3) := by decide +kernel
theorem dX9_left_112 : decode cX9_left 112 = .ok (.goto (-21), 3) := by decide +kernel
theorem dX9_left_115 : decode cX9_left 115 = .ok (.aload_n 0, 1) := by decide +kernel
theorem dX9_left_116 : decode cX9_left 116 = .ok (.getfield 54, 3) := by decide +kernel
theorem dX9_left_119 : decode cX9_left 119 = .ok (.iload_n 2, 1) := by decide +kernel
theorem dX9_left_120 : decode cX9_left 120 = .ok (.iaload, 1) := by decide +kernel
theorem dX9_left_121 : decode cX9_left 121 = .ok (.ldc_w 317, 3) := by decide +kernel
theorem dX9_left_124 : decode cX9_left 124 = .ok (.if_icmp .lt 7, 3) := by decide +kernel
theorem dX9_left_127 : decode cX9_left 127 = .ok (.iconst (-1), 1) := by decide +kernel
theorem dX9_left_128 : decode cX9_left 128 = .ok (.goto 9, 3) := by decide +kernel
theorem dX9_left_131 : decode cX9_left 131 = .ok (.aload_n 0, 1) := by decide +kernel
theorem dX9_left_132 : decode cX9_left 132 = .ok (.getfield 54, 3) := by decide +kernel
theorem dX9_left_135 : decode cX9_left 135 = .ok (.iload_n 2, 1) := by decide +kernel
theorem dX9_left_136 : decode cX9_left 136 = .ok (.iaload, 1) := by decide +kernel
theorem dX9_left_137 : decode cX9_left 137 = .ok (.ireturn, 1) := by decide +kernel
theorem dX9_alike_0 : decode cX9_alike 0 = .ok (.iload_n 1, 1) := by decide +kernel
theorem dX9_alike_1 : decode cX9_alike 1 = .ok (.i2l, 1) := by decide +kernel
theorem dX9_alike_2 : decode cX9_alike 2 = .ok (.lconst 0, 1) := by decide +kernel
theorem dX9_alike_3 : decode cX9_alike 3 = .ok (.ldc2_w 282, 3) := by decide +kernel
theorem dX9_alike_6 : decode cX9_alike 6 = .ok (.invokestatic 90, 3) := by decide +kernel
theorem dX9_alike_9 : decode cX9_alike 9 = .ok (.ifCond .ne 6, 3) := by decide +kernel
theorem dX9_alike_12 : decode cX9_alike 12 = .ok (.ldc 216, 2) := by decide +kernel
theorem dX9_alike_14 : decode cX9_alike 14 = .ok (.ireturn, 1) := by decide +kernel
theorem dX9_alike_15 : decode cX9_alike 15 = .ok (.iconst 0, 1) := by decide +kernel
theorem dX9_alike_16 : decode cX9_alike 16 = .ok (.istore_n 2, 1) := by decide +kernel
theorem dX9_alike_17 : decode cX9_alike 17 = .ok (.iconst 0, 1) := by decide +kernel
theorem dX9_alike_18 : decode cX9_alike 18 = .ok (.istore_n 3, 1) := by decide +kernel
theorem dX9_alike_19 : decode cX9_alike 19 = .ok (.iload_n 3, 1) := by decide +kernel
theorem dX9_alike_20 : decode cX9_alike 20 = .ok (.bipush 16, 2) := by decide +kernel
theorem dX9_alike_22 : decode cX9_alike 22 = .ok (.if_icmp .ge 74, 3) := by decide +kernel
theorem dX9_alike_25 : decode cX9_alike 25 = .ok (.iconst 1, 1) := by decide +kernel
theorem dX9_alike_26 : decode cX9_alike 26 = .ok (.istore 4, 2) := by decide +kernel
theorem dX9_alike_28 : decode cX9_alike 28 = .ok (.iconst 0, 1) := by decide +kernel
theorem dX9_alike_29 : decode cX9_alike 29 = .ok (.istore 5, 2) := by decide +kernel
theorem dX9_alike_31 : decode cX9_alike 31 = .ok (.iload 5, 2) := by decide +kernel
theorem dX9_alike_33 : decode cX9_alike 33 = .ok (.aload_n 0, 1) := by decide +kernel
theorem dX9_alike_34 : decode cX9_alike 34 = .ok (.getfield 94, 3) := by decide +kernel
theorem dX9_alike_37 : decode cX9_alike 37 = .ok (.if_icmp .ge 38, 3) := by decide +kernel
theorem dX9_alike_40 : decode cX9_alike 40 = .ok (.iload 4, 2) := by decide +kernel
theorem dX9_alike_42 : decode cX9_alike 42 = .ok (.ifCond .eq 24, 3) := by decide +kernel
theorem dX9_alike_45 : decode cX9_alike 45 = .ok (.aload_n 0, 1) := by decide +kernel
theorem dX9_alike_46 : decode cX9_alike 46 = .ok (.iload 5, 2) := by decide +kernel
theorem dX9_alike_48 : decode cX9_alike 48 = .ok (.iload_n 1, 1) := by decide +kernel
theorem dX9_alike_49 : decode cX9_alike 49 = .ok (.invokevirtual 289, 3) := by decide +kernel
theorem dX9_alike_52 : decode cX9_alike 52 = .ok (.aload_n 0, 1) := by decide +kernel
theorem dX9_alike_53 : decode cX9_alike 53 = .ok (.iload 5, 2) := by decide +kernel
theorem dX9_alike_55 : decode cX9_alike 55 = .ok (.iload_n 3, 1) := by decide +kernel
theorem dX9_alike_56 : decode cX9_alike 56 = .ok (.invokevirtual 289, 3) := by decide +kernel
theorem dX9_alike_59 : decode cX9_alike 59 = .ok (.if_icmp .ne 7, 3) := by decide +kernel
theorem dX9_alike_62 : decode cX9_alike 62 = .ok (.iconst 1, 1) := by decide +kernel
theorem dX9_alike_63 : decode cX9_alike 63 = .ok (.goto 4, 3) := by decide +kernel
theorem dX9_alike_66 : decode cX9_alike 66 = .ok (.iconst 0, 1) := by decide +kernel
theorem dX9_alike_67 : decode cX9_alike 67 = .ok (.istore 4, 2) := by decide +kernel
theorem dX9_alike_69 : decode cX9_alike 69 = .ok (.iinc 5 1, 3) := by decide +kernel
theorem dX9_alike_72 : decode cX9_alike 72 = .ok (.goto (-41), 3) := by decide +kernel
theorem dX9_alike_75 : decode cX9_alike 75 = .ok (.iload_n 2, 1) := by decide +kernel
theorem dX9_alike_76 : decode cX9_alike 76 = .ok (.iload 4, 2) := by decide +kernel
theorem dX9_alike_78 : decode cX9_alike 78 = .ok (.ifCond .eq 9, 3) := by decide +kernel
theorem dX9_alike_81 : decode cX9_alike 81 = .ok (.iconst 1, 1) := by decide +kernel
theorem dX9_alike_82 : decode cX9_alike 82 = .ok (.iload_n 3, 1) := by decide +kernel
theorem dX9_alike_83 : decode cX9_alike 83 = .ok (.ishl, 1) := by decide +kernel
theorem dX9_alike_84 : decode cX9_alike 84 = .ok (.goto 4, 3) := by decide +kernel
theorem dX9_alike_87 : decode cX9_alike 87 = .ok (.iconst 0, 1) := by decide +kernel
theorem dX9_alike_88 : decode cX9_alike 88 = .ok (.ior, 1) := by decide +kernel
theorem dX9_alike_89 : decode cX9_alike 89 = .ok (.istore_n 2, 1) := by decide +kernel
theorem dX9_alike_90 : decode cX9_alike 90 = .ok (.iinc 3 1, 3) := by decide +kernel
theorem dX9_alike_93 : decode cX9_alike 93 = .ok (.goto (-74), 3) := by decide +kernel
theorem dX9_alike_96 : decode cX9_alike 96 = .ok (.iload_n 2, 1) := by decide +kernel
theorem dX9_alike_97 : decode cX9_alike 97 = .ok (.ireturn, 1) := by decide +kernel
theorem dX9_teach_0 : decode cX9_teach 0 = .ok (.bipush 8, 2) := by decide +kernel
theorem dX9_teach_2 : decode cX9_teach 2 = .ok (.iload_n 1, 1) := by decide +kernel
theorem dX9_teach_3 : decode cX9_teach 3 = .ok (.imul, 1) := by decide +kernel
theorem dX9_teach_4 : decode cX9_teach 4 = .ok (.istore_n 3, 1) := by decide +kernel
theorem dX9_teach_5 : decode cX9_teach 5 = .ok (.iload_n 2, 1) := by decide +kernel
theorem dX9_teach_6 : decode cX9_teach 6 = .ok (.ifCond .ne 60, 3) := by decide +kernel
theorem dX9_teach_9 : decode cX9_teach 9 = .ok (.aload_n 0, 1) := by decide +kernel
theorem dX9_teach_10 : decode cX9_teach 10 = .ok (.getfield 17, 3) := by decide +kernel
theorem dX9_teach_13 : decode cX9_teach 13 = .ok (.iload_n 3, 1) := by decide +kernel
theorem dX9_teach_14 : decode cX9_teach 14 = .ok (.iconst 1, 1) := by decide +kernel
theorem dX9_teach_15 : decode cX9_teach 15 = .ok (.iadd, 1) := by decide +kernel
theorem dX9_teach_16 : decode cX9_teach 16 = .ok (.dup2, 1) := by decide +kernel
theorem dX9_teach_17 : decode cX9_teach 17 = .ok (.iaload, 1) := by decide +kernel
theorem dX9_teach_18 : decode cX9_teach 18 = .ok (.aload_n 0, 1) := by decide +kernel
theorem dX9_teach_19 : decode cX9_teach 19 = .ok (.getfield 17, 3) := by decide +kernel
theorem dX9_teach_22 : decode cX9_teach 22 = .ok (.iload_n 3, 1) := by decide +kernel
theorem dX9_teach_23 : decode cX9_teach 23 = .ok (.iconst 1, 1) := by decide +kernel
theorem dX9_teach_24 : decode cX9_teach 24 = .ok (.iadd, 1) := by decide +kernel
theorem dX9_teach_25 : decode cX9_teach 25 = .ok (.iaload, 1) := by decide +kernel
theorem dX9_teach_26 : decode cX9_teach 26 = .ok (.iconst 4, 1) := by decide +kernel
theorem dX9_teach_27 : decode cX9_teach 27 = .ok (.idiv, 1) := by decide +kernel
theorem dX9_teach_28 : decode cX9_teach 28 = .ok (.iconst 1, 1) := by decide +kernel
theorem dX9_teach_29 : decode cX9_teach 29 = .ok (.iadd, 1) := by decide +kernel
theorem dX9_teach_30 : decode cX9_teach 30 = .ok (.isub, 1) := by decide +kernel
theorem dX9_teach_31 : decode cX9_teach 31 = .ok (.iastore, 1) := by decide +kernel
theorem dX9_teach_32 : decode cX9_teach 32 = .ok (.aload_n 0, 1) := by decide +kernel
theorem dX9_teach_33 : decode cX9_teach 33 = .ok (.getfield 17, 3) := by decide +kernel
theorem dX9_teach_36 : decode cX9_teach 36 = .ok (.iload_n 3, 1) := by decide +kernel
theorem dX9_teach_37 : decode cX9_teach 37 = .ok (.iconst 1, 1) := by decide +kernel
theorem dX9_teach_38 : decode cX9_teach 38 = .ok (.iadd, 1) := by decide +kernel
theorem dX9_teach_39 : decode cX9_teach 39 = .ok (.aload_n 0, 1) := by decide +kernel
theorem dX9_teach_40 : decode cX9_teach 40 = .ok (.getfield 17, 3) := by decide +kernel
theorem dX9_teach_43 : decode cX9_teach 43 = .ok (.iload_n 3, 1) := by decide +kernel
theorem dX9_teach_44 : decode cX9_teach 44 = .ok (.iconst 1, 1) := by decide +kernel
theorem dX9_teach_45 : decode cX9_teach 45 = .ok (.iadd, 1) := by decide +kernel
theorem dX9_teach_46 : decode cX9_teach 46 = .ok (.iaload, 1) := by decide +kernel
theorem dX9_teach_47 : decode cX9_teach 47 = .ok (.ifCond .ge 7, 3) := by decide +kernel
theorem dX9_teach_50 : decode cX9_teach 50 = .ok (.iconst 0, 1) := by decide +kernel
theorem dX9_teach_51 : decode cX9_teach 51 = .ok (.goto 11, 3) := by decide +kernel
theorem dX9_teach_54 : decode cX9_teach 54 = .ok (.aload_n 0, 1) := by decide +kernel
theorem dX9_teach_55 : decode cX9_teach 55 = .ok (.getfield 17, 3) := by decide +kernel
theorem dX9_teach_58 : decode cX9_teach 58 = .ok (.iload_n 3, 1) := by decide +kernel
theorem dX9_teach_59 : decode cX9_teach 59 = .ok (.iconst 1, 1) := by decide +kernel
theorem dX9_teach_60 : decode cX9_teach 60 = .ok (.iadd, 1) := by decide +kernel
theorem dX9_teach_61 : decode cX9_teach 61 = .ok (.iaload, 1) := by decide +kernel
theorem dX9_teach_62 : decode cX9_teach 62 = .ok (.iastore, 1) := by decide +kernel
theorem dX9_teach_63 : decode cX9_teach 63 = .ok (.goto 157, 3) := by decide +kernel
theorem dX9_teach_66 : decode cX9_teach 66 = .ok (.iload_n 2, 1) := by decide +kernel
theorem dX9_teach_67 : decode cX9_teach 67 = .ok (.iconst 1, 1) := by decide +kernel
theorem dX9_teach_68 : decode cX9_teach 68 = .ok (.if_icmp .ne 48, 3) := by decide +kernel
theorem dX9_teach_71 : decode cX9_teach 71 = .ok (.aload_n 0, 1) := by decide +kernel
theorem dX9_teach_72 : decode cX9_teach 72 = .ok (.getfield 17, 3) := by decide +kernel
theorem dX9_teach_75 : decode cX9_teach 75 = .ok (.iload_n 3, 1) := by decide +kernel
theorem dX9_teach_76 : decode cX9_teach 76 = .ok (.iconst 2, 1) := by decide +kernel
theorem dX9_teach_77 : decode cX9_teach 77 = .ok (.iadd, 1) := by decide +kernel
theorem dX9_teach_78 : decode cX9_teach 78 = .ok (.dup2, 1) := by decide +kernel
theorem dX9_teach_79 : decode cX9_teach 79 = .ok (.iaload, 1) := by decide +kernel
theorem dX9_teach_80 : decode cX9_teach 80 = .ok (.aload_n 0, 1) := by decide +kernel
theorem dX9_teach_81 : decode cX9_teach 81 = .ok (.getfield 17, 3) := by decide +kernel
theorem dX9_teach_84 : decode cX9_teach 84 = .ok (.iload_n 3, 1) := by decide +kernel
theorem dX9_teach_85 : decode cX9_teach 85 = .ok (.iconst 2, 1) := by decide +kernel
theorem dX9_teach_86 : decode cX9_teach 86 = .ok (.iadd, 1) := by decide +kernel
theorem dX9_teach_87 : decode cX9_teach 87 = .ok (.iaload, 1) := by decide +kernel
theorem dX9_teach_88 : decode cX9_teach 88 = .ok (.iconst 3, 1) := by decide +kernel
theorem dX9_teach_89 : decode cX9_teach 89 = .ok (.idiv, 1) := by decide +kernel
theorem dX9_teach_90 : decode cX9_teach 90 = .ok (.isub, 1) := by decide +kernel
theorem dX9_teach_91 : decode cX9_teach 91 = .ok (.iastore, 1) := by decide +kernel
theorem dX9_teach_92 : decode cX9_teach 92 = .ok (.aload_n 0, 1) := by decide +kernel
theorem dX9_teach_93 : decode cX9_teach 93 = .ok (.getfield 17, 3) := by decide +kernel
theorem dX9_teach_96 : decode cX9_teach 96 = .ok (.iload_n 3, 1) := by decide +kernel
theorem dX9_teach_97 : decode cX9_teach 97 = .ok (.iconst 3, 1) := by decide +kernel
theorem dX9_teach_98 : decode cX9_teach 98 = .ok (.iadd, 1) := by decide +kernel
theorem dX9_teach_99 : decode cX9_teach 99 = .ok (.dup2, 1) := by decide +kernel
theorem dX9_teach_100 : decode cX9_teach 100 = .ok (.iaload, 1) := by decide +kernel
theorem dX9_teach_101 : decode cX9_teach 101 = .ok (.aload_n 0, 1) := by decide +kernel
theorem dX9_teach_102 : decode cX9_teach 102 = .ok (.getfield 17, 3) := by decide +kernel
theorem dX9_teach_105 : decode cX9_teach 105 = .ok (.iload_n 3, 1) := by decide +kernel
theorem dX9_teach_106 : decode cX9_teach 106 = .ok (.iconst 3, 1) := by decide +kernel
theorem dX9_teach_107 : decode cX9_teach 107 = .ok (.iadd, 1) := by decide +kernel
theorem dX9_teach_108 : decode cX9_teach 108 = .ok (.iaload, 1) := by decide +kernel
theorem dX9_teach_109 : decode cX9_teach 109 = .ok (.iconst 3, 1) := by decide +kernel
theorem dX9_teach_110 : decode cX9_teach 110 = .ok (.idiv, 1) := by decide +kernel
theorem dX9_teach_111 : decode cX9_teach 111 = .ok (.isub, 1) := by decide +kernel
theorem dX9_teach_112 : decode cX9_teach 112 = .ok (.iastore, 1) := by decide +kernel
theorem dX9_teach_113 : decode cX9_teach 113 = .ok (.goto 107, 3) := by decide +kernel
theorem dX9_teach_116 : decode cX9_teach 116 = .ok (.iload_n 2, 1) := by decide +kernel
theorem dX9_teach_117 : decode cX9_teach 117 = .ok (.iconst 2, 1) := by decide +kernel
theorem dX9_teach_118 : decode cX9_teach 118 = .ok (.if_icmp .ne 44, 3) := by decide +kernel
theorem dX9_teach_121 : decode cX9_teach 121 = .ok (.aload_n 0, 1) := by decide +kernel
theorem dX9_teach_122 : decode cX9_teach 122 = .ok (.getfield 17, 3) := by decide +kernel
theorem dX9_teach_125 : decode cX9_teach 125 = .ok (.iload_n 3, 1) := by decide +kernel
theorem dX9_teach_126 : decode cX9_teach 126 = .ok (.iconst 4, 1) := by decide +kernel
theorem dX9_teach_127 : decode cX9_teach 127 = .ok (.iadd, 1) := by decide +kernel
theorem dX9_teach_128 : decode cX9_teach 128 = .ok (.aload_n 0, 1) := by decide +kernel
theorem dX9_teach_129 : decode cX9_teach 129 = .ok (.getfield 17, 3) := by decide +kernel
theorem dX9_teach_132 : decode cX9_teach 132 = .ok (.iload_n 3, 1) := by decide +kernel
theorem dX9_teach_133 : decode cX9_teach 133 = .ok (.iconst 4, 1) := by decide +kernel
theorem dX9_teach_134 : decode cX9_teach 134 = .ok (.iadd, 1) := by decide +kernel
theorem dX9_teach_135 : decode cX9_teach 135 = .ok (.iaload, 1) := by decide +kernel
theorem dX9_teach_136 : decode cX9_teach 136 = .ok (.iconst 2, 1) := by decide +kernel
theorem dX9_teach_137 : decode cX9_teach 137 = .ok (.iadd, 1) := by decide +kernel
theorem dX9_teach_138 : decode cX9_teach 138 = .ok (.bipush 40, 2) := by decide +kernel
theorem dX9_teach_140 : decode cX9_teach 140 = .ok (.if_icmp .le 8, 3) := by decide +kernel
theorem dX9_teach_143 : decode cX9_teach 143 = .ok (.bipush 40, 2) := by decide +kernel
theorem dX9_teach_145 : decode cX9_teach 145 = .ok (.goto 13, 3) := by decide +kernel
theorem dX9_teach_148 : decode cX9_teach 148 = .ok (.aload_n 0, 1) := by decide +kernel
theorem dX9_teach_149 : decode cX9_teach 149 = .ok (.getfield 17, 3) := by decide +kernel
theorem dX9_teach_152 : decode cX9_teach 152 = .ok (.iload_n 3, 1) := by decide +kernel
theorem dX9_teach_153 : decode cX9_teach 153 = .ok (.iconst 4, 1) := by decide +kernel
theorem dX9_teach_154 : decode cX9_teach 154 = .ok (.iadd, 1) := by decide +kernel
theorem dX9_teach_155 : decode cX9_teach 155 = .ok (.iaload, 1) := by decide +kernel
theorem dX9_teach_156 : decode cX9_teach 156 = .ok (.iconst 2, 1) := by decide +kernel
theorem dX9_teach_157 : decode cX9_teach 157 = .ok (.iadd, 1) := by decide +kernel
theorem dX9_teach_158 : decode cX9_teach 158 = .ok (.iastore, 1) := by decide +kernel
theorem dX9_teach_159 : decode cX9_teach 159 = .ok (.goto 61, 3) := by decide +kernel
theorem dX9_teach_162 : decode cX9_teach 162 = .ok (.aload_n 0, 1) := by decide +kernel
theorem dX9_teach_163 : decode cX9_teach 163 = .ok (.getfield 17, 3) := by decide +kernel
theorem dX9_teach_166 : decode cX9_teach 166 = .ok (.iload_n 3, 1) := by decide +kernel
theorem dX9_teach_167 : decode cX9_teach 167 = .ok (.bipush 6, 2) := by decide +kernel
theorem dX9_teach_169 : decode cX9_teach 169 = .ok (.iadd, 1) := by decide +kernel
theorem dX9_teach_170 : decode cX9_teach 170 = .ok (.dup2, 1) := by decide +kernel
theorem dX9_teach_171 : decode cX9_teach 171 = .ok (.iaload, 1) := by decide +kernel
theorem dX9_teach_172 : decode cX9_teach 172 = .ok (.aload_n 0, 1) := by decide +kernel
theorem dX9_teach_173 : decode cX9_teach 173 = .ok (.getfield 17, 3) := by decide +kernel
theorem dX9_teach_176 : decode cX9_teach 176 = .ok (.iload_n 3, 1) := by decide +kernel
theorem dX9_teach_177 : decode cX9_teach 177 = .ok (.bipush 6, 2) := by decide +kernel
theorem dX9_teach_179 : decode cX9_teach 179 = .ok (.iadd, 1) := by decide +kernel
theorem dX9_teach_180 : decode cX9_teach 180 = .ok (.iaload, 1) := by decide +kernel
theorem dX9_teach_181 : decode cX9_teach 181 = .ok (.bipush 36, 2) := by decide +kernel
theorem dX9_teach_183 : decode cX9_teach 183 = .ok (.if_icmp .ge 7, 3) := by decide +kernel
theorem dX9_teach_186 : decode cX9_teach 186 = .ok (.iconst 1, 1) := by decide +kernel
theorem dX9_teach_187 : decode cX9_teach 187 = .ok (.goto 4, 3) := by decide +kernel
theorem dX9_teach_190 : decode cX9_teach 190 = .ok (.iconst 0, 1) := by decide +kernel
theorem dX9_teach_191 : decode cX9_teach 191 = .ok (.iadd, 1) := by decide +kernel
theorem dX9_teach_192 : decode cX9_teach 192 = .ok (.iastore, 1) := by decide +kernel
theorem dX9_teach_193 : decode cX9_teach 193 = .ok (.aload_n 0, 1) := by decide +kernel
theorem dX9_teach_194 : decode cX9_teach 194 = .ok (.getfield 17, 3) := by decide +kernel
theorem dX9_teach_197 : decode cX9_teach 197 = .ok (.iload_n 3, 1) := by decide +kernel
theorem dX9_teach_198 : decode cX9_teach 198 = .ok (.iconst 5, 1) := by decide +kernel
theorem dX9_teach_199 : decode cX9_teach 199 = .ok (.iadd, 1) := by decide +kernel
theorem dX9_teach_200 : decode cX9_teach 200 = .ok (.dup2, 1) := by decide +kernel
theorem dX9_teach_201 : decode cX9_teach 201 = .ok (.iaload, 1) := by decide +kernel
theorem dX9_teach_202 : decode cX9_teach 202 = .ok (.aload_n 0, 1) := by decide +kernel
theorem dX9_teach_203 : decode cX9_teach 203 = .ok (.getfield 17, 3) := by decide +kernel
theorem dX9_teach_206 : decode cX9_teach 206 = .ok (.iload_n 3, 1) := by decide +kernel
theorem dX9_teach_207 : decode cX9_teach 207 = .ok (.iconst 5, 1) := by decide +kernel
theorem dX9_teach_208 : decode cX9_teach 208 = .ok (.iadd, 1) := by decide +kernel
theorem dX9_teach_209 : decode cX9_teach 209 = .ok (.iaload, 1) := by decide +kernel
theorem dX9_teach_210 : decode cX9_teach 210 = .ok (.ifCond .le 7, 3) := by decide +kernel
theorem dX9_teach_213 : decode cX9_teach 213 = .ok (.iconst 1, 1) := by decide +kernel
theorem dX9_teach_214 : decode cX9_teach 214 = .ok (.goto 4, 3) := by decide +kernel
theorem dX9_teach_217 : decode cX9_teach 217 = .ok (.iconst 0, 1) := by decide +kernel
theorem dX9_teach_218 : decode cX9_teach 218 = .ok (.isub, 1) := by decide +kernel
theorem dX9_teach_219 : decode cX9_teach 219 = .ok (.iastore, 1) := by decide +kernel
theorem dX9_teach_220 : decode cX9_teach 220 = .ok (.return_, 1) := by decide +kernel
theorem dX9_plainScore_0 : decode cX9_plainScore 0 = .ok (.aload_n 0, 1) := by decide +kernel
theorem dX9_plainScore_1 : decode cX9_plainScore 1 = .ok (.aload_n 0, 1) := by decide +kernel
theorem dX9_plainScore_2 : decode cX9_plainScore 2 = .ok (.getfield 60, 3) := by decide +kernel
theorem dX9_plainScore_5 : decode cX9_plainScore 5 = .ok (.iload_n 1, 1) := by decide +kernel
theorem dX9_plainScore_6 : decode cX9_plainScore 6 = .ok (.iconst 2, 1) := by decide +kernel
theorem dX9_plainScore_7 : decode cX9_plainScore 7 = .ok (.iconst 1, 1) := by decide +kernel
theorem dX9_plainScore_8 : decode cX9_plainScore 8 = .ok (.invokevirtual 269, 3) := by decide +kernel
theorem dX9_plainScore_11 : decode cX9_plainScore 11 = .ok (.aload_n 0, 1) := by decide +kernel
theorem dX9_plainScore_12 : decode cX9_plainScore 12 = .ok (.aload_n 0, 1) := by decide +kernel
theorem dX9_plainScore_13 : decode cX9_plainScore 13 = .ok (.getfield 60, 3) := by decide +kernel
theorem dX9_plainScore_16 : decode cX9_plainScore 16 = .ok (.iload_n 1, 1) := by decide +kernel
theorem dX9_plainScore_17 : decode cX9_plainScore 17 = .ok (.iconst 0, 1) := by decide +kernel
theorem dX9_plainScore_18 : decode cX9_plainScore 18 = .ok (.invokevirtual 273, 3) := by decide +kernel
theorem dX9_plainScore_21 : decode cX9_plainScore 21 = .ok (.aload_n 0, 1) := by decide +kernel
theorem dX9_plainScore_22 : decode cX9_plainScore 22 = .ok (.aload_n 0, 1) := by decide +kernel
theorem dX9_plainScore_23 : decode cX9_plainScore 23 = .ok (.getfield 60, 3) := by decide +kernel
theorem dX9_plainScore_26 : decode cX9_plainScore 26 = .ok (.iload_n 1, 1) := by decide +kernel
theorem dX9_plainScore_27 : decode cX9_plainScore 27 = .ok (.iconst 1, 1) := by decide +kernel
theorem dX9_plainScore_28 : decode cX9_plainScore 28 = .ok (.invokevirtual 273, 3) := by decide +kernel
theorem dX9_plainScore_31 : decode cX9_plainScore 31 = .ok (.iadd, 1) := by decide +kernel
theorem dX9_plainScore_32 : decode cX9_plainScore 32 = .ok (.ireturn, 1) := by decide +kernel
theorem dX9_lesson_0 : decode cX9_lesson 0 = .ok (.aload_n 0, 1) := by decide +kernel
theorem dX9_lesson_1 : decode cX9_lesson 1 = .ok (.iload_n 1, 1) := by decide +kernel
theorem dX9_lesson_2 : decode cX9_lesson 2 = .ok (.invokevirtual 217, 3) := by decide +kernel
theorem dX9_lesson_5 : decode cX9_lesson 5 = .ok (.ifCond .eq 15, 3) := by decide +kernel
theorem dX9_lesson_8 : decode cX9_lesson 8 = .ok (.iload_n 2, 1) := by decide +kernel
theorem dX9_lesson_9 : decode cX9_lesson 9 = .ok (.i2l, 1) := by decide +kernel
theorem dX9_lesson_10 : decode cX9_lesson 10 = .ok (.lconst 0, 1) := by decide +kernel
theorem dX9_lesson_11 : decode cX9_lesson 11 = .ok (.ldc2_w 225, 3) := by decide +kernel
theorem dX9_lesson_14 : decode cX9_lesson 14 = .ok (.invokestatic 90, 3) := by decide +kernel
theorem dX9_lesson_17 : decode cX9_lesson 17 = .ok (.ifCond .ne 6, 3) := by decide +kernel
theorem dX9_lesson_20 : decode cX9_lesson 20 = .ok (.ldc 216, 2) := by decide +kernel
theorem dX9_lesson_22 : decode cX9_lesson 22 = .ok (.ireturn, 1) := by decide +kernel
theorem dX9_lesson_23 : decode cX9_lesson 23 = .ok (.aload_n 0, 1) := by decide +kernel
theorem dX9_lesson_24 : decode cX9_lesson 24 = .ok (.iload_n 1, 1) := by decide +kernel
theorem dX9_lesson_25 : decode cX9_lesson 25 = .ok (.iload_n 2, 1) := by decide +kernel
theorem dX9_lesson_26 : decode cX9_lesson 26 = .ok (.invokevirtual 321, 3) := by decide +kernel
theorem dX9_lesson_29 : decode cX9_lesson 29 = .ok (.aload_n 0, 1) := by decide +kernel
theorem dX9_lesson_30 : decode cX9_lesson 30 = .ok (.iload_n 1, 1) := by decide +kernel
theorem dX9_lesson_31 : decode cX9_lesson 31 = .ok (.invokevirtual 325, 3) := by decide +kernel
theorem dX9_lesson_34 : decode cX9_lesson 34 = .ok (.ireturn, 1) := by decide +kernel
theorem dX9_hold_0 : decode cX9_hold 0 = .ok (.iconst 0, 1) := by decide +kernel
theorem dX9_hold_1 : decode cX9_hold 1 = .ok (.istore_n 2, 1) := by decide +kernel
theorem dX9_hold_2 : decode cX9_hold 2 = .ok (.iload_n 2, 1) := by decide +kernel
theorem dX9_hold_3 : decode cX9_hold 3 = .ok (.bipush 8, 2) := by decide +kernel
theorem dX9_hold_5 : decode cX9_hold 5 = .ok (.if_icmp .ge 26, 3) := by decide +kernel
theorem dX9_hold_8 : decode cX9_hold 8 = .ok (.aload_n 0, 1) := by decide +kernel
theorem dX9_hold_9 : decode cX9_hold 9 = .ok (.getfield 63, 3) := by decide +kernel
theorem dX9_hold_12 : decode cX9_hold 12 = .ok (.iload_n 2, 1) := by decide +kernel
theorem dX9_hold_13 : decode cX9_hold 13 = .ok (.aload_n 0, 1) := by decide +kernel
theorem dX9_hold_14 : decode cX9_hold 14 = .ok (.getfield 17, 3) := by decide +kernel
theorem dX9_hold_17 : decode cX9_hold 17 = .ok (.bipush 8, 2) := by decide +kernel
theorem dX9_hold_19 : decode cX9_hold 19 = .ok (.iload_n 1, 1) := by decide +kernel
theorem dX9_hold_20 : decode cX9_hold 20 = .ok (.imul, 1) := by decide +kernel
theorem dX9_hold_21 : decode cX9_hold 21 = .ok (.iload_n 2, 1) := by decide +kernel
theorem dX9_hold_22 : decode cX9_hold 22 = .ok (.iadd, 1) := by decide +kernel
theorem dX9_hold_23 : decode cX9_hold 23 = .ok (.iaload, 1) := by decide +kernel
theorem dX9_hold_24 : decode cX9_hold 24 = .ok (.iastore, 1) := by decide +kernel
theorem dX9_hold_25 : decode cX9_hold 25 = .ok (.iinc 2 1, 3) := by decide +kernel
theorem dX9_hold_28 : decode cX9_hold 28 = .ok (.goto (-26), 3) := by decide +kernel
theorem dX9_hold_31 : decode cX9_hold 31 = .ok (.return_, 1) := by decide +kernel
theorem dX9_putBack_0 : decode cX9_putBack 0 = .ok (.iconst 0, 1) := by decide +kernel
theorem dX9_putBack_1 : decode cX9_putBack 1 = .ok (.istore_n 2, 1) := by decide +kernel
theorem dX9_putBack_2 : decode cX9_putBack 2 = .ok (.iload_n 2, 1) := by decide +kernel
theorem dX9_putBack_3 : decode cX9_putBack 3 = .ok (.bipush 8, 2) := by decide +kernel
theorem dX9_putBack_5 : decode cX9_putBack 5 = .ok (.if_icmp .ge 26, 3) := by decide +kernel
theorem dX9_putBack_8 : decode cX9_putBack 8 = .ok (.aload_n 0, 1) := by decide +kernel
theorem dX9_putBack_9 : decode cX9_putBack 9 = .ok (.getfield 17, 3) := by decide +kernel
theorem dX9_putBack_12 : decode cX9_putBack 12 = .ok (.bipush 8, 2) := by decide +kernel
theorem dX9_putBack_14 : decode cX9_putBack 14 = .ok (.iload_n 1, 1) := by decide +kernel
theorem dX9_putBack_15 : decode cX9_putBack 15 = .ok (.imul, 1) := by decide +kernel
theorem dX9_putBack_16 : decode cX9_putBack 16 = .ok (.iload_n 2, 1) := by decide +kernel
theorem dX9_putBack_17 : decode cX9_putBack 17 = .ok (.iadd, 1) := by decide +kernel
theorem dX9_putBack_18 : decode cX9_putBack 18 = .ok (.aload_n 0, 1) := by decide +kernel
theorem dX9_putBack_19 : decode cX9_putBack 19 = .ok (.getfield 63, 3) := by decide +kernel
theorem dX9_putBack_22 : decode cX9_putBack 22 = .ok (.iload_n 2, 1) := by decide +kernel
theorem dX9_putBack_23 : decode cX9_putBack 23 = .ok (.iaload, 1) := by decide +kernel
theorem dX9_putBack_24 : decode cX9_putBack 24 = .ok (.iastore, 1) := by decide +kernel
theorem dX9_putBack_25 : decode cX9_putBack 25 = .ok (.iinc 2 1, 3) := by decide +kernel
theorem dX9_putBack_28 : decode cX9_putBack 28 = .ok (.goto (-26), 3) := by decide +kernel
theorem dX9_putBack_31 : decode cX9_putBack 31 = .ok (.return_, 1) := by decide +kernel
theorem dX9_partOf_0 : decode cX9_partOf 0 = .ok (.iload_n 0, 1) := by decide +kernel
theorem dX9_partOf_1 : decode cX9_partOf 1 = .ok (.iconst 2, 1) := by decide +kernel
theorem dX9_partOf_2 : decode cX9_partOf 2 = .ok (.iload_n 1, 1) := by decide +kernel
theorem dX9_partOf_3 : decode cX9_partOf 3 = .ok (.iconst 1, 1) := by decide +kernel
theorem dX9_partOf_4 : decode cX9_partOf 4 = .ok (.isub, 1) := by decide +kernel
theorem dX9_partOf_5 : decode cX9_partOf 5 = .ok (.iload_n 2, 1) := by decide +kernel
theorem dX9_partOf_6 : decode cX9_partOf 6 = .ok (.isub, 1) := by decide +kernel
theorem dX9_partOf_7 : decode cX9_partOf 7 = .ok (.imul, 1) := by decide +kernel
theorem dX9_partOf_8 : decode cX9_partOf 8 = .ok (.ishr, 1) := by decide +kernel
theorem dX9_partOf_9 : decode cX9_partOf 9 = .ok (.iconst 3, 1) := by decide +kernel
theorem dX9_partOf_10 : decode cX9_partOf 10 = .ok (.iand, 1) := by decide +kernel
theorem dX9_partOf_11 : decode cX9_partOf 11 = .ok (.ireturn, 1) := by decide +kernel
theorem dX9_plan_0 : decode cX9_plan 0 = .ok (.aload_n 0, 1) := by decide +kernel
theorem dX9_plan_1 : decode cX9_plan 1 = .ok (.iload_n 1, 1) := by decide +kernel
theorem dX9_plan_2 : decode cX9_plan 2 = .ok (.invokevirtual 217, 3) := by decide +kernel
theorem dX9_plan_5 : decode cX9_plan 5 = .ok (.ifCond .ne 6, 3) := by decide +kernel
theorem dX9_plan_8 : decode cX9_plan 8 = .ok (.ldc 216, 2) := by decide +kernel
theorem dX9_plan_10 : decode cX9_plan 10 = .ok (.ireturn, 1) := by decide +kernel
theorem dX9_plan_11 : decode cX9_plan 11 = .ok (.iload_n 2, 1) := by decide +kernel
theorem dX9_plan_12 : decode cX9_plan 12 = .ok (.i2l, 1) := by decide +kernel
theorem dX9_plan_13 : decode cX9_plan 13 = .ok (.lconst 1, 1) := by decide +kernel
theorem dX9_plan_14 : decode cX9_plan 14 = .ok (.ldc2_w 328, 3) := by decide +kernel
theorem dX9_plan_17 : decode cX9_plan 17 = .ok (.invokestatic 90, 3) := by decide +kernel
theorem dX9_plan_20 : decode cX9_plan 20 = .ok (.ifCond .eq 14, 3) := by decide +kernel
theorem dX9_plan_23 : decode cX9_plan 23 = .ok (.iload_n 3, 1) := by decide +kernel
theorem dX9_plan_24 : decode cX9_plan 24 = .ok (.i2l, 1) := by decide +kernel
theorem dX9_plan_25 : decode cX9_plan 25 = .ok (.lconst 0, 1) := by decide +kernel
theorem dX9_plan_26 : decode cX9_plan 26 = .ok (.iload_n 2, 1) := by decide +kernel
theorem dX9_plan_27 : decode cX9_plan 27 = .ok (.i2l, 1) := by decide +kernel
theorem dX9_plan_28 : decode cX9_plan 28 = .ok (.invokestatic 90, 3) := by decide +kernel
theorem dX9_plan_31 : decode cX9_plan 31 = .ok (.ifCond .ne 6, 3) := by decide +kernel
theorem dX9_plan_34 : decode cX9_plan 34 = .ok (.ldc 99, 2) := by decide +kernel
theorem dX9_plan_36 : decode cX9_plan 36 = .ok (.ireturn, 1) := by decide +kernel
theorem dX9_plan_37 : decode cX9_plan 37 = .ok (.iconst (-1), 1) := by decide +kernel
theorem dX9_plan_38 : decode cX9_plan 38 = .ok (.istore 4, 2) := by decide +kernel
theorem dX9_plan_40 : decode cX9_plan 40 = .ok (.iconst 0, 1) := by decide +kernel
theorem dX9_plan_41 : decode cX9_plan 41 = .ok (.istore 5, 2) := by decide +kernel
theorem dX9_plan_43 : decode cX9_plan 43 = .ok (.aload_n 0, 1) := by decide +kernel
theorem dX9_plan_44 : decode cX9_plan 44 = .ok (.iload_n 1, 1) := by decide +kernel
theorem dX9_plan_45 : decode cX9_plan 45 = .ok (.invokevirtual 330, 3) := by decide +kernel
theorem dX9_plan_48 : decode cX9_plan 48 = .ok (.iconst 0, 1) := by decide +kernel
theorem dX9_plan_49 : decode cX9_plan 49 = .ok (.istore 6, 2) := by decide +kernel
theorem dX9_plan_51 : decode cX9_plan 51 = .ok (.iload 6, 2) := by decide +kernel
theorem dX9_plan_53 : decode cX9_plan 53 = .ok (.iconst 1, 1) := by decide +kernel
theorem dX9_plan_54 : decode cX9_plan 54 = .ok (.iconst 2, 1) := by decide +kernel
theorem dX9_plan_55 : decode cX9_plan 55 = .ok (.iload_n 2, 1) := by decide +kernel
theorem dX9_plan_56 : decode cX9_plan 56 = .ok (.imul, 1) := by decide +kernel
theorem dX9_plan_57 : decode cX9_plan 57 = .ok (.ishl, 1) := by decide +kernel
theorem dX9_plan_58 : decode cX9_plan 58 = .ok (.if_icmp .ge 86, 3) := by decide +kernel
theorem dX9_plan_61 : decode cX9_plan 61 = .ok (.iconst 0, 1) := by decide +kernel
theorem dX9_plan_62 : decode cX9_plan 62 = .ok (.istore 7, 2) := by decide +kernel
theorem dX9_plan_64 : decode cX9_plan 64 = .ok (.iload 7, 2) := by decide +kernel
theorem dX9_plan_66 : decode cX9_plan 66 = .ok (.iload_n 2, 1) := by decide +kernel
theorem dX9_plan_67 : decode cX9_plan 67 = .ok (.if_icmp .ge 22, 3) := by decide +kernel
theorem dX9_plan_70 : decode cX9_plan 70 = .ok (.aload_n 0, 1) := by decide +kernel
theorem dX9_plan_71 : decode cX9_plan 71 = .ok (.iload_n 1, 1) := by decide +kernel
theorem dX9_plan_72 : decode cX9_plan 72 = .ok (.iload 6, 2) := by decide +kernel
theorem dX9_plan_74 : decode cX9_plan 74 = .ok (.iload_n 2, 1) := by decide +kernel
theorem dX9_plan_75 : decode cX9_plan 75 = .ok (.iload 7, 2) := by decide +kernel
theorem dX9_plan_77 : decode cX9_plan 77 = .ok (.invokestatic 334, 3) := by decide +kernel
theorem dX9_plan_80 : decode cX9_plan 80 = .ok (.invokevirtual 321, 3) := by decide +kernel
theorem dX9_plan_83 : decode cX9_plan 83 = .ok (.iinc 7 1, 3) := by decide +kernel
theorem dX9_plan_86 : decode cX9_plan 86 = .ok (.goto (-22), 3) := by decide +kernel
theorem dX9_plan_89 : decode cX9_plan 89 = .ok (.aload_n 0, 1) := by decide +kernel
theorem dX9_plan_90 : decode cX9_plan 90 = .ok (.iload_n 1, 1) := by decide +kernel
theorem dX9_plan_91 : decode cX9_plan 91 = .ok (.invokevirtual 325, 3) := by decide +kernel
theorem dX9_plan_94 : decode cX9_plan 94 = .ok (.istore 7, 2) := by decide +kernel
theorem dX9_plan_96 : decode cX9_plan 96 = .ok (.iload 4, 2) := by decide +kernel
theorem dX9_plan_98 : decode cX9_plan 98 = .ok (.ifCond .lt 10, 3) := by decide +kernel
theorem dX9_plan_101 : decode cX9_plan 101 = .ok (.iload 7, 2) := by decide +kernel
theorem dX9_plan_103 : decode cX9_plan 103 = .ok (.iload 5, 2) := by decide +kernel
theorem dX9_plan_105 : decode cX9_plan 105 = .ok (.if_icmp .le 8, 3) := by decide +kernel
theorem dX9_plan_108 : decode cX9_plan 108 = .ok (.iload 6, 2) := by decide +kernel
theorem dX9_plan_110 : decode cX9_plan 110 = .ok (.goto 5, 3) := by decide +kernel
theorem dX9_plan_113 : decode cX9_plan 113 = .ok (.iload 4, 2) := by decide +kernel
theorem dX9_plan_115 : decode cX9_plan 115 = .ok (.istore 4, 2) := by decide +kernel
theorem dX9_plan_117 : decode cX9_plan 117 = .ok (.iload 4, 2) := by decide +kernel
theorem dX9_plan_119 : decode cX9_plan 119 = .ok (.iload 6, 2) := by decide +kernel
theorem dX9_plan_121 : decode cX9_plan 121 = .ok (.if_icmp .ne 8, 3) := by decide +kernel
theorem dX9_plan_124 : decode cX9_plan 124 = .ok (.iload 7, 2) := by decide +kernel
theorem dX9_plan_126 : decode cX9_plan 126 = .ok (.goto 5, 3) := by decide +kernel
theorem dX9_plan_129 : decode cX9_plan 129 = .ok (.iload 5, 2) := by decide +kernel
theorem dX9_plan_131 : decode cX9_plan 131 = .ok (.istore 5, 2) := by decide +kernel
theorem dX9_plan_133 : decode cX9_plan 133 = .ok (.aload_n 0, 1) := by decide +kernel
theorem dX9_plan_134 : decode cX9_plan 134 = .ok (.iload_n 1, 1) := by decide +kernel
theorem dX9_plan_135 : decode cX9_plan 135 = .ok (.invokevirtual 337, 3) := by decide +kernel
theorem dX9_plan_138 : decode cX9_plan 138 = .ok (.iinc 6 1, 3) := by decide +kernel
theorem dX9_plan_141 : decode cX9_plan 141 = .ok (.goto (-90), 3) := by decide +kernel
theorem dX9_plan_144 : decode cX9_plan 144 = .ok (.iload_n 3, 1) := by decide +kernel
theorem dX9_plan_145 : decode cX9_plan 145 = .ok (.ifCond .ne 8, 3) := by decide +kernel
theorem dX9_plan_148 : decode cX9_plan 148 = .ok (.iload 5, 2) := by decide +kernel
theorem dX9_plan_150 : decode cX9_plan 150 = .ok (.goto 12, 3) := by decide +kernel
theorem dX9_plan_153 : decode cX9_plan 153 = .ok (.iload 4, 2) := by decide +kernel
theorem dX9_plan_155 : decode cX9_plan 155 = .ok (.iload_n 2, 1) := by decide +kernel
theorem dX9_plan_156 : decode cX9_plan 156 = .ok (.iload_n 3, 1) := by decide +kernel
theorem dX9_plan_157 : decode cX9_plan 157 = .ok (.iconst 1, 1) := by decide +kernel
theorem dX9_plan_158 : decode cX9_plan 158 = .ok (.isub, 1) := by decide +kernel
theorem dX9_plan_159 : decode cX9_plan 159 = .ok (.invokestatic 334, 3) := by decide +kernel
theorem dX9_plan_162 : decode cX9_plan 162 = .ok (.ireturn, 1) := by decide +kernel
theorem dX9_isWithin_0 : decode cX9_isWithin 0 = .ok (.aload_n 0, 1) := by decide +kernel
theorem dX9_isWithin_1 : decode cX9_isWithin 1 = .ok (.getfield 17, 3) := by decide +kernel
theorem dX9_isWithin_4 : decode cX9_isWithin 4 = .ok (.bipush 8, 2) := by decide +kernel
theorem dX9_isWithin_6 : decode cX9_isWithin 6 = .ok (.iload_n 1, 1) := by decide +kernel
theorem dX9_isWithin_7 : decode cX9_isWithin 7 = .ok (.imul, 1) := by decide +kernel
theorem dX9_isWithin_8 : decode cX9_isWithin 8 = .ok (.iaload, 1) := by decide +kernel
theorem dX9_isWithin_9 : decode cX9_isWithin 9 = .ok (.iconst 4, 1) := by decide +kernel
theorem dX9_isWithin_10 : decode cX9_isWithin 10 = .ok (.if_icmp .eq 21, 3) := by decide +kernel
theorem dX9_isWithin_13 : decode cX9_isWithin 13 = .ok (.aload_n 0, 1) := by decide +kernel
theorem dX9_isWithin_14 : decode cX9_isWithin 14 = .ok (.getfield 17, 3) := by decide +kernel
theorem dX9_isWithin_17 : decode cX9_isWithin 17 = .ok (.bipush 8, 2) := by decide +kernel
theorem dX9_isWithin_19 : decode cX9_isWithin 19 = .ok (.iload_n 1, 1) := by decide +kernel
theorem dX9_isWithin_20 : decode cX9_isWithin 20 = .ok (.imul, 1) := by decide +kernel
theorem dX9_isWithin_21 : decode cX9_isWithin 21 = .ok (.iaload, 1) := by decide +kernel
theorem dX9_isWithin_22 : decode cX9_isWithin 22 = .ok (.bipush 7, 2) := by decide +kernel
theorem dX9_isWithin_24 : decode cX9_isWithin 24 = .ok (.if_icmp .eq 7, 3) := by decide +kernel
theorem dX9_isWithin_27 : decode cX9_isWithin 27 = .ok (.iconst 1, 1) := by decide +kernel
theorem dX9_isWithin_28 : decode cX9_isWithin 28 = .ok (.goto 4, 3) := by decide +kernel
theorem dX9_isWithin_31 : decode cX9_isWithin 31 = .ok (.iconst 0, 1) := by decide +kernel
theorem dX9_isWithin_32 : decode cX9_isWithin 32 = .ok (.istore_n 3, 1) := by decide +kernel
theorem dX9_isWithin_33 : decode cX9_isWithin 33 = .ok (.iconst 0, 1) := by decide +kernel
theorem dX9_isWithin_34 : decode cX9_isWithin 34 = .ok (.istore 4, 2) := by decide +kernel
theorem dX9_isWithin_36 : decode cX9_isWithin 36 = .ok (.iload 4, 2) := by decide +kernel
theorem dX9_isWithin_38 : decode cX9_isWithin 38 = .ok (.aload_n 0, 1) := by decide +kernel
theorem dX9_isWithin_39 : decode cX9_isWithin 39 = .ok (.getfield 178, 3) := by decide +kernel
theorem dX9_isWithin_42 : decode cX9_isWithin 42 = .ok (.if_icmp .ge 45, 3) := by decide +kernel
theorem dX9_isWithin_45 : decode cX9_isWithin 45 = .ok (.aload_n 0, 1) := by decide +kernel
theorem dX9_isWithin_46 : decode cX9_isWithin 46 = .ok (.getfield 7, 3) := by decide +kernel
theorem dX9_isWithin_49 : decode cX9_isWithin 49 = .ok (.iload 4, 2) := by decide +kernel
theorem dX9_isWithin_51 : decode cX9_isWithin 51 = .ok (.iaload, 1) := by decide +kernel
theorem dX9_isWithin_52 : decode cX9_isWithin 52 = .ok (.bipush 100, 2) := by decide +kernel
theorem dX9_isWithin_54 : decode cX9_isWithin 54 = .ok (.iload_n 2, 1) := by decide +kernel
theorem dX9_isWithin_55 : decode cX9_isWithin 55 = .ok (.imul, 1) := by decide +kernel
theorem dX9_isWithin_56 : decode cX9_isWithin 56 = .ok (.iadd, 1) := by decide +kernel
theorem dX9_isWithin_57 : decode cX9_isWithin 57 = .ok (.istore 5, 2) := by decide +kernel
theorem dX9_isWithin_59 : decode cX9_isWithin 59 = .ok (.iload_n 3, 1) := by decide +kernel
theorem dX9_isWithin_60 : decode cX9_isWithin 60 = .ok (.ifCond .eq 19, 3) := by decide +kernel
theorem dX9_isWithin_63 : decode cX9_isWithin 63 = .ok (.aload_n 0, 1) := by decide +kernel
theorem dX9_isWithin_64 : decode cX9_isWithin 64 = .ok (.iload_n 1, 1) := by decide +kernel
theorem dX9_isWithin_65 : decode cX9_isWithin 65 = .ok (.iload 5, 2) := by decide +kernel
theorem dX9_isWithin_67 : decode cX9_isWithin 67 = .ok (.invokevirtual 257, 3) := by decide +kernel
theorem dX9_isWithin_70 : decode cX9_isWithin 70 = .ok (.iload 5, 2) := by decide +kernel
theorem dX9_isWithin_72 : decode cX9_isWithin 72 = .ok (.if_icmp .ne 7, 3) := by decide +kernel
theorem dX9_isWithin_75 : decode cX9_isWithin 75 = .ok (.iconst 1, 1) := by decide +kernel
theorem dX9_isWithin_76 : decode cX9_isWithin 76 = .ok (.goto 4, 3) := by decide +kernel
theorem dX9_isWithin_79 : decode cX9_isWithin 79 = .ok (.iconst 0, 1) := by decide +kernel
theorem dX9_isWithin_80 : decode cX9_isWithin 80 = .ok (.istore_n 3, 1) := by decide +kernel
theorem dX9_isWithin_81 : decode cX9_isWithin 81 = .ok (.iinc 4 1, 3) := by decide +kernel
theorem dX9_isWithin_84 : decode cX9_isWithin 84 = .ok (.goto (-48), 3) := by decide +kernel
theorem dX9_isWithin_87 : decode cX9_isWithin 87 = .ok (.iload_n 3, 1) := by decide +kernel
theorem dX9_isWithin_88 : decode cX9_isWithin 88 = .ok (.ireturn, 1) := by decide +kernel
theorem dX9_key_0 : decode cX9_key 0 = .ok (.iload_n 1, 1) := by decide +kernel
theorem dX9_key_1 : decode cX9_key 1 = .ok (.i2l, 1) := by decide +kernel
theorem dX9_key_2 : decode cX9_key 2 = .ok (.lconst 0, 1) := by decide +kernel
theorem dX9_key_3 : decode cX9_key 3 = .ok (.lconst 1, 1) := by decide +kernel
theorem dX9_key_4 : decode cX9_key 4 = .ok (.invokestatic 90, 3) := by decide +kernel
theorem dX9_key_7 : decode cX9_key 7 = .ok (.ifCond .ne 6, 3) := by decide +kernel
theorem dX9_key_10 : decode cX9_key 10 = .ok (.ldc 99, 2) := by decide +kernel
theorem dX9_key_12 : decode cX9_key 12 = .ok (.ireturn, 1) := by decide +kernel
theorem dX9_key_13 : decode cX9_key 13 = .ok (.iconst 0, 1) := by decide +kernel
theorem dX9_key_14 : decode cX9_key 14 = .ok (.istore_n 2, 1) := by decide +kernel
theorem dX9_key_15 : decode cX9_key 15 = .ok (.iconst (-1), 1) := by decide +kernel
theorem dX9_key_16 : decode cX9_key 16 = .ok (.istore_n 3, 1) := by decide +kernel
theorem dX9_key_17 : decode cX9_key 17 = .ok (.bipush (-12), 2) := by decide +kernel
theorem dX9_key_19 : decode cX9_key 19 = .ok (.istore 4, 2) := by decide +kernel
theorem dX9_key_21 : decode cX9_key 21 = .ok (.iload 4, 2) := by decide +kernel
theorem dX9_key_23 : decode cX9_key 23 = .ok (.bipush 12, 2) := by decide +kernel
theorem dX9_key_25 : decode cX9_key 25 = .ok (.if_icmp .gt 106, 3) := by decide +kernel
theorem dX9_key_28 : decode cX9_key 28 = .ok (.iconst 0, 1) := by decide +kernel
theorem dX9_key_29 : decode cX9_key 29 = .ok (.istore 5, 2) := by decide +kernel
theorem dX9_key_31 : decode cX9_key 31 = .ok (.iconst 0, 1) := by decide +kernel
theorem dX9_key_32 : decode cX9_key 32 = .ok (.istore 6, 2) := by decide +kernel
theorem dX9_key_34 : decode cX9_key 34 = .ok (.iload 6, 2) := by decide +kernel
theorem dX9_key_36 : decode cX9_key 36 = .ok (.aload_n 0, 1) := by decide +kernel
theorem dX9_key_37 : decode cX9_key 37 = .ok (.getfield 87, 3) := by decide +kernel
theorem dX9_key_40 : decode cX9_key 40 = .ok (.if_icmp .ge 30, 3) := by decide +kernel
theorem dX9_key_43 : decode cX9_key 43 = .ok (.iload 5, 2) := by decide +kernel
theorem dX9_key_45 : decode cX9_key 45 = .ok (.aload_n 0, 1) := by decide +kernel
theorem dX9_key_46 : decode cX9_key 46 = .ok (.iload 6, 2) := by decide +kernel
theorem dX9_key_48 : decode cX9_key 48 = .ok (.iload 4, 2) := by decide +kernel
theorem dX9_key_50 : decode cX9_key 50 = .ok (.invokevirtual 340, 3) := by decide +kernel
theorem dX9_key_53 : decode cX9_key 53 = .ok (.ifCond .eq 7, 3) := by decide +kernel
theorem dX9_key_56 : decode cX9_key 56 = .ok (.iconst 1, 1) := by decide +kernel
theorem dX9_key_57 : decode cX9_key 57 = .ok (.goto 4, 3) := by decide +kernel
theorem dX9_key_60 : decode cX9_key 60 = .ok (.iconst 0, 1) := by decide +kernel
theorem dX9_key_61 : decode cX9_key 61 = .ok (.iadd, 1) := by decide +kernel
theorem dX9_key_62 : decode cX9_key 62 = .ok (.istore 5, 2) := by decide +kernel
theorem dX9_key_64 : decode cX9_key 64 = .ok (.iinc 6 1, 3) := by decide +kernel
theorem dX9_key_67 : decode cX9_key 67 = .ok (.goto (-33), 3) := by decide +kernel
theorem dX9_key_70 : decode cX9_key 70 = .ok (.iload 5, 2) := by decide +kernel
theorem dX9_key_72 : decode cX9_key 72 = .ok (.iload_n 3, 1) := by decide +kernel
theorem dX9_key_73 : decode cX9_key 73 = .ok (.if_icmp .gt 21, 3) := by decide +kernel
theorem dX9_key_76 : decode cX9_key 76 = .ok (.iload 5, 2) := by decide +kernel
theorem dX9_key_78 : decode cX9_key 78 = .ok (.iload_n 3, 1) := by decide +kernel
theorem dX9_key_79 : decode cX9_key 79 = .ok (.if_icmp .ne 19, 3) := by decide +kernel
theorem dX9_key_82 : decode cX9_key 82 = .ok (.iload 4, 2) := by decide +kernel
theorem dX9_key_84 : decode cX9_key 84 = .ok (.invokestatic 243, 3) := by decide +kernel
theorem dX9_key_87 : decode cX9_key 87 = .ok (.iload_n 2, 1) := by decide +kernel
theorem dX9_key_88 : decode cX9_key 88 = .ok (.invokestatic 243, 3) := by decide +kernel
theorem dX9_key_91 : decode cX9_key 91 = .ok (.if_icmp .ge 7, 3) := by decide +kernel
theorem dX9_key_94 : decode cX9_key 94 = .ok (.iconst 1, 1) := by decide +kernel
theorem dX9_key_95 : decode cX9_key 95 = .ok (.goto 4, 3) := by decide +kernel
theorem dX9_key_98 : decode cX9_key 98 = .ok (.iconst 0, 1) := by decide +kernel
theorem dX9_key_99 : decode cX9_key 99 = .ok (.istore 6, 2) := by decide +kernel
theorem dX9_key_101 : decode cX9_key 101 = .ok (.iload 6, 2) := by decide +kernel
theorem dX9_key_103 : decode cX9_key 103 = .ok (.ifCond .eq 8, 3) := by decide +kernel
theorem dX9_key_106 : decode cX9_key 106 = .ok (.iload 4, 2) := by decide +kernel
theorem dX9_key_108 : decode cX9_key 108 = .ok (.goto 4, 3) := by decide +kernel
theorem dX9_key_111 : decode cX9_key 111 = .ok (.iload_n 2, 1) := by decide +kernel
theorem dX9_key_112 : decode cX9_key 112 = .ok (.istore_n 2, 1) := by decide +kernel
theorem dX9_key_113 : decode cX9_key 113 = .ok (.iload 6, 2) := by decide +kernel
theorem dX9_key_115 : decode cX9_key 115 = .ok (.ifCond .eq 8, 3) := by decide +kernel
theorem dX9_key_118 : decode cX9_key 118 = .ok (.iload 5, 2) := by decide +kernel
theorem dX9_key_120 : decode cX9_key 120 = .ok (.goto 4, 3) := by decide +kernel
theorem dX9_key_123 : decode cX9_key 123 = .ok (.iload_n 3, 1) := by decide +kernel
theorem dX9_key_124 : decode cX9_key 124 = .ok (.istore_n 3, 1) := by decide +kernel
theorem dX9_key_125 : decode cX9_key 125 = .ok (.iinc 4 1, 3) := by decide +kernel
theorem dX9_key_128 : decode cX9_key 128 = .ok (.goto (-107), 3) := by decide +kernel
theorem dX9_key_131 : decode cX9_key 131 = .ok (.iload_n 1, 1) := by decide +kernel
theorem dX9_key_132 : decode cX9_key 132 = .ok (.ifCond .ne 7, 3) := by decide +kernel
theorem dX9_key_135 : decode cX9_key 135 = .ok (.iload_n 2, 1) := by decide +kernel
theorem dX9_key_136 : decode cX9_key 136 = .ok (.goto 4, 3) := by decide +kernel
theorem dX9_key_139 : decode cX9_key 139 = .ok (.iload_n 3, 1) := by decide +kernel
theorem dX9_key_140 : decode cX9_key 140 = .ok (.ireturn, 1) := by decide +kernel
theorem dX9_age_0 : decode cX9_age 0 = .ok (.aload_n 0, 1) := by decide +kernel
theorem dX9_age_1 : decode cX9_age 1 = .ok (.iload_n 1, 1) := by decide +kernel
theorem dX9_age_2 : decode cX9_age 2 = .ok (.invokevirtual 217, 3) := by decide +kernel
theorem dX9_age_5 : decode cX9_age 5 = .ok (.ifCond .ne 6, 3) := by decide +kernel
theorem dX9_age_8 : decode cX9_age 8 = .ok (.ldc 216, 2) := by decide +kernel
theorem dX9_age_10 : decode cX9_age 10 = .ok (.ireturn, 1) := by decide +kernel
theorem dX9_age_11 : decode cX9_age 11 = .ok (.iconst (-1), 1) := by decide +kernel
theorem dX9_age_12 : decode cX9_age 12 = .ok (.istore_n 2, 1) := by decide +kernel
theorem dX9_age_13 : decode cX9_age 13 = .ok (.aload_n 0, 1) := by decide +kernel
theorem dX9_age_14 : decode cX9_age 14 = .ok (.iload_n 1, 1) := by decide +kernel
theorem dX9_age_15 : decode cX9_age 15 = .ok (.invokevirtual 330, 3) := by decide +kernel
theorem dX9_age_18 : decode cX9_age 18 = .ok (.iconst 0, 1) := by decide +kernel
theorem dX9_age_19 : decode cX9_age 19 = .ok (.istore_n 3, 1) := by decide +kernel
theorem dX9_age_20 : decode cX9_age 20 = .ok (.iload_n 3, 1) := by decide +kernel
theorem dX9_age_21 : decode cX9_age 21 = .ok (.bipush 30, 2) := by decide +kernel
theorem dX9_age_23 : decode cX9_age 23 = .ok (.if_icmp .gt 90, 3) := by decide +kernel
theorem dX9_age_26 : decode cX9_age 26 = .ok (.iload_n 2, 1) := by decide +kernel
theorem dX9_age_27 : decode cX9_age 27 = .ok (.ifCond .ge 86, 3) := by decide +kernel
theorem dX9_age_30 : decode cX9_age 30 = .ok (.aload_n 0, 1) := by decide +kernel
theorem dX9_age_31 : decode cX9_age 31 = .ok (.getfield 178, 3) := by decide +kernel
theorem dX9_age_34 : decode cX9_age 34 = .ok (.ifCond .le 37, 3) := by decide +kernel
theorem dX9_age_37 : decode cX9_age 37 = .ok (.aload_n 0, 1) := by decide +kernel
theorem dX9_age_38 : decode cX9_age 38 = .ok (.getfield 17, 3) := by decide +kernel
theorem dX9_age_41 : decode cX9_age 41 = .ok (.bipush 8, 2) := by decide +kernel
theorem dX9_age_43 : decode cX9_age 43 = .ok (.iload_n 1, 1) := by decide +kernel
theorem dX9_age_44 : decode cX9_age 44 = .ok (.imul, 1) := by decide +kernel
theorem dX9_age_45 : decode cX9_age 45 = .ok (.iaload, 1) := by decide +kernel
theorem dX9_age_46 : decode cX9_age 46 = .ok (.bipush 7, 2) := by decide +kernel
theorem dX9_age_48 : decode cX9_age 48 = .ok (.if_icmp .eq 23, 3) := by decide +kernel
theorem dX9_age_51 : decode cX9_age 51 = .ok (.aload_n 0, 1) := by decide +kernel
theorem dX9_age_52 : decode cX9_age 52 = .ok (.iload_n 1, 1) := by decide +kernel
theorem dX9_age_53 : decode cX9_age 53 = .ok (.invokevirtual 325, 3) := by decide +kernel
theorem dX9_age_56 : decode cX9_age 56 = .ok (.iconst 2, 1) := by decide +kernel
theorem dX9_age_57 : decode cX9_age 57 = .ok (.aload_n 0, 1) := by decide +kernel
theorem dX9_age_58 : decode cX9_age 58 = .ok (.getfield 178, 3) := by decide +kernel
theorem dX9_age_61 : decode cX9_age 61 = .ok (.imul, 1) := by decide +kernel
theorem dX9_age_62 : decode cX9_age 62 = .ok (.iconst 1, 1) := by decide +kernel
theorem dX9_age_63 : decode cX9_age 63 = .ok (.isub, 1) := by decide +kernel
theorem dX9_age_64 : decode cX9_age 64 = .ok (.if_icmp .ne 7, 3) := by decide +kernel
theorem dX9_age_67 : decode cX9_age 67 = .ok (.iconst 1, 1) := by decide +kernel
theorem dX9_age_68 : decode cX9_age 68 = .ok (.goto 4, 3) := by decide +kernel
theorem dX9_age_71 : decode cX9_age 71 = .ok (.iconst 0, 1) := by decide +kernel
theorem dX9_age_72 : decode cX9_age 72 = .ok (.istore 4, 2) := by decide +kernel
theorem dX9_age_74 : decode cX9_age 74 = .ok (.iload 4, 2) := by decide +kernel
theorem dX9_age_76 : decode cX9_age 76 = .ok (.ifCond .eq 7, 3) := by decide +kernel
theorem dX9_age_79 : decode cX9_age 79 = .ok (.iload_n 3, 1) := by decide +kernel
theorem dX9_age_80 : decode cX9_age 80 = .ok (.goto 4, 3) := by decide +kernel
theorem dX9_age_83 : decode cX9_age 83 = .ok (.iconst (-1), 1) := by decide +kernel
theorem dX9_age_84 : decode cX9_age 84 = .ok (.istore_n 2, 1) := by decide +kernel
theorem dX9_age_85 : decode cX9_age 85 = .ok (.iconst 0, 1) := by decide +kernel
theorem dX9_age_86 : decode cX9_age 86 = .ok (.istore 5, 2) := by decide +kernel
theorem dX9_age_88 : decode cX9_age 88 = .ok (.iload 5, 2) := by decide +kernel
theorem dX9_age_90 : decode cX9_age 90 = .ok (.iconst 4, 1) := by decide +kernel
theorem dX9_age_91 : decode cX9_age 91 = .ok (.if_icmp .ge 16, 3) := by decide +kernel
theorem dX9_age_94 : decode cX9_age 94 = .ok (.aload_n 0, 1) := by decide +kernel
theorem dX9_age_95 : decode cX9_age 95 = .ok (.iload_n 1, 1) := by decide +kernel
theorem dX9_age_96 : decode cX9_age 96 = .ok (.iload 5, 2) := by decide +kernel
theorem dX9_age_98 : decode cX9_age 98 = .ok (.invokevirtual 321, 3) := by decide +kernel
theorem dX9_age_101 : decode cX9_age 101 = .ok (.iinc 5 1, 3) := by decide +kernel
theorem dX9_age_104 : decode cX9_age 104 = .ok (.goto (-16), 3) := by decide +kernel
theorem dX9_age_107 : decode cX9_age 107 = .ok (.iinc 3 1, 3) := by decide +kernel
theorem dX9_age_110 : decode cX9_age 110 = .ok (.goto (-90), 3) := by decide +kernel
theorem dX9_age_113 : decode cX9_age 113 = .ok (.aload_n 0, 1) := by decide +kernel
theorem dX9_age_114 : decode cX9_age 114 = .ok (.iload_n 1, 1) := by decide +kernel
theorem dX9_age_115 : decode cX9_age 115 = .ok (.invokevirtual 337, 3) := by decide +kernel
theorem dX9_age_118 : decode cX9_age 118 = .ok (.iload_n 2, 1) := by decide +kernel
theorem dX9_age_119 : decode cX9_age 119 = .ok (.ireturn, 1) := by decide +kernel
theorem dX9_isKnownBy_0 : decode cX9_isKnownBy 0 = .ok (.aload_n 0, 1) := by decide +kernel
theorem dX9_isKnownBy_1 : decode cX9_isKnownBy 1 = .ok (.getfield 66, 3) := by decide +kernel
theorem dX9_isKnownBy_4 : decode cX9_isKnownBy 4 = .ok (.bipush 33, 2) := by decide +kernel
theorem dX9_isKnownBy_6 : decode cX9_isKnownBy 6 = .ok (.iload_n 1, 1) := by decide +kernel
theorem dX9_isKnownBy_7 : decode cX9_isKnownBy 7 = .ok (.imul, 1) := by decide +kernel
theorem dX9_isKnownBy_8 : decode cX9_isKnownBy 8 = .ok (.iload_n 2, 1) := by decide +kernel
theorem dX9_isKnownBy_9 : decode cX9_isKnownBy 9 = .ok (.iadd, 1) := by decide +kernel
theorem dX9_isKnownBy_10 : decode cX9_isKnownBy 10 = .ok (.baload, 1) := by decide +kernel
theorem dX9_isKnownBy_11 : decode cX9_isKnownBy 11 = .ok (.istore_n 3, 1) := by decide +kernel
theorem dX9_isKnownBy_12 : decode cX9_isKnownBy 12 = .ok (.iconst 0, 1) := by decide +kernel
theorem dX9_isKnownBy_13 : decode cX9_isKnownBy 13 = .ok (.istore 4, 2) := by decide +kernel
theorem dX9_isKnownBy_15 : decode cX9_isKnownBy 15 = .ok (.iload 4, 2) := by decide +kernel
theorem dX9_isKnownBy_17 : decode cX9_isKnownBy 17 = .ok (.iload_n 1, 1) := by decide +kernel
theorem dX9_isKnownBy_18 : decode cX9_isKnownBy 18 = .ok (.iconst 1, 1) := by decide +kernel
theorem dX9_isKnownBy_19 : decode cX9_isKnownBy 19 = .ok (.iadd, 1) := by decide +kernel
theorem dX9_isKnownBy_20 : decode cX9_isKnownBy 20 = .ok (.iload_n 2, 1) := by decide +kernel
theorem dX9_isKnownBy_21 : decode cX9_isKnownBy 21 = .ok (.iconst 1, 1) := by decide +kernel
theorem dX9_isKnownBy_22 : decode cX9_isKnownBy 22 = .ok (.iadd, 1) := by decide +kernel
theorem dX9_isKnownBy_23 : decode cX9_isKnownBy 23 = .ok (.imul, 1) := by decide +kernel
theorem dX9_isKnownBy_24 : decode cX9_isKnownBy 24 = .ok (.if_icmp .ge 79, 3) := by decide +kernel
theorem dX9_isKnownBy_27 : decode cX9_isKnownBy 27 = .ok (.iload_n 3, 1) := by decide +kernel
theorem dX9_isKnownBy_28 : decode cX9_isKnownBy 28 = .ok (.ifCond .ne 75, 3) := by decide +kernel
theorem dX9_isKnownBy_31 : decode cX9_isKnownBy 31 = .ok (.iload 4, 2) := by decide +kernel
theorem dX9_isKnownBy_33 : decode cX9_isKnownBy 33 = .ok (.iload_n 2, 1) := by decide +kernel
theorem dX9_isKnownBy_34 : decode cX9_isKnownBy 34 = .ok (.iconst 1, 1) := by decide +kernel
theorem dX9_isKnownBy_35 : decode cX9_isKnownBy 35 = .ok (.iadd, 1) := by decide +kernel
theorem dX9_isKnownBy_36 : decode cX9_isKnownBy 36 = .ok (.idiv, 1) := by decide +kernel
theorem dX9_isKnownBy_37 : decode cX9_isKnownBy 37 = .ok (.istore 5, 2) := by decide +kernel
theorem dX9_isKnownBy_39 : decode cX9_isKnownBy 39 = .ok (.iload 4, 2) := by decide +kernel
theorem dX9_isKnownBy_41 : decode cX9_isKnownBy 41 = .ok (.iload_n 2, 1) := by decide +kernel
theorem dX9_isKnownBy_42 : decode cX9_isKnownBy 42 = .ok (.iconst 1, 1) := by decide +kernel
theorem dX9_isKnownBy_43 : decode cX9_isKnownBy 43 = .ok (.iadd, 1) := by decide +kernel
theorem dX9_isKnownBy_44 : decode cX9_isKnownBy 44 = .ok (.irem, 1) := by decide +kernel
theorem dX9_isKnownBy_45 : decode cX9_isKnownBy 45 = .ok (.istore 6, 2) := by decide +kernel
theorem dX9_isKnownBy_47 : decode cX9_isKnownBy 47 = .ok (.aload_n 0, 1) := by decide +kernel
theorem dX9_isKnownBy_48 : decode cX9_isKnownBy 48 = .ok (.getfield 66, 3) := by decide +kernel
theorem dX9_isKnownBy_51 : decode cX9_isKnownBy 51 = .ok (.bipush 33, 2) := by decide +kernel
theorem dX9_isKnownBy_53 : decode cX9_isKnownBy 53 = .ok (.iload 5, 2) := by decide +kernel
theorem dX9_isKnownBy_55 : decode cX9_isKnownBy 55 = .ok (.imul, 1) := by decide +kernel
theorem dX9_isKnownBy_56 : decode cX9_isKnownBy 56 = .ok (.iload_n 1, 1) := by decide +kernel
theorem dX9_isKnownBy_57 : decode cX9_isKnownBy 57 = .ok (.iadd, 1) := by decide +kernel
theorem dX9_isKnownBy_58 : decode cX9_isKnownBy 58 = .ok (.iload 5, 2) := by decide +kernel
theorem dX9_isKnownBy_60 : decode cX9_isKnownBy 60 = .ok (.isub, 1) := by decide +kernel
theorem dX9_isKnownBy_61 : decode cX9_isKnownBy 61 = .ok (.iload 6, 2) := by decide +kernel
theorem dX9_isKnownBy_63 : decode cX9_isKnownBy 63 = .ok (.iadd, 1) := by decide +kernel
theorem dX9_isKnownBy_64 : decode cX9_isKnownBy 64 = .ok (.baload, 1) := by decide +kernel
theorem dX9_isKnownBy_65 : decode cX9_isKnownBy 65 = .ok (.ifCond .eq 30, 3) := by decide +kernel
theorem dX9_isKnownBy_68 : decode cX9_isKnownBy 68 = .ok (.aload_n 0, 1) := by decide +kernel
theorem dX9_isKnownBy_69 : decode cX9_isKnownBy 69 = .ok (.getfield 66, 3) := by decide +kernel
theorem dX9_isKnownBy_72 : decode cX9_isKnownBy 72 = .ok (.bipush 33, 2) := by decide +kernel
theorem dX9_isKnownBy_74 : decode cX9_isKnownBy 74 = .ok (.iload_n 1, 1) := by decide +kernel
theorem dX9_isKnownBy_75 : decode cX9_isKnownBy 75 = .ok (.iload 5, 2) := by decide +kernel
theorem dX9_isKnownBy_77 : decode cX9_isKnownBy 77 = .ok (.isub, 1) := by decide +kernel
theorem dX9_isKnownBy_78 : decode cX9_isKnownBy 78 = .ok (.imul, 1) := by decide +kernel
theorem dX9_isKnownBy_79 : decode cX9_isKnownBy 79 = .ok (.iload 5, 2) := by decide +kernel
theorem dX9_isKnownBy_81 : decode cX9_isKnownBy 81 = .ok (.iadd, 1) := by decide +kernel
theorem dX9_isKnownBy_82 : decode cX9_isKnownBy 82 = .ok (.iload_n 2, 1) := by decide +kernel
theorem dX9_isKnownBy_83 : decode cX9_isKnownBy 83 = .ok (.iadd, 1) := by decide +kernel
theorem dX9_isKnownBy_84 : decode cX9_isKnownBy 84 = .ok (.iload 6, 2) := by decide +kernel
theorem dX9_isKnownBy_86 : decode cX9_isKnownBy 86 = .ok (.isub, 1) := by decide +kernel
theorem dX9_isKnownBy_87 : decode cX9_isKnownBy 87 = .ok (.baload, 1) := by decide +kernel
theorem dX9_isKnownBy_88 : decode cX9_isKnownBy 88 = .ok (.ifCond .eq 7, 3) := by decide +kernel
theorem dX9_isKnownBy_91 : decode cX9_isKnownBy 91 = .ok (.iconst 1, 1) := by decide +kernel
theorem dX9_isKnownBy_92 : decode cX9_isKnownBy 92 = .ok (.goto 4, 3) := by decide +kernel
theorem dX9_isKnownBy_95 : decode cX9_isKnownBy 95 = .ok (.iconst 0, 1) := by decide +kernel
theorem dX9_isKnownBy_96 : decode cX9_isKnownBy 96 = .ok (.istore_n 3, 1) := by decide +kernel
theorem dX9_isKnownBy_97 : decode cX9_isKnownBy 97 = .ok (.iinc 4 1, 3) := by decide +kernel
theorem dX9_isKnownBy_100 : decode cX9_isKnownBy 100 = .ok (.goto (-85), 3) := by decide +kernel
theorem dX9_isKnownBy_103 : decode cX9_isKnownBy 103 = .ok (.iload_n 3, 1) := by decide +kernel
theorem dX9_isKnownBy_104 : decode cX9_isKnownBy 104 = .ok (.ireturn, 1) := by decide +kernel
theorem dX9_passesWithSlip_0 : decode cX9_passesWithSlip 0 = .ok (.iconst 0, 1) := by decide +kernel
theorem dX9_passesWithSlip_1 : decode cX9_passesWithSlip 1 = .ok (.istore_n 2, 1) := by decide +kernel
theorem dX9_passesWithSlip_2 : decode cX9_passesWithSlip 2 = .ok (.iload_n 2, 1) := by decide +kernel
theorem dX9_passesWithSlip_3 : decode cX9_passesWithSlip 3 = .ok (.sipush 1089, 3) := by decide +kernel
theorem dX9_passesWithSlip_6 : decode cX9_passesWithSlip 6 = .ok (.if_icmp .ge 33, 3) := by decide +kernel
theorem dX9_passesWithSlip_9 : decode cX9_passesWithSlip 9 = .ok (.aload_n 0, 1) := by decide +kernel
theorem dX9_passesWithSlip_10 : decode cX9_passesWithSlip 10 = .ok (.getfield 66, 3) := by decide +kernel
theorem dX9_passesWithSlip_13 : decode cX9_passesWithSlip 13 = .ok (.iload_n 2, 1) := by decide +kernel
theorem dX9_passesWithSlip_14 : decode cX9_passesWithSlip 14 = .ok (.iload_n 2, 1) := by decide +kernel
theorem dX9_passesWithSlip_15 : decode cX9_passesWithSlip 15 = .ok (.bipush 33, 2) := by decide +kernel
theorem dX9_passesWithSlip_17 : decode cX9_passesWithSlip 17 = .ok (.idiv, 1) := by decide +kernel
theorem dX9_passesWithSlip_18 : decode cX9_passesWithSlip 18 = .ok (.iload_n 2, 1) := by decide +kernel
theorem dX9_passesWithSlip_19 : decode cX9_passesWithSlip 19 = .ok (.bipush 33, 2) := by decide +kernel
theorem dX9_passesWithSlip_21 : decode cX9_passesWithSlip 21 = .ok (.irem, 1) := by decide +kernel
theorem dX9_passesWithSlip_22 : decode cX9_passesWithSlip 22 = .ok (.iadd, 1) := by decide +kernel
theorem dX9_passesWithSlip_23 : decode cX9_passesWithSlip 23 = .ok (.iconst 1, 1) := by decide +kernel
theorem dX9_passesWithSlip_24 : decode cX9_passesWithSlip 24 = .ok (.if_icmp .gt 7, 3) := by decide +kernel
theorem dX9_passesWithSlip_27 : decode cX9_passesWithSlip 27 = .ok (.iconst 1, 1) := by decide +kernel
theorem dX9_passesWithSlip_28 : decode cX9_passesWithSlip 28 = .ok (.goto 4, 3) := by decide +kernel
theorem dX9_passesWithSlip_31 : decode cX9_passesWithSlip 31 = .ok (.iconst 0, 1) := by decide +kernel
theorem dX9_passesWithSlip_32 : decode cX9_passesWithSlip 32 = .ok (.bastore, 1) := by decide +kernel
theorem dX9_passesWithSlip_33 : decode cX9_passesWithSlip 33 = .ok (.iinc 2 1, 3) := by decide +kernel
theorem dX9_passesWithSlip_36 : decode cX9_passesWithSlip 36 = .ok (.goto (-34), 3) := by decide +kernel
theorem dX9_passesWithSlip_39 : decode cX9_passesWithSlip 39 = .ok (.iconst 0, 1) := by decide +kernel
theorem dX9_passesWithSlip_40 : decode cX9_passesWithSlip 40 = .ok (.istore_n 2, 1) := by decide +kernel
theorem dX9_passesWithSlip_41 : decode cX9_passesWithSlip 41 = .ok (.aload_n 0, 1) := by decide +kernel
theorem dX9_passesWithSlip_42 : decode cX9_passesWithSlip 42 = .ok (.getfield 66, 3) := by decide +kernel
theorem dX9_passesWithSlip_45 : decode cX9_passesWithSlip 45 = .ok (.bipush 33, 2) := by decide +kernel
theorem dX9_passesWithSlip_47 : decode cX9_passesWithSlip 47 = .ok (.iload_n 1, 1) := by decide +kernel
theorem dX9_passesWithSlip_48 : decode cX9_passesWithSlip 48 = .ok (.imul, 1) := by decide +kernel
theorem dX9_passesWithSlip_49 : decode cX9_passesWithSlip 49 = .ok (.baload, 1) := by decide +kernel
theorem dX9_passesWithSlip_50 : decode cX9_passesWithSlip 50 = .ok (.ifCond .ne 112, 3) := by decide +kernel
theorem dX9_passesWithSlip_53 : decode cX9_passesWithSlip 53 = .ok (.iconst 0, 1) := by decide +kernel
theorem dX9_passesWithSlip_54 : decode cX9_passesWithSlip 54 = .ok (.istore_n 3, 1) := by decide +kernel
theorem dX9_passesWithSlip_55 : decode cX9_passesWithSlip 55 = .ok (.iload_n 3, 1) := by decide +kernel
theorem dX9_passesWithSlip_56 : decode cX9_passesWithSlip 56 = .ok (.iload_n 1, 1) := by decide +kernel
theorem dX9_passesWithSlip_57 : decode cX9_passesWithSlip 57 = .ok (.if_icmp .gt 45, 3) := by decide +kernel
theorem dX9_passesWithSlip_60 : decode cX9_passesWithSlip 60 = .ok (.iconst 0, 1) := by decide +kernel
theorem dX9_passesWithSlip_61 : decode cX9_passesWithSlip 61 = .ok (.istore 4, 2) := by decide +kernel
theorem dX9_passesWithSlip_63 : decode cX9_passesWithSlip 63 = .ok (.iload_n 3, 1) := by decide +kernel
theorem dX9_passesWithSlip_64 : decode cX9_passesWithSlip 64 = .ok (.iload 4, 2) := by decide +kernel
theorem dX9_passesWithSlip_66 : decode cX9_passesWithSlip 66 = .ok (.iadd, 1) := by decide +kernel
theorem dX9_passesWithSlip_67 : decode cX9_passesWithSlip 67 = .ok (.iload_n 1, 1) := by decide +kernel
theorem dX9_passesWithSlip_68 : decode cX9_passesWithSlip 68 = .ok (.if_icmp .gt 28, 3) := by decide +kernel
theorem dX9_passesWithSlip_71 : decode cX9_passesWithSlip 71 = .ok (.aload_n 0, 1) := by decide +kernel
theorem dX9_passesWithSlip_72 : decode cX9_passesWithSlip 72 = .ok (.getfield 69, 3) := by decide +kernel
theorem dX9_passesWithSlip_75 : decode cX9_passesWithSlip 75 = .ok (.bipush 33, 2) := by decide +kernel
theorem dX9_passesWithSlip_77 : decode cX9_passesWithSlip 77 = .ok (.iload_n 3, 1) := by decide +kernel
theorem dX9_passesWithSlip_78 : decode cX9_passesWithSlip 78 = .ok (.imul, 1) := by decide +kernel
theorem dX9_passesWithSlip_79 : decode cX9_passesWithSlip 79 = .ok (.iload 4, 2) := by decide +kernel
theorem dX9_passesWithSlip_81 : decode cX9_passesWithSlip 81 = .ok (.iadd, 1) := by decide +kernel
theorem dX9_passesWithSlip_82 : decode cX9_passesWithSlip 82 = .ok (.aload_n 0, 1) := by decide +kernel
theorem dX9_passesWithSlip_83 : decode cX9_passesWithSlip 83 = .ok (.iload_n 3, 1) := by decide +kernel
theorem dX9_passesWithSlip_84 : decode cX9_passesWithSlip 84 = .ok (.iload 4, 2) := by decide +kernel
theorem dX9_passesWithSlip_86 : decode cX9_passesWithSlip 86 = .ok (.invokevirtual 343, 3) := by decide +kernel
theorem dX9_passesWithSlip_89 : decode cX9_passesWithSlip 89 = .ok (.bastore, 1) := by decide +kernel
theorem dX9_passesWithSlip_90 : decode cX9_passesWithSlip 90 = .ok (.iinc 4 1, 3) := by decide +kernel
theorem dX9_passesWithSlip_93 : decode cX9_passesWithSlip 93 = .ok (.goto (-30), 3) := by decide +kernel
theorem dX9_passesWithSlip_96 : decode cX9_passesWithSlip 96 = .ok (.iinc 3 1, 3) := by decide +kernel
theorem dX9_passesWithSlip_99 : decode cX9_passesWithSlip 99 = .ok (.goto (-44), 3) := by decide +kernel
theorem dX9_passesWithSlip_102 : decode cX9_passesWithSlip 102 = .ok (.iconst 0, 1) := by decide +kernel
theorem dX9_passesWithSlip_103 : decode cX9_passesWithSlip 103 = .ok (.istore_n 3, 1) := by decide +kernel
theorem dX9_passesWithSlip_104 : decode cX9_passesWithSlip 104 = .ok (.iload_n 3, 1) := by decide +kernel
theorem dX9_passesWithSlip_105 : decode cX9_passesWithSlip 105 = .ok (.iload_n 1, 1) := by decide +kernel
theorem dX9_passesWithSlip_106 : decode cX9_passesWithSlip 106 = .ok (.if_icmp .gt 50, 3) := by decide +kernel
theorem dX9_passesWithSlip_109 : decode cX9_passesWithSlip 109 = .ok (.iconst 0, 1) := by decide +kernel
theorem dX9_passesWithSlip_110 : decode cX9_passesWithSlip 110 = .ok (.istore 4, 2) := by decide +kernel
theorem dX9_passesWithSlip_112 : decode cX9_passesWithSlip 112 = .ok (.iload_n 3, 1) := by decide +kernel
theorem dX9_passesWithSlip_113 : decode cX9_passesWithSlip 113 = .ok (.iload 4, 2) := by decide +kernel
theorem dX9_passesWithSlip_115 : decode cX9_passesWithSlip 115 = .ok (.iadd, 1) := by decide +kernel
theorem dX9_passesWithSlip_116 : decode cX9_passesWithSlip 116 = .ok (.iload_n 1, 1) := by decide +kernel
theorem dX9_passesWithSlip_117 : decode cX9_passesWithSlip 117 = .ok (.if_icmp .gt 33, 3) := by decide +kernel
theorem dX9_passesWithSlip_120 : decode cX9_passesWithSlip 120 = .ok (.aload_n 0, 1) := by decide +kernel
theorem dX9_passesWithSlip_121 : decode cX9_passesWithSlip 121 = .ok (.getfield 66, 3) := by decide +kernel
theorem dX9_passesWithSlip_124 : decode cX9_passesWithSlip 124 = .ok (.bipush 33, 2) := by decide +kernel
theorem dX9_passesWithSlip_126 : decode cX9_passesWithSlip 126 = .ok (.iload_n 3, 1) := by decide +kernel
theorem dX9_passesWithSlip_127 : decode cX9_passesWithSlip 127 = .ok (.imul, 1) := by decide +kernel
theorem dX9_passesWithSlip_128 : decode cX9_passesWithSlip 128 = .ok (.iload 4, 2) := by decide +kernel
theorem dX9_passesWithSlip_130 : decode cX9_passesWithSlip 130 = .ok (.iadd, 1) := by decide +kernel
theorem dX9_passesWithSlip_131 : decode cX9_passesWithSlip 131 = .ok (.aload_n 0, 1) := by decide +kernel
theorem dX9_passesWithSlip_132 : decode cX9_passesWithSlip 132 = .ok (.getfield 69, 3) := by decide +kernel
theorem dX9_passesWithSlip_135 : decode cX9_passesWithSlip 135 = .ok (.bipush 33, 2) := by decide +kernel
theorem dX9_passesWithSlip_137 : decode cX9_passesWithSlip 137 = .ok (.iload_n 3, 1) := by decide +kernel
theorem dX9_passesWithSlip_138 : decode cX9_passesWithSlip 138 = .ok (.imul, 1) := by decide +kernel
theorem dX9_passesWithSlip_139 : decode cX9_passesWithSlip 139 = .ok (.iload 4, 2) := by decide +kernel
theorem dX9_passesWithSlip_141 : decode cX9_passesWithSlip 141 = .ok (.iadd, 1) := by decide +kernel
theorem dX9_passesWithSlip_142 : decode cX9_passesWithSlip 142 = .ok (.baload, 1) := by decide +kernel
theorem dX9_passesWithSlip_143 : decode cX9_passesWithSlip 143 = .ok (.bastore, 1) := by decide +kernel
theorem dX9_passesWithSlip_144 : decode cX9_passesWithSlip 144 = .ok (.iinc 4 1, 3) := by decide +kernel
theorem dX9_passesWithSlip_147 : decode cX9_passesWithSlip 147 = .ok (.goto (-35), 3) := by decide +kernel
theorem dX9_passesWithSlip_150 : decode cX9_passesWithSlip 150 = .ok (.iinc 3 1, 3) := by decide +kernel
theorem dX9_passesWithSlip_153 : decode cX9_passesWithSlip 153 = .ok (.goto (-49), 3) := by decide +kernel
theorem dX9_passesWithSlip_156 : decode cX9_passesWithSlip 156 = .ok (.iinc 2 1, 3) := by decide +kernel
theorem dX9_passesWithSlip_159 : decode cX9_passesWithSlip 159 = .ok (.goto (-118), 3) := by decide +kernel
theorem dX9_passesWithSlip_162 : decode cX9_passesWithSlip 162 = .ok (.iload_n 2, 1) := by decide +kernel
theorem dX9_passesWithSlip_163 : decode cX9_passesWithSlip 163 = .ok (.ireturn, 1) := by decide +kernel
theorem dX9_figures_0 : decode cX9_figures 0 = .ok (.iconst 0, 1) := by decide +kernel
theorem dX9_figures_1 : decode cX9_figures 1 = .ok (.istore_n 1, 1) := by decide +kernel
theorem dX9_figures_2 : decode cX9_figures 2 = .ok (.iconst 1, 1) := by decide +kernel
theorem dX9_figures_3 : decode cX9_figures 3 = .ok (.iload_n 1, 1) := by decide +kernel
theorem dX9_figures_4 : decode cX9_figures 4 = .ok (.ishl, 1) := by decide +kernel
theorem dX9_figures_5 : decode cX9_figures 5 = .ok (.iload_n 0, 1) := by decide +kernel
theorem dX9_figures_6 : decode cX9_figures 6 = .ok (.if_icmp .ge 9, 3) := by decide +kernel
theorem dX9_figures_9 : decode cX9_figures 9 = .ok (.iinc 1 1, 3) := by decide +kernel
theorem dX9_figures_12 : decode cX9_figures 12 = .ok (.goto (-10), 3) := by decide +kernel
theorem dX9_figures_15 : decode cX9_figures 15 = .ok (.iload_n 1, 1) := by decide +kernel
theorem dX9_figures_16 : decode cX9_figures 16 = .ok (.ireturn, 1) := by decide +kernel
theorem dX9_passes_0 : decode cX9_passes 0 = .ok (.iload_n 1, 1) := by decide +kernel
theorem dX9_passes_1 : decode cX9_passes 1 = .ok (.i2l, 1) := by decide +kernel
theorem dX9_passes_2 : decode cX9_passes 2 = .ok (.lconst 1, 1) := by decide +kernel
theorem dX9_passes_3 : decode cX9_passes 3 = .ok (.ldc2_w 346, 3) := by decide +kernel
theorem dX9_passes_6 : decode cX9_passes 6 = .ok (.invokestatic 90, 3) := by decide +kernel
theorem dX9_passes_9 : decode cX9_passes 9 = .ok (.ifCond .eq 13, 3) := by decide +kernel
theorem dX9_passes_12 : decode cX9_passes 12 = .ok (.iload_n 2, 1) := by decide +kernel
theorem dX9_passes_13 : decode cX9_passes 13 = .ok (.i2l, 1) := by decide +kernel
theorem dX9_passes_14 : decode cX9_passes 14 = .ok (.lconst 0, 1) := by decide +kernel
theorem dX9_passes_15 : decode cX9_passes 15 = .ok (.lconst 1, 1) := by decide +kernel
theorem dX9_passes_16 : decode cX9_passes 16 = .ok (.invokestatic 90, 3) := by decide +kernel
theorem dX9_passes_19 : decode cX9_passes 19 = .ok (.ifCond .ne 6, 3) := by decide +kernel
theorem dX9_passes_22 : decode cX9_passes 22 = .ok (.ldc 99, 2) := by decide +kernel
theorem dX9_passes_24 : decode cX9_passes 24 = .ok (.ireturn, 1) := by decide +kernel
theorem dX9_passes_25 : decode cX9_passes 25 = .ok (.iload_n 2, 1) := by decide +kernel
theorem dX9_passes_26 : decode cX9_passes 26 = .ok (.ifCond .ne 10, 3) := by decide +kernel
theorem dX9_passes_29 : decode cX9_passes 29 = .ok (.iload_n 1, 1) := by decide +kernel
theorem dX9_passes_30 : decode cX9_passes 30 = .ok (.invokestatic 348, 3) := by decide +kernel
theorem dX9_passes_33 : decode cX9_passes 33 = .ok (.goto 8, 3) := by decide +kernel
theorem dX9_passes_36 : decode cX9_passes 36 = .ok (.aload_n 0, 1) := by decide +kernel
theorem dX9_passes_37 : decode cX9_passes 37 = .ok (.iload_n 1, 1) := by decide +kernel
theorem dX9_passes_38 : decode cX9_passes 38 = .ok (.invokevirtual 351, 3) := by decide +kernel
theorem dX9_passes_41 : decode cX9_passes 41 = .ok (.ireturn, 1) := by decide +kernel
theorem dX9_pairs_0 : decode cX9_pairs 0 = .ok (.iload_n 1, 1) := by decide +kernel
theorem dX9_pairs_1 : decode cX9_pairs 1 = .ok (.i2l, 1) := by decide +kernel
theorem dX9_pairs_2 : decode cX9_pairs 2 = .ok (.ldc2_w 267, 3) := by decide +kernel
theorem dX9_pairs_5 : decode cX9_pairs 5 = .ok (.ldc2_w 346, 3) := by decide +kernel
theorem dX9_pairs_8 : decode cX9_pairs 8 = .ok (.invokestatic 90, 3) := by decide +kernel
theorem dX9_pairs_11 : decode cX9_pairs 11 = .ok (.ifCond .eq 16, 3) := by decide +kernel
theorem dX9_pairs_14 : decode cX9_pairs 14 = .ok (.iload_n 1, 1) := by decide +kernel
theorem dX9_pairs_15 : decode cX9_pairs 15 = .ok (.iload_n 1, 1) := by decide +kernel
theorem dX9_pairs_16 : decode cX9_pairs 16 = .ok (.iconst 1, 1) := by decide +kernel
theorem dX9_pairs_17 : decode cX9_pairs 17 = .ok (.isub, 1) := by decide +kernel
theorem dX9_pairs_18 : decode cX9_pairs 18 = .ok (.imul, 1) := by decide +kernel
theorem dX9_pairs_19 : decode cX9_pairs 19 = .ok (.iconst 2, 1) := by decide +kernel
theorem dX9_pairs_20 : decode cX9_pairs 20 = .ok (.idiv, 1) := by decide +kernel
theorem dX9_pairs_21 : decode cX9_pairs 21 = .ok (.invokestatic 348, 3) := by decide +kernel
theorem dX9_pairs_24 : decode cX9_pairs 24 = .ok (.goto 5, 3) := by decide +kernel
theorem dX9_pairs_27 : decode cX9_pairs 27 = .ok (.ldc 99, 2) := by decide +kernel
theorem dX9_pairs_29 : decode cX9_pairs 29 = .ok (.ireturn, 1) := by decide +kernel
theorem dX9_isHome_0 : decode cX9_isHome 0 = .ok (.iload_n 0, 1) := by decide +kernel
theorem dX9_isHome_1 : decode cX9_isHome 1 = .ok (.i2l, 1) := by decide +kernel
theorem dX9_isHome_2 : decode cX9_isHome 2 = .ok (.ldc2_w 354, 3) := by decide +kernel
theorem dX9_isHome_5 : decode cX9_isHome 5 = .ok (.ldc2_w 356, 3) := by decide +kernel
theorem dX9_isHome_8 : decode cX9_isHome 8 = .ok (.invokestatic 90, 3) := by decide +kernel
theorem dX9_isHome_11 : decode cX9_isHome 11 = .ok (.ireturn, 1) := by decide +kernel
theorem dX9_join_0 : decode cX9_join 0 = .ok (.iload_n 1, 1) := by decide +kernel
theorem dX9_join_1 : decode cX9_join 1 = .ok (.invokestatic 358, 3) := by decide +kernel
theorem dX9_join_4 : decode cX9_join 4 = .ok (.ifCond .ne 6, 3) := by decide +kernel
theorem dX9_join_7 : decode cX9_join 7 = .ok (.ldc 99, 2) := by decide +kernel
theorem dX9_join_9 : decode cX9_join 9 = .ok (.ireturn, 1) := by decide +kernel
theorem dX9_join_10 : decode cX9_join 10 = .ok (.aload_n 0, 1) := by decide +kernel
theorem dX9_join_11 : decode cX9_join 11 = .ok (.getfield 206, 3) := by decide +kernel
theorem dX9_join_14 : decode cX9_join 14 = .ok (.bipush 8, 2) := by decide +kernel
theorem dX9_join_16 : decode cX9_join 16 = .ok (.if_icmp .ne 6, 3) := by decide +kernel
theorem dX9_join_19 : decode cX9_join 19 = .ok (.ldc 103, 2) := by decide +kernel
theorem dX9_join_21 : decode cX9_join 21 = .ok (.ireturn, 1) := by decide +kernel
theorem dX9_join_22 : decode cX9_join 22 = .ok (.aload_n 0, 1) := by decide +kernel
theorem dX9_join_23 : decode cX9_join 23 = .ok (.getfield 72, 3) := by decide +kernel
theorem dX9_join_26 : decode cX9_join 26 = .ok (.aload_n 0, 1) := by decide +kernel
theorem dX9_join_27 : decode cX9_join 27 = .ok (.getfield 206, 3) := by decide +kernel
theorem dX9_join_30 : decode cX9_join 30 = .ok (.iload_n 1, 1) := by decide +kernel
theorem dX9_join_31 : decode cX9_join 31 = .ok (.iastore, 1) := by decide +kernel
theorem dX9_join_32 : decode cX9_join 32 = .ok (.aload_n 0, 1) := by decide +kernel
theorem dX9_join_33 : decode cX9_join 33 = .ok (.dup, 1) := by decide +kernel
theorem dX9_join_34 : decode cX9_join 34 = .ok (.getfield 206, 3) := by decide +kernel
theorem dX9_join_37 : decode cX9_join 37 = .ok (.iconst 1, 1) := by decide +kernel
theorem dX9_join_38 : decode cX9_join 38 = .ok (.iadd, 1) := by decide +kernel
theorem dX9_join_39 : decode cX9_join 39 = .ok (.putfield 206, 3) := by decide +kernel
theorem dX9_join_42 : decode cX9_join 42 = .ok (.aload_n 0, 1) := by decide +kernel
theorem dX9_join_43 : decode cX9_join 43 = .ok (.getfield 206, 3) := by decide +kernel
theorem dX9_join_46 : decode cX9_join 46 = .ok (.ireturn, 1) := by decide +kernel
theorem dX9_part_0 : decode cX9_part 0 = .ok (.aload_n 0, 1) := by decide +kernel
theorem dX9_part_1 : decode cX9_part 1 = .ok (.getfield 206, 3) := by decide +kernel
theorem dX9_part_4 : decode cX9_part 4 = .ok (.istore_n 1, 1) := by decide +kernel
theorem dX9_part_5 : decode cX9_part 5 = .ok (.aload_n 0, 1) := by decide +kernel
theorem dX9_part_6 : decode cX9_part 6 = .ok (.iconst 0, 1) := by decide +kernel
theorem dX9_part_7 : decode cX9_part 7 = .ok (.putfield 206, 3) := by decide +kernel
theorem dX9_part_10 : decode cX9_part 10 = .ok (.iload_n 1, 1) := by decide +kernel
theorem dX9_part_11 : decode cX9_part 11 = .ok (.ireturn, 1) := by decide +kernel
theorem dX9_ends_0 : decode cX9_ends 0 = .ok (.iload_n 1, 1) := by decide +kernel
theorem dX9_ends_1 : decode cX9_ends 1 = .ok (.i2l, 1) := by decide +kernel
theorem dX9_ends_2 : decode cX9_ends 2 = .ok (.lconst 0, 1) := by decide +kernel
theorem dX9_ends_3 : decode cX9_ends 3 = .ok (.lconst 1, 1) := by decide +kernel
theorem dX9_ends_4 : decode cX9_ends 4 = .ok (.invokestatic 90, 3) := by decide +kernel
theorem dX9_ends_7 : decode cX9_ends 7 = .ok (.ifCond .ne 6, 3) := by decide +kernel
theorem dX9_ends_10 : decode cX9_ends 10 = .ok (.ldc 99, 2) := by decide +kernel
theorem dX9_ends_12 : decode cX9_ends 12 = .ok (.ireturn, 1) := by decide +kernel
theorem dX9_ends_13 : decode cX9_ends 13 = .ok (.aload_n 0, 1) := by decide +kernel
theorem dX9_ends_14 : decode cX9_ends 14 = .ok (.getfield 206, 3) := by decide +kernel
theorem dX9_ends_17 : decode cX9_ends 17 = .ok (.ifCond .ne 7, 3) := by decide +kernel
theorem dX9_ends_20 : decode cX9_ends 20 = .ok (.ldc_w 277, 3) := by decide +kernel
theorem dX9_ends_23 : decode cX9_ends 23 = .ok (.ireturn, 1) := by decide +kernel
theorem dX9_ends_24 : decode cX9_ends 24 = .ok (.iconst 0, 1) := by decide +kernel
theorem dX9_ends_25 : decode cX9_ends 25 = .ok (.istore_n 2, 1) := by decide +kernel
theorem dX9_ends_26 : decode cX9_ends 26 = .ok (.iload_n 2, 1) := by decide +kernel
theorem dX9_ends_27 : decode cX9_ends 27 = .ok (.aload_n 0, 1) := by decide +kernel
theorem dX9_ends_28 : decode cX9_ends 28 = .ok (.getfield 206, 3) := by decide +kernel
theorem dX9_ends_31 : decode cX9_ends 31 = .ok (.if_icmp .ge 21, 3) := by decide +kernel
theorem dX9_ends_34 : decode cX9_ends 34 = .ok (.aload_n 0, 1) := by decide +kernel
theorem dX9_ends_35 : decode cX9_ends 35 = .ok (.getfield 75, 3) := by decide +kernel
theorem dX9_ends_38 : decode cX9_ends 38 = .ok (.iload_n 2, 1) := by decide +kernel
theorem dX9_ends_39 : decode cX9_ends 39 = .ok (.aload_n 0, 1) := by decide +kernel
theorem dX9_ends_40 : decode cX9_ends 40 = .ok (.getfield 72, 3) := by decide +kernel
theorem dX9_ends_43 : decode cX9_ends 43 = .ok (.iload_n 2, 1) := by decide +kernel
theorem dX9_ends_44 : decode cX9_ends 44 = .ok (.iaload, 1) := by decide +kernel
theorem dX9_ends_45 : decode cX9_ends 45 = .ok (.iastore, 1) := by decide +kernel
theorem dX9_ends_46 : decode cX9_ends 46 = .ok (.iinc 2 1, 3) := by decide +kernel
theorem dX9_ends_49 : decode cX9_ends 49 = .ok (.goto (-23), 3) := by decide +kernel
theorem dX9_ends_52 : decode cX9_ends 52 = .ok (.iconst 0, 1) := by decide +kernel
theorem dX9_ends_53 : decode cX9_ends 53 = .ok (.istore_n 2, 1) := by decide +kernel
theorem dX9_ends_54 : decode cX9_ends 54 = .ok (.iconst 0, 1) := by decide +kernel
theorem dX9_ends_55 : decode cX9_ends 55 = .ok (.istore_n 3, 1) := by decide +kernel
theorem dX9_ends_56 : decode cX9_ends 56 = .ok (.iconst 1, 1) := by decide +kernel
theorem dX9_ends_57 : decode cX9_ends 57 = .ok (.istore 4, 2) := by decide +kernel
theorem dX9_ends_59 : decode cX9_ends 59 = .ok (.iload 4, 2) := by decide +kernel
theorem dX9_ends_61 : decode cX9_ends 61 = .ok (.ifCond .eq 123, 3) := by decide +kernel
theorem dX9_ends_64 : decode cX9_ends 64 = .ok (.iconst 0, 1) := by decide +kernel
theorem dX9_ends_65 : decode cX9_ends 65 = .ok (.istore 5, 2) := by decide +kernel
theorem dX9_ends_67 : decode cX9_ends 67 = .ok (.iconst 0, 1) := by decide +kernel
theorem dX9_ends_68 : decode cX9_ends 68 = .ok (.istore 6, 2) := by decide +kernel
theorem dX9_ends_70 : decode cX9_ends 70 = .ok (.iload 6, 2) := by decide +kernel
theorem dX9_ends_72 : decode cX9_ends 72 = .ok (.aload_n 0, 1) := by decide +kernel
theorem dX9_ends_73 : decode cX9_ends 73 = .ok (.getfield 206, 3) := by decide +kernel
theorem dX9_ends_76 : decode cX9_ends 76 = .ok (.if_icmp .ge 21, 3) := by decide +kernel
theorem dX9_ends_79 : decode cX9_ends 79 = .ok (.iload 5, 2) := by decide +kernel
theorem dX9_ends_81 : decode cX9_ends 81 = .ok (.aload_n 0, 1) := by decide +kernel
theorem dX9_ends_82 : decode cX9_ends 82 = .ok (.getfield 75, 3) := by decide +kernel
theorem dX9_ends_85 : decode cX9_ends 85 = .ok (.iload 6, 2) := by decide +kernel
theorem dX9_ends_87 : decode cX9_ends 87 = .ok (.iaload, 1) := by decide +kernel
theorem dX9_ends_88 : decode cX9_ends 88 = .ok (.iadd, 1) := by decide +kernel
theorem dX9_ends_89 : decode cX9_ends 89 = .ok (.istore 5, 2) := by decide +kernel
theorem dX9_ends_91 : decode cX9_ends 91 = .ok (.iinc 6 1, 3) := by decide +kernel
theorem dX9_ends_94 : decode cX9_ends 94 = .ok (.goto (-24), 3) := by decide +kernel
theorem dX9_ends_97 : decode cX9_ends 97 = .ok (.iload 5, 2) := by decide +kernel
theorem dX9_ends_99 : decode cX9_ends 99 = .ok (.aload_n 0, 1) := by decide +kernel
theorem dX9_ends_100 : decode cX9_ends 100 = .ok (.getfield 206, 3) := by decide +kernel
theorem dX9_ends_103 : decode cX9_ends 103 = .ok (.idiv, 1) := by decide +kernel
theorem dX9_ends_104 : decode cX9_ends 104 = .ok (.istore_n 3, 1) := by decide +kernel
theorem dX9_ends_105 : decode cX9_ends 105 = .ok (.iconst 0, 1) := by decide +kernel
theorem dX9_ends_106 : decode cX9_ends 106 = .ok (.istore 4, 2) := by decide +kernel
theorem dX9_ends_108 : decode cX9_ends 108 = .ok (.iconst 0, 1) := by decide +kernel
theorem dX9_ends_109 : decode cX9_ends 109 = .ok (.istore 6, 2) := by decide +kernel
theorem dX9_ends_111 : decode cX9_ends 111 = .ok (.iload 6, 2) := by decide +kernel
theorem dX9_ends_113 : decode cX9_ends 113 = .ok (.aload_n 0, 1) := by decide +kernel
theorem dX9_ends_114 : decode cX9_ends 114 = .ok (.getfield 206, 3) := by decide +kernel
theorem dX9_ends_117 : decode cX9_ends 117 = .ok (.if_icmp .ge 51, 3) := by decide +kernel
theorem dX9_ends_120 : decode cX9_ends 120 = .ok (.iload_n 3, 1) := by decide +kernel
theorem dX9_ends_121 : decode cX9_ends 121 = .ok (.aload_n 0, 1) := by decide +kernel
theorem dX9_ends_122 : decode cX9_ends 122 = .ok (.getfield 75, 3) := by decide +kernel
theorem dX9_ends_125 : decode cX9_ends 125 = .ok (.iload 6, 2) := by decide +kernel
theorem dX9_ends_127 : decode cX9_ends 127 = .ok (.iaload, 1) := by decide +kernel
theorem dX9_ends_128 : decode cX9_ends 128 = .ok (.isub, 1) := by decide +kernel
theorem dX9_ends_129 : decode cX9_ends 129 = .ok (.iconst 2, 1) := by decide +kernel
theorem dX9_ends_130 : decode cX9_ends 130 = .ok (.idiv, 1) := by decide +kernel
theorem dX9_ends_131 : decode cX9_ends 131 = .ok (.istore 7, 2) := by decide +kernel
theorem dX9_ends_133 : decode cX9_ends 133 = .ok (.iload 4, 2) := by decide +kernel
theorem dX9_ends_135 : decode cX9_ends 135 = .ok (.ifCond .ne 8, 3) := by decide +kernel
theorem dX9_ends_138 : decode cX9_ends 138 = .ok (.iload 7, 2) := by decide +kernel
theorem dX9_ends_140 : decode cX9_ends 140 = .ok (.ifCond .eq 7, 3) := by decide +kernel
theorem dX9_ends_143 : decode cX9_ends 143 = .ok (.iconst 1, 1) := by decide +kernel
theorem dX9_ends_144 : decode cX9_ends 144 = .ok (.goto 4, 3) := by decide +kernel
theorem dX9_ends_147 : decode cX9_ends 147 = .ok (.iconst 0, 1) := by decide +kernel
theorem dX9_ends_148 : decode cX9_ends 148 = .ok (.istore 4, 2) := by decide +kernel
theorem dX9_ends_150 : decode cX9_ends 150 = .ok (.aload_n 0, 1) := by decide +kernel
theorem dX9_ends_151 : decode cX9_ends 151 = .ok (.getfield 75, 3) := by decide +kernel
theorem dX9_ends_154 : decode cX9_ends 154 = .ok (.iload 6, 2) := by decide +kernel
theorem dX9_ends_156 : decode cX9_ends 156 = .ok (.dup2, 1) := by decide +kernel
theorem dX9_ends_157 : decode cX9_ends 157 = .ok (.iaload, 1) := by decide +kernel
theorem dX9_ends_158 : decode cX9_ends 158 = .ok (.iload 7, 2) := by decide +kernel
theorem dX9_ends_160 : decode cX9_ends 160 = .ok (.iadd, 1) := by decide +kernel
theorem dX9_ends_161 : decode cX9_ends 161 = .ok (.iastore, 1) := by decide +kernel
theorem dX9_ends_162 : decode cX9_ends 162 = .ok (.iinc 6 1, 3) := by decide +kernel
theorem dX9_ends_165 : decode cX9_ends 165 = .ok (.goto (-54), 3) := by decide +kernel
theorem dX9_ends_168 : decode cX9_ends 168 = .ok (.iload_n 2, 1) := by decide +kernel
theorem dX9_ends_169 : decode cX9_ends 169 = .ok (.iload 4, 2) := by decide +kernel
theorem dX9_ends_171 : decode cX9_ends 171 = .ok (.ifCond .eq 7, 3) := by decide +kernel
theorem dX9_ends_174 : decode cX9_ends 174 = .ok (.iconst 1, 1) := by decide +kernel
theorem dX9_ends_175 : decode cX9_ends 175 = .ok (.goto 4, 3) := by decide +kernel
theorem dX9_ends_178 : decode cX9_ends 178 = .ok (.iconst 0, 1) := by decide +kernel
theorem dX9_ends_179 : decode cX9_ends 179 = .ok (.iadd, 1) := by decide +kernel
theorem dX9_ends_180 : decode cX9_ends 180 = .ok (.istore_n 2, 1) := by decide +kernel
theorem dX9_ends_181 : decode cX9_ends 181 = .ok (.goto (-122), 3) := by decide +kernel
theorem dX9_ends_184 : decode cX9_ends 184 = .ok (.iload_n 1, 1) := by decide +kernel
theorem dX9_ends_185 : decode cX9_ends 185 = .ok (.ifCond .ne 7, 3) := by decide +kernel
theorem dX9_ends_188 : decode cX9_ends 188 = .ok (.iload_n 3, 1) := by decide +kernel
theorem dX9_ends_189 : decode cX9_ends 189 = .ok (.goto 4, 3) := by decide +kernel
theorem dX9_ends_192 : decode cX9_ends 192 = .ok (.iload_n 2, 1) := by decide +kernel
theorem dX9_ends_193 : decode cX9_ends 193 = .ok (.ireturn, 1) := by decide +kernel
theorem dX9_round_0 : decode cX9_round 0 = .ok (.iload_n 1, 1) := by decide +kernel
theorem dX9_round_1 : decode cX9_round 1 = .ok (.invokestatic 358, 3) := by decide +kernel
theorem dX9_round_4 : decode cX9_round 4 = .ok (.ifCond .eq 33, 3) := by decide +kernel
theorem dX9_round_7 : decode cX9_round 7 = .ok (.iload_n 2, 1) := by decide +kernel
theorem dX9_round_8 : decode cX9_round 8 = .ok (.invokestatic 358, 3) := by decide +kernel
theorem dX9_round_11 : decode cX9_round 11 = .ok (.ifCond .eq 26, 3) := by decide +kernel
theorem dX9_round_14 : decode cX9_round 14 = .ok (.iload_n 3, 1) := by decide +kernel
theorem dX9_round_15 : decode cX9_round 15 = .ok (.i2l, 1) := by decide +kernel
theorem dX9_round_16 : decode cX9_round 16 = .ok (.lconst 0, 1) := by decide +kernel
theorem dX9_round_17 : decode cX9_round 17 = .ok (.ldc2_w 284, 3) := by decide +kernel
theorem dX9_round_20 : decode cX9_round 20 = .ok (.invokestatic 90, 3) := by decide +kernel
theorem dX9_round_23 : decode cX9_round 23 = .ok (.ifCond .eq 14, 3) := by decide +kernel
theorem dX9_round_26 : decode cX9_round 26 = .ok (.iload 4, 2) := by decide +kernel
theorem dX9_round_28 : decode cX9_round 28 = .ok (.i2l, 1) := by decide +kernel
theorem dX9_round_29 : decode cX9_round 29 = .ok (.lconst 0, 1) := by decide +kernel
theorem dX9_round_30 : decode cX9_round 30 = .ok (.lconst 1, 1) := by decide +kernel
theorem dX9_round_31 : decode cX9_round 31 = .ok (.invokestatic 90, 3) := by decide +kernel
theorem dX9_round_34 : decode cX9_round 34 = .ok (.ifCond .ne 6, 3) := by decide +kernel
theorem dX9_round_37 : decode cX9_round 37 = .ok (.ldc 99, 2) := by decide +kernel
theorem dX9_round_39 : decode cX9_round 39 = .ok (.ireturn, 1) := by decide +kernel
theorem dX9_round_40 : decode cX9_round 40 = .ok (.iload_n 1, 1) := by decide +kernel
theorem dX9_round_41 : decode cX9_round 41 = .ok (.istore 5, 2) := by decide +kernel
theorem dX9_round_43 : decode cX9_round 43 = .ok (.iload_n 2, 1) := by decide +kernel
theorem dX9_round_44 : decode cX9_round 44 = .ok (.istore 6, 2) := by decide +kernel
theorem dX9_round_46 : decode cX9_round 46 = .ok (.iconst 0, 1) := by decide +kernel
theorem dX9_round_47 : decode cX9_round 47 = .ok (.istore 7, 2) := by decide +kernel
theorem dX9_round_49 : decode cX9_round 49 = .ok (.iload 7, 2) := by decide +kernel
theorem dX9_round_51 : decode cX9_round 51 = .ok (.iload_n 3, 1) := by decide +kernel
theorem dX9_round_52 : decode cX9_round 52 = .ok (.if_icmp .ge 32, 3) := by decide +kernel
theorem dX9_round_55 : decode cX9_round 55 = .ok (.iload 6, 2) := by decide +kernel
theorem dX9_round_57 : decode cX9_round 57 = .ok (.iload 5, 2) := by decide +kernel
theorem dX9_round_59 : decode cX9_round 59 = .ok (.isub, 1) := by decide +kernel
theorem dX9_round_60 : decode cX9_round 60 = .ok (.iconst 3, 1) := by decide +kernel
theorem dX9_round_61 : decode cX9_round 61 = .ok (.idiv, 1) := by decide +kernel
theorem dX9_round_62 : decode cX9_round 62 = .ok (.istore 8, 2) := by decide +kernel
theorem dX9_round_64 : decode cX9_round 64 = .ok (.iload 5, 2) := by decide +kernel
theorem dX9_round_66 : decode cX9_round 66 = .ok (.iload 8, 2) := by decide +kernel
theorem dX9_round_68 : decode cX9_round 68 = .ok (.iadd, 1) := by decide +kernel
theorem dX9_round_69 : decode cX9_round 69 = .ok (.istore 5, 2) := by decide +kernel
theorem dX9_round_71 : decode cX9_round 71 = .ok (.iload 6, 2) := by decide +kernel
theorem dX9_round_73 : decode cX9_round 73 = .ok (.iload 8, 2) := by decide +kernel
theorem dX9_round_75 : decode cX9_round 75 = .ok (.isub, 1) := by decide +kernel
theorem dX9_round_76 : decode cX9_round 76 = .ok (.istore 6, 2) := by decide +kernel
theorem dX9_round_78 : decode cX9_round 78 = .ok (.iinc 7 1, 3) := by decide +kernel
theorem dX9_round_81 : decode cX9_round 81 = .ok (.goto (-32), 3) := by decide +kernel
theorem dX9_round_84 : decode cX9_round 84 = .ok (.iload 4, 2) := by decide +kernel
theorem dX9_round_86 : decode cX9_round 86 = .ok (.ifCond .ne 8, 3) := by decide +kernel
theorem dX9_round_89 : decode cX9_round 89 = .ok (.iload 5, 2) := by decide +kernel
theorem dX9_round_91 : decode cX9_round 91 = .ok (.goto 5, 3) := by decide +kernel
theorem dX9_round_94 : decode cX9_round 94 = .ok (.iload 6, 2) := by decide +kernel
theorem dX9_round_96 : decode cX9_round 96 = .ok (.ireturn, 1) := by decide +kernel
theorem dX9_write_0 : decode cX9_write 0 = .ok (.iload_n 1, 1) := by decide +kernel
theorem dX9_write_1 : decode cX9_write 1 = .ok (.i2l, 1) := by decide +kernel
theorem dX9_write_2 : decode cX9_write 2 = .ok (.lconst 0, 1) := by decide +kernel
theorem dX9_write_3 : decode cX9_write 3 = .ok (.ldc2_w 361, 3) := by decide +kernel
theorem dX9_write_6 : decode cX9_write 6 = .ok (.invokestatic 90, 3) := by decide +kernel
theorem dX9_write_9 : decode cX9_write 9 = .ok (.ifCond .ne 6, 3) := by decide +kernel
theorem dX9_write_12 : decode cX9_write 12 = .ok (.ldc 99, 2) := by decide +kernel
theorem dX9_write_14 : decode cX9_write 14 = .ok (.ireturn, 1) := by decide +kernel
theorem dX9_write_15 : decode cX9_write 15 = .ok (.aload_n 0, 1) := by decide +kernel
theorem dX9_write_16 : decode cX9_write 16 = .ok (.getfield 184, 3) := by decide +kernel
theorem dX9_write_19 : decode cX9_write 19 = .ok (.bipush 40, 2) := by decide +kernel
theorem dX9_write_21 : decode cX9_write 21 = .ok (.if_icmp .ne 6, 3) := by decide +kernel
theorem dX9_write_24 : decode cX9_write 24 = .ok (.ldc 103, 2) := by decide +kernel
theorem dX9_write_26 : decode cX9_write 26 = .ok (.ireturn, 1) := by decide +kernel
theorem dX9_write_27 : decode cX9_write 27 = .ok (.aload_n 0, 1) := by decide +kernel
theorem dX9_write_28 : decode cX9_write 28 = .ok (.getfield 78, 3) := by decide +kernel
theorem dX9_write_31 : decode cX9_write 31 = .ok (.aload_n 0, 1) := by decide +kernel
theorem dX9_write_32 : decode cX9_write 32 = .ok (.getfield 184, 3) := by decide +kernel
theorem dX9_write_35 : decode cX9_write 35 = .ok (.iload_n 1, 1) := by decide +kernel
theorem dX9_write_36 : decode cX9_write 36 = .ok (.iastore, 1) := by decide +kernel
theorem dX9_write_37 : decode cX9_write 37 = .ok (.aload_n 0, 1) := by decide +kernel
theorem dX9_write_38 : decode cX9_write 38 = .ok (.dup, 1) := by decide +kernel
theorem dX9_write_39 : decode cX9_write 39 = .ok (.getfield 184, 3) := by decide +kernel
theorem dX9_write_42 : decode cX9_write 42 = .ok (.iconst 1, 1) := by decide +kernel
theorem dX9_write_43 : decode cX9_write 43 = .ok (.iadd, 1) := by decide +kernel
theorem dX9_write_44 : decode cX9_write 44 = .ok (.putfield 184, 3) := by decide +kernel
theorem dX9_write_47 : decode cX9_write 47 = .ok (.aload_n 0, 1) := by decide +kernel
theorem dX9_write_48 : decode cX9_write 48 = .ok (.getfield 184, 3) := by decide +kernel
theorem dX9_write_51 : decode cX9_write 51 = .ok (.ireturn, 1) := by decide +kernel
theorem dX9_tear_0 : decode cX9_tear 0 = .ok (.aload_n 0, 1) := by decide +kernel
theorem dX9_tear_1 : decode cX9_tear 1 = .ok (.getfield 184, 3) := by decide +kernel
theorem dX9_tear_4 : decode cX9_tear 4 = .ok (.istore_n 1, 1) := by decide +kernel
theorem dX9_tear_5 : decode cX9_tear 5 = .ok (.aload_n 0, 1) := by decide +kernel
theorem dX9_tear_6 : decode cX9_tear 6 = .ok (.iconst 0, 1) := by decide +kernel
theorem dX9_tear_7 : decode cX9_tear 7 = .ok (.putfield 184, 3) := by decide +kernel
theorem dX9_tear_10 : decode cX9_tear 10 = .ok (.iload_n 1, 1) := by decide +kernel
theorem dX9_tear_11 : decode cX9_tear 11 = .ok (.ireturn, 1) := by decide +kernel
theorem dX9_judge_0 : decode cX9_judge 0 = .ok (.aload_n 0, 1) := by decide +kernel
theorem dX9_judge_1 : decode cX9_judge 1 = .ok (.getfield 29, 3) := by decide +kernel
theorem dX9_judge_4 : decode cX9_judge 4 = .ok (.ifCond .ge 7, 3) := by decide +kernel
theorem dX9_judge_7 : decode cX9_judge 7 = .ok (.ldc_w 277, 3) := by decide +kernel
theorem dX9_judge_10 : decode cX9_judge 10 = .ok (.ireturn, 1) := by decide +kernel
theorem dX9_judge_11 : decode cX9_judge 11 = .ok (.iconst 0, 1) := by decide +kernel
theorem dX9_judge_12 : decode cX9_judge 12 = .ok (.istore_n 1, 1) := by decide +kernel
theorem dX9_judge_13 : decode cX9_judge 13 = .ok (.iload_n 1, 1) := by decide +kernel
theorem dX9_judge_14 : decode cX9_judge 14 = .ok (.aload_n 0, 1) := by decide +kernel
theorem dX9_judge_15 : decode cX9_judge 15 = .ok (.getfield 184, 3) := by decide +kernel
theorem dX9_judge_18 : decode cX9_judge 18 = .ok (.if_icmp .ge 47, 3) := by decide +kernel
theorem dX9_judge_21 : decode cX9_judge 21 = .ok (.iload_n 1, 1) := by decide +kernel
theorem dX9_judge_22 : decode cX9_judge 22 = .ok (.aload_n 0, 1) := by decide +kernel
theorem dX9_judge_23 : decode cX9_judge 23 = .ok (.getfield 178, 3) := by decide +kernel
theorem dX9_judge_26 : decode cX9_judge 26 = .ok (.if_icmp .ge 31, 3) := by decide +kernel
theorem dX9_judge_29 : decode cX9_judge 29 = .ok (.aload_n 0, 1) := by decide +kernel
theorem dX9_judge_30 : decode cX9_judge 30 = .ok (.getfield 33, 3) := by decide +kernel
theorem dX9_judge_33 : decode cX9_judge 33 = .ok (.iload_n 1, 1) := by decide +kernel
theorem dX9_judge_34 : decode cX9_judge 34 = .ok (.iaload, 1) := by decide +kernel
theorem dX9_judge_35 : decode cX9_judge 35 = .ok (.ifCond .lt 22, 3) := by decide +kernel
theorem dX9_judge_38 : decode cX9_judge 38 = .ok (.aload_n 0, 1) := by decide +kernel
theorem dX9_judge_39 : decode cX9_judge 39 = .ok (.getfield 78, 3) := by decide +kernel
theorem dX9_judge_42 : decode cX9_judge 42 = .ok (.iload_n 1, 1) := by decide +kernel
theorem dX9_judge_43 : decode cX9_judge 43 = .ok (.iaload, 1) := by decide +kernel
theorem dX9_judge_44 : decode cX9_judge 44 = .ok (.aload_n 0, 1) := by decide +kernel
theorem dX9_judge_45 : decode cX9_judge 45 = .ok (.getfield 33, 3) := by decide +kernel
theorem dX9_judge_48 : decode cX9_judge 48 = .ok (.iload_n 1, 1) := by decide +kernel
theorem dX9_judge_49 : decode cX9_judge 49 = .ok (.iaload, 1) := by decide +kernel
theorem dX9_judge_50 : decode cX9_judge 50 = .ok (.isub, 1) := by decide +kernel
theorem dX9_judge_51 : decode cX9_judge 51 = .ok (.invokestatic 264, 3) := by decide +kernel
theorem dX9_judge_54 : decode cX9_judge 54 = .ok (.ifCond .ne 5, 3) := by decide +kernel
theorem dX9_judge_57 : decode cX9_judge 57 = .ok (.iload_n 1, 1) := by decide +kernel
theorem dX9_judge_58 : decode cX9_judge 58 = .ok (.ireturn, 1) := by decide +kernel
theorem dX9_judge_59 : decode cX9_judge 59 = .ok (.iinc 1 1, 3) := by decide +kernel
theorem dX9_judge_62 : decode cX9_judge 62 = .ok (.goto (-49), 3) := by decide +kernel
theorem dX9_judge_65 : decode cX9_judge 65 = .ok (.iconst (-1), 1) := by decide +kernel
theorem dX9_judge_66 : decode cX9_judge 66 = .ok (.ireturn, 1) := by decide +kernel
theorem dX9_seed_0 : decode cX9_seed 0 = .ok (.iload_n 1, 1) := by decide +kernel
theorem dX9_seed_1 : decode cX9_seed 1 = .ok (.ifCond .ge 6, 3) := by decide +kernel
theorem dX9_seed_4 : decode cX9_seed 4 = .ok (.ldc 99, 2) := by decide +kernel
theorem dX9_seed_6 : decode cX9_seed 6 = .ok (.ireturn, 1) := by decide +kernel
theorem dX9_seed_7 : decode cX9_seed 7 = .ok (.aload_n 0, 1) := by decide +kernel
theorem dX9_seed_8 : decode cX9_seed 8 = .ok (.getfield 227, 3) := by decide +kernel
theorem dX9_seed_11 : decode cX9_seed 11 = .ok (.istore_n 2, 1) := by decide +kernel
theorem dX9_seed_12 : decode cX9_seed 12 = .ok (.aload_n 0, 1) := by decide +kernel
theorem dX9_seed_13 : decode cX9_seed 13 = .ok (.iload_n 1, 1) := by decide +kernel
theorem dX9_seed_14 : decode cX9_seed 14 = .ok (.putfield 227, 3) := by decide +kernel
theorem dX9_seed_17 : decode cX9_seed 17 = .ok (.iload_n 2, 1) := by decide +kernel
theorem dX9_seed_18 : decode cX9_seed 18 = .ok (.ireturn, 1) := by decide +kernel
theorem dX9_keep_0 : decode cX9_keep 0 = .ok (.iload_n 1, 1) := by decide +kernel
theorem dX9_keep_1 : decode cX9_keep 1 = .ok (.i2l, 1) := by decide +kernel
theorem dX9_keep_2 : decode cX9_keep 2 = .ok (.lconst 0, 1) := by decide +kernel
theorem dX9_keep_3 : decode cX9_keep 3 = .ok (.lconst 1, 1) := by decide +kernel
theorem dX9_keep_4 : decode cX9_keep 4 = .ok (.invokestatic 90, 3) := by decide +kernel
theorem dX9_keep_7 : decode cX9_keep 7 = .ok (.ifCond .ne 6, 3) := by decide +kernel
theorem dX9_keep_10 : decode cX9_keep 10 = .ok (.ldc 216, 2) := by decide +kernel
theorem dX9_keep_12 : decode cX9_keep 12 = .ok (.ireturn, 1) := by decide +kernel
theorem dX9_keep_13 : decode cX9_keep 13 = .ok (.sipush 200, 3) := by decide +kernel
theorem dX9_keep_16 : decode cX9_keep 16 = .ok (.iload_n 1, 1) := by decide +kernel
theorem dX9_keep_17 : decode cX9_keep 17 = .ok (.imul, 1) := by decide +kernel
theorem dX9_keep_18 : decode cX9_keep 18 = .ok (.istore_n 2, 1) := by decide +kernel
theorem dX9_keep_19 : decode cX9_keep 19 = .ok (.iconst 0, 1) := by decide +kernel
theorem dX9_keep_20 : decode cX9_keep 20 = .ok (.istore_n 3, 1) := by decide +kernel
theorem dX9_keep_21 : decode cX9_keep 21 = .ok (.iload_n 3, 1) := by decide +kernel
theorem dX9_keep_22 : decode cX9_keep 22 = .ok (.bipush 40, 2) := by decide +kernel
theorem dX9_keep_24 : decode cX9_keep 24 = .ok (.if_icmp .ge 23, 3) := by decide +kernel
theorem dX9_keep_27 : decode cX9_keep 27 = .ok (.aload_n 0, 1) := by decide +kernel
theorem dX9_keep_28 : decode cX9_keep 28 = .ok (.getfield 81, 3) := by decide +kernel
theorem dX9_keep_31 : decode cX9_keep 31 = .ok (.iload_n 2, 1) := by decide +kernel
theorem dX9_keep_32 : decode cX9_keep 32 = .ok (.iload_n 3, 1) := by decide +kernel
theorem dX9_keep_33 : decode cX9_keep 33 = .ok (.iadd, 1) := by decide +kernel
theorem dX9_keep_34 : decode cX9_keep 34 = .ok (.aload_n 0, 1) := by decide +kernel
theorem dX9_keep_35 : decode cX9_keep 35 = .ok (.getfield 33, 3) := by decide +kernel
theorem dX9_keep_38 : decode cX9_keep 38 = .ok (.iload_n 3, 1) := by decide +kernel
theorem dX9_keep_39 : decode cX9_keep 39 = .ok (.iaload, 1) := by decide +kernel
theorem dX9_keep_40 : decode cX9_keep 40 = .ok (.iastore, 1) := by decide +kernel
theorem dX9_keep_41 : decode cX9_keep 41 = .ok (.iinc 3 1, 3) := by decide +kernel
theorem dX9_keep_44 : decode cX9_keep 44 = .ok (.goto (-23), 3) := by decide +kernel
theorem dX9_keep_47 : decode cX9_keep 47 = .ok (.iconst 0, 1) := by decide +kernel
theorem dX9_keep_48 : decode cX9_keep 48 = .ok (.istore_n 3, 1) := by decide +kernel
theorem dX9_keep_49 : decode cX9_keep 49 = .ok (.iload_n 3, 1) := by decide +kernel
theorem dX9_keep_50 : decode cX9_keep 50 = .ok (.bipush 6, 2) := by decide +kernel
theorem dX9_keep_52 : decode cX9_keep 52 = .ok (.if_icmp .ge 26, 3) := by decide +kernel
theorem dX9_keep_55 : decode cX9_keep 55 = .ok (.aload_n 0, 1) := by decide +kernel
theorem dX9_keep_56 : decode cX9_keep 56 = .ok (.getfield 81, 3) := by decide +kernel
theorem dX9_keep_59 : decode cX9_keep 59 = .ok (.iload_n 2, 1) := by decide +kernel
theorem dX9_keep_60 : decode cX9_keep 60 = .ok (.bipush 40, 2) := by decide +kernel
theorem dX9_keep_62 : decode cX9_keep 62 = .ok (.iadd, 1) := by decide +kernel
theorem dX9_keep_63 : decode cX9_keep 63 = .ok (.iload_n 3, 1) := by decide +kernel
theorem dX9_keep_64 : decode cX9_keep 64 = .ok (.iadd, 1) := by decide +kernel
theorem dX9_keep_65 : decode cX9_keep 65 = .ok (.aload_n 0, 1) := by decide +kernel
theorem dX9_keep_66 : decode cX9_keep 66 = .ok (.getfield 26, 3) := by decide +kernel
theorem dX9_keep_69 : decode cX9_keep 69 = .ok (.iload_n 3, 1) := by decide +kernel
theorem dX9_keep_70 : decode cX9_keep 70 = .ok (.iaload, 1) := by decide +kernel
theorem dX9_keep_71 : decode cX9_keep 71 = .ok (.iastore, 1) := by decide +kernel
theorem dX9_keep_72 : decode cX9_keep 72 = .ok (.iinc 3 1, 3) := by decide +kernel
theorem dX9_keep_75 : decode cX9_keep 75 = .ok (.goto (-26), 3) := by decide +kernel
theorem dX9_keep_78 : decode cX9_keep 78 = .ok (.iconst 0, 1) := by decide +kernel
theorem dX9_keep_79 : decode cX9_keep 79 = .ok (.istore_n 3, 1) := by decide +kernel
theorem dX9_keep_80 : decode cX9_keep 80 = .ok (.iload_n 3, 1) := by decide +kernel
theorem dX9_keep_81 : decode cX9_keep 81 = .ok (.bipush 16, 2) := by decide +kernel
theorem dX9_keep_83 : decode cX9_keep 83 = .ok (.if_icmp .ge 26, 3) := by decide +kernel
theorem dX9_keep_86 : decode cX9_keep 86 = .ok (.aload_n 0, 1) := by decide +kernel
theorem dX9_keep_87 : decode cX9_keep 87 = .ok (.getfield 81, 3) := by decide +kernel
theorem dX9_keep_90 : decode cX9_keep 90 = .ok (.iload_n 2, 1) := by decide +kernel
theorem dX9_keep_91 : decode cX9_keep 91 = .ok (.bipush 46, 2) := by decide +kernel
theorem dX9_keep_93 : decode cX9_keep 93 = .ok (.iadd, 1) := by decide +kernel
theorem dX9_keep_94 : decode cX9_keep 94 = .ok (.iload_n 3, 1) := by decide +kernel
theorem dX9_keep_95 : decode cX9_keep 95 = .ok (.iadd, 1) := by decide +kernel
theorem dX9_keep_96 : decode cX9_keep 96 = .ok (.aload_n 0, 1) := by decide +kernel
theorem dX9_keep_97 : decode cX9_keep 97 = .ok (.getfield 23, 3) := by decide +kernel
theorem dX9_keep_100 : decode cX9_keep 100 = .ok (.iload_n 3, 1) := by decide +kernel
theorem dX9_keep_101 : decode cX9_keep 101 = .ok (.iaload, 1) := by decide +kernel
theorem dX9_keep_102 : decode cX9_keep 102 = .ok (.iastore, 1) := by decide +kernel
theorem dX9_keep_103 : decode cX9_keep 103 = .ok (.iinc 3 1, 3) := by decide +kernel
theorem dX9_keep_106 : decode cX9_keep 106 = .ok (.goto (-26), 3) := by decide +kernel
theorem dX9_keep_109 : decode cX9_keep 109 = .ok (.iconst 0, 1) := by decide +kernel
theorem dX9_keep_110 : decode cX9_keep 110 = .ok (.istore_n 3, 1) := by decide +kernel
theorem dX9_keep_111 : decode cX9_keep 111 = .ok (.iload_n 3, 1) := by decide +kernel
theorem dX9_keep_112 : decode cX9_keep 112 = .ok (.bipush 96, 2) := by decide +kernel
theorem dX9_keep_114 : decode cX9_keep 114 = .ok (.if_icmp .ge 26, 3) := by decide +kernel
theorem dX9_keep_117 : decode cX9_keep 117 = .ok (.aload_n 0, 1) := by decide +kernel
theorem dX9_keep_118 : decode cX9_keep 118 = .ok (.getfield 81, 3) := by decide +kernel
theorem dX9_keep_121 : decode cX9_keep 121 = .ok (.iload_n 2, 1) := by decide +kernel
theorem dX9_keep_122 : decode cX9_keep 122 = .ok (.bipush 62, 2) := by decide +kernel
theorem dX9_keep_124 : decode cX9_keep 124 = .ok (.iadd, 1) := by decide +kernel
theorem dX9_keep_125 : decode cX9_keep 125 = .ok (.iload_n 3, 1) := by decide +kernel
theorem dX9_keep_126 : decode cX9_keep 126 = .ok (.iadd, 1) := by decide +kernel
theorem dX9_keep_127 : decode cX9_keep 127 = .ok (.aload_n 0, 1) := by decide +kernel
theorem dX9_keep_128 : decode cX9_keep 128 = .ok (.getfield 17, 3) := by decide +kernel
theorem dX9_keep_131 : decode cX9_keep 131 = .ok (.iload_n 3, 1) := by decide +kernel
theorem dX9_keep_132 : decode cX9_keep 132 = .ok (.iaload, 1) := by decide +kernel
theorem dX9_keep_133 : decode cX9_keep 133 = .ok (.iastore, 1) := by decide +kernel
theorem dX9_keep_134 : decode cX9_keep 134 = .ok (.iinc 3 1, 3) := by decide +kernel
theorem dX9_keep_137 : decode cX9_keep 137 = .ok (.goto (-26), 3) := by decide +kernel
theorem dX9_keep_140 : decode cX9_keep 140 = .ok (.aload_n 0, 1) := by decide +kernel
theorem dX9_keep_141 : decode cX9_keep 141 = .ok (.getfield 81, 3) := by decide +kernel
theorem dX9_keep_144 : decode cX9_keep 144 = .ok (.iload_n 2, 1) := by decide +kernel
theorem dX9_keep_145 : decode cX9_keep 145 = .ok (.sipush 158, 3) := by decide +kernel
theorem dX9_keep_148 : decode cX9_keep 148 = .ok (.iadd, 1) := by decide +kernel
theorem dX9_keep_149 : decode cX9_keep 149 = .ok (.aload_n 0, 1) := by decide +kernel
theorem dX9_keep_150 : decode cX9_keep 150 = .ok (.getfield 29, 3) := by decide +kernel
theorem dX9_keep_153 : decode cX9_keep 153 = .ok (.iastore, 1) := by decide +kernel
theorem dX9_keep_154 : decode cX9_keep 154 = .ok (.aload_n 0, 1) := by decide +kernel
theorem dX9_keep_155 : decode cX9_keep 155 = .ok (.getfield 81, 3) := by decide +kernel
theorem dX9_keep_158 : decode cX9_keep 158 = .ok (.iload_n 2, 1) := by decide +kernel
theorem dX9_keep_159 : decode cX9_keep 159 = .ok (.sipush 159, 3) := by decide +kernel
theorem dX9_keep_162 : decode cX9_keep 162 = .ok (.iadd, 1) := by decide +kernel
theorem dX9_keep_163 : decode cX9_keep 163 = .ok (.aload_n 0, 1) := by decide +kernel
theorem dX9_keep_164 : decode cX9_keep 164 = .ok (.getfield 227, 3) := by decide +kernel
theorem dX9_keep_167 : decode cX9_keep 167 = .ok (.iastore, 1) := by decide +kernel
theorem dX9_keep_168 : decode cX9_keep 168 = .ok (.aload_n 0, 1) := by decide +kernel
theorem dX9_keep_169 : decode cX9_keep 169 = .ok (.getfield 84, 3) := by decide +kernel
theorem dX9_keep_172 : decode cX9_keep 172 = .ok (.iload_n 1, 1) := by decide +kernel
theorem dX9_keep_173 : decode cX9_keep 173 = .ok (.iconst 1, 1) := by decide +kernel
theorem dX9_keep_174 : decode cX9_keep 174 = .ok (.bastore, 1) := by decide +kernel
theorem dX9_keep_175 : decode cX9_keep 175 = .ok (.iconst 1, 1) := by decide +kernel
theorem dX9_keep_176 : decode cX9_keep 176 = .ok (.ireturn, 1) := by decide +kernel
theorem dX9_goBack_0 : decode cX9_goBack 0 = .ok (.iload_n 1, 1) := by decide +kernel
theorem dX9_goBack_1 : decode cX9_goBack 1 = .ok (.i2l, 1) := by decide +kernel
theorem dX9_goBack_2 : decode cX9_goBack 2 = .ok (.lconst 0, 1) := by decide +kernel
theorem dX9_goBack_3 : decode cX9_goBack 3 = .ok (.lconst 1, 1) := by decide +kernel
theorem dX9_goBack_4 : decode cX9_goBack 4 = .ok (.invokestatic 90, 3) := by decide +kernel
theorem dX9_goBack_7 : decode cX9_goBack 7 = .ok (.ifCond .ne 6, 3) := by decide +kernel
theorem dX9_goBack_10 : decode cX9_goBack 10 = .ok (.ldc 216, 2) := by decide +kernel
theorem dX9_goBack_12 : decode cX9_goBack 12 = .ok (.ireturn, 1) := by decide +kernel
theorem dX9_goBack_13 : decode cX9_goBack 13 = .ok (.aload_n 0, 1) := by decide +kernel
theorem dX9_goBack_14 : decode cX9_goBack 14 = .ok (.getfield 84, 3) := by decide +kernel
theorem dX9_goBack_17 : decode cX9_goBack 17 = .ok (.iload_n 1, 1) := by decide +kernel
theorem dX9_goBack_18 : decode cX9_goBack 18 = .ok (.baload, 1) := by decide +kernel
theorem dX9_goBack_19 : decode cX9_goBack 19 = .ok (.ifCond .ne 7, 3) := by decide +kernel
theorem dX9_goBack_22 : decode cX9_goBack 22 = .ok (.ldc_w 277, 3) := by decide +kernel
theorem dX9_goBack_25 : decode cX9_goBack 25 = .ok (.ireturn, 1) := by decide +kernel
theorem dX9_goBack_26 : decode cX9_goBack 26 = .ok (.sipush 200, 3) := by decide +kernel
theorem dX9_goBack_29 : decode cX9_goBack 29 = .ok (.iload_n 1, 1) := by decide +kernel
theorem dX9_goBack_30 : decode cX9_goBack 30 = .ok (.imul, 1) := by decide +kernel
theorem dX9_goBack_31 : decode cX9_goBack 31 = .ok (.istore_n 2, 1) := by decide +kernel
theorem dX9_goBack_32 : decode cX9_goBack 32 = .ok (.iconst 0, 1) := by decide +kernel
theorem dX9_goBack_33 : decode cX9_goBack 33 = .ok (.istore_n 3, 1) := by decide +kernel
theorem dX9_goBack_34 : decode cX9_goBack 34 = .ok (.iload_n 3, 1) := by decide +kernel
theorem dX9_goBack_35 : decode cX9_goBack 35 = .ok (.bipush 40, 2) := by decide +kernel
theorem dX9_goBack_37 : decode cX9_goBack 37 = .ok (.if_icmp .ge 23, 3) := by decide +kernel
theorem dX9_goBack_40 : decode cX9_goBack 40 = .ok (.aload_n 0, 1) := by decide +kernel
theorem dX9_goBack_41 : decode cX9_goBack 41 = .ok (.getfield 33, 3) := by decide +kernel
theorem dX9_goBack_44 : decode cX9_goBack 44 = .ok (.iload_n 3, 1) := by decide +kernel
theorem dX9_goBack_45 : decode cX9_goBack 45 = .ok (.aload_n 0, 1) := by decide +kernel
theorem dX9_goBack_46 : decode cX9_goBack 46 = .ok (.getfield 81, 3) := by decide +kernel
theorem dX9_goBack_49 : decode cX9_goBack 49 = .ok (.iload_n 2, 1) := by decide +kernel
theorem dX9_goBack_50 : decode cX9_goBack 50 = .ok (.iload_n 3, 1) := by decide +kernel
theorem dX9_goBack_51 : decode cX9_goBack 51 = .ok (.iadd, 1) := by decide +kernel
theorem dX9_goBack_52 : decode cX9_goBack 52 = .ok (.iaload, 1) := by decide +kernel
theorem dX9_goBack_53 : decode cX9_goBack 53 = .ok (.iastore, 1) := by decide +kernel
theorem dX9_goBack_54 : decode cX9_goBack 54 = .ok (.iinc 3 1, 3) := by decide +kernel
theorem dX9_goBack_57 : decode cX9_goBack 57 = .ok (.goto (-23), 3) := by decide +kernel
theorem dX9_goBack_60 : decode cX9_goBack 60 = .ok (.iconst 0, 1) := by decide +kernel
theorem dX9_goBack_61 : decode cX9_goBack 61 = .ok (.istore_n 3, 1) := by decide +kernel
theorem dX9_goBack_62 : decode cX9_goBack 62 = .ok (.iload_n 3, 1) := by decide +kernel
theorem dX9_goBack_63 : decode cX9_goBack 63 = .ok (.bipush 6, 2) := by decide +kernel
theorem dX9_goBack_65 : decode cX9_goBack 65 = .ok (.if_icmp .ge 26, 3) := by decide +kernel
theorem dX9_goBack_68 : decode cX9_goBack 68 = .ok (.aload_n 0, 1) := by decide +kernel
theorem dX9_goBack_69 : decode cX9_goBack 69 = .ok (.getfield 26, 3) := by decide +kernel
theorem dX9_goBack_72 : decode cX9_goBack 72 = .ok (.iload_n 3, 1) := by decide +kernel
theorem dX9_goBack_73 : decode cX9_goBack 73 = .ok (.aload_n 0, 1) := by decide +kernel
theorem dX9_goBack_74 : decode cX9_goBack 74 = .ok (.getfield 81, 3) := by decide +kernel
theorem dX9_goBack_77 : decode cX9_goBack 77 = .ok (.iload_n 2, 1) := by decide +kernel
theorem dX9_goBack_78 : decode cX9_goBack 78 = .ok (.bipush 40, 2) := by decide +kernel
theorem dX9_goBack_80 : decode cX9_goBack 80 = .ok (.iadd, 1) := by decide +kernel
theorem dX9_goBack_81 : decode cX9_goBack 81 = .ok (.iload_n 3, 1) := by decide +kernel
theorem dX9_goBack_82 : decode cX9_goBack 82 = .ok (.iadd, 1) := by decide +kernel
theorem dX9_goBack_83 : decode cX9_goBack 83 = .ok (.iaload, 1) := by decide +kernel
theorem dX9_goBack_84 : decode cX9_goBack 84 = .ok (.iastore, 1) := by decide +kernel
theorem dX9_goBack_85 : decode cX9_goBack 85 = .ok (.iinc 3 1, 3) := by decide +kernel
theorem dX9_goBack_88 : decode cX9_goBack 88 = .ok (.goto (-26), 3) := by decide +kernel
theorem dX9_goBack_91 : decode cX9_goBack 91 = .ok (.iconst 0, 1) := by decide +kernel
theorem dX9_goBack_92 : decode cX9_goBack 92 = .ok (.istore_n 3, 1) := by decide +kernel
theorem dX9_goBack_93 : decode cX9_goBack 93 = .ok (.iload_n 3, 1) := by decide +kernel
theorem dX9_goBack_94 : decode cX9_goBack 94 = .ok (.bipush 16, 2) := by decide +kernel
theorem dX9_goBack_96 : decode cX9_goBack 96 = .ok (.if_icmp .ge 26, 3) := by decide +kernel
theorem dX9_goBack_99 : decode cX9_goBack 99 = .ok (.aload_n 0, 1) := by decide +kernel
theorem dX9_goBack_100 : decode cX9_goBack 100 = .ok (.getfield 23, 3) := by decide +kernel
theorem dX9_goBack_103 : decode cX9_goBack 103 = .ok (.iload_n 3, 1) := by decide +kernel
theorem dX9_goBack_104 : decode cX9_goBack 104 = .ok (.aload_n 0, 1) := by decide +kernel
theorem dX9_goBack_105 : decode cX9_goBack 105 = .ok (.getfield 81, 3) := by decide +kernel
theorem dX9_goBack_108 : decode cX9_goBack 108 = .ok (.iload_n 2, 1) := by decide +kernel
theorem dX9_goBack_109 : decode cX9_goBack 109 = .ok (.bipush 46, 2) := by decide +kernel
theorem dX9_goBack_111 : decode cX9_goBack 111 = .ok (.iadd, 1) := by decide +kernel
theorem dX9_goBack_112 : decode cX9_goBack 112 = .ok (.iload_n 3, 1) := by decide +kernel
theorem dX9_goBack_113 : decode cX9_goBack 113 = .ok (.iadd, 1) := by decide +kernel
theorem dX9_goBack_114 : decode cX9_goBack 114 = .ok (.iaload, 1) := by decide +kernel
theorem dX9_goBack_115 : decode cX9_goBack 115 = .ok (.iastore, 1) := by decide +kernel
theorem dX9_goBack_116 : decode cX9_goBack 116 = .ok (.iinc 3 1, 3) := by decide +kernel
theorem dX9_goBack_119 : decode cX9_goBack 119 = .ok (.goto (-26), 3) := by decide +kernel
theorem dX9_goBack_122 : decode cX9_goBack 122 = .ok (.iconst 0, 1) := by decide +kernel
theorem dX9_goBack_123 : decode cX9_goBack 123 = .ok (.istore_n 3, 1) := by decide +kernel
theorem dX9_goBack_124 : decode cX9_goBack 124 = .ok (.iload_n 3, 1) := by decide +kernel
theorem dX9_goBack_125 : decode cX9_goBack 125 = .ok (.bipush 96, 2) := by decide +kernel
theorem dX9_goBack_127 : decode cX9_goBack 127 = .ok (.if_icmp .ge 26, 3) := by decide +kernel
theorem dX9_goBack_130 : decode cX9_goBack 130 = .ok (.aload_n 0, 1) := by decide +kernel
theorem dX9_goBack_131 : decode cX9_goBack 131 = .ok (.getfield 17, 3) := by decide +kernel
theorem dX9_goBack_134 : decode cX9_goBack 134 = .ok (.iload_n 3, 1) := by decide +kernel
theorem dX9_goBack_135 : decode cX9_goBack 135 = .ok (.aload_n 0, 1) := by decide +kernel
theorem dX9_goBack_136 : decode cX9_goBack 136 = .ok (.getfield 81, 3) := by decide +kernel
theorem dX9_goBack_139 : decode cX9_goBack 139 = .ok (.iload_n 2, 1) := by decide +kernel
theorem dX9_goBack_140 : decode cX9_goBack 140 = .ok (.bipush 62, 2) := by decide +kernel
theorem dX9_goBack_142 : decode cX9_goBack 142 = .ok (.iadd, 1) := by decide +kernel
theorem dX9_goBack_143 : decode cX9_goBack 143 = .ok (.iload_n 3, 1) := by decide +kernel
theorem dX9_goBack_144 : decode cX9_goBack 144 = .ok (.iadd, 1) := by decide +kernel
theorem dX9_goBack_145 : decode cX9_goBack 145 = .ok (.iaload, 1) := by decide +kernel
theorem dX9_goBack_146 : decode cX9_goBack 146 = .ok (.iastore, 1) := by decide +kernel
theorem dX9_goBack_147 : decode cX9_goBack 147 = .ok (.iinc 3 1, 3) := by decide +kernel
theorem dX9_goBack_150 : decode cX9_goBack 150 = .ok (.goto (-26), 3) := by decide +kernel
theorem dX9_goBack_153 : decode cX9_goBack 153 = .ok (.aload_n 0, 1) := by decide +kernel
theorem dX9_goBack_154 : decode cX9_goBack 154 = .ok (.aload_n 0, 1) := by decide +kernel
theorem dX9_goBack_155 : decode cX9_goBack 155 = .ok (.getfield 81, 3) := by decide +kernel
theorem dX9_goBack_158 : decode cX9_goBack 158 = .ok (.iload_n 2, 1) := by decide +kernel
theorem dX9_goBack_159 : decode cX9_goBack 159 = .ok (.sipush 158, 3) := by decide +kernel
theorem dX9_goBack_162 : decode cX9_goBack 162 = .ok (.iadd, 1) := by decide +kernel
theorem dX9_goBack_163 : decode cX9_goBack 163 = .ok (.iaload, 1) := by decide +kernel
theorem dX9_goBack_164 : decode cX9_goBack 164 = .ok (.putfield 29, 3) := by decide +kernel
theorem dX9_goBack_167 : decode cX9_goBack 167 = .ok (.aload_n 0, 1) := by decide +kernel
theorem dX9_goBack_168 : decode cX9_goBack 168 = .ok (.aload_n 0, 1) := by decide +kernel
theorem dX9_goBack_169 : decode cX9_goBack 169 = .ok (.getfield 81, 3) := by decide +kernel
theorem dX9_goBack_172 : decode cX9_goBack 172 = .ok (.iload_n 2, 1) := by decide +kernel
theorem dX9_goBack_173 : decode cX9_goBack 173 = .ok (.sipush 159, 3) := by decide +kernel
theorem dX9_goBack_176 : decode cX9_goBack 176 = .ok (.iadd, 1) := by decide +kernel
theorem dX9_goBack_177 : decode cX9_goBack 177 = .ok (.iaload, 1) := by decide +kernel
theorem dX9_goBack_178 : decode cX9_goBack 178 = .ok (.putfield 227, 3) := by decide +kernel
theorem dX9_goBack_181 : decode cX9_goBack 181 = .ok (.iconst 1, 1) := by decide +kernel
theorem dX9_goBack_182 : decode cX9_goBack 182 = .ok (.ireturn, 1) := by decide +kernel
theorem dJ6_bitCount_0f7a4_0 : decode cJ6_bitCount_0f7a4 0 = .ok (.iload_n 0, 1) := by decide +kernel
theorem dJ6_bitCount_0f7a4_1 : decode cJ6_bitCount_0f7a4 1 = .ok (.iload_n 0, 1) := by decide +kernel
theorem dJ6_bitCount_0f7a4_2 : decode cJ6_bitCount_0f7a4 2 = .ok (.iconst 1, 1) := by decide +kernel
theorem dJ6_bitCount_0f7a4_3 : decode cJ6_bitCount_0f7a4 3 = .ok (.iushr, 1) := by decide +kernel
theorem dJ6_bitCount_0f7a4_4 : decode cJ6_bitCount_0f7a4 4 = .ok (.ldc_w 265, 3) := by decide +kernel
theorem dJ6_bitCount_0f7a4_7 : decode cJ6_bitCount_0f7a4 7 = .ok (.iand, 1) := by decide +kernel
theorem dJ6_bitCount_0f7a4_8 : decode cJ6_bitCount_0f7a4 8 = .ok (.isub, 1) := by decide +kernel
theorem dJ6_bitCount_0f7a4_9 : decode cJ6_bitCount_0f7a4 9 = .ok (.istore_n 0, 1) := by decide +kernel
theorem dJ6_bitCount_0f7a4_10 : decode cJ6_bitCount_0f7a4 10 = .ok (.iload_n 0, 1) := by decide +kernel
theorem dJ6_bitCount_0f7a4_11 : decode cJ6_bitCount_0f7a4 11 = .ok (.ldc_w 266, 3) := by decide +kernel
theorem dJ6_bitCount_0f7a4_14 : decode cJ6_bitCount_0f7a4 14 = .ok (.iand, 1) := by decide +kernel
theorem dJ6_bitCount_0f7a4_15 : decode cJ6_bitCount_0f7a4 15 = .ok (.iload_n 0, 1) := by decide +kernel
