theorem dX9_singers_59 : decode cX9_singers 59 = .ok (.istore_n 2, 1) := by decide +kernel
theorem dX9_singers_60 : decode cX9_singers 60 = .ok (.iload_n 2, 1) := by decide +kernel
theorem dX9_singers_61 : decode cX9_singers 61 = .ok (.bipush 96, 2) := by decide +kernel
theorem dX9_singers_63 : decode cX9_singers 63 = .ok (.if_icmp .ge 21, 3) := by decide +kernel
theorem dX9_singers_66 : decode cX9_singers 66 = .ok (.aload_n 0, 1) := by decide +kernel
theorem dX9_singers_67 : decode cX9_singers 67 = .ok (.getfield 17, 3) := by decide +kernel
theorem dX9_singers_70 : decode cX9_singers 70 = .ok (.iload_n 2, 1) := by decide +kernel
theorem dX9_singers_71 : decode cX9_singers 71 = .ok (.aload_n 0, 1) := by decide +kernel
theorem dX9_singers_72 : decode cX9_singers 72 = .ok (.getfield 48, 3) := by decide +kernel
theorem dX9_singers_75 : decode cX9_singers 75 = .ok (.iload_n 2, 1) := by decide +kernel
theorem dX9_singers_76 : decode cX9_singers 76 = .ok (.iaload, 1) := by decide +kernel
theorem dX9_singers_77 : decode cX9_singers 77 = .ok (.iastore, 1) := by decide +kernel
theorem dX9_singers_78 : decode cX9_singers 78 = .ok (.iinc 2 1, 3) := by decide +kernel
theorem dX9_singers_81 : decode cX9_singers 81 = .ok (.goto (-21), 3) := by decide +kernel
theorem dX9_singers_84 : decode cX9_singers 84 = .ok (.aload_n 0, 1) := by decide +kernel
theorem dX9_singers_85 : decode cX9_singers 85 = .ok (.invokevirtual 181, 3) := by decide +kernel
theorem dX9_singers_88 : decode cX9_singers 88 = .ok (.aload_n 0, 1) := by decide +kernel
theorem dX9_singers_89 : decode cX9_singers 89 = .ok (.getfield 87, 3) := by decide +kernel
theorem dX9_singers_92 : decode cX9_singers 92 = .ok (.ireturn, 1) := by decide +kernel
theorem dX9_takePart_0 : decode cX9_takePart 0 = .ok (.aload_n 0, 1) := by decide +kernel
theorem dX9_takePart_1 : decode cX9_takePart 1 = .ok (.invokevirtual 149, 3) := by decide +kernel
theorem dX9_takePart_4 : decode cX9_takePart 4 = .ok (.aload_n 0, 1) := by decide +kernel
theorem dX9_takePart_5 : decode cX9_takePart 5 = .ok (.getfield 113, 3) := by decide +kernel
theorem dX9_takePart_8 : decode cX9_takePart 8 = .ok (.ldc2_w 193, 3) := by decide +kernel
theorem dX9_takePart_11 : decode cX9_takePart 11 = .ok (.lcmp, 1) := by decide +kernel
theorem dX9_takePart_12 : decode cX9_takePart 12 = .ok (.ifCond .ne 7, 3) := by decide +kernel
theorem dX9_takePart_15 : decode cX9_takePart 15 = .ok (.iconst 0, 1) := by decide +kernel
theorem dX9_takePart_16 : decode cX9_takePart 16 = .ok (.goto 93, 3) := by decide +kernel
theorem dX9_takePart_19 : decode cX9_takePart 19 = .ok (.aload_n 0, 1) := by decide +kernel
theorem dX9_takePart_20 : decode cX9_takePart 20 = .ok (.getfield 113, 3) := by decide +kernel
theorem dX9_takePart_23 : decode cX9_takePart 23 = .ok (.bipush 118, 2) := by decide +kernel
theorem dX9_takePart_25 : decode cX9_takePart 25 = .ok (.bipush 111, 2) := by decide +kernel
theorem dX9_takePart_27 : decode cX9_takePart 27 = .ok (.bipush 105, 2) := by decide +kernel
theorem dX9_takePart_29 : decode cX9_takePart 29 = .ok (.bipush 99, 2) := by decide +kernel
theorem dX9_takePart_31 : decode cX9_takePart 31 = .ok (.invokestatic 152, 3) := by decide +kernel
theorem dX9_takePart_34 : decode cX9_takePart 34 = .ok (.bipush 101, 2) := by decide +kernel
theorem dX9_takePart_36 : decode cX9_takePart 36 = .ok (.invokestatic 156, 3) := by decide +kernel
theorem dX9_takePart_39 : decode cX9_takePart 39 = .ok (.lcmp, 1) := by decide +kernel
theorem dX9_takePart_40 : decode cX9_takePart 40 = .ok (.ifCond .ne 7, 3) := by decide +kernel
theorem dX9_takePart_43 : decode cX9_takePart 43 = .ok (.iconst 1, 1) := by decide +kernel
theorem dX9_takePart_44 : decode cX9_takePart 44 = .ok (.goto 65, 3) := by decide +kernel
theorem dX9_takePart_47 : decode cX9_takePart 47 = .ok (.aload_n 0, 1) := by decide +kernel
theorem dX9_takePart_48 : decode cX9_takePart 48 = .ok (.getfield 113, 3) := by decide +kernel
theorem dX9_takePart_51 : decode cX9_takePart 51 = .ok (.bipush 109, 2) := by decide +kernel
theorem dX9_takePart_53 : decode cX9_takePart 53 = .ok (.bipush 101, 2) := by decide +kernel
theorem dX9_takePart_55 : decode cX9_takePart 55 = .ok (.bipush 109, 2) := by decide +kernel
theorem dX9_takePart_57 : decode cX9_takePart 57 = .ok (.bipush 111, 2) := by decide +kernel
theorem dX9_takePart_59 : decode cX9_takePart 59 = .ok (.invokestatic 152, 3) := by decide +kernel
theorem dX9_takePart_62 : decode cX9_takePart 62 = .ok (.bipush 114, 2) := by decide +kernel
theorem dX9_takePart_64 : decode cX9_takePart 64 = .ok (.invokestatic 156, 3) := by decide +kernel
theorem dX9_takePart_67 : decode cX9_takePart 67 = .ok (.bipush 121, 2) := by decide +kernel
theorem dX9_takePart_69 : decode cX9_takePart 69 = .ok (.invokestatic 156, 3) := by decide +kernel
theorem dX9_takePart_72 : decode cX9_takePart 72 = .ok (.lcmp, 1) := by decide +kernel
theorem dX9_takePart_73 : decode cX9_takePart 73 = .ok (.ifCond .ne 7, 3) := by decide +kernel
theorem dX9_takePart_76 : decode cX9_takePart 76 = .ok (.iconst 2, 1) := by decide +kernel
theorem dX9_takePart_77 : decode cX9_takePart 77 = .ok (.goto 32, 3) := by decide +kernel
theorem dX9_takePart_80 : decode cX9_takePart 80 = .ok (.aload_n 0, 1) := by decide +kernel
theorem dX9_takePart_81 : decode cX9_takePart 81 = .ok (.getfield 113, 3) := by decide +kernel
theorem dX9_takePart_84 : decode cX9_takePart 84 = .ok (.bipush 114, 2) := by decide +kernel
theorem dX9_takePart_86 : decode cX9_takePart 86 = .ok (.bipush 97, 2) := by decide +kernel
theorem dX9_takePart_88 : decode cX9_takePart 88 = .ok (.bipush 110, 2) := by decide +kernel
theorem dX9_takePart_90 : decode cX9_takePart 90 = .ok (.bipush 103, 2) := by decide +kernel
theorem dX9_takePart_92 : decode cX9_takePart 92 = .ok (.invokestatic 152, 3) := by decide +kernel
theorem dX9_takePart_95 : decode cX9_takePart 95 = .ok (.bipush 101, 2) := by decide +kernel
theorem dX9_takePart_97 : decode cX9_takePart 97 = .ok (.invokestatic 156, 3) := by decide +kernel
theorem dX9_takePart_100 : decode cX9_takePart 100 = .ok (.lcmp, 1) := by decide +kernel
theorem dX9_takePart_101 : decode cX9_takePart 101 = .ok (.ifCond .ne 7, 3) := by decide +kernel
theorem dX9_takePart_104 : decode cX9_takePart 104 = .ok (.iconst 3, 1) := by decide +kernel
theorem dX9_takePart_105 : decode cX9_takePart 105 = .ok (.goto 4, 3) := by decide +kernel
theorem dX9_takePart_108 : decode cX9_takePart 108 = .ok (.iconst (-1), 1) := by decide +kernel
theorem dX9_takePart_109 : decode cX9_takePart 109 = .ok (.istore_n 2, 1) := by decide +kernel
theorem dX9_takePart_110 : decode cX9_takePart 110 = .ok (.iload_n 2, 1) := by decide +kernel
theorem dX9_takePart_111 : decode cX9_takePart 111 = .ok (.ifCond .ge 13, 3) := by decide +kernel
theorem dX9_takePart_114 : decode cX9_takePart 114 = .ok (.aload_n 0, 1) := by decide +kernel
theorem dX9_takePart_115 : decode cX9_takePart 115 = .ok (.iconst 1, 1) := by decide +kernel
theorem dX9_takePart_116 : decode cX9_takePart 116 = .ok (.aload_n 0, 1) := by decide +kernel
theorem dX9_takePart_117 : decode cX9_takePart 117 = .ok (.getfield 106, 3) := by decide +kernel
theorem dX9_takePart_120 : decode cX9_takePart 120 = .ok (.invokevirtual 136, 3) := by decide +kernel
theorem dX9_takePart_123 : decode cX9_takePart 123 = .ok (.ireturn, 1) := by decide +kernel
theorem dX9_takePart_124 : decode cX9_takePart 124 = .ok (.aload_n 0, 1) := by decide +kernel
theorem dX9_takePart_125 : decode cX9_takePart 125 = .ok (.getfield 51, 3) := by decide +kernel
theorem dX9_takePart_128 : decode cX9_takePart 128 = .ok (.iload_n 1, 1) := by decide +kernel
theorem dX9_takePart_129 : decode cX9_takePart 129 = .ok (.iconst 3, 1) := by decide +kernel
theorem dX9_takePart_130 : decode cX9_takePart 130 = .ok (.iadd, 1) := by decide +kernel
theorem dX9_takePart_131 : decode cX9_takePart 131 = .ok (.iaload, 1) := by decide +kernel
theorem dX9_takePart_132 : decode cX9_takePart 132 = .ok (.iload_n 2, 1) := by decide +kernel
theorem dX9_takePart_133 : decode cX9_takePart 133 = .ok (.invokestatic 195, 3) := by decide +kernel
theorem dX9_takePart_136 : decode cX9_takePart 136 = .ok (.ifCond .eq 13, 3) := by decide +kernel
theorem dX9_takePart_139 : decode cX9_takePart 139 = .ok (.aload_n 0, 1) := by decide +kernel
theorem dX9_takePart_140 : decode cX9_takePart 140 = .ok (.iconst 4, 1) := by decide +kernel
theorem dX9_takePart_141 : decode cX9_takePart 141 = .ok (.aload_n 0, 1) := by decide +kernel
theorem dX9_takePart_142 : decode cX9_takePart 142 = .ok (.getfield 106, 3) := by decide +kernel
theorem dX9_takePart_145 : decode cX9_takePart 145 = .ok (.invokevirtual 136, 3) := by decide +kernel
theorem dX9_takePart_148 : decode cX9_takePart 148 = .ok (.ireturn, 1) := by decide +kernel
theorem dX9_takePart_149 : decode cX9_takePart 149 = .ok (.aload_n 0, 1) := by decide +kernel
theorem dX9_takePart_150 : decode cX9_takePart 150 = .ok (.aload_n 0, 1) := by decide +kernel
theorem dX9_takePart_151 : decode cX9_takePart 151 = .ok (.getfield 117, 3) := by decide +kernel
theorem dX9_takePart_154 : decode cX9_takePart 154 = .ok (.putfield 106, 3) := by decide +kernel
theorem dX9_takePart_157 : decode cX9_takePart 157 = .ok (.aload_n 0, 1) := by decide +kernel
theorem dX9_takePart_158 : decode cX9_takePart 158 = .ok (.getfield 51, 3) := by decide +kernel
theorem dX9_takePart_161 : decode cX9_takePart 161 = .ok (.iload_n 1, 1) := by decide +kernel
theorem dX9_takePart_162 : decode cX9_takePart 162 = .ok (.iconst 3, 1) := by decide +kernel
theorem dX9_takePart_163 : decode cX9_takePart 163 = .ok (.iadd, 1) := by decide +kernel
theorem dX9_takePart_164 : decode cX9_takePart 164 = .ok (.dup2, 1) := by decide +kernel
theorem dX9_takePart_165 : decode cX9_takePart 165 = .ok (.iaload, 1) := by decide +kernel
theorem dX9_takePart_166 : decode cX9_takePart 166 = .ok (.iconst 1, 1) := by decide +kernel
theorem dX9_takePart_167 : decode cX9_takePart 167 = .ok (.iload_n 2, 1) := by decide +kernel
theorem dX9_takePart_168 : decode cX9_takePart 168 = .ok (.ishl, 1) := by decide +kernel
theorem dX9_takePart_169 : decode cX9_takePart 169 = .ok (.ior, 1) := by decide +kernel
theorem dX9_takePart_170 : decode cX9_takePart 170 = .ok (.iastore, 1) := by decide +kernel
theorem dX9_takePart_171 : decode cX9_takePart 171 = .ok (.iconst 0, 1) := by decide +kernel
theorem dX9_takePart_172 : decode cX9_takePart 172 = .ok (.ireturn, 1) := by decide +kernel
theorem dX9_takeTask_0 : decode cX9_takeTask 0 = .ok (.aload_n 0, 1) := by decide +kernel
theorem dX9_takeTask_1 : decode cX9_takeTask 1 = .ok (.invokevirtual 149, 3) := by decide +kernel
theorem dX9_takeTask_4 : decode cX9_takeTask 4 = .ok (.aload_n 0, 1) := by decide +kernel
theorem dX9_takeTask_5 : decode cX9_takeTask 5 = .ok (.getfield 113, 3) := by decide +kernel
theorem dX9_takeTask_8 : decode cX9_takeTask 8 = .ok (.bipush 116, 2) := by decide +kernel
theorem dX9_takeTask_10 : decode cX9_takeTask 10 = .ok (.bipush 97, 2) := by decide +kernel
theorem dX9_takeTask_12 : decode cX9_takeTask 12 = .ok (.bipush 115, 2) := by decide +kernel
theorem dX9_takeTask_14 : decode cX9_takeTask 14 = .ok (.bipush 107, 2) := by decide +kernel
theorem dX9_takeTask_16 : decode cX9_takeTask 16 = .ok (.invokestatic 152, 3) := by decide +kernel
theorem dX9_takeTask_19 : decode cX9_takeTask 19 = .ok (.lcmp, 1) := by decide +kernel
theorem dX9_takeTask_20 : decode cX9_takeTask 20 = .ok (.ifCond .eq 13, 3) := by decide +kernel
theorem dX9_takeTask_23 : decode cX9_takeTask 23 = .ok (.aload_n 0, 1) := by decide +kernel
theorem dX9_takeTask_24 : decode cX9_takeTask 24 = .ok (.iconst 1, 1) := by decide +kernel
theorem dX9_takeTask_25 : decode cX9_takeTask 25 = .ok (.aload_n 0, 1) := by decide +kernel
theorem dX9_takeTask_26 : decode cX9_takeTask 26 = .ok (.getfield 106, 3) := by decide +kernel
theorem dX9_takeTask_29 : decode cX9_takeTask 29 = .ok (.invokevirtual 136, 3) := by decide +kernel
theorem dX9_takeTask_32 : decode cX9_takeTask 32 = .ok (.ireturn, 1) := by decide +kernel
theorem dX9_takeTask_33 : decode cX9_takeTask 33 = .ok (.aload_n 0, 1) := by decide +kernel
theorem dX9_takeTask_34 : decode cX9_takeTask 34 = .ok (.getfield 160, 3) := by decide +kernel
theorem dX9_takeTask_37 : decode cX9_takeTask 37 = .ok (.bipush 6, 2) := by decide +kernel
theorem dX9_takeTask_39 : decode cX9_takeTask 39 = .ok (.if_icmp .ne 13, 3) := by decide +kernel
theorem dX9_takeTask_42 : decode cX9_takeTask 42 = .ok (.aload_n 0, 1) := by decide +kernel
theorem dX9_takeTask_43 : decode cX9_takeTask 43 = .ok (.iconst 3, 1) := by decide +kernel
theorem dX9_takeTask_44 : decode cX9_takeTask 44 = .ok (.aload_n 0, 1) := by decide +kernel
theorem dX9_takeTask_45 : decode cX9_takeTask 45 = .ok (.getfield 106, 3) := by decide +kernel
theorem dX9_takeTask_48 : decode cX9_takeTask 48 = .ok (.invokevirtual 136, 3) := by decide +kernel
theorem dX9_takeTask_51 : decode cX9_takeTask 51 = .ok (.ireturn, 1) := by decide +kernel
theorem dX9_takeTask_52 : decode cX9_takeTask 52 = .ok (.aload_n 0, 1) := by decide +kernel
theorem dX9_takeTask_53 : decode cX9_takeTask 53 = .ok (.aload_n 0, 1) := by decide +kernel
theorem dX9_takeTask_54 : decode cX9_takeTask 54 = .ok (.getfield 117, 3) := by decide +kernel
theorem dX9_takeTask_57 : decode cX9_takeTask 57 = .ok (.putfield 106, 3) := by decide +kernel
theorem dX9_takeTask_60 : decode cX9_takeTask 60 = .ok (.iconst 4, 1) := by decide +kernel
theorem dX9_takeTask_61 : decode cX9_takeTask 61 = .ok (.aload_n 0, 1) := by decide +kernel
theorem dX9_takeTask_62 : decode cX9_takeTask 62 = .ok (.getfield 160, 3) := by decide +kernel
theorem dX9_takeTask_65 : decode cX9_takeTask 65 = .ok (.imul, 1) := by decide +kernel
theorem dX9_takeTask_66 : decode cX9_takeTask 66 = .ok (.istore_n 1, 1) := by decide +kernel
theorem dX9_takeTask_67 : decode cX9_takeTask 67 = .ok (.aload_n 0, 1) := by decide +kernel
theorem dX9_takeTask_68 : decode cX9_takeTask 68 = .ok (.getfield 51, 3) := by decide +kernel
theorem dX9_takeTask_71 : decode cX9_takeTask 71 = .ok (.iload_n 1, 1) := by decide +kernel
theorem dX9_takeTask_72 : decode cX9_takeTask 72 = .ok (.iconst 3, 1) := by decide +kernel
theorem dX9_takeTask_73 : decode cX9_takeTask 73 = .ok (.iadd, 1) := by decide +kernel
theorem dX9_takeTask_74 : decode cX9_takeTask 74 = .ok (.iconst 0, 1) := by decide +kernel
theorem dX9_takeTask_75 : decode cX9_takeTask 75 = .ok (.iastore, 1) := by decide +kernel
theorem dX9_takeTask_76 : decode cX9_takeTask 76 = .ok (.aload_n 0, 1) := by decide +kernel
theorem dX9_takeTask_77 : decode cX9_takeTask 77 = .ok (.aload_n 0, 1) := by decide +kernel
theorem dX9_takeTask_78 : decode cX9_takeTask 78 = .ok (.getfield 51, 3) := by decide +kernel
theorem dX9_takeTask_81 : decode cX9_takeTask 81 = .ok (.iload_n 1, 1) := by decide +kernel
theorem dX9_takeTask_82 : decode cX9_takeTask 82 = .ok (.iconst 1, 1) := by decide +kernel
theorem dX9_takeTask_83 : decode cX9_takeTask 83 = .ok (.bipush 30, 2) := by decide +kernel
theorem dX9_takeTask_85 : decode cX9_takeTask 85 = .ok (.invokevirtual 167, 3) := by decide +kernel
theorem dX9_takeTask_88 : decode cX9_takeTask 88 = .ok (.istore_n 2, 1) := by decide +kernel
theorem dX9_takeTask_89 : decode cX9_takeTask 89 = .ok (.iload_n 2, 1) := by decide +kernel
theorem dX9_takeTask_90 : decode cX9_takeTask 90 = .ok (.ifCond .le 7, 3) := by decide +kernel
theorem dX9_takeTask_93 : decode cX9_takeTask 93 = .ok (.iload_n 2, 1) := by decide +kernel
theorem dX9_takeTask_94 : decode cX9_takeTask 94 = .ok (.goto 17, 3) := by decide +kernel
theorem dX9_takeTask_97 : decode cX9_takeTask 97 = .ok (.aload_n 0, 1) := by decide +kernel
theorem dX9_takeTask_98 : decode cX9_takeTask 98 = .ok (.aload_n 0, 1) := by decide +kernel
theorem dX9_takeTask_99 : decode cX9_takeTask 99 = .ok (.getfield 51, 3) := by decide +kernel
theorem dX9_takeTask_102 : decode cX9_takeTask 102 = .ok (.iload_n 1, 1) := by decide +kernel
theorem dX9_takeTask_103 : decode cX9_takeTask 103 = .ok (.iconst 1, 1) := by decide +kernel
theorem dX9_takeTask_104 : decode cX9_takeTask 104 = .ok (.iadd, 1) := by decide +kernel
theorem dX9_takeTask_105 : decode cX9_takeTask 105 = .ok (.iconst 0, 1) := by decide +kernel
theorem dX9_takeTask_106 : decode cX9_takeTask 106 = .ok (.bipush 49, 2) := by decide +kernel
theorem dX9_takeTask_108 : decode cX9_takeTask 108 = .ok (.invokevirtual 167, 3) := by decide +kernel
theorem dX9_takeTask_111 : decode cX9_takeTask 111 = .ok (.istore_n 2, 1) := by decide +kernel
theorem dX9_takeTask_112 : decode cX9_takeTask 112 = .ok (.iload_n 2, 1) := by decide +kernel
theorem dX9_takeTask_113 : decode cX9_takeTask 113 = .ok (.ifCond .le 7, 3) := by decide +kernel
theorem dX9_takeTask_116 : decode cX9_takeTask 116 = .ok (.iload_n 2, 1) := by decide +kernel
theorem dX9_takeTask_117 : decode cX9_takeTask 117 = .ok (.goto 17, 3) := by decide +kernel
theorem dX9_takeTask_120 : decode cX9_takeTask 120 = .ok (.aload_n 0, 1) := by decide +kernel
theorem dX9_takeTask_121 : decode cX9_takeTask 121 = .ok (.aload_n 0, 1) := by decide +kernel
theorem dX9_takeTask_122 : decode cX9_takeTask 122 = .ok (.getfield 51, 3) := by decide +kernel
theorem dX9_takeTask_125 : decode cX9_takeTask 125 = .ok (.iload_n 1, 1) := by decide +kernel
theorem dX9_takeTask_126 : decode cX9_takeTask 126 = .ok (.iconst 2, 1) := by decide +kernel
theorem dX9_takeTask_127 : decode cX9_takeTask 127 = .ok (.iadd, 1) := by decide +kernel
theorem dX9_takeTask_128 : decode cX9_takeTask 128 = .ok (.iconst 0, 1) := by decide +kernel
theorem dX9_takeTask_129 : decode cX9_takeTask 129 = .ok (.bipush 49, 2) := by decide +kernel
theorem dX9_takeTask_131 : decode cX9_takeTask 131 = .ok (.invokevirtual 167, 3) := by decide +kernel
theorem dX9_takeTask_134 : decode cX9_takeTask 134 = .ok (.istore_n 2, 1) := by decide +kernel
theorem dX9_takeTask_135 : decode cX9_takeTask 135 = .ok (.iload_n 2, 1) := by decide +kernel
theorem dX9_takeTask_136 : decode cX9_takeTask 136 = .ok (.ifCond .le 5, 3) := by decide +kernel
theorem dX9_takeTask_139 : decode cX9_takeTask 139 = .ok (.iload_n 2, 1) := by decide +kernel
theorem dX9_takeTask_140 : decode cX9_takeTask 140 = .ok (.ireturn, 1) := by decide +kernel
theorem dX9_takeTask_141 : decode cX9_takeTask 141 = .ok (.aload_n 0, 1) := by decide +kernel
theorem dX9_takeTask_142 : decode cX9_takeTask 142 = .ok (.invokevirtual 109, 3) := by decide +kernel
theorem dX9_takeTask_145 : decode cX9_takeTask 145 = .ok (.bipush 59, 2) := by decide +kernel
theorem dX9_takeTask_147 : decode cX9_takeTask 147 = .ok (.if_icmp .eq 7, 3) := by decide +kernel
theorem dX9_takeTask_150 : decode cX9_takeTask 150 = .ok (.iconst 1, 1) := by decide +kernel
theorem dX9_takeTask_151 : decode cX9_takeTask 151 = .ok (.goto 4, 3) := by decide +kernel
theorem dX9_takeTask_154 : decode cX9_takeTask 154 = .ok (.iconst 0, 1) := by decide +kernel
theorem dX9_takeTask_155 : decode cX9_takeTask 155 = .ok (.istore_n 3, 1) := by decide +kernel
theorem dX9_takeTask_156 : decode cX9_takeTask 156 = .ok (.iload_n 3, 1) := by decide +kernel
theorem dX9_takeTask_157 : decode cX9_takeTask 157 = .ok (.ifCond .eq 51, 3) := by decide +kernel
theorem dX9_takeTask_160 : decode cX9_takeTask 160 = .ok (.aload_n 0, 1) := by decide +kernel
theorem dX9_takeTask_161 : decode cX9_takeTask 161 = .ok (.iload_n 1, 1) := by decide +kernel
theorem dX9_takeTask_162 : decode cX9_takeTask 162 = .ok (.invokevirtual 199, 3) := by decide +kernel
theorem dX9_takeTask_165 : decode cX9_takeTask 165 = .ok (.istore_n 2, 1) := by decide +kernel
theorem dX9_takeTask_166 : decode cX9_takeTask 166 = .ok (.iload_n 2, 1) := by decide +kernel
theorem dX9_takeTask_167 : decode cX9_takeTask 167 = .ok (.ifCond .le 5, 3) := by decide +kernel
theorem dX9_takeTask_170 : decode cX9_takeTask 170 = .ok (.iload_n 2, 1) := by decide +kernel
theorem dX9_takeTask_171 : decode cX9_takeTask 171 = .ok (.ireturn, 1) := by decide +kernel
theorem dX9_takeTask_172 : decode cX9_takeTask 172 = .ok (.aload_n 0, 1) := by decide +kernel
theorem dX9_takeTask_173 : decode cX9_takeTask 173 = .ok (.invokevirtual 109, 3) := by decide +kernel
theorem dX9_takeTask_176 : decode cX9_takeTask 176 = .ok (.bipush 44, 2) := by decide +kernel
theorem dX9_takeTask_178 : decode cX9_takeTask 178 = .ok (.if_icmp .ne 7, 3) := by decide +kernel
theorem dX9_takeTask_181 : decode cX9_takeTask 181 = .ok (.iconst 1, 1) := by decide +kernel
theorem dX9_takeTask_182 : decode cX9_takeTask 182 = .ok (.goto 4, 3) := by decide +kernel
theorem dX9_takeTask_185 : decode cX9_takeTask 185 = .ok (.iconst 0, 1) := by decide +kernel
theorem dX9_takeTask_186 : decode cX9_takeTask 186 = .ok (.istore_n 3, 1) := by decide +kernel
theorem dX9_takeTask_187 : decode cX9_takeTask 187 = .ok (.aload_n 0, 1) := by decide +kernel
theorem dX9_takeTask_188 : decode cX9_takeTask 188 = .ok (.dup, 1) := by decide +kernel
theorem dX9_takeTask_189 : decode cX9_takeTask 189 = .ok (.getfield 106, 3) := by decide +kernel
theorem dX9_takeTask_192 : decode cX9_takeTask 192 = .ok (.iload_n 3, 1) := by decide +kernel
theorem dX9_takeTask_193 : decode cX9_takeTask 193 = .ok (.ifCond .eq 7, 3) := by decide +kernel
theorem dX9_takeTask_196 : decode cX9_takeTask 196 = .ok (.iconst 1, 1) := by decide +kernel
theorem dX9_takeTask_197 : decode cX9_takeTask 197 = .ok (.goto 4, 3) := by decide +kernel
theorem dX9_takeTask_200 : decode cX9_takeTask 200 = .ok (.iconst 0, 1) := by decide +kernel
theorem dX9_takeTask_201 : decode cX9_takeTask 201 = .ok (.iadd, 1) := by decide +kernel
theorem dX9_takeTask_202 : decode cX9_takeTask 202 = .ok (.putfield 106, 3) := by decide +kernel
theorem dX9_takeTask_205 : decode cX9_takeTask 205 = .ok (.goto (-49), 3) := by decide +kernel
theorem dX9_takeTask_208 : decode cX9_takeTask 208 = .ok (.aload_n 0, 1) := by decide +kernel
theorem dX9_takeTask_209 : decode cX9_takeTask 209 = .ok (.dup, 1) := by decide +kernel
theorem dX9_takeTask_210 : decode cX9_takeTask 210 = .ok (.getfield 160, 3) := by decide +kernel
theorem dX9_takeTask_213 : decode cX9_takeTask 213 = .ok (.iconst 1, 1) := by decide +kernel
theorem dX9_takeTask_214 : decode cX9_takeTask 214 = .ok (.iadd, 1) := by decide +kernel
theorem dX9_takeTask_215 : decode cX9_takeTask 215 = .ok (.putfield 160, 3) := by decide +kernel
theorem dX9_takeTask_218 : decode cX9_takeTask 218 = .ok (.aload_n 0, 1) := by decide +kernel
theorem dX9_takeTask_219 : decode cX9_takeTask 219 = .ok (.invokevirtual 171, 3) := by decide +kernel
theorem dX9_takeTask_222 : decode cX9_takeTask 222 = .ok (.ireturn, 1) := by decide +kernel
theorem dX9_tasks_0 : decode cX9_tasks 0 = .ok (.aload_n 0, 1) := by decide +kernel
theorem dX9_tasks_1 : decode cX9_tasks 1 = .ok (.iconst (-1), 1) := by decide +kernel
theorem dX9_tasks_2 : decode cX9_tasks 2 = .ok (.putfield 39, 3) := by decide +kernel
theorem dX9_tasks_5 : decode cX9_tasks 5 = .ok (.aload_n 0, 1) := by decide +kernel
theorem dX9_tasks_6 : decode cX9_tasks 6 = .ok (.iconst 0, 1) := by decide +kernel
theorem dX9_tasks_7 : decode cX9_tasks 7 = .ok (.putfield 106, 3) := by decide +kernel
theorem dX9_tasks_10 : decode cX9_tasks 10 = .ok (.aload_n 0, 1) := by decide +kernel
theorem dX9_tasks_11 : decode cX9_tasks 11 = .ok (.iconst 0, 1) := by decide +kernel
theorem dX9_tasks_12 : decode cX9_tasks 12 = .ok (.putfield 160, 3) := by decide +kernel
theorem dX9_tasks_15 : decode cX9_tasks 15 = .ok (.iconst 0, 1) := by decide +kernel
theorem dX9_tasks_16 : decode cX9_tasks 16 = .ok (.istore_n 1, 1) := by decide +kernel
theorem dX9_tasks_17 : decode cX9_tasks 17 = .ok (.iload_n 1, 1) := by decide +kernel
theorem dX9_tasks_18 : decode cX9_tasks 18 = .ok (.ifCond .ne 18, 3) := by decide +kernel
theorem dX9_tasks_21 : decode cX9_tasks 21 = .ok (.aload_n 0, 1) := by decide +kernel
theorem dX9_tasks_22 : decode cX9_tasks 22 = .ok (.invokevirtual 109, 3) := by decide +kernel
theorem dX9_tasks_25 : decode cX9_tasks 25 = .ok (.ifCond .lt 11, 3) := by decide +kernel
theorem dX9_tasks_28 : decode cX9_tasks 28 = .ok (.aload_n 0, 1) := by decide +kernel
theorem dX9_tasks_29 : decode cX9_tasks 29 = .ok (.invokevirtual 203, 3) := by decide +kernel
theorem dX9_tasks_32 : decode cX9_tasks 32 = .ok (.istore_n 1, 1) := by decide +kernel
theorem dX9_tasks_33 : decode cX9_tasks 33 = .ok (.goto (-16), 3) := by decide +kernel
theorem dX9_tasks_36 : decode cX9_tasks 36 = .ok (.aload_n 0, 1) := by decide +kernel
theorem dX9_tasks_37 : decode cX9_tasks 37 = .ok (.iconst 0, 1) := by decide +kernel
theorem dX9_tasks_38 : decode cX9_tasks 38 = .ok (.putfield 100, 3) := by decide +kernel
theorem dX9_tasks_41 : decode cX9_tasks 41 = .ok (.iload_n 1, 1) := by decide +kernel
theorem dX9_tasks_42 : decode cX9_tasks 42 = .ok (.ifCond .le 8, 3) := by decide +kernel
theorem dX9_tasks_45 : decode cX9_tasks 45 = .ok (.bipush (-10), 2) := by decide +kernel
theorem dX9_tasks_47 : decode cX9_tasks 47 = .ok (.iload_n 1, 1) := by decide +kernel
theorem dX9_tasks_48 : decode cX9_tasks 48 = .ok (.isub, 1) := by decide +kernel
theorem dX9_tasks_49 : decode cX9_tasks 49 = .ok (.ireturn, 1) := by decide +kernel
theorem dX9_tasks_50 : decode cX9_tasks 50 = .ok (.aload_n 0, 1) := by decide +kernel
theorem dX9_tasks_51 : decode cX9_tasks 51 = .ok (.aload_n 0, 1) := by decide +kernel
theorem dX9_tasks_52 : decode cX9_tasks 52 = .ok (.getfield 160, 3) := by decide +kernel
theorem dX9_tasks_55 : decode cX9_tasks 55 = .ok (.putfield 94, 3) := by decide +kernel
theorem dX9_tasks_58 : decode cX9_tasks 58 = .ok (.iconst 0, 1) := by decide +kernel
theorem dX9_tasks_59 : decode cX9_tasks 59 = .ok (.istore_n 2, 1) := by decide +kernel
theorem dX9_tasks_60 : decode cX9_tasks 60 = .ok (.iload_n 2, 1) := by decide +kernel
theorem dX9_tasks_61 : decode cX9_tasks 61 = .ok (.bipush 24, 2) := by decide +kernel
theorem dX9_tasks_63 : decode cX9_tasks 63 = .ok (.if_icmp .ge 21, 3) := by decide +kernel
theorem dX9_tasks_66 : decode cX9_tasks 66 = .ok (.aload_n 0, 1) := by decide +kernel
theorem dX9_tasks_67 : decode cX9_tasks 67 = .ok (.getfield 20, 3) := by decide +kernel
theorem dX9_tasks_70 : decode cX9_tasks 70 = .ok (.iload_n 2, 1) := by decide +kernel
theorem dX9_tasks_71 : decode cX9_tasks 71 = .ok (.aload_n 0, 1) := by decide +kernel
theorem dX9_tasks_72 : decode cX9_tasks 72 = .ok (.getfield 51, 3) := by decide +kernel
theorem dX9_tasks_75 : decode cX9_tasks 75 = .ok (.iload_n 2, 1) := by decide +kernel
theorem dX9_tasks_76 : decode cX9_tasks 76 = .ok (.iaload, 1) := by decide +kernel
theorem dX9_tasks_77 : decode cX9_tasks 77 = .ok (.iastore, 1) := by decide +kernel
theorem dX9_tasks_78 : decode cX9_tasks 78 = .ok (.iinc 2 1, 3) := by decide +kernel
theorem dX9_tasks_81 : decode cX9_tasks 81 = .ok (.goto (-21), 3) := by decide +kernel
theorem dX9_tasks_84 : decode cX9_tasks 84 = .ok (.iconst 0, 1) := by decide +kernel
theorem dX9_tasks_85 : decode cX9_tasks 85 = .ok (.istore_n 2, 1) := by decide +kernel
theorem dX9_tasks_86 : decode cX9_tasks 86 = .ok (.iload_n 2, 1) := by decide +kernel
theorem dX9_tasks_87 : decode cX9_tasks 87 = .ok (.bipush 6, 2) := by decide +kernel
theorem dX9_tasks_89 : decode cX9_tasks 89 = .ok (.if_icmp .ge 16, 3) := by decide +kernel
theorem dX9_tasks_92 : decode cX9_tasks 92 = .ok (.aload_n 0, 1) := by decide +kernel
theorem dX9_tasks_93 : decode cX9_tasks 93 = .ok (.getfield 26, 3) := by decide +kernel
theorem dX9_tasks_96 : decode cX9_tasks 96 = .ok (.iload_n 2, 1) := by decide +kernel
theorem dX9_tasks_97 : decode cX9_tasks 97 = .ok (.iconst 0, 1) := by decide +kernel
theorem dX9_tasks_98 : decode cX9_tasks 98 = .ok (.iastore, 1) := by decide +kernel
theorem dX9_tasks_99 : decode cX9_tasks 99 = .ok (.iinc 2 1, 3) := by decide +kernel
theorem dX9_tasks_102 : decode cX9_tasks 102 = .ok (.goto (-16), 3) := by decide +kernel
theorem dX9_tasks_105 : decode cX9_tasks 105 = .ok (.aload_n 0, 1) := by decide +kernel
theorem dX9_tasks_106 : decode cX9_tasks 106 = .ok (.getfield 84, 3) := by decide +kernel
theorem dX9_tasks_109 : decode cX9_tasks 109 = .ok (.iconst 0, 1) := by decide +kernel
theorem dX9_tasks_110 : decode cX9_tasks 110 = .ok (.iconst 0, 1) := by decide +kernel
theorem dX9_tasks_111 : decode cX9_tasks 111 = .ok (.bastore, 1) := by decide +kernel
theorem dX9_tasks_112 : decode cX9_tasks 112 = .ok (.aload_n 0, 1) := by decide +kernel
theorem dX9_tasks_113 : decode cX9_tasks 113 = .ok (.getfield 84, 3) := by decide +kernel
theorem dX9_tasks_116 : decode cX9_tasks 116 = .ok (.iconst 1, 1) := by decide +kernel
theorem dX9_tasks_117 : decode cX9_tasks 117 = .ok (.iconst 0, 1) := by decide +kernel
theorem dX9_tasks_118 : decode cX9_tasks 118 = .ok (.bastore, 1) := by decide +kernel
theorem dX9_tasks_119 : decode cX9_tasks 119 = .ok (.aload_n 0, 1) := by decide +kernel
theorem dX9_tasks_120 : decode cX9_tasks 120 = .ok (.getfield 94, 3) := by decide +kernel
theorem dX9_tasks_123 : decode cX9_tasks 123 = .ok (.ireturn, 1) := by decide +kernel
theorem dX9_fault_0 : decode cX9_fault 0 = .ok (.aload_n 0, 1) := by decide +kernel
theorem dX9_fault_1 : decode cX9_fault 1 = .ok (.getfield 39, 3) := by decide +kernel
theorem dX9_fault_4 : decode cX9_fault 4 = .ok (.ireturn, 1) := by decide +kernel
theorem dX9_doneSet_0 : decode cX9_doneSet 0 = .ok (.iconst 0, 1) := by decide +kernel
theorem dX9_doneSet_1 : decode cX9_doneSet 1 = .ok (.istore_n 2, 1) := by decide +kernel
theorem dX9_doneSet_2 : decode cX9_doneSet 2 = .ok (.iconst 0, 1) := by decide +kernel
theorem dX9_doneSet_3 : decode cX9_doneSet 3 = .ok (.istore_n 3, 1) := by decide +kernel
theorem dX9_doneSet_4 : decode cX9_doneSet 4 = .ok (.iload_n 3, 1) := by decide +kernel
theorem dX9_doneSet_5 : decode cX9_doneSet 5 = .ok (.aload_n 0, 1) := by decide +kernel
theorem dX9_doneSet_6 : decode cX9_doneSet 6 = .ok (.getfield 94, 3) := by decide +kernel
theorem dX9_doneSet_9 : decode cX9_doneSet 9 = .ok (.if_icmp .ge 43, 3) := by decide +kernel
theorem dX9_doneSet_12 : decode cX9_doneSet 12 = .ok (.iload_n 2, 1) := by decide +kernel
theorem dX9_doneSet_13 : decode cX9_doneSet 13 = .ok (.aload_n 0, 1) := by decide +kernel
theorem dX9_doneSet_14 : decode cX9_doneSet 14 = .ok (.getfield 26, 3) := by decide +kernel
theorem dX9_doneSet_17 : decode cX9_doneSet 17 = .ok (.iload_n 3, 1) := by decide +kernel
theorem dX9_doneSet_18 : decode cX9_doneSet 18 = .ok (.iaload, 1) := by decide +kernel
theorem dX9_doneSet_19 : decode cX9_doneSet 19 = .ok (.iconst 1, 1) := by decide +kernel
theorem dX9_doneSet_20 : decode cX9_doneSet 20 = .ok (.if_icmp .eq 17, 3) := by decide +kernel
theorem dX9_doneSet_23 : decode cX9_doneSet 23 = .ok (.aload_n 0, 1) := by decide +kernel
theorem dX9_doneSet_24 : decode cX9_doneSet 24 = .ok (.getfield 26, 3) := by decide +kernel
theorem dX9_doneSet_27 : decode cX9_doneSet 27 = .ok (.iload_n 3, 1) := by decide +kernel
theorem dX9_doneSet_28 : decode cX9_doneSet 28 = .ok (.iaload, 1) := by decide +kernel
theorem dX9_doneSet_29 : decode cX9_doneSet 29 = .ok (.iconst 2, 1) := by decide +kernel
theorem dX9_doneSet_30 : decode cX9_doneSet 30 = .ok (.if_icmp .ne 13, 3) := by decide +kernel
theorem dX9_doneSet_33 : decode cX9_doneSet 33 = .ok (.iload_n 1, 1) := by decide +kernel
theorem dX9_doneSet_34 : decode cX9_doneSet 34 = .ok (.ifCond .ne 9, 3) := by decide +kernel
theorem dX9_doneSet_37 : decode cX9_doneSet 37 = .ok (.iconst 1, 1) := by decide +kernel
theorem dX9_doneSet_38 : decode cX9_doneSet 38 = .ok (.iload_n 3, 1) := by decide +kernel
theorem dX9_doneSet_39 : decode cX9_doneSet 39 = .ok (.ishl, 1) := by decide +kernel
theorem dX9_doneSet_40 : decode cX9_doneSet 40 = .ok (.goto 4, 3) := by decide +kernel
theorem dX9_doneSet_43 : decode cX9_doneSet 43 = .ok (.iconst 0, 1) := by decide +kernel
theorem dX9_doneSet_44 : decode cX9_doneSet 44 = .ok (.ior, 1) := by decide +kernel
theorem dX9_doneSet_45 : decode cX9_doneSet 45 = .ok (.istore_n 2, 1) := by decide +kernel
theorem dX9_doneSet_46 : decode cX9_doneSet 46 = .ok (.iinc 3 1, 3) := by decide +kernel
theorem dX9_doneSet_49 : decode cX9_doneSet 49 = .ok (.goto (-45), 3) := by decide +kernel
theorem dX9_doneSet_52 : decode cX9_doneSet 52 = .ok (.iload_n 2, 1) := by decide +kernel
theorem dX9_doneSet_53 : decode cX9_doneSet 53 = .ok (.ireturn, 1) := by decide +kernel
theorem dX9_told_0 : decode cX9_told 0 = .ok (.iload_n 1, 1) := by decide +kernel
theorem dX9_told_1 : decode cX9_told 1 = .ok (.tableswitch 98 0 8 #[51, 56, 61, 66, 71, 76, 81, 86, 92], 51) := by decide +kernel
theorem dX9_told_52 : decode cX9_told 52 = .ok (.aload_n 0, 1) := by decide +kernel
theorem dX9_told_53 : decode cX9_told 53 = .ok (.getfield 178, 3) := by decide +kernel
theorem dX9_told_56 : decode cX9_told 56 = .ok (.ireturn, 1) := by decide +kernel
theorem dX9_told_57 : decode cX9_told 57 = .ok (.aload_n 0, 1) := by decide +kernel
theorem dX9_told_58 : decode cX9_told 58 = .ok (.getfield 87, 3) := by decide +kernel
theorem dX9_told_61 : decode cX9_told 61 = .ok (.ireturn, 1) := by decide +kernel
theorem dX9_told_62 : decode cX9_told 62 = .ok (.aload_n 0, 1) := by decide +kernel
theorem dX9_told_63 : decode cX9_told 63 = .ok (.getfield 94, 3) := by decide +kernel
theorem dX9_told_66 : decode cX9_told 66 = .ok (.ireturn, 1) := by decide +kernel
theorem dX9_told_67 : decode cX9_told 67 = .ok (.aload_n 0, 1) := by decide +kernel
theorem dX9_told_68 : decode cX9_told 68 = .ok (.getfield 100, 3) := by decide +kernel
theorem dX9_told_71 : decode cX9_told 71 = .ok (.ireturn, 1) := by decide +kernel
theorem dX9_told_72 : decode cX9_told 72 = .ok (.aload_n 0, 1) := by decide +kernel
theorem dX9_told_73 : decode cX9_told 73 = .ok (.getfield 29, 3) := by decide +kernel
theorem dX9_told_76 : decode cX9_told 76 = .ok (.ireturn, 1) := by decide +kernel
theorem dX9_told_77 : decode cX9_told 77 = .ok (.aload_n 0, 1) := by decide +kernel
theorem dX9_told_78 : decode cX9_told 78 = .ok (.getfield 184, 3) := by decide +kernel
theorem dX9_told_81 : decode cX9_told 81 = .ok (.ireturn, 1) := by decide +kernel
theorem dX9_told_82 : decode cX9_told 82 = .ok (.aload_n 0, 1) := by decide +kernel
theorem dX9_told_83 : decode cX9_told 83 = .ok (.getfield 206, 3) := by decide +kernel
theorem dX9_told_86 : decode cX9_told 86 = .ok (.ireturn, 1) := by decide +kernel
theorem dX9_told_87 : decode cX9_told 87 = .ok (.aload_n 0, 1) := by decide +kernel
theorem dX9_told_88 : decode cX9_told 88 = .ok (.iconst 0, 1) := by decide +kernel
theorem dX9_told_89 : decode cX9_told 89 = .ok (.invokevirtual 209, 3) := by decide +kernel
theorem dX9_told_92 : decode cX9_told 92 = .ok (.ireturn, 1) := by decide +kernel
theorem dX9_told_93 : decode cX9_told 93 = .ok (.aload_n 0, 1) := by decide +kernel
theorem dX9_told_94 : decode cX9_told 94 = .ok (.iconst 1, 1) := by decide +kernel
theorem dX9_told_95 : decode cX9_told 95 = .ok (.invokevirtual 209, 3) := by decide +kernel
theorem dX9_told_98 : decode cX9_told 98 = .ok (.ireturn, 1) := by decide +kernel
theorem dX9_told_99 : decode cX9_told 99 = .ok (.ldc 99, 2) := by decide +kernel
theorem dX9_told_101 : decode cX9_told 101 = .ok (.ireturn, 1) := by decide +kernel
theorem dX9_isNote_0 : decode cX9_isNote 0 = .ok (.iload_n 1, 1) := by decide +kernel
theorem dX9_isNote_1 : decode cX9_isNote 1 = .ok (.i2l, 1) := by decide +kernel
theorem dX9_isNote_2 : decode cX9_isNote 2 = .ok (.lconst 0, 1) := by decide +kernel
theorem dX9_isNote_3 : decode cX9_isNote 3 = .ok (.aload_n 0, 1) := by decide +kernel
theorem dX9_isNote_4 : decode cX9_isNote 4 = .ok (.getfield 178, 3) := by decide +kernel
theorem dX9_isNote_7 : decode cX9_isNote 7 = .ok (.iconst 1, 1) := by decide +kernel
theorem dX9_isNote_8 : decode cX9_isNote 8 = .ok (.isub, 1) := by decide +kernel
theorem dX9_isNote_9 : decode cX9_isNote 9 = .ok (.i2l, 1) := by decide +kernel
theorem dX9_isNote_10 : decode cX9_isNote 10 = .ok (.invokestatic 90, 3) := by decide +kernel
theorem dX9_isNote_13 : decode cX9_isNote 13 = .ok (.ireturn, 1) := by decide +kernel
theorem dX9_note_0 : decode cX9_note 0 = .ok (.aload_n 0, 1) := by decide +kernel
theorem dX9_note_1 : decode cX9_note 1 = .ok (.iload_n 1, 1) := by decide +kernel
theorem dX9_note_2 : decode cX9_note 2 = .ok (.invokevirtual 212, 3) := by decide +kernel
theorem dX9_note_5 : decode cX9_note 5 = .ok (.ifCond .ne 6, 3) := by decide +kernel
theorem dX9_note_8 : decode cX9_note 8 = .ok (.ldc 216, 2) := by decide +kernel
theorem dX9_note_10 : decode cX9_note 10 = .ok (.ireturn, 1) := by decide +kernel
theorem dX9_note_11 : decode cX9_note 11 = .ok (.iload_n 2, 1) := by decide +kernel
theorem dX9_note_12 : decode cX9_note 12 = .ok (.ifCond .ne 12, 3) := by decide +kernel
theorem dX9_note_15 : decode cX9_note 15 = .ok (.aload_n 0, 1) := by decide +kernel
theorem dX9_note_16 : decode cX9_note 16 = .ok (.getfield 7, 3) := by decide +kernel
theorem dX9_note_19 : decode cX9_note 19 = .ok (.iload_n 1, 1) := by decide +kernel
theorem dX9_note_20 : decode cX9_note 20 = .ok (.iaload, 1) := by decide +kernel
theorem dX9_note_21 : decode cX9_note 21 = .ok (.goto 27, 3) := by decide +kernel
theorem dX9_note_24 : decode cX9_note 24 = .ok (.iload_n 2, 1) := by decide +kernel
theorem dX9_note_25 : decode cX9_note 25 = .ok (.iconst 1, 1) := by decide +kernel
theorem dX9_note_26 : decode cX9_note 26 = .ok (.if_icmp .ne 20, 3) := by decide +kernel
theorem dX9_note_29 : decode cX9_note 29 = .ok (.aload_n 0, 1) := by decide +kernel
theorem dX9_note_30 : decode cX9_note 30 = .ok (.getfield 13, 3) := by decide +kernel
theorem dX9_note_33 : decode cX9_note 33 = .ok (.iload_n 1, 1) := by decide +kernel
theorem dX9_note_34 : decode cX9_note 34 = .ok (.baload, 1) := by decide +kernel
theorem dX9_note_35 : decode cX9_note 35 = .ok (.ifCond .eq 7, 3) := by decide +kernel
theorem dX9_note_38 : decode cX9_note 38 = .ok (.iconst 1, 1) := by decide +kernel
theorem dX9_note_39 : decode cX9_note 39 = .ok (.goto 9, 3) := by decide +kernel
theorem dX9_note_42 : decode cX9_note 42 = .ok (.iconst 0, 1) := by decide +kernel
theorem dX9_note_43 : decode cX9_note 43 = .ok (.goto 5, 3) := by decide +kernel
theorem dX9_note_46 : decode cX9_note 46 = .ok (.ldc 99, 2) := by decide +kernel
theorem dX9_note_48 : decode cX9_note 48 = .ok (.ireturn, 1) := by decide +kernel
theorem dX9_singer_0 : decode cX9_singer 0 = .ok (.aload_n 0, 1) := by decide +kernel
theorem dX9_singer_1 : decode cX9_singer 1 = .ok (.iload_n 1, 1) := by decide +kernel
theorem dX9_singer_2 : decode cX9_singer 2 = .ok (.invokevirtual 217, 3) := by decide +kernel
theorem dX9_singer_5 : decode cX9_singer 5 = .ok (.ifCond .ne 6, 3) := by decide +kernel
theorem dX9_singer_8 : decode cX9_singer 8 = .ok (.ldc 216, 2) := by decide +kernel
theorem dX9_singer_10 : decode cX9_singer 10 = .ok (.ireturn, 1) := by decide +kernel
theorem dX9_singer_11 : decode cX9_singer 11 = .ok (.iload_n 2, 1) := by decide +kernel
theorem dX9_singer_12 : decode cX9_singer 12 = .ok (.i2l, 1) := by decide +kernel
theorem dX9_singer_13 : decode cX9_singer 13 = .ok (.lconst 0, 1) := by decide +kernel
theorem dX9_singer_14 : decode cX9_singer 14 = .ok (.ldc2_w 220, 3) := by decide +kernel
theorem dX9_singer_17 : decode cX9_singer 17 = .ok (.invokestatic 90, 3) := by decide +kernel
theorem dX9_singer_20 : decode cX9_singer 20 = .ok (.ifCond .eq 17, 3) := by decide +kernel
theorem dX9_singer_23 : decode cX9_singer 23 = .ok (.aload_n 0, 1) := by decide +kernel
theorem dX9_singer_24 : decode cX9_singer 24 = .ok (.getfield 17, 3) := by decide +kernel
theorem dX9_singer_27 : decode cX9_singer 27 = .ok (.bipush 8, 2) := by decide +kernel
theorem dX9_singer_29 : decode cX9_singer 29 = .ok (.iload_n 1, 1) := by decide +kernel
theorem dX9_singer_30 : decode cX9_singer 30 = .ok (.imul, 1) := by decide +kernel
theorem dX9_singer_31 : decode cX9_singer 31 = .ok (.iload_n 2, 1) := by decide +kernel
theorem dX9_singer_32 : decode cX9_singer 32 = .ok (.iadd, 1) := by decide +kernel
theorem dX9_singer_33 : decode cX9_singer 33 = .ok (.iaload, 1) := by decide +kernel
theorem dX9_singer_34 : decode cX9_singer 34 = .ok (.goto 5, 3) := by decide +kernel
theorem dX9_singer_37 : decode cX9_singer 37 = .ok (.ldc 99, 2) := by decide +kernel
theorem dX9_singer_39 : decode cX9_singer 39 = .ok (.ireturn, 1) := by decide +kernel
theorem dX9_task_0 : decode cX9_task 0 = .ok (.aload_n 0, 1) := by decide +kernel
theorem dX9_task_1 : decode cX9_task 1 = .ok (.iload_n 1, 1) := by decide +kernel
theorem dX9_task_2 : decode cX9_task 2 = .ok (.invokevirtual 222, 3) := by decide +kernel
theorem dX9_task_5 : decode cX9_task 5 = .ok (.ifCond .ne 6, 3) := by decide +kernel
theorem dX9_task_8 : decode cX9_task 8 = .ok (.ldc 216, 2) := by decide +kernel
theorem dX9_task_10 : decode cX9_task 10 = .ok (.ireturn, 1) := by decide +kernel
theorem dX9_task_11 : decode cX9_task 11 = .ok (.iload_n 2, 1) := by decide +kernel
theorem dX9_task_12 : decode cX9_task 12 = .ok (.i2l, 1) := by decide +kernel
theorem dX9_task_13 : decode cX9_task 13 = .ok (.lconst 0, 1) := by decide +kernel
theorem dX9_task_14 : decode cX9_task 14 = .ok (.ldc2_w 225, 3) := by decide +kernel
theorem dX9_task_17 : decode cX9_task 17 = .ok (.invokestatic 90, 3) := by decide +kernel
theorem dX9_task_20 : decode cX9_task 20 = .ok (.ifCond .eq 16, 3) := by decide +kernel
theorem dX9_task_23 : decode cX9_task 23 = .ok (.aload_n 0, 1) := by decide +kernel
theorem dX9_task_24 : decode cX9_task 24 = .ok (.getfield 20, 3) := by decide +kernel
theorem dX9_task_27 : decode cX9_task 27 = .ok (.iconst 4, 1) := by decide +kernel
theorem dX9_task_28 : decode cX9_task 28 = .ok (.iload_n 1, 1) := by decide +kernel
theorem dX9_task_29 : decode cX9_task 29 = .ok (.imul, 1) := by decide +kernel
theorem dX9_task_30 : decode cX9_task 30 = .ok (.iload_n 2, 1) := by decide +kernel
theorem dX9_task_31 : decode cX9_task 31 = .ok (.iadd, 1) := by decide +kernel
theorem dX9_task_32 : decode cX9_task 32 = .ok (.iaload, 1) := by decide +kernel
theorem dX9_task_33 : decode cX9_task 33 = .ok (.goto 5, 3) := by decide +kernel
theorem dX9_task_36 : decode cX9_task 36 = .ok (.ldc 99, 2) := by decide +kernel
theorem dX9_task_38 : decode cX9_task 38 = .ok (.ireturn, 1) := by decide +kernel
theorem dX9_draw_0 : decode cX9_draw 0 = .ok (.aload_n 0, 1) := by decide +kernel
theorem dX9_draw_1 : decode cX9_draw 1 = .ok (.aload_n 0, 1) := by decide +kernel
theorem dX9_draw_2 : decode cX9_draw 2 = .ok (.getfield 227, 3) := by decide +kernel
theorem dX9_draw_5 : decode cX9_draw 5 = .ok (.i2l, 1) := by decide +kernel
theorem dX9_draw_6 : decode cX9_draw 6 = .ok (.ldc2_w 230, 3) := by decide +kernel
theorem dX9_draw_9 : decode cX9_draw 9 = .ok (.lmul, 1) := by decide +kernel
theorem dX9_draw_10 : decode cX9_draw 10 = .ok (.ldc2_w 232, 3) := by decide +kernel
theorem dX9_draw_13 : decode cX9_draw 13 = .ok (.ladd, 1) := by decide +kernel
theorem dX9_draw_14 : decode cX9_draw 14 = .ok (.ldc2_w 234, 3) := by decide +kernel
theorem dX9_draw_17 : decode cX9_draw 17 = .ok (.lrem, 1) := by decide +kernel
theorem dX9_draw_18 : decode cX9_draw 18 = .ok (.l2i, 1) := by decide +kernel
theorem dX9_draw_19 : decode cX9_draw 19 = .ok (.putfield 227, 3) := by decide +kernel
theorem dX9_draw_22 : decode cX9_draw 22 = .ok (.aload_n 0, 1) := by decide +kernel
theorem dX9_draw_23 : decode cX9_draw 23 = .ok (.getfield 227, 3) := by decide +kernel
theorem dX9_draw_26 : decode cX9_draw 26 = .ok (.ldc 236, 2) := by decide +kernel
theorem dX9_draw_28 : decode cX9_draw 28 = .ok (.idiv, 1) := by decide +kernel
theorem dX9_draw_29 : decode cX9_draw 29 = .ok (.iload_n 1, 1) := by decide +kernel
theorem dX9_draw_30 : decode cX9_draw 30 = .ok (.irem, 1) := by decide +kernel
theorem dX9_draw_31 : decode cX9_draw 31 = .ok (.ireturn, 1) := by decide +kernel
theorem dX9_highOf_0 : decode cX9_highOf 0 = .ok (.aload_n 0, 1) := by decide +kernel
theorem dX9_highOf_1 : decode cX9_highOf 1 = .ok (.getfield 17, 3) := by decide +kernel
theorem dX9_highOf_4 : decode cX9_highOf 4 = .ok (.bipush 8, 2) := by decide +kernel
theorem dX9_highOf_6 : decode cX9_highOf 6 = .ok (.iload_n 1, 1) := by decide +kernel
theorem dX9_highOf_7 : decode cX9_highOf 7 = .ok (.imul, 1) := by decide +kernel
theorem dX9_highOf_8 : decode cX9_highOf 8 = .ok (.bipush 6, 2) := by decide +kernel
theorem dX9_highOf_10 : decode cX9_highOf 10 = .ok (.iadd, 1) := by decide +kernel
theorem dX9_highOf_11 : decode cX9_highOf 11 = .ok (.iaload, 1) := by decide +kernel
theorem dX9_highOf_12 : decode cX9_highOf 12 = .ok (.istore_n 2, 1) := by decide +kernel
theorem dX9_highOf_13 : decode cX9_highOf 13 = .ok (.aload_n 0, 1) := by decide +kernel
theorem dX9_highOf_14 : decode cX9_highOf 14 = .ok (.getfield 17, 3) := by decide +kernel
theorem dX9_highOf_17 : decode cX9_highOf 17 = .ok (.bipush 8, 2) := by decide +kernel
theorem dX9_highOf_19 : decode cX9_highOf 19 = .ok (.iload_n 1, 1) := by decide +kernel
theorem dX9_highOf_20 : decode cX9_highOf 20 = .ok (.imul, 1) := by decide +kernel
theorem dX9_highOf_21 : decode cX9_highOf 21 = .ok (.iconst 5, 1) := by decide +kernel
theorem dX9_highOf_22 : decode cX9_highOf 22 = .ok (.iadd, 1) := by decide +kernel
theorem dX9_highOf_23 : decode cX9_highOf 23 = .ok (.iaload, 1) := by decide +kernel
theorem dX9_highOf_24 : decode cX9_highOf 24 = .ok (.iconst 5, 1) := by decide +kernel
theorem dX9_highOf_25 : decode cX9_highOf 25 = .ok (.iadd, 1) := by decide +kernel
theorem dX9_highOf_26 : decode cX9_highOf 26 = .ok (.istore_n 3, 1) := by decide +kernel
theorem dX9_highOf_27 : decode cX9_highOf 27 = .ok (.aload_n 0, 1) := by decide +kernel
theorem dX9_highOf_28 : decode cX9_highOf 28 = .ok (.getfield 17, 3) := by decide +kernel
theorem dX9_highOf_31 : decode cX9_highOf 31 = .ok (.bipush 8, 2) := by decide +kernel
theorem dX9_highOf_33 : decode cX9_highOf 33 = .ok (.iload_n 1, 1) := by decide +kernel
theorem dX9_highOf_34 : decode cX9_highOf 34 = .ok (.imul, 1) := by decide +kernel
theorem dX9_highOf_35 : decode cX9_highOf 35 = .ok (.iaload, 1) := by decide +kernel
theorem dX9_highOf_36 : decode cX9_highOf 36 = .ok (.iconst 3, 1) := by decide +kernel
theorem dX9_highOf_37 : decode cX9_highOf 37 = .ok (.if_icmp .ne 12, 3) := by decide +kernel
theorem dX9_highOf_40 : decode cX9_highOf 40 = .ok (.iload_n 3, 1) := by decide +kernel
theorem dX9_highOf_41 : decode cX9_highOf 41 = .ok (.iload_n 2, 1) := by decide +kernel
theorem dX9_highOf_42 : decode cX9_highOf 42 = .ok (.if_icmp .ge 7, 3) := by decide +kernel
theorem dX9_highOf_45 : decode cX9_highOf 45 = .ok (.iload_n 3, 1) := by decide +kernel
theorem dX9_highOf_46 : decode cX9_highOf 46 = .ok (.goto 4, 3) := by decide +kernel
theorem dX9_highOf_49 : decode cX9_highOf 49 = .ok (.iload_n 2, 1) := by decide +kernel
theorem dX9_highOf_50 : decode cX9_highOf 50 = .ok (.ireturn, 1) := by decide +kernel
theorem dX9_heldTo_0 : decode cX9_heldTo 0 = .ok (.bipush 100, 2) := by decide +kernel
theorem dX9_heldTo_2 : decode cX9_heldTo 2 = .ok (.aload_n 0, 1) := by decide +kernel
theorem dX9_heldTo_3 : decode cX9_heldTo 3 = .ok (.getfield 17, 3) := by decide +kernel
theorem dX9_heldTo_6 : decode cX9_heldTo 6 = .ok (.bipush 8, 2) := by decide +kernel
theorem dX9_heldTo_8 : decode cX9_heldTo 8 = .ok (.iload_n 1, 1) := by decide +kernel
theorem dX9_heldTo_9 : decode cX9_heldTo 9 = .ok (.imul, 1) := by decide +kernel
theorem dX9_heldTo_10 : decode cX9_heldTo 10 = .ok (.iconst 5, 1) := by decide +kernel
theorem dX9_heldTo_11 : decode cX9_heldTo 11 = .ok (.iadd, 1) := by decide +kernel
theorem dX9_heldTo_12 : decode cX9_heldTo 12 = .ok (.iaload, 1) := by decide +kernel
theorem dX9_heldTo_13 : decode cX9_heldTo 13 = .ok (.imul, 1) := by decide +kernel
theorem dX9_heldTo_14 : decode cX9_heldTo 14 = .ok (.istore_n 3, 1) := by decide +kernel
theorem dX9_heldTo_15 : decode cX9_heldTo 15 = .ok (.bipush 100, 2) := by decide +kernel
theorem dX9_heldTo_17 : decode cX9_heldTo 17 = .ok (.aload_n 0, 1) := by decide +kernel
theorem dX9_heldTo_18 : decode cX9_heldTo 18 = .ok (.iload_n 1, 1) := by decide +kernel
theorem dX9_heldTo_19 : decode cX9_heldTo 19 = .ok (.invokevirtual 237, 3) := by decide +kernel
theorem dX9_heldTo_22 : decode cX9_heldTo 22 = .ok (.imul, 1) := by decide +kernel
theorem dX9_heldTo_23 : decode cX9_heldTo 23 = .ok (.istore 4, 2) := by decide +kernel
theorem dX9_heldTo_25 : decode cX9_heldTo 25 = .ok (.iload_n 2, 1) := by decide +kernel
theorem dX9_heldTo_26 : decode cX9_heldTo 26 = .ok (.iload_n 3, 1) := by decide +kernel
theorem dX9_heldTo_27 : decode cX9_heldTo 27 = .ok (.if_icmp .ge 7, 3) := by decide +kernel
theorem dX9_heldTo_30 : decode cX9_heldTo 30 = .ok (.iload_n 3, 1) := by decide +kernel
theorem dX9_heldTo_31 : decode cX9_heldTo 31 = .ok (.goto 15, 3) := by decide +kernel
theorem dX9_heldTo_34 : decode cX9_heldTo 34 = .ok (.iload_n 2, 1) := by decide +kernel
theorem dX9_heldTo_35 : decode cX9_heldTo 35 = .ok (.iload 4, 2) := by decide +kernel
theorem dX9_heldTo_37 : decode cX9_heldTo 37 = .ok (.if_icmp .le 8, 3) := by decide +kernel
theorem dX9_heldTo_40 : decode cX9_heldTo 40 = .ok (.iload 4, 2) := by decide +kernel
theorem dX9_heldTo_42 : decode cX9_heldTo 42 = .ok (.goto 4, 3) := by decide +kernel
theorem dX9_heldTo_45 : decode cX9_heldTo 45 = .ok (.iload_n 2, 1) := by decide +kernel
theorem dX9_heldTo_46 : decode cX9_heldTo 46 = .ok (.ireturn, 1) := by decide +kernel
theorem dX9_firstAim_0 : decode cX9_firstAim 0 = .ok (.aload_n 0, 1) := by decide +kernel
theorem dX9_firstAim_1 : decode cX9_firstAim 1 = .ok (.getfield 7, 3) := by decide +kernel
theorem dX9_firstAim_4 : decode cX9_firstAim 4 = .ok (.iconst 0, 1) := by decide +kernel
theorem dX9_firstAim_5 : decode cX9_firstAim 5 = .ok (.iaload, 1) := by decide +kernel
theorem dX9_firstAim_6 : decode cX9_firstAim 6 = .ok (.iload_n 1, 1) := by decide +kernel
theorem dX9_firstAim_7 : decode cX9_firstAim 7 = .ok (.ifCond .ne 18, 3) := by decide +kernel
theorem dX9_firstAim_10 : decode cX9_firstAim 10 = .ok (.bipush 100, 2) := by decide +kernel
theorem dX9_firstAim_12 : decode cX9_firstAim 12 = .ok (.aload_n 0, 1) := by decide +kernel
theorem dX9_firstAim_13 : decode cX9_firstAim 13 = .ok (.bipush 13, 2) := by decide +kernel
theorem dX9_firstAim_15 : decode cX9_firstAim 15 = .ok (.invokevirtual 240, 3) := by decide +kernel
theorem dX9_firstAim_18 : decode cX9_firstAim 18 = .ok (.bipush 6, 2) := by decide +kernel
theorem dX9_firstAim_20 : decode cX9_firstAim 20 = .ok (.isub, 1) := by decide +kernel
theorem dX9_firstAim_21 : decode cX9_firstAim 21 = .ok (.imul, 1) := by decide +kernel
theorem dX9_firstAim_22 : decode cX9_firstAim 22 = .ok (.goto 23, 3) := by decide +kernel
theorem dX9_firstAim_25 : decode cX9_firstAim 25 = .ok (.iload_n 1, 1) := by decide +kernel
theorem dX9_firstAim_26 : decode cX9_firstAim 26 = .ok (.iconst 1, 1) := by decide +kernel
theorem dX9_firstAim_27 : decode cX9_firstAim 27 = .ok (.if_icmp .ne 17, 3) := by decide +kernel
theorem dX9_firstAim_30 : decode cX9_firstAim 30 = .ok (.sipush 1200, 3) := by decide +kernel
theorem dX9_firstAim_33 : decode cX9_firstAim 33 = .ok (.aload_n 0, 1) := by decide +kernel
theorem dX9_firstAim_34 : decode cX9_firstAim 34 = .ok (.iconst 2, 1) := by decide +kernel
theorem dX9_firstAim_35 : decode cX9_firstAim 35 = .ok (.invokevirtual 240, 3) := by decide +kernel
theorem dX9_firstAim_38 : decode cX9_firstAim 38 = .ok (.iconst 1, 1) := by decide +kernel
theorem dX9_firstAim_39 : decode cX9_firstAim 39 = .ok (.isub, 1) := by decide +kernel
theorem dX9_firstAim_40 : decode cX9_firstAim 40 = .ok (.imul, 1) := by decide +kernel
theorem dX9_firstAim_41 : decode cX9_firstAim 41 = .ok (.goto 4, 3) := by decide +kernel
theorem dX9_firstAim_44 : decode cX9_firstAim 44 = .ok (.iconst 0, 1) := by decide +kernel
theorem dX9_firstAim_45 : decode cX9_firstAim 45 = .ok (.iadd, 1) := by decide +kernel
theorem dX9_firstAim_46 : decode cX9_firstAim 46 = .ok (.ireturn, 1) := by decide +kernel
theorem dX9_nextAim_0 : decode cX9_nextAim 0 = .ok (.aload_n 0, 1) := by decide +kernel
theorem dX9_nextAim_1 : decode cX9_nextAim 1 = .ok (.getfield 17, 3) := by decide +kernel
theorem dX9_nextAim_4 : decode cX9_nextAim 4 = .ok (.bipush 8, 2) := by decide +kernel
theorem dX9_nextAim_6 : decode cX9_nextAim 6 = .ok (.iload_n 1, 1) := by decide +kernel
theorem dX9_nextAim_7 : decode cX9_nextAim 7 = .ok (.imul, 1) := by decide +kernel
theorem dX9_nextAim_8 : decode cX9_nextAim 8 = .ok (.iaload, 1) := by decide +kernel
theorem dX9_nextAim_9 : decode cX9_nextAim 9 = .ok (.istore 5, 2) := by decide +kernel
theorem dX9_nextAim_11 : decode cX9_nextAim 11 = .ok (.iload 5, 2) := by decide +kernel
theorem dX9_nextAim_13 : decode cX9_nextAim 13 = .ok (.iconst 5, 1) := by decide +kernel
theorem dX9_nextAim_14 : decode cX9_nextAim 14 = .ok (.if_icmp .ne 22, 3) := by decide +kernel
theorem dX9_nextAim_17 : decode cX9_nextAim 17 = .ok (.aload_n 0, 1) := by decide +kernel
theorem dX9_nextAim_18 : decode cX9_nextAim 18 = .ok (.getfield 17, 3) := by decide +kernel
theorem dX9_nextAim_21 : decode cX9_nextAim 21 = .ok (.bipush 8, 2) := by decide +kernel
theorem dX9_nextAim_23 : decode cX9_nextAim 23 = .ok (.iload_n 1, 1) := by decide +kernel
theorem dX9_nextAim_24 : decode cX9_nextAim 24 = .ok (.imul, 1) := by decide +kernel
theorem dX9_nextAim_25 : decode cX9_nextAim 25 = .ok (.iconst 4, 1) := by decide +kernel
theorem dX9_nextAim_26 : decode cX9_nextAim 26 = .ok (.iadd, 1) := by decide +kernel
theorem dX9_nextAim_27 : decode cX9_nextAim 27 = .ok (.iaload, 1) := by decide +kernel
theorem dX9_nextAim_28 : decode cX9_nextAim 28 = .ok (.iconst 3, 1) := by decide +kernel
theorem dX9_nextAim_29 : decode cX9_nextAim 29 = .ok (.if_icmp .le 7, 3) := by decide +kernel
theorem dX9_nextAim_32 : decode cX9_nextAim 32 = .ok (.iconst 3, 1) := by decide +kernel
theorem dX9_nextAim_33 : decode cX9_nextAim 33 = .ok (.goto 14, 3) := by decide +kernel
theorem dX9_nextAim_36 : decode cX9_nextAim 36 = .ok (.aload_n 0, 1) := by decide +kernel
theorem dX9_nextAim_37 : decode cX9_nextAim 37 = .ok (.getfield 17, 3) := by decide +kernel
theorem dX9_nextAim_40 : decode cX9_nextAim 40 = .ok (.bipush 8, 2) := by decide +kernel
theorem dX9_nextAim_42 : decode cX9_nextAim 42 = .ok (.iload_n 1, 1) := by decide +kernel
theorem dX9_nextAim_43 : decode cX9_nextAim 43 = .ok (.imul, 1) := by decide +kernel
theorem dX9_nextAim_44 : decode cX9_nextAim 44 = .ok (.iconst 4, 1) := by decide +kernel
theorem dX9_nextAim_45 : decode cX9_nextAim 45 = .ok (.iadd, 1) := by decide +kernel
theorem dX9_nextAim_46 : decode cX9_nextAim 46 = .ok (.iaload, 1) := by decide +kernel
theorem dX9_nextAim_47 : decode cX9_nextAim 47 = .ok (.istore 6, 2) := by decide +kernel
theorem dX9_nextAim_49 : decode cX9_nextAim 49 = .ok (.iload 5, 2) := by decide +kernel
theorem dX9_nextAim_51 : decode cX9_nextAim 51 = .ok (.iconst 1, 1) := by decide +kernel
theorem dX9_nextAim_52 : decode cX9_nextAim 52 = .ok (.if_icmp .eq 12, 3) := by decide +kernel
theorem dX9_nextAim_55 : decode cX9_nextAim 55 = .ok (.iload 4, 2) := by decide +kernel
theorem dX9_nextAim_57 : decode cX9_nextAim 57 = .ok (.iload 6, 2) := by decide +kernel
theorem dX9_nextAim_59 : decode cX9_nextAim 59 = .ok (.if_icmp .lt 5, 3) := by decide +kernel
theorem dX9_nextAim_62 : decode cX9_nextAim 62 = .ok (.iload_n 2, 1) := by decide +kernel
theorem dX9_nextAim_63 : decode cX9_nextAim 63 = .ok (.ireturn, 1) := by decide +kernel
theorem dX9_nextAim_64 : decode cX9_nextAim 64 = .ok (.aload_n 0, 1) := by decide +kernel
theorem dX9_nextAim_65 : decode cX9_nextAim 65 = .ok (.getfield 7, 3) := by decide +kernel
theorem dX9_nextAim_68 : decode cX9_nextAim 68 = .ok (.iload_n 3, 1) := by decide +kernel
theorem dX9_nextAim_69 : decode cX9_nextAim 69 = .ok (.iaload, 1) := by decide +kernel
theorem dX9_nextAim_70 : decode cX9_nextAim 70 = .ok (.aload_n 0, 1) := by decide +kernel
theorem dX9_nextAim_71 : decode cX9_nextAim 71 = .ok (.getfield 7, 3) := by decide +kernel
theorem dX9_nextAim_74 : decode cX9_nextAim 74 = .ok (.iload_n 3, 1) := by decide +kernel
theorem dX9_nextAim_75 : decode cX9_nextAim 75 = .ok (.iconst 1, 1) := by decide +kernel
theorem dX9_nextAim_76 : decode cX9_nextAim 76 = .ok (.isub, 1) := by decide +kernel
theorem dX9_nextAim_77 : decode cX9_nextAim 77 = .ok (.iaload, 1) := by decide +kernel
theorem dX9_nextAim_78 : decode cX9_nextAim 78 = .ok (.isub, 1) := by decide +kernel
theorem dX9_nextAim_79 : decode cX9_nextAim 79 = .ok (.istore 7, 2) := by decide +kernel
theorem dX9_nextAim_81 : decode cX9_nextAim 81 = .ok (.iload 5, 2) := by decide +kernel
theorem dX9_nextAim_83 : decode cX9_nextAim 83 = .ok (.bipush 6, 2) := by decide +kernel
theorem dX9_nextAim_85 : decode cX9_nextAim 85 = .ok (.if_icmp .ne 7, 3) := by decide +kernel
theorem dX9_nextAim_88 : decode cX9_nextAim 88 = .ok (.iconst 2, 1) := by decide +kernel
theorem dX9_nextAim_89 : decode cX9_nextAim 89 = .ok (.goto 4, 3) := by decide +kernel
theorem dX9_nextAim_92 : decode cX9_nextAim 92 = .ok (.iconst 1, 1) := by decide +kernel
theorem dX9_nextAim_93 : decode cX9_nextAim 93 = .ok (.aload_n 0, 1) := by decide +kernel
theorem dX9_nextAim_94 : decode cX9_nextAim 94 = .ok (.getfield 17, 3) := by decide +kernel
theorem dX9_nextAim_97 : decode cX9_nextAim 97 = .ok (.bipush 8, 2) := by decide +kernel
theorem dX9_nextAim_99 : decode cX9_nextAim 99 = .ok (.iload_n 1, 1) := by decide +kernel
theorem dX9_nextAim_100 : decode cX9_nextAim 100 = .ok (.imul, 1) := by decide +kernel
theorem dX9_nextAim_101 : decode cX9_nextAim 101 = .ok (.iconst 1, 1) := by decide +kernel
theorem dX9_nextAim_102 : decode cX9_nextAim 102 = .ok (.iadd, 1) := by decide +kernel
theorem dX9_nextAim_103 : decode cX9_nextAim 103 = .ok (.iaload, 1) := by decide +kernel
theorem dX9_nextAim_104 : decode cX9_nextAim 104 = .ok (.imul, 1) := by decide +kernel
theorem dX9_nextAim_105 : decode cX9_nextAim 105 = .ok (.bipush 50, 2) := by decide +kernel
theorem dX9_nextAim_107 : decode cX9_nextAim 107 = .ok (.iadd, 1) := by decide +kernel
theorem dX9_nextAim_108 : decode cX9_nextAim 108 = .ok (.istore 8, 2) := by decide +kernel
theorem dX9_nextAim_110 : decode cX9_nextAim 110 = .ok (.iload 5, 2) := by decide +kernel
theorem dX9_nextAim_112 : decode cX9_nextAim 112 = .ok (.iconst 1, 1) := by decide +kernel
theorem dX9_nextAim_113 : decode cX9_nextAim 113 = .ok (.if_icmp .ne 7, 3) := by decide +kernel
theorem dX9_nextAim_116 : decode cX9_nextAim 116 = .ok (.iconst 0, 1) := by decide +kernel
theorem dX9_nextAim_117 : decode cX9_nextAim 117 = .ok (.goto 27, 3) := by decide +kernel
theorem dX9_nextAim_120 : decode cX9_nextAim 120 = .ok (.iload 5, 2) := by decide +kernel
theorem dX9_nextAim_122 : decode cX9_nextAim 122 = .ok (.iconst 2, 1) := by decide +kernel
theorem dX9_nextAim_123 : decode cX9_nextAim 123 = .ok (.if_icmp .ne 7, 3) := by decide +kernel
theorem dX9_nextAim_126 : decode cX9_nextAim 126 = .ok (.iconst 2, 1) := by decide +kernel
theorem dX9_nextAim_127 : decode cX9_nextAim 127 = .ok (.goto 4, 3) := by decide +kernel
theorem dX9_nextAim_130 : decode cX9_nextAim 130 = .ok (.iconst 1, 1) := by decide +kernel
theorem dX9_nextAim_131 : decode cX9_nextAim 131 = .ok (.aload_n 0, 1) := by decide +kernel
theorem dX9_nextAim_132 : decode cX9_nextAim 132 = .ok (.getfield 17, 3) := by decide +kernel
theorem dX9_nextAim_135 : decode cX9_nextAim 135 = .ok (.bipush 8, 2) := by decide +kernel
theorem dX9_nextAim_137 : decode cX9_nextAim 137 = .ok (.iload_n 1, 1) := by decide +kernel
theorem dX9_nextAim_138 : decode cX9_nextAim 138 = .ok (.imul, 1) := by decide +kernel
theorem dX9_nextAim_139 : decode cX9_nextAim 139 = .ok (.bipush 7, 2) := by decide +kernel
theorem dX9_nextAim_141 : decode cX9_nextAim 141 = .ok (.iadd, 1) := by decide +kernel
theorem dX9_nextAim_142 : decode cX9_nextAim 142 = .ok (.iaload, 1) := by decide +kernel
theorem dX9_nextAim_143 : decode cX9_nextAim 143 = .ok (.imul, 1) := by decide +kernel
theorem dX9_nextAim_144 : decode cX9_nextAim 144 = .ok (.istore 9, 2) := by decide +kernel
theorem dX9_nextAim_146 : decode cX9_nextAim 146 = .ok (.iload_n 2, 1) := by decide +kernel
theorem dX9_nextAim_147 : decode cX9_nextAim 147 = .ok (.iload 5, 2) := by decide +kernel
theorem dX9_nextAim_149 : decode cX9_nextAim 149 = .ok (.iconst 1, 1) := by decide +kernel
theorem dX9_nextAim_150 : decode cX9_nextAim 150 = .ok (.if_icmp .eq 17, 3) := by decide +kernel
theorem dX9_nextAim_153 : decode cX9_nextAim 153 = .ok (.iload 7, 2) := by decide +kernel
theorem dX9_nextAim_155 : decode cX9_nextAim 155 = .ok (.invokestatic 243, 3) := by decide +kernel
theorem dX9_nextAim_158 : decode cX9_nextAim 158 = .ok (.iload 8, 2) := by decide +kernel
theorem dX9_nextAim_160 : decode cX9_nextAim 160 = .ok (.if_icmp .gt 7, 3) := by decide +kernel
theorem dX9_nextAim_163 : decode cX9_nextAim 163 = .ok (.iconst 0, 1) := by decide +kernel
theorem dX9_nextAim_164 : decode cX9_nextAim 164 = .ok (.goto 5, 3) := by decide +kernel
theorem dX9_nextAim_167 : decode cX9_nextAim 167 = .ok (.iload 7, 2) := by decide +kernel
theorem dX9_nextAim_169 : decode cX9_nextAim 169 = .ok (.iadd, 1) := by decide +kernel
theorem dX9_nextAim_170 : decode cX9_nextAim 170 = .ok (.iload 9, 2) := by decide +kernel
theorem dX9_nextAim_172 : decode cX9_nextAim 172 = .ok (.iadd, 1) := by decide +kernel
theorem dX9_nextAim_173 : decode cX9_nextAim 173 = .ok (.ireturn, 1) := by decide +kernel
theorem dX9_swing_0 : decode cX9_swing 0 = .ok (.aload_n 0, 1) := by decide +kernel
theorem dX9_swing_1 : decode cX9_swing 1 = .ok (.getfield 17, 3) := by decide +kernel
theorem dX9_swing_4 : decode cX9_swing 4 = .ok (.bipush 8, 2) := by decide +kernel
theorem dX9_swing_6 : decode cX9_swing 6 = .ok (.iload_n 1, 1) := by decide +kernel
theorem dX9_swing_7 : decode cX9_swing 7 = .ok (.imul, 1) := by decide +kernel
theorem dX9_swing_8 : decode cX9_swing 8 = .ok (.iconst 3, 1) := by decide +kernel
theorem dX9_swing_9 : decode cX9_swing 9 = .ok (.iadd, 1) := by decide +kernel
theorem dX9_swing_10 : decode cX9_swing 10 = .ok (.iaload, 1) := by decide +kernel
theorem dX9_swing_11 : decode cX9_swing 11 = .ok (.istore 4, 2) := by decide +kernel
theorem dX9_swing_13 : decode cX9_swing 13 = .ok (.iload_n 3, 1) := by decide +kernel
theorem dX9_swing_14 : decode cX9_swing 14 = .ok (.ifCond .eq 20, 3) := by decide +kernel
theorem dX9_swing_17 : decode cX9_swing 17 = .ok (.iload_n 2, 1) := by decide +kernel
theorem dX9_swing_18 : decode cX9_swing 18 = .ok (.iconst 2, 1) := by decide +kernel
theorem dX9_swing_19 : decode cX9_swing 19 = .ok (.irem, 1) := by decide +kernel
theorem dX9_swing_20 : decode cX9_swing 20 = .ok (.ifCond .ne 8, 3) := by decide +kernel
theorem dX9_swing_23 : decode cX9_swing 23 = .ok (.iload 4, 2) := by decide +kernel
theorem dX9_swing_25 : decode cX9_swing 25 = .ok (.goto 22, 3) := by decide +kernel
theorem dX9_swing_28 : decode cX9_swing 28 = .ok (.iload 4, 2) := by decide +kernel
theorem dX9_swing_30 : decode cX9_swing 30 = .ok (.ineg, 1) := by decide +kernel
theorem dX9_swing_31 : decode cX9_swing 31 = .ok (.goto 16, 3) := by decide +kernel
theorem dX9_swing_34 : decode cX9_swing 34 = .ok (.aload_n 0, 1) := by decide +kernel
theorem dX9_swing_35 : decode cX9_swing 35 = .ok (.iconst 2, 1) := by decide +kernel
theorem dX9_swing_36 : decode cX9_swing 36 = .ok (.iload 4, 2) := by decide +kernel
theorem dX9_swing_38 : decode cX9_swing 38 = .ok (.imul, 1) := by decide +kernel
theorem dX9_swing_39 : decode cX9_swing 39 = .ok (.iconst 1, 1) := by decide +kernel
theorem dX9_swing_40 : decode cX9_swing 40 = .ok (.iadd, 1) := by decide +kernel
theorem dX9_swing_41 : decode cX9_swing 41 = .ok (.invokevirtual 240, 3) := by decide +kernel
theorem dX9_swing_44 : decode cX9_swing 44 = .ok (.iload 4, 2) := by decide +kernel
theorem dX9_swing_46 : decode cX9_swing 46 = .ok (.isub, 1) := by decide +kernel
theorem dX9_swing_47 : decode cX9_swing 47 = .ok (.ireturn, 1) := by decide +kernel
theorem dX9_singInto_0 : decode cX9_singInto 0 = .ok (.aload_n 0, 1) := by decide +kernel
theorem dX9_singInto_1 : decode cX9_singInto 1 = .ok (.getfield 17, 3) := by decide +kernel
theorem dX9_singInto_4 : decode cX9_singInto 4 = .ok (.bipush 8, 2) := by decide +kernel
theorem dX9_singInto_6 : decode cX9_singInto 6 = .ok (.iload_n 2, 1) := by decide +kernel
theorem dX9_singInto_7 : decode cX9_singInto 7 = .ok (.imul, 1) := by decide +kernel
theorem dX9_singInto_8 : decode cX9_singInto 8 = .ok (.iaload, 1) := by decide +kernel
theorem dX9_singInto_9 : decode cX9_singInto 9 = .ok (.istore 5, 2) := by decide +kernel
theorem dX9_singInto_11 : decode cX9_singInto 11 = .ok (.iconst 0, 1) := by decide +kernel
theorem dX9_singInto_12 : decode cX9_singInto 12 = .ok (.istore 6, 2) := by decide +kernel
theorem dX9_singInto_14 : decode cX9_singInto 14 = .ok (.iconst 0, 1) := by decide +kernel
theorem dX9_singInto_15 : decode cX9_singInto 15 = .ok (.istore 7, 2) := by decide +kernel
theorem dX9_singInto_17 : decode cX9_singInto 17 = .ok (.iconst 0, 1) := by decide +kernel
theorem dX9_singInto_18 : decode cX9_singInto 18 = .ok (.istore 8, 2) := by decide +kernel
theorem dX9_singInto_20 : decode cX9_singInto 20 = .ok (.iload 8, 2) := by decide +kernel
theorem dX9_singInto_22 : decode cX9_singInto 22 = .ok (.aload_n 0, 1) := by decide +kernel
theorem dX9_singInto_23 : decode cX9_singInto 23 = .ok (.getfield 178, 3) := by decide +kernel
theorem dX9_singInto_26 : decode cX9_singInto 26 = .ok (.if_icmp .ge 145, 3) := by decide +kernel
theorem dX9_singInto_29 : decode cX9_singInto 29 = .ok (.aload_n 0, 1) := by decide +kernel
theorem dX9_singInto_30 : decode cX9_singInto 30 = .ok (.getfield 13, 3) := by decide +kernel
theorem dX9_singInto_33 : decode cX9_singInto 33 = .ok (.iload 8, 2) := by decide +kernel
theorem dX9_singInto_35 : decode cX9_singInto 35 = .ok (.baload, 1) := by decide +kernel
theorem dX9_singInto_36 : decode cX9_singInto 36 = .ok (.ifCond .eq 7, 3) := by decide +kernel
theorem dX9_singInto_39 : decode cX9_singInto 39 = .ok (.iconst 0, 1) := by decide +kernel
theorem dX9_singInto_40 : decode cX9_singInto 40 = .ok (.goto 5, 3) := by decide +kernel
theorem dX9_singInto_43 : decode cX9_singInto 43 = .ok (.iload 7, 2) := by decide +kernel
theorem dX9_singInto_45 : decode cX9_singInto 45 = .ok (.istore 7, 2) := by decide +kernel
theorem dX9_singInto_47 : decode cX9_singInto 47 = .ok (.iload 5, 2) := by decide +kernel
theorem dX9_singInto_49 : decode cX9_singInto 49 = .ok (.bipush 7, 2) := by decide +kernel
theorem dX9_singInto_51 : decode cX9_singInto 51 = .ok (.if_icmp .ne 11, 3) := by decide +kernel
theorem dX9_singInto_54 : decode cX9_singInto 54 = .ok (.aload_n 1, 1) := by decide +kernel
theorem dX9_singInto_55 : decode cX9_singInto 55 = .ok (.iload 8, 2) := by decide +kernel
theorem dX9_singInto_57 : decode cX9_singInto 57 = .ok (.iconst (-1), 1) := by decide +kernel
theorem dX9_singInto_58 : decode cX9_singInto 58 = .ok (.iastore, 1) := by decide +kernel
theorem dX9_singInto_59 : decode cX9_singInto 59 = .ok (.goto 103, 3) := by decide +kernel
theorem dX9_singInto_62 : decode cX9_singInto 62 = .ok (.iload 5, 2) := by decide +kernel
theorem dX9_singInto_64 : decode cX9_singInto 64 = .ok (.iconst 4, 1) := by decide +kernel
theorem dX9_singInto_65 : decode cX9_singInto 65 = .ok (.if_icmp .ne 24, 3) := by decide +kernel
theorem dX9_singInto_68 : decode cX9_singInto 68 = .ok (.aload_n 1, 1) := by decide +kernel
theorem dX9_singInto_69 : decode cX9_singInto 69 = .ok (.iload 8, 2) := by decide +kernel
theorem dX9_singInto_71 : decode cX9_singInto 71 = .ok (.bipush 100, 2) := by decide +kernel
theorem dX9_singInto_73 : decode cX9_singInto 73 = .ok (.aload_n 0, 1) := by decide +kernel
theorem dX9_singInto_74 : decode cX9_singInto 74 = .ok (.getfield 17, 3) := by decide +kernel
theorem dX9_singInto_77 : decode cX9_singInto 77 = .ok (.bipush 8, 2) := by decide +kernel
theorem dX9_singInto_79 : decode cX9_singInto 79 = .ok (.iload_n 2, 1) := by decide +kernel
theorem dX9_singInto_80 : decode cX9_singInto 80 = .ok (.imul, 1) := by decide +kernel
theorem dX9_singInto_81 : decode cX9_singInto 81 = .ok (.iconst 5, 1) := by decide +kernel
theorem dX9_singInto_82 : decode cX9_singInto 82 = .ok (.iadd, 1) := by decide +kernel
theorem dX9_singInto_83 : decode cX9_singInto 83 = .ok (.iaload, 1) := by decide +kernel
theorem dX9_singInto_84 : decode cX9_singInto 84 = .ok (.imul, 1) := by decide +kernel
theorem dX9_singInto_85 : decode cX9_singInto 85 = .ok (.iastore, 1) := by decide +kernel
theorem dX9_singInto_86 : decode cX9_singInto 86 = .ok (.goto 76, 3) := by decide +kernel
theorem dX9_singInto_89 : decode cX9_singInto 89 = .ok (.iload 8, 2) := by decide +kernel
theorem dX9_singInto_91 : decode cX9_singInto 91 = .ok (.ifCond .ne 11, 3) := by decide +kernel
theorem dX9_singInto_94 : decode cX9_singInto 94 = .ok (.aload_n 0, 1) := by decide +kernel
theorem dX9_singInto_95 : decode cX9_singInto 95 = .ok (.iload_n 3, 1) := by decide +kernel
theorem dX9_singInto_96 : decode cX9_singInto 96 = .ok (.invokevirtual 246, 3) := by decide +kernel
theorem dX9_singInto_99 : decode cX9_singInto 99 = .ok (.goto 14, 3) := by decide +kernel
theorem dX9_singInto_102 : decode cX9_singInto 102 = .ok (.aload_n 0, 1) := by decide +kernel
theorem dX9_singInto_103 : decode cX9_singInto 103 = .ok (.iload_n 2, 1) := by decide +kernel
theorem dX9_singInto_104 : decode cX9_singInto 104 = .ok (.iload 6, 2) := by decide +kernel
theorem dX9_singInto_106 : decode cX9_singInto 106 = .ok (.iload 8, 2) := by decide +kernel
theorem dX9_singInto_108 : decode cX9_singInto 108 = .ok (.iload 7, 2) := by decide +kernel
theorem dX9_singInto_110 : decode cX9_singInto 110 = .ok (.invokevirtual 249, 3) := by decide +kernel
theorem dX9_singInto_113 : decode cX9_singInto 113 = .ok (.istore 6, 2) := by decide +kernel
theorem dX9_singInto_115 : decode cX9_singInto 115 = .ok (.iload 5, 2) := by decide +kernel
theorem dX9_singInto_117 : decode cX9_singInto 117 = .ok (.iconst 1, 1) := by decide +kernel
theorem dX9_singInto_118 : decode cX9_singInto 118 = .ok (.if_icmp .ne 7, 3) := by decide +kernel
theorem dX9_singInto_121 : decode cX9_singInto 121 = .ok (.iconst 0, 1) := by decide +kernel
theorem dX9_singInto_122 : decode cX9_singInto 122 = .ok (.goto 24, 3) := by decide +kernel
theorem dX9_singInto_125 : decode cX9_singInto 125 = .ok (.aload_n 0, 1) := by decide +kernel
theorem dX9_singInto_126 : decode cX9_singInto 126 = .ok (.getfield 17, 3) := by decide +kernel
theorem dX9_singInto_129 : decode cX9_singInto 129 = .ok (.bipush 8, 2) := by decide +kernel
theorem dX9_singInto_131 : decode cX9_singInto 131 = .ok (.iload_n 2, 1) := by decide +kernel
theorem dX9_singInto_132 : decode cX9_singInto 132 = .ok (.imul, 1) := by decide +kernel
theorem dX9_singInto_133 : decode cX9_singInto 133 = .ok (.iconst 2, 1) := by decide +kernel
theorem dX9_singInto_134 : decode cX9_singInto 134 = .ok (.iadd, 1) := by decide +kernel
theorem dX9_singInto_135 : decode cX9_singInto 135 = .ok (.iaload, 1) := by decide +kernel
theorem dX9_singInto_136 : decode cX9_singInto 136 = .ok (.aload_n 0, 1) := by decide +kernel
theorem dX9_singInto_137 : decode cX9_singInto 137 = .ok (.iload_n 2, 1) := by decide +kernel
theorem dX9_singInto_138 : decode cX9_singInto 138 = .ok (.iload 8, 2) := by decide +kernel
theorem dX9_singInto_140 : decode cX9_singInto 140 = .ok (.iload 4, 2) := by decide +kernel
theorem dX9_singInto_142 : decode cX9_singInto 142 = .ok (.invokevirtual 253, 3) := by decide +kernel
theorem dX9_singInto_145 : decode cX9_singInto 145 = .ok (.iadd, 1) := by decide +kernel
theorem dX9_singInto_146 : decode cX9_singInto 146 = .ok (.istore 9, 2) := by decide +kernel
theorem dX9_singInto_148 : decode cX9_singInto 148 = .ok (.aload_n 1, 1) := by decide +kernel
theorem dX9_singInto_149 : decode cX9_singInto 149 = .ok (.iload 8, 2) := by decide +kernel
theorem dX9_singInto_151 : decode cX9_singInto 151 = .ok (.aload_n 0, 1) := by decide +kernel
theorem dX9_singInto_152 : decode cX9_singInto 152 = .ok (.iload_n 2, 1) := by decide +kernel
theorem dX9_singInto_153 : decode cX9_singInto 153 = .ok (.iload 6, 2) := by decide +kernel
theorem dX9_singInto_155 : decode cX9_singInto 155 = .ok (.iload 9, 2) := by decide +kernel
theorem dX9_singInto_157 : decode cX9_singInto 157 = .ok (.iadd, 1) := by decide +kernel
theorem dX9_singInto_158 : decode cX9_singInto 158 = .ok (.invokevirtual 257, 3) := by decide +kernel
theorem dX9_singInto_161 : decode cX9_singInto 161 = .ok (.iastore, 1) := by decide +kernel
theorem dX9_singInto_162 : decode cX9_singInto 162 = .ok (.iinc 7 1, 3) := by decide +kernel
theorem dX9_singInto_165 : decode cX9_singInto 165 = .ok (.iinc 8 1, 3) := by decide +kernel
theorem dX9_singInto_168 : decode cX9_singInto 168 = .ok (.goto (-148), 3) := by decide +kernel
theorem dX9_singInto_171 : decode cX9_singInto 171 = .ok (.return_, 1) := by decide +kernel
theorem dX9_isNear_0 : decode cX9_isNear 0 = .ok (.iload_n 0, 1) := by decide +kernel
theorem dX9_isNear_1 : decode cX9_isNear 1 = .ok (.i2l, 1) := by decide +kernel
theorem dX9_isNear_2 : decode cX9_isNear 2 = .ok (.ldc2_w 260, 3) := by decide +kernel
theorem dX9_isNear_5 : decode cX9_isNear 5 = .ok (.ldc2_w 262, 3) := by decide +kernel
theorem dX9_isNear_8 : decode cX9_isNear 8 = .ok (.invokestatic 90, 3) := by decide +kernel
theorem dX9_isNear_11 : decode cX9_isNear 11 = .ok (.ireturn, 1) := by decide +kernel
theorem dX9_scoreOf_0 : decode cX9_scoreOf 0 = .ok (.aload_n 0, 1) := by decide +kernel
theorem dX9_scoreOf_1 : decode cX9_scoreOf 1 = .ok (.getfield 178, 3) := by decide +kernel
theorem dX9_scoreOf_4 : decode cX9_scoreOf 4 = .ok (.ifCond .eq 17, 3) := by decide +kernel
theorem dX9_scoreOf_7 : decode cX9_scoreOf 7 = .ok (.aload_n 0, 1) := by decide +kernel
theorem dX9_scoreOf_8 : decode cX9_scoreOf 8 = .ok (.getfield 17, 3) := by decide +kernel
theorem dX9_scoreOf_11 : decode cX9_scoreOf 11 = .ok (.bipush 8, 2) := by decide +kernel
theorem dX9_scoreOf_13 : decode cX9_scoreOf 13 = .ok (.iload_n 2, 1) := by decide +kernel
theorem dX9_scoreOf_14 : decode cX9_scoreOf 14 = .ok (.imul, 1) := by decide +kernel
theorem dX9_scoreOf_15 : decode cX9_scoreOf 15 = .ok (.iaload, 1) := by decide +kernel
theorem dX9_scoreOf_16 : decode cX9_scoreOf 16 = .ok (.bipush 7, 2) := by decide +kernel
theorem dX9_scoreOf_18 : decode cX9_scoreOf 18 = .ok (.if_icmp .ne 5, 3) := by decide +kernel
theorem dX9_scoreOf_21 : decode cX9_scoreOf 21 = .ok (.iconst 0, 1) := by decide +kernel
theorem dX9_scoreOf_22 : decode cX9_scoreOf 22 = .ok (.ireturn, 1) := by decide +kernel
theorem dX9_scoreOf_23 : decode cX9_scoreOf 23 = .ok (.iload_n 3, 1) := by decide +kernel
theorem dX9_scoreOf_24 : decode cX9_scoreOf 24 = .ok (.iconst 1, 1) := by decide +kernel
theorem dX9_scoreOf_25 : decode cX9_scoreOf 25 = .ok (.if_icmp .le 68, 3) := by decide +kernel
theorem dX9_scoreOf_28 : decode cX9_scoreOf 28 = .ok (.iload_n 3, 1) := by decide +kernel
theorem dX9_scoreOf_29 : decode cX9_scoreOf 29 = .ok (.iconst 2, 1) := by decide +kernel
theorem dX9_scoreOf_30 : decode cX9_scoreOf 30 = .ok (.if_icmp .ne 16, 3) := by decide +kernel
theorem dX9_scoreOf_33 : decode cX9_scoreOf 33 = .ok (.aload_n 1, 1) := by decide +kernel
theorem dX9_scoreOf_34 : decode cX9_scoreOf 34 = .ok (.iconst 0, 1) := by decide +kernel
theorem dX9_scoreOf_35 : decode cX9_scoreOf 35 = .ok (.iaload, 1) := by decide +kernel
theorem dX9_scoreOf_36 : decode cX9_scoreOf 36 = .ok (.aload_n 0, 1) := by decide +kernel
theorem dX9_scoreOf_37 : decode cX9_scoreOf 37 = .ok (.getfield 7, 3) := by decide +kernel
theorem dX9_scoreOf_40 : decode cX9_scoreOf 40 = .ok (.iconst 0, 1) := by decide +kernel
theorem dX9_scoreOf_41 : decode cX9_scoreOf 41 = .ok (.iaload, 1) := by decide +kernel
theorem dX9_scoreOf_42 : decode cX9_scoreOf 42 = .ok (.isub, 1) := by decide +kernel
theorem dX9_scoreOf_43 : decode cX9_scoreOf 43 = .ok (.goto 34, 3) := by decide +kernel
theorem dX9_scoreOf_46 : decode cX9_scoreOf 46 = .ok (.aload_n 1, 1) := by decide +kernel
theorem dX9_scoreOf_47 : decode cX9_scoreOf 47 = .ok (.aload_n 0, 1) := by decide +kernel
theorem dX9_scoreOf_48 : decode cX9_scoreOf 48 = .ok (.getfield 178, 3) := by decide +kernel
theorem dX9_scoreOf_51 : decode cX9_scoreOf 51 = .ok (.iconst 1, 1) := by decide +kernel
theorem dX9_scoreOf_52 : decode cX9_scoreOf 52 = .ok (.isub, 1) := by decide +kernel
theorem dX9_scoreOf_53 : decode cX9_scoreOf 53 = .ok (.iaload, 1) := by decide +kernel
theorem dX9_scoreOf_54 : decode cX9_scoreOf 54 = .ok (.aload_n 0, 1) := by decide +kernel
theorem dX9_scoreOf_55 : decode cX9_scoreOf 55 = .ok (.getfield 7, 3) := by decide +kernel
theorem dX9_scoreOf_58 : decode cX9_scoreOf 58 = .ok (.aload_n 0, 1) := by decide +kernel
theorem dX9_scoreOf_59 : decode cX9_scoreOf 59 = .ok (.getfield 178, 3) := by decide +kernel
theorem dX9_scoreOf_62 : decode cX9_scoreOf 62 = .ok (.iconst 1, 1) := by decide +kernel
theorem dX9_scoreOf_63 : decode cX9_scoreOf 63 = .ok (.isub, 1) := by decide +kernel
theorem dX9_scoreOf_64 : decode cX9_scoreOf 64 = .ok (.iaload, 1) := by decide +kernel
theorem dX9_scoreOf_65 : decode cX9_scoreOf 65 = .ok (.isub, 1) := by decide +kernel
theorem dX9_scoreOf_66 : decode cX9_scoreOf 66 = .ok (.aload_n 1, 1) := by decide +kernel
theorem dX9_scoreOf_67 : decode cX9_scoreOf 67 = .ok (.iconst 0, 1) := by decide +kernel
theorem dX9_scoreOf_68 : decode cX9_scoreOf 68 = .ok (.iaload, 1) := by decide +kernel
theorem dX9_scoreOf_69 : decode cX9_scoreOf 69 = .ok (.isub, 1) := by decide +kernel
theorem dX9_scoreOf_70 : decode cX9_scoreOf 70 = .ok (.aload_n 0, 1) := by decide +kernel
theorem dX9_scoreOf_71 : decode cX9_scoreOf 71 = .ok (.getfield 7, 3) := by decide +kernel
theorem dX9_scoreOf_74 : decode cX9_scoreOf 74 = .ok (.iconst 0, 1) := by decide +kernel
theorem dX9_scoreOf_75 : decode cX9_scoreOf 75 = .ok (.iaload, 1) := by decide +kernel
theorem dX9_scoreOf_76 : decode cX9_scoreOf 76 = .ok (.iadd, 1) := by decide +kernel
theorem dX9_scoreOf_77 : decode cX9_scoreOf 77 = .ok (.istore 4, 2) := by decide +kernel
theorem dX9_scoreOf_79 : decode cX9_scoreOf 79 = .ok (.iload 4, 2) := by decide +kernel
theorem dX9_scoreOf_81 : decode cX9_scoreOf 81 = .ok (.invokestatic 264, 3) := by decide +kernel
theorem dX9_scoreOf_84 : decode cX9_scoreOf 84 = .ok (.ifCond .eq 7, 3) := by decide +kernel
theorem dX9_scoreOf_87 : decode cX9_scoreOf 87 = .ok (.iconst 1, 1) := by decide +kernel
theorem dX9_scoreOf_88 : decode cX9_scoreOf 88 = .ok (.goto 4, 3) := by decide +kernel
theorem dX9_scoreOf_91 : decode cX9_scoreOf 91 = .ok (.iconst 0, 1) := by decide +kernel
theorem dX9_scoreOf_92 : decode cX9_scoreOf 92 = .ok (.ireturn, 1) := by decide +kernel
theorem dX9_scoreOf_93 : decode cX9_scoreOf 93 = .ok (.iconst 0, 1) := by decide +kernel
theorem dX9_scoreOf_94 : decode cX9_scoreOf 94 = .ok (.istore 4, 2) := by decide +kernel
theorem dX9_scoreOf_96 : decode cX9_scoreOf 96 = .ok (.iload_n 3, 1) := by decide +kernel
theorem dX9_scoreOf_97 : decode cX9_scoreOf 97 = .ok (.ifCond .ne 7, 3) := by decide +kernel
theorem dX9_scoreOf_100 : decode cX9_scoreOf 100 = .ok (.iconst 1, 1) := by decide +kernel
theorem dX9_scoreOf_101 : decode cX9_scoreOf 101 = .ok (.goto 4, 3) := by decide +kernel
theorem dX9_scoreOf_104 : decode cX9_scoreOf 104 = .ok (.iconst 0, 1) := by decide +kernel
theorem dX9_scoreOf_105 : decode cX9_scoreOf 105 = .ok (.istore 5, 2) := by decide +kernel
theorem dX9_scoreOf_107 : decode cX9_scoreOf 107 = .ok (.iload 5, 2) := by decide +kernel
theorem dX9_scoreOf_109 : decode cX9_scoreOf 109 = .ok (.aload_n 0, 1) := by decide +kernel
theorem dX9_scoreOf_110 : decode cX9_scoreOf 110 = .ok (.getfield 178, 3) := by decide +kernel
theorem dX9_scoreOf_113 : decode cX9_scoreOf 113 = .ok (.if_icmp .ge 66, 3) := by decide +kernel
theorem dX9_scoreOf_116 : decode cX9_scoreOf 116 = .ok (.iload_n 3, 1) := by decide +kernel
theorem dX9_scoreOf_117 : decode cX9_scoreOf 117 = .ok (.ifCond .ne 22, 3) := by decide +kernel
theorem dX9_scoreOf_120 : decode cX9_scoreOf 120 = .ok (.aload_n 1, 1) := by decide +kernel
theorem dX9_scoreOf_121 : decode cX9_scoreOf 121 = .ok (.iload 5, 2) := by decide +kernel
theorem dX9_scoreOf_123 : decode cX9_scoreOf 123 = .ok (.iconst 1, 1) := by decide +kernel
theorem dX9_scoreOf_124 : decode cX9_scoreOf 124 = .ok (.isub, 1) := by decide +kernel
theorem dX9_scoreOf_125 : decode cX9_scoreOf 125 = .ok (.iaload, 1) := by decide +kernel
theorem dX9_scoreOf_126 : decode cX9_scoreOf 126 = .ok (.aload_n 0, 1) := by decide +kernel
theorem dX9_scoreOf_127 : decode cX9_scoreOf 127 = .ok (.getfield 7, 3) := by decide +kernel
theorem dX9_scoreOf_130 : decode cX9_scoreOf 130 = .ok (.iload 5, 2) := by decide +kernel
theorem dX9_scoreOf_132 : decode cX9_scoreOf 132 = .ok (.iconst 1, 1) := by decide +kernel
theorem dX9_scoreOf_133 : decode cX9_scoreOf 133 = .ok (.isub, 1) := by decide +kernel
theorem dX9_scoreOf_134 : decode cX9_scoreOf 134 = .ok (.iaload, 1) := by decide +kernel
theorem dX9_scoreOf_135 : decode cX9_scoreOf 135 = .ok (.isub, 1) := by decide +kernel
theorem dX9_scoreOf_136 : decode cX9_scoreOf 136 = .ok (.goto 4, 3) := by decide +kernel
theorem dX9_scoreOf_139 : decode cX9_scoreOf 139 = .ok (.iconst 0, 1) := by decide +kernel
theorem dX9_scoreOf_140 : decode cX9_scoreOf 140 = .ok (.istore 6, 2) := by decide +kernel
theorem dX9_scoreOf_142 : decode cX9_scoreOf 142 = .ok (.iload 4, 2) := by decide +kernel
theorem dX9_scoreOf_144 : decode cX9_scoreOf 144 = .ok (.aload_n 1, 1) := by decide +kernel
theorem dX9_scoreOf_145 : decode cX9_scoreOf 145 = .ok (.iload 5, 2) := by decide +kernel
theorem dX9_scoreOf_147 : decode cX9_scoreOf 147 = .ok (.iaload, 1) := by decide +kernel
theorem dX9_scoreOf_148 : decode cX9_scoreOf 148 = .ok (.aload_n 0, 1) := by decide +kernel
theorem dX9_scoreOf_149 : decode cX9_scoreOf 149 = .ok (.getfield 7, 3) := by decide +kernel
theorem dX9_scoreOf_152 : decode cX9_scoreOf 152 = .ok (.iload 5, 2) := by decide +kernel
theorem dX9_scoreOf_154 : decode cX9_scoreOf 154 = .ok (.iaload, 1) := by decide +kernel
theorem dX9_scoreOf_155 : decode cX9_scoreOf 155 = .ok (.isub, 1) := by decide +kernel
theorem dX9_scoreOf_156 : decode cX9_scoreOf 156 = .ok (.iload 6, 2) := by decide +kernel
theorem dX9_scoreOf_158 : decode cX9_scoreOf 158 = .ok (.isub, 1) := by decide +kernel
theorem dX9_scoreOf_159 : decode cX9_scoreOf 159 = .ok (.invokestatic 264, 3) := by decide +kernel
theorem dX9_scoreOf_162 : decode cX9_scoreOf 162 = .ok (.ifCond .eq 7, 3) := by decide +kernel
theorem dX9_scoreOf_165 : decode cX9_scoreOf 165 = .ok (.iconst 1, 1) := by decide +kernel
theorem dX9_scoreOf_166 : decode cX9_scoreOf 166 = .ok (.goto 4, 3) := by decide +kernel
theorem dX9_scoreOf_169 : decode cX9_scoreOf 169 = .ok (.iconst 0, 1) := by decide +kernel
theorem dX9_scoreOf_170 : decode cX9_scoreOf 170 = .ok (.iadd, 1) := by decide +kernel
theorem dX9_scoreOf_171 : decode cX9_scoreOf 171 = .ok (.istore 4, 2) := by decide +kernel
theorem dX9_scoreOf_173 : decode cX9_scoreOf 173 = .ok (.iinc 5 1, 3) := by decide +kernel
theorem dX9_scoreOf_176 : decode cX9_scoreOf 176 = .ok (.goto (-69), 3) := by decide +kernel
theorem dX9_scoreOf_179 : decode cX9_scoreOf 179 = .ok (.iload 4, 2) := by decide +kernel
theorem dX9_scoreOf_181 : decode cX9_scoreOf 181 = .ok (.ireturn, 1) := by decide +kernel
theorem dX9_sing_0 : decode cX9_sing 0 = .ok (.aload_n 0, 1) := by decide +kernel
theorem dX9_sing_1 : decode cX9_sing 1 = .ok (.iload_n 1, 1) := by decide +kernel
theorem dX9_sing_2 : decode cX9_sing 2 = .ok (.invokevirtual 217, 3) := by decide +kernel
theorem dX9_sing_5 : decode cX9_sing 5 = .ok (.ifCond .ne 6, 3) := by decide +kernel
theorem dX9_sing_8 : decode cX9_sing 8 = .ok (.ldc 216, 2) := by decide +kernel
theorem dX9_sing_10 : decode cX9_sing 10 = .ok (.ireturn, 1) := by decide +kernel
theorem dX9_sing_11 : decode cX9_sing 11 = .ok (.iload_n 2, 1) := by decide +kernel
theorem dX9_sing_12 : decode cX9_sing 12 = .ok (.i2l, 1) := by decide +kernel
theorem dX9_sing_13 : decode cX9_sing 13 = .ok (.lconst 0, 1) := by decide +kernel
theorem dX9_sing_14 : decode cX9_sing 14 = .ok (.ldc2_w 267, 3) := by decide +kernel
theorem dX9_sing_17 : decode cX9_sing 17 = .ok (.invokestatic 90, 3) := by decide +kernel
theorem dX9_sing_20 : decode cX9_sing 20 = .ok (.ifCond .ne 6, 3) := by decide +kernel
theorem dX9_sing_23 : decode cX9_sing 23 = .ok (.ldc 99, 2) := by decide +kernel
theorem dX9_sing_25 : decode cX9_sing 25 = .ok (.ireturn, 1) := by decide +kernel
theorem dX9_sing_26 : decode cX9_sing 26 = .ok (.aload_n 0, 1) := by decide +kernel
theorem dX9_sing_27 : decode cX9_sing 27 = .ok (.aload_n 0, 1) := by decide +kernel
theorem dX9_sing_28 : decode cX9_sing 28 = .ok (.getfield 33, 3) := by decide +kernel
theorem dX9_sing_31 : decode cX9_sing 31 = .ok (.iload_n 1, 1) := by decide +kernel
theorem dX9_sing_32 : decode cX9_sing 32 = .ok (.iload_n 2, 1) := by decide +kernel
theorem dX9_sing_33 : decode cX9_sing 33 = .ok (.iconst 0, 1) := by decide +kernel
theorem dX9_sing_34 : decode cX9_sing 34 = .ok (.invokevirtual 269, 3) := by decide +kernel
theorem dX9_sing_37 : decode cX9_sing 37 = .ok (.aload_n 0, 1) := by decide +kernel
theorem dX9_sing_38 : decode cX9_sing 38 = .ok (.iload_n 1, 1) := by decide +kernel
theorem dX9_sing_39 : decode cX9_sing 39 = .ok (.putfield 29, 3) := by decide +kernel
theorem dX9_sing_42 : decode cX9_sing 42 = .ok (.aload_n 0, 1) := by decide +kernel
theorem dX9_sing_43 : decode cX9_sing 43 = .ok (.aload_n 0, 1) := by decide +kernel
theorem dX9_sing_44 : decode cX9_sing 44 = .ok (.getfield 33, 3) := by decide +kernel
theorem dX9_sing_47 : decode cX9_sing 47 = .ok (.iload_n 1, 1) := by decide +kernel
theorem dX9_sing_48 : decode cX9_sing 48 = .ok (.iconst 0, 1) := by decide +kernel
theorem dX9_sing_49 : decode cX9_sing 49 = .ok (.invokevirtual 273, 3) := by decide +kernel
theorem dX9_sing_52 : decode cX9_sing 52 = .ok (.ireturn, 1) := by decide +kernel
theorem dX9_height_0 : decode cX9_height 0 = .ok (.aload_n 0, 1) := by decide +kernel
theorem dX9_height_1 : decode cX9_height 1 = .ok (.iload_n 1, 1) := by decide +kernel
theorem dX9_height_2 : decode cX9_height 2 = .ok (.invokevirtual 212, 3) := by decide +kernel
theorem dX9_height_5 : decode cX9_height 5 = .ok (.ifCond .ne 6, 3) := by decide +kernel
theorem dX9_height_8 : decode cX9_height 8 = .ok (.ldc 216, 2) := by decide +kernel
theorem dX9_height_10 : decode cX9_height 10 = .ok (.ireturn, 1) := by decide +kernel
theorem dX9_height_11 : decode cX9_height 11 = .ok (.aload_n 0, 1) := by decide +kernel
theorem dX9_height_12 : decode cX9_height 12 = .ok (.getfield 29, 3) := by decide +kernel
theorem dX9_height_15 : decode cX9_height 15 = .ok (.ifCond .ge 9, 3) := by decide +kernel
theorem dX9_height_18 : decode cX9_height 18 = .ok (.ldc_w 277, 3) := by decide +kernel
theorem dX9_height_21 : decode cX9_height 21 = .ok (.goto 9, 3) := by decide +kernel
theorem dX9_height_24 : decode cX9_height 24 = .ok (.aload_n 0, 1) := by decide +kernel
theorem dX9_height_25 : decode cX9_height 25 = .ok (.getfield 33, 3) := by decide +kernel
theorem dX9_height_28 : decode cX9_height 28 = .ok (.iload_n 1, 1) := by decide +kernel
theorem dX9_height_29 : decode cX9_height 29 = .ok (.iaload, 1) := by decide +kernel
theorem dX9_height_30 : decode cX9_height 30 = .ok (.ireturn, 1) := by decide +kernel
theorem dX9_isSilent_0 : decode cX9_isSilent 0 = .ok (.aload_n 0, 1) := by decide +kernel
theorem dX9_isSilent_1 : decode cX9_isSilent 1 = .ok (.getfield 178, 3) := by decide +kernel
theorem dX9_isSilent_4 : decode cX9_isSilent 4 = .ok (.ifCond .eq 20, 3) := by decide +kernel
theorem dX9_isSilent_7 : decode cX9_isSilent 7 = .ok (.aload_n 0, 1) := by decide +kernel
theorem dX9_isSilent_8 : decode cX9_isSilent 8 = .ok (.getfield 17, 3) := by decide +kernel
theorem dX9_isSilent_11 : decode cX9_isSilent 11 = .ok (.bipush 8, 2) := by decide +kernel
theorem dX9_isSilent_13 : decode cX9_isSilent 13 = .ok (.aload_n 0, 1) := by decide +kernel
theorem dX9_isSilent_14 : decode cX9_isSilent 14 = .ok (.getfield 29, 3) := by decide +kernel
theorem dX9_isSilent_17 : decode cX9_isSilent 17 = .ok (.imul, 1) := by decide +kernel
theorem dX9_isSilent_18 : decode cX9_isSilent 18 = .ok (.iaload, 1) := by decide +kernel
theorem dX9_isSilent_19 : decode cX9_isSilent 19 = .ok (.bipush 7, 2) := by decide +kernel
theorem dX9_isSilent_21 : decode cX9_isSilent 21 = .ok (.if_icmp .ne 7, 3) := by decide +kernel
theorem dX9_isSilent_24 : decode cX9_isSilent 24 = .ok (.iconst 1, 1) := by decide +kernel
theorem dX9_isSilent_25 : decode cX9_isSilent 25 = .ok (.goto 4, 3) := by decide +kernel
theorem dX9_isSilent_28 : decode cX9_isSilent 28 = .ok (.iconst 0, 1) := by decide +kernel
theorem dX9_isSilent_29 : decode cX9_isSilent 29 = .ok (.ireturn, 1) := by decide +kernel
theorem dX9_slid_0 : decode cX9_slid 0 = .ok (.aload_n 0, 1) := by decide +kernel
theorem dX9_slid_1 : decode cX9_slid 1 = .ok (.getfield 29, 3) := by decide +kernel
theorem dX9_slid_4 : decode cX9_slid 4 = .ok (.ifCond .ge 7, 3) := by decide +kernel
theorem dX9_slid_7 : decode cX9_slid 7 = .ok (.ldc_w 277, 3) := by decide +kernel
theorem dX9_slid_10 : decode cX9_slid 10 = .ok (.ireturn, 1) := by decide +kernel
theorem dX9_slid_11 : decode cX9_slid 11 = .ok (.aload_n 0, 1) := by decide +kernel
theorem dX9_slid_12 : decode cX9_slid 12 = .ok (.invokevirtual 278, 3) := by decide +kernel
theorem dX9_slid_15 : decode cX9_slid 15 = .ok (.ifCond .eq 7, 3) := by decide +kernel
theorem dX9_slid_18 : decode cX9_slid 18 = .ok (.iconst 0, 1) := by decide +kernel
theorem dX9_slid_19 : decode cX9_slid 19 = .ok (.goto 40, 3) := by decide +kernel
theorem dX9_slid_22 : decode cX9_slid 22 = .ok (.aload_n 0, 1) := by decide +kernel
theorem dX9_slid_23 : decode cX9_slid 23 = .ok (.getfield 33, 3) := by decide +kernel
theorem dX9_slid_26 : decode cX9_slid 26 = .ok (.aload_n 0, 1) := by decide +kernel
theorem dX9_slid_27 : decode cX9_slid 27 = .ok (.getfield 178, 3) := by decide +kernel
theorem dX9_slid_30 : decode cX9_slid 30 = .ok (.iconst 1, 1) := by decide +kernel
theorem dX9_slid_31 : decode cX9_slid 31 = .ok (.isub, 1) := by decide +kernel
theorem dX9_slid_32 : decode cX9_slid 32 = .ok (.iaload, 1) := by decide +kernel
theorem dX9_slid_33 : decode cX9_slid 33 = .ok (.aload_n 0, 1) := by decide +kernel
theorem dX9_slid_34 : decode cX9_slid 34 = .ok (.getfield 7, 3) := by decide +kernel
theorem dX9_slid_37 : decode cX9_slid 37 = .ok (.aload_n 0, 1) := by decide +kernel
theorem dX9_slid_38 : decode cX9_slid 38 = .ok (.getfield 178, 3) := by decide +kernel
theorem dX9_slid_41 : decode cX9_slid 41 = .ok (.iconst 1, 1) := by decide +kernel
theorem dX9_slid_42 : decode cX9_slid 42 = .ok (.isub, 1) := by decide +kernel
theorem dX9_slid_43 : decode cX9_slid 43 = .ok (.iaload, 1) := by decide +kernel
theorem dX9_slid_44 : decode cX9_slid 44 = .ok (.isub, 1) := by decide +kernel
theorem dX9_slid_45 : decode cX9_slid 45 = .ok (.aload_n 0, 1) := by decide +kernel
theorem dX9_slid_46 : decode cX9_slid 46 = .ok (.getfield 33, 3) := by decide +kernel
theorem dX9_slid_49 : decode cX9_slid 49 = .ok (.iconst 0, 1) := by decide +kernel
theorem dX9_slid_50 : decode cX9_slid 50 = .ok (.iaload, 1) := by decide +kernel
theorem dX9_slid_51 : decode cX9_slid 51 = .ok (.isub, 1) := by decide +kernel
theorem dX9_slid_52 : decode cX9_slid 52 = .ok (.aload_n 0, 1) := by decide +kernel
theorem dX9_slid_53 : decode cX9_slid 53 = .ok (.getfield 7, 3) := by decide +kernel
theorem dX9_slid_56 : decode cX9_slid 56 = .ok (.iconst 0, 1) := by decide +kernel
theorem dX9_slid_57 : decode cX9_slid 57 = .ok (.iaload, 1) := by decide +kernel
theorem dX9_slid_58 : decode cX9_slid 58 = .ok (.iadd, 1) := by decide +kernel
theorem dX9_slid_59 : decode cX9_slid 59 = .ok (.ireturn, 1) := by decide +kernel
theorem dX9_score_0 : decode cX9_score 0 = .ok (.iload_n 1, 1) := by decide +kernel
theorem dX9_score_1 : decode cX9_score 1 = .ok (.i2l, 1) := by decide +kernel
theorem dX9_score_2 : decode cX9_score 2 = .ok (.lconst 0, 1) := by decide +kernel
theorem dX9_score_3 : decode cX9_score 3 = .ok (.ldc2_w 225, 3) := by decide +kernel
theorem dX9_score_6 : decode cX9_score 6 = .ok (.invokestatic 90, 3) := by decide +kernel
theorem dX9_score_9 : decode cX9_score 9 = .ok (.ifCond .ne 6, 3) := by decide +kernel
theorem dX9_score_12 : decode cX9_score 12 = .ok (.ldc 99, 2) := by decide +kernel
theorem dX9_score_14 : decode cX9_score 14 = .ok (.ireturn, 1) := by decide +kernel
theorem dX9_score_15 : decode cX9_score 15 = .ok (.aload_n 0, 1) := by decide +kernel
theorem dX9_score_16 : decode cX9_score 16 = .ok (.getfield 29, 3) := by decide +kernel
theorem dX9_score_19 : decode cX9_score 19 = .ok (.ifCond .ge 9, 3) := by decide +kernel
theorem dX9_score_22 : decode cX9_score 22 = .ok (.ldc_w 277, 3) := by decide +kernel
theorem dX9_score_25 : decode cX9_score 25 = .ok (.goto 16, 3) := by decide +kernel
theorem dX9_score_28 : decode cX9_score 28 = .ok (.aload_n 0, 1) := by decide +kernel
theorem dX9_score_29 : decode cX9_score 29 = .ok (.aload_n 0, 1) := by decide +kernel
theorem dX9_score_30 : decode cX9_score 30 = .ok (.getfield 33, 3) := by decide +kernel
theorem dX9_score_33 : decode cX9_score 33 = .ok (.aload_n 0, 1) := by decide +kernel
theorem dX9_score_34 : decode cX9_score 34 = .ok (.getfield 29, 3) := by decide +kernel
theorem dX9_score_37 : decode cX9_score 37 = .ok (.iload_n 1, 1) := by decide +kernel
theorem dX9_score_38 : decode cX9_score 38 = .ok (.invokevirtual 273, 3) := by decide +kernel
theorem dX9_score_41 : decode cX9_score 41 = .ok (.ireturn, 1) := by decide +kernel
theorem dX9_calls_0 : decode cX9_calls 0 = .ok (.aload_n 0, 1) := by decide +kernel
theorem dX9_calls_1 : decode cX9_calls 1 = .ok (.getfield 29, 3) := by decide +kernel
theorem dX9_calls_4 : decode cX9_calls 4 = .ok (.ifCond .ge 7, 3) := by decide +kernel
theorem dX9_calls_7 : decode cX9_calls 7 = .ok (.ldc_w 277, 3) := by decide +kernel
theorem dX9_calls_10 : decode cX9_calls 10 = .ok (.ireturn, 1) := by decide +kernel
theorem dX9_calls_11 : decode cX9_calls 11 = .ok (.aload_n 0, 1) := by decide +kernel
theorem dX9_calls_12 : decode cX9_calls 12 = .ok (.invokevirtual 278, 3) := by decide +kernel
theorem dX9_calls_15 : decode cX9_calls 15 = .ok (.ifCond .eq 6, 3) := by decide +kernel
theorem dX9_calls_18 : decode cX9_calls 18 = .ok (.bipush 15, 2) := by decide +kernel
theorem dX9_calls_20 : decode cX9_calls 20 = .ok (.ireturn, 1) := by decide +kernel
theorem dX9_calls_21 : decode cX9_calls 21 = .ok (.aload_n 0, 1) := by decide +kernel
theorem dX9_calls_22 : decode cX9_calls 22 = .ok (.aload_n 0, 1) := by decide +kernel
theorem dX9_calls_23 : decode cX9_calls 23 = .ok (.getfield 33, 3) := by decide +kernel
theorem dX9_calls_26 : decode cX9_calls 26 = .ok (.aload_n 0, 1) := by decide +kernel
theorem dX9_calls_27 : decode cX9_calls 27 = .ok (.getfield 29, 3) := by decide +kernel
theorem dX9_calls_30 : decode cX9_calls 30 = .ok (.iconst 0, 1) := by decide +kernel
theorem dX9_calls_31 : decode cX9_calls 31 = .ok (.invokevirtual 273, 3) := by decide +kernel
theorem dX9_calls_34 : decode cX9_calls 34 = .ok (.aload_n 0, 1) := by decide +kernel
theorem dX9_calls_35 : decode cX9_calls 35 = .ok (.getfield 178, 3) := by decide +kernel
theorem dX9_calls_38 : decode cX9_calls 38 = .ok (.iconst 1, 1) := by decide +kernel
theorem dX9_calls_39 : decode cX9_calls 39 = .ok (.isub, 1) := by decide +kernel
theorem dX9_calls_40 : decode cX9_calls 40 = .ok (.if_icmp .ge 7, 3) := by decide +kernel
theorem dX9_calls_43 : decode cX9_calls 43 = .ok (.iconst 1, 1) := by decide +kernel
theorem dX9_calls_44 : decode cX9_calls 44 = .ok (.goto 4, 3) := by decide +kernel
theorem dX9_calls_47 : decode cX9_calls 47 = .ok (.iconst 0, 1) := by decide +kernel
theorem dX9_calls_48 : decode cX9_calls 48 = .ok (.istore_n 1, 1) := by decide +kernel
theorem dX9_calls_49 : decode cX9_calls 49 = .ok (.iload_n 1, 1) := by decide +kernel
theorem dX9_calls_50 : decode cX9_calls 50 = .ok (.aload_n 0, 1) := by decide +kernel
theorem dX9_calls_51 : decode cX9_calls 51 = .ok (.aload_n 0, 1) := by decide +kernel
theorem dX9_calls_52 : decode cX9_calls 52 = .ok (.getfield 33, 3) := by decide +kernel
theorem dX9_calls_55 : decode cX9_calls 55 = .ok (.aload_n 0, 1) := by decide +kernel
theorem dX9_calls_56 : decode cX9_calls 56 = .ok (.getfield 29, 3) := by decide +kernel
theorem dX9_calls_59 : decode cX9_calls 59 = .ok (.iconst 1, 1) := by decide +kernel
theorem dX9_calls_60 : decode cX9_calls 60 = .ok (.invokevirtual 273, 3) := by decide +kernel
theorem dX9_calls_63 : decode cX9_calls 63 = .ok (.aload_n 0, 1) := by decide +kernel
theorem dX9_calls_64 : decode cX9_calls 64 = .ok (.getfield 178, 3) := by decide +kernel
theorem dX9_calls_67 : decode cX9_calls 67 = .ok (.if_icmp .ge 7, 3) := by decide +kernel
theorem dX9_calls_70 : decode cX9_calls 70 = .ok (.iconst 2, 1) := by decide +kernel
theorem dX9_calls_71 : decode cX9_calls 71 = .ok (.goto 4, 3) := by decide +kernel
theorem dX9_calls_74 : decode cX9_calls 74 = .ok (.iconst 0, 1) := by decide +kernel
theorem dX9_calls_75 : decode cX9_calls 75 = .ok (.ior, 1) := by decide +kernel
theorem dX9_calls_76 : decode cX9_calls 76 = .ok (.istore_n 1, 1) := by decide +kernel
theorem dX9_calls_77 : decode cX9_calls 77 = .ok (.iload_n 1, 1) := by decide +kernel
theorem dX9_calls_78 : decode cX9_calls 78 = .ok (.aload_n 0, 1) := by decide +kernel
theorem dX9_calls_79 : decode cX9_calls 79 = .ok (.aload_n 0, 1) := by decide +kernel
theorem dX9_calls_80 : decode cX9_calls 80 = .ok (.getfield 33, 3) := by decide +kernel
theorem dX9_calls_83 : decode cX9_calls 83 = .ok (.aload_n 0, 1) := by decide +kernel
theorem dX9_calls_84 : decode cX9_calls 84 = .ok (.getfield 29, 3) := by decide +kernel
theorem dX9_calls_87 : decode cX9_calls 87 = .ok (.iconst 2, 1) := by decide +kernel
theorem dX9_calls_88 : decode cX9_calls 88 = .ok (.invokevirtual 273, 3) := by decide +kernel
theorem dX9_calls_91 : decode cX9_calls 91 = .ok (.ifCond .ne 7, 3) := by decide +kernel
theorem dX9_calls_94 : decode cX9_calls 94 = .ok (.iconst 4, 1) := by decide +kernel
theorem dX9_calls_95 : decode cX9_calls 95 = .ok (.goto 4, 3) := by decide +kernel
theorem dX9_calls_98 : decode cX9_calls 98 = .ok (.iconst 0, 1) := by decide +kernel
theorem dX9_calls_99 : decode cX9_calls 99 = .ok (.ior, 1) := by decide +kernel
theorem dX9_calls_100 : decode cX9_calls 100 = .ok (.istore_n 1, 1) := by decide +kernel
theorem dX9_calls_101 : decode cX9_calls 101 = .ok (.iload_n 1, 1) := by decide +kernel
theorem dX9_calls_102 : decode cX9_calls 102 = .ok (.aload_n 0, 1) := by decide +kernel
theorem dX9_calls_103 : decode cX9_calls 103 = .ok (.aload_n 0, 1) := by decide +kernel
theorem dX9_calls_104 : decode cX9_calls 104 = .ok (.getfield 33, 3) := by decide +kernel
theorem dX9_calls_107 : decode cX9_calls 107 = .ok (.aload_n 0, 1) := by decide +kernel
theorem dX9_calls_108 : decode cX9_calls 108 = .ok (.getfield 29, 3) := by decide +kernel
theorem dX9_calls_111 : decode cX9_calls 111 = .ok (.iconst 3, 1) := by decide +kernel
theorem dX9_calls_112 : decode cX9_calls 112 = .ok (.invokevirtual 273, 3) := by decide +kernel
theorem dX9_calls_115 : decode cX9_calls 115 = .ok (.ifCond .ne 8, 3) := by decide +kernel
theorem dX9_calls_118 : decode cX9_calls 118 = .ok (.bipush 8, 2) := by decide +kernel
theorem dX9_calls_120 : decode cX9_calls 120 = .ok (.goto 4, 3) := by decide +kernel
theorem dX9_calls_123 : decode cX9_calls 123 = .ok (.iconst 0, 1) := by decide +kernel
theorem dX9_calls_124 : decode cX9_calls 124 = .ok (.ior, 1) := by decide +kernel
theorem dX9_calls_125 : decode cX9_calls 125 = .ok (.ireturn, 1) := by decide +kernel
theorem dX9_fooled_0 : decode cX9_fooled 0 = .ok (.iload_n 1, 1) := by decide +kernel
theorem dX9_fooled_1 : decode cX9_fooled 1 = .ok (.i2l, 1) := by decide +kernel
theorem dX9_fooled_2 : decode cX9_fooled 2 = .ok (.lconst 0, 1) := by decide +kernel
theorem dX9_fooled_3 : decode cX9_fooled 3 = .ok (.lconst 1, 1) := by decide +kernel
theorem dX9_fooled_4 : decode cX9_fooled 4 = .ok (.invokestatic 90, 3) := by decide +kernel
theorem dX9_fooled_7 : decode cX9_fooled 7 = .ok (.ifCond .ne 6, 3) := by decide +kernel
theorem dX9_fooled_10 : decode cX9_fooled 10 = .ok (.ldc 99, 2) := by decide +kernel
theorem dX9_fooled_12 : decode cX9_fooled 12 = .ok (.ireturn, 1) := by decide +kernel
theorem dX9_fooled_13 : decode cX9_fooled 13 = .ok (.iconst (-1), 1) := by decide +kernel
theorem dX9_fooled_14 : decode cX9_fooled 14 = .ok (.istore_n 2, 1) := by decide +kernel
theorem dX9_fooled_15 : decode cX9_fooled 15 = .ok (.iconst 0, 1) := by decide +kernel
theorem dX9_fooled_16 : decode cX9_fooled 16 = .ok (.istore_n 3, 1) := by decide +kernel
theorem dX9_fooled_17 : decode cX9_fooled 17 = .ok (.iconst 0, 1) := by decide +kernel
theorem dX9_fooled_18 : decode cX9_fooled 18 = .ok (.istore 4, 2) := by decide +kernel
theorem dX9_fooled_20 : decode cX9_fooled 20 = .ok (.iload 4, 2) := by decide +kernel
theorem dX9_fooled_22 : decode cX9_fooled 22 = .ok (.sipush 3600, 3) := by decide +kernel
theorem dX9_fooled_25 : decode cX9_fooled 25 = .ok (.if_icmp .gt 82, 3) := by decide +kernel
theorem dX9_fooled_28 : decode cX9_fooled 28 = .ok (.iconst 0, 1) := by decide +kernel
theorem dX9_fooled_29 : decode cX9_fooled 29 = .ok (.istore 5, 2) := by decide +kernel
theorem dX9_fooled_31 : decode cX9_fooled 31 = .ok (.iconst 0, 1) := by decide +kernel
theorem dX9_fooled_32 : decode cX9_fooled 32 = .ok (.istore 6, 2) := by decide +kernel
theorem dX9_fooled_34 : decode cX9_fooled 34 = .ok (.iload 6, 2) := by decide +kernel
theorem dX9_fooled_36 : decode cX9_fooled 36 = .ok (.aload_n 0, 1) := by decide +kernel
theorem dX9_fooled_37 : decode cX9_fooled 37 = .ok (.getfield 178, 3) := by decide +kernel
theorem dX9_fooled_40 : decode cX9_fooled 40 = .ok (.if_icmp .ge 35, 3) := by decide +kernel
theorem dX9_fooled_43 : decode cX9_fooled 43 = .ok (.iload 5, 2) := by decide +kernel
theorem dX9_fooled_45 : decode cX9_fooled 45 = .ok (.aload_n 0, 1) := by decide +kernel
theorem dX9_fooled_46 : decode cX9_fooled 46 = .ok (.getfield 7, 3) := by decide +kernel
theorem dX9_fooled_49 : decode cX9_fooled 49 = .ok (.iload 6, 2) := by decide +kernel
theorem dX9_fooled_51 : decode cX9_fooled 51 = .ok (.iaload, 1) := by decide +kernel
theorem dX9_fooled_52 : decode cX9_fooled 52 = .ok (.iload 4, 2) := by decide +kernel
theorem dX9_fooled_54 : decode cX9_fooled 54 = .ok (.isub, 1) := by decide +kernel
theorem dX9_fooled_55 : decode cX9_fooled 55 = .ok (.invokestatic 264, 3) := by decide +kernel
theorem dX9_fooled_58 : decode cX9_fooled 58 = .ok (.ifCond .eq 7, 3) := by decide +kernel
theorem dX9_fooled_61 : decode cX9_fooled 61 = .ok (.iconst 1, 1) := by decide +kernel
theorem dX9_fooled_62 : decode cX9_fooled 62 = .ok (.goto 4, 3) := by decide +kernel
theorem dX9_fooled_65 : decode cX9_fooled 65 = .ok (.iconst 0, 1) := by decide +kernel
theorem dX9_fooled_66 : decode cX9_fooled 66 = .ok (.iadd, 1) := by decide +kernel
theorem dX9_fooled_67 : decode cX9_fooled 67 = .ok (.istore 5, 2) := by decide +kernel
theorem dX9_fooled_69 : decode cX9_fooled 69 = .ok (.iinc 6 1, 3) := by decide +kernel
theorem dX9_fooled_72 : decode cX9_fooled 72 = .ok (.goto (-38), 3) := by decide +kernel
theorem dX9_fooled_75 : decode cX9_fooled 75 = .ok (.iload 5, 2) := by decide +kernel
theorem dX9_fooled_77 : decode cX9_fooled 77 = .ok (.iload_n 3, 1) := by decide +kernel
theorem dX9_fooled_78 : decode cX9_fooled 78 = .ok (.if_icmp .le 8, 3) := by decide +kernel
theorem dX9_fooled_81 : decode cX9_fooled 81 = .ok (.iload 4, 2) := by decide +kernel
theorem dX9_fooled_83 : decode cX9_fooled 83 = .ok (.goto 4, 3) := by decide +kernel
theorem dX9_fooled_86 : decode cX9_fooled 86 = .ok (.iload_n 2, 1) := by decide +kernel
theorem dX9_fooled_87 : decode cX9_fooled 87 = .ok (.istore_n 2, 1) := by decide +kernel
theorem dX9_fooled_88 : decode cX9_fooled 88 = .ok (.iload 5, 2) := by decide +kernel
theorem dX9_fooled_90 : decode cX9_fooled 90 = .ok (.iload_n 3, 1) := by decide +kernel
theorem dX9_fooled_91 : decode cX9_fooled 91 = .ok (.if_icmp .le 8, 3) := by decide +kernel
theorem dX9_fooled_94 : decode cX9_fooled 94 = .ok (.iload 5, 2) := by decide +kernel
theorem dX9_fooled_96 : decode cX9_fooled 96 = .ok (.goto 4, 3) := by decide +kernel
theorem dX9_fooled_99 : decode cX9_fooled 99 = .ok (.iload_n 3, 1) := by decide +kernel
theorem dX9_fooled_100 : decode cX9_fooled 100 = .ok (.istore_n 3, 1) := by decide +kernel
theorem dX9_fooled_101 : decode cX9_fooled 101 = .ok (.iinc 4 50, 3) := by decide +kernel
theorem dX9_fooled_104 : decode cX9_fooled 104 = .ok (.goto (-84), 3) := by decide +kernel
theorem dX9_fooled_107 : decode cX9_fooled 107 = .ok (.iload_n 1, 1) := by decide +kernel
theorem dX9_fooled_108 : decode cX9_fooled 108 = .ok (.ifCond .ne 7, 3) := by decide +kernel
theorem dX9_fooled_111 : decode cX9_fooled 111 = .ok (.iload_n 2, 1) := by decide +kernel
theorem dX9_fooled_112 : decode cX9_fooled 112 = .ok (.goto 4, 3) := by decide +kernel
theorem dX9_fooled_115 : decode cX9_fooled 115 = .ok (.iload_n 3, 1) := by decide +kernel
theorem dX9_fooled_116 : decode cX9_fooled 116 = .ok (.ireturn, 1) := by decide +kernel
theorem dX9_weigh_0 : decode cX9_weigh 0 = .ok (.iload_n 1, 1) := by decide +kernel
theorem dX9_weigh_1 : decode cX9_weigh 1 = .ok (.i2l, 1) := by decide +kernel
theorem dX9_weigh_2 : decode cX9_weigh 2 = .ok (.lconst 0, 1) := by decide +kernel
theorem dX9_weigh_3 : decode cX9_weigh 3 = .ok (.ldc2_w 282, 3) := by decide +kernel
theorem dX9_weigh_6 : decode cX9_weigh 6 = .ok (.invokestatic 90, 3) := by decide +kernel
theorem dX9_weigh_9 : decode cX9_weigh 9 = .ok (.ifCond .ne 6, 3) := by decide +kernel
theorem dX9_weigh_12 : decode cX9_weigh 12 = .ok (.ldc 216, 2) := by decide +kernel
theorem dX9_weigh_14 : decode cX9_weigh 14 = .ok (.ireturn, 1) := by decide +kernel
theorem dX9_weigh_15 : decode cX9_weigh 15 = .ok (.iload_n 2, 1) := by decide +kernel
theorem dX9_weigh_16 : decode cX9_weigh 16 = .ok (.i2l, 1) := by decide +kernel
theorem dX9_weigh_17 : decode cX9_weigh 17 = .ok (.lconst 0, 1) := by decide +kernel
theorem dX9_weigh_18 : decode cX9_weigh 18 = .ok (.ldc2_w 284, 3) := by decide +kernel
theorem dX9_weigh_21 : decode cX9_weigh 21 = .ok (.invokestatic 90, 3) := by decide +kernel
theorem dX9_weigh_24 : decode cX9_weigh 24 = .ok (.ifCond .ne 6, 3) := by decide +kernel
theorem dX9_weigh_27 : decode cX9_weigh 27 = .ok (.ldc 99, 2) := by decide +kernel
theorem dX9_weigh_29 : decode cX9_weigh 29 = .ok (.ireturn, 1) := by decide +kernel
theorem dX9_weigh_30 : decode cX9_weigh 30 = .ok (.aload_n 0, 1) := by decide +kernel
theorem dX9_weigh_31 : decode cX9_weigh 31 = .ok (.getfield 23, 3) := by decide +kernel
theorem dX9_weigh_34 : decode cX9_weigh 34 = .ok (.iload_n 1, 1) := by decide +kernel
theorem dX9_weigh_35 : decode cX9_weigh 35 = .ok (.iaload, 1) := by decide +kernel
theorem dX9_weigh_36 : decode cX9_weigh 36 = .ok (.istore_n 3, 1) := by decide +kernel
theorem dX9_weigh_37 : decode cX9_weigh 37 = .ok (.aload_n 0, 1) := by decide +kernel
theorem dX9_weigh_38 : decode cX9_weigh 38 = .ok (.getfield 23, 3) := by decide +kernel
theorem dX9_weigh_41 : decode cX9_weigh 41 = .ok (.iload_n 1, 1) := by decide +kernel
theorem dX9_weigh_42 : decode cX9_weigh 42 = .ok (.iload_n 2, 1) := by decide +kernel
theorem dX9_weigh_43 : decode cX9_weigh 43 = .ok (.iastore, 1) := by decide +kernel
theorem dX9_weigh_44 : decode cX9_weigh 44 = .ok (.iload_n 3, 1) := by decide +kernel
theorem dX9_weigh_45 : decode cX9_weigh 45 = .ok (.ireturn, 1) := by decide +kernel
theorem dX9_doneMany_0 : decode cX9_doneMany 0 = .ok (.iconst 0, 1) := by decide +kernel
theorem dX9_doneMany_1 : decode cX9_doneMany 1 = .ok (.istore_n 1, 1) := by decide +kernel
theorem dX9_doneMany_2 : decode cX9_doneMany 2 = .ok (.iconst 0, 1) := by decide +kernel
theorem dX9_doneMany_3 : decode cX9_doneMany 3 = .ok (.istore_n 2, 1) := by decide +kernel
theorem dX9_doneMany_4 : decode cX9_doneMany 4 = .ok (.iload_n 2, 1) := by decide +kernel
theorem dX9_doneMany_5 : decode cX9_doneMany 5 = .ok (.aload_n 0, 1) := by decide +kernel
theorem dX9_doneMany_6 : decode cX9_doneMany 6 = .ok (.getfield 94, 3) := by decide +kernel
theorem dX9_doneMany_9 : decode cX9_doneMany 9 = .ok (.if_icmp .ge 26, 3) := by decide +kernel
theorem dX9_doneMany_12 : decode cX9_doneMany 12 = .ok (.iload_n 1, 1) := by decide +kernel
theorem dX9_doneMany_13 : decode cX9_doneMany 13 = .ok (.aload_n 0, 1) := by decide +kernel
theorem dX9_doneMany_14 : decode cX9_doneMany 14 = .ok (.getfield 26, 3) := by decide +kernel
theorem dX9_doneMany_17 : decode cX9_doneMany 17 = .ok (.iload_n 2, 1) := by decide +kernel
theorem dX9_doneMany_18 : decode cX9_doneMany 18 = .ok (.iaload, 1) := by decide +kernel
theorem dX9_doneMany_19 : decode cX9_doneMany 19 = .ok (.ifCond .le 7, 3) := by decide +kernel
theorem dX9_doneMany_22 : decode cX9_doneMany 22 = .ok (.iconst 1, 1) := by decide +kernel
theorem dX9_doneMany_23 : decode cX9_doneMany 23 = .ok (.goto 4, 3) := by decide +kernel
theorem dX9_doneMany_26 : decode cX9_doneMany 26 = .ok (.iconst 0, 1) := by decide +kernel
theorem dX9_doneMany_27 : decode cX9_doneMany 27 = .ok (.iadd, 1) := by decide +kernel
theorem dX9_doneMany_28 : decode cX9_doneMany 28 = .ok (.istore_n 1, 1) := by decide +kernel
theorem dX9_doneMany_29 : decode cX9_doneMany 29 = .ok (.iinc 2 1, 3) := by decide +kernel
theorem dX9_doneMany_32 : decode cX9_doneMany 32 = .ok (.goto (-28), 3) := by decide +kernel
theorem dX9_doneMany_35 : decode cX9_doneMany 35 = .ok (.iload_n 1, 1) := by decide +kernel
theorem dX9_doneMany_36 : decode cX9_doneMany 36 = .ok (.ireturn, 1) := by decide +kernel
theorem dX9_result_0 : decode cX9_result 0 = .ok (.aload_n 0, 1) := by decide +kernel
theorem dX9_result_1 : decode cX9_result 1 = .ok (.iload_n 1, 1) := by decide +kernel
theorem dX9_result_2 : decode cX9_result 2 = .ok (.invokevirtual 222, 3) := by decide +kernel
theorem dX9_result_5 : decode cX9_result 5 = .ok (.ifCond .ne 6, 3) := by decide +kernel
theorem dX9_result_8 : decode cX9_result 8 = .ok (.ldc 216, 2) := by decide +kernel
theorem dX9_result_10 : decode cX9_result 10 = .ok (.ireturn, 1) := by decide +kernel
theorem dX9_result_11 : decode cX9_result 11 = .ok (.aload_n 0, 1) := by decide +kernel
theorem dX9_result_12 : decode cX9_result 12 = .ok (.getfield 26, 3) := by decide +kernel
theorem dX9_result_15 : decode cX9_result 15 = .ok (.iload_n 1, 1) := by decide +kernel
theorem dX9_result_16 : decode cX9_result 16 = .ok (.iaload, 1) := by decide +kernel
theorem dX9_result_17 : decode cX9_result 17 = .ok (.ifCond .le 7, 3) := by decide +kernel
theorem dX9_result_20 : decode cX9_result 20 = .ok (.ldc_w 277, 3) := by decide +kernel
theorem dX9_result_23 : decode cX9_result 23 = .ok (.ireturn, 1) := by decide +kernel
theorem dX9_result_24 : decode cX9_result 24 = .ok (.aload_n 0, 1) := by decide +kernel
theorem dX9_result_25 : decode cX9_result 25 = .ok (.getfield 26, 3) := by decide +kernel
theorem dX9_result_28 : decode cX9_result 28 = .ok (.iload_n 1, 1) := by decide +kernel
theorem dX9_result_29 : decode cX9_result 29 = .ok (.iload_n 2, 1) := by decide +kernel
theorem dX9_result_30 : decode cX9_result 30 = .ok (.ifCond .eq 7, 3) := by decide +kernel
theorem dX9_result_33 : decode cX9_result 33 = .ok (.iconst 1, 1) := by decide +kernel
theorem dX9_result_34 : decode cX9_result 34 = .ok (.goto 4, 3) := by decide +kernel
theorem dX9_result_37 : decode cX9_result 37 = .ok (.iconst 2, 1) := by decide +kernel
theorem dX9_result_38 : decode cX9_result 38 = .ok (.iastore, 1) := by decide +kernel
theorem dX9_result_39 : decode cX9_result 39 = .ok (.aload_n 0, 1) := by decide +kernel
theorem dX9_result_40 : decode cX9_result 40 = .ok (.invokevirtual 286, 3) := by decide +kernel
theorem dX9_result_43 : decode cX9_result 43 = .ok (.ireturn, 1) := by decide +kernel
theorem dX9_forget_0 : decode cX9_forget 0 = .ok (.aload_n 0, 1) := by decide +kernel
theorem dX9_forget_1 : decode cX9_forget 1 = .ok (.invokevirtual 286, 3) := by decide +kernel
theorem dX9_forget_4 : decode cX9_forget 4 = .ok (.istore_n 1, 1) := by decide +kernel
theorem dX9_forget_5 : decode cX9_forget 5 = .ok (.iconst 0, 1) := by decide +kernel
theorem dX9_forget_6 : decode cX9_forget 6 = .ok (.istore_n 2, 1) := by decide +kernel
theorem dX9_forget_7 : decode cX9_forget 7 = .ok (.iload_n 2, 1) := by decide +kernel
theorem dX9_forget_8 : decode cX9_forget 8 = .ok (.bipush 6, 2) := by decide +kernel
theorem dX9_forget_10 : decode cX9_forget 10 = .ok (.if_icmp .ge 16, 3) := by decide +kernel
theorem dX9_forget_13 : decode cX9_forget 13 = .ok (.aload_n 0, 1) := by decide +kernel
theorem dX9_forget_14 : decode cX9_forget 14 = .ok (.getfield 26, 3) := by decide +kernel
theorem dX9_forget_17 : decode cX9_forget 17 = .ok (.iload_n 2, 1) := by decide +kernel
theorem dX9_forget_18 : decode cX9_forget 18 = .ok (.iconst 0, 1) := by decide +kernel
theorem dX9_forget_19 : decode cX9_forget 19 = .ok (.iastore, 1) := by decide +kernel
theorem dX9_forget_20 : decode cX9_forget 20 = .ok (.iinc 2 1, 3) := by decide +kernel
theorem dX9_forget_23 : decode cX9_forget 23 = .ok (.goto (-16), 3) := by decide +kernel
theorem dX9_forget_26 : decode cX9_forget 26 = .ok (.iload_n 1, 1) := by decide +kernel
theorem dX9_forget_27 : decode cX9_forget 27 = .ok (.ireturn, 1) := by decide +kernel
theorem dX9_lacks_0 : decode cX9_lacks 0 = .ok (.aload_n 0, 1) := by decide +kernel
theorem dX9_lacks_1 : decode cX9_lacks 1 = .ok (.getfield 20, 3) := by decide +kernel
theorem dX9_lacks_4 : decode cX9_lacks 4 = .ok (.iconst 4, 1) := by decide +kernel
theorem dX9_lacks_5 : decode cX9_lacks 5 = .ok (.iload_n 1, 1) := by decide +kernel
theorem dX9_lacks_6 : decode cX9_lacks 6 = .ok (.imul, 1) := by decide +kernel
theorem dX9_lacks_7 : decode cX9_lacks 7 = .ok (.iconst 3, 1) := by decide +kernel
theorem dX9_lacks_8 : decode cX9_lacks 8 = .ok (.iadd, 1) := by decide +kernel
theorem dX9_lacks_9 : decode cX9_lacks 9 = .ok (.iaload, 1) := by decide +kernel
theorem dX9_lacks_10 : decode cX9_lacks 10 = .ok (.iload_n 2, 1) := by decide +kernel
theorem dX9_lacks_11 : decode cX9_lacks 11 = .ok (.iand, 1) := by decide +kernel
theorem dX9_lacks_12 : decode cX9_lacks 12 = .ok (.ifCond .eq 7, 3) := by decide +kernel
theorem dX9_lacks_15 : decode cX9_lacks 15 = .ok (.iconst 1, 1) := by decide +kernel
theorem dX9_lacks_16 : decode cX9_lacks 16 = .ok (.goto 4, 3) := by decide +kernel
theorem dX9_lacks_19 : decode cX9_lacks 19 = .ok (.iconst 0, 1) := by decide +kernel
theorem dX9_lacks_20 : decode cX9_lacks 20 = .ok (.ireturn, 1) := by decide +kernel
theorem dX9_shareOf_0 : decode cX9_shareOf 0 = .ok (.aload_n 0, 1) := by decide +kernel
theorem dX9_shareOf_1 : decode cX9_shareOf 1 = .ok (.iload_n 1, 1) := by decide +kernel
theorem dX9_shareOf_2 : decode cX9_shareOf 2 = .ok (.iload_n 2, 1) := by decide +kernel
theorem dX9_shareOf_3 : decode cX9_shareOf 3 = .ok (.invokevirtual 289, 3) := by decide +kernel
theorem dX9_shareOf_6 : decode cX9_shareOf 6 = .ok (.ifCond .eq 16, 3) := by decide +kernel
theorem dX9_shareOf_9 : decode cX9_shareOf 9 = .ok (.aload_n 0, 1) := by decide +kernel
theorem dX9_shareOf_10 : decode cX9_shareOf 10 = .ok (.getfield 20, 3) := by decide +kernel
theorem dX9_shareOf_13 : decode cX9_shareOf 13 = .ok (.iconst 4, 1) := by decide +kernel
theorem dX9_shareOf_14 : decode cX9_shareOf 14 = .ok (.iload_n 1, 1) := by decide +kernel
theorem dX9_shareOf_15 : decode cX9_shareOf 15 = .ok (.imul, 1) := by decide +kernel
theorem dX9_shareOf_16 : decode cX9_shareOf 16 = .ok (.iconst 2, 1) := by decide +kernel
theorem dX9_shareOf_17 : decode cX9_shareOf 17 = .ok (.iadd, 1) := by decide +kernel
theorem dX9_shareOf_18 : decode cX9_shareOf 18 = .ok (.iaload, 1) := by decide +kernel
theorem dX9_shareOf_19 : decode cX9_shareOf 19 = .ok (.goto 16, 3) := by decide +kernel
theorem dX9_shareOf_22 : decode cX9_shareOf 22 = .ok (.bipush 100, 2) := by decide +kernel
theorem dX9_shareOf_24 : decode cX9_shareOf 24 = .ok (.aload_n 0, 1) := by decide +kernel
theorem dX9_shareOf_25 : decode cX9_shareOf 25 = .ok (.getfield 20, 3) := by decide +kernel
theorem dX9_shareOf_28 : decode cX9_shareOf 28 = .ok (.iconst 4, 1) := by decide +kernel
theorem dX9_shareOf_29 : decode cX9_shareOf 29 = .ok (.iload_n 1, 1) := by decide +kernel
theorem dX9_shareOf_30 : decode cX9_shareOf 30 = .ok (.imul, 1) := by decide +kernel
theorem dX9_shareOf_31 : decode cX9_shareOf 31 = .ok (.iconst 1, 1) := by decide +kernel
theorem dX9_shareOf_32 : decode cX9_shareOf 32 = .ok (.iadd, 1) := by decide +kernel
theorem dX9_shareOf_33 : decode cX9_shareOf 33 = .ok (.iaload, 1) := by decide +kernel
theorem dX9_shareOf_34 : decode cX9_shareOf 34 = .ok (.isub, 1) := by decide +kernel
theorem dX9_shareOf_35 : decode cX9_shareOf 35 = .ok (.istore 4, 2) := by decide +kernel
theorem dX9_shareOf_37 : decode cX9_shareOf 37 = .ok (.iload_n 3, 1) := by decide +kernel
theorem dX9_shareOf_38 : decode cX9_shareOf 38 = .ok (.iconst 1, 1) := by decide +kernel
theorem dX9_shareOf_39 : decode cX9_shareOf 39 = .ok (.if_icmp .ne 8, 3) := by decide +kernel
theorem dX9_shareOf_42 : decode cX9_shareOf 42 = .ok (.iload 4, 2) := by decide +kernel
theorem dX9_shareOf_44 : decode cX9_shareOf 44 = .ok (.goto 8, 3) := by decide +kernel
theorem dX9_shareOf_47 : decode cX9_shareOf 47 = .ok (.bipush 100, 2) := by decide +kernel
theorem dX9_shareOf_49 : decode cX9_shareOf 49 = .ok (.iload 4, 2) := by decide +kernel
theorem dX9_shareOf_51 : decode cX9_shareOf 51 = .ok (.isub, 1) := by decide +kernel
theorem dX9_shareOf_52 : decode cX9_shareOf 52 = .ok (.ireturn, 1) := by decide +kernel
theorem dX9_oddsOf_0 : decode cX9_oddsOf 0 = .ok (.aload_n 0, 1) := by decide +kernel
theorem dX9_oddsOf_1 : decode cX9_oddsOf 1 = .ok (.getfield 23, 3) := by decide +kernel
theorem dX9_oddsOf_4 : decode cX9_oddsOf 4 = .ok (.iload_n 1, 1) := by decide +kernel
theorem dX9_oddsOf_5 : decode cX9_oddsOf 5 = .ok (.iaload, 1) := by decide +kernel
theorem dX9_oddsOf_6 : decode cX9_oddsOf 6 = .ok (.i2l, 1) := by decide +kernel
theorem dX9_oddsOf_7 : decode cX9_oddsOf 7 = .ok (.lstore_n 2, 1) := by decide +kernel
theorem dX9_oddsOf_8 : decode cX9_oddsOf 8 = .ok (.iconst 0, 1) := by decide +kernel
theorem dX9_oddsOf_9 : decode cX9_oddsOf 9 = .ok (.istore 4, 2) := by decide +kernel
theorem dX9_oddsOf_11 : decode cX9_oddsOf 11 = .ok (.iload 4, 2) := by decide +kernel
theorem dX9_oddsOf_13 : decode cX9_oddsOf 13 = .ok (.aload_n 0, 1) := by decide +kernel
theorem dX9_oddsOf_14 : decode cX9_oddsOf 14 = .ok (.getfield 94, 3) := by decide +kernel
theorem dX9_oddsOf_17 : decode cX9_oddsOf 17 = .ok (.if_icmp .ge 41, 3) := by decide +kernel
theorem dX9_oddsOf_20 : decode cX9_oddsOf 20 = .ok (.lload_n 2, 1) := by decide +kernel
theorem dX9_oddsOf_21 : decode cX9_oddsOf 21 = .ok (.aload_n 0, 1) := by decide +kernel
theorem dX9_oddsOf_22 : decode cX9_oddsOf 22 = .ok (.getfield 26, 3) := by decide +kernel
theorem dX9_oddsOf_25 : decode cX9_oddsOf 25 = .ok (.iload 4, 2) := by decide +kernel
theorem dX9_oddsOf_27 : decode cX9_oddsOf 27 = .ok (.iaload, 1) := by decide +kernel
theorem dX9_oddsOf_28 : decode cX9_oddsOf 28 = .ok (.ifCond .le 21, 3) := by decide +kernel
theorem dX9_oddsOf_31 : decode cX9_oddsOf 31 = .ok (.aload_n 0, 1) := by decide +kernel
theorem dX9_oddsOf_32 : decode cX9_oddsOf 32 = .ok (.iload 4, 2) := by decide +kernel
theorem dX9_oddsOf_34 : decode cX9_oddsOf 34 = .ok (.iload_n 1, 1) := by decide +kernel
theorem dX9_oddsOf_35 : decode cX9_oddsOf 35 = .ok (.aload_n 0, 1) := by decide +kernel
theorem dX9_oddsOf_36 : decode cX9_oddsOf 36 = .ok (.getfield 26, 3) := by decide +kernel
theorem dX9_oddsOf_39 : decode cX9_oddsOf 39 = .ok (.iload 4, 2) := by decide +kernel
theorem dX9_oddsOf_41 : decode cX9_oddsOf 41 = .ok (.iaload, 1) := by decide +kernel
theorem dX9_oddsOf_42 : decode cX9_oddsOf 42 = .ok (.invokevirtual 292, 3) := by decide +kernel
theorem dX9_oddsOf_45 : decode cX9_oddsOf 45 = .ok (.i2l, 1) := by decide +kernel
theorem dX9_oddsOf_46 : decode cX9_oddsOf 46 = .ok (.goto 4, 3) := by decide +kernel
theorem dX9_oddsOf_49 : decode cX9_oddsOf 49 = .ok (.lconst 1, 1) := by decide +kernel
theorem dX9_oddsOf_50 : decode cX9_oddsOf 50 = .ok (.lmul, 1) := by decide +kernel
theorem dX9_oddsOf_51 : decode cX9_oddsOf 51 = .ok (.lstore_n 2, 1) := by decide +kernel
theorem dX9_oddsOf_52 : decode cX9_oddsOf 52 = .ok (.iinc 4 1, 3) := by decide +kernel
theorem dX9_oddsOf_55 : decode cX9_oddsOf 55 = .ok (.goto (-44), 3) := by decide +kernel
theorem dX9_oddsOf_58 : decode cX9_oddsOf 58 = .ok (.lload_n 2, 1) := by decide +kernel
theorem dX9_oddsOf_59 : decode cX9_oddsOf 59 = .ok (.lreturn, 1) := by decide +kernel
theorem dX9_odds_0 : decode cX9_odds 0 = .ok (.iload_n 1, 1) := by decide +kernel
theorem dX9_odds_1 : decode cX9_odds 1 = .ok (.iconst (-1), 1) := by decide +kernel
theorem dX9_odds_2 : decode cX9_odds 2 = .ok (.if_icmp .ne 8, 3) := by decide +kernel
theorem dX9_odds_5 : decode cX9_odds 5 = .ok (.aload_n 0, 1) := by decide +kernel
theorem dX9_odds_6 : decode cX9_odds 6 = .ok (.invokevirtual 296, 3) := by decide +kernel
theorem dX9_odds_9 : decode cX9_odds 9 = .ok (.lreturn, 1) := by decide +kernel
theorem dX9_odds_10 : decode cX9_odds 10 = .ok (.iload_n 1, 1) := by decide +kernel
theorem dX9_odds_11 : decode cX9_odds 11 = .ok (.i2l, 1) := by decide +kernel
theorem dX9_odds_12 : decode cX9_odds 12 = .ok (.lconst 0, 1) := by decide +kernel
theorem dX9_odds_13 : decode cX9_odds 13 = .ok (.ldc2_w 282, 3) := by decide +kernel
theorem dX9_odds_16 : decode cX9_odds 16 = .ok (.invokestatic 90, 3) := by decide +kernel
theorem dX9_odds_19 : decode cX9_odds 19 = .ok (.ifCond .eq 11, 3) := by decide +kernel
theorem dX9_odds_22 : decode cX9_odds 22 = .ok (.aload_n 0, 1) := by decide +kernel
theorem dX9_odds_23 : decode cX9_odds 23 = .ok (.iload_n 1, 1) := by decide +kernel
theorem dX9_odds_24 : decode cX9_odds 24 = .ok (.invokevirtual 300, 3) := by decide +kernel
theorem dX9_odds_27 : decode cX9_odds 27 = .ok (.goto 6, 3) := by decide +kernel
theorem dX9_odds_30 : decode cX9_odds 30 = .ok (.ldc2_w 304, 3) := by decide +kernel
theorem dX9_odds_33 : decode cX9_odds 33 = .ok (.lreturn, 1) := by decide +kernel
theorem dX9_allOdds_0 : decode cX9_allOdds 0 = .ok (.lconst 0, 1) := by decide +kernel
theorem dX9_allOdds_1 : decode cX9_allOdds 1 = .ok (.lstore_n 1, 1) := by decide +kernel
theorem dX9_allOdds_2 : decode cX9_allOdds 2 = .ok (.iconst 0, 1) := by decide +kernel
theorem dX9_allOdds_3 : decode cX9_allOdds 3 = .ok (.istore_n 3, 1) := by decide +kernel
theorem dX9_allOdds_4 : decode cX9_allOdds 4 = .ok (.iload_n 3, 1) := by decide +kernel
theorem dX9_allOdds_5 : decode cX9_allOdds 5 = .ok (.bipush 16, 2) := by decide +kernel
theorem dX9_allOdds_7 : decode cX9_allOdds 7 = .ok (.if_icmp .ge 17, 3) := by decide +kernel
theorem dX9_allOdds_10 : decode cX9_allOdds 10 = .ok (.lload_n 1, 1) := by decide +kernel
theorem dX9_allOdds_11 : decode cX9_allOdds 11 = .ok (.aload_n 0, 1) := by decide +kernel
theorem dX9_allOdds_12 : decode cX9_allOdds 12 = .ok (.iload_n 3, 1) := by decide +kernel
theorem dX9_allOdds_13 : decode cX9_allOdds 13 = .ok (.invokevirtual 300, 3) := by decide +kernel
theorem dX9_allOdds_16 : decode cX9_allOdds 16 = .ok (.ladd, 1) := by decide +kernel
theorem dX9_allOdds_17 : decode cX9_allOdds 17 = .ok (.lstore_n 1, 1) := by decide +kernel
theorem dX9_allOdds_18 : decode cX9_allOdds 18 = .ok (.iinc 3 1, 3) := by decide +kernel
theorem dX9_allOdds_21 : decode cX9_allOdds 21 = .ok (.goto (-17), 3) := by decide +kernel
theorem dX9_allOdds_24 : decode cX9_allOdds 24 = .ok (.lload_n 1, 1) := by decide +kernel
theorem dX9_allOdds_25 : decode cX9_allOdds 25 = .ok (.lreturn, 1) := by decide +kernel
theorem dX9_greatest_0 : decode cX9_greatest 0 = .ok (.lconst 0, 1) := by decide +kernel
theorem dX9_greatest_1 : decode cX9_greatest 1 = .ok (.lstore_n 1, 1) := by decide +kernel
theorem dX9_greatest_2 : decode cX9_greatest 2 = .ok (.iconst 0, 1) := by decide +kernel
theorem dX9_greatest_3 : decode cX9_greatest 3 = .ok (.istore_n 3, 1) := by decide +kernel
theorem dX9_greatest_4 : decode cX9_greatest 4 = .ok (.iload_n 3, 1) := by decide +kernel
theorem dX9_greatest_5 : decode cX9_greatest 5 = .ok (.bipush 16, 2) := by decide +kernel
theorem dX9_greatest_7 : decode cX9_greatest 7 = .ok (.if_icmp .ge 30, 3) := by decide +kernel
theorem dX9_greatest_10 : decode cX9_greatest 10 = .ok (.aload_n 0, 1) := by decide +kernel
theorem dX9_greatest_11 : decode cX9_greatest 11 = .ok (.iload_n 3, 1) := by decide +kernel
theorem dX9_greatest_12 : decode cX9_greatest 12 = .ok (.invokevirtual 300, 3) := by decide +kernel
theorem dX9_greatest_15 : decode cX9_greatest 15 = .ok (.lstore 4, 2) := by decide +kernel
theorem dX9_greatest_17 : decode cX9_greatest 17 = .ok (.lload 4, 2) := by decide +kernel
theorem dX9_greatest_19 : decode cX9_greatest 19 = .ok (.lload_n 1, 1) := by decide +kernel
theorem dX9_greatest_20 : decode cX9_greatest 20 = .ok (.lcmp, 1) := by decide +kernel
theorem dX9_greatest_21 : decode cX9_greatest 21 = .ok (.ifCond .le 8, 3) := by decide +kernel
theorem dX9_greatest_24 : decode cX9_greatest 24 = .ok (.lload 4, 2) := by decide +kernel
theorem dX9_greatest_26 : decode cX9_greatest 26 = .ok (.goto 4, 3) := by decide +kernel
theorem dX9_greatest_29 : decode cX9_greatest 29 = .ok (.lload_n 1, 1) := by decide +kernel
theorem dX9_greatest_30 : decode cX9_greatest 30 = .ok (.lstore_n 1, 1) := by decide +kernel
theorem dX9_greatest_31 : decode cX9_greatest 31 = .ok (.iinc 3 1, 3) := by decide +kernel
theorem dX9_greatest_34 : decode cX9_greatest 34 = .ok (.goto (-30), 3) := by decide +kernel
theorem dX9_greatest_37 : decode cX9_greatest 37 = .ok (.lload_n 1, 1) := by decide +kernel
theorem dX9_greatest_38 : decode cX9_greatest 38 = .ok (.lreturn, 1) := by decide +kernel
theorem dX9_partsBy_0 : decode cX9_partsBy 0 = .ok (.aload_n 0, 1) := by decide +kernel
theorem dX9_partsBy_1 : decode cX9_partsBy 1 = .ok (.getfield 26, 3) := by decide +kernel
theorem dX9_partsBy_4 : decode cX9_partsBy 4 = .ok (.iload_n 1, 1) := by decide +kernel
theorem dX9_partsBy_5 : decode cX9_partsBy 5 = .ok (.iconst 1, 1) := by decide +kernel
theorem dX9_partsBy_6 : decode cX9_partsBy 6 = .ok (.iastore, 1) := by decide +kernel
theorem dX9_partsBy_7 : decode cX9_partsBy 7 = .ok (.aload_n 0, 1) := by decide +kernel
theorem dX9_partsBy_8 : decode cX9_partsBy 8 = .ok (.invokevirtual 306, 3) := by decide +kernel
theorem dX9_partsBy_11 : decode cX9_partsBy 11 = .ok (.lstore_n 2, 1) := by decide +kernel
theorem dX9_partsBy_12 : decode cX9_partsBy 12 = .ok (.aload_n 0, 1) := by decide +kernel
theorem dX9_partsBy_13 : decode cX9_partsBy 13 = .ok (.getfield 26, 3) := by decide +kernel
theorem dX9_partsBy_16 : decode cX9_partsBy 16 = .ok (.iload_n 1, 1) := by decide +kernel
theorem dX9_partsBy_17 : decode cX9_partsBy 17 = .ok (.iconst 2, 1) := by decide +kernel
theorem dX9_partsBy_18 : decode cX9_partsBy 18 = .ok (.iastore, 1) := by decide +kernel
theorem dX9_partsBy_19 : decode cX9_partsBy 19 = .ok (.lload_n 2, 1) := by decide +kernel
theorem dX9_partsBy_20 : decode cX9_partsBy 20 = .ok (.aload_n 0, 1) := by decide +kernel
theorem dX9_partsBy_21 : decode cX9_partsBy 21 = .ok (.invokevirtual 306, 3) := by decide +kernel
theorem dX9_partsBy_24 : decode cX9_partsBy 24 = .ok (.ladd, 1) := by decide +kernel
theorem dX9_partsBy_25 : decode cX9_partsBy 25 = .ok (.lstore_n 2, 1) := by decide +kernel
theorem dX9_partsBy_26 : decode cX9_partsBy 26 = .ok (.aload_n 0, 1) := by decide +kernel
theorem dX9_partsBy_27 : decode cX9_partsBy 27 = .ok (.getfield 26, 3) := by decide +kernel
theorem dX9_partsBy_30 : decode cX9_partsBy 30 = .ok (.iload_n 1, 1) := by decide +kernel
theorem dX9_partsBy_31 : decode cX9_partsBy 31 = .ok (.iconst 0, 1) := by decide +kernel
theorem dX9_partsBy_32 : decode cX9_partsBy 32 = .ok (.iastore, 1) := by decide +kernel
theorem dX9_partsBy_33 : decode cX9_partsBy 33 = .ok (.lload_n 2, 1) := by decide +kernel
theorem dX9_partsBy_34 : decode cX9_partsBy 34 = .ok (.lreturn, 1) := by decide +kernel
theorem dX9_next_0 : decode cX9_next 0 = .ok (.iconst (-1), 1) := by decide +kernel
theorem dX9_next_1 : decode cX9_next 1 = .ok (.istore_n 1, 1) := by decide +kernel
theorem dX9_next_2 : decode cX9_next 2 = .ok (.lconst 0, 1) := by decide +kernel
theorem dX9_next_3 : decode cX9_next 3 = .ok (.lstore_n 2, 1) := by decide +kernel
theorem dX9_next_4 : decode cX9_next 4 = .ok (.iconst 0, 1) := by decide +kernel
theorem dX9_next_5 : decode cX9_next 5 = .ok (.istore 4, 2) := by decide +kernel
theorem dX9_next_7 : decode cX9_next 7 = .ok (.iload 4, 2) := by decide +kernel
theorem dX9_next_9 : decode cX9_next 9 = .ok (.aload_n 0, 1) := by decide +kernel
theorem dX9_next_10 : decode cX9_next 10 = .ok (.getfield 94, 3) := by decide +kernel
theorem dX9_next_13 : decode cX9_next 13 = .ok (.if_icmp .ge 96, 3) := by decide +kernel
theorem dX9_next_16 : decode cX9_next 16 = .ok (.aload_n 0, 1) := by decide +kernel
theorem dX9_next_17 : decode cX9_next 17 = .ok (.getfield 26, 3) := by decide +kernel
theorem dX9_next_20 : decode cX9_next 20 = .ok (.iload 4, 2) := by decide +kernel
theorem dX9_next_22 : decode cX9_next 22 = .ok (.iaload, 1) := by decide +kernel
theorem dX9_next_23 : decode cX9_next 23 = .ok (.ifCond .ne 80, 3) := by decide +kernel
theorem dX9_next_26 : decode cX9_next 26 = .ok (.aload_n 0, 1) := by decide +kernel
theorem dX9_next_27 : decode cX9_next 27 = .ok (.iload 4, 2) := by decide +kernel
theorem dX9_next_29 : decode cX9_next 29 = .ok (.invokevirtual 309, 3) := by decide +kernel
theorem dX9_next_32 : decode cX9_next 32 = .ok (.lstore 5, 2) := by decide +kernel
theorem dX9_next_34 : decode cX9_next 34 = .ok (.iload_n 1, 1) := by decide +kernel
theorem dX9_next_35 : decode cX9_next 35 = .ok (.ifCond .lt 37, 3) := by decide +kernel
theorem dX9_next_38 : decode cX9_next 38 = .ok (.lload 5, 2) := by decide +kernel
theorem dX9_next_40 : decode cX9_next 40 = .ok (.lload_n 2, 1) := by decide +kernel
theorem dX9_next_41 : decode cX9_next 41 = .ok (.lcmp, 1) := by decide +kernel
theorem dX9_next_42 : decode cX9_next 42 = .ok (.ifCond .gt 30, 3) := by decide +kernel
theorem dX9_next_45 : decode cX9_next 45 = .ok (.lload 5, 2) := by decide +kernel
theorem dX9_next_47 : decode cX9_next 47 = .ok (.lload_n 2, 1) := by decide +kernel
theorem dX9_next_48 : decode cX9_next 48 = .ok (.lcmp, 1) := by decide +kernel
theorem dX9_next_49 : decode cX9_next 49 = .ok (.ifCond .ne 27, 3) := by decide +kernel
theorem dX9_next_52 : decode cX9_next 52 = .ok (.aload_n 0, 1) := by decide +kernel
theorem dX9_next_53 : decode cX9_next 53 = .ok (.getfield 20, 3) := by decide +kernel
theorem dX9_next_56 : decode cX9_next 56 = .ok (.iconst 4, 1) := by decide +kernel
theorem dX9_next_57 : decode cX9_next 57 = .ok (.iload 4, 2) := by decide +kernel
theorem dX9_next_59 : decode cX9_next 59 = .ok (.imul, 1) := by decide +kernel
theorem dX9_next_60 : decode cX9_next 60 = .ok (.iaload, 1) := by decide +kernel
theorem dX9_next_61 : decode cX9_next 61 = .ok (.aload_n 0, 1) := by decide +kernel
theorem dX9_next_62 : decode cX9_next 62 = .ok (.getfield 20, 3) := by decide +kernel
theorem dX9_next_65 : decode cX9_next 65 = .ok (.iconst 4, 1) := by decide +kernel
theorem dX9_next_66 : decode cX9_next 66 = .ok (.iload_n 1, 1) := by decide +kernel
theorem dX9_next_67 : decode cX9_next 67 = .ok (.imul, 1) := by decide +kernel
theorem dX9_next_68 : decode cX9_next 68 = .ok (.iaload, 1) := by decide +kernel
theorem dX9_next_69 : decode cX9_next 69 = .ok (.if_icmp .ge 7, 3) := by decide +kernel
theorem dX9_next_72 : decode cX9_next 72 = .ok (.iconst 1, 1) := by decide +kernel
theorem dX9_next_73 : decode cX9_next 73 = .ok (.goto 4, 3) := by decide +kernel
theorem dX9_next_76 : decode cX9_next 76 = .ok (.iconst 0, 1) := by decide +kernel
theorem dX9_next_77 : decode cX9_next 77 = .ok (.istore 7, 2) := by decide +kernel
theorem dX9_next_79 : decode cX9_next 79 = .ok (.iload 7, 2) := by decide +kernel
theorem dX9_next_81 : decode cX9_next 81 = .ok (.ifCond .eq 8, 3) := by decide +kernel
theorem dX9_next_84 : decode cX9_next 84 = .ok (.iload 4, 2) := by decide +kernel
theorem dX9_next_86 : decode cX9_next 86 = .ok (.goto 4, 3) := by decide +kernel
theorem dX9_next_89 : decode cX9_next 89 = .ok (.iload_n 1, 1) := by decide +kernel
theorem dX9_next_90 : decode cX9_next 90 = .ok (.istore_n 1, 1) := by decide +kernel
theorem dX9_next_91 : decode cX9_next 91 = .ok (.iload 7, 2) := by decide +kernel
theorem dX9_next_93 : decode cX9_next 93 = .ok (.ifCond .eq 8, 3) := by decide +kernel
theorem dX9_next_96 : decode cX9_next 96 = .ok (.lload 5, 2) := by decide +kernel
theorem dX9_next_98 : decode cX9_next 98 = .ok (.goto 4, 3) := by decide +kernel
theorem dX9_next_101 : decode cX9_next 101 = .ok (.lload_n 2, 1) := by decide +kernel
theorem dX9_next_102 : decode cX9_next 102 = .ok (.lstore_n 2, 1) := by decide +kernel
theorem dX9_next_103 : decode cX9_next 103 = .ok (.iinc 4 1, 3) := by decide +kernel
theorem dX9_next_106 : decode cX9_next 106 = .ok (.goto (-99), 3) := by decide +kernel
theorem dX9_next_109 : decode cX9_next 109 = .ok (.iload_n 1, 1) := by decide +kernel
