theorem dX8_clause_31 : decode cX8_clause 31 = .ok (.aload_n 0, 1) := by decide +kernel
theorem dX8_clause_32 : decode cX8_clause 32 = .ok (.getfield 101, 3) := by decide +kernel
theorem dX8_clause_35 : decode cX8_clause 35 = .ok (.invokevirtual 121, 3) := by decide +kernel
theorem dX8_clause_38 : decode cX8_clause 38 = .ok (.goto 21, 3) := by decide +kernel
theorem dX8_clause_41 : decode cX8_clause 41 = .ok (.aload_n 0, 1) := by decide +kernel
theorem dX8_clause_42 : decode cX8_clause 42 = .ok (.getfield 125, 3) := by decide +kernel
theorem dX8_clause_45 : decode cX8_clause 45 = .ok (.bipush 8, 2) := by decide +kernel
theorem dX8_clause_47 : decode cX8_clause 47 = .ok (.if_icmp .ne 12, 3) := by decide +kernel
theorem dX8_clause_50 : decode cX8_clause 50 = .ok (.aload_n 0, 1) := by decide +kernel
theorem dX8_clause_51 : decode cX8_clause 51 = .ok (.iconst 3, 1) := by decide +kernel
theorem dX8_clause_52 : decode cX8_clause 52 = .ok (.aload_n 0, 1) := by decide +kernel
theorem dX8_clause_53 : decode cX8_clause 53 = .ok (.getfield 101, 3) := by decide +kernel
theorem dX8_clause_56 : decode cX8_clause 56 = .ok (.invokevirtual 121, 3) := by decide +kernel
theorem dX8_clause_59 : decode cX8_clause 59 = .ok (.aload_n 0, 1) := by decide +kernel
theorem dX8_clause_60 : decode cX8_clause 60 = .ok (.getfield 107, 3) := by decide +kernel
theorem dX8_clause_63 : decode cX8_clause 63 = .ok (.ifCond .le 4, 3) := by decide +kernel
theorem dX8_clause_66 : decode cX8_clause 66 = .ok (.return_, 1) := by decide +kernel
theorem dX8_clause_67 : decode cX8_clause 67 = .ok (.aload_n 0, 1) := by decide +kernel
theorem dX8_clause_68 : decode cX8_clause 68 = .ok (.dup, 1) := by decide +kernel
theorem dX8_clause_69 : decode cX8_clause 69 = .ok (.getfield 101, 3) := by decide +kernel
theorem dX8_clause_72 : decode cX8_clause 72 = .ok (.iconst 1, 1) := by decide +kernel
theorem dX8_clause_73 : decode cX8_clause 73 = .ok (.iadd, 1) := by decide +kernel
theorem dX8_clause_74 : decode cX8_clause 74 = .ok (.putfield 101, 3) := by decide +kernel
theorem dX8_clause_77 : decode cX8_clause 77 = .ok (.iload_n 1, 1) := by decide +kernel
theorem dX8_clause_78 : decode cX8_clause 78 = .ok (.bipush 98, 2) := by decide +kernel
theorem dX8_clause_80 : decode cX8_clause 80 = .ok (.if_icmp .ne 10, 3) := by decide +kernel
theorem dX8_clause_83 : decode cX8_clause 83 = .ok (.aload_n 0, 1) := by decide +kernel
theorem dX8_clause_84 : decode cX8_clause 84 = .ok (.invokevirtual 133, 3) := by decide +kernel
theorem dX8_clause_87 : decode cX8_clause 87 = .ok (.goto 35, 3) := by decide +kernel
theorem dX8_clause_90 : decode cX8_clause 90 = .ok (.iload_n 1, 1) := by decide +kernel
theorem dX8_clause_91 : decode cX8_clause 91 = .ok (.bipush 109, 2) := by decide +kernel
theorem dX8_clause_93 : decode cX8_clause 93 = .ok (.if_icmp .ne 10, 3) := by decide +kernel
theorem dX8_clause_96 : decode cX8_clause 96 = .ok (.aload_n 0, 1) := by decide +kernel
theorem dX8_clause_97 : decode cX8_clause 97 = .ok (.invokevirtual 136, 3) := by decide +kernel
theorem dX8_clause_100 : decode cX8_clause 100 = .ok (.goto 22, 3) := by decide +kernel
theorem dX8_clause_103 : decode cX8_clause 103 = .ok (.aload_n 0, 1) := by decide +kernel
theorem dX8_clause_104 : decode cX8_clause 104 = .ok (.iload_n 1, 1) := by decide +kernel
theorem dX8_clause_105 : decode cX8_clause 105 = .ok (.bipush 102, 2) := by decide +kernel
theorem dX8_clause_107 : decode cX8_clause 107 = .ok (.if_icmp .ne 7, 3) := by decide +kernel
theorem dX8_clause_110 : decode cX8_clause 110 = .ok (.iconst 1, 1) := by decide +kernel
theorem dX8_clause_111 : decode cX8_clause 111 = .ok (.goto 4, 3) := by decide +kernel
theorem dX8_clause_114 : decode cX8_clause 114 = .ok (.iconst 2, 1) := by decide +kernel
theorem dX8_clause_115 : decode cX8_clause 115 = .ok (.aload_n 0, 1) := by decide +kernel
theorem dX8_clause_116 : decode cX8_clause 116 = .ok (.invokevirtual 131, 3) := by decide +kernel
theorem dX8_clause_119 : decode cX8_clause 119 = .ok (.invokevirtual 128, 3) := by decide +kernel
theorem dX8_clause_122 : decode cX8_clause 122 = .ok (.return_, 1) := by decide +kernel
theorem dX8_text_0 : decode cX8_text 0 = .ok (.iload_n 1, 1) := by decide +kernel
theorem dX8_text_1 : decode cX8_text 1 = .ok (.invokestatic 139, 3) := by decide +kernel
theorem dX8_text_4 : decode cX8_text 4 = .ok (.ifCond .eq 15, 3) := by decide +kernel
theorem dX8_text_7 : decode cX8_text 7 = .ok (.iload_n 2, 1) := by decide +kernel
theorem dX8_text_8 : decode cX8_text 8 = .ok (.ifCond .lt 11, 3) := by decide +kernel
theorem dX8_text_11 : decode cX8_text 11 = .ok (.iload_n 2, 1) := by decide +kernel
theorem dX8_text_12 : decode cX8_text 12 = .ok (.aload_n 0, 1) := by decide +kernel
theorem dX8_text_13 : decode cX8_text 13 = .ok (.getfield 94, 3) := by decide +kernel
theorem dX8_text_16 : decode cX8_text 16 = .ok (.if_icmp .le 5, 3) := by decide +kernel
theorem dX8_text_19 : decode cX8_text 19 = .ok (.iconst (-1), 1) := by decide +kernel
theorem dX8_text_20 : decode cX8_text 20 = .ok (.ireturn, 1) := by decide +kernel
theorem dX8_text_21 : decode cX8_text 21 = .ok (.aload_n 0, 1) := by decide +kernel
theorem dX8_text_22 : decode cX8_text 22 = .ok (.iload_n 2, 1) := by decide +kernel
theorem dX8_text_23 : decode cX8_text 23 = .ok (.invokevirtual 143, 3) := by decide +kernel
theorem dX8_text_26 : decode cX8_text 26 = .ok (.aload_n 0, 1) := by decide +kernel
theorem dX8_text_27 : decode cX8_text 27 = .ok (.iconst 0, 1) := by decide +kernel
theorem dX8_text_28 : decode cX8_text 28 = .ok (.putfield 125, 3) := by decide +kernel
theorem dX8_text_31 : decode cX8_text 31 = .ok (.iload_n 2, 1) := by decide +kernel
theorem dX8_text_32 : decode cX8_text 32 = .ok (.ifCond .le 7, 3) := by decide +kernel
theorem dX8_text_35 : decode cX8_text 35 = .ok (.iconst 1, 1) := by decide +kernel
theorem dX8_text_36 : decode cX8_text 36 = .ok (.goto 4, 3) := by decide +kernel
theorem dX8_text_39 : decode cX8_text 39 = .ok (.iconst 0, 1) := by decide +kernel
theorem dX8_text_40 : decode cX8_text 40 = .ok (.istore_n 3, 1) := by decide +kernel
theorem dX8_text_41 : decode cX8_text 41 = .ok (.iload_n 3, 1) := by decide +kernel
theorem dX8_text_42 : decode cX8_text 42 = .ok (.ifCond .eq 73, 3) := by decide +kernel
theorem dX8_text_45 : decode cX8_text 45 = .ok (.aload_n 0, 1) := by decide +kernel
theorem dX8_text_46 : decode cX8_text 46 = .ok (.getfield 107, 3) := by decide +kernel
theorem dX8_text_49 : decode cX8_text 49 = .ok (.ifCond .ne 66, 3) := by decide +kernel
theorem dX8_text_52 : decode cX8_text 52 = .ok (.aload_n 0, 1) := by decide +kernel
theorem dX8_text_53 : decode cX8_text 53 = .ok (.invokevirtual 146, 3) := by decide +kernel
theorem dX8_text_56 : decode cX8_text 56 = .ok (.aload_n 0, 1) := by decide +kernel
theorem dX8_text_57 : decode cX8_text 57 = .ok (.getfield 107, 3) := by decide +kernel
theorem dX8_text_60 : decode cX8_text 60 = .ok (.ifCond .ne 18, 3) := by decide +kernel
theorem dX8_text_63 : decode cX8_text 63 = .ok (.aload_n 0, 1) := by decide +kernel
theorem dX8_text_64 : decode cX8_text 64 = .ok (.getfield 101, 3) := by decide +kernel
theorem dX8_text_67 : decode cX8_text 67 = .ok (.aload_n 0, 1) := by decide +kernel
theorem dX8_text_68 : decode cX8_text 68 = .ok (.getfield 104, 3) := by decide +kernel
theorem dX8_text_71 : decode cX8_text 71 = .ok (.if_icmp .ge 7, 3) := by decide +kernel
theorem dX8_text_74 : decode cX8_text 74 = .ok (.iconst 1, 1) := by decide +kernel
theorem dX8_text_75 : decode cX8_text 75 = .ok (.goto 4, 3) := by decide +kernel
theorem dX8_text_78 : decode cX8_text 78 = .ok (.iconst 0, 1) := by decide +kernel
theorem dX8_text_79 : decode cX8_text 79 = .ok (.istore_n 3, 1) := by decide +kernel
theorem dX8_text_80 : decode cX8_text 80 = .ok (.iload_n 3, 1) := by decide +kernel
theorem dX8_text_81 : decode cX8_text 81 = .ok (.ifCond .eq 21, 3) := by decide +kernel
theorem dX8_text_84 : decode cX8_text 84 = .ok (.aload_n 0, 1) := by decide +kernel
theorem dX8_text_85 : decode cX8_text 85 = .ok (.invokevirtual 113, 3) := by decide +kernel
theorem dX8_text_88 : decode cX8_text 88 = .ok (.bipush 59, 2) := by decide +kernel
theorem dX8_text_90 : decode cX8_text 90 = .ok (.if_icmp .eq 12, 3) := by decide +kernel
theorem dX8_text_93 : decode cX8_text 93 = .ok (.aload_n 0, 1) := by decide +kernel
theorem dX8_text_94 : decode cX8_text 94 = .ok (.iconst 1, 1) := by decide +kernel
theorem dX8_text_95 : decode cX8_text 95 = .ok (.aload_n 0, 1) := by decide +kernel
theorem dX8_text_96 : decode cX8_text 96 = .ok (.getfield 101, 3) := by decide +kernel
theorem dX8_text_99 : decode cX8_text 99 = .ok (.invokevirtual 121, 3) := by decide +kernel
theorem dX8_text_102 : decode cX8_text 102 = .ok (.aload_n 0, 1) := by decide +kernel
theorem dX8_text_103 : decode cX8_text 103 = .ok (.dup, 1) := by decide +kernel
theorem dX8_text_104 : decode cX8_text 104 = .ok (.getfield 101, 3) := by decide +kernel
theorem dX8_text_107 : decode cX8_text 107 = .ok (.iconst 1, 1) := by decide +kernel
theorem dX8_text_108 : decode cX8_text 108 = .ok (.iadd, 1) := by decide +kernel
theorem dX8_text_109 : decode cX8_text 109 = .ok (.putfield 101, 3) := by decide +kernel
theorem dX8_text_112 : decode cX8_text 112 = .ok (.goto (-71), 3) := by decide +kernel
theorem dX8_text_115 : decode cX8_text 115 = .ok (.aload_n 0, 1) := by decide +kernel
theorem dX8_text_116 : decode cX8_text 116 = .ok (.getfield 107, 3) := by decide +kernel
theorem dX8_text_119 : decode cX8_text 119 = .ok (.ifCond .le 16, 3) := by decide +kernel
theorem dX8_text_122 : decode cX8_text 122 = .ok (.bipush 100, 2) := by decide +kernel
theorem dX8_text_124 : decode cX8_text 124 = .ok (.aload_n 0, 1) := by decide +kernel
theorem dX8_text_125 : decode cX8_text 125 = .ok (.getfield 107, 3) := by decide +kernel
theorem dX8_text_128 : decode cX8_text 128 = .ok (.imul, 1) := by decide +kernel
theorem dX8_text_129 : decode cX8_text 129 = .ok (.aload_n 0, 1) := by decide +kernel
theorem dX8_text_130 : decode cX8_text 130 = .ok (.getfield 110, 3) := by decide +kernel
theorem dX8_text_133 : decode cX8_text 133 = .ok (.iadd, 1) := by decide +kernel
theorem dX8_text_134 : decode cX8_text 134 = .ok (.ireturn, 1) := by decide +kernel
theorem dX8_text_135 : decode cX8_text 135 = .ok (.aload_n 0, 1) := by decide +kernel
theorem dX8_text_136 : decode cX8_text 136 = .ok (.getfield 33, 3) := by decide +kernel
theorem dX8_text_139 : decode cX8_text 139 = .ok (.iload_n 1, 1) := by decide +kernel
theorem dX8_text_140 : decode cX8_text 140 = .ok (.aload_n 0, 1) := by decide +kernel
theorem dX8_text_141 : decode cX8_text 141 = .ok (.getfield 125, 3) := by decide +kernel
theorem dX8_text_144 : decode cX8_text 144 = .ok (.iastore, 1) := by decide +kernel
theorem dX8_text_145 : decode cX8_text 145 = .ok (.iconst 0, 1) := by decide +kernel
theorem dX8_text_146 : decode cX8_text 146 = .ok (.istore 4, 2) := by decide +kernel
theorem dX8_text_148 : decode cX8_text 148 = .ok (.iload 4, 2) := by decide +kernel
theorem dX8_text_150 : decode cX8_text 150 = .ok (.aload_n 0, 1) := by decide +kernel
theorem dX8_text_151 : decode cX8_text 151 = .ok (.getfield 125, 3) := by decide +kernel
theorem dX8_text_154 : decode cX8_text 154 = .ok (.if_icmp .ge 47, 3) := by decide +kernel
theorem dX8_text_157 : decode cX8_text 157 = .ok (.aload_n 0, 1) := by decide +kernel
theorem dX8_text_158 : decode cX8_text 158 = .ok (.getfield 36, 3) := by decide +kernel
theorem dX8_text_161 : decode cX8_text 161 = .ok (.bipush 8, 2) := by decide +kernel
theorem dX8_text_163 : decode cX8_text 163 = .ok (.iload_n 1, 1) := by decide +kernel
theorem dX8_text_164 : decode cX8_text 164 = .ok (.imul, 1) := by decide +kernel
theorem dX8_text_165 : decode cX8_text 165 = .ok (.iload 4, 2) := by decide +kernel
theorem dX8_text_167 : decode cX8_text 167 = .ok (.iadd, 1) := by decide +kernel
theorem dX8_text_168 : decode cX8_text 168 = .ok (.aload_n 0, 1) := by decide +kernel
theorem dX8_text_169 : decode cX8_text 169 = .ok (.getfield 42, 3) := by decide +kernel
theorem dX8_text_172 : decode cX8_text 172 = .ok (.iload 4, 2) := by decide +kernel
theorem dX8_text_174 : decode cX8_text 174 = .ok (.iaload, 1) := by decide +kernel
theorem dX8_text_175 : decode cX8_text 175 = .ok (.iastore, 1) := by decide +kernel
theorem dX8_text_176 : decode cX8_text 176 = .ok (.aload_n 0, 1) := by decide +kernel
theorem dX8_text_177 : decode cX8_text 177 = .ok (.getfield 39, 3) := by decide +kernel
theorem dX8_text_180 : decode cX8_text 180 = .ok (.bipush 8, 2) := by decide +kernel
theorem dX8_text_182 : decode cX8_text 182 = .ok (.iload_n 1, 1) := by decide +kernel
theorem dX8_text_183 : decode cX8_text 183 = .ok (.imul, 1) := by decide +kernel
theorem dX8_text_184 : decode cX8_text 184 = .ok (.iload 4, 2) := by decide +kernel
theorem dX8_text_186 : decode cX8_text 186 = .ok (.iadd, 1) := by decide +kernel
theorem dX8_text_187 : decode cX8_text 187 = .ok (.aload_n 0, 1) := by decide +kernel
theorem dX8_text_188 : decode cX8_text 188 = .ok (.getfield 45, 3) := by decide +kernel
theorem dX8_text_191 : decode cX8_text 191 = .ok (.iload 4, 2) := by decide +kernel
theorem dX8_text_193 : decode cX8_text 193 = .ok (.iaload, 1) := by decide +kernel
theorem dX8_text_194 : decode cX8_text 194 = .ok (.iastore, 1) := by decide +kernel
theorem dX8_text_195 : decode cX8_text 195 = .ok (.iinc 4 1, 3) := by decide +kernel
theorem dX8_text_198 : decode cX8_text 198 = .ok (.goto (-50), 3) := by decide +kernel
theorem dX8_text_201 : decode cX8_text 201 = .ok (.iconst 0, 1) := by decide +kernel
theorem dX8_text_202 : decode cX8_text 202 = .ok (.ireturn, 1) := by decide +kernel
theorem dX8_beast_0 : decode cX8_beast 0 = .ok (.iload_n 1, 1) := by decide +kernel
theorem dX8_beast_1 : decode cX8_beast 1 = .ok (.iconst 0, 1) := by decide +kernel
theorem dX8_beast_2 : decode cX8_beast 2 = .ok (.iconst 3, 1) := by decide +kernel
theorem dX8_beast_3 : decode cX8_beast 3 = .ok (.invokestatic 87, 3) := by decide +kernel
theorem dX8_beast_6 : decode cX8_beast 6 = .ok (.ifCond .eq 44, 3) := by decide +kernel
theorem dX8_beast_9 : decode cX8_beast 9 = .ok (.iload_n 2, 1) := by decide +kernel
theorem dX8_beast_10 : decode cX8_beast 10 = .ok (.iconst 0, 1) := by decide +kernel
theorem dX8_beast_11 : decode cX8_beast 11 = .ok (.sipush 200, 3) := by decide +kernel
theorem dX8_beast_14 : decode cX8_beast 14 = .ok (.invokestatic 87, 3) := by decide +kernel
theorem dX8_beast_17 : decode cX8_beast 17 = .ok (.ifCond .eq 33, 3) := by decide +kernel
theorem dX8_beast_20 : decode cX8_beast 20 = .ok (.iload_n 3, 1) := by decide +kernel
theorem dX8_beast_21 : decode cX8_beast 21 = .ok (.iconst 0, 1) := by decide +kernel
theorem dX8_beast_22 : decode cX8_beast 22 = .ok (.bipush 9, 2) := by decide +kernel
theorem dX8_beast_24 : decode cX8_beast 24 = .ok (.invokestatic 87, 3) := by decide +kernel
theorem dX8_beast_27 : decode cX8_beast 27 = .ok (.ifCond .eq 23, 3) := by decide +kernel
theorem dX8_beast_30 : decode cX8_beast 30 = .ok (.iload 4, 2) := by decide +kernel
theorem dX8_beast_32 : decode cX8_beast 32 = .ok (.iconst 0, 1) := by decide +kernel
theorem dX8_beast_33 : decode cX8_beast 33 = .ok (.bipush 9, 2) := by decide +kernel
theorem dX8_beast_35 : decode cX8_beast 35 = .ok (.invokestatic 87, 3) := by decide +kernel
theorem dX8_beast_38 : decode cX8_beast 38 = .ok (.ifCond .eq 12, 3) := by decide +kernel
theorem dX8_beast_41 : decode cX8_beast 41 = .ok (.aload_n 0, 1) := by decide +kernel
theorem dX8_beast_42 : decode cX8_beast 42 = .ok (.getfield 91, 3) := by decide +kernel
theorem dX8_beast_45 : decode cX8_beast 45 = .ok (.bipush 20, 2) := by decide +kernel
theorem dX8_beast_47 : decode cX8_beast 47 = .ok (.if_icmp .ne 5, 3) := by decide +kernel
theorem dX8_beast_50 : decode cX8_beast 50 = .ok (.iconst (-1), 1) := by decide +kernel
theorem dX8_beast_51 : decode cX8_beast 51 = .ok (.ireturn, 1) := by decide +kernel
theorem dX8_beast_52 : decode cX8_beast 52 = .ok (.aload_n 0, 1) := by decide +kernel
theorem dX8_beast_53 : decode cX8_beast 53 = .ok (.getfield 17, 3) := by decide +kernel
theorem dX8_beast_56 : decode cX8_beast 56 = .ok (.aload_n 0, 1) := by decide +kernel
theorem dX8_beast_57 : decode cX8_beast 57 = .ok (.getfield 91, 3) := by decide +kernel
theorem dX8_beast_60 : decode cX8_beast 60 = .ok (.iload_n 1, 1) := by decide +kernel
theorem dX8_beast_61 : decode cX8_beast 61 = .ok (.iastore, 1) := by decide +kernel
theorem dX8_beast_62 : decode cX8_beast 62 = .ok (.aload_n 0, 1) := by decide +kernel
theorem dX8_beast_63 : decode cX8_beast 63 = .ok (.getfield 21, 3) := by decide +kernel
theorem dX8_beast_66 : decode cX8_beast 66 = .ok (.aload_n 0, 1) := by decide +kernel
theorem dX8_beast_67 : decode cX8_beast 67 = .ok (.getfield 91, 3) := by decide +kernel
theorem dX8_beast_70 : decode cX8_beast 70 = .ok (.iload_n 2, 1) := by decide +kernel
theorem dX8_beast_71 : decode cX8_beast 71 = .ok (.iastore, 1) := by decide +kernel
theorem dX8_beast_72 : decode cX8_beast 72 = .ok (.aload_n 0, 1) := by decide +kernel
theorem dX8_beast_73 : decode cX8_beast 73 = .ok (.getfield 24, 3) := by decide +kernel
theorem dX8_beast_76 : decode cX8_beast 76 = .ok (.aload_n 0, 1) := by decide +kernel
theorem dX8_beast_77 : decode cX8_beast 77 = .ok (.getfield 91, 3) := by decide +kernel
theorem dX8_beast_80 : decode cX8_beast 80 = .ok (.iload_n 3, 1) := by decide +kernel
theorem dX8_beast_81 : decode cX8_beast 81 = .ok (.iastore, 1) := by decide +kernel
theorem dX8_beast_82 : decode cX8_beast 82 = .ok (.aload_n 0, 1) := by decide +kernel
theorem dX8_beast_83 : decode cX8_beast 83 = .ok (.getfield 27, 3) := by decide +kernel
theorem dX8_beast_86 : decode cX8_beast 86 = .ok (.aload_n 0, 1) := by decide +kernel
theorem dX8_beast_87 : decode cX8_beast 87 = .ok (.getfield 91, 3) := by decide +kernel
theorem dX8_beast_90 : decode cX8_beast 90 = .ok (.iload 4, 2) := by decide +kernel
theorem dX8_beast_92 : decode cX8_beast 92 = .ok (.iastore, 1) := by decide +kernel
theorem dX8_beast_93 : decode cX8_beast 93 = .ok (.aload_n 0, 1) := by decide +kernel
theorem dX8_beast_94 : decode cX8_beast 94 = .ok (.dup, 1) := by decide +kernel
theorem dX8_beast_95 : decode cX8_beast 95 = .ok (.getfield 91, 3) := by decide +kernel
theorem dX8_beast_98 : decode cX8_beast 98 = .ok (.iconst 1, 1) := by decide +kernel
theorem dX8_beast_99 : decode cX8_beast 99 = .ok (.iadd, 1) := by decide +kernel
theorem dX8_beast_100 : decode cX8_beast 100 = .ok (.putfield 91, 3) := by decide +kernel
theorem dX8_beast_103 : decode cX8_beast 103 = .ok (.aload_n 0, 1) := by decide +kernel
theorem dX8_beast_104 : decode cX8_beast 104 = .ok (.getfield 91, 3) := by decide +kernel
theorem dX8_beast_107 : decode cX8_beast 107 = .ok (.iconst 1, 1) := by decide +kernel
theorem dX8_beast_108 : decode cX8_beast 108 = .ok (.isub, 1) := by decide +kernel
theorem dX8_beast_109 : decode cX8_beast 109 = .ok (.ireturn, 1) := by decide +kernel
theorem dX8_measure_0 : decode cX8_measure 0 = .ok (.aload_n 0, 1) := by decide +kernel
theorem dX8_measure_1 : decode cX8_measure 1 = .ok (.iload_n 1, 1) := by decide +kernel
theorem dX8_measure_2 : decode cX8_measure 2 = .ok (.invokevirtual 149, 3) := by decide +kernel
theorem dX8_measure_5 : decode cX8_measure 5 = .ok (.ifCond .eq 22, 3) := by decide +kernel
theorem dX8_measure_8 : decode cX8_measure 8 = .ok (.iload_n 2, 1) := by decide +kernel
theorem dX8_measure_9 : decode cX8_measure 9 = .ok (.iconst 0, 1) := by decide +kernel
theorem dX8_measure_10 : decode cX8_measure 10 = .ok (.iconst 2, 1) := by decide +kernel
theorem dX8_measure_11 : decode cX8_measure 11 = .ok (.invokestatic 87, 3) := by decide +kernel
theorem dX8_measure_14 : decode cX8_measure 14 = .ok (.ifCond .eq 13, 3) := by decide +kernel
theorem dX8_measure_17 : decode cX8_measure 17 = .ok (.iload_n 3, 1) := by decide +kernel
theorem dX8_measure_18 : decode cX8_measure 18 = .ok (.iconst 0, 1) := by decide +kernel
theorem dX8_measure_19 : decode cX8_measure 19 = .ok (.bipush 99, 2) := by decide +kernel
theorem dX8_measure_21 : decode cX8_measure 21 = .ok (.invokestatic 87, 3) := by decide +kernel
theorem dX8_measure_24 : decode cX8_measure 24 = .ok (.ifCond .ne 5, 3) := by decide +kernel
theorem dX8_measure_27 : decode cX8_measure 27 = .ok (.iconst 0, 1) := by decide +kernel
theorem dX8_measure_28 : decode cX8_measure 28 = .ok (.ireturn, 1) := by decide +kernel
theorem dX8_measure_29 : decode cX8_measure 29 = .ok (.aload_n 0, 1) := by decide +kernel
theorem dX8_measure_30 : decode cX8_measure 30 = .ok (.getfield 30, 3) := by decide +kernel
theorem dX8_measure_33 : decode cX8_measure 33 = .ok (.iconst 3, 1) := by decide +kernel
theorem dX8_measure_34 : decode cX8_measure 34 = .ok (.iload_n 1, 1) := by decide +kernel
theorem dX8_measure_35 : decode cX8_measure 35 = .ok (.imul, 1) := by decide +kernel
theorem dX8_measure_36 : decode cX8_measure 36 = .ok (.iload_n 2, 1) := by decide +kernel
theorem dX8_measure_37 : decode cX8_measure 37 = .ok (.iadd, 1) := by decide +kernel
theorem dX8_measure_38 : decode cX8_measure 38 = .ok (.iload_n 3, 1) := by decide +kernel
theorem dX8_measure_39 : decode cX8_measure 39 = .ok (.iastore, 1) := by decide +kernel
theorem dX8_measure_40 : decode cX8_measure 40 = .ok (.iconst 1, 1) := by decide +kernel
theorem dX8_measure_41 : decode cX8_measure 41 = .ok (.ireturn, 1) := by decide +kernel
theorem dX8_holds_0 : decode cX8_holds 0 = .ok (.iload_n 1, 1) := by decide +kernel
theorem dX8_holds_1 : decode cX8_holds 1 = .ok (.ifCond .ne 14, 3) := by decide +kernel
theorem dX8_holds_4 : decode cX8_holds 4 = .ok (.iload_n 2, 1) := by decide +kernel
theorem dX8_holds_5 : decode cX8_holds 5 = .ok (.aload_n 0, 1) := by decide +kernel
theorem dX8_holds_6 : decode cX8_holds 6 = .ok (.getfield 17, 3) := by decide +kernel
theorem dX8_holds_9 : decode cX8_holds 9 = .ok (.iload_n 3, 1) := by decide +kernel
theorem dX8_holds_10 : decode cX8_holds 10 = .ok (.iaload, 1) := by decide +kernel
theorem dX8_holds_11 : decode cX8_holds 11 = .ok (.invokestatic 152, 3) := by decide +kernel
theorem dX8_holds_14 : decode cX8_holds 14 = .ok (.ireturn, 1) := by decide +kernel
theorem dX8_holds_15 : decode cX8_holds 15 = .ok (.iload_n 1, 1) := by decide +kernel
theorem dX8_holds_16 : decode cX8_holds 16 = .ok (.iconst 1, 1) := by decide +kernel
theorem dX8_holds_17 : decode cX8_holds 17 = .ok (.if_icmp .ne 19, 3) := by decide +kernel
theorem dX8_holds_20 : decode cX8_holds 20 = .ok (.aload_n 0, 1) := by decide +kernel
theorem dX8_holds_21 : decode cX8_holds 21 = .ok (.getfield 21, 3) := by decide +kernel
theorem dX8_holds_24 : decode cX8_holds 24 = .ok (.iload_n 3, 1) := by decide +kernel
theorem dX8_holds_25 : decode cX8_holds 25 = .ok (.iaload, 1) := by decide +kernel
theorem dX8_holds_26 : decode cX8_holds 26 = .ok (.iload_n 2, 1) := by decide +kernel
theorem dX8_holds_27 : decode cX8_holds 27 = .ok (.if_icmp .lt 7, 3) := by decide +kernel
theorem dX8_holds_30 : decode cX8_holds 30 = .ok (.iconst 1, 1) := by decide +kernel
theorem dX8_holds_31 : decode cX8_holds 31 = .ok (.goto 4, 3) := by decide +kernel
theorem dX8_holds_34 : decode cX8_holds 34 = .ok (.iconst 0, 1) := by decide +kernel
theorem dX8_holds_35 : decode cX8_holds 35 = .ok (.ireturn, 1) := by decide +kernel
theorem dX8_holds_36 : decode cX8_holds 36 = .ok (.iload_n 1, 1) := by decide +kernel
theorem dX8_holds_37 : decode cX8_holds 37 = .ok (.iconst 2, 1) := by decide +kernel
theorem dX8_holds_38 : decode cX8_holds 38 = .ok (.if_icmp .ne 19, 3) := by decide +kernel
theorem dX8_holds_41 : decode cX8_holds 41 = .ok (.aload_n 0, 1) := by decide +kernel
theorem dX8_holds_42 : decode cX8_holds 42 = .ok (.getfield 21, 3) := by decide +kernel
theorem dX8_holds_45 : decode cX8_holds 45 = .ok (.iload_n 3, 1) := by decide +kernel
theorem dX8_holds_46 : decode cX8_holds 46 = .ok (.iaload, 1) := by decide +kernel
theorem dX8_holds_47 : decode cX8_holds 47 = .ok (.iload_n 2, 1) := by decide +kernel
theorem dX8_holds_48 : decode cX8_holds 48 = .ok (.if_icmp .gt 7, 3) := by decide +kernel
theorem dX8_holds_51 : decode cX8_holds 51 = .ok (.iconst 1, 1) := by decide +kernel
theorem dX8_holds_52 : decode cX8_holds 52 = .ok (.goto 4, 3) := by decide +kernel
theorem dX8_holds_55 : decode cX8_holds 55 = .ok (.iconst 0, 1) := by decide +kernel
theorem dX8_holds_56 : decode cX8_holds 56 = .ok (.ireturn, 1) := by decide +kernel
theorem dX8_holds_57 : decode cX8_holds 57 = .ok (.iload_n 1, 1) := by decide +kernel
theorem dX8_holds_58 : decode cX8_holds 58 = .ok (.bipush 6, 2) := by decide +kernel
theorem dX8_holds_60 : decode cX8_holds 60 = .ok (.if_icmp .ge 27, 3) := by decide +kernel
theorem dX8_holds_63 : decode cX8_holds 63 = .ok (.aload_n 0, 1) := by decide +kernel
theorem dX8_holds_64 : decode cX8_holds 64 = .ok (.getfield 30, 3) := by decide +kernel
theorem dX8_holds_67 : decode cX8_holds 67 = .ok (.iconst 3, 1) := by decide +kernel
theorem dX8_holds_68 : decode cX8_holds 68 = .ok (.iload_n 3, 1) := by decide +kernel
theorem dX8_holds_69 : decode cX8_holds 69 = .ok (.imul, 1) := by decide +kernel
theorem dX8_holds_70 : decode cX8_holds 70 = .ok (.iload_n 1, 1) := by decide +kernel
theorem dX8_holds_71 : decode cX8_holds 71 = .ok (.iadd, 1) := by decide +kernel
theorem dX8_holds_72 : decode cX8_holds 72 = .ok (.iconst 3, 1) := by decide +kernel
theorem dX8_holds_73 : decode cX8_holds 73 = .ok (.isub, 1) := by decide +kernel
theorem dX8_holds_74 : decode cX8_holds 74 = .ok (.iaload, 1) := by decide +kernel
theorem dX8_holds_75 : decode cX8_holds 75 = .ok (.iload_n 2, 1) := by decide +kernel
theorem dX8_holds_76 : decode cX8_holds 76 = .ok (.if_icmp .le 7, 3) := by decide +kernel
theorem dX8_holds_79 : decode cX8_holds 79 = .ok (.iconst 1, 1) := by decide +kernel
theorem dX8_holds_80 : decode cX8_holds 80 = .ok (.goto 29, 3) := by decide +kernel
theorem dX8_holds_83 : decode cX8_holds 83 = .ok (.iconst 0, 1) := by decide +kernel
theorem dX8_holds_84 : decode cX8_holds 84 = .ok (.goto 25, 3) := by decide +kernel
theorem dX8_holds_87 : decode cX8_holds 87 = .ok (.aload_n 0, 1) := by decide +kernel
theorem dX8_holds_88 : decode cX8_holds 88 = .ok (.getfield 30, 3) := by decide +kernel
theorem dX8_holds_91 : decode cX8_holds 91 = .ok (.iconst 3, 1) := by decide +kernel
theorem dX8_holds_92 : decode cX8_holds 92 = .ok (.iload_n 3, 1) := by decide +kernel
theorem dX8_holds_93 : decode cX8_holds 93 = .ok (.imul, 1) := by decide +kernel
theorem dX8_holds_94 : decode cX8_holds 94 = .ok (.iload_n 1, 1) := by decide +kernel
theorem dX8_holds_95 : decode cX8_holds 95 = .ok (.iadd, 1) := by decide +kernel
theorem dX8_holds_96 : decode cX8_holds 96 = .ok (.bipush 6, 2) := by decide +kernel
theorem dX8_holds_98 : decode cX8_holds 98 = .ok (.isub, 1) := by decide +kernel
theorem dX8_holds_99 : decode cX8_holds 99 = .ok (.iaload, 1) := by decide +kernel
theorem dX8_holds_100 : decode cX8_holds 100 = .ok (.iload_n 2, 1) := by decide +kernel
theorem dX8_holds_101 : decode cX8_holds 101 = .ok (.if_icmp .ge 7, 3) := by decide +kernel
theorem dX8_holds_104 : decode cX8_holds 104 = .ok (.iconst 1, 1) := by decide +kernel
theorem dX8_holds_105 : decode cX8_holds 105 = .ok (.goto 4, 3) := by decide +kernel
theorem dX8_holds_108 : decode cX8_holds 108 = .ok (.iconst 0, 1) := by decide +kernel
theorem dX8_holds_109 : decode cX8_holds 109 = .ok (.ireturn, 1) := by decide +kernel
theorem dX8_isLet_0 : decode cX8_isLet 0 = .ok (.iconst 0, 1) := by decide +kernel
theorem dX8_isLet_1 : decode cX8_isLet 1 = .ok (.istore_n 3, 1) := by decide +kernel
theorem dX8_isLet_2 : decode cX8_isLet 2 = .ok (.iload_n 3, 1) := by decide +kernel
theorem dX8_isLet_3 : decode cX8_isLet 3 = .ok (.aload_n 0, 1) := by decide +kernel
theorem dX8_isLet_4 : decode cX8_isLet 4 = .ok (.getfield 33, 3) := by decide +kernel
theorem dX8_isLet_7 : decode cX8_isLet 7 = .ok (.iload_n 1, 1) := by decide +kernel
theorem dX8_isLet_8 : decode cX8_isLet 8 = .ok (.iaload, 1) := by decide +kernel
theorem dX8_isLet_9 : decode cX8_isLet 9 = .ok (.if_icmp .ge 41, 3) := by decide +kernel
theorem dX8_isLet_12 : decode cX8_isLet 12 = .ok (.aload_n 0, 1) := by decide +kernel
theorem dX8_isLet_13 : decode cX8_isLet 13 = .ok (.aload_n 0, 1) := by decide +kernel
theorem dX8_isLet_14 : decode cX8_isLet 14 = .ok (.getfield 36, 3) := by decide +kernel
theorem dX8_isLet_17 : decode cX8_isLet 17 = .ok (.bipush 8, 2) := by decide +kernel
theorem dX8_isLet_19 : decode cX8_isLet 19 = .ok (.iload_n 1, 1) := by decide +kernel
theorem dX8_isLet_20 : decode cX8_isLet 20 = .ok (.imul, 1) := by decide +kernel
theorem dX8_isLet_21 : decode cX8_isLet 21 = .ok (.iload_n 3, 1) := by decide +kernel
theorem dX8_isLet_22 : decode cX8_isLet 22 = .ok (.iadd, 1) := by decide +kernel
theorem dX8_isLet_23 : decode cX8_isLet 23 = .ok (.iaload, 1) := by decide +kernel
theorem dX8_isLet_24 : decode cX8_isLet 24 = .ok (.aload_n 0, 1) := by decide +kernel
theorem dX8_isLet_25 : decode cX8_isLet 25 = .ok (.getfield 39, 3) := by decide +kernel
theorem dX8_isLet_28 : decode cX8_isLet 28 = .ok (.bipush 8, 2) := by decide +kernel
theorem dX8_isLet_30 : decode cX8_isLet 30 = .ok (.iload_n 1, 1) := by decide +kernel
theorem dX8_isLet_31 : decode cX8_isLet 31 = .ok (.imul, 1) := by decide +kernel
theorem dX8_isLet_32 : decode cX8_isLet 32 = .ok (.iload_n 3, 1) := by decide +kernel
theorem dX8_isLet_33 : decode cX8_isLet 33 = .ok (.iadd, 1) := by decide +kernel
theorem dX8_isLet_34 : decode cX8_isLet 34 = .ok (.iaload, 1) := by decide +kernel
theorem dX8_isLet_35 : decode cX8_isLet 35 = .ok (.iload_n 2, 1) := by decide +kernel
theorem dX8_isLet_36 : decode cX8_isLet 36 = .ok (.invokevirtual 156, 3) := by decide +kernel
theorem dX8_isLet_39 : decode cX8_isLet 39 = .ok (.ifCond .ne 5, 3) := by decide +kernel
theorem dX8_isLet_42 : decode cX8_isLet 42 = .ok (.iconst 0, 1) := by decide +kernel
theorem dX8_isLet_43 : decode cX8_isLet 43 = .ok (.ireturn, 1) := by decide +kernel
theorem dX8_isLet_44 : decode cX8_isLet 44 = .ok (.iinc 3 1, 3) := by decide +kernel
theorem dX8_isLet_47 : decode cX8_isLet 47 = .ok (.goto (-45), 3) := by decide +kernel
theorem dX8_isLet_50 : decode cX8_isLet 50 = .ok (.iconst 1, 1) := by decide +kernel
theorem dX8_isLet_51 : decode cX8_isLet 51 = .ok (.ireturn, 1) := by decide +kernel
theorem dX8_lets_0 : decode cX8_lets 0 = .ok (.iload_n 1, 1) := by decide +kernel
theorem dX8_lets_1 : decode cX8_lets 1 = .ok (.invokestatic 139, 3) := by decide +kernel
theorem dX8_lets_4 : decode cX8_lets 4 = .ok (.ifCond .eq 11, 3) := by decide +kernel
theorem dX8_lets_7 : decode cX8_lets 7 = .ok (.aload_n 0, 1) := by decide +kernel
theorem dX8_lets_8 : decode cX8_lets 8 = .ok (.iload_n 2, 1) := by decide +kernel
theorem dX8_lets_9 : decode cX8_lets 9 = .ok (.invokevirtual 149, 3) := by decide +kernel
theorem dX8_lets_12 : decode cX8_lets 12 = .ok (.ifCond .ne 7, 3) := by decide +kernel
theorem dX8_lets_15 : decode cX8_lets 15 = .ok (.iconst (-1), 1) := by decide +kernel
theorem dX8_lets_16 : decode cX8_lets 16 = .ok (.goto 17, 3) := by decide +kernel
theorem dX8_lets_19 : decode cX8_lets 19 = .ok (.aload_n 0, 1) := by decide +kernel
theorem dX8_lets_20 : decode cX8_lets 20 = .ok (.iload_n 1, 1) := by decide +kernel
theorem dX8_lets_21 : decode cX8_lets 21 = .ok (.iload_n 2, 1) := by decide +kernel
theorem dX8_lets_22 : decode cX8_lets 22 = .ok (.invokevirtual 159, 3) := by decide +kernel
theorem dX8_lets_25 : decode cX8_lets 25 = .ok (.ifCond .eq 7, 3) := by decide +kernel
theorem dX8_lets_28 : decode cX8_lets 28 = .ok (.iconst 1, 1) := by decide +kernel
theorem dX8_lets_29 : decode cX8_lets 29 = .ok (.goto 4, 3) := by decide +kernel
theorem dX8_lets_32 : decode cX8_lets 32 = .ok (.iconst 0, 1) := by decide +kernel
theorem dX8_lets_33 : decode cX8_lets 33 = .ok (.ireturn, 1) := by decide +kernel
theorem dX8_enter_0 : decode cX8_enter 0 = .ok (.iload_n 1, 1) := by decide +kernel
theorem dX8_enter_1 : decode cX8_enter 1 = .ok (.invokestatic 139, 3) := by decide +kernel
theorem dX8_enter_4 : decode cX8_enter 4 = .ok (.ifCond .eq 54, 3) := by decide +kernel
theorem dX8_enter_7 : decode cX8_enter 7 = .ok (.aload_n 0, 1) := by decide +kernel
theorem dX8_enter_8 : decode cX8_enter 8 = .ok (.iload_n 2, 1) := by decide +kernel
theorem dX8_enter_9 : decode cX8_enter 9 = .ok (.invokevirtual 149, 3) := by decide +kernel
theorem dX8_enter_12 : decode cX8_enter 12 = .ok (.ifCond .eq 46, 3) := by decide +kernel
theorem dX8_enter_15 : decode cX8_enter 15 = .ok (.aload_n 0, 1) := by decide +kernel
theorem dX8_enter_16 : decode cX8_enter 16 = .ok (.getfield 48, 3) := by decide +kernel
theorem dX8_enter_19 : decode cX8_enter 19 = .ok (.iload_n 1, 1) := by decide +kernel
theorem dX8_enter_20 : decode cX8_enter 20 = .ok (.iaload, 1) := by decide +kernel
theorem dX8_enter_21 : decode cX8_enter 21 = .ok (.aload_n 0, 1) := by decide +kernel
theorem dX8_enter_22 : decode cX8_enter 22 = .ok (.getfield 51, 3) := by decide +kernel
theorem dX8_enter_25 : decode cX8_enter 25 = .ok (.iload_n 1, 1) := by decide +kernel
theorem dX8_enter_26 : decode cX8_enter 26 = .ok (.iaload, 1) := by decide +kernel
theorem dX8_enter_27 : decode cX8_enter 27 = .ok (.ior, 1) := by decide +kernel
theorem dX8_enter_28 : decode cX8_enter 28 = .ok (.iload_n 2, 1) := by decide +kernel
theorem dX8_enter_29 : decode cX8_enter 29 = .ok (.invokestatic 152, 3) := by decide +kernel
theorem dX8_enter_32 : decode cX8_enter 32 = .ok (.ifCond .ne 26, 3) := by decide +kernel
theorem dX8_enter_35 : decode cX8_enter 35 = .ok (.aload_n 0, 1) := by decide +kernel
theorem dX8_enter_36 : decode cX8_enter 36 = .ok (.iload_n 1, 1) := by decide +kernel
theorem dX8_enter_37 : decode cX8_enter 37 = .ok (.iload_n 2, 1) := by decide +kernel
theorem dX8_enter_38 : decode cX8_enter 38 = .ok (.invokevirtual 159, 3) := by decide +kernel
theorem dX8_enter_41 : decode cX8_enter 41 = .ok (.ifCond .eq 17, 3) := by decide +kernel
theorem dX8_enter_44 : decode cX8_enter 44 = .ok (.aload_n 0, 1) := by decide +kernel
theorem dX8_enter_45 : decode cX8_enter 45 = .ok (.getfield 48, 3) := by decide +kernel
theorem dX8_enter_48 : decode cX8_enter 48 = .ok (.iload_n 1, 1) := by decide +kernel
theorem dX8_enter_49 : decode cX8_enter 49 = .ok (.iaload, 1) := by decide +kernel
theorem dX8_enter_50 : decode cX8_enter 50 = .ok (.invokestatic 162, 3) := by decide +kernel
theorem dX8_enter_53 : decode cX8_enter 53 = .ok (.bipush 8, 2) := by decide +kernel
theorem dX8_enter_55 : decode cX8_enter 55 = .ok (.if_icmp .ne 5, 3) := by decide +kernel
theorem dX8_enter_58 : decode cX8_enter 58 = .ok (.iconst 0, 1) := by decide +kernel
theorem dX8_enter_59 : decode cX8_enter 59 = .ok (.ireturn, 1) := by decide +kernel
theorem dX8_enter_60 : decode cX8_enter 60 = .ok (.aload_n 0, 1) := by decide +kernel
theorem dX8_enter_61 : decode cX8_enter 61 = .ok (.getfield 48, 3) := by decide +kernel
theorem dX8_enter_64 : decode cX8_enter 64 = .ok (.iload_n 1, 1) := by decide +kernel
theorem dX8_enter_65 : decode cX8_enter 65 = .ok (.dup2, 1) := by decide +kernel
theorem dX8_enter_66 : decode cX8_enter 66 = .ok (.iaload, 1) := by decide +kernel
theorem dX8_enter_67 : decode cX8_enter 67 = .ok (.iconst 1, 1) := by decide +kernel
theorem dX8_enter_68 : decode cX8_enter 68 = .ok (.iload_n 2, 1) := by decide +kernel
theorem dX8_enter_69 : decode cX8_enter 69 = .ok (.ishl, 1) := by decide +kernel
theorem dX8_enter_70 : decode cX8_enter 70 = .ok (.ior, 1) := by decide +kernel
theorem dX8_enter_71 : decode cX8_enter 71 = .ok (.iastore, 1) := by decide +kernel
theorem dX8_enter_72 : decode cX8_enter 72 = .ok (.iconst 0, 1) := by decide +kernel
theorem dX8_enter_73 : decode cX8_enter 73 = .ok (.istore_n 3, 1) := by decide +kernel
theorem dX8_enter_74 : decode cX8_enter 74 = .ok (.iload_n 3, 1) := by decide +kernel
theorem dX8_enter_75 : decode cX8_enter 75 = .ok (.bipush 6, 2) := by decide +kernel
theorem dX8_enter_77 : decode cX8_enter 77 = .ok (.if_icmp .ge 21, 3) := by decide +kernel
theorem dX8_enter_80 : decode cX8_enter 80 = .ok (.aload_n 0, 1) := by decide +kernel
theorem dX8_enter_81 : decode cX8_enter 81 = .ok (.getfield 57, 3) := by decide +kernel
theorem dX8_enter_84 : decode cX8_enter 84 = .ok (.bipush 6, 2) := by decide +kernel
theorem dX8_enter_86 : decode cX8_enter 86 = .ok (.iload_n 3, 1) := by decide +kernel
theorem dX8_enter_87 : decode cX8_enter 87 = .ok (.imul, 1) := by decide +kernel
theorem dX8_enter_88 : decode cX8_enter 88 = .ok (.iload_n 1, 1) := by decide +kernel
theorem dX8_enter_89 : decode cX8_enter 89 = .ok (.iadd, 1) := by decide +kernel
theorem dX8_enter_90 : decode cX8_enter 90 = .ok (.iconst 0, 1) := by decide +kernel
theorem dX8_enter_91 : decode cX8_enter 91 = .ok (.iastore, 1) := by decide +kernel
theorem dX8_enter_92 : decode cX8_enter 92 = .ok (.iinc 3 1, 3) := by decide +kernel
theorem dX8_enter_95 : decode cX8_enter 95 = .ok (.goto (-21), 3) := by decide +kernel
theorem dX8_enter_98 : decode cX8_enter 98 = .ok (.iconst 1, 1) := by decide +kernel
theorem dX8_enter_99 : decode cX8_enter 99 = .ok (.ireturn, 1) := by decide +kernel
theorem dX8_protest_0 : decode cX8_protest 0 = .ok (.iload_n 1, 1) := by decide +kernel
theorem dX8_protest_1 : decode cX8_protest 1 = .ok (.invokestatic 139, 3) := by decide +kernel
theorem dX8_protest_4 : decode cX8_protest 4 = .ok (.ifCond .eq 24, 3) := by decide +kernel
theorem dX8_protest_7 : decode cX8_protest 7 = .ok (.aload_n 0, 1) := by decide +kernel
theorem dX8_protest_8 : decode cX8_protest 8 = .ok (.iload_n 2, 1) := by decide +kernel
theorem dX8_protest_9 : decode cX8_protest 9 = .ok (.invokevirtual 149, 3) := by decide +kernel
theorem dX8_protest_12 : decode cX8_protest 12 = .ok (.ifCond .eq 16, 3) := by decide +kernel
theorem dX8_protest_15 : decode cX8_protest 15 = .ok (.aload_n 0, 1) := by decide +kernel
theorem dX8_protest_16 : decode cX8_protest 16 = .ok (.getfield 48, 3) := by decide +kernel
theorem dX8_protest_19 : decode cX8_protest 19 = .ok (.iload_n 1, 1) := by decide +kernel
theorem dX8_protest_20 : decode cX8_protest 20 = .ok (.iaload, 1) := by decide +kernel
theorem dX8_protest_21 : decode cX8_protest 21 = .ok (.iload_n 2, 1) := by decide +kernel
theorem dX8_protest_22 : decode cX8_protest 22 = .ok (.invokestatic 152, 3) := by decide +kernel
theorem dX8_protest_25 : decode cX8_protest 25 = .ok (.ifCond .ne 5, 3) := by decide +kernel
theorem dX8_protest_28 : decode cX8_protest 28 = .ok (.iconst 0, 1) := by decide +kernel
theorem dX8_protest_29 : decode cX8_protest 29 = .ok (.ireturn, 1) := by decide +kernel
theorem dX8_protest_30 : decode cX8_protest 30 = .ok (.aload_n 0, 1) := by decide +kernel
theorem dX8_protest_31 : decode cX8_protest 31 = .ok (.getfield 48, 3) := by decide +kernel
theorem dX8_protest_34 : decode cX8_protest 34 = .ok (.iload_n 1, 1) := by decide +kernel
theorem dX8_protest_35 : decode cX8_protest 35 = .ok (.dup2, 1) := by decide +kernel
theorem dX8_protest_36 : decode cX8_protest 36 = .ok (.iaload, 1) := by decide +kernel
theorem dX8_protest_37 : decode cX8_protest 37 = .ok (.iconst 1, 1) := by decide +kernel
theorem dX8_protest_38 : decode cX8_protest 38 = .ok (.iload_n 2, 1) := by decide +kernel
theorem dX8_protest_39 : decode cX8_protest 39 = .ok (.ishl, 1) := by decide +kernel
theorem dX8_protest_40 : decode cX8_protest 40 = .ok (.iconst (-1), 1) := by decide +kernel
theorem dX8_protest_41 : decode cX8_protest 41 = .ok (.ixor, 1) := by decide +kernel
theorem dX8_protest_42 : decode cX8_protest 42 = .ok (.iand, 1) := by decide +kernel
theorem dX8_protest_43 : decode cX8_protest 43 = .ok (.iastore, 1) := by decide +kernel
theorem dX8_protest_44 : decode cX8_protest 44 = .ok (.aload_n 0, 1) := by decide +kernel
theorem dX8_protest_45 : decode cX8_protest 45 = .ok (.getfield 51, 3) := by decide +kernel
theorem dX8_protest_48 : decode cX8_protest 48 = .ok (.iload_n 1, 1) := by decide +kernel
theorem dX8_protest_49 : decode cX8_protest 49 = .ok (.dup2, 1) := by decide +kernel
theorem dX8_protest_50 : decode cX8_protest 50 = .ok (.iaload, 1) := by decide +kernel
theorem dX8_protest_51 : decode cX8_protest 51 = .ok (.iconst 1, 1) := by decide +kernel
theorem dX8_protest_52 : decode cX8_protest 52 = .ok (.iload_n 2, 1) := by decide +kernel
theorem dX8_protest_53 : decode cX8_protest 53 = .ok (.ishl, 1) := by decide +kernel
theorem dX8_protest_54 : decode cX8_protest 54 = .ok (.ior, 1) := by decide +kernel
theorem dX8_protest_55 : decode cX8_protest 55 = .ok (.iastore, 1) := by decide +kernel
theorem dX8_protest_56 : decode cX8_protest 56 = .ok (.iconst 1, 1) := by decide +kernel
theorem dX8_protest_57 : decode cX8_protest 57 = .ok (.ireturn, 1) := by decide +kernel
theorem dX8_bar_0 : decode cX8_bar 0 = .ok (.iload_n 1, 1) := by decide +kernel
theorem dX8_bar_1 : decode cX8_bar 1 = .ok (.iconst 0, 1) := by decide +kernel
theorem dX8_bar_2 : decode cX8_bar 2 = .ok (.iconst 5, 1) := by decide +kernel
theorem dX8_bar_3 : decode cX8_bar 3 = .ok (.invokestatic 87, 3) := by decide +kernel
theorem dX8_bar_6 : decode cX8_bar 6 = .ok (.ifCond .eq 24, 3) := by decide +kernel
theorem dX8_bar_9 : decode cX8_bar 9 = .ok (.aload_n 0, 1) := by decide +kernel
theorem dX8_bar_10 : decode cX8_bar 10 = .ok (.iload_n 2, 1) := by decide +kernel
theorem dX8_bar_11 : decode cX8_bar 11 = .ok (.invokevirtual 149, 3) := by decide +kernel
theorem dX8_bar_14 : decode cX8_bar 14 = .ok (.ifCond .eq 16, 3) := by decide +kernel
theorem dX8_bar_17 : decode cX8_bar 17 = .ok (.aload_n 0, 1) := by decide +kernel
theorem dX8_bar_18 : decode cX8_bar 18 = .ok (.getfield 54, 3) := by decide +kernel
theorem dX8_bar_21 : decode cX8_bar 21 = .ok (.iload_n 1, 1) := by decide +kernel
theorem dX8_bar_22 : decode cX8_bar 22 = .ok (.iaload, 1) := by decide +kernel
theorem dX8_bar_23 : decode cX8_bar 23 = .ok (.iload_n 2, 1) := by decide +kernel
theorem dX8_bar_24 : decode cX8_bar 24 = .ok (.invokestatic 152, 3) := by decide +kernel
theorem dX8_bar_27 : decode cX8_bar 27 = .ok (.ifCond .eq 5, 3) := by decide +kernel
theorem dX8_bar_30 : decode cX8_bar 30 = .ok (.iconst 0, 1) := by decide +kernel
theorem dX8_bar_31 : decode cX8_bar 31 = .ok (.ireturn, 1) := by decide +kernel
theorem dX8_bar_32 : decode cX8_bar 32 = .ok (.aload_n 0, 1) := by decide +kernel
theorem dX8_bar_33 : decode cX8_bar 33 = .ok (.getfield 54, 3) := by decide +kernel
theorem dX8_bar_36 : decode cX8_bar 36 = .ok (.iload_n 1, 1) := by decide +kernel
theorem dX8_bar_37 : decode cX8_bar 37 = .ok (.dup2, 1) := by decide +kernel
theorem dX8_bar_38 : decode cX8_bar 38 = .ok (.iaload, 1) := by decide +kernel
theorem dX8_bar_39 : decode cX8_bar 39 = .ok (.iconst 1, 1) := by decide +kernel
theorem dX8_bar_40 : decode cX8_bar 40 = .ok (.iload_n 2, 1) := by decide +kernel
theorem dX8_bar_41 : decode cX8_bar 41 = .ok (.ishl, 1) := by decide +kernel
theorem dX8_bar_42 : decode cX8_bar 42 = .ok (.ior, 1) := by decide +kernel
theorem dX8_bar_43 : decode cX8_bar 43 = .ok (.iastore, 1) := by decide +kernel
theorem dX8_bar_44 : decode cX8_bar 44 = .ok (.iconst 1, 1) := by decide +kernel
theorem dX8_bar_45 : decode cX8_bar 45 = .ok (.ireturn, 1) := by decide +kernel
theorem dX8_isRowOf_0 : decode cX8_isRowOf 0 = .ok (.iconst 0, 1) := by decide +kernel
theorem dX8_isRowOf_1 : decode cX8_isRowOf 1 = .ok (.istore_n 2, 1) := by decide +kernel
theorem dX8_isRowOf_2 : decode cX8_isRowOf 2 = .ok (.iconst 0, 1) := by decide +kernel
theorem dX8_isRowOf_3 : decode cX8_isRowOf 3 = .ok (.istore_n 3, 1) := by decide +kernel
theorem dX8_isRowOf_4 : decode cX8_isRowOf 4 = .ok (.iload_n 3, 1) := by decide +kernel
theorem dX8_isRowOf_5 : decode cX8_isRowOf 5 = .ok (.iload_n 1, 1) := by decide +kernel
theorem dX8_isRowOf_6 : decode cX8_isRowOf 6 = .ok (.invokestatic 162, 3) := by decide +kernel
theorem dX8_isRowOf_9 : decode cX8_isRowOf 9 = .ok (.if_icmp .ge 55, 3) := by decide +kernel
theorem dX8_isRowOf_12 : decode cX8_isRowOf 12 = .ok (.aload_n 0, 1) := by decide +kernel
theorem dX8_isRowOf_13 : decode cX8_isRowOf 13 = .ok (.getfield 7, 3) := by decide +kernel
theorem dX8_isRowOf_16 : decode cX8_isRowOf 16 = .ok (.iload_n 3, 1) := by decide +kernel
theorem dX8_isRowOf_17 : decode cX8_isRowOf 17 = .ok (.baload, 1) := by decide +kernel
theorem dX8_isRowOf_18 : decode cX8_isRowOf 18 = .ok (.sipush 255, 3) := by decide +kernel
theorem dX8_isRowOf_21 : decode cX8_isRowOf 21 = .ok (.iand, 1) := by decide +kernel
theorem dX8_isRowOf_22 : decode cX8_isRowOf 22 = .ok (.istore 4, 2) := by decide +kernel
theorem dX8_isRowOf_24 : decode cX8_isRowOf 24 = .ok (.iload 4, 2) := by decide +kernel
theorem dX8_isRowOf_26 : decode cX8_isRowOf 26 = .ok (.bipush 20, 2) := by decide +kernel
theorem dX8_isRowOf_28 : decode cX8_isRowOf 28 = .ok (.if_icmp .ge 21, 3) := by decide +kernel
theorem dX8_isRowOf_31 : decode cX8_isRowOf 31 = .ok (.iload_n 1, 1) := by decide +kernel
theorem dX8_isRowOf_32 : decode cX8_isRowOf 32 = .ok (.iload 4, 2) := by decide +kernel
theorem dX8_isRowOf_34 : decode cX8_isRowOf 34 = .ok (.invokestatic 152, 3) := by decide +kernel
theorem dX8_isRowOf_37 : decode cX8_isRowOf 37 = .ok (.ifCond .eq 12, 3) := by decide +kernel
theorem dX8_isRowOf_40 : decode cX8_isRowOf 40 = .ok (.iload_n 2, 1) := by decide +kernel
theorem dX8_isRowOf_41 : decode cX8_isRowOf 41 = .ok (.iload 4, 2) := by decide +kernel
theorem dX8_isRowOf_43 : decode cX8_isRowOf 43 = .ok (.invokestatic 152, 3) := by decide +kernel
theorem dX8_isRowOf_46 : decode cX8_isRowOf 46 = .ok (.ifCond .eq 5, 3) := by decide +kernel
theorem dX8_isRowOf_49 : decode cX8_isRowOf 49 = .ok (.iconst 0, 1) := by decide +kernel
theorem dX8_isRowOf_50 : decode cX8_isRowOf 50 = .ok (.ireturn, 1) := by decide +kernel
theorem dX8_isRowOf_51 : decode cX8_isRowOf 51 = .ok (.iload_n 2, 1) := by decide +kernel
theorem dX8_isRowOf_52 : decode cX8_isRowOf 52 = .ok (.iconst 1, 1) := by decide +kernel
theorem dX8_isRowOf_53 : decode cX8_isRowOf 53 = .ok (.iload 4, 2) := by decide +kernel
theorem dX8_isRowOf_55 : decode cX8_isRowOf 55 = .ok (.ishl, 1) := by decide +kernel
theorem dX8_isRowOf_56 : decode cX8_isRowOf 56 = .ok (.ior, 1) := by decide +kernel
theorem dX8_isRowOf_57 : decode cX8_isRowOf 57 = .ok (.istore_n 2, 1) := by decide +kernel
theorem dX8_isRowOf_58 : decode cX8_isRowOf 58 = .ok (.iinc 3 1, 3) := by decide +kernel
theorem dX8_isRowOf_61 : decode cX8_isRowOf 61 = .ok (.goto (-57), 3) := by decide +kernel
theorem dX8_isRowOf_64 : decode cX8_isRowOf 64 = .ok (.iconst 1, 1) := by decide +kernel
theorem dX8_isRowOf_65 : decode cX8_isRowOf 65 = .ok (.ireturn, 1) := by decide +kernel
theorem dX8_order_0 : decode cX8_order 0 = .ok (.iload_n 1, 1) := by decide +kernel
theorem dX8_order_1 : decode cX8_order 1 = .ok (.iconst 0, 1) := by decide +kernel
theorem dX8_order_2 : decode cX8_order 2 = .ok (.iconst 5, 1) := by decide +kernel
theorem dX8_order_3 : decode cX8_order 3 = .ok (.invokestatic 87, 3) := by decide +kernel
theorem dX8_order_6 : decode cX8_order 6 = .ok (.ifCond .eq 10, 3) := by decide +kernel
theorem dX8_order_9 : decode cX8_order 9 = .ok (.iload_n 2, 1) := by decide +kernel
theorem dX8_order_10 : decode cX8_order 10 = .ok (.invokestatic 139, 3) := by decide +kernel
theorem dX8_order_13 : decode cX8_order 13 = .ok (.ifCond .ne 5, 3) := by decide +kernel
theorem dX8_order_16 : decode cX8_order 16 = .ok (.iconst 0, 1) := by decide +kernel
theorem dX8_order_17 : decode cX8_order 17 = .ok (.ireturn, 1) := by decide +kernel
theorem dX8_order_18 : decode cX8_order 18 = .ok (.aload_n 0, 1) := by decide +kernel
theorem dX8_order_19 : decode cX8_order 19 = .ok (.getfield 48, 3) := by decide +kernel
theorem dX8_order_22 : decode cX8_order 22 = .ok (.iload_n 2, 1) := by decide +kernel
theorem dX8_order_23 : decode cX8_order 23 = .ok (.iaload, 1) := by decide +kernel
theorem dX8_order_24 : decode cX8_order 24 = .ok (.invokestatic 162, 3) := by decide +kernel
theorem dX8_order_27 : decode cX8_order 27 = .ok (.istore_n 3, 1) := by decide +kernel
theorem dX8_order_28 : decode cX8_order 28 = .ok (.iload_n 3, 1) := by decide +kernel
theorem dX8_order_29 : decode cX8_order 29 = .ok (.ifCond .eq 11, 3) := by decide +kernel
theorem dX8_order_32 : decode cX8_order 32 = .ok (.aload_n 0, 1) := by decide +kernel
theorem dX8_order_33 : decode cX8_order 33 = .ok (.getfield 94, 3) := by decide +kernel
theorem dX8_order_36 : decode cX8_order 36 = .ok (.iload_n 3, 1) := by decide +kernel
theorem dX8_order_37 : decode cX8_order 37 = .ok (.if_icmp .ge 5, 3) := by decide +kernel
theorem dX8_order_40 : decode cX8_order 40 = .ok (.iconst 0, 1) := by decide +kernel
theorem dX8_order_41 : decode cX8_order 41 = .ok (.ireturn, 1) := by decide +kernel
theorem dX8_order_42 : decode cX8_order 42 = .ok (.aload_n 0, 1) := by decide +kernel
theorem dX8_order_43 : decode cX8_order 43 = .ok (.iconst 0, 1) := by decide +kernel
theorem dX8_order_44 : decode cX8_order 44 = .ok (.putfield 94, 3) := by decide +kernel
theorem dX8_order_47 : decode cX8_order 47 = .ok (.aload_n 0, 1) := by decide +kernel
theorem dX8_order_48 : decode cX8_order 48 = .ok (.getfield 54, 3) := by decide +kernel
theorem dX8_order_51 : decode cX8_order 51 = .ok (.iload_n 1, 1) := by decide +kernel
theorem dX8_order_52 : decode cX8_order 52 = .ok (.iaload, 1) := by decide +kernel
theorem dX8_order_53 : decode cX8_order 53 = .ok (.aload_n 0, 1) := by decide +kernel
theorem dX8_order_54 : decode cX8_order 54 = .ok (.getfield 48, 3) := by decide +kernel
theorem dX8_order_57 : decode cX8_order 57 = .ok (.iload_n 2, 1) := by decide +kernel
theorem dX8_order_58 : decode cX8_order 58 = .ok (.iaload, 1) := by decide +kernel
theorem dX8_order_59 : decode cX8_order 59 = .ok (.iand, 1) := by decide +kernel
theorem dX8_order_60 : decode cX8_order 60 = .ok (.ifCond .ne 16, 3) := by decide +kernel
theorem dX8_order_63 : decode cX8_order 63 = .ok (.aload_n 0, 1) := by decide +kernel
theorem dX8_order_64 : decode cX8_order 64 = .ok (.aload_n 0, 1) := by decide +kernel
theorem dX8_order_65 : decode cX8_order 65 = .ok (.getfield 48, 3) := by decide +kernel
theorem dX8_order_68 : decode cX8_order 68 = .ok (.iload_n 2, 1) := by decide +kernel
theorem dX8_order_69 : decode cX8_order 69 = .ok (.iaload, 1) := by decide +kernel
theorem dX8_order_70 : decode cX8_order 70 = .ok (.invokevirtual 166, 3) := by decide +kernel
theorem dX8_order_73 : decode cX8_order 73 = .ok (.ifCond .ne 5, 3) := by decide +kernel
theorem dX8_order_76 : decode cX8_order 76 = .ok (.iconst 0, 1) := by decide +kernel
theorem dX8_order_77 : decode cX8_order 77 = .ok (.ireturn, 1) := by decide +kernel
theorem dX8_order_78 : decode cX8_order 78 = .ok (.aload_n 0, 1) := by decide +kernel
theorem dX8_order_79 : decode cX8_order 79 = .ok (.getfield 57, 3) := by decide +kernel
theorem dX8_order_82 : decode cX8_order 82 = .ok (.bipush 6, 2) := by decide +kernel
theorem dX8_order_84 : decode cX8_order 84 = .ok (.iload_n 1, 1) := by decide +kernel
theorem dX8_order_85 : decode cX8_order 85 = .ok (.imul, 1) := by decide +kernel
theorem dX8_order_86 : decode cX8_order 86 = .ok (.iload_n 2, 1) := by decide +kernel
theorem dX8_order_87 : decode cX8_order 87 = .ok (.iadd, 1) := by decide +kernel
theorem dX8_order_88 : decode cX8_order 88 = .ok (.iload_n 3, 1) := by decide +kernel
theorem dX8_order_89 : decode cX8_order 89 = .ok (.iastore, 1) := by decide +kernel
theorem dX8_order_90 : decode cX8_order 90 = .ok (.iconst 0, 1) := by decide +kernel
theorem dX8_order_91 : decode cX8_order 91 = .ok (.istore 4, 2) := by decide +kernel
theorem dX8_order_93 : decode cX8_order 93 = .ok (.iload 4, 2) := by decide +kernel
theorem dX8_order_95 : decode cX8_order 95 = .ok (.iload_n 3, 1) := by decide +kernel
theorem dX8_order_96 : decode cX8_order 96 = .ok (.if_icmp .ge 33, 3) := by decide +kernel
theorem dX8_order_99 : decode cX8_order 99 = .ok (.aload_n 0, 1) := by decide +kernel
theorem dX8_order_100 : decode cX8_order 100 = .ok (.getfield 60, 3) := by decide +kernel
theorem dX8_order_103 : decode cX8_order 103 = .ok (.bipush 8, 2) := by decide +kernel
theorem dX8_order_105 : decode cX8_order 105 = .ok (.bipush 6, 2) := by decide +kernel
theorem dX8_order_107 : decode cX8_order 107 = .ok (.iload_n 1, 1) := by decide +kernel
theorem dX8_order_108 : decode cX8_order 108 = .ok (.imul, 1) := by decide +kernel
theorem dX8_order_109 : decode cX8_order 109 = .ok (.iload_n 2, 1) := by decide +kernel
theorem dX8_order_110 : decode cX8_order 110 = .ok (.iadd, 1) := by decide +kernel
theorem dX8_order_111 : decode cX8_order 111 = .ok (.imul, 1) := by decide +kernel
theorem dX8_order_112 : decode cX8_order 112 = .ok (.iload 4, 2) := by decide +kernel
theorem dX8_order_114 : decode cX8_order 114 = .ok (.iadd, 1) := by decide +kernel
theorem dX8_order_115 : decode cX8_order 115 = .ok (.aload_n 0, 1) := by decide +kernel
theorem dX8_order_116 : decode cX8_order 116 = .ok (.getfield 7, 3) := by decide +kernel
theorem dX8_order_119 : decode cX8_order 119 = .ok (.iload 4, 2) := by decide +kernel
theorem dX8_order_121 : decode cX8_order 121 = .ok (.baload, 1) := by decide +kernel
theorem dX8_order_122 : decode cX8_order 122 = .ok (.iastore, 1) := by decide +kernel
theorem dX8_order_123 : decode cX8_order 123 = .ok (.iinc 4 1, 3) := by decide +kernel
theorem dX8_order_126 : decode cX8_order 126 = .ok (.goto (-33), 3) := by decide +kernel
theorem dX8_order_129 : decode cX8_order 129 = .ok (.iconst 1, 1) := by decide +kernel
theorem dX8_order_130 : decode cX8_order 130 = .ok (.ireturn, 1) := by decide +kernel
theorem dX8_counts_0 : decode cX8_counts 0 = .ok (.aload_n 0, 1) := by decide +kernel
theorem dX8_counts_1 : decode cX8_counts 1 = .ok (.getfield 57, 3) := by decide +kernel
theorem dX8_counts_4 : decode cX8_counts 4 = .ok (.bipush 6, 2) := by decide +kernel
theorem dX8_counts_6 : decode cX8_counts 6 = .ok (.iload_n 1, 1) := by decide +kernel
theorem dX8_counts_7 : decode cX8_counts 7 = .ok (.imul, 1) := by decide +kernel
theorem dX8_counts_8 : decode cX8_counts 8 = .ok (.iload_n 2, 1) := by decide +kernel
theorem dX8_counts_9 : decode cX8_counts 9 = .ok (.iadd, 1) := by decide +kernel
theorem dX8_counts_10 : decode cX8_counts 10 = .ok (.iaload, 1) := by decide +kernel
theorem dX8_counts_11 : decode cX8_counts 11 = .ok (.ifCond .le 7, 3) := by decide +kernel
theorem dX8_counts_14 : decode cX8_counts 14 = .ok (.iconst 1, 1) := by decide +kernel
theorem dX8_counts_15 : decode cX8_counts 15 = .ok (.goto 4, 3) := by decide +kernel
theorem dX8_counts_18 : decode cX8_counts 18 = .ok (.iconst 0, 1) := by decide +kernel
theorem dX8_counts_19 : decode cX8_counts 19 = .ok (.ireturn, 1) := by decide +kernel
theorem dX8_placeIn_0 : decode cX8_placeIn 0 = .ok (.iconst 0, 1) := by decide +kernel
theorem dX8_placeIn_1 : decode cX8_placeIn 1 = .ok (.istore 4, 2) := by decide +kernel
theorem dX8_placeIn_3 : decode cX8_placeIn 3 = .ok (.aload_n 0, 1) := by decide +kernel
theorem dX8_placeIn_4 : decode cX8_placeIn 4 = .ok (.getfield 60, 3) := by decide +kernel
theorem dX8_placeIn_7 : decode cX8_placeIn 7 = .ok (.bipush 8, 2) := by decide +kernel
theorem dX8_placeIn_9 : decode cX8_placeIn 9 = .ok (.bipush 6, 2) := by decide +kernel
theorem dX8_placeIn_11 : decode cX8_placeIn 11 = .ok (.iload_n 1, 1) := by decide +kernel
theorem dX8_placeIn_12 : decode cX8_placeIn 12 = .ok (.imul, 1) := by decide +kernel
theorem dX8_placeIn_13 : decode cX8_placeIn 13 = .ok (.iload_n 2, 1) := by decide +kernel
theorem dX8_placeIn_14 : decode cX8_placeIn 14 = .ok (.iadd, 1) := by decide +kernel
theorem dX8_placeIn_15 : decode cX8_placeIn 15 = .ok (.imul, 1) := by decide +kernel
theorem dX8_placeIn_16 : decode cX8_placeIn 16 = .ok (.iload 4, 2) := by decide +kernel
theorem dX8_placeIn_18 : decode cX8_placeIn 18 = .ok (.iadd, 1) := by decide +kernel
theorem dX8_placeIn_19 : decode cX8_placeIn 19 = .ok (.iaload, 1) := by decide +kernel
theorem dX8_placeIn_20 : decode cX8_placeIn 20 = .ok (.iload_n 3, 1) := by decide +kernel
theorem dX8_placeIn_21 : decode cX8_placeIn 21 = .ok (.if_icmp .eq 9, 3) := by decide +kernel
theorem dX8_placeIn_24 : decode cX8_placeIn 24 = .ok (.iinc 4 1, 3) := by decide +kernel
theorem dX8_placeIn_27 : decode cX8_placeIn 27 = .ok (.goto (-24), 3) := by decide +kernel
theorem dX8_placeIn_30 : decode cX8_placeIn 30 = .ok (.iload 4, 2) := by decide +kernel
theorem dX8_placeIn_32 : decode cX8_placeIn 32 = .ok (.ireturn, 1) := by decide +kernel
theorem dX8_ahead_0 : decode cX8_ahead 0 = .ok (.iconst 0, 1) := by decide +kernel
theorem dX8_ahead_1 : decode cX8_ahead 1 = .ok (.istore 4, 2) := by decide +kernel
theorem dX8_ahead_3 : decode cX8_ahead 3 = .ok (.iconst 0, 1) := by decide +kernel
theorem dX8_ahead_4 : decode cX8_ahead 4 = .ok (.istore 5, 2) := by decide +kernel
theorem dX8_ahead_6 : decode cX8_ahead 6 = .ok (.iload 5, 2) := by decide +kernel
theorem dX8_ahead_8 : decode cX8_ahead 8 = .ok (.bipush 6, 2) := by decide +kernel
theorem dX8_ahead_10 : decode cX8_ahead 10 = .ok (.if_icmp .ge 48, 3) := by decide +kernel
theorem dX8_ahead_13 : decode cX8_ahead 13 = .ok (.iload 4, 2) := by decide +kernel
theorem dX8_ahead_15 : decode cX8_ahead 15 = .ok (.aload_n 0, 1) := by decide +kernel
theorem dX8_ahead_16 : decode cX8_ahead 16 = .ok (.iload 5, 2) := by decide +kernel
theorem dX8_ahead_18 : decode cX8_ahead 18 = .ok (.iload_n 1, 1) := by decide +kernel
theorem dX8_ahead_19 : decode cX8_ahead 19 = .ok (.invokevirtual 169, 3) := by decide +kernel
theorem dX8_ahead_22 : decode cX8_ahead 22 = .ok (.ifCond .eq 26, 3) := by decide +kernel
theorem dX8_ahead_25 : decode cX8_ahead 25 = .ok (.aload_n 0, 1) := by decide +kernel
theorem dX8_ahead_26 : decode cX8_ahead 26 = .ok (.iload 5, 2) := by decide +kernel
theorem dX8_ahead_28 : decode cX8_ahead 28 = .ok (.iload_n 1, 1) := by decide +kernel
theorem dX8_ahead_29 : decode cX8_ahead 29 = .ok (.iload_n 2, 1) := by decide +kernel
theorem dX8_ahead_30 : decode cX8_ahead 30 = .ok (.invokevirtual 172, 3) := by decide +kernel
theorem dX8_ahead_33 : decode cX8_ahead 33 = .ok (.aload_n 0, 1) := by decide +kernel
theorem dX8_ahead_34 : decode cX8_ahead 34 = .ok (.iload 5, 2) := by decide +kernel
theorem dX8_ahead_36 : decode cX8_ahead 36 = .ok (.iload_n 1, 1) := by decide +kernel
theorem dX8_ahead_37 : decode cX8_ahead 37 = .ok (.iload_n 3, 1) := by decide +kernel
theorem dX8_ahead_38 : decode cX8_ahead 38 = .ok (.invokevirtual 172, 3) := by decide +kernel
theorem dX8_ahead_41 : decode cX8_ahead 41 = .ok (.if_icmp .ge 7, 3) := by decide +kernel
theorem dX8_ahead_44 : decode cX8_ahead 44 = .ok (.iconst 1, 1) := by decide +kernel
theorem dX8_ahead_45 : decode cX8_ahead 45 = .ok (.goto 4, 3) := by decide +kernel
theorem dX8_ahead_48 : decode cX8_ahead 48 = .ok (.iconst 0, 1) := by decide +kernel
theorem dX8_ahead_49 : decode cX8_ahead 49 = .ok (.iadd, 1) := by decide +kernel
theorem dX8_ahead_50 : decode cX8_ahead 50 = .ok (.istore 4, 2) := by decide +kernel
theorem dX8_ahead_52 : decode cX8_ahead 52 = .ok (.iinc 5 1, 3) := by decide +kernel
theorem dX8_ahead_55 : decode cX8_ahead 55 = .ok (.goto (-49), 3) := by decide +kernel
theorem dX8_ahead_58 : decode cX8_ahead 58 = .ok (.iload 4, 2) := by decide +kernel
theorem dX8_ahead_60 : decode cX8_ahead 60 = .ok (.ireturn, 1) := by decide +kernel
theorem dX8_cost_0 : decode cX8_cost 0 = .ok (.iconst 0, 1) := by decide +kernel
theorem dX8_cost_1 : decode cX8_cost 1 = .ok (.istore_n 3, 1) := by decide +kernel
theorem dX8_cost_2 : decode cX8_cost 2 = .ok (.iconst 0, 1) := by decide +kernel
theorem dX8_cost_3 : decode cX8_cost 3 = .ok (.istore 4, 2) := by decide +kernel
theorem dX8_cost_5 : decode cX8_cost 5 = .ok (.iload 4, 2) := by decide +kernel
theorem dX8_cost_7 : decode cX8_cost 7 = .ok (.aload_n 0, 1) := by decide +kernel
theorem dX8_cost_8 : decode cX8_cost 8 = .ok (.getfield 176, 3) := by decide +kernel
theorem dX8_cost_11 : decode cX8_cost 11 = .ok (.if_icmp .ge 43, 3) := by decide +kernel
theorem dX8_cost_14 : decode cX8_cost 14 = .ok (.iload_n 3, 1) := by decide +kernel
theorem dX8_cost_15 : decode cX8_cost 15 = .ok (.iload 4, 2) := by decide +kernel
theorem dX8_cost_17 : decode cX8_cost 17 = .ok (.iload_n 1, 1) := by decide +kernel
theorem dX8_cost_18 : decode cX8_cost 18 = .ok (.if_icmp .eq 27, 3) := by decide +kernel
theorem dX8_cost_21 : decode cX8_cost 21 = .ok (.iload_n 2, 1) := by decide +kernel
theorem dX8_cost_22 : decode cX8_cost 22 = .ok (.iload 4, 2) := by decide +kernel
theorem dX8_cost_24 : decode cX8_cost 24 = .ok (.invokestatic 152, 3) := by decide +kernel
theorem dX8_cost_27 : decode cX8_cost 27 = .ok (.ifCond .eq 18, 3) := by decide +kernel
theorem dX8_cost_30 : decode cX8_cost 30 = .ok (.aload_n 0, 1) := by decide +kernel
theorem dX8_cost_31 : decode cX8_cost 31 = .ok (.getfield 69, 3) := by decide +kernel
theorem dX8_cost_34 : decode cX8_cost 34 = .ok (.bipush 8, 2) := by decide +kernel
theorem dX8_cost_36 : decode cX8_cost 36 = .ok (.iload 4, 2) := by decide +kernel
theorem dX8_cost_38 : decode cX8_cost 38 = .ok (.imul, 1) := by decide +kernel
theorem dX8_cost_39 : decode cX8_cost 39 = .ok (.iload_n 1, 1) := by decide +kernel
theorem dX8_cost_40 : decode cX8_cost 40 = .ok (.iadd, 1) := by decide +kernel
theorem dX8_cost_41 : decode cX8_cost 41 = .ok (.iaload, 1) := by decide +kernel
theorem dX8_cost_42 : decode cX8_cost 42 = .ok (.goto 4, 3) := by decide +kernel
theorem dX8_cost_45 : decode cX8_cost 45 = .ok (.iconst 0, 1) := by decide +kernel
theorem dX8_cost_46 : decode cX8_cost 46 = .ok (.iadd, 1) := by decide +kernel
theorem dX8_cost_47 : decode cX8_cost 47 = .ok (.istore_n 3, 1) := by decide +kernel
theorem dX8_cost_48 : decode cX8_cost 48 = .ok (.iinc 4 1, 3) := by decide +kernel
theorem dX8_cost_51 : decode cX8_cost 51 = .ok (.goto (-46), 3) := by decide +kernel
theorem dX8_cost_54 : decode cX8_cost 54 = .ok (.iload_n 3, 1) := by decide +kernel
theorem dX8_cost_55 : decode cX8_cost 55 = .ok (.ireturn, 1) := by decide +kernel
theorem dX8_joins_0 : decode cX8_joins 0 = .ok (.aload_n 0, 1) := by decide +kernel
theorem dX8_joins_1 : decode cX8_joins 1 = .ok (.iconst 0, 1) := by decide +kernel
theorem dX8_joins_2 : decode cX8_joins 2 = .ok (.putfield 176, 3) := by decide +kernel
theorem dX8_joins_5 : decode cX8_joins 5 = .ok (.iconst 0, 1) := by decide +kernel
theorem dX8_joins_6 : decode cX8_joins 6 = .ok (.istore_n 2, 1) := by decide +kernel
theorem dX8_joins_7 : decode cX8_joins 7 = .ok (.iload_n 2, 1) := by decide +kernel
theorem dX8_joins_8 : decode cX8_joins 8 = .ok (.aload_n 0, 1) := by decide +kernel
theorem dX8_joins_9 : decode cX8_joins 9 = .ok (.getfield 91, 3) := by decide +kernel
theorem dX8_joins_12 : decode cX8_joins 12 = .ok (.if_icmp .ge 45, 3) := by decide +kernel
theorem dX8_joins_15 : decode cX8_joins 15 = .ok (.aload_n 0, 1) := by decide +kernel
theorem dX8_joins_16 : decode cX8_joins 16 = .ok (.getfield 48, 3) := by decide +kernel
theorem dX8_joins_19 : decode cX8_joins 19 = .ok (.iload_n 1, 1) := by decide +kernel
theorem dX8_joins_20 : decode cX8_joins 20 = .ok (.iaload, 1) := by decide +kernel
theorem dX8_joins_21 : decode cX8_joins 21 = .ok (.iload_n 2, 1) := by decide +kernel
theorem dX8_joins_22 : decode cX8_joins 22 = .ok (.invokestatic 152, 3) := by decide +kernel
theorem dX8_joins_25 : decode cX8_joins 25 = .ok (.ifCond .ne 6, 3) := by decide +kernel
theorem dX8_joins_28 : decode cX8_joins 28 = .ok (.goto 23, 3) := by decide +kernel
theorem dX8_joins_31 : decode cX8_joins 31 = .ok (.aload_n 0, 1) := by decide +kernel
theorem dX8_joins_32 : decode cX8_joins 32 = .ok (.getfield 66, 3) := by decide +kernel
theorem dX8_joins_35 : decode cX8_joins 35 = .ok (.aload_n 0, 1) := by decide +kernel
theorem dX8_joins_36 : decode cX8_joins 36 = .ok (.getfield 176, 3) := by decide +kernel
theorem dX8_joins_39 : decode cX8_joins 39 = .ok (.iload_n 2, 1) := by decide +kernel
theorem dX8_joins_40 : decode cX8_joins 40 = .ok (.iastore, 1) := by decide +kernel
theorem dX8_joins_41 : decode cX8_joins 41 = .ok (.aload_n 0, 1) := by decide +kernel
theorem dX8_joins_42 : decode cX8_joins 42 = .ok (.dup, 1) := by decide +kernel
theorem dX8_joins_43 : decode cX8_joins 43 = .ok (.getfield 176, 3) := by decide +kernel
theorem dX8_joins_46 : decode cX8_joins 46 = .ok (.iconst 1, 1) := by decide +kernel
theorem dX8_joins_47 : decode cX8_joins 47 = .ok (.iadd, 1) := by decide +kernel
theorem dX8_joins_48 : decode cX8_joins 48 = .ok (.putfield 176, 3) := by decide +kernel
theorem dX8_joins_51 : decode cX8_joins 51 = .ok (.iinc 2 1, 3) := by decide +kernel
theorem dX8_joins_54 : decode cX8_joins 54 = .ok (.goto (-47), 3) := by decide +kernel
theorem dX8_joins_57 : decode cX8_joins 57 = .ok (.iconst 0, 1) := by decide +kernel
theorem dX8_joins_58 : decode cX8_joins 58 = .ok (.istore_n 2, 1) := by decide +kernel
theorem dX8_joins_59 : decode cX8_joins 59 = .ok (.iload_n 2, 1) := by decide +kernel
theorem dX8_joins_60 : decode cX8_joins 60 = .ok (.aload_n 0, 1) := by decide +kernel
theorem dX8_joins_61 : decode cX8_joins 61 = .ok (.getfield 176, 3) := by decide +kernel
theorem dX8_joins_64 : decode cX8_joins 64 = .ok (.if_icmp .ge 62, 3) := by decide +kernel
theorem dX8_joins_67 : decode cX8_joins 67 = .ok (.iconst 0, 1) := by decide +kernel
theorem dX8_joins_68 : decode cX8_joins 68 = .ok (.istore_n 3, 1) := by decide +kernel
theorem dX8_joins_69 : decode cX8_joins 69 = .ok (.iload_n 3, 1) := by decide +kernel
theorem dX8_joins_70 : decode cX8_joins 70 = .ok (.aload_n 0, 1) := by decide +kernel
theorem dX8_joins_71 : decode cX8_joins 71 = .ok (.getfield 176, 3) := by decide +kernel
theorem dX8_joins_74 : decode cX8_joins 74 = .ok (.if_icmp .ge 46, 3) := by decide +kernel
theorem dX8_joins_77 : decode cX8_joins 77 = .ok (.aload_n 0, 1) := by decide +kernel
theorem dX8_joins_78 : decode cX8_joins 78 = .ok (.getfield 69, 3) := by decide +kernel
theorem dX8_joins_81 : decode cX8_joins 81 = .ok (.bipush 8, 2) := by decide +kernel
theorem dX8_joins_83 : decode cX8_joins 83 = .ok (.iload_n 2, 1) := by decide +kernel
theorem dX8_joins_84 : decode cX8_joins 84 = .ok (.imul, 1) := by decide +kernel
theorem dX8_joins_85 : decode cX8_joins 85 = .ok (.iload_n 3, 1) := by decide +kernel
theorem dX8_joins_86 : decode cX8_joins 86 = .ok (.iadd, 1) := by decide +kernel
theorem dX8_joins_87 : decode cX8_joins 87 = .ok (.iload_n 2, 1) := by decide +kernel
theorem dX8_joins_88 : decode cX8_joins 88 = .ok (.iload_n 3, 1) := by decide +kernel
theorem dX8_joins_89 : decode cX8_joins 89 = .ok (.if_icmp .ne 7, 3) := by decide +kernel
theorem dX8_joins_92 : decode cX8_joins 92 = .ok (.iconst 0, 1) := by decide +kernel
theorem dX8_joins_93 : decode cX8_joins 93 = .ok (.goto 20, 3) := by decide +kernel
theorem dX8_joins_96 : decode cX8_joins 96 = .ok (.aload_n 0, 1) := by decide +kernel
theorem dX8_joins_97 : decode cX8_joins 97 = .ok (.iload_n 1, 1) := by decide +kernel
theorem dX8_joins_98 : decode cX8_joins 98 = .ok (.aload_n 0, 1) := by decide +kernel
theorem dX8_joins_99 : decode cX8_joins 99 = .ok (.getfield 66, 3) := by decide +kernel
theorem dX8_joins_102 : decode cX8_joins 102 = .ok (.iload_n 2, 1) := by decide +kernel
theorem dX8_joins_103 : decode cX8_joins 103 = .ok (.iaload, 1) := by decide +kernel
theorem dX8_joins_104 : decode cX8_joins 104 = .ok (.aload_n 0, 1) := by decide +kernel
theorem dX8_joins_105 : decode cX8_joins 105 = .ok (.getfield 66, 3) := by decide +kernel
theorem dX8_joins_108 : decode cX8_joins 108 = .ok (.iload_n 3, 1) := by decide +kernel
theorem dX8_joins_109 : decode cX8_joins 109 = .ok (.iaload, 1) := by decide +kernel
theorem dX8_joins_110 : decode cX8_joins 110 = .ok (.invokevirtual 179, 3) := by decide +kernel
theorem dX8_joins_113 : decode cX8_joins 113 = .ok (.iastore, 1) := by decide +kernel
theorem dX8_joins_114 : decode cX8_joins 114 = .ok (.iinc 3 1, 3) := by decide +kernel
theorem dX8_joins_117 : decode cX8_joins 117 = .ok (.goto (-48), 3) := by decide +kernel
theorem dX8_joins_120 : decode cX8_joins 120 = .ok (.iinc 2 1, 3) := by decide +kernel
theorem dX8_joins_123 : decode cX8_joins 123 = .ok (.goto (-64), 3) := by decide +kernel
theorem dX8_joins_126 : decode cX8_joins 126 = .ok (.aload_n 0, 1) := by decide +kernel
theorem dX8_joins_127 : decode cX8_joins 127 = .ok (.getfield 72, 3) := by decide +kernel
theorem dX8_joins_130 : decode cX8_joins 130 = .ok (.iconst 0, 1) := by decide +kernel
theorem dX8_joins_131 : decode cX8_joins 131 = .ok (.iconst 0, 1) := by decide +kernel
theorem dX8_joins_132 : decode cX8_joins 132 = .ok (.iastore, 1) := by decide +kernel
theorem dX8_joins_133 : decode cX8_joins 133 = .ok (.iconst 1, 1) := by decide +kernel
theorem dX8_joins_134 : decode cX8_joins 134 = .ok (.istore_n 2, 1) := by decide +kernel
theorem dX8_joins_135 : decode cX8_joins 135 = .ok (.iload_n 2, 1) := by decide +kernel
theorem dX8_joins_136 : decode cX8_joins 136 = .ok (.iconst 1, 1) := by decide +kernel
theorem dX8_joins_137 : decode cX8_joins 137 = .ok (.aload_n 0, 1) := by decide +kernel
theorem dX8_joins_138 : decode cX8_joins 138 = .ok (.getfield 176, 3) := by decide +kernel
theorem dX8_joins_141 : decode cX8_joins 141 = .ok (.ishl, 1) := by decide +kernel
theorem dX8_joins_142 : decode cX8_joins 142 = .ok (.if_icmp .ge 93, 3) := by decide +kernel
theorem dX8_joins_145 : decode cX8_joins 145 = .ok (.aload_n 0, 1) := by decide +kernel
theorem dX8_joins_146 : decode cX8_joins 146 = .ok (.getfield 72, 3) := by decide +kernel
theorem dX8_joins_149 : decode cX8_joins 149 = .ok (.iload_n 2, 1) := by decide +kernel
theorem dX8_joins_150 : decode cX8_joins 150 = .ok (.iconst (-1), 1) := by decide +kernel
theorem dX8_joins_151 : decode cX8_joins 151 = .ok (.iastore, 1) := by decide +kernel
theorem dX8_joins_152 : decode cX8_joins 152 = .ok (.iconst 0, 1) := by decide +kernel
theorem dX8_joins_153 : decode cX8_joins 153 = .ok (.istore_n 3, 1) := by decide +kernel
theorem dX8_joins_154 : decode cX8_joins 154 = .ok (.iload_n 3, 1) := by decide +kernel
theorem dX8_joins_155 : decode cX8_joins 155 = .ok (.aload_n 0, 1) := by decide +kernel
theorem dX8_joins_156 : decode cX8_joins 156 = .ok (.getfield 176, 3) := by decide +kernel
theorem dX8_joins_159 : decode cX8_joins 159 = .ok (.if_icmp .ge 70, 3) := by decide +kernel
theorem dX8_joins_162 : decode cX8_joins 162 = .ok (.iload_n 2, 1) := by decide +kernel
theorem dX8_joins_163 : decode cX8_joins 163 = .ok (.iload_n 3, 1) := by decide +kernel
theorem dX8_joins_164 : decode cX8_joins 164 = .ok (.invokestatic 152, 3) := by decide +kernel
theorem dX8_joins_167 : decode cX8_joins 167 = .ok (.ifCond .ne 6, 3) := by decide +kernel
theorem dX8_joins_170 : decode cX8_joins 170 = .ok (.goto 53, 3) := by decide +kernel
theorem dX8_joins_173 : decode cX8_joins 173 = .ok (.aload_n 0, 1) := by decide +kernel
theorem dX8_joins_174 : decode cX8_joins 174 = .ok (.iload_n 3, 1) := by decide +kernel
theorem dX8_joins_175 : decode cX8_joins 175 = .ok (.iload_n 2, 1) := by decide +kernel
theorem dX8_joins_176 : decode cX8_joins 176 = .ok (.invokevirtual 182, 3) := by decide +kernel
theorem dX8_joins_179 : decode cX8_joins 179 = .ok (.aload_n 0, 1) := by decide +kernel
theorem dX8_joins_180 : decode cX8_joins 180 = .ok (.getfield 72, 3) := by decide +kernel
theorem dX8_joins_183 : decode cX8_joins 183 = .ok (.iload_n 2, 1) := by decide +kernel
theorem dX8_joins_184 : decode cX8_joins 184 = .ok (.iconst 1, 1) := by decide +kernel
theorem dX8_joins_185 : decode cX8_joins 185 = .ok (.iload_n 3, 1) := by decide +kernel
theorem dX8_joins_186 : decode cX8_joins 186 = .ok (.ishl, 1) := by decide +kernel
theorem dX8_joins_187 : decode cX8_joins 187 = .ok (.iconst (-1), 1) := by decide +kernel
theorem dX8_joins_188 : decode cX8_joins 188 = .ok (.ixor, 1) := by decide +kernel
theorem dX8_joins_189 : decode cX8_joins 189 = .ok (.iand, 1) := by decide +kernel
theorem dX8_joins_190 : decode cX8_joins 190 = .ok (.iaload, 1) := by decide +kernel
theorem dX8_joins_191 : decode cX8_joins 191 = .ok (.iadd, 1) := by decide +kernel
theorem dX8_joins_192 : decode cX8_joins 192 = .ok (.istore 4, 2) := by decide +kernel
theorem dX8_joins_194 : decode cX8_joins 194 = .ok (.aload_n 0, 1) := by decide +kernel
theorem dX8_joins_195 : decode cX8_joins 195 = .ok (.getfield 72, 3) := by decide +kernel
theorem dX8_joins_198 : decode cX8_joins 198 = .ok (.iload_n 2, 1) := by decide +kernel
theorem dX8_joins_199 : decode cX8_joins 199 = .ok (.iaload, 1) := by decide +kernel
theorem dX8_joins_200 : decode cX8_joins 200 = .ok (.iconst (-1), 1) := by decide +kernel
theorem dX8_joins_201 : decode cX8_joins 201 = .ok (.if_icmp .eq 14, 3) := by decide +kernel
theorem dX8_joins_204 : decode cX8_joins 204 = .ok (.iload 4, 2) := by decide +kernel
theorem dX8_joins_206 : decode cX8_joins 206 = .ok (.aload_n 0, 1) := by decide +kernel
theorem dX8_joins_207 : decode cX8_joins 207 = .ok (.getfield 72, 3) := by decide +kernel
theorem dX8_joins_210 : decode cX8_joins 210 = .ok (.iload_n 2, 1) := by decide +kernel
theorem dX8_joins_211 : decode cX8_joins 211 = .ok (.iaload, 1) := by decide +kernel
theorem dX8_joins_212 : decode cX8_joins 212 = .ok (.if_icmp .ge 11, 3) := by decide +kernel
theorem dX8_joins_215 : decode cX8_joins 215 = .ok (.aload_n 0, 1) := by decide +kernel
theorem dX8_joins_216 : decode cX8_joins 216 = .ok (.getfield 72, 3) := by decide +kernel
theorem dX8_joins_219 : decode cX8_joins 219 = .ok (.iload_n 2, 1) := by decide +kernel
theorem dX8_joins_220 : decode cX8_joins 220 = .ok (.iload 4, 2) := by decide +kernel
theorem dX8_joins_222 : decode cX8_joins 222 = .ok (.iastore, 1) := by decide +kernel
theorem dX8_joins_223 : decode cX8_joins 223 = .ok (.iinc 3 1, 3) := by decide +kernel
theorem dX8_joins_226 : decode cX8_joins 226 = .ok (.goto (-72), 3) := by decide +kernel
theorem dX8_joins_229 : decode cX8_joins 229 = .ok (.iinc 2 1, 3) := by decide +kernel
theorem dX8_joins_232 : decode cX8_joins 232 = .ok (.goto (-97), 3) := by decide +kernel
theorem dX8_joins_235 : decode cX8_joins 235 = .ok (.iconst 1, 1) := by decide +kernel
theorem dX8_joins_236 : decode cX8_joins 236 = .ok (.aload_n 0, 1) := by decide +kernel
theorem dX8_joins_237 : decode cX8_joins 237 = .ok (.getfield 176, 3) := by decide +kernel
theorem dX8_joins_240 : decode cX8_joins 240 = .ok (.ishl, 1) := by decide +kernel
theorem dX8_joins_241 : decode cX8_joins 241 = .ok (.iconst 1, 1) := by decide +kernel
theorem dX8_joins_242 : decode cX8_joins 242 = .ok (.isub, 1) := by decide +kernel
theorem dX8_joins_243 : decode cX8_joins 243 = .ok (.istore_n 2, 1) := by decide +kernel
theorem dX8_joins_244 : decode cX8_joins 244 = .ok (.iconst 0, 1) := by decide +kernel
theorem dX8_joins_245 : decode cX8_joins 245 = .ok (.istore_n 3, 1) := by decide +kernel
theorem dX8_joins_246 : decode cX8_joins 246 = .ok (.iload_n 3, 1) := by decide +kernel
theorem dX8_joins_247 : decode cX8_joins 247 = .ok (.aload_n 0, 1) := by decide +kernel
theorem dX8_joins_248 : decode cX8_joins 248 = .ok (.getfield 176, 3) := by decide +kernel
theorem dX8_joins_251 : decode cX8_joins 251 = .ok (.if_icmp .ge 79, 3) := by decide +kernel
theorem dX8_joins_254 : decode cX8_joins 254 = .ok (.iconst 0, 1) := by decide +kernel
theorem dX8_joins_255 : decode cX8_joins 255 = .ok (.istore 4, 2) := by decide +kernel
theorem dX8_joins_257 : decode cX8_joins 257 = .ok (.iload_n 2, 1) := by decide +kernel
theorem dX8_joins_258 : decode cX8_joins 258 = .ok (.iload 4, 2) := by decide +kernel
theorem dX8_joins_260 : decode cX8_joins 260 = .ok (.invokestatic 152, 3) := by decide +kernel
theorem dX8_joins_263 : decode cX8_joins 263 = .ok (.ifCond .eq 33, 3) := by decide +kernel
theorem dX8_joins_266 : decode cX8_joins 266 = .ok (.aload_n 0, 1) := by decide +kernel
theorem dX8_joins_267 : decode cX8_joins 267 = .ok (.iload 4, 2) := by decide +kernel
theorem dX8_joins_269 : decode cX8_joins 269 = .ok (.iload_n 2, 1) := by decide +kernel
theorem dX8_joins_270 : decode cX8_joins 270 = .ok (.invokevirtual 182, 3) := by decide +kernel
theorem dX8_joins_273 : decode cX8_joins 273 = .ok (.aload_n 0, 1) := by decide +kernel
theorem dX8_joins_274 : decode cX8_joins 274 = .ok (.getfield 72, 3) := by decide +kernel
theorem dX8_joins_277 : decode cX8_joins 277 = .ok (.iload_n 2, 1) := by decide +kernel
theorem dX8_joins_278 : decode cX8_joins 278 = .ok (.iconst 1, 1) := by decide +kernel
theorem dX8_joins_279 : decode cX8_joins 279 = .ok (.iload 4, 2) := by decide +kernel
theorem dX8_joins_281 : decode cX8_joins 281 = .ok (.ishl, 1) := by decide +kernel
theorem dX8_joins_282 : decode cX8_joins 282 = .ok (.iconst (-1), 1) := by decide +kernel
theorem dX8_joins_283 : decode cX8_joins 283 = .ok (.ixor, 1) := by decide +kernel
theorem dX8_joins_284 : decode cX8_joins 284 = .ok (.iand, 1) := by decide +kernel
theorem dX8_joins_285 : decode cX8_joins 285 = .ok (.iaload, 1) := by decide +kernel
theorem dX8_joins_286 : decode cX8_joins 286 = .ok (.iadd, 1) := by decide +kernel
theorem dX8_joins_287 : decode cX8_joins 287 = .ok (.aload_n 0, 1) := by decide +kernel
theorem dX8_joins_288 : decode cX8_joins 288 = .ok (.getfield 72, 3) := by decide +kernel
theorem dX8_joins_291 : decode cX8_joins 291 = .ok (.iload_n 2, 1) := by decide +kernel
theorem dX8_joins_292 : decode cX8_joins 292 = .ok (.iaload, 1) := by decide +kernel
theorem dX8_joins_293 : decode cX8_joins 293 = .ok (.if_icmp .eq 9, 3) := by decide +kernel
theorem dX8_joins_296 : decode cX8_joins 296 = .ok (.iinc 4 1, 3) := by decide +kernel
theorem dX8_joins_299 : decode cX8_joins 299 = .ok (.goto (-42), 3) := by decide +kernel
theorem dX8_joins_302 : decode cX8_joins 302 = .ok (.aload_n 0, 1) := by decide +kernel
theorem dX8_joins_303 : decode cX8_joins 303 = .ok (.getfield 75, 3) := by decide +kernel
theorem dX8_joins_306 : decode cX8_joins 306 = .ok (.iload_n 3, 1) := by decide +kernel
theorem dX8_joins_307 : decode cX8_joins 307 = .ok (.aload_n 0, 1) := by decide +kernel
theorem dX8_joins_308 : decode cX8_joins 308 = .ok (.getfield 66, 3) := by decide +kernel
theorem dX8_joins_311 : decode cX8_joins 311 = .ok (.iload 4, 2) := by decide +kernel
theorem dX8_joins_313 : decode cX8_joins 313 = .ok (.iaload, 1) := by decide +kernel
theorem dX8_joins_314 : decode cX8_joins 314 = .ok (.iastore, 1) := by decide +kernel
theorem dX8_joins_315 : decode cX8_joins 315 = .ok (.iload_n 2, 1) := by decide +kernel
theorem dX8_joins_316 : decode cX8_joins 316 = .ok (.iconst 1, 1) := by decide +kernel
theorem dX8_joins_317 : decode cX8_joins 317 = .ok (.iload 4, 2) := by decide +kernel
theorem dX8_joins_319 : decode cX8_joins 319 = .ok (.ishl, 1) := by decide +kernel
theorem dX8_joins_320 : decode cX8_joins 320 = .ok (.iconst (-1), 1) := by decide +kernel
theorem dX8_joins_321 : decode cX8_joins 321 = .ok (.ixor, 1) := by decide +kernel
theorem dX8_joins_322 : decode cX8_joins 322 = .ok (.iand, 1) := by decide +kernel
theorem dX8_joins_323 : decode cX8_joins 323 = .ok (.istore_n 2, 1) := by decide +kernel
theorem dX8_joins_324 : decode cX8_joins 324 = .ok (.iinc 3 1, 3) := by decide +kernel
theorem dX8_joins_327 : decode cX8_joins 327 = .ok (.goto (-81), 3) := by decide +kernel
theorem dX8_joins_330 : decode cX8_joins 330 = .ok (.return_, 1) := by decide +kernel
theorem dX8_placed_0 : decode cX8_placed 0 = .ok (.iload_n 1, 1) := by decide +kernel
theorem dX8_placed_1 : decode cX8_placed 1 = .ok (.invokestatic 139, 3) := by decide +kernel
theorem dX8_placed_4 : decode cX8_placed 4 = .ok (.ifCond .ne 5, 3) := by decide +kernel
theorem dX8_placed_7 : decode cX8_placed 7 = .ok (.iconst (-1), 1) := by decide +kernel
theorem dX8_placed_8 : decode cX8_placed 8 = .ok (.ireturn, 1) := by decide +kernel
theorem dX8_placed_9 : decode cX8_placed 9 = .ok (.aload_n 0, 1) := by decide +kernel
theorem dX8_placed_10 : decode cX8_placed 10 = .ok (.iload_n 1, 1) := by decide +kernel
theorem dX8_placed_11 : decode cX8_placed 11 = .ok (.invokevirtual 186, 3) := by decide +kernel
theorem dX8_placed_14 : decode cX8_placed 14 = .ok (.iload_n 2, 1) := by decide +kernel
theorem dX8_placed_15 : decode cX8_placed 15 = .ok (.iconst 1, 1) := by decide +kernel
theorem dX8_placed_16 : decode cX8_placed 16 = .ok (.aload_n 0, 1) := by decide +kernel
theorem dX8_placed_17 : decode cX8_placed 17 = .ok (.getfield 176, 3) := by decide +kernel
theorem dX8_placed_20 : decode cX8_placed 20 = .ok (.invokestatic 87, 3) := by decide +kernel
theorem dX8_placed_23 : decode cX8_placed 23 = .ok (.ifCond .eq 14, 3) := by decide +kernel
theorem dX8_placed_26 : decode cX8_placed 26 = .ok (.aload_n 0, 1) := by decide +kernel
theorem dX8_placed_27 : decode cX8_placed 27 = .ok (.getfield 75, 3) := by decide +kernel
theorem dX8_placed_30 : decode cX8_placed 30 = .ok (.iload_n 2, 1) := by decide +kernel
theorem dX8_placed_31 : decode cX8_placed 31 = .ok (.iconst 1, 1) := by decide +kernel
theorem dX8_placed_32 : decode cX8_placed 32 = .ok (.isub, 1) := by decide +kernel
theorem dX8_placed_33 : decode cX8_placed 33 = .ok (.iaload, 1) := by decide +kernel
theorem dX8_placed_34 : decode cX8_placed 34 = .ok (.goto 4, 3) := by decide +kernel
theorem dX8_placed_37 : decode cX8_placed 37 = .ok (.iconst (-1), 1) := by decide +kernel
theorem dX8_placed_38 : decode cX8_placed 38 = .ok (.ireturn, 1) := by decide +kernel
theorem dX8_swaps_0 : decode cX8_swaps 0 = .ok (.iload_n 1, 1) := by decide +kernel
theorem dX8_swaps_1 : decode cX8_swaps 1 = .ok (.invokestatic 139, 3) := by decide +kernel
theorem dX8_swaps_4 : decode cX8_swaps 4 = .ok (.ifCond .ne 5, 3) := by decide +kernel
theorem dX8_swaps_7 : decode cX8_swaps 7 = .ok (.iconst (-1), 1) := by decide +kernel
theorem dX8_swaps_8 : decode cX8_swaps 8 = .ok (.ireturn, 1) := by decide +kernel
theorem dX8_swaps_9 : decode cX8_swaps 9 = .ok (.aload_n 0, 1) := by decide +kernel
theorem dX8_swaps_10 : decode cX8_swaps 10 = .ok (.iload_n 1, 1) := by decide +kernel
theorem dX8_swaps_11 : decode cX8_swaps 11 = .ok (.invokevirtual 186, 3) := by decide +kernel
theorem dX8_swaps_14 : decode cX8_swaps 14 = .ok (.aload_n 0, 1) := by decide +kernel
theorem dX8_swaps_15 : decode cX8_swaps 15 = .ok (.getfield 72, 3) := by decide +kernel
theorem dX8_swaps_18 : decode cX8_swaps 18 = .ok (.iconst 1, 1) := by decide +kernel
theorem dX8_swaps_19 : decode cX8_swaps 19 = .ok (.aload_n 0, 1) := by decide +kernel
theorem dX8_swaps_20 : decode cX8_swaps 20 = .ok (.getfield 176, 3) := by decide +kernel
theorem dX8_swaps_23 : decode cX8_swaps 23 = .ok (.ishl, 1) := by decide +kernel
theorem dX8_swaps_24 : decode cX8_swaps 24 = .ok (.iconst 1, 1) := by decide +kernel
theorem dX8_swaps_25 : decode cX8_swaps 25 = .ok (.isub, 1) := by decide +kernel
theorem dX8_swaps_26 : decode cX8_swaps 26 = .ok (.iaload, 1) := by decide +kernel
theorem dX8_swaps_27 : decode cX8_swaps 27 = .ok (.ireturn, 1) := by decide +kernel
theorem dX8_ring_0 : decode cX8_ring 0 = .ok (.iload_n 1, 1) := by decide +kernel
theorem dX8_ring_1 : decode cX8_ring 1 = .ok (.invokestatic 139, 3) := by decide +kernel
theorem dX8_ring_4 : decode cX8_ring 4 = .ok (.ifCond .eq 12, 3) := by decide +kernel
theorem dX8_ring_7 : decode cX8_ring 7 = .ok (.iload_n 2, 1) := by decide +kernel
theorem dX8_ring_8 : decode cX8_ring 8 = .ok (.iconst 0, 1) := by decide +kernel
theorem dX8_ring_9 : decode cX8_ring 9 = .ok (.iconst 2, 1) := by decide +kernel
theorem dX8_ring_10 : decode cX8_ring 10 = .ok (.invokestatic 87, 3) := by decide +kernel
theorem dX8_ring_13 : decode cX8_ring 13 = .ok (.ifCond .ne 5, 3) := by decide +kernel
theorem dX8_ring_16 : decode cX8_ring 16 = .ok (.iconst (-1), 1) := by decide +kernel
theorem dX8_ring_17 : decode cX8_ring 17 = .ok (.ireturn, 1) := by decide +kernel
theorem dX8_ring_18 : decode cX8_ring 18 = .ok (.aload_n 0, 1) := by decide +kernel
theorem dX8_ring_19 : decode cX8_ring 19 = .ok (.iload_n 1, 1) := by decide +kernel
theorem dX8_ring_20 : decode cX8_ring 20 = .ok (.invokevirtual 186, 3) := by decide +kernel
theorem dX8_ring_23 : decode cX8_ring 23 = .ok (.iconst 0, 1) := by decide +kernel
theorem dX8_ring_24 : decode cX8_ring 24 = .ok (.istore_n 3, 1) := by decide +kernel
theorem dX8_ring_25 : decode cX8_ring 25 = .ok (.iload_n 3, 1) := by decide +kernel
theorem dX8_ring_26 : decode cX8_ring 26 = .ok (.aload_n 0, 1) := by decide +kernel
theorem dX8_ring_27 : decode cX8_ring 27 = .ok (.getfield 176, 3) := by decide +kernel
theorem dX8_ring_30 : decode cX8_ring 30 = .ok (.if_icmp .ge 102, 3) := by decide +kernel
theorem dX8_ring_33 : decode cX8_ring 33 = .ok (.iconst 0, 1) := by decide +kernel
theorem dX8_ring_34 : decode cX8_ring 34 = .ok (.istore 4, 2) := by decide +kernel
theorem dX8_ring_36 : decode cX8_ring 36 = .ok (.iload 4, 2) := by decide +kernel
theorem dX8_ring_38 : decode cX8_ring 38 = .ok (.aload_n 0, 1) := by decide +kernel
theorem dX8_ring_39 : decode cX8_ring 39 = .ok (.getfield 176, 3) := by decide +kernel
theorem dX8_ring_42 : decode cX8_ring 42 = .ok (.if_icmp .ge 84, 3) := by decide +kernel
theorem dX8_ring_45 : decode cX8_ring 45 = .ok (.iconst 0, 1) := by decide +kernel
theorem dX8_ring_46 : decode cX8_ring 46 = .ok (.istore 5, 2) := by decide +kernel
theorem dX8_ring_48 : decode cX8_ring 48 = .ok (.iload 5, 2) := by decide +kernel
theorem dX8_ring_50 : decode cX8_ring 50 = .ok (.aload_n 0, 1) := by decide +kernel
theorem dX8_ring_51 : decode cX8_ring 51 = .ok (.getfield 176, 3) := by decide +kernel
theorem dX8_ring_54 : decode cX8_ring 54 = .ok (.if_icmp .ge 66, 3) := by decide +kernel
theorem dX8_ring_57 : decode cX8_ring 57 = .ok (.aload_n 0, 1) := by decide +kernel
theorem dX8_ring_58 : decode cX8_ring 58 = .ok (.iload_n 3, 1) := by decide +kernel
theorem dX8_ring_59 : decode cX8_ring 59 = .ok (.iload 4, 2) := by decide +kernel
theorem dX8_ring_61 : decode cX8_ring 61 = .ok (.invokevirtual 189, 3) := by decide +kernel
theorem dX8_ring_64 : decode cX8_ring 64 = .ok (.ifCond .eq 50, 3) := by decide +kernel
theorem dX8_ring_67 : decode cX8_ring 67 = .ok (.aload_n 0, 1) := by decide +kernel
theorem dX8_ring_68 : decode cX8_ring 68 = .ok (.iload 4, 2) := by decide +kernel
theorem dX8_ring_70 : decode cX8_ring 70 = .ok (.iload 5, 2) := by decide +kernel
theorem dX8_ring_72 : decode cX8_ring 72 = .ok (.invokevirtual 189, 3) := by decide +kernel
theorem dX8_ring_75 : decode cX8_ring 75 = .ok (.ifCond .eq 39, 3) := by decide +kernel
theorem dX8_ring_78 : decode cX8_ring 78 = .ok (.aload_n 0, 1) := by decide +kernel
theorem dX8_ring_79 : decode cX8_ring 79 = .ok (.iload 5, 2) := by decide +kernel
theorem dX8_ring_81 : decode cX8_ring 81 = .ok (.iload_n 3, 1) := by decide +kernel
theorem dX8_ring_82 : decode cX8_ring 82 = .ok (.invokevirtual 189, 3) := by decide +kernel
theorem dX8_ring_85 : decode cX8_ring 85 = .ok (.ifCond .eq 29, 3) := by decide +kernel
theorem dX8_ring_88 : decode cX8_ring 88 = .ok (.aload_n 0, 1) := by decide +kernel
theorem dX8_ring_89 : decode cX8_ring 89 = .ok (.getfield 66, 3) := by decide +kernel
theorem dX8_ring_92 : decode cX8_ring 92 = .ok (.iload_n 2, 1) := by decide +kernel
theorem dX8_ring_93 : decode cX8_ring 93 = .ok (.ifCond .ne 7, 3) := by decide +kernel
theorem dX8_ring_96 : decode cX8_ring 96 = .ok (.iload_n 3, 1) := by decide +kernel
theorem dX8_ring_97 : decode cX8_ring 97 = .ok (.goto 15, 3) := by decide +kernel
theorem dX8_ring_100 : decode cX8_ring 100 = .ok (.iload_n 2, 1) := by decide +kernel
theorem dX8_ring_101 : decode cX8_ring 101 = .ok (.iconst 1, 1) := by decide +kernel
theorem dX8_ring_102 : decode cX8_ring 102 = .ok (.if_icmp .ne 8, 3) := by decide +kernel
theorem dX8_ring_105 : decode cX8_ring 105 = .ok (.iload 4, 2) := by decide +kernel
theorem dX8_ring_107 : decode cX8_ring 107 = .ok (.goto 5, 3) := by decide +kernel
theorem dX8_ring_110 : decode cX8_ring 110 = .ok (.iload 5, 2) := by decide +kernel
theorem dX8_ring_112 : decode cX8_ring 112 = .ok (.iaload, 1) := by decide +kernel
theorem dX8_ring_113 : decode cX8_ring 113 = .ok (.ireturn, 1) := by decide +kernel
theorem dX8_ring_114 : decode cX8_ring 114 = .ok (.iinc 5 1, 3) := by decide +kernel
theorem dX8_ring_117 : decode cX8_ring 117 = .ok (.goto (-69), 3) := by decide +kernel
theorem dX8_ring_120 : decode cX8_ring 120 = .ok (.iinc 4 1, 3) := by decide +kernel
theorem dX8_ring_123 : decode cX8_ring 123 = .ok (.goto (-87), 3) := by decide +kernel
theorem dX8_ring_126 : decode cX8_ring 126 = .ok (.iinc 3 1, 3) := by decide +kernel
theorem dX8_ring_129 : decode cX8_ring 129 = .ok (.goto (-104), 3) := by decide +kernel
theorem dX8_ring_132 : decode cX8_ring 132 = .ok (.iconst (-1), 1) := by decide +kernel
theorem dX8_ring_133 : decode cX8_ring 133 = .ok (.ireturn, 1) := by decide +kernel
theorem dX8_isMore_0 : decode cX8_isMore 0 = .ok (.aload_n 0, 1) := by decide +kernel
theorem dX8_isMore_1 : decode cX8_isMore 1 = .ok (.getfield 69, 3) := by decide +kernel
theorem dX8_isMore_4 : decode cX8_isMore 4 = .ok (.bipush 8, 2) := by decide +kernel
theorem dX8_isMore_6 : decode cX8_isMore 6 = .ok (.iload_n 1, 1) := by decide +kernel
theorem dX8_isMore_7 : decode cX8_isMore 7 = .ok (.imul, 1) := by decide +kernel
theorem dX8_isMore_8 : decode cX8_isMore 8 = .ok (.iload_n 2, 1) := by decide +kernel
theorem dX8_isMore_9 : decode cX8_isMore 9 = .ok (.iadd, 1) := by decide +kernel
theorem dX8_isMore_10 : decode cX8_isMore 10 = .ok (.iaload, 1) := by decide +kernel
theorem dX8_isMore_11 : decode cX8_isMore 11 = .ok (.aload_n 0, 1) := by decide +kernel
theorem dX8_isMore_12 : decode cX8_isMore 12 = .ok (.getfield 69, 3) := by decide +kernel
theorem dX8_isMore_15 : decode cX8_isMore 15 = .ok (.bipush 8, 2) := by decide +kernel
theorem dX8_isMore_17 : decode cX8_isMore 17 = .ok (.iload_n 2, 1) := by decide +kernel
theorem dX8_isMore_18 : decode cX8_isMore 18 = .ok (.imul, 1) := by decide +kernel
theorem dX8_isMore_19 : decode cX8_isMore 19 = .ok (.iload_n 1, 1) := by decide +kernel
theorem dX8_isMore_20 : decode cX8_isMore 20 = .ok (.iadd, 1) := by decide +kernel
theorem dX8_isMore_21 : decode cX8_isMore 21 = .ok (.iaload, 1) := by decide +kernel
theorem dX8_isMore_22 : decode cX8_isMore 22 = .ok (.if_icmp .le 7, 3) := by decide +kernel
theorem dX8_isMore_25 : decode cX8_isMore 25 = .ok (.iconst 1, 1) := by decide +kernel
theorem dX8_isMore_26 : decode cX8_isMore 26 = .ok (.goto 4, 3) := by decide +kernel
theorem dX8_isMore_29 : decode cX8_isMore 29 = .ok (.iconst 0, 1) := by decide +kernel
theorem dX8_isMore_30 : decode cX8_isMore 30 = .ok (.ireturn, 1) := by decide +kernel
theorem dX8_placeNow_0 : decode cX8_placeNow 0 = .ok (.iconst 0, 1) := by decide +kernel
theorem dX8_placeNow_1 : decode cX8_placeNow 1 = .ok (.istore_n 2, 1) := by decide +kernel
theorem dX8_placeNow_2 : decode cX8_placeNow 2 = .ok (.iload_n 2, 1) := by decide +kernel
theorem dX8_placeNow_3 : decode cX8_placeNow 3 = .ok (.aload_n 0, 1) := by decide +kernel
theorem dX8_placeNow_4 : decode cX8_placeNow 4 = .ok (.getfield 176, 3) := by decide +kernel
theorem dX8_placeNow_7 : decode cX8_placeNow 7 = .ok (.if_icmp .ge 23, 3) := by decide +kernel
theorem dX8_placeNow_10 : decode cX8_placeNow 10 = .ok (.aload_n 0, 1) := by decide +kernel
theorem dX8_placeNow_11 : decode cX8_placeNow 11 = .ok (.getfield 75, 3) := by decide +kernel
theorem dX8_placeNow_14 : decode cX8_placeNow 14 = .ok (.iload_n 2, 1) := by decide +kernel
theorem dX8_placeNow_15 : decode cX8_placeNow 15 = .ok (.iaload, 1) := by decide +kernel
theorem dX8_placeNow_16 : decode cX8_placeNow 16 = .ok (.iload_n 1, 1) := by decide +kernel
theorem dX8_placeNow_17 : decode cX8_placeNow 17 = .ok (.if_icmp .ne 7, 3) := by decide +kernel
theorem dX8_placeNow_20 : decode cX8_placeNow 20 = .ok (.iload_n 2, 1) := by decide +kernel
theorem dX8_placeNow_21 : decode cX8_placeNow 21 = .ok (.iconst 1, 1) := by decide +kernel
theorem dX8_placeNow_22 : decode cX8_placeNow 22 = .ok (.iadd, 1) := by decide +kernel
theorem dX8_placeNow_23 : decode cX8_placeNow 23 = .ok (.ireturn, 1) := by decide +kernel
theorem dX8_placeNow_24 : decode cX8_placeNow 24 = .ok (.iinc 2 1, 3) := by decide +kernel
theorem dX8_placeNow_27 : decode cX8_placeNow 27 = .ok (.goto (-25), 3) := by decide +kernel
theorem dX8_placeNow_30 : decode cX8_placeNow 30 = .ok (.iconst (-1), 1) := by decide +kernel
theorem dX8_placeNow_31 : decode cX8_placeNow 31 = .ok (.ireturn, 1) := by decide +kernel
theorem dX8_cut_0 : decode cX8_cut 0 = .ok (.iload_n 1, 1) := by decide +kernel
theorem dX8_cut_1 : decode cX8_cut 1 = .ok (.invokestatic 139, 3) := by decide +kernel
theorem dX8_cut_4 : decode cX8_cut 4 = .ok (.ifCond .eq 22, 3) := by decide +kernel
theorem dX8_cut_7 : decode cX8_cut 7 = .ok (.iload_n 2, 1) := by decide +kernel
theorem dX8_cut_8 : decode cX8_cut 8 = .ok (.iconst 1, 1) := by decide +kernel
theorem dX8_cut_9 : decode cX8_cut 9 = .ok (.iconst 3, 1) := by decide +kernel
theorem dX8_cut_10 : decode cX8_cut 10 = .ok (.invokestatic 87, 3) := by decide +kernel
theorem dX8_cut_13 : decode cX8_cut 13 = .ok (.ifCond .eq 13, 3) := by decide +kernel
theorem dX8_cut_16 : decode cX8_cut 16 = .ok (.iload_n 3, 1) := by decide +kernel
theorem dX8_cut_17 : decode cX8_cut 17 = .ok (.iconst 0, 1) := by decide +kernel
theorem dX8_cut_18 : decode cX8_cut 18 = .ok (.bipush 15, 2) := by decide +kernel
theorem dX8_cut_20 : decode cX8_cut 20 = .ok (.invokestatic 87, 3) := by decide +kernel
theorem dX8_cut_23 : decode cX8_cut 23 = .ok (.ifCond .ne 5, 3) := by decide +kernel
theorem dX8_cut_26 : decode cX8_cut 26 = .ok (.iconst 0, 1) := by decide +kernel
theorem dX8_cut_27 : decode cX8_cut 27 = .ok (.ireturn, 1) := by decide +kernel
theorem dX8_cut_28 : decode cX8_cut 28 = .ok (.aload_n 0, 1) := by decide +kernel
theorem dX8_cut_29 : decode cX8_cut 29 = .ok (.getfield 63, 3) := by decide +kernel
theorem dX8_cut_32 : decode cX8_cut 32 = .ok (.iconst 3, 1) := by decide +kernel
theorem dX8_cut_33 : decode cX8_cut 33 = .ok (.iload_n 1, 1) := by decide +kernel
theorem dX8_cut_34 : decode cX8_cut 34 = .ok (.imul, 1) := by decide +kernel
theorem dX8_cut_35 : decode cX8_cut 35 = .ok (.iload_n 2, 1) := by decide +kernel
theorem dX8_cut_36 : decode cX8_cut 36 = .ok (.iadd, 1) := by decide +kernel
theorem dX8_cut_37 : decode cX8_cut 37 = .ok (.iconst 1, 1) := by decide +kernel
theorem dX8_cut_38 : decode cX8_cut 38 = .ok (.isub, 1) := by decide +kernel
theorem dX8_cut_39 : decode cX8_cut 39 = .ok (.iload_n 3, 1) := by decide +kernel
theorem dX8_cut_40 : decode cX8_cut 40 = .ok (.iastore, 1) := by decide +kernel
theorem dX8_cut_41 : decode cX8_cut 41 = .ok (.iconst 1, 1) := by decide +kernel
theorem dX8_cut_42 : decode cX8_cut 42 = .ok (.ireturn, 1) := by decide +kernel
theorem dX8_card_0 : decode cX8_card 0 = .ok (.iload_n 1, 1) := by decide +kernel
theorem dX8_card_1 : decode cX8_card 1 = .ok (.invokestatic 139, 3) := by decide +kernel
theorem dX8_card_4 : decode cX8_card 4 = .ok (.ifCond .ne 5, 3) := by decide +kernel
theorem dX8_card_7 : decode cX8_card 7 = .ok (.iconst (-1), 1) := by decide +kernel
theorem dX8_card_8 : decode cX8_card 8 = .ok (.ireturn, 1) := by decide +kernel
theorem dX8_card_9 : decode cX8_card 9 = .ok (.aload_n 0, 1) := by decide +kernel
theorem dX8_card_10 : decode cX8_card 10 = .ok (.iload_n 1, 1) := by decide +kernel
theorem dX8_card_11 : decode cX8_card 11 = .ok (.invokevirtual 186, 3) := by decide +kernel
theorem dX8_card_14 : decode cX8_card 14 = .ok (.aload_n 0, 1) := by decide +kernel
theorem dX8_card_15 : decode cX8_card 15 = .ok (.getfield 176, 3) := by decide +kernel
theorem dX8_card_18 : decode cX8_card 18 = .ok (.iconst 4, 1) := by decide +kernel
theorem dX8_card_19 : decode cX8_card 19 = .ok (.if_icmp .ge 10, 3) := by decide +kernel
theorem dX8_card_22 : decode cX8_card 22 = .ok (.aload_n 0, 1) := by decide +kernel
theorem dX8_card_23 : decode cX8_card 23 = .ok (.getfield 176, 3) := by decide +kernel
theorem dX8_card_26 : decode cX8_card 26 = .ok (.goto 4, 3) := by decide +kernel
theorem dX8_card_29 : decode cX8_card 29 = .ok (.iconst 4, 1) := by decide +kernel
theorem dX8_card_30 : decode cX8_card 30 = .ok (.istore_n 2, 1) := by decide +kernel
theorem dX8_card_31 : decode cX8_card 31 = .ok (.aload_n 0, 1) := by decide +kernel
theorem dX8_card_32 : decode cX8_card 32 = .ok (.getfield 176, 3) := by decide +kernel
theorem dX8_card_35 : decode cX8_card 35 = .ok (.iconst 2, 1) := by decide +kernel
theorem dX8_card_36 : decode cX8_card 36 = .ok (.if_icmp .lt 11, 3) := by decide +kernel
theorem dX8_card_39 : decode cX8_card 39 = .ok (.aload_n 0, 1) := by decide +kernel
theorem dX8_card_40 : decode cX8_card 40 = .ok (.getfield 94, 3) := by decide +kernel
theorem dX8_card_43 : decode cX8_card 43 = .ok (.iload_n 2, 1) := by decide +kernel
theorem dX8_card_44 : decode cX8_card 44 = .ok (.if_icmp .ge 5, 3) := by decide +kernel
theorem dX8_card_47 : decode cX8_card 47 = .ok (.iconst (-1), 1) := by decide +kernel
theorem dX8_card_48 : decode cX8_card 48 = .ok (.ireturn, 1) := by decide +kernel
theorem dX8_card_49 : decode cX8_card 49 = .ok (.aload_n 0, 1) := by decide +kernel
theorem dX8_card_50 : decode cX8_card 50 = .ok (.iconst 0, 1) := by decide +kernel
theorem dX8_card_51 : decode cX8_card 51 = .ok (.putfield 94, 3) := by decide +kernel
theorem dX8_card_54 : decode cX8_card 54 = .ok (.iconst 0, 1) := by decide +kernel
theorem dX8_card_55 : decode cX8_card 55 = .ok (.istore_n 3, 1) := by decide +kernel
theorem dX8_card_56 : decode cX8_card 56 = .ok (.iconst 0, 1) := by decide +kernel
theorem dX8_card_57 : decode cX8_card 57 = .ok (.istore 4, 2) := by decide +kernel
theorem dX8_card_59 : decode cX8_card 59 = .ok (.iload 4, 2) := by decide +kernel
theorem dX8_card_61 : decode cX8_card 61 = .ok (.iload_n 2, 1) := by decide +kernel
theorem dX8_card_62 : decode cX8_card 62 = .ok (.if_icmp .ge 21, 3) := by decide +kernel
theorem dX8_card_65 : decode cX8_card 65 = .ok (.iload_n 3, 1) := by decide +kernel
theorem dX8_card_66 : decode cX8_card 66 = .ok (.iconst 1, 1) := by decide +kernel
theorem dX8_card_67 : decode cX8_card 67 = .ok (.aload_n 0, 1) := by decide +kernel
theorem dX8_card_68 : decode cX8_card 68 = .ok (.getfield 75, 3) := by decide +kernel
theorem dX8_card_71 : decode cX8_card 71 = .ok (.iload 4, 2) := by decide +kernel
theorem dX8_card_73 : decode cX8_card 73 = .ok (.iaload, 1) := by decide +kernel
theorem dX8_card_74 : decode cX8_card 74 = .ok (.ishl, 1) := by decide +kernel
theorem dX8_card_75 : decode cX8_card 75 = .ok (.ior, 1) := by decide +kernel
theorem dX8_card_76 : decode cX8_card 76 = .ok (.istore_n 3, 1) := by decide +kernel
theorem dX8_card_77 : decode cX8_card 77 = .ok (.iinc 4 1, 3) := by decide +kernel
theorem dX8_card_80 : decode cX8_card 80 = .ok (.goto (-21), 3) := by decide +kernel
theorem dX8_card_83 : decode cX8_card 83 = .ok (.aload_n 0, 1) := by decide +kernel
theorem dX8_card_84 : decode cX8_card 84 = .ok (.iload_n 3, 1) := by decide +kernel
theorem dX8_card_85 : decode cX8_card 85 = .ok (.invokevirtual 166, 3) := by decide +kernel
theorem dX8_card_88 : decode cX8_card 88 = .ok (.ifCond .ne 5, 3) := by decide +kernel
theorem dX8_card_91 : decode cX8_card 91 = .ok (.iconst (-1), 1) := by decide +kernel
theorem dX8_card_92 : decode cX8_card 92 = .ok (.ireturn, 1) := by decide +kernel
theorem dX8_card_93 : decode cX8_card 93 = .ok (.bipush 50, 2) := by decide +kernel
theorem dX8_card_95 : decode cX8_card 95 = .ok (.istore 4, 2) := by decide +kernel
theorem dX8_card_97 : decode cX8_card 97 = .ok (.iconst 0, 1) := by decide +kernel
theorem dX8_card_98 : decode cX8_card 98 = .ok (.istore 5, 2) := by decide +kernel
theorem dX8_card_100 : decode cX8_card 100 = .ok (.iload 5, 2) := by decide +kernel
theorem dX8_card_102 : decode cX8_card 102 = .ok (.iload_n 2, 1) := by decide +kernel
theorem dX8_card_103 : decode cX8_card 103 = .ok (.if_icmp .ge 88, 3) := by decide +kernel
theorem dX8_card_106 : decode cX8_card 106 = .ok (.iload 5, 2) := by decide +kernel
theorem dX8_card_108 : decode cX8_card 108 = .ok (.iconst 1, 1) := by decide +kernel
theorem dX8_card_109 : decode cX8_card 109 = .ok (.iadd, 1) := by decide +kernel
theorem dX8_card_110 : decode cX8_card 110 = .ok (.istore 6, 2) := by decide +kernel
theorem dX8_card_112 : decode cX8_card 112 = .ok (.iload 6, 2) := by decide +kernel
theorem dX8_card_114 : decode cX8_card 114 = .ok (.iload_n 2, 1) := by decide +kernel
theorem dX8_card_115 : decode cX8_card 115 = .ok (.if_icmp .ge 70, 3) := by decide +kernel
theorem dX8_card_118 : decode cX8_card 118 = .ok (.aload_n 0, 1) := by decide +kernel
theorem dX8_card_119 : decode cX8_card 119 = .ok (.aload_n 0, 1) := by decide +kernel
theorem dX8_card_120 : decode cX8_card 120 = .ok (.getfield 7, 3) := by decide +kernel
theorem dX8_card_123 : decode cX8_card 123 = .ok (.iload 5, 2) := by decide +kernel
theorem dX8_card_125 : decode cX8_card 125 = .ok (.baload, 1) := by decide +kernel
theorem dX8_card_126 : decode cX8_card 126 = .ok (.invokevirtual 192, 3) := by decide +kernel
theorem dX8_card_129 : decode cX8_card 129 = .ok (.istore 7, 2) := by decide +kernel
theorem dX8_card_131 : decode cX8_card 131 = .ok (.aload_n 0, 1) := by decide +kernel
theorem dX8_card_132 : decode cX8_card 132 = .ok (.aload_n 0, 1) := by decide +kernel
theorem dX8_card_133 : decode cX8_card 133 = .ok (.getfield 7, 3) := by decide +kernel
theorem dX8_card_136 : decode cX8_card 136 = .ok (.iload 6, 2) := by decide +kernel
theorem dX8_card_138 : decode cX8_card 138 = .ok (.baload, 1) := by decide +kernel
theorem dX8_card_139 : decode cX8_card 139 = .ok (.invokevirtual 192, 3) := by decide +kernel
theorem dX8_card_142 : decode cX8_card 142 = .ok (.istore 8, 2) := by decide +kernel
theorem dX8_card_144 : decode cX8_card 144 = .ok (.iload 8, 2) := by decide +kernel
theorem dX8_card_146 : decode cX8_card 146 = .ok (.istore 9, 2) := by decide +kernel
theorem dX8_card_148 : decode cX8_card 148 = .ok (.iload 9, 2) := by decide +kernel
theorem dX8_card_150 : decode cX8_card 150 = .ok (.iload 7, 2) := by decide +kernel
theorem dX8_card_152 : decode cX8_card 152 = .ok (.if_icmp .ge 27, 3) := by decide +kernel
theorem dX8_card_155 : decode cX8_card 155 = .ok (.iload 4, 2) := by decide +kernel
theorem dX8_card_157 : decode cX8_card 157 = .ok (.aload_n 0, 1) := by decide +kernel
theorem dX8_card_158 : decode cX8_card 158 = .ok (.getfield 63, 3) := by decide +kernel
theorem dX8_card_161 : decode cX8_card 161 = .ok (.iconst 3, 1) := by decide +kernel
theorem dX8_card_162 : decode cX8_card 162 = .ok (.iload_n 1, 1) := by decide +kernel
theorem dX8_card_163 : decode cX8_card 163 = .ok (.imul, 1) := by decide +kernel
theorem dX8_card_164 : decode cX8_card 164 = .ok (.iload 9, 2) := by decide +kernel
theorem dX8_card_166 : decode cX8_card 166 = .ok (.iadd, 1) := by decide +kernel
theorem dX8_card_167 : decode cX8_card 167 = .ok (.iconst 1, 1) := by decide +kernel
theorem dX8_card_168 : decode cX8_card 168 = .ok (.isub, 1) := by decide +kernel
theorem dX8_card_169 : decode cX8_card 169 = .ok (.iaload, 1) := by decide +kernel
theorem dX8_card_170 : decode cX8_card 170 = .ok (.isub, 1) := by decide +kernel
theorem dX8_card_171 : decode cX8_card 171 = .ok (.istore 4, 2) := by decide +kernel
theorem dX8_card_173 : decode cX8_card 173 = .ok (.iinc 9 1, 3) := by decide +kernel
theorem dX8_card_176 : decode cX8_card 176 = .ok (.goto (-28), 3) := by decide +kernel
theorem dX8_card_179 : decode cX8_card 179 = .ok (.iinc 6 1, 3) := by decide +kernel
theorem dX8_card_182 : decode cX8_card 182 = .ok (.goto (-70), 3) := by decide +kernel
theorem dX8_card_185 : decode cX8_card 185 = .ok (.iinc 5 1, 3) := by decide +kernel
theorem dX8_card_188 : decode cX8_card 188 = .ok (.goto (-88), 3) := by decide +kernel
theorem dX8_card_191 : decode cX8_card 191 = .ok (.iload 4, 2) := by decide +kernel
theorem dX8_card_193 : decode cX8_card 193 = .ok (.ifCond .ge 7, 3) := by decide +kernel
theorem dX8_card_196 : decode cX8_card 196 = .ok (.iconst 0, 1) := by decide +kernel
theorem dX8_card_197 : decode cX8_card 197 = .ok (.goto 5, 3) := by decide +kernel
theorem dX8_card_200 : decode cX8_card 200 = .ok (.iload 4, 2) := by decide +kernel
theorem dX8_card_202 : decode cX8_card 202 = .ok (.ireturn, 1) := by decide +kernel
theorem dX8_place_0 : decode cX8_place 0 = .ok (.aload_n 0, 1) := by decide +kernel
theorem dX8_place_1 : decode cX8_place 1 = .ok (.invokevirtual 113, 3) := by decide +kernel
theorem dX8_place_4 : decode cX8_place 4 = .ok (.bipush 97, 2) := by decide +kernel
theorem dX8_place_6 : decode cX8_place 6 = .ok (.isub, 1) := by decide +kernel
theorem dX8_place_7 : decode cX8_place 7 = .ok (.iconst 1, 1) := by decide +kernel
theorem dX8_place_8 : decode cX8_place 8 = .ok (.iadd, 1) := by decide +kernel
theorem dX8_place_9 : decode cX8_place 9 = .ok (.istore_n 2, 1) := by decide +kernel
theorem dX8_place_10 : decode cX8_place 10 = .ok (.iload_n 2, 1) := by decide +kernel
theorem dX8_place_11 : decode cX8_place 11 = .ok (.iconst 1, 1) := by decide +kernel
theorem dX8_place_12 : decode cX8_place 12 = .ok (.bipush 8, 2) := by decide +kernel
theorem dX8_place_14 : decode cX8_place 14 = .ok (.invokestatic 87, 3) := by decide +kernel
theorem dX8_place_17 : decode cX8_place 17 = .ok (.ifCond .ne 15, 3) := by decide +kernel
theorem dX8_place_20 : decode cX8_place 20 = .ok (.aload_n 0, 1) := by decide +kernel
theorem dX8_place_21 : decode cX8_place 21 = .ok (.iconst 1, 1) := by decide +kernel
theorem dX8_place_22 : decode cX8_place 22 = .ok (.aload_n 0, 1) := by decide +kernel
theorem dX8_place_23 : decode cX8_place 23 = .ok (.getfield 101, 3) := by decide +kernel
theorem dX8_place_26 : decode cX8_place 26 = .ok (.invokevirtual 121, 3) := by decide +kernel
theorem dX8_place_29 : decode cX8_place 29 = .ok (.goto 25, 3) := by decide +kernel
theorem dX8_place_32 : decode cX8_place 32 = .ok (.iload_n 2, 1) := by decide +kernel
theorem dX8_place_33 : decode cX8_place 33 = .ok (.aload_n 0, 1) := by decide +kernel
theorem dX8_place_34 : decode cX8_place 34 = .ok (.getfield 176, 3) := by decide +kernel
theorem dX8_place_37 : decode cX8_place 37 = .ok (.if_icmp .gt 8, 3) := by decide +kernel
theorem dX8_place_40 : decode cX8_place 40 = .ok (.iload_n 2, 1) := by decide +kernel
theorem dX8_place_41 : decode cX8_place 41 = .ok (.iload_n 1, 1) := by decide +kernel
theorem dX8_place_42 : decode cX8_place 42 = .ok (.if_icmp .ne 12, 3) := by decide +kernel
theorem dX8_place_45 : decode cX8_place 45 = .ok (.aload_n 0, 1) := by decide +kernel
theorem dX8_place_46 : decode cX8_place 46 = .ok (.iconst 2, 1) := by decide +kernel
theorem dX8_place_47 : decode cX8_place 47 = .ok (.aload_n 0, 1) := by decide +kernel
theorem dX8_place_48 : decode cX8_place 48 = .ok (.getfield 101, 3) := by decide +kernel
theorem dX8_place_51 : decode cX8_place 51 = .ok (.invokevirtual 121, 3) := by decide +kernel
theorem dX8_place_54 : decode cX8_place 54 = .ok (.aload_n 0, 1) := by decide +kernel
theorem dX8_place_55 : decode cX8_place 55 = .ok (.dup, 1) := by decide +kernel
theorem dX8_place_56 : decode cX8_place 56 = .ok (.getfield 101, 3) := by decide +kernel
theorem dX8_place_59 : decode cX8_place 59 = .ok (.iconst 1, 1) := by decide +kernel
theorem dX8_place_60 : decode cX8_place 60 = .ok (.iadd, 1) := by decide +kernel
theorem dX8_place_61 : decode cX8_place 61 = .ok (.putfield 101, 3) := by decide +kernel
theorem dX8_place_64 : decode cX8_place 64 = .ok (.iload_n 2, 1) := by decide +kernel
theorem dX8_place_65 : decode cX8_place 65 = .ok (.ireturn, 1) := by decide +kernel
theorem dX8_must_0 : decode cX8_must 0 = .ok (.aload_n 0, 1) := by decide +kernel
theorem dX8_must_1 : decode cX8_must 1 = .ok (.invokevirtual 113, 3) := by decide +kernel
theorem dX8_must_4 : decode cX8_must 4 = .ok (.iload_n 1, 1) := by decide +kernel
theorem dX8_must_5 : decode cX8_must 5 = .ok (.if_icmp .eq 12, 3) := by decide +kernel
theorem dX8_must_8 : decode cX8_must 8 = .ok (.aload_n 0, 1) := by decide +kernel
theorem dX8_must_9 : decode cX8_must 9 = .ok (.iconst 1, 1) := by decide +kernel
theorem dX8_must_10 : decode cX8_must 10 = .ok (.aload_n 0, 1) := by decide +kernel
theorem dX8_must_11 : decode cX8_must 11 = .ok (.getfield 101, 3) := by decide +kernel
theorem dX8_must_14 : decode cX8_must 14 = .ok (.invokevirtual 121, 3) := by decide +kernel
theorem dX8_must_17 : decode cX8_must 17 = .ok (.aload_n 0, 1) := by decide +kernel
theorem dX8_must_18 : decode cX8_must 18 = .ok (.dup, 1) := by decide +kernel
theorem dX8_must_19 : decode cX8_must 19 = .ok (.getfield 101, 3) := by decide +kernel
theorem dX8_must_22 : decode cX8_must 22 = .ok (.iconst 1, 1) := by decide +kernel
theorem dX8_must_23 : decode cX8_must 23 = .ok (.iadd, 1) := by decide +kernel
theorem dX8_must_24 : decode cX8_must 24 = .ok (.putfield 101, 3) := by decide +kernel
theorem dX8_must_27 : decode cX8_must 27 = .ok (.return_, 1) := by decide +kernel
theorem dX8_pair_0 : decode cX8_pair 0 = .ok (.aload_n 0, 1) := by decide +kernel
theorem dX8_pair_1 : decode cX8_pair 1 = .ok (.getfield 101, 3) := by decide +kernel
theorem dX8_pair_4 : decode cX8_pair 4 = .ok (.istore_n 1, 1) := by decide +kernel
theorem dX8_pair_5 : decode cX8_pair 5 = .ok (.aload_n 0, 1) := by decide +kernel
theorem dX8_pair_6 : decode cX8_pair 6 = .ok (.iconst (-1), 1) := by decide +kernel
theorem dX8_pair_7 : decode cX8_pair 7 = .ok (.invokevirtual 195, 3) := by decide +kernel
theorem dX8_pair_10 : decode cX8_pair 10 = .ok (.istore_n 2, 1) := by decide +kernel
theorem dX8_pair_11 : decode cX8_pair 11 = .ok (.aload_n 0, 1) := by decide +kernel
theorem dX8_pair_12 : decode cX8_pair 12 = .ok (.getfield 107, 3) := by decide +kernel
theorem dX8_pair_15 : decode cX8_pair 15 = .ok (.ifCond .ne 9, 3) := by decide +kernel
theorem dX8_pair_18 : decode cX8_pair 18 = .ok (.aload_n 0, 1) := by decide +kernel
theorem dX8_pair_19 : decode cX8_pair 19 = .ok (.bipush 62, 2) := by decide +kernel
theorem dX8_pair_21 : decode cX8_pair 21 = .ok (.invokevirtual 198, 3) := by decide +kernel
theorem dX8_pair_24 : decode cX8_pair 24 = .ok (.aload_n 0, 1) := by decide +kernel
theorem dX8_pair_25 : decode cX8_pair 25 = .ok (.getfield 107, 3) := by decide +kernel
theorem dX8_pair_28 : decode cX8_pair 28 = .ok (.ifCond .ne 11, 3) := by decide +kernel
theorem dX8_pair_31 : decode cX8_pair 31 = .ok (.aload_n 0, 1) := by decide +kernel
theorem dX8_pair_32 : decode cX8_pair 32 = .ok (.iload_n 2, 1) := by decide +kernel
theorem dX8_pair_33 : decode cX8_pair 33 = .ok (.invokevirtual 195, 3) := by decide +kernel
theorem dX8_pair_36 : decode cX8_pair 36 = .ok (.goto 4, 3) := by decide +kernel
theorem dX8_pair_39 : decode cX8_pair 39 = .ok (.iconst 0, 1) := by decide +kernel
theorem dX8_pair_40 : decode cX8_pair 40 = .ok (.istore_n 3, 1) := by decide +kernel
theorem dX8_pair_41 : decode cX8_pair 41 = .ok (.aload_n 0, 1) := by decide +kernel
theorem dX8_pair_42 : decode cX8_pair 42 = .ok (.getfield 107, 3) := by decide +kernel
theorem dX8_pair_45 : decode cX8_pair 45 = .ok (.ifCond .ne 14, 3) := by decide +kernel
theorem dX8_pair_48 : decode cX8_pair 48 = .ok (.iload_n 2, 1) := by decide +kernel
theorem dX8_pair_49 : decode cX8_pair 49 = .ok (.iload_n 3, 1) := by decide +kernel
theorem dX8_pair_50 : decode cX8_pair 50 = .ok (.if_icmp .le 9, 3) := by decide +kernel
theorem dX8_pair_53 : decode cX8_pair 53 = .ok (.aload_n 0, 1) := by decide +kernel
theorem dX8_pair_54 : decode cX8_pair 54 = .ok (.iconst 3, 1) := by decide +kernel
theorem dX8_pair_55 : decode cX8_pair 55 = .ok (.iload_n 1, 1) := by decide +kernel
theorem dX8_pair_56 : decode cX8_pair 56 = .ok (.invokevirtual 121, 3) := by decide +kernel
theorem dX8_pair_59 : decode cX8_pair 59 = .ok (.aload_n 0, 1) := by decide +kernel
theorem dX8_pair_60 : decode cX8_pair 60 = .ok (.getfield 107, 3) := by decide +kernel
theorem dX8_pair_63 : decode cX8_pair 63 = .ok (.ifCond .ne 9, 3) := by decide +kernel
theorem dX8_pair_66 : decode cX8_pair 66 = .ok (.aload_n 0, 1) := by decide +kernel
theorem dX8_pair_67 : decode cX8_pair 67 = .ok (.bipush 58, 2) := by decide +kernel
theorem dX8_pair_69 : decode cX8_pair 69 = .ok (.invokevirtual 198, 3) := by decide +kernel
theorem dX8_pair_72 : decode cX8_pair 72 = .ok (.iconst 0, 1) := by decide +kernel
theorem dX8_pair_73 : decode cX8_pair 73 = .ok (.istore 4, 2) := by decide +kernel
theorem dX8_pair_75 : decode cX8_pair 75 = .ok (.aload_n 0, 1) := by decide +kernel
theorem dX8_pair_76 : decode cX8_pair 76 = .ok (.getfield 107, 3) := by decide +kernel
theorem dX8_pair_79 : decode cX8_pair 79 = .ok (.ifCond .ne 202, 3) := by decide +kernel
theorem dX8_pair_82 : decode cX8_pair 82 = .ok (.iload 4, 2) := by decide +kernel
theorem dX8_pair_84 : decode cX8_pair 84 = .ok (.ifCond .eq 19, 3) := by decide +kernel
theorem dX8_pair_87 : decode cX8_pair 87 = .ok (.aload_n 0, 1) := by decide +kernel
theorem dX8_pair_88 : decode cX8_pair 88 = .ok (.invokevirtual 113, 3) := by decide +kernel
theorem dX8_pair_91 : decode cX8_pair 91 = .ok (.bipush 45, 2) := by decide +kernel
theorem dX8_pair_93 : decode cX8_pair 93 = .ok (.if_icmp .eq 10, 3) := by decide +kernel
theorem dX8_pair_96 : decode cX8_pair 96 = .ok (.aload_n 0, 1) := by decide +kernel
theorem dX8_pair_97 : decode cX8_pair 97 = .ok (.invokevirtual 117, 3) := by decide +kernel
theorem dX8_pair_100 : decode cX8_pair 100 = .ok (.ifCond .eq 181, 3) := by decide +kernel
theorem dX8_pair_103 : decode cX8_pair 103 = .ok (.iload 4, 2) := by decide +kernel
theorem dX8_pair_105 : decode cX8_pair 105 = .ok (.iconst 4, 1) := by decide +kernel
theorem dX8_pair_106 : decode cX8_pair 106 = .ok (.if_icmp .ne 12, 3) := by decide +kernel
theorem dX8_pair_109 : decode cX8_pair 109 = .ok (.aload_n 0, 1) := by decide +kernel
theorem dX8_pair_110 : decode cX8_pair 110 = .ok (.iconst 1, 1) := by decide +kernel
theorem dX8_pair_111 : decode cX8_pair 111 = .ok (.aload_n 0, 1) := by decide +kernel
theorem dX8_pair_112 : decode cX8_pair 112 = .ok (.getfield 101, 3) := by decide +kernel
theorem dX8_pair_115 : decode cX8_pair 115 = .ok (.invokevirtual 121, 3) := by decide +kernel
theorem dX8_pair_118 : decode cX8_pair 118 = .ok (.aload_n 0, 1) := by decide +kernel
theorem dX8_pair_119 : decode cX8_pair 119 = .ok (.invokevirtual 113, 3) := by decide +kernel
theorem dX8_pair_122 : decode cX8_pair 122 = .ok (.bipush 45, 2) := by decide +kernel
theorem dX8_pair_124 : decode cX8_pair 124 = .ok (.if_icmp .ne 7, 3) := by decide +kernel
theorem dX8_pair_127 : decode cX8_pair 127 = .ok (.iconst 1, 1) := by decide +kernel
theorem dX8_pair_128 : decode cX8_pair 128 = .ok (.goto 4, 3) := by decide +kernel
theorem dX8_pair_131 : decode cX8_pair 131 = .ok (.iconst 0, 1) := by decide +kernel
theorem dX8_pair_132 : decode cX8_pair 132 = .ok (.istore 5, 2) := by decide +kernel
theorem dX8_pair_134 : decode cX8_pair 134 = .ok (.aload_n 0, 1) := by decide +kernel
theorem dX8_pair_135 : decode cX8_pair 135 = .ok (.dup, 1) := by decide +kernel
theorem dX8_pair_136 : decode cX8_pair 136 = .ok (.getfield 101, 3) := by decide +kernel
theorem dX8_pair_139 : decode cX8_pair 139 = .ok (.iload 5, 2) := by decide +kernel
theorem dX8_pair_141 : decode cX8_pair 141 = .ok (.ifCond .eq 7, 3) := by decide +kernel
theorem dX8_pair_144 : decode cX8_pair 144 = .ok (.iconst 1, 1) := by decide +kernel
theorem dX8_pair_145 : decode cX8_pair 145 = .ok (.goto 4, 3) := by decide +kernel
theorem dX8_pair_148 : decode cX8_pair 148 = .ok (.iconst 0, 1) := by decide +kernel
theorem dX8_pair_149 : decode cX8_pair 149 = .ok (.iadd, 1) := by decide +kernel
theorem dX8_pair_150 : decode cX8_pair 150 = .ok (.putfield 101, 3) := by decide +kernel
theorem dX8_pair_153 : decode cX8_pair 153 = .ok (.aload_n 0, 1) := by decide +kernel
theorem dX8_pair_154 : decode cX8_pair 154 = .ok (.invokevirtual 113, 3) := by decide +kernel
theorem dX8_pair_157 : decode cX8_pair 157 = .ok (.bipush 48, 2) := by decide +kernel
theorem dX8_pair_159 : decode cX8_pair 159 = .ok (.isub, 1) := by decide +kernel
theorem dX8_pair_160 : decode cX8_pair 160 = .ok (.istore 6, 2) := by decide +kernel
theorem dX8_pair_162 : decode cX8_pair 162 = .ok (.iload 6, 2) := by decide +kernel
theorem dX8_pair_164 : decode cX8_pair 164 = .ok (.iconst 0, 1) := by decide +kernel
theorem dX8_pair_165 : decode cX8_pair 165 = .ok (.iconst 2, 1) := by decide +kernel
theorem dX8_pair_166 : decode cX8_pair 166 = .ok (.invokestatic 87, 3) := by decide +kernel
theorem dX8_pair_169 : decode cX8_pair 169 = .ok (.ifCond .ne 12, 3) := by decide +kernel
theorem dX8_pair_172 : decode cX8_pair 172 = .ok (.aload_n 0, 1) := by decide +kernel
theorem dX8_pair_173 : decode cX8_pair 173 = .ok (.iconst 1, 1) := by decide +kernel
theorem dX8_pair_174 : decode cX8_pair 174 = .ok (.aload_n 0, 1) := by decide +kernel
theorem dX8_pair_175 : decode cX8_pair 175 = .ok (.getfield 101, 3) := by decide +kernel
theorem dX8_pair_178 : decode cX8_pair 178 = .ok (.invokevirtual 121, 3) := by decide +kernel
theorem dX8_pair_181 : decode cX8_pair 181 = .ok (.aload_n 0, 1) := by decide +kernel
theorem dX8_pair_182 : decode cX8_pair 182 = .ok (.getfield 107, 3) := by decide +kernel
theorem dX8_pair_185 : decode cX8_pair 185 = .ok (.ifCond .le 4, 3) := by decide +kernel
theorem dX8_pair_188 : decode cX8_pair 188 = .ok (.return_, 1) := by decide +kernel
theorem dX8_pair_189 : decode cX8_pair 189 = .ok (.aload_n 0, 1) := by decide +kernel
theorem dX8_pair_190 : decode cX8_pair 190 = .ok (.getfield 30, 3) := by decide +kernel
theorem dX8_pair_193 : decode cX8_pair 193 = .ok (.iconst 3, 1) := by decide +kernel
theorem dX8_pair_194 : decode cX8_pair 194 = .ok (.aload_n 0, 1) := by decide +kernel
theorem dX8_pair_195 : decode cX8_pair 195 = .ok (.getfield 75, 3) := by decide +kernel
theorem dX8_pair_198 : decode cX8_pair 198 = .ok (.iload_n 2, 1) := by decide +kernel
theorem dX8_pair_199 : decode cX8_pair 199 = .ok (.iconst 1, 1) := by decide +kernel
theorem dX8_pair_200 : decode cX8_pair 200 = .ok (.isub, 1) := by decide +kernel
theorem dX8_pair_201 : decode cX8_pair 201 = .ok (.iaload, 1) := by decide +kernel
theorem dX8_pair_202 : decode cX8_pair 202 = .ok (.imul, 1) := by decide +kernel
theorem dX8_pair_203 : decode cX8_pair 203 = .ok (.iload 6, 2) := by decide +kernel
theorem dX8_pair_205 : decode cX8_pair 205 = .ok (.iadd, 1) := by decide +kernel
theorem dX8_pair_206 : decode cX8_pair 206 = .ok (.iaload, 1) := by decide +kernel
theorem dX8_pair_207 : decode cX8_pair 207 = .ok (.istore 7, 2) := by decide +kernel
theorem dX8_pair_209 : decode cX8_pair 209 = .ok (.aload_n 0, 1) := by decide +kernel
theorem dX8_pair_210 : decode cX8_pair 210 = .ok (.getfield 30, 3) := by decide +kernel
theorem dX8_pair_213 : decode cX8_pair 213 = .ok (.iconst 3, 1) := by decide +kernel
theorem dX8_pair_214 : decode cX8_pair 214 = .ok (.aload_n 0, 1) := by decide +kernel
theorem dX8_pair_215 : decode cX8_pair 215 = .ok (.getfield 75, 3) := by decide +kernel
theorem dX8_pair_218 : decode cX8_pair 218 = .ok (.iload_n 3, 1) := by decide +kernel
theorem dX8_pair_219 : decode cX8_pair 219 = .ok (.iconst 1, 1) := by decide +kernel
theorem dX8_pair_220 : decode cX8_pair 220 = .ok (.isub, 1) := by decide +kernel
theorem dX8_pair_221 : decode cX8_pair 221 = .ok (.iaload, 1) := by decide +kernel
theorem dX8_pair_222 : decode cX8_pair 222 = .ok (.imul, 1) := by decide +kernel
theorem dX8_pair_223 : decode cX8_pair 223 = .ok (.iload 6, 2) := by decide +kernel
theorem dX8_pair_225 : decode cX8_pair 225 = .ok (.iadd, 1) := by decide +kernel
theorem dX8_pair_226 : decode cX8_pair 226 = .ok (.iaload, 1) := by decide +kernel
theorem dX8_pair_227 : decode cX8_pair 227 = .ok (.istore 8, 2) := by decide +kernel
theorem dX8_pair_229 : decode cX8_pair 229 = .ok (.aload_n 0, 1) := by decide +kernel
theorem dX8_pair_230 : decode cX8_pair 230 = .ok (.dup, 1) := by decide +kernel
theorem dX8_pair_231 : decode cX8_pair 231 = .ok (.getfield 201, 3) := by decide +kernel
theorem dX8_pair_234 : decode cX8_pair 234 = .ok (.iload 5, 2) := by decide +kernel
theorem dX8_pair_236 : decode cX8_pair 236 = .ok (.ifCond .eq 13, 3) := by decide +kernel
theorem dX8_pair_239 : decode cX8_pair 239 = .ok (.iload 8, 2) := by decide +kernel
theorem dX8_pair_241 : decode cX8_pair 241 = .ok (.iload 7, 2) := by decide +kernel
theorem dX8_pair_243 : decode cX8_pair 243 = .ok (.if_icmp .le 17, 3) := by decide +kernel
theorem dX8_pair_246 : decode cX8_pair 246 = .ok (.goto 10, 3) := by decide +kernel
theorem dX8_pair_249 : decode cX8_pair 249 = .ok (.iload 7, 2) := by decide +kernel
theorem dX8_pair_251 : decode cX8_pair 251 = .ok (.iload 8, 2) := by decide +kernel
theorem dX8_pair_253 : decode cX8_pair 253 = .ok (.if_icmp .le 7, 3) := by decide +kernel
theorem dX8_pair_256 : decode cX8_pair 256 = .ok (.iconst 2, 1) := by decide +kernel
theorem dX8_pair_257 : decode cX8_pair 257 = .ok (.goto 4, 3) := by decide +kernel
theorem dX8_pair_260 : decode cX8_pair 260 = .ok (.iconst (-1), 1) := by decide +kernel
theorem dX8_pair_261 : decode cX8_pair 261 = .ok (.iadd, 1) := by decide +kernel
theorem dX8_pair_262 : decode cX8_pair 262 = .ok (.putfield 201, 3) := by decide +kernel
theorem dX8_pair_265 : decode cX8_pair 265 = .ok (.aload_n 0, 1) := by decide +kernel
theorem dX8_pair_266 : decode cX8_pair 266 = .ok (.dup, 1) := by decide +kernel
theorem dX8_pair_267 : decode cX8_pair 267 = .ok (.getfield 101, 3) := by decide +kernel
theorem dX8_pair_270 : decode cX8_pair 270 = .ok (.iconst 1, 1) := by decide +kernel
theorem dX8_pair_271 : decode cX8_pair 271 = .ok (.iadd, 1) := by decide +kernel
theorem dX8_pair_272 : decode cX8_pair 272 = .ok (.putfield 101, 3) := by decide +kernel
theorem dX8_pair_275 : decode cX8_pair 275 = .ok (.iinc 4 1, 3) := by decide +kernel
theorem dX8_pair_278 : decode cX8_pair 278 = .ok (.goto (-203), 3) := by decide +kernel
theorem dX8_pair_281 : decode cX8_pair 281 = .ok (.return_, 1) := by decide +kernel
theorem dX8_reasons_0 : decode cX8_reasons 0 = .ok (.iload_n 1, 1) := by decide +kernel
theorem dX8_reasons_1 : decode cX8_reasons 1 = .ok (.invokestatic 139, 3) := by decide +kernel
theorem dX8_reasons_4 : decode cX8_reasons 4 = .ok (.ifCond .eq 15, 3) := by decide +kernel
theorem dX8_reasons_7 : decode cX8_reasons 7 = .ok (.iload_n 2, 1) := by decide +kernel
theorem dX8_reasons_8 : decode cX8_reasons 8 = .ok (.ifCond .lt 11, 3) := by decide +kernel
theorem dX8_reasons_11 : decode cX8_reasons 11 = .ok (.iload_n 2, 1) := by decide +kernel
theorem dX8_reasons_12 : decode cX8_reasons 12 = .ok (.aload_n 0, 1) := by decide +kernel
theorem dX8_reasons_13 : decode cX8_reasons 13 = .ok (.getfield 94, 3) := by decide +kernel
theorem dX8_reasons_16 : decode cX8_reasons 16 = .ok (.if_icmp .le 5, 3) := by decide +kernel
theorem dX8_reasons_19 : decode cX8_reasons 19 = .ok (.iconst (-1), 1) := by decide +kernel
theorem dX8_reasons_20 : decode cX8_reasons 20 = .ok (.ireturn, 1) := by decide +kernel
theorem dX8_reasons_21 : decode cX8_reasons 21 = .ok (.aload_n 0, 1) := by decide +kernel
theorem dX8_reasons_22 : decode cX8_reasons 22 = .ok (.iload_n 1, 1) := by decide +kernel
theorem dX8_reasons_23 : decode cX8_reasons 23 = .ok (.invokevirtual 186, 3) := by decide +kernel
theorem dX8_reasons_26 : decode cX8_reasons 26 = .ok (.aload_n 0, 1) := by decide +kernel
theorem dX8_reasons_27 : decode cX8_reasons 27 = .ok (.iload_n 2, 1) := by decide +kernel
theorem dX8_reasons_28 : decode cX8_reasons 28 = .ok (.invokevirtual 143, 3) := by decide +kernel
theorem dX8_reasons_31 : decode cX8_reasons 31 = .ok (.aload_n 0, 1) := by decide +kernel
theorem dX8_reasons_32 : decode cX8_reasons 32 = .ok (.iconst 0, 1) := by decide +kernel
theorem dX8_reasons_33 : decode cX8_reasons 33 = .ok (.putfield 201, 3) := by decide +kernel
theorem dX8_reasons_36 : decode cX8_reasons 36 = .ok (.iconst 1, 1) := by decide +kernel
theorem dX8_reasons_37 : decode cX8_reasons 37 = .ok (.istore_n 3, 1) := by decide +kernel
theorem dX8_reasons_38 : decode cX8_reasons 38 = .ok (.iload_n 3, 1) := by decide +kernel
theorem dX8_reasons_39 : decode cX8_reasons 39 = .ok (.ifCond .eq 73, 3) := by decide +kernel
theorem dX8_reasons_42 : decode cX8_reasons 42 = .ok (.aload_n 0, 1) := by decide +kernel
theorem dX8_reasons_43 : decode cX8_reasons 43 = .ok (.getfield 107, 3) := by decide +kernel
theorem dX8_reasons_46 : decode cX8_reasons 46 = .ok (.ifCond .ne 66, 3) := by decide +kernel
theorem dX8_reasons_49 : decode cX8_reasons 49 = .ok (.aload_n 0, 1) := by decide +kernel
theorem dX8_reasons_50 : decode cX8_reasons 50 = .ok (.invokevirtual 204, 3) := by decide +kernel
theorem dX8_reasons_53 : decode cX8_reasons 53 = .ok (.aload_n 0, 1) := by decide +kernel
theorem dX8_reasons_54 : decode cX8_reasons 54 = .ok (.getfield 107, 3) := by decide +kernel
theorem dX8_reasons_57 : decode cX8_reasons 57 = .ok (.ifCond .ne 18, 3) := by decide +kernel
theorem dX8_reasons_60 : decode cX8_reasons 60 = .ok (.aload_n 0, 1) := by decide +kernel
theorem dX8_reasons_61 : decode cX8_reasons 61 = .ok (.getfield 101, 3) := by decide +kernel
theorem dX8_reasons_64 : decode cX8_reasons 64 = .ok (.aload_n 0, 1) := by decide +kernel
theorem dX8_reasons_65 : decode cX8_reasons 65 = .ok (.getfield 104, 3) := by decide +kernel
theorem dX8_reasons_68 : decode cX8_reasons 68 = .ok (.if_icmp .ge 7, 3) := by decide +kernel
theorem dX8_reasons_71 : decode cX8_reasons 71 = .ok (.iconst 1, 1) := by decide +kernel
theorem dX8_reasons_72 : decode cX8_reasons 72 = .ok (.goto 4, 3) := by decide +kernel
theorem dX8_reasons_75 : decode cX8_reasons 75 = .ok (.iconst 0, 1) := by decide +kernel
theorem dX8_reasons_76 : decode cX8_reasons 76 = .ok (.istore_n 3, 1) := by decide +kernel
theorem dX8_reasons_77 : decode cX8_reasons 77 = .ok (.iload_n 3, 1) := by decide +kernel
theorem dX8_reasons_78 : decode cX8_reasons 78 = .ok (.ifCond .eq 21, 3) := by decide +kernel
theorem dX8_reasons_81 : decode cX8_reasons 81 = .ok (.aload_n 0, 1) := by decide +kernel
theorem dX8_reasons_82 : decode cX8_reasons 82 = .ok (.invokevirtual 113, 3) := by decide +kernel
theorem dX8_reasons_85 : decode cX8_reasons 85 = .ok (.bipush 59, 2) := by decide +kernel
theorem dX8_reasons_87 : decode cX8_reasons 87 = .ok (.if_icmp .eq 12, 3) := by decide +kernel
theorem dX8_reasons_90 : decode cX8_reasons 90 = .ok (.aload_n 0, 1) := by decide +kernel
theorem dX8_reasons_91 : decode cX8_reasons 91 = .ok (.iconst 1, 1) := by decide +kernel
theorem dX8_reasons_92 : decode cX8_reasons 92 = .ok (.aload_n 0, 1) := by decide +kernel
theorem dX8_reasons_93 : decode cX8_reasons 93 = .ok (.getfield 101, 3) := by decide +kernel
theorem dX8_reasons_96 : decode cX8_reasons 96 = .ok (.invokevirtual 121, 3) := by decide +kernel
theorem dX8_reasons_99 : decode cX8_reasons 99 = .ok (.aload_n 0, 1) := by decide +kernel
theorem dX8_reasons_100 : decode cX8_reasons 100 = .ok (.dup, 1) := by decide +kernel
theorem dX8_reasons_101 : decode cX8_reasons 101 = .ok (.getfield 101, 3) := by decide +kernel
theorem dX8_reasons_104 : decode cX8_reasons 104 = .ok (.iconst 1, 1) := by decide +kernel
theorem dX8_reasons_105 : decode cX8_reasons 105 = .ok (.iadd, 1) := by decide +kernel
theorem dX8_reasons_106 : decode cX8_reasons 106 = .ok (.putfield 101, 3) := by decide +kernel
theorem dX8_reasons_109 : decode cX8_reasons 109 = .ok (.goto (-71), 3) := by decide +kernel
theorem dX8_reasons_112 : decode cX8_reasons 112 = .ok (.aload_n 0, 1) := by decide +kernel
theorem dX8_reasons_113 : decode cX8_reasons 113 = .ok (.getfield 107, 3) := by decide +kernel
theorem dX8_reasons_116 : decode cX8_reasons 116 = .ok (.ifCond .le 18, 3) := by decide +kernel
theorem dX8_reasons_119 : decode cX8_reasons 119 = .ok (.bipush (-100), 2) := by decide +kernel
theorem dX8_reasons_121 : decode cX8_reasons 121 = .ok (.aload_n 0, 1) := by decide +kernel
theorem dX8_reasons_122 : decode cX8_reasons 122 = .ok (.getfield 107, 3) := by decide +kernel
theorem dX8_reasons_125 : decode cX8_reasons 125 = .ok (.imul, 1) := by decide +kernel
theorem dX8_reasons_126 : decode cX8_reasons 126 = .ok (.aload_n 0, 1) := by decide +kernel
theorem dX8_reasons_127 : decode cX8_reasons 127 = .ok (.getfield 110, 3) := by decide +kernel
theorem dX8_reasons_130 : decode cX8_reasons 130 = .ok (.isub, 1) := by decide +kernel
theorem dX8_reasons_131 : decode cX8_reasons 131 = .ok (.goto 18, 3) := by decide +kernel
theorem dX8_reasons_134 : decode cX8_reasons 134 = .ok (.aload_n 0, 1) := by decide +kernel
theorem dX8_reasons_135 : decode cX8_reasons 135 = .ok (.getfield 201, 3) := by decide +kernel
theorem dX8_reasons_138 : decode cX8_reasons 138 = .ok (.ifCond .ge 7, 3) := by decide +kernel
theorem dX8_reasons_141 : decode cX8_reasons 141 = .ok (.iconst 0, 1) := by decide +kernel
theorem dX8_reasons_142 : decode cX8_reasons 142 = .ok (.goto 7, 3) := by decide +kernel
theorem dX8_reasons_145 : decode cX8_reasons 145 = .ok (.aload_n 0, 1) := by decide +kernel
theorem dX8_reasons_146 : decode cX8_reasons 146 = .ok (.getfield 201, 3) := by decide +kernel
theorem dX8_reasons_149 : decode cX8_reasons 149 = .ok (.ireturn, 1) := by decide +kernel
theorem dX8_sand_0 : decode cX8_sand 0 = .ok (.iload_n 1, 1) := by decide +kernel
theorem dX8_sand_1 : decode cX8_sand 1 = .ok (.iconst 1, 1) := by decide +kernel
theorem dX8_sand_2 : decode cX8_sand 2 = .ok (.iconst 3, 1) := by decide +kernel
theorem dX8_sand_3 : decode cX8_sand 3 = .ok (.invokestatic 87, 3) := by decide +kernel
theorem dX8_sand_6 : decode cX8_sand 6 = .ok (.ifCond .ne 5, 3) := by decide +kernel
theorem dX8_sand_9 : decode cX8_sand 9 = .ok (.iconst 0, 1) := by decide +kernel
theorem dX8_sand_10 : decode cX8_sand 10 = .ok (.ireturn, 1) := by decide +kernel
theorem dX8_sand_11 : decode cX8_sand 11 = .ok (.aload_n 0, 1) := by decide +kernel
theorem dX8_sand_12 : decode cX8_sand 12 = .ok (.iload_n 1, 1) := by decide +kernel
theorem dX8_sand_13 : decode cX8_sand 13 = .ok (.putfield 13, 3) := by decide +kernel
theorem dX8_sand_16 : decode cX8_sand 16 = .ok (.iconst 1, 1) := by decide +kernel
theorem dX8_sand_17 : decode cX8_sand 17 = .ok (.ireturn, 1) := by decide +kernel
theorem dX8_isGood_0 : decode cX8_isGood 0 = .ok (.iconst 0, 1) := by decide +kernel
theorem dX8_isGood_1 : decode cX8_isGood 1 = .ok (.istore_n 1, 1) := by decide +kernel
theorem dX8_isGood_2 : decode cX8_isGood 2 = .ok (.iload_n 1, 1) := by decide +kernel
theorem dX8_isGood_3 : decode cX8_isGood 3 = .ok (.bipush 6, 2) := by decide +kernel
