theorem dX11_init_0 : decode cX11_init 0 = .ok (.aload_n 0, 1) := by decide +kernel
theorem dX11_init_1 : decode cX11_init 1 = .ok (.invokespecial 1, 3) := by decide +kernel
theorem dX11_init_4 : decode cX11_init 4 = .ok (.aload_n 0, 1) := by decide +kernel
theorem dX11_init_5 : decode cX11_init 5 = .ok (.bipush 80, 2) := by decide +kernel
theorem dX11_init_7 : decode cX11_init 7 = .ok (.newarray .int, 2) := by decide +kernel
theorem dX11_init_9 : decode cX11_init 9 = .ok (.putfield 7, 3) := by decide +kernel
theorem dX11_init_12 : decode cX11_init 12 = .ok (.aload_n 0, 1) := by decide +kernel
theorem dX11_init_13 : decode cX11_init 13 = .ok (.sipush 1600, 3) := by decide +kernel
theorem dX11_init_16 : decode cX11_init 16 = .ok (.newarray .int, 2) := by decide +kernel
theorem dX11_init_18 : decode cX11_init 18 = .ok (.putfield 13, 3) := by decide +kernel
theorem dX11_init_21 : decode cX11_init 21 = .ok (.aload_n 0, 1) := by decide +kernel
theorem dX11_init_22 : decode cX11_init 22 = .ok (.bipush 80, 2) := by decide +kernel
theorem dX11_init_24 : decode cX11_init 24 = .ok (.newarray .int, 2) := by decide +kernel
theorem dX11_init_26 : decode cX11_init 26 = .ok (.putfield 16, 3) := by decide +kernel
theorem dX11_init_29 : decode cX11_init 29 = .ok (.aload_n 0, 1) := by decide +kernel
theorem dX11_init_30 : decode cX11_init 30 = .ok (.bipush 80, 2) := by decide +kernel
theorem dX11_init_32 : decode cX11_init 32 = .ok (.newarray .int, 2) := by decide +kernel
theorem dX11_init_34 : decode cX11_init 34 = .ok (.putfield 19, 3) := by decide +kernel
theorem dX11_init_37 : decode cX11_init 37 = .ok (.aload_n 0, 1) := by decide +kernel
theorem dX11_init_38 : decode cX11_init 38 = .ok (.sipush 600, 3) := by decide +kernel
theorem dX11_init_41 : decode cX11_init 41 = .ok (.newarray .int, 2) := by decide +kernel
theorem dX11_init_43 : decode cX11_init 43 = .ok (.putfield 22, 3) := by decide +kernel
theorem dX11_init_46 : decode cX11_init 46 = .ok (.aload_n 0, 1) := by decide +kernel
theorem dX11_init_47 : decode cX11_init 47 = .ok (.iconst (-1), 1) := by decide +kernel
theorem dX11_init_48 : decode cX11_init 48 = .ok (.putfield 25, 3) := by decide +kernel
theorem dX11_init_51 : decode cX11_init 51 = .ok (.aload_n 0, 1) := by decide +kernel
theorem dX11_init_52 : decode cX11_init 52 = .ok (.bipush 80, 2) := by decide +kernel
theorem dX11_init_54 : decode cX11_init 54 = .ok (.newarray .int, 2) := by decide +kernel
theorem dX11_init_56 : decode cX11_init 56 = .ok (.putfield 29, 3) := by decide +kernel
theorem dX11_init_59 : decode cX11_init 59 = .ok (.aload_n 0, 1) := by decide +kernel
theorem dX11_init_60 : decode cX11_init 60 = .ok (.sipush 1600, 3) := by decide +kernel
theorem dX11_init_63 : decode cX11_init 63 = .ok (.newarray .int, 2) := by decide +kernel
theorem dX11_init_65 : decode cX11_init 65 = .ok (.putfield 32, 3) := by decide +kernel
theorem dX11_init_68 : decode cX11_init 68 = .ok (.aload_n 0, 1) := by decide +kernel
theorem dX11_init_69 : decode cX11_init 69 = .ok (.bipush 80, 2) := by decide +kernel
theorem dX11_init_71 : decode cX11_init 71 = .ok (.newarray .int, 2) := by decide +kernel
theorem dX11_init_73 : decode cX11_init 73 = .ok (.putfield 35, 3) := by decide +kernel
theorem dX11_init_76 : decode cX11_init 76 = .ok (.aload_n 0, 1) := by decide +kernel
theorem dX11_init_77 : decode cX11_init 77 = .ok (.bipush 30, 2) := by decide +kernel
theorem dX11_init_79 : decode cX11_init 79 = .ok (.putfield 38, 3) := by decide +kernel
theorem dX11_init_82 : decode cX11_init 82 = .ok (.aload_n 0, 1) := by decide +kernel
theorem dX11_init_83 : decode cX11_init 83 = .ok (.iconst 1, 1) := by decide +kernel
theorem dX11_init_84 : decode cX11_init 84 = .ok (.putfield 41, 3) := by decide +kernel
theorem dX11_init_87 : decode cX11_init 87 = .ok (.aload_n 0, 1) := by decide +kernel
theorem dX11_init_88 : decode cX11_init 88 = .ok (.iconst 1, 1) := by decide +kernel
theorem dX11_init_89 : decode cX11_init 89 = .ok (.putfield 44, 3) := by decide +kernel
theorem dX11_init_92 : decode cX11_init 92 = .ok (.aload_n 0, 1) := by decide +kernel
theorem dX11_init_93 : decode cX11_init 93 = .ok (.bipush 20, 2) := by decide +kernel
theorem dX11_init_95 : decode cX11_init 95 = .ok (.putfield 47, 3) := by decide +kernel
theorem dX11_init_98 : decode cX11_init 98 = .ok (.aload_n 0, 1) := by decide +kernel
theorem dX11_init_99 : decode cX11_init 99 = .ok (.bipush 60, 2) := by decide +kernel
theorem dX11_init_101 : decode cX11_init 101 = .ok (.putfield 50, 3) := by decide +kernel
theorem dX11_init_104 : decode cX11_init 104 = .ok (.aload_n 0, 1) := by decide +kernel
theorem dX11_init_105 : decode cX11_init 105 = .ok (.bipush 100, 2) := by decide +kernel
theorem dX11_init_107 : decode cX11_init 107 = .ok (.putfield 53, 3) := by decide +kernel
theorem dX11_init_110 : decode cX11_init 110 = .ok (.aload_n 0, 1) := by decide +kernel
theorem dX11_init_111 : decode cX11_init 111 = .ok (.iconst 5, 1) := by decide +kernel
theorem dX11_init_112 : decode cX11_init 112 = .ok (.putfield 56, 3) := by decide +kernel
theorem dX11_init_115 : decode cX11_init 115 = .ok (.aload_n 0, 1) := by decide +kernel
theorem dX11_init_116 : decode cX11_init 116 = .ok (.sipush 676, 3) := by decide +kernel
theorem dX11_init_119 : decode cX11_init 119 = .ok (.newarray .int, 2) := by decide +kernel
theorem dX11_init_121 : decode cX11_init 121 = .ok (.putfield 59, 3) := by decide +kernel
theorem dX11_init_124 : decode cX11_init 124 = .ok (.aload_n 0, 1) := by decide +kernel
theorem dX11_init_125 : decode cX11_init 125 = .ok (.sipush 200, 3) := by decide +kernel
theorem dX11_init_128 : decode cX11_init 128 = .ok (.newarray .int, 2) := by decide +kernel
theorem dX11_init_130 : decode cX11_init 130 = .ok (.putfield 62, 3) := by decide +kernel
theorem dX11_init_133 : decode cX11_init 133 = .ok (.aload_n 0, 1) := by decide +kernel
theorem dX11_init_134 : decode cX11_init 134 = .ok (.sipush 200, 3) := by decide +kernel
theorem dX11_init_137 : decode cX11_init 137 = .ok (.newarray .int, 2) := by decide +kernel
theorem dX11_init_139 : decode cX11_init 139 = .ok (.putfield 65, 3) := by decide +kernel
theorem dX11_init_142 : decode cX11_init 142 = .ok (.aload_n 0, 1) := by decide +kernel
theorem dX11_init_143 : decode cX11_init 143 = .ok (.sipush 4941, 3) := by decide +kernel
theorem dX11_init_146 : decode cX11_init 146 = .ok (.newarray .int, 2) := by decide +kernel
theorem dX11_init_148 : decode cX11_init 148 = .ok (.putfield 68, 3) := by decide +kernel
theorem dX11_init_151 : decode cX11_init 151 = .ok (.aload_n 0, 1) := by decide +kernel
theorem dX11_init_152 : decode cX11_init 152 = .ok (.bipush 80, 2) := by decide +kernel
theorem dX11_init_154 : decode cX11_init 154 = .ok (.newarray .int, 2) := by decide +kernel
theorem dX11_init_156 : decode cX11_init 156 = .ok (.putfield 71, 3) := by decide +kernel
theorem dX11_init_159 : decode cX11_init 159 = .ok (.aload_n 0, 1) := by decide +kernel
theorem dX11_init_160 : decode cX11_init 160 = .ok (.bipush 80, 2) := by decide +kernel
theorem dX11_init_162 : decode cX11_init 162 = .ok (.newarray .int, 2) := by decide +kernel
theorem dX11_init_164 : decode cX11_init 164 = .ok (.putfield 74, 3) := by decide +kernel
theorem dX11_init_167 : decode cX11_init 167 = .ok (.aload_n 0, 1) := by decide +kernel
theorem dX11_init_168 : decode cX11_init 168 = .ok (.bipush 80, 2) := by decide +kernel
theorem dX11_init_170 : decode cX11_init 170 = .ok (.newarray .int, 2) := by decide +kernel
theorem dX11_init_172 : decode cX11_init 172 = .ok (.putfield 77, 3) := by decide +kernel
theorem dX11_init_175 : decode cX11_init 175 = .ok (.aload_n 0, 1) := by decide +kernel
theorem dX11_init_176 : decode cX11_init 176 = .ok (.sipush 4800, 3) := by decide +kernel
theorem dX11_init_179 : decode cX11_init 179 = .ok (.newarray .int, 2) := by decide +kernel
theorem dX11_init_181 : decode cX11_init 181 = .ok (.putfield 80, 3) := by decide +kernel
theorem dX11_init_184 : decode cX11_init 184 = .ok (.aload_n 0, 1) := by decide +kernel
theorem dX11_init_185 : decode cX11_init 185 = .ok (.bipush 10, 2) := by decide +kernel
theorem dX11_init_187 : decode cX11_init 187 = .ok (.putfield 83, 3) := by decide +kernel
theorem dX11_init_190 : decode cX11_init 190 = .ok (.aload_n 0, 1) := by decide +kernel
theorem dX11_init_191 : decode cX11_init 191 = .ok (.iconst 3, 1) := by decide +kernel
theorem dX11_init_192 : decode cX11_init 192 = .ok (.putfield 86, 3) := by decide +kernel
theorem dX11_init_195 : decode cX11_init 195 = .ok (.aload_n 0, 1) := by decide +kernel
theorem dX11_init_196 : decode cX11_init 196 = .ok (.bipush 20, 2) := by decide +kernel
theorem dX11_init_198 : decode cX11_init 198 = .ok (.newarray .int, 2) := by decide +kernel
theorem dX11_init_200 : decode cX11_init 200 = .ok (.putfield 89, 3) := by decide +kernel
theorem dX11_init_203 : decode cX11_init 203 = .ok (.aload_n 0, 1) := by decide +kernel
theorem dX11_init_204 : decode cX11_init 204 = .ok (.bipush 20, 2) := by decide +kernel
theorem dX11_init_206 : decode cX11_init 206 = .ok (.newarray .int, 2) := by decide +kernel
theorem dX11_init_208 : decode cX11_init 208 = .ok (.putfield 92, 3) := by decide +kernel
theorem dX11_init_211 : decode cX11_init 211 = .ok (.return_, 1) := by decide +kernel
theorem dX11_feed_0 : decode cX11_feed 0 = .ok (.aload_n 0, 1) := by decide +kernel
theorem dX11_feed_1 : decode cX11_feed 1 = .ok (.getfield 95, 3) := by decide +kernel
theorem dX11_feed_4 : decode cX11_feed 4 = .ok (.bipush 20, 2) := by decide +kernel
theorem dX11_feed_6 : decode cX11_feed 6 = .ok (.iadd, 1) := by decide +kernel
theorem dX11_feed_7 : decode cX11_feed 7 = .ok (.sipush 600, 3) := by decide +kernel
theorem dX11_feed_10 : decode cX11_feed 10 = .ok (.if_icmp .le 5, 3) := by decide +kernel
theorem dX11_feed_13 : decode cX11_feed 13 = .ok (.iconst (-1), 1) := by decide +kernel
theorem dX11_feed_14 : decode cX11_feed 14 = .ok (.ireturn, 1) := by decide +kernel
theorem dX11_feed_15 : decode cX11_feed 15 = .ok (.iconst 0, 1) := by decide +kernel
theorem dX11_feed_16 : decode cX11_feed 16 = .ok (.istore 6, 2) := by decide +kernel
theorem dX11_feed_18 : decode cX11_feed 18 = .ok (.iload 6, 2) := by decide +kernel
theorem dX11_feed_20 : decode cX11_feed 20 = .ok (.bipush 20, 2) := by decide +kernel
theorem dX11_feed_22 : decode cX11_feed 22 = .ok (.if_icmp .ge 92, 3) := by decide +kernel
theorem dX11_feed_25 : decode cX11_feed 25 = .ok (.iload 6, 2) := by decide +kernel
theorem dX11_feed_27 : decode cX11_feed 27 = .ok (.iconst 4, 1) := by decide +kernel
theorem dX11_feed_28 : decode cX11_feed 28 = .ok (.if_icmp .ge 7, 3) := by decide +kernel
theorem dX11_feed_31 : decode cX11_feed 31 = .ok (.iload_n 1, 1) := by decide +kernel
theorem dX11_feed_32 : decode cX11_feed 32 = .ok (.goto 39, 3) := by decide +kernel
theorem dX11_feed_35 : decode cX11_feed 35 = .ok (.iload 6, 2) := by decide +kernel
theorem dX11_feed_37 : decode cX11_feed 37 = .ok (.bipush 8, 2) := by decide +kernel
theorem dX11_feed_39 : decode cX11_feed 39 = .ok (.if_icmp .ge 7, 3) := by decide +kernel
theorem dX11_feed_42 : decode cX11_feed 42 = .ok (.iload_n 2, 1) := by decide +kernel
theorem dX11_feed_43 : decode cX11_feed 43 = .ok (.goto 28, 3) := by decide +kernel
theorem dX11_feed_46 : decode cX11_feed 46 = .ok (.iload 6, 2) := by decide +kernel
theorem dX11_feed_48 : decode cX11_feed 48 = .ok (.bipush 12, 2) := by decide +kernel
theorem dX11_feed_50 : decode cX11_feed 50 = .ok (.if_icmp .ge 7, 3) := by decide +kernel
theorem dX11_feed_53 : decode cX11_feed 53 = .ok (.iload_n 3, 1) := by decide +kernel
theorem dX11_feed_54 : decode cX11_feed 54 = .ok (.goto 17, 3) := by decide +kernel
theorem dX11_feed_57 : decode cX11_feed 57 = .ok (.iload 6, 2) := by decide +kernel
theorem dX11_feed_59 : decode cX11_feed 59 = .ok (.bipush 16, 2) := by decide +kernel
theorem dX11_feed_61 : decode cX11_feed 61 = .ok (.if_icmp .ge 8, 3) := by decide +kernel
theorem dX11_feed_64 : decode cX11_feed 64 = .ok (.iload 4, 2) := by decide +kernel
theorem dX11_feed_66 : decode cX11_feed 66 = .ok (.goto 5, 3) := by decide +kernel
theorem dX11_feed_69 : decode cX11_feed 69 = .ok (.iload 5, 2) := by decide +kernel
theorem dX11_feed_71 : decode cX11_feed 71 = .ok (.istore 7, 2) := by decide +kernel
theorem dX11_feed_73 : decode cX11_feed 73 = .ok (.aload_n 0, 1) := by decide +kernel
theorem dX11_feed_74 : decode cX11_feed 74 = .ok (.getfield 22, 3) := by decide +kernel
theorem dX11_feed_77 : decode cX11_feed 77 = .ok (.aload_n 0, 1) := by decide +kernel
theorem dX11_feed_78 : decode cX11_feed 78 = .ok (.getfield 95, 3) := by decide +kernel
theorem dX11_feed_81 : decode cX11_feed 81 = .ok (.iload 7, 2) := by decide +kernel
theorem dX11_feed_83 : decode cX11_feed 83 = .ok (.bipush 8, 2) := by decide +kernel
theorem dX11_feed_85 : decode cX11_feed 85 = .ok (.iconst 3, 1) := by decide +kernel
theorem dX11_feed_86 : decode cX11_feed 86 = .ok (.iload 6, 2) := by decide +kernel
theorem dX11_feed_88 : decode cX11_feed 88 = .ok (.iconst 4, 1) := by decide +kernel
theorem dX11_feed_89 : decode cX11_feed 89 = .ok (.irem, 1) := by decide +kernel
theorem dX11_feed_90 : decode cX11_feed 90 = .ok (.isub, 1) := by decide +kernel
theorem dX11_feed_91 : decode cX11_feed 91 = .ok (.imul, 1) := by decide +kernel
theorem dX11_feed_92 : decode cX11_feed 92 = .ok (.ishr, 1) := by decide +kernel
theorem dX11_feed_93 : decode cX11_feed 93 = .ok (.sipush 255, 3) := by decide +kernel
theorem dX11_feed_96 : decode cX11_feed 96 = .ok (.iand, 1) := by decide +kernel
theorem dX11_feed_97 : decode cX11_feed 97 = .ok (.iastore, 1) := by decide +kernel
theorem dX11_feed_98 : decode cX11_feed 98 = .ok (.aload_n 0, 1) := by decide +kernel
theorem dX11_feed_99 : decode cX11_feed 99 = .ok (.dup, 1) := by decide +kernel
theorem dX11_feed_100 : decode cX11_feed 100 = .ok (.getfield 95, 3) := by decide +kernel
theorem dX11_feed_103 : decode cX11_feed 103 = .ok (.iconst 1, 1) := by decide +kernel
theorem dX11_feed_104 : decode cX11_feed 104 = .ok (.iadd, 1) := by decide +kernel
theorem dX11_feed_105 : decode cX11_feed 105 = .ok (.putfield 95, 3) := by decide +kernel
theorem dX11_feed_108 : decode cX11_feed 108 = .ok (.iinc 6 1, 3) := by decide +kernel
theorem dX11_feed_111 : decode cX11_feed 111 = .ok (.goto (-93), 3) := by decide +kernel
theorem dX11_feed_114 : decode cX11_feed 114 = .ok (.aload_n 0, 1) := by decide +kernel
theorem dX11_feed_115 : decode cX11_feed 115 = .ok (.getfield 95, 3) := by decide +kernel
theorem dX11_feed_118 : decode cX11_feed 118 = .ok (.ireturn, 1) := by decide +kernel
theorem dX11_end_0 : decode cX11_end 0 = .ok (.iload_n 1, 1) := by decide +kernel
theorem dX11_end_1 : decode cX11_end 1 = .ok (.ifCond .lt 11, 3) := by decide +kernel
theorem dX11_end_4 : decode cX11_end 4 = .ok (.iload_n 1, 1) := by decide +kernel
theorem dX11_end_5 : decode cX11_end 5 = .ok (.aload_n 0, 1) := by decide +kernel
theorem dX11_end_6 : decode cX11_end 6 = .ok (.getfield 95, 3) := by decide +kernel
theorem dX11_end_9 : decode cX11_end 9 = .ok (.if_icmp .le 5, 3) := by decide +kernel
theorem dX11_end_12 : decode cX11_end 12 = .ok (.iconst 0, 1) := by decide +kernel
theorem dX11_end_13 : decode cX11_end 13 = .ok (.ireturn, 1) := by decide +kernel
theorem dX11_end_14 : decode cX11_end 14 = .ok (.aload_n 0, 1) := by decide +kernel
theorem dX11_end_15 : decode cX11_end 15 = .ok (.iload_n 1, 1) := by decide +kernel
theorem dX11_end_16 : decode cX11_end 16 = .ok (.putfield 95, 3) := by decide +kernel
theorem dX11_end_19 : decode cX11_end 19 = .ok (.iconst 1, 1) := by decide +kernel
theorem dX11_end_20 : decode cX11_end 20 = .ok (.ireturn, 1) := by decide +kernel
theorem dX11_isLetter_0 : decode cX11_isLetter 0 = .ok (.iload_n 0, 1) := by decide +kernel
theorem dX11_isLetter_1 : decode cX11_isLetter 1 = .ok (.bipush 97, 2) := by decide +kernel
theorem dX11_isLetter_3 : decode cX11_isLetter 3 = .ok (.if_icmp .lt 13, 3) := by decide +kernel
theorem dX11_isLetter_6 : decode cX11_isLetter 6 = .ok (.iload_n 0, 1) := by decide +kernel
theorem dX11_isLetter_7 : decode cX11_isLetter 7 = .ok (.bipush 122, 2) := by decide +kernel
theorem dX11_isLetter_9 : decode cX11_isLetter 9 = .ok (.if_icmp .gt 7, 3) := by decide +kernel
theorem dX11_isLetter_12 : decode cX11_isLetter 12 = .ok (.iconst 1, 1) := by decide +kernel
theorem dX11_isLetter_13 : decode cX11_isLetter 13 = .ok (.goto 4, 3) := by decide +kernel
theorem dX11_isLetter_16 : decode cX11_isLetter 16 = .ok (.iconst 0, 1) := by decide +kernel
theorem dX11_isLetter_17 : decode cX11_isLetter 17 = .ok (.ireturn, 1) := by decide +kernel
theorem dX11_isBlank_0 : decode cX11_isBlank 0 = .ok (.iload_n 0, 1) := by decide +kernel
theorem dX11_isBlank_1 : decode cX11_isBlank 1 = .ok (.bipush 10, 2) := by decide +kernel
theorem dX11_isBlank_3 : decode cX11_isBlank 3 = .ok (.if_icmp .eq 9, 3) := by decide +kernel
theorem dX11_isBlank_6 : decode cX11_isBlank 6 = .ok (.iload_n 0, 1) := by decide +kernel
theorem dX11_isBlank_7 : decode cX11_isBlank 7 = .ok (.bipush 32, 2) := by decide +kernel
theorem dX11_isBlank_9 : decode cX11_isBlank 9 = .ok (.if_icmp .ne 7, 3) := by decide +kernel
theorem dX11_isBlank_12 : decode cX11_isBlank 12 = .ok (.iconst 1, 1) := by decide +kernel
theorem dX11_isBlank_13 : decode cX11_isBlank 13 = .ok (.goto 4, 3) := by decide +kernel
theorem dX11_isBlank_16 : decode cX11_isBlank 16 = .ok (.iconst 0, 1) := by decide +kernel
theorem dX11_isBlank_17 : decode cX11_isBlank 17 = .ok (.ireturn, 1) := by decide +kernel
theorem dX11_isEnd_0 : decode cX11_isEnd 0 = .ok (.iload_n 0, 1) := by decide +kernel
theorem dX11_isEnd_1 : decode cX11_isEnd 1 = .ok (.bipush 44, 2) := by decide +kernel
theorem dX11_isEnd_3 : decode cX11_isEnd 3 = .ok (.if_icmp .eq 15, 3) := by decide +kernel
theorem dX11_isEnd_6 : decode cX11_isEnd 6 = .ok (.iload_n 0, 1) := by decide +kernel
theorem dX11_isEnd_7 : decode cX11_isEnd 7 = .ok (.bipush 46, 2) := by decide +kernel
theorem dX11_isEnd_9 : decode cX11_isEnd 9 = .ok (.if_icmp .eq 9, 3) := by decide +kernel
theorem dX11_isEnd_12 : decode cX11_isEnd 12 = .ok (.iload_n 0, 1) := by decide +kernel
theorem dX11_isEnd_13 : decode cX11_isEnd 13 = .ok (.bipush 47, 2) := by decide +kernel
theorem dX11_isEnd_15 : decode cX11_isEnd 15 = .ok (.if_icmp .ne 7, 3) := by decide +kernel
theorem dX11_isEnd_18 : decode cX11_isEnd 18 = .ok (.iconst 1, 1) := by decide +kernel
theorem dX11_isEnd_19 : decode cX11_isEnd 19 = .ok (.goto 4, 3) := by decide +kernel
theorem dX11_isEnd_22 : decode cX11_isEnd 22 = .ok (.iconst 0, 1) := by decide +kernel
theorem dX11_isEnd_23 : decode cX11_isEnd 23 = .ok (.ireturn, 1) := by decide +kernel
theorem dX11_fails_0 : decode cX11_fails 0 = .ok (.aload_n 0, 1) := by decide +kernel
theorem dX11_fails_1 : decode cX11_fails 1 = .ok (.iload_n 1, 1) := by decide +kernel
theorem dX11_fails_2 : decode cX11_fails 2 = .ok (.putfield 98, 3) := by decide +kernel
theorem dX11_fails_5 : decode cX11_fails 5 = .ok (.aload_n 0, 1) := by decide +kernel
theorem dX11_fails_6 : decode cX11_fails 6 = .ok (.iload_n 2, 1) := by decide +kernel
theorem dX11_fails_7 : decode cX11_fails 7 = .ok (.putfield 25, 3) := by decide +kernel
theorem dX11_fails_10 : decode cX11_fails 10 = .ok (.iconst 0, 1) := by decide +kernel
theorem dX11_fails_11 : decode cX11_fails 11 = .ok (.ireturn, 1) := by decide +kernel
set_option maxRecDepth 20000 in
theorem ggX11_isText_X11_isLetter : GoodIn wsX11_isText wsX11_isLetter := goodIn_r _ [10] (by decide +kernel) (by decide +kernel)
set_option maxRecDepth 20000 in
theorem gX11_isText_X11_isLetter : GoodIn wsX11_isText (va_wsS RX11 104 yX11_isLetter wsX11_isLetter) := goodIn_app (goodIn_of _ (by decide +kernel)) ggX11_isText_X11_isLetter
set_option maxRecDepth 20000 in
theorem ggX11_isText_X11_fails : GoodIn wsX11_isText wsX11_fails := goodIn_r _ [14, 15, 16, 23, 24, 25, 26, 27, 28, 29, 30, 31, 32, 33, 34, 35, 36, 37, 38, 39, 40, 41, 42, 43, 44, 45, 46, 47, 48, 49, 50, 51, 52, 53, 54, 55, 56, 57, 58, 59, 60, 61, 62, 63, 64, 65, 66] (by decide +kernel) (by decide +kernel)
set_option maxRecDepth 20000 in
theorem gX11_isText_X11_fails : GoodIn wsX11_isText (wsV RX11 108 RX11 yX11_fails wsX11_fails) := goodIn_app (goodIn_of _ (by decide +kernel)) ggX11_isText_X11_fails
set_option maxRecDepth 20000 in
theorem ggX11_isText_X11_isEnd : GoodIn wsX11_isText wsX11_isEnd := goodIn_r _ [19] (by decide +kernel) (by decide +kernel)
set_option maxRecDepth 20000 in
theorem gX11_isText_X11_isEnd : GoodIn wsX11_isText (va_wsS RX11 112 yX11_isEnd wsX11_isEnd) := goodIn_app (goodIn_of _ (by decide +kernel)) ggX11_isText_X11_isEnd
set_option maxRecDepth 20000 in
theorem ggX11_isText_X11_isBlank : GoodIn wsX11_isText wsX11_isBlank := goodIn_r _ [22] (by decide +kernel) (by decide +kernel)
set_option maxRecDepth 20000 in
theorem gX11_isText_X11_isBlank : GoodIn wsX11_isText (va_wsS RX11 115 yX11_isBlank wsX11_isBlank) := goodIn_app (goodIn_of _ (by decide +kernel)) ggX11_isText_X11_isBlank
theorem dX11_isText_0 : decode cX11_isText 0 = .ok (.aload_n 0, 1) := by decide +kernel
theorem dX11_isText_1 : decode cX11_isText 1 = .ok (.getfield 95, 3) := by decide +kernel
theorem dX11_isText_4 : decode cX11_isText 4 = .ok (.istore_n 1, 1) := by decide +kernel
theorem dX11_isText_5 : decode cX11_isText 5 = .ok (.aload_n 0, 1) := by decide +kernel
theorem dX11_isText_6 : decode cX11_isText 6 = .ok (.iconst 0, 1) := by decide +kernel
theorem dX11_isText_7 : decode cX11_isText 7 = .ok (.putfield 95, 3) := by decide +kernel
theorem dX11_isText_10 : decode cX11_isText 10 = .ok (.aload_n 0, 1) := by decide +kernel
theorem dX11_isText_11 : decode cX11_isText 11 = .ok (.iconst 0, 1) := by decide +kernel
theorem dX11_isText_12 : decode cX11_isText 12 = .ok (.putfield 101, 3) := by decide +kernel
theorem dX11_isText_15 : decode cX11_isText 15 = .ok (.iconst 0, 1) := by decide +kernel
theorem dX11_isText_16 : decode cX11_isText 16 = .ok (.istore_n 2, 1) := by decide +kernel
theorem dX11_isText_17 : decode cX11_isText 17 = .ok (.iconst 0, 1) := by decide +kernel
theorem dX11_isText_18 : decode cX11_isText 18 = .ok (.istore_n 3, 1) := by decide +kernel
theorem dX11_isText_19 : decode cX11_isText 19 = .ok (.iload_n 3, 1) := by decide +kernel
theorem dX11_isText_20 : decode cX11_isText 20 = .ok (.iload_n 1, 1) := by decide +kernel
theorem dX11_isText_21 : decode cX11_isText 21 = .ok (.if_icmp .ge 238, 3) := by decide +kernel
theorem dX11_isText_24 : decode cX11_isText 24 = .ok (.aload_n 0, 1) := by decide +kernel
theorem dX11_isText_25 : decode cX11_isText 25 = .ok (.getfield 22, 3) := by decide +kernel
theorem dX11_isText_28 : decode cX11_isText 28 = .ok (.iload_n 3, 1) := by decide +kernel
theorem dX11_isText_29 : decode cX11_isText 29 = .ok (.iaload, 1) := by decide +kernel
theorem dX11_isText_30 : decode cX11_isText 30 = .ok (.istore 4, 2) := by decide +kernel
theorem dX11_isText_32 : decode cX11_isText 32 = .ok (.iload 4, 2) := by decide +kernel
theorem dX11_isText_34 : decode cX11_isText 34 = .ok (.invokestatic 104, 3) := by decide +kernel
theorem dX11_isText_37 : decode cX11_isText 37 = .ok (.ifCond .eq 138, 3) := by decide +kernel
theorem dX11_isText_40 : decode cX11_isText 40 = .ok (.iload_n 2, 1) := by decide +kernel
theorem dX11_isText_41 : decode cX11_isText 41 = .ok (.iconst 3, 1) := by decide +kernel
theorem dX11_isText_42 : decode cX11_isText 42 = .ok (.if_icmp .ne 10, 3) := by decide +kernel
theorem dX11_isText_45 : decode cX11_isText 45 = .ok (.aload_n 0, 1) := by decide +kernel
theorem dX11_isText_46 : decode cX11_isText 46 = .ok (.iconst 1, 1) := by decide +kernel
theorem dX11_isText_47 : decode cX11_isText 47 = .ok (.iload_n 3, 1) := by decide +kernel
theorem dX11_isText_48 : decode cX11_isText 48 = .ok (.invokevirtual 108, 3) := by decide +kernel
theorem dX11_isText_51 : decode cX11_isText 51 = .ok (.ireturn, 1) := by decide +kernel
theorem dX11_isText_52 : decode cX11_isText 52 = .ok (.iload_n 2, 1) := by decide +kernel
theorem dX11_isText_53 : decode cX11_isText 53 = .ok (.iconst 1, 1) := by decide +kernel
theorem dX11_isText_54 : decode cX11_isText 54 = .ok (.if_icmp .eq 50, 3) := by decide +kernel
theorem dX11_isText_57 : decode cX11_isText 57 = .ok (.aload_n 0, 1) := by decide +kernel
theorem dX11_isText_58 : decode cX11_isText 58 = .ok (.getfield 101, 3) := by decide +kernel
theorem dX11_isText_61 : decode cX11_isText 61 = .ok (.bipush 80, 2) := by decide +kernel
theorem dX11_isText_63 : decode cX11_isText 63 = .ok (.if_icmp .ne 10, 3) := by decide +kernel
theorem dX11_isText_66 : decode cX11_isText 66 = .ok (.aload_n 0, 1) := by decide +kernel
theorem dX11_isText_67 : decode cX11_isText 67 = .ok (.iconst 3, 1) := by decide +kernel
theorem dX11_isText_68 : decode cX11_isText 68 = .ok (.iload_n 3, 1) := by decide +kernel
theorem dX11_isText_69 : decode cX11_isText 69 = .ok (.invokevirtual 108, 3) := by decide +kernel
theorem dX11_isText_72 : decode cX11_isText 72 = .ok (.ireturn, 1) := by decide +kernel
theorem dX11_isText_73 : decode cX11_isText 73 = .ok (.aload_n 0, 1) := by decide +kernel
theorem dX11_isText_74 : decode cX11_isText 74 = .ok (.getfield 29, 3) := by decide +kernel
theorem dX11_isText_77 : decode cX11_isText 77 = .ok (.aload_n 0, 1) := by decide +kernel
theorem dX11_isText_78 : decode cX11_isText 78 = .ok (.getfield 101, 3) := by decide +kernel
theorem dX11_isText_81 : decode cX11_isText 81 = .ok (.iconst 0, 1) := by decide +kernel
theorem dX11_isText_82 : decode cX11_isText 82 = .ok (.iastore, 1) := by decide +kernel
theorem dX11_isText_83 : decode cX11_isText 83 = .ok (.aload_n 0, 1) := by decide +kernel
theorem dX11_isText_84 : decode cX11_isText 84 = .ok (.getfield 35, 3) := by decide +kernel
theorem dX11_isText_87 : decode cX11_isText 87 = .ok (.aload_n 0, 1) := by decide +kernel
theorem dX11_isText_88 : decode cX11_isText 88 = .ok (.getfield 101, 3) := by decide +kernel
theorem dX11_isText_91 : decode cX11_isText 91 = .ok (.bipush 32, 2) := by decide +kernel
theorem dX11_isText_93 : decode cX11_isText 93 = .ok (.iastore, 1) := by decide +kernel
theorem dX11_isText_94 : decode cX11_isText 94 = .ok (.aload_n 0, 1) := by decide +kernel
theorem dX11_isText_95 : decode cX11_isText 95 = .ok (.dup, 1) := by decide +kernel
theorem dX11_isText_96 : decode cX11_isText 96 = .ok (.getfield 101, 3) := by decide +kernel
theorem dX11_isText_99 : decode cX11_isText 99 = .ok (.iconst 1, 1) := by decide +kernel
theorem dX11_isText_100 : decode cX11_isText 100 = .ok (.iadd, 1) := by decide +kernel
theorem dX11_isText_101 : decode cX11_isText 101 = .ok (.putfield 101, 3) := by decide +kernel
theorem dX11_isText_104 : decode cX11_isText 104 = .ok (.aload_n 0, 1) := by decide +kernel
theorem dX11_isText_105 : decode cX11_isText 105 = .ok (.getfield 29, 3) := by decide +kernel
theorem dX11_isText_108 : decode cX11_isText 108 = .ok (.aload_n 0, 1) := by decide +kernel
theorem dX11_isText_109 : decode cX11_isText 109 = .ok (.getfield 101, 3) := by decide +kernel
theorem dX11_isText_112 : decode cX11_isText 112 = .ok (.iconst 1, 1) := by decide +kernel
theorem dX11_isText_113 : decode cX11_isText 113 = .ok (.isub, 1) := by decide +kernel
theorem dX11_isText_114 : decode cX11_isText 114 = .ok (.iaload, 1) := by decide +kernel
theorem dX11_isText_115 : decode cX11_isText 115 = .ok (.bipush 20, 2) := by decide +kernel
theorem dX11_isText_117 : decode cX11_isText 117 = .ok (.if_icmp .ne 10, 3) := by decide +kernel
theorem dX11_isText_120 : decode cX11_isText 120 = .ok (.aload_n 0, 1) := by decide +kernel
theorem dX11_isText_121 : decode cX11_isText 121 = .ok (.iconst 2, 1) := by decide +kernel
theorem dX11_isText_122 : decode cX11_isText 122 = .ok (.iload_n 3, 1) := by decide +kernel
theorem dX11_isText_123 : decode cX11_isText 123 = .ok (.invokevirtual 108, 3) := by decide +kernel
theorem dX11_isText_126 : decode cX11_isText 126 = .ok (.ireturn, 1) := by decide +kernel
theorem dX11_isText_127 : decode cX11_isText 127 = .ok (.aload_n 0, 1) := by decide +kernel
theorem dX11_isText_128 : decode cX11_isText 128 = .ok (.getfield 32, 3) := by decide +kernel
theorem dX11_isText_131 : decode cX11_isText 131 = .ok (.bipush 20, 2) := by decide +kernel
theorem dX11_isText_133 : decode cX11_isText 133 = .ok (.aload_n 0, 1) := by decide +kernel
theorem dX11_isText_134 : decode cX11_isText 134 = .ok (.getfield 101, 3) := by decide +kernel
theorem dX11_isText_137 : decode cX11_isText 137 = .ok (.iconst 1, 1) := by decide +kernel
theorem dX11_isText_138 : decode cX11_isText 138 = .ok (.isub, 1) := by decide +kernel
theorem dX11_isText_139 : decode cX11_isText 139 = .ok (.imul, 1) := by decide +kernel
theorem dX11_isText_140 : decode cX11_isText 140 = .ok (.aload_n 0, 1) := by decide +kernel
theorem dX11_isText_141 : decode cX11_isText 141 = .ok (.getfield 29, 3) := by decide +kernel
theorem dX11_isText_144 : decode cX11_isText 144 = .ok (.aload_n 0, 1) := by decide +kernel
theorem dX11_isText_145 : decode cX11_isText 145 = .ok (.getfield 101, 3) := by decide +kernel
theorem dX11_isText_148 : decode cX11_isText 148 = .ok (.iconst 1, 1) := by decide +kernel
theorem dX11_isText_149 : decode cX11_isText 149 = .ok (.isub, 1) := by decide +kernel
theorem dX11_isText_150 : decode cX11_isText 150 = .ok (.iaload, 1) := by decide +kernel
theorem dX11_isText_151 : decode cX11_isText 151 = .ok (.iadd, 1) := by decide +kernel
theorem dX11_isText_152 : decode cX11_isText 152 = .ok (.iload 4, 2) := by decide +kernel
theorem dX11_isText_154 : decode cX11_isText 154 = .ok (.iastore, 1) := by decide +kernel
theorem dX11_isText_155 : decode cX11_isText 155 = .ok (.aload_n 0, 1) := by decide +kernel
theorem dX11_isText_156 : decode cX11_isText 156 = .ok (.getfield 29, 3) := by decide +kernel
theorem dX11_isText_159 : decode cX11_isText 159 = .ok (.aload_n 0, 1) := by decide +kernel
theorem dX11_isText_160 : decode cX11_isText 160 = .ok (.getfield 101, 3) := by decide +kernel
theorem dX11_isText_163 : decode cX11_isText 163 = .ok (.iconst 1, 1) := by decide +kernel
theorem dX11_isText_164 : decode cX11_isText 164 = .ok (.isub, 1) := by decide +kernel
theorem dX11_isText_165 : decode cX11_isText 165 = .ok (.dup2, 1) := by decide +kernel
theorem dX11_isText_166 : decode cX11_isText 166 = .ok (.iaload, 1) := by decide +kernel
theorem dX11_isText_167 : decode cX11_isText 167 = .ok (.iconst 1, 1) := by decide +kernel
theorem dX11_isText_168 : decode cX11_isText 168 = .ok (.iadd, 1) := by decide +kernel
theorem dX11_isText_169 : decode cX11_isText 169 = .ok (.iastore, 1) := by decide +kernel
theorem dX11_isText_170 : decode cX11_isText 170 = .ok (.iconst 1, 1) := by decide +kernel
theorem dX11_isText_171 : decode cX11_isText 171 = .ok (.istore_n 2, 1) := by decide +kernel
theorem dX11_isText_172 : decode cX11_isText 172 = .ok (.goto 81, 3) := by decide +kernel
theorem dX11_isText_175 : decode cX11_isText 175 = .ok (.iload 4, 2) := by decide +kernel
theorem dX11_isText_177 : decode cX11_isText 177 = .ok (.bipush 45, 2) := by decide +kernel
theorem dX11_isText_179 : decode cX11_isText 179 = .ok (.if_icmp .eq 11, 3) := by decide +kernel
theorem dX11_isText_182 : decode cX11_isText 182 = .ok (.iload 4, 2) := by decide +kernel
theorem dX11_isText_184 : decode cX11_isText 184 = .ok (.invokestatic 112, 3) := by decide +kernel
theorem dX11_isText_187 : decode cX11_isText 187 = .ok (.ifCond .eq 44, 3) := by decide +kernel
theorem dX11_isText_190 : decode cX11_isText 190 = .ok (.iload_n 2, 1) := by decide +kernel
theorem dX11_isText_191 : decode cX11_isText 191 = .ok (.iconst 1, 1) := by decide +kernel
theorem dX11_isText_192 : decode cX11_isText 192 = .ok (.if_icmp .eq 10, 3) := by decide +kernel
theorem dX11_isText_195 : decode cX11_isText 195 = .ok (.aload_n 0, 1) := by decide +kernel
theorem dX11_isText_196 : decode cX11_isText 196 = .ok (.iconst 1, 1) := by decide +kernel
theorem dX11_isText_197 : decode cX11_isText 197 = .ok (.iload_n 3, 1) := by decide +kernel
theorem dX11_isText_198 : decode cX11_isText 198 = .ok (.invokevirtual 108, 3) := by decide +kernel
theorem dX11_isText_201 : decode cX11_isText 201 = .ok (.ireturn, 1) := by decide +kernel
theorem dX11_isText_202 : decode cX11_isText 202 = .ok (.aload_n 0, 1) := by decide +kernel
theorem dX11_isText_203 : decode cX11_isText 203 = .ok (.getfield 35, 3) := by decide +kernel
theorem dX11_isText_206 : decode cX11_isText 206 = .ok (.aload_n 0, 1) := by decide +kernel
theorem dX11_isText_207 : decode cX11_isText 207 = .ok (.getfield 101, 3) := by decide +kernel
theorem dX11_isText_210 : decode cX11_isText 210 = .ok (.iconst 1, 1) := by decide +kernel
theorem dX11_isText_211 : decode cX11_isText 211 = .ok (.isub, 1) := by decide +kernel
theorem dX11_isText_212 : decode cX11_isText 212 = .ok (.iload 4, 2) := by decide +kernel
theorem dX11_isText_214 : decode cX11_isText 214 = .ok (.iastore, 1) := by decide +kernel
theorem dX11_isText_215 : decode cX11_isText 215 = .ok (.iload 4, 2) := by decide +kernel
theorem dX11_isText_217 : decode cX11_isText 217 = .ok (.bipush 45, 2) := by decide +kernel
theorem dX11_isText_219 : decode cX11_isText 219 = .ok (.if_icmp .ne 7, 3) := by decide +kernel
theorem dX11_isText_222 : decode cX11_isText 222 = .ok (.iconst 2, 1) := by decide +kernel
theorem dX11_isText_223 : decode cX11_isText 223 = .ok (.goto 4, 3) := by decide +kernel
theorem dX11_isText_226 : decode cX11_isText 226 = .ok (.iconst 3, 1) := by decide +kernel
theorem dX11_isText_227 : decode cX11_isText 227 = .ok (.istore_n 2, 1) := by decide +kernel
theorem dX11_isText_228 : decode cX11_isText 228 = .ok (.goto 25, 3) := by decide +kernel
theorem dX11_isText_231 : decode cX11_isText 231 = .ok (.iload 4, 2) := by decide +kernel
theorem dX11_isText_233 : decode cX11_isText 233 = .ok (.invokestatic 115, 3) := by decide +kernel
theorem dX11_isText_236 : decode cX11_isText 236 = .ok (.ifCond .eq 8, 3) := by decide +kernel
theorem dX11_isText_239 : decode cX11_isText 239 = .ok (.iload_n 2, 1) := by decide +kernel
theorem dX11_isText_240 : decode cX11_isText 240 = .ok (.iconst 2, 1) := by decide +kernel
theorem dX11_isText_241 : decode cX11_isText 241 = .ok (.if_icmp .ne 10, 3) := by decide +kernel
theorem dX11_isText_244 : decode cX11_isText 244 = .ok (.aload_n 0, 1) := by decide +kernel
theorem dX11_isText_245 : decode cX11_isText 245 = .ok (.iconst 1, 1) := by decide +kernel
theorem dX11_isText_246 : decode cX11_isText 246 = .ok (.iload_n 3, 1) := by decide +kernel
theorem dX11_isText_247 : decode cX11_isText 247 = .ok (.invokevirtual 108, 3) := by decide +kernel
theorem dX11_isText_250 : decode cX11_isText 250 = .ok (.ireturn, 1) := by decide +kernel
theorem dX11_isText_251 : decode cX11_isText 251 = .ok (.iconst 0, 1) := by decide +kernel
theorem dX11_isText_252 : decode cX11_isText 252 = .ok (.istore_n 2, 1) := by decide +kernel
theorem dX11_isText_253 : decode cX11_isText 253 = .ok (.iinc 3 1, 3) := by decide +kernel
theorem dX11_isText_256 : decode cX11_isText 256 = .ok (.goto (-237), 3) := by decide +kernel
theorem dX11_isText_259 : decode cX11_isText 259 = .ok (.iload_n 2, 1) := by decide +kernel
theorem dX11_isText_260 : decode cX11_isText 260 = .ok (.iconst 2, 1) := by decide +kernel
theorem dX11_isText_261 : decode cX11_isText 261 = .ok (.if_icmp .ne 10, 3) := by decide +kernel
theorem dX11_isText_264 : decode cX11_isText 264 = .ok (.aload_n 0, 1) := by decide +kernel
theorem dX11_isText_265 : decode cX11_isText 265 = .ok (.iconst 1, 1) := by decide +kernel
theorem dX11_isText_266 : decode cX11_isText 266 = .ok (.iload_n 1, 1) := by decide +kernel
theorem dX11_isText_267 : decode cX11_isText 267 = .ok (.invokevirtual 108, 3) := by decide +kernel
theorem dX11_isText_270 : decode cX11_isText 270 = .ok (.ireturn, 1) := by decide +kernel
theorem dX11_isText_271 : decode cX11_isText 271 = .ok (.aload_n 0, 1) := by decide +kernel
theorem dX11_isText_272 : decode cX11_isText 272 = .ok (.iconst 0, 1) := by decide +kernel
theorem dX11_isText_273 : decode cX11_isText 273 = .ok (.iconst (-1), 1) := by decide +kernel
theorem dX11_isText_274 : decode cX11_isText 274 = .ok (.invokevirtual 108, 3) := by decide +kernel
theorem dX11_isText_277 : decode cX11_isText 277 = .ok (.pop, 1) := by decide +kernel
theorem dX11_isText_278 : decode cX11_isText 278 = .ok (.iconst 1, 1) := by decide +kernel
theorem dX11_isText_279 : decode cX11_isText 279 = .ok (.ireturn, 1) := by decide +kernel
theorem dX11_takes_0 : decode cX11_takes 0 = .ok (.aload_n 0, 1) := by decide +kernel
theorem dX11_takes_1 : decode cX11_takes 1 = .ok (.getfield 7, 3) := by decide +kernel
theorem dX11_takes_4 : decode cX11_takes 4 = .ok (.iload_n 2, 1) := by decide +kernel
theorem dX11_takes_5 : decode cX11_takes 5 = .ok (.aload_n 0, 1) := by decide +kernel
theorem dX11_takes_6 : decode cX11_takes 6 = .ok (.getfield 29, 3) := by decide +kernel
theorem dX11_takes_9 : decode cX11_takes 9 = .ok (.iload_n 1, 1) := by decide +kernel
theorem dX11_takes_10 : decode cX11_takes 10 = .ok (.iaload, 1) := by decide +kernel
theorem dX11_takes_11 : decode cX11_takes 11 = .ok (.iastore, 1) := by decide +kernel
theorem dX11_takes_12 : decode cX11_takes 12 = .ok (.aload_n 0, 1) := by decide +kernel
theorem dX11_takes_13 : decode cX11_takes 13 = .ok (.getfield 16, 3) := by decide +kernel
theorem dX11_takes_16 : decode cX11_takes 16 = .ok (.iload_n 2, 1) := by decide +kernel
theorem dX11_takes_17 : decode cX11_takes 17 = .ok (.aload_n 0, 1) := by decide +kernel
theorem dX11_takes_18 : decode cX11_takes 18 = .ok (.getfield 35, 3) := by decide +kernel
theorem dX11_takes_21 : decode cX11_takes 21 = .ok (.iload_n 1, 1) := by decide +kernel
theorem dX11_takes_22 : decode cX11_takes 22 = .ok (.iaload, 1) := by decide +kernel
theorem dX11_takes_23 : decode cX11_takes 23 = .ok (.iastore, 1) := by decide +kernel
theorem dX11_takes_24 : decode cX11_takes 24 = .ok (.iconst 0, 1) := by decide +kernel
theorem dX11_takes_25 : decode cX11_takes 25 = .ok (.istore_n 3, 1) := by decide +kernel
theorem dX11_takes_26 : decode cX11_takes 26 = .ok (.iload_n 3, 1) := by decide +kernel
theorem dX11_takes_27 : decode cX11_takes 27 = .ok (.aload_n 0, 1) := by decide +kernel
theorem dX11_takes_28 : decode cX11_takes 28 = .ok (.getfield 7, 3) := by decide +kernel
theorem dX11_takes_31 : decode cX11_takes 31 = .ok (.iload_n 2, 1) := by decide +kernel
theorem dX11_takes_32 : decode cX11_takes 32 = .ok (.iaload, 1) := by decide +kernel
theorem dX11_takes_33 : decode cX11_takes 33 = .ok (.if_icmp .ge 31, 3) := by decide +kernel
theorem dX11_takes_36 : decode cX11_takes 36 = .ok (.aload_n 0, 1) := by decide +kernel
theorem dX11_takes_37 : decode cX11_takes 37 = .ok (.getfield 13, 3) := by decide +kernel
theorem dX11_takes_40 : decode cX11_takes 40 = .ok (.bipush 20, 2) := by decide +kernel
theorem dX11_takes_42 : decode cX11_takes 42 = .ok (.iload_n 2, 1) := by decide +kernel
theorem dX11_takes_43 : decode cX11_takes 43 = .ok (.imul, 1) := by decide +kernel
theorem dX11_takes_44 : decode cX11_takes 44 = .ok (.iload_n 3, 1) := by decide +kernel
theorem dX11_takes_45 : decode cX11_takes 45 = .ok (.iadd, 1) := by decide +kernel
theorem dX11_takes_46 : decode cX11_takes 46 = .ok (.aload_n 0, 1) := by decide +kernel
theorem dX11_takes_47 : decode cX11_takes 47 = .ok (.getfield 32, 3) := by decide +kernel
theorem dX11_takes_50 : decode cX11_takes 50 = .ok (.bipush 20, 2) := by decide +kernel
theorem dX11_takes_52 : decode cX11_takes 52 = .ok (.iload_n 1, 1) := by decide +kernel
theorem dX11_takes_53 : decode cX11_takes 53 = .ok (.imul, 1) := by decide +kernel
theorem dX11_takes_54 : decode cX11_takes 54 = .ok (.iload_n 3, 1) := by decide +kernel
theorem dX11_takes_55 : decode cX11_takes 55 = .ok (.iadd, 1) := by decide +kernel
theorem dX11_takes_56 : decode cX11_takes 56 = .ok (.iaload, 1) := by decide +kernel
theorem dX11_takes_57 : decode cX11_takes 57 = .ok (.iastore, 1) := by decide +kernel
theorem dX11_takes_58 : decode cX11_takes 58 = .ok (.iinc 3 1, 3) := by decide +kernel
theorem dX11_takes_61 : decode cX11_takes 61 = .ok (.goto (-35), 3) := by decide +kernel
theorem dX11_takes_64 : decode cX11_takes 64 = .ok (.return_, 1) := by decide +kernel
theorem dX11_words_0 : decode cX11_words 0 = .ok (.iconst 0, 1) := by decide +kernel
theorem dX11_words_1 : decode cX11_words 1 = .ok (.istore_n 1, 1) := by decide +kernel
theorem dX11_words_2 : decode cX11_words 2 = .ok (.iconst 0, 1) := by decide +kernel
theorem dX11_words_3 : decode cX11_words 3 = .ok (.istore_n 2, 1) := by decide +kernel
theorem dX11_words_4 : decode cX11_words 4 = .ok (.iload_n 2, 1) := by decide +kernel
theorem dX11_words_5 : decode cX11_words 5 = .ok (.aload_n 0, 1) := by decide +kernel
theorem dX11_words_6 : decode cX11_words 6 = .ok (.getfield 118, 3) := by decide +kernel
theorem dX11_words_9 : decode cX11_words 9 = .ok (.if_icmp .ge 36, 3) := by decide +kernel
theorem dX11_words_12 : decode cX11_words 12 = .ok (.iload_n 2, 1) := by decide +kernel
theorem dX11_words_13 : decode cX11_words 13 = .ok (.ifCond .le 19, 3) := by decide +kernel
theorem dX11_words_16 : decode cX11_words 16 = .ok (.aload_n 0, 1) := by decide +kernel
theorem dX11_words_17 : decode cX11_words 17 = .ok (.getfield 16, 3) := by decide +kernel
theorem dX11_words_20 : decode cX11_words 20 = .ok (.iload_n 2, 1) := by decide +kernel
theorem dX11_words_21 : decode cX11_words 21 = .ok (.iconst 1, 1) := by decide +kernel
theorem dX11_words_22 : decode cX11_words 22 = .ok (.isub, 1) := by decide +kernel
theorem dX11_words_23 : decode cX11_words 23 = .ok (.iaload, 1) := by decide +kernel
theorem dX11_words_24 : decode cX11_words 24 = .ok (.bipush 45, 2) := by decide +kernel
theorem dX11_words_26 : decode cX11_words 26 = .ok (.if_icmp .eq 6, 3) := by decide +kernel
theorem dX11_words_29 : decode cX11_words 29 = .ok (.iinc 1 1, 3) := by decide +kernel
theorem dX11_words_32 : decode cX11_words 32 = .ok (.aload_n 0, 1) := by decide +kernel
theorem dX11_words_33 : decode cX11_words 33 = .ok (.getfield 19, 3) := by decide +kernel
theorem dX11_words_36 : decode cX11_words 36 = .ok (.iload_n 2, 1) := by decide +kernel
theorem dX11_words_37 : decode cX11_words 37 = .ok (.iload_n 1, 1) := by decide +kernel
theorem dX11_words_38 : decode cX11_words 38 = .ok (.iastore, 1) := by decide +kernel
theorem dX11_words_39 : decode cX11_words 39 = .ok (.iinc 2 1, 3) := by decide +kernel
theorem dX11_words_42 : decode cX11_words 42 = .ok (.goto (-38), 3) := by decide +kernel
theorem dX11_words_45 : decode cX11_words 45 = .ok (.return_, 1) := by decide +kernel
set_option maxRecDepth 20000 in
theorem ggX11_text_X11_isText : GoodIn wsX11_text wsX11_isText := goodIn_r _ [10, 11, 1, 12, 13, 14, 15, 16, 17, 9, 18, 19, 20, 21, 22, 23, 24, 25, 26, 27, 28, 29, 30, 43, 44, 45, 46, 47, 48, 49, 50, 51, 52, 53, 54, 55, 56, 57, 58, 59, 60, 61, 62, 63, 64, 65, 66, 67, 68, 69, 70, 71, 72, 73, 74, 75, 76, 77, 78, 79, 80, 81, 82, 83, 84, 85, 86] (by decide +kernel) (by decide +kernel)
set_option maxRecDepth 20000 in
theorem gX11_text_X11_isText : GoodIn wsX11_text (wsV RX11 121 RX11 yX11_isText wsX11_isText) := goodIn_app (goodIn_of _ (by decide +kernel)) ggX11_text_X11_isText
set_option maxRecDepth 20000 in
theorem ggX11_text_X11_takes : GoodIn wsX11_text wsX11_takes := goodIn_r _ [34, 35, 13, 36, 14, 37, 15, 43, 44, 45, 46, 47, 48, 49, 50, 51, 52, 53, 54, 55, 56, 57, 58, 59, 60, 61, 62, 63, 64, 65, 66, 67, 68, 69, 70, 71, 72, 73, 74, 75, 76, 77, 78, 79, 80, 81, 82, 83, 84, 85, 86] (by decide +kernel) (by decide +kernel)
set_option maxRecDepth 20000 in
theorem gX11_text_X11_takes : GoodIn wsX11_text (wsV RX11 125 RX11 yX11_takes wsX11_takes) := goodIn_app (goodIn_of _ (by decide +kernel)) ggX11_text_X11_takes
set_option maxRecDepth 20000 in
theorem ggX11_text_X11_words : GoodIn wsX11_text wsX11_words := goodIn_r _ [41, 2, 36, 42, 43, 44, 45, 46, 47, 48, 49, 50, 51, 52, 53, 54, 55, 56, 57, 58, 59, 60, 61, 62, 63, 64, 65, 66, 67, 68, 69, 70, 71, 72, 73, 74, 75, 76, 77, 78, 79, 80, 81, 82, 83, 84, 85, 86] (by decide +kernel) (by decide +kernel)
set_option maxRecDepth 20000 in
theorem gX11_text_X11_words : GoodIn wsX11_text (wsV RX11 129 RX11 yX11_words wsX11_words) := goodIn_app (goodIn_of _ (by decide +kernel)) ggX11_text_X11_words
theorem dX11_text_0 : decode cX11_text 0 = .ok (.aload_n 0, 1) := by decide +kernel
theorem dX11_text_1 : decode cX11_text 1 = .ok (.invokevirtual 121, 3) := by decide +kernel
theorem dX11_text_4 : decode cX11_text 4 = .ok (.ifCond .ne 5, 3) := by decide +kernel
theorem dX11_text_7 : decode cX11_text 7 = .ok (.iconst (-1), 1) := by decide +kernel
theorem dX11_text_8 : decode cX11_text 8 = .ok (.ireturn, 1) := by decide +kernel
theorem dX11_text_9 : decode cX11_text 9 = .ok (.aload_n 0, 1) := by decide +kernel
theorem dX11_text_10 : decode cX11_text 10 = .ok (.aload_n 0, 1) := by decide +kernel
theorem dX11_text_11 : decode cX11_text 11 = .ok (.getfield 101, 3) := by decide +kernel
theorem dX11_text_14 : decode cX11_text 14 = .ok (.putfield 118, 3) := by decide +kernel
theorem dX11_text_17 : decode cX11_text 17 = .ok (.iconst 0, 1) := by decide +kernel
theorem dX11_text_18 : decode cX11_text 18 = .ok (.istore_n 1, 1) := by decide +kernel
theorem dX11_text_19 : decode cX11_text 19 = .ok (.iload_n 1, 1) := by decide +kernel
theorem dX11_text_20 : decode cX11_text 20 = .ok (.aload_n 0, 1) := by decide +kernel
theorem dX11_text_21 : decode cX11_text 21 = .ok (.getfield 118, 3) := by decide +kernel
theorem dX11_text_24 : decode cX11_text 24 = .ok (.if_icmp .ge 15, 3) := by decide +kernel
theorem dX11_text_27 : decode cX11_text 27 = .ok (.aload_n 0, 1) := by decide +kernel
theorem dX11_text_28 : decode cX11_text 28 = .ok (.iload_n 1, 1) := by decide +kernel
theorem dX11_text_29 : decode cX11_text 29 = .ok (.iload_n 1, 1) := by decide +kernel
theorem dX11_text_30 : decode cX11_text 30 = .ok (.invokevirtual 125, 3) := by decide +kernel
theorem dX11_text_33 : decode cX11_text 33 = .ok (.iinc 1 1, 3) := by decide +kernel
theorem dX11_text_36 : decode cX11_text 36 = .ok (.goto (-17), 3) := by decide +kernel
theorem dX11_text_39 : decode cX11_text 39 = .ok (.aload_n 0, 1) := by decide +kernel
theorem dX11_text_40 : decode cX11_text 40 = .ok (.invokevirtual 129, 3) := by decide +kernel
theorem dX11_text_43 : decode cX11_text 43 = .ok (.aload_n 0, 1) := by decide +kernel
theorem dX11_text_44 : decode cX11_text 44 = .ok (.iconst 0, 1) := by decide +kernel
theorem dX11_text_45 : decode cX11_text 45 = .ok (.putfield 132, 3) := by decide +kernel
theorem dX11_text_48 : decode cX11_text 48 = .ok (.aload_n 0, 1) := by decide +kernel
theorem dX11_text_49 : decode cX11_text 49 = .ok (.iconst 0, 1) := by decide +kernel
theorem dX11_text_50 : decode cX11_text 50 = .ok (.putfield 136, 3) := by decide +kernel
theorem dX11_text_53 : decode cX11_text 53 = .ok (.aload_n 0, 1) := by decide +kernel
theorem dX11_text_54 : decode cX11_text 54 = .ok (.iconst 0, 1) := by decide +kernel
theorem dX11_text_55 : decode cX11_text 55 = .ok (.putfield 139, 3) := by decide +kernel
theorem dX11_text_58 : decode cX11_text 58 = .ok (.aload_n 0, 1) := by decide +kernel
theorem dX11_text_59 : decode cX11_text 59 = .ok (.getfield 118, 3) := by decide +kernel
theorem dX11_text_62 : decode cX11_text 62 = .ok (.ireturn, 1) := by decide +kernel
theorem dX11_fault_0 : decode cX11_fault 0 = .ok (.iload_n 1, 1) := by decide +kernel
theorem dX11_fault_1 : decode cX11_fault 1 = .ok (.ifCond .ne 10, 3) := by decide +kernel
theorem dX11_fault_4 : decode cX11_fault 4 = .ok (.aload_n 0, 1) := by decide +kernel
theorem dX11_fault_5 : decode cX11_fault 5 = .ok (.getfield 98, 3) := by decide +kernel
theorem dX11_fault_8 : decode cX11_fault 8 = .ok (.goto 16, 3) := by decide +kernel
theorem dX11_fault_11 : decode cX11_fault 11 = .ok (.iload_n 1, 1) := by decide +kernel
theorem dX11_fault_12 : decode cX11_fault 12 = .ok (.iconst 1, 1) := by decide +kernel
theorem dX11_fault_13 : decode cX11_fault 13 = .ok (.if_icmp .ne 10, 3) := by decide +kernel
theorem dX11_fault_16 : decode cX11_fault 16 = .ok (.aload_n 0, 1) := by decide +kernel
theorem dX11_fault_17 : decode cX11_fault 17 = .ok (.getfield 25, 3) := by decide +kernel
theorem dX11_fault_20 : decode cX11_fault 20 = .ok (.goto 4, 3) := by decide +kernel
theorem dX11_fault_23 : decode cX11_fault 23 = .ok (.iconst (-1), 1) := by decide +kernel
theorem dX11_fault_24 : decode cX11_fault 24 = .ok (.ireturn, 1) := by decide +kernel
set_option maxRecDepth 20000 in
theorem ggX11_put_X11_isText : GoodIn wsX11_put wsX11_isText := goodIn_r _ [14, 3, 4, 15, 16, 17, 18, 19, 20, 13, 21, 22, 23, 24, 25, 26, 27, 28, 29, 30, 31, 32, 33, 43, 44, 45, 46, 47, 48, 49, 50, 51, 52, 53, 54, 55, 56, 57, 58, 59, 60, 61, 62, 63, 64, 65, 66, 67, 68, 69, 70, 71, 72, 73, 74, 75, 76, 77, 78, 79, 80, 81, 82, 83, 84, 85, 86] (by decide +kernel) (by decide +kernel)
set_option maxRecDepth 20000 in
theorem gX11_put_X11_isText : GoodIn wsX11_put (wsV RX11 121 RX11 yX11_isText wsX11_isText) := goodIn_app (goodIn_of _ (by decide +kernel)) ggX11_put_X11_isText
set_option maxRecDepth 20000 in
theorem ggX11_put_X11_takes : GoodIn wsX11_put wsX11_takes := goodIn_r _ [37, 5, 16, 2, 17, 6, 18, 43, 44, 45, 46, 47, 48, 49, 50, 51, 52, 53, 54, 55, 56, 57, 58, 59, 60, 61, 62, 63, 64, 65, 66, 67, 68, 69, 70, 71, 72, 73, 74, 75, 76, 77, 78, 79, 80, 81, 82, 83, 84, 85, 86] (by decide +kernel) (by decide +kernel)
set_option maxRecDepth 20000 in
theorem gX11_put_X11_takes : GoodIn wsX11_put (wsV RX11 125 RX11 yX11_takes wsX11_takes) := goodIn_app (goodIn_of _ (by decide +kernel)) ggX11_put_X11_takes
set_option maxRecDepth 20000 in
theorem ggX11_put_X11_words : GoodIn wsX11_put wsX11_words := goodIn_r _ [41, 1, 2, 42, 43, 44, 45, 46, 47, 48, 49, 50, 51, 52, 53, 54, 55, 56, 57, 58, 59, 60, 61, 62, 63, 64, 65, 66, 67, 68, 69, 70, 71, 72, 73, 74, 75, 76, 77, 78, 79, 80, 81, 82, 83, 84, 85, 86] (by decide +kernel) (by decide +kernel)
set_option maxRecDepth 20000 in
theorem gX11_put_X11_words : GoodIn wsX11_put (wsV RX11 129 RX11 yX11_words wsX11_words) := goodIn_app (goodIn_of _ (by decide +kernel)) ggX11_put_X11_words
theorem dX11_put_0 : decode cX11_put 0 = .ok (.iload_n 1, 1) := by decide +kernel
theorem dX11_put_1 : decode cX11_put 1 = .ok (.ifCond .lt 39, 3) := by decide +kernel
theorem dX11_put_4 : decode cX11_put 4 = .ok (.iload_n 1, 1) := by decide +kernel
theorem dX11_put_5 : decode cX11_put 5 = .ok (.aload_n 0, 1) := by decide +kernel
theorem dX11_put_6 : decode cX11_put 6 = .ok (.getfield 118, 3) := by decide +kernel
theorem dX11_put_9 : decode cX11_put 9 = .ok (.if_icmp .ge 31, 3) := by decide +kernel
theorem dX11_put_12 : decode cX11_put 12 = .ok (.aload_n 0, 1) := by decide +kernel
theorem dX11_put_13 : decode cX11_put 13 = .ok (.getfield 16, 3) := by decide +kernel
theorem dX11_put_16 : decode cX11_put 16 = .ok (.iload_n 1, 1) := by decide +kernel
theorem dX11_put_17 : decode cX11_put 17 = .ok (.iaload, 1) := by decide +kernel
theorem dX11_put_18 : decode cX11_put 18 = .ok (.bipush 45, 2) := by decide +kernel
theorem dX11_put_20 : decode cX11_put 20 = .ok (.if_icmp .eq 20, 3) := by decide +kernel
theorem dX11_put_23 : decode cX11_put 23 = .ok (.iload_n 1, 1) := by decide +kernel
theorem dX11_put_24 : decode cX11_put 24 = .ok (.ifCond .le 23, 3) := by decide +kernel
theorem dX11_put_27 : decode cX11_put 27 = .ok (.aload_n 0, 1) := by decide +kernel
theorem dX11_put_28 : decode cX11_put 28 = .ok (.getfield 16, 3) := by decide +kernel
theorem dX11_put_31 : decode cX11_put 31 = .ok (.iload_n 1, 1) := by decide +kernel
theorem dX11_put_32 : decode cX11_put 32 = .ok (.iconst 1, 1) := by decide +kernel
theorem dX11_put_33 : decode cX11_put 33 = .ok (.isub, 1) := by decide +kernel
theorem dX11_put_34 : decode cX11_put 34 = .ok (.iaload, 1) := by decide +kernel
theorem dX11_put_35 : decode cX11_put 35 = .ok (.bipush 45, 2) := by decide +kernel
theorem dX11_put_37 : decode cX11_put 37 = .ok (.if_icmp .ne 10, 3) := by decide +kernel
theorem dX11_put_40 : decode cX11_put 40 = .ok (.aload_n 0, 1) := by decide +kernel
theorem dX11_put_41 : decode cX11_put 41 = .ok (.iconst 0, 1) := by decide +kernel
theorem dX11_put_42 : decode cX11_put 42 = .ok (.putfield 95, 3) := by decide +kernel
theorem dX11_put_45 : decode cX11_put 45 = .ok (.iconst (-1), 1) := by decide +kernel
theorem dX11_put_46 : decode cX11_put 46 = .ok (.ireturn, 1) := by decide +kernel
theorem dX11_put_47 : decode cX11_put 47 = .ok (.aload_n 0, 1) := by decide +kernel
theorem dX11_put_48 : decode cX11_put 48 = .ok (.invokevirtual 121, 3) := by decide +kernel
theorem dX11_put_51 : decode cX11_put 51 = .ok (.ifCond .eq 26, 3) := by decide +kernel
theorem dX11_put_54 : decode cX11_put 54 = .ok (.aload_n 0, 1) := by decide +kernel
theorem dX11_put_55 : decode cX11_put 55 = .ok (.getfield 101, 3) := by decide +kernel
theorem dX11_put_58 : decode cX11_put 58 = .ok (.ifCond .eq 19, 3) := by decide +kernel
theorem dX11_put_61 : decode cX11_put 61 = .ok (.aload_n 0, 1) := by decide +kernel
theorem dX11_put_62 : decode cX11_put 62 = .ok (.getfield 118, 3) := by decide +kernel
theorem dX11_put_65 : decode cX11_put 65 = .ok (.iconst 1, 1) := by decide +kernel
theorem dX11_put_66 : decode cX11_put 66 = .ok (.isub, 1) := by decide +kernel
theorem dX11_put_67 : decode cX11_put 67 = .ok (.aload_n 0, 1) := by decide +kernel
theorem dX11_put_68 : decode cX11_put 68 = .ok (.getfield 101, 3) := by decide +kernel
theorem dX11_put_71 : decode cX11_put 71 = .ok (.iadd, 1) := by decide +kernel
theorem dX11_put_72 : decode cX11_put 72 = .ok (.bipush 80, 2) := by decide +kernel
theorem dX11_put_74 : decode cX11_put 74 = .ok (.if_icmp .le 6, 3) := by decide +kernel
theorem dX11_put_77 : decode cX11_put 77 = .ok (.bipush (-2), 2) := by decide +kernel
theorem dX11_put_79 : decode cX11_put 79 = .ok (.ireturn, 1) := by decide +kernel
theorem dX11_put_80 : decode cX11_put 80 = .ok (.aload_n 0, 1) := by decide +kernel
theorem dX11_put_81 : decode cX11_put 81 = .ok (.getfield 101, 3) := by decide +kernel
theorem dX11_put_84 : decode cX11_put 84 = .ok (.iconst 1, 1) := by decide +kernel
theorem dX11_put_85 : decode cX11_put 85 = .ok (.isub, 1) := by decide +kernel
theorem dX11_put_86 : decode cX11_put 86 = .ok (.istore_n 2, 1) := by decide +kernel
theorem dX11_put_87 : decode cX11_put 87 = .ok (.aload_n 0, 1) := by decide +kernel
theorem dX11_put_88 : decode cX11_put 88 = .ok (.getfield 118, 3) := by decide +kernel
theorem dX11_put_91 : decode cX11_put 91 = .ok (.iconst 1, 1) := by decide +kernel
theorem dX11_put_92 : decode cX11_put 92 = .ok (.isub, 1) := by decide +kernel
theorem dX11_put_93 : decode cX11_put 93 = .ok (.istore_n 3, 1) := by decide +kernel
theorem dX11_put_94 : decode cX11_put 94 = .ok (.iload_n 3, 1) := by decide +kernel
theorem dX11_put_95 : decode cX11_put 95 = .ok (.iload_n 1, 1) := by decide +kernel
theorem dX11_put_96 : decode cX11_put 96 = .ok (.if_icmp .le 79, 3) := by decide +kernel
theorem dX11_put_99 : decode cX11_put 99 = .ok (.aload_n 0, 1) := by decide +kernel
theorem dX11_put_100 : decode cX11_put 100 = .ok (.getfield 7, 3) := by decide +kernel
theorem dX11_put_103 : decode cX11_put 103 = .ok (.iload_n 3, 1) := by decide +kernel
theorem dX11_put_104 : decode cX11_put 104 = .ok (.iload_n 2, 1) := by decide +kernel
theorem dX11_put_105 : decode cX11_put 105 = .ok (.iadd, 1) := by decide +kernel
theorem dX11_put_106 : decode cX11_put 106 = .ok (.aload_n 0, 1) := by decide +kernel
theorem dX11_put_107 : decode cX11_put 107 = .ok (.getfield 7, 3) := by decide +kernel
theorem dX11_put_110 : decode cX11_put 110 = .ok (.iload_n 3, 1) := by decide +kernel
theorem dX11_put_111 : decode cX11_put 111 = .ok (.iaload, 1) := by decide +kernel
theorem dX11_put_112 : decode cX11_put 112 = .ok (.iastore, 1) := by decide +kernel
theorem dX11_put_113 : decode cX11_put 113 = .ok (.aload_n 0, 1) := by decide +kernel
theorem dX11_put_114 : decode cX11_put 114 = .ok (.getfield 16, 3) := by decide +kernel
theorem dX11_put_117 : decode cX11_put 117 = .ok (.iload_n 3, 1) := by decide +kernel
theorem dX11_put_118 : decode cX11_put 118 = .ok (.iload_n 2, 1) := by decide +kernel
theorem dX11_put_119 : decode cX11_put 119 = .ok (.iadd, 1) := by decide +kernel
theorem dX11_put_120 : decode cX11_put 120 = .ok (.aload_n 0, 1) := by decide +kernel
theorem dX11_put_121 : decode cX11_put 121 = .ok (.getfield 16, 3) := by decide +kernel
theorem dX11_put_124 : decode cX11_put 124 = .ok (.iload_n 3, 1) := by decide +kernel
theorem dX11_put_125 : decode cX11_put 125 = .ok (.iaload, 1) := by decide +kernel
theorem dX11_put_126 : decode cX11_put 126 = .ok (.iastore, 1) := by decide +kernel
theorem dX11_put_127 : decode cX11_put 127 = .ok (.iconst 0, 1) := by decide +kernel
theorem dX11_put_128 : decode cX11_put 128 = .ok (.istore 4, 2) := by decide +kernel
theorem dX11_put_130 : decode cX11_put 130 = .ok (.iload 4, 2) := by decide +kernel
theorem dX11_put_132 : decode cX11_put 132 = .ok (.bipush 20, 2) := by decide +kernel
theorem dX11_put_134 : decode cX11_put 134 = .ok (.if_icmp .ge 35, 3) := by decide +kernel
theorem dX11_put_137 : decode cX11_put 137 = .ok (.aload_n 0, 1) := by decide +kernel
theorem dX11_put_138 : decode cX11_put 138 = .ok (.getfield 13, 3) := by decide +kernel
theorem dX11_put_141 : decode cX11_put 141 = .ok (.bipush 20, 2) := by decide +kernel
theorem dX11_put_143 : decode cX11_put 143 = .ok (.iload_n 3, 1) := by decide +kernel
theorem dX11_put_144 : decode cX11_put 144 = .ok (.iload_n 2, 1) := by decide +kernel
theorem dX11_put_145 : decode cX11_put 145 = .ok (.iadd, 1) := by decide +kernel
theorem dX11_put_146 : decode cX11_put 146 = .ok (.imul, 1) := by decide +kernel
theorem dX11_put_147 : decode cX11_put 147 = .ok (.iload 4, 2) := by decide +kernel
theorem dX11_put_149 : decode cX11_put 149 = .ok (.iadd, 1) := by decide +kernel
theorem dX11_put_150 : decode cX11_put 150 = .ok (.aload_n 0, 1) := by decide +kernel
theorem dX11_put_151 : decode cX11_put 151 = .ok (.getfield 13, 3) := by decide +kernel
theorem dX11_put_154 : decode cX11_put 154 = .ok (.bipush 20, 2) := by decide +kernel
theorem dX11_put_156 : decode cX11_put 156 = .ok (.iload_n 3, 1) := by decide +kernel
theorem dX11_put_157 : decode cX11_put 157 = .ok (.imul, 1) := by decide +kernel
theorem dX11_put_158 : decode cX11_put 158 = .ok (.iload 4, 2) := by decide +kernel
theorem dX11_put_160 : decode cX11_put 160 = .ok (.iadd, 1) := by decide +kernel
theorem dX11_put_161 : decode cX11_put 161 = .ok (.iaload, 1) := by decide +kernel
theorem dX11_put_162 : decode cX11_put 162 = .ok (.iastore, 1) := by decide +kernel
theorem dX11_put_163 : decode cX11_put 163 = .ok (.iinc 4 1, 3) := by decide +kernel
theorem dX11_put_166 : decode cX11_put 166 = .ok (.goto (-36), 3) := by decide +kernel
theorem dX11_put_169 : decode cX11_put 169 = .ok (.iinc 3 (-1), 3) := by decide +kernel
theorem dX11_put_172 : decode cX11_put 172 = .ok (.goto (-78), 3) := by decide +kernel
theorem dX11_put_175 : decode cX11_put 175 = .ok (.aload_n 0, 1) := by decide +kernel
theorem dX11_put_176 : decode cX11_put 176 = .ok (.dup, 1) := by decide +kernel
theorem dX11_put_177 : decode cX11_put 177 = .ok (.getfield 118, 3) := by decide +kernel
theorem dX11_put_180 : decode cX11_put 180 = .ok (.iload_n 2, 1) := by decide +kernel
theorem dX11_put_181 : decode cX11_put 181 = .ok (.iadd, 1) := by decide +kernel
theorem dX11_put_182 : decode cX11_put 182 = .ok (.putfield 118, 3) := by decide +kernel
theorem dX11_put_185 : decode cX11_put 185 = .ok (.iconst 0, 1) := by decide +kernel
theorem dX11_put_186 : decode cX11_put 186 = .ok (.istore_n 3, 1) := by decide +kernel
theorem dX11_put_187 : decode cX11_put 187 = .ok (.iload_n 3, 1) := by decide +kernel
theorem dX11_put_188 : decode cX11_put 188 = .ok (.aload_n 0, 1) := by decide +kernel
theorem dX11_put_189 : decode cX11_put 189 = .ok (.getfield 101, 3) := by decide +kernel
theorem dX11_put_192 : decode cX11_put 192 = .ok (.if_icmp .ge 17, 3) := by decide +kernel
theorem dX11_put_195 : decode cX11_put 195 = .ok (.aload_n 0, 1) := by decide +kernel
theorem dX11_put_196 : decode cX11_put 196 = .ok (.iload_n 3, 1) := by decide +kernel
theorem dX11_put_197 : decode cX11_put 197 = .ok (.iload_n 1, 1) := by decide +kernel
theorem dX11_put_198 : decode cX11_put 198 = .ok (.iload_n 3, 1) := by decide +kernel
theorem dX11_put_199 : decode cX11_put 199 = .ok (.iadd, 1) := by decide +kernel
theorem dX11_put_200 : decode cX11_put 200 = .ok (.invokevirtual 125, 3) := by decide +kernel
theorem dX11_put_203 : decode cX11_put 203 = .ok (.iinc 3 1, 3) := by decide +kernel
theorem dX11_put_206 : decode cX11_put 206 = .ok (.goto (-19), 3) := by decide +kernel
theorem dX11_put_209 : decode cX11_put 209 = .ok (.aload_n 0, 1) := by decide +kernel
theorem dX11_put_210 : decode cX11_put 210 = .ok (.invokevirtual 129, 3) := by decide +kernel
theorem dX11_put_213 : decode cX11_put 213 = .ok (.iconst 0, 1) := by decide +kernel
theorem dX11_put_214 : decode cX11_put 214 = .ok (.istore_n 3, 1) := by decide +kernel
theorem dX11_put_215 : decode cX11_put 215 = .ok (.iload_n 3, 1) := by decide +kernel
theorem dX11_put_216 : decode cX11_put 216 = .ok (.aload_n 0, 1) := by decide +kernel
theorem dX11_put_217 : decode cX11_put 217 = .ok (.getfield 139, 3) := by decide +kernel
theorem dX11_put_220 : decode cX11_put 220 = .ok (.if_icmp .ge 29, 3) := by decide +kernel
theorem dX11_put_223 : decode cX11_put 223 = .ok (.aload_n 0, 1) := by decide +kernel
theorem dX11_put_224 : decode cX11_put 224 = .ok (.getfield 89, 3) := by decide +kernel
theorem dX11_put_227 : decode cX11_put 227 = .ok (.iload_n 3, 1) := by decide +kernel
theorem dX11_put_228 : decode cX11_put 228 = .ok (.iaload, 1) := by decide +kernel
theorem dX11_put_229 : decode cX11_put 229 = .ok (.iload_n 1, 1) := by decide +kernel
theorem dX11_put_230 : decode cX11_put 230 = .ok (.if_icmp .le 13, 3) := by decide +kernel
theorem dX11_put_233 : decode cX11_put 233 = .ok (.aload_n 0, 1) := by decide +kernel
theorem dX11_put_234 : decode cX11_put 234 = .ok (.getfield 89, 3) := by decide +kernel
theorem dX11_put_237 : decode cX11_put 237 = .ok (.iload_n 3, 1) := by decide +kernel
theorem dX11_put_238 : decode cX11_put 238 = .ok (.dup2, 1) := by decide +kernel
theorem dX11_put_239 : decode cX11_put 239 = .ok (.iaload, 1) := by decide +kernel
theorem dX11_put_240 : decode cX11_put 240 = .ok (.iload_n 2, 1) := by decide +kernel
theorem dX11_put_241 : decode cX11_put 241 = .ok (.iadd, 1) := by decide +kernel
theorem dX11_put_242 : decode cX11_put 242 = .ok (.iastore, 1) := by decide +kernel
theorem dX11_put_243 : decode cX11_put 243 = .ok (.iinc 3 1, 3) := by decide +kernel
theorem dX11_put_246 : decode cX11_put 246 = .ok (.goto (-31), 3) := by decide +kernel
theorem dX11_put_249 : decode cX11_put 249 = .ok (.aload_n 0, 1) := by decide +kernel
theorem dX11_put_250 : decode cX11_put 250 = .ok (.iconst 0, 1) := by decide +kernel
theorem dX11_put_251 : decode cX11_put 251 = .ok (.putfield 136, 3) := by decide +kernel
theorem dX11_put_254 : decode cX11_put 254 = .ok (.aload_n 0, 1) := by decide +kernel
theorem dX11_put_255 : decode cX11_put 255 = .ok (.getfield 118, 3) := by decide +kernel
theorem dX11_put_258 : decode cX11_put 258 = .ok (.ireturn, 1) := by decide +kernel
theorem dX11_unit_0 : decode cX11_unit 0 = .ok (.iload_n 1, 1) := by decide +kernel
theorem dX11_unit_1 : decode cX11_unit 1 = .ok (.ifCond .lt 11, 3) := by decide +kernel
theorem dX11_unit_4 : decode cX11_unit 4 = .ok (.iload_n 1, 1) := by decide +kernel
theorem dX11_unit_5 : decode cX11_unit 5 = .ok (.aload_n 0, 1) := by decide +kernel
theorem dX11_unit_6 : decode cX11_unit 6 = .ok (.getfield 118, 3) := by decide +kernel
theorem dX11_unit_9 : decode cX11_unit 9 = .ok (.if_icmp .lt 5, 3) := by decide +kernel
theorem dX11_unit_12 : decode cX11_unit 12 = .ok (.iconst (-1), 1) := by decide +kernel
theorem dX11_unit_13 : decode cX11_unit 13 = .ok (.ireturn, 1) := by decide +kernel
theorem dX11_unit_14 : decode cX11_unit 14 = .ok (.iload_n 2, 1) := by decide +kernel
theorem dX11_unit_15 : decode cX11_unit 15 = .ok (.ifCond .ne 12, 3) := by decide +kernel
theorem dX11_unit_18 : decode cX11_unit 18 = .ok (.aload_n 0, 1) := by decide +kernel
theorem dX11_unit_19 : decode cX11_unit 19 = .ok (.getfield 7, 3) := by decide +kernel
theorem dX11_unit_22 : decode cX11_unit 22 = .ok (.iload_n 1, 1) := by decide +kernel
theorem dX11_unit_23 : decode cX11_unit 23 = .ok (.iaload, 1) := by decide +kernel
theorem dX11_unit_24 : decode cX11_unit 24 = .ok (.goto 32, 3) := by decide +kernel
theorem dX11_unit_27 : decode cX11_unit 27 = .ok (.iload_n 2, 1) := by decide +kernel
theorem dX11_unit_28 : decode cX11_unit 28 = .ok (.iconst 1, 1) := by decide +kernel
theorem dX11_unit_29 : decode cX11_unit 29 = .ok (.if_icmp .ne 12, 3) := by decide +kernel
theorem dX11_unit_32 : decode cX11_unit 32 = .ok (.aload_n 0, 1) := by decide +kernel
theorem dX11_unit_33 : decode cX11_unit 33 = .ok (.getfield 16, 3) := by decide +kernel
theorem dX11_unit_36 : decode cX11_unit 36 = .ok (.iload_n 1, 1) := by decide +kernel
theorem dX11_unit_37 : decode cX11_unit 37 = .ok (.iaload, 1) := by decide +kernel
theorem dX11_unit_38 : decode cX11_unit 38 = .ok (.goto 18, 3) := by decide +kernel
theorem dX11_unit_41 : decode cX11_unit 41 = .ok (.iload_n 2, 1) := by decide +kernel
theorem dX11_unit_42 : decode cX11_unit 42 = .ok (.iconst 2, 1) := by decide +kernel
theorem dX11_unit_43 : decode cX11_unit 43 = .ok (.if_icmp .ne 12, 3) := by decide +kernel
theorem dX11_unit_46 : decode cX11_unit 46 = .ok (.aload_n 0, 1) := by decide +kernel
theorem dX11_unit_47 : decode cX11_unit 47 = .ok (.getfield 19, 3) := by decide +kernel
theorem dX11_unit_50 : decode cX11_unit 50 = .ok (.iload_n 1, 1) := by decide +kernel
theorem dX11_unit_51 : decode cX11_unit 51 = .ok (.iaload, 1) := by decide +kernel
theorem dX11_unit_52 : decode cX11_unit 52 = .ok (.goto 4, 3) := by decide +kernel
theorem dX11_unit_55 : decode cX11_unit 55 = .ok (.iconst (-1), 1) := by decide +kernel
theorem dX11_unit_56 : decode cX11_unit 56 = .ok (.ireturn, 1) := by decide +kernel
theorem dX11_isIn_0 : decode cX11_isIn 0 = .ok (.iload_n 0, 1) := by decide +kernel
theorem dX11_isIn_1 : decode cX11_isIn 1 = .ok (.iload_n 1, 1) := by decide +kernel
theorem dX11_isIn_2 : decode cX11_isIn 2 = .ok (.if_icmp .lt 12, 3) := by decide +kernel
theorem dX11_isIn_5 : decode cX11_isIn 5 = .ok (.iload_n 0, 1) := by decide +kernel
theorem dX11_isIn_6 : decode cX11_isIn 6 = .ok (.iload_n 2, 1) := by decide +kernel
theorem dX11_isIn_7 : decode cX11_isIn 7 = .ok (.if_icmp .gt 7, 3) := by decide +kernel
theorem dX11_isIn_10 : decode cX11_isIn 10 = .ok (.iconst 1, 1) := by decide +kernel
theorem dX11_isIn_11 : decode cX11_isIn 11 = .ok (.goto 4, 3) := by decide +kernel
theorem dX11_isIn_14 : decode cX11_isIn 14 = .ok (.iconst 0, 1) := by decide +kernel
theorem dX11_isIn_15 : decode cX11_isIn 15 = .ok (.ireturn, 1) := by decide +kernel
set_option maxRecDepth 20000 in
theorem ggX11_measure_X11_isIn : GoodIn wsX11_measure wsX11_isIn := goodIn_r _ [6] (by decide +kernel) (by decide +kernel)
set_option maxRecDepth 20000 in
theorem gX11_measure_X11_isIn : GoodIn wsX11_measure (va_wsS RX11 142 yX11_isIn wsX11_isIn) := goodIn_app (goodIn_of _ (by decide +kernel)) ggX11_measure_X11_isIn
theorem dX11_measure_0 : decode cX11_measure 0 = .ok (.iload_n 1, 1) := by decide +kernel
theorem dX11_measure_1 : decode cX11_measure 1 = .ok (.bipush 10, 2) := by decide +kernel
theorem dX11_measure_3 : decode cX11_measure 3 = .ok (.bipush 60, 2) := by decide +kernel
theorem dX11_measure_5 : decode cX11_measure 5 = .ok (.invokestatic 142, 3) := by decide +kernel
theorem dX11_measure_8 : decode cX11_measure 8 = .ok (.ifCond .eq 12, 3) := by decide +kernel
theorem dX11_measure_11 : decode cX11_measure 11 = .ok (.iload_n 2, 1) := by decide +kernel
theorem dX11_measure_12 : decode cX11_measure 12 = .ok (.iconst 1, 1) := by decide +kernel
theorem dX11_measure_13 : decode cX11_measure 13 = .ok (.iconst 3, 1) := by decide +kernel
theorem dX11_measure_14 : decode cX11_measure 14 = .ok (.invokestatic 142, 3) := by decide +kernel
theorem dX11_measure_17 : decode cX11_measure 17 = .ok (.ifCond .ne 5, 3) := by decide +kernel
theorem dX11_measure_20 : decode cX11_measure 20 = .ok (.iconst 0, 1) := by decide +kernel
theorem dX11_measure_21 : decode cX11_measure 21 = .ok (.ireturn, 1) := by decide +kernel
theorem dX11_measure_22 : decode cX11_measure 22 = .ok (.aload_n 0, 1) := by decide +kernel
theorem dX11_measure_23 : decode cX11_measure 23 = .ok (.iload_n 1, 1) := by decide +kernel
theorem dX11_measure_24 : decode cX11_measure 24 = .ok (.putfield 38, 3) := by decide +kernel
theorem dX11_measure_27 : decode cX11_measure 27 = .ok (.aload_n 0, 1) := by decide +kernel
theorem dX11_measure_28 : decode cX11_measure 28 = .ok (.iload_n 2, 1) := by decide +kernel
theorem dX11_measure_29 : decode cX11_measure 29 = .ok (.putfield 41, 3) := by decide +kernel
theorem dX11_measure_32 : decode cX11_measure 32 = .ok (.iconst 1, 1) := by decide +kernel
theorem dX11_measure_33 : decode cX11_measure 33 = .ok (.ireturn, 1) := by decide +kernel
set_option maxRecDepth 20000 in
theorem ggX11_strains_X11_isIn : GoodIn wsX11_strains wsX11_isIn := goodIn_r _ [9] (by decide +kernel) (by decide +kernel)
set_option maxRecDepth 20000 in
theorem gX11_strains_X11_isIn : GoodIn wsX11_strains (va_wsS RX11 142 yX11_isIn wsX11_isIn) := goodIn_app (goodIn_of _ (by decide +kernel)) ggX11_strains_X11_isIn
theorem dX11_strains_0 : decode cX11_strains 0 = .ok (.iload_n 1, 1) := by decide +kernel
theorem dX11_strains_1 : decode cX11_strains 1 = .ok (.iconst 0, 1) := by decide +kernel
theorem dX11_strains_2 : decode cX11_strains 2 = .ok (.bipush 100, 2) := by decide +kernel
theorem dX11_strains_4 : decode cX11_strains 4 = .ok (.invokestatic 142, 3) := by decide +kernel
theorem dX11_strains_7 : decode cX11_strains 7 = .ok (.ifCond .eq 49, 3) := by decide +kernel
theorem dX11_strains_10 : decode cX11_strains 10 = .ok (.iload_n 2, 1) := by decide +kernel
theorem dX11_strains_11 : decode cX11_strains 11 = .ok (.iconst 0, 1) := by decide +kernel
theorem dX11_strains_12 : decode cX11_strains 12 = .ok (.sipush 10000, 3) := by decide +kernel
theorem dX11_strains_15 : decode cX11_strains 15 = .ok (.invokestatic 142, 3) := by decide +kernel
theorem dX11_strains_18 : decode cX11_strains 18 = .ok (.ifCond .eq 38, 3) := by decide +kernel
theorem dX11_strains_21 : decode cX11_strains 21 = .ok (.iload_n 3, 1) := by decide +kernel
theorem dX11_strains_22 : decode cX11_strains 22 = .ok (.iconst 0, 1) := by decide +kernel
theorem dX11_strains_23 : decode cX11_strains 23 = .ok (.sipush 10000, 3) := by decide +kernel
theorem dX11_strains_26 : decode cX11_strains 26 = .ok (.invokestatic 142, 3) := by decide +kernel
theorem dX11_strains_29 : decode cX11_strains 29 = .ok (.ifCond .eq 27, 3) := by decide +kernel
theorem dX11_strains_32 : decode cX11_strains 32 = .ok (.iload 4, 2) := by decide +kernel
theorem dX11_strains_34 : decode cX11_strains 34 = .ok (.iconst 0, 1) := by decide +kernel
theorem dX11_strains_35 : decode cX11_strains 35 = .ok (.sipush 10000, 3) := by decide +kernel
theorem dX11_strains_38 : decode cX11_strains 38 = .ok (.invokestatic 142, 3) := by decide +kernel
theorem dX11_strains_41 : decode cX11_strains 41 = .ok (.ifCond .eq 15, 3) := by decide +kernel
theorem dX11_strains_44 : decode cX11_strains 44 = .ok (.iload 5, 2) := by decide +kernel
theorem dX11_strains_46 : decode cX11_strains 46 = .ok (.iconst 0, 1) := by decide +kernel
theorem dX11_strains_47 : decode cX11_strains 47 = .ok (.sipush 1000, 3) := by decide +kernel
theorem dX11_strains_50 : decode cX11_strains 50 = .ok (.invokestatic 142, 3) := by decide +kernel
theorem dX11_strains_53 : decode cX11_strains 53 = .ok (.ifCond .ne 5, 3) := by decide +kernel
theorem dX11_strains_56 : decode cX11_strains 56 = .ok (.iconst 0, 1) := by decide +kernel
theorem dX11_strains_57 : decode cX11_strains 57 = .ok (.ireturn, 1) := by decide +kernel
theorem dX11_strains_58 : decode cX11_strains 58 = .ok (.aload_n 0, 1) := by decide +kernel
theorem dX11_strains_59 : decode cX11_strains 59 = .ok (.iload_n 1, 1) := by decide +kernel
theorem dX11_strains_60 : decode cX11_strains 60 = .ok (.putfield 44, 3) := by decide +kernel
theorem dX11_strains_63 : decode cX11_strains 63 = .ok (.aload_n 0, 1) := by decide +kernel
theorem dX11_strains_64 : decode cX11_strains 64 = .ok (.iload_n 2, 1) := by decide +kernel
theorem dX11_strains_65 : decode cX11_strains 65 = .ok (.putfield 47, 3) := by decide +kernel
theorem dX11_strains_68 : decode cX11_strains 68 = .ok (.aload_n 0, 1) := by decide +kernel
theorem dX11_strains_69 : decode cX11_strains 69 = .ok (.iload_n 3, 1) := by decide +kernel
theorem dX11_strains_70 : decode cX11_strains 70 = .ok (.putfield 50, 3) := by decide +kernel
theorem dX11_strains_73 : decode cX11_strains 73 = .ok (.aload_n 0, 1) := by decide +kernel
theorem dX11_strains_74 : decode cX11_strains 74 = .ok (.iload 4, 2) := by decide +kernel
theorem dX11_strains_76 : decode cX11_strains 76 = .ok (.putfield 53, 3) := by decide +kernel
theorem dX11_strains_79 : decode cX11_strains 79 = .ok (.aload_n 0, 1) := by decide +kernel
theorem dX11_strains_80 : decode cX11_strains 80 = .ok (.iload 5, 2) := by decide +kernel
theorem dX11_strains_82 : decode cX11_strains 82 = .ok (.putfield 56, 3) := by decide +kernel
theorem dX11_strains_85 : decode cX11_strains 85 = .ok (.iconst 1, 1) := by decide +kernel
theorem dX11_strains_86 : decode cX11_strains 86 = .ok (.ireturn, 1) := by decide +kernel
set_option maxRecDepth 20000 in
theorem ggX11_like_X11_isLetter : GoodIn wsX11_like wsX11_isLetter := goodIn_r _ [5] (by decide +kernel) (by decide +kernel)
set_option maxRecDepth 20000 in
theorem gX11_like_X11_isLetter : GoodIn wsX11_like (va_wsS RX11 104 yX11_isLetter wsX11_isLetter) := goodIn_app (goodIn_of _ (by decide +kernel)) ggX11_like_X11_isLetter
set_option maxRecDepth 20000 in
theorem ggX11_like_X11_isIn : GoodIn wsX11_like wsX11_isIn := goodIn_r _ [8] (by decide +kernel) (by decide +kernel)
set_option maxRecDepth 20000 in
theorem gX11_like_X11_isIn : GoodIn wsX11_like (va_wsS RX11 142 yX11_isIn wsX11_isIn) := goodIn_app (goodIn_of _ (by decide +kernel)) ggX11_like_X11_isIn
theorem dX11_like_0 : decode cX11_like 0 = .ok (.iload_n 1, 1) := by decide +kernel
theorem dX11_like_1 : decode cX11_like 1 = .ok (.invokestatic 104, 3) := by decide +kernel
theorem dX11_like_4 : decode cX11_like 4 = .ok (.ifCond .eq 21, 3) := by decide +kernel
theorem dX11_like_7 : decode cX11_like 7 = .ok (.iload_n 2, 1) := by decide +kernel
theorem dX11_like_8 : decode cX11_like 8 = .ok (.invokestatic 104, 3) := by decide +kernel
theorem dX11_like_11 : decode cX11_like 11 = .ok (.ifCond .eq 14, 3) := by decide +kernel
theorem dX11_like_14 : decode cX11_like 14 = .ok (.iload_n 3, 1) := by decide +kernel
theorem dX11_like_15 : decode cX11_like 15 = .ok (.iconst 0, 1) := by decide +kernel
theorem dX11_like_16 : decode cX11_like 16 = .ok (.sipush 1000, 3) := by decide +kernel
theorem dX11_like_19 : decode cX11_like 19 = .ok (.invokestatic 142, 3) := by decide +kernel
theorem dX11_like_22 : decode cX11_like 22 = .ok (.ifCond .ne 5, 3) := by decide +kernel
theorem dX11_like_25 : decode cX11_like 25 = .ok (.iconst (-1), 1) := by decide +kernel
theorem dX11_like_26 : decode cX11_like 26 = .ok (.ireturn, 1) := by decide +kernel
theorem dX11_like_27 : decode cX11_like 27 = .ok (.aload_n 0, 1) := by decide +kernel
theorem dX11_like_28 : decode cX11_like 28 = .ok (.getfield 59, 3) := by decide +kernel
theorem dX11_like_31 : decode cX11_like 31 = .ok (.bipush 26, 2) := by decide +kernel
theorem dX11_like_33 : decode cX11_like 33 = .ok (.iload_n 1, 1) := by decide +kernel
theorem dX11_like_34 : decode cX11_like 34 = .ok (.bipush 97, 2) := by decide +kernel
theorem dX11_like_36 : decode cX11_like 36 = .ok (.isub, 1) := by decide +kernel
theorem dX11_like_37 : decode cX11_like 37 = .ok (.imul, 1) := by decide +kernel
theorem dX11_like_38 : decode cX11_like 38 = .ok (.iload_n 2, 1) := by decide +kernel
theorem dX11_like_39 : decode cX11_like 39 = .ok (.iadd, 1) := by decide +kernel
theorem dX11_like_40 : decode cX11_like 40 = .ok (.bipush 97, 2) := by decide +kernel
theorem dX11_like_42 : decode cX11_like 42 = .ok (.isub, 1) := by decide +kernel
theorem dX11_like_43 : decode cX11_like 43 = .ok (.iaload, 1) := by decide +kernel
theorem dX11_like_44 : decode cX11_like 44 = .ok (.istore 4, 2) := by decide +kernel
theorem dX11_like_46 : decode cX11_like 46 = .ok (.aload_n 0, 1) := by decide +kernel
theorem dX11_like_47 : decode cX11_like 47 = .ok (.getfield 59, 3) := by decide +kernel
theorem dX11_like_50 : decode cX11_like 50 = .ok (.bipush 26, 2) := by decide +kernel
theorem dX11_like_52 : decode cX11_like 52 = .ok (.iload_n 1, 1) := by decide +kernel
theorem dX11_like_53 : decode cX11_like 53 = .ok (.bipush 97, 2) := by decide +kernel
theorem dX11_like_55 : decode cX11_like 55 = .ok (.isub, 1) := by decide +kernel
theorem dX11_like_56 : decode cX11_like 56 = .ok (.imul, 1) := by decide +kernel
theorem dX11_like_57 : decode cX11_like 57 = .ok (.iload_n 2, 1) := by decide +kernel
theorem dX11_like_58 : decode cX11_like 58 = .ok (.iadd, 1) := by decide +kernel
theorem dX11_like_59 : decode cX11_like 59 = .ok (.bipush 97, 2) := by decide +kernel
theorem dX11_like_61 : decode cX11_like 61 = .ok (.isub, 1) := by decide +kernel
theorem dX11_like_62 : decode cX11_like 62 = .ok (.iload_n 3, 1) := by decide +kernel
theorem dX11_like_63 : decode cX11_like 63 = .ok (.iastore, 1) := by decide +kernel
theorem dX11_like_64 : decode cX11_like 64 = .ok (.aload_n 0, 1) := by decide +kernel
theorem dX11_like_65 : decode cX11_like 65 = .ok (.getfield 59, 3) := by decide +kernel
theorem dX11_like_68 : decode cX11_like 68 = .ok (.bipush 26, 2) := by decide +kernel
theorem dX11_like_70 : decode cX11_like 70 = .ok (.iload_n 2, 1) := by decide +kernel
theorem dX11_like_71 : decode cX11_like 71 = .ok (.bipush 97, 2) := by decide +kernel
theorem dX11_like_73 : decode cX11_like 73 = .ok (.isub, 1) := by decide +kernel
theorem dX11_like_74 : decode cX11_like 74 = .ok (.imul, 1) := by decide +kernel
theorem dX11_like_75 : decode cX11_like 75 = .ok (.iload_n 1, 1) := by decide +kernel
theorem dX11_like_76 : decode cX11_like 76 = .ok (.iadd, 1) := by decide +kernel
theorem dX11_like_77 : decode cX11_like 77 = .ok (.bipush 97, 2) := by decide +kernel
theorem dX11_like_79 : decode cX11_like 79 = .ok (.isub, 1) := by decide +kernel
theorem dX11_like_80 : decode cX11_like 80 = .ok (.iload_n 3, 1) := by decide +kernel
theorem dX11_like_81 : decode cX11_like 81 = .ok (.iastore, 1) := by decide +kernel
theorem dX11_like_82 : decode cX11_like 82 = .ok (.iload 4, 2) := by decide +kernel
theorem dX11_like_84 : decode cX11_like 84 = .ok (.ireturn, 1) := by decide +kernel
theorem dX11_lays_0 : decode cX11_lays 0 = .ok (.iconst 0, 1) := by decide +kernel
theorem dX11_lays_1 : decode cX11_lays 1 = .ok (.istore 4, 2) := by decide +kernel
theorem dX11_lays_3 : decode cX11_lays 3 = .ok (.iload_n 2, 1) := by decide +kernel
theorem dX11_lays_4 : decode cX11_lays 4 = .ok (.istore 5, 2) := by decide +kernel
theorem dX11_lays_6 : decode cX11_lays 6 = .ok (.iload 5, 2) := by decide +kernel
theorem dX11_lays_8 : decode cX11_lays 8 = .ok (.iload_n 2, 1) := by decide +kernel
theorem dX11_lays_9 : decode cX11_lays 9 = .ok (.iload_n 3, 1) := by decide +kernel
theorem dX11_lays_10 : decode cX11_lays 10 = .ok (.iadd, 1) := by decide +kernel
theorem dX11_lays_11 : decode cX11_lays 11 = .ok (.if_icmp .ge 180, 3) := by decide +kernel
theorem dX11_lays_14 : decode cX11_lays 14 = .ok (.iload 5, 2) := by decide +kernel
theorem dX11_lays_16 : decode cX11_lays 16 = .ok (.iload_n 2, 1) := by decide +kernel
theorem dX11_lays_17 : decode cX11_lays 17 = .ok (.if_icmp .le 44, 3) := by decide +kernel
theorem dX11_lays_20 : decode cX11_lays 20 = .ok (.aload_n 0, 1) := by decide +kernel
theorem dX11_lays_21 : decode cX11_lays 21 = .ok (.getfield 16, 3) := by decide +kernel
theorem dX11_lays_24 : decode cX11_lays 24 = .ok (.iload 5, 2) := by decide +kernel
theorem dX11_lays_26 : decode cX11_lays 26 = .ok (.iconst 1, 1) := by decide +kernel
theorem dX11_lays_27 : decode cX11_lays 27 = .ok (.isub, 1) := by decide +kernel
theorem dX11_lays_28 : decode cX11_lays 28 = .ok (.iaload, 1) := by decide +kernel
theorem dX11_lays_29 : decode cX11_lays 29 = .ok (.bipush 45, 2) := by decide +kernel
theorem dX11_lays_31 : decode cX11_lays 31 = .ok (.if_icmp .eq 30, 3) := by decide +kernel
theorem dX11_lays_34 : decode cX11_lays 34 = .ok (.iconst 0, 1) := by decide +kernel
theorem dX11_lays_35 : decode cX11_lays 35 = .ok (.istore 6, 2) := by decide +kernel
theorem dX11_lays_37 : decode cX11_lays 37 = .ok (.iload 6, 2) := by decide +kernel
theorem dX11_lays_39 : decode cX11_lays 39 = .ok (.aload_n 0, 1) := by decide +kernel
theorem dX11_lays_40 : decode cX11_lays 40 = .ok (.getfield 41, 3) := by decide +kernel
theorem dX11_lays_43 : decode cX11_lays 43 = .ok (.if_icmp .ge 18, 3) := by decide +kernel
theorem dX11_lays_46 : decode cX11_lays 46 = .ok (.aload_n 1, 1) := by decide +kernel
theorem dX11_lays_47 : decode cX11_lays 47 = .ok (.iload 4, 2) := by decide +kernel
theorem dX11_lays_49 : decode cX11_lays 49 = .ok (.bipush 32, 2) := by decide +kernel
theorem dX11_lays_51 : decode cX11_lays 51 = .ok (.iastore, 1) := by decide +kernel
theorem dX11_lays_52 : decode cX11_lays 52 = .ok (.iinc 4 1, 3) := by decide +kernel
theorem dX11_lays_55 : decode cX11_lays 55 = .ok (.iinc 6 1, 3) := by decide +kernel
theorem dX11_lays_58 : decode cX11_lays 58 = .ok (.goto (-21), 3) := by decide +kernel
theorem dX11_lays_61 : decode cX11_lays 61 = .ok (.iconst 0, 1) := by decide +kernel
theorem dX11_lays_62 : decode cX11_lays 62 = .ok (.istore 6, 2) := by decide +kernel
theorem dX11_lays_64 : decode cX11_lays 64 = .ok (.iload 6, 2) := by decide +kernel
theorem dX11_lays_66 : decode cX11_lays 66 = .ok (.aload_n 0, 1) := by decide +kernel
theorem dX11_lays_67 : decode cX11_lays 67 = .ok (.getfield 7, 3) := by decide +kernel
theorem dX11_lays_70 : decode cX11_lays 70 = .ok (.iload 5, 2) := by decide +kernel
theorem dX11_lays_72 : decode cX11_lays 72 = .ok (.iaload, 1) := by decide +kernel
theorem dX11_lays_73 : decode cX11_lays 73 = .ok (.if_icmp .ge 29, 3) := by decide +kernel
theorem dX11_lays_76 : decode cX11_lays 76 = .ok (.aload_n 1, 1) := by decide +kernel
theorem dX11_lays_77 : decode cX11_lays 77 = .ok (.iload 4, 2) := by decide +kernel
theorem dX11_lays_79 : decode cX11_lays 79 = .ok (.aload_n 0, 1) := by decide +kernel
theorem dX11_lays_80 : decode cX11_lays 80 = .ok (.getfield 13, 3) := by decide +kernel
theorem dX11_lays_83 : decode cX11_lays 83 = .ok (.bipush 20, 2) := by decide +kernel
theorem dX11_lays_85 : decode cX11_lays 85 = .ok (.iload 5, 2) := by decide +kernel
theorem dX11_lays_87 : decode cX11_lays 87 = .ok (.imul, 1) := by decide +kernel
theorem dX11_lays_88 : decode cX11_lays 88 = .ok (.iload 6, 2) := by decide +kernel
theorem dX11_lays_90 : decode cX11_lays 90 = .ok (.iadd, 1) := by decide +kernel
theorem dX11_lays_91 : decode cX11_lays 91 = .ok (.iaload, 1) := by decide +kernel
theorem dX11_lays_92 : decode cX11_lays 92 = .ok (.iastore, 1) := by decide +kernel
theorem dX11_lays_93 : decode cX11_lays 93 = .ok (.iinc 4 1, 3) := by decide +kernel
theorem dX11_lays_96 : decode cX11_lays 96 = .ok (.iinc 6 1, 3) := by decide +kernel
theorem dX11_lays_99 : decode cX11_lays 99 = .ok (.goto (-35), 3) := by decide +kernel
theorem dX11_lays_102 : decode cX11_lays 102 = .ok (.aload_n 0, 1) := by decide +kernel
theorem dX11_lays_103 : decode cX11_lays 103 = .ok (.getfield 16, 3) := by decide +kernel
theorem dX11_lays_106 : decode cX11_lays 106 = .ok (.iload 5, 2) := by decide +kernel
theorem dX11_lays_108 : decode cX11_lays 108 = .ok (.iaload, 1) := by decide +kernel
theorem dX11_lays_109 : decode cX11_lays 109 = .ok (.bipush 44, 2) := by decide +kernel
theorem dX11_lays_111 : decode cX11_lays 111 = .ok (.if_icmp .eq 37, 3) := by decide +kernel
theorem dX11_lays_114 : decode cX11_lays 114 = .ok (.aload_n 0, 1) := by decide +kernel
theorem dX11_lays_115 : decode cX11_lays 115 = .ok (.getfield 16, 3) := by decide +kernel
theorem dX11_lays_118 : decode cX11_lays 118 = .ok (.iload 5, 2) := by decide +kernel
theorem dX11_lays_120 : decode cX11_lays 120 = .ok (.iaload, 1) := by decide +kernel
theorem dX11_lays_121 : decode cX11_lays 121 = .ok (.bipush 46, 2) := by decide +kernel
theorem dX11_lays_123 : decode cX11_lays 123 = .ok (.if_icmp .eq 25, 3) := by decide +kernel
theorem dX11_lays_126 : decode cX11_lays 126 = .ok (.aload_n 0, 1) := by decide +kernel
theorem dX11_lays_127 : decode cX11_lays 127 = .ok (.getfield 16, 3) := by decide +kernel
theorem dX11_lays_130 : decode cX11_lays 130 = .ok (.iload 5, 2) := by decide +kernel
theorem dX11_lays_132 : decode cX11_lays 132 = .ok (.iaload, 1) := by decide +kernel
theorem dX11_lays_133 : decode cX11_lays 133 = .ok (.bipush 45, 2) := by decide +kernel
theorem dX11_lays_135 : decode cX11_lays 135 = .ok (.if_icmp .ne 17, 3) := by decide +kernel
theorem dX11_lays_138 : decode cX11_lays 138 = .ok (.iload 5, 2) := by decide +kernel
theorem dX11_lays_140 : decode cX11_lays 140 = .ok (.iload_n 2, 1) := by decide +kernel
theorem dX11_lays_141 : decode cX11_lays 141 = .ok (.iload_n 3, 1) := by decide +kernel
theorem dX11_lays_142 : decode cX11_lays 142 = .ok (.iadd, 1) := by decide +kernel
theorem dX11_lays_143 : decode cX11_lays 143 = .ok (.iconst 1, 1) := by decide +kernel
theorem dX11_lays_144 : decode cX11_lays 144 = .ok (.isub, 1) := by decide +kernel
theorem dX11_lays_145 : decode cX11_lays 145 = .ok (.if_icmp .ne 7, 3) := by decide +kernel
theorem dX11_lays_148 : decode cX11_lays 148 = .ok (.iconst 1, 1) := by decide +kernel
theorem dX11_lays_149 : decode cX11_lays 149 = .ok (.goto 4, 3) := by decide +kernel
theorem dX11_lays_152 : decode cX11_lays 152 = .ok (.iconst 0, 1) := by decide +kernel
theorem dX11_lays_153 : decode cX11_lays 153 = .ok (.istore 6, 2) := by decide +kernel
theorem dX11_lays_155 : decode cX11_lays 155 = .ok (.iload 6, 2) := by decide +kernel
theorem dX11_lays_157 : decode cX11_lays 157 = .ok (.ifCond .eq 17, 3) := by decide +kernel
theorem dX11_lays_160 : decode cX11_lays 160 = .ok (.aload_n 1, 1) := by decide +kernel
theorem dX11_lays_161 : decode cX11_lays 161 = .ok (.iload 4, 2) := by decide +kernel
theorem dX11_lays_163 : decode cX11_lays 163 = .ok (.aload_n 0, 1) := by decide +kernel
theorem dX11_lays_164 : decode cX11_lays 164 = .ok (.getfield 16, 3) := by decide +kernel
theorem dX11_lays_167 : decode cX11_lays 167 = .ok (.iload 5, 2) := by decide +kernel
theorem dX11_lays_169 : decode cX11_lays 169 = .ok (.iaload, 1) := by decide +kernel
theorem dX11_lays_170 : decode cX11_lays 170 = .ok (.iastore, 1) := by decide +kernel
theorem dX11_lays_171 : decode cX11_lays 171 = .ok (.iinc 4 1, 3) := by decide +kernel
theorem dX11_lays_174 : decode cX11_lays 174 = .ok (.iload 4, 2) := by decide +kernel
theorem dX11_lays_176 : decode cX11_lays 176 = .ok (.aload_n 0, 1) := by decide +kernel
theorem dX11_lays_177 : decode cX11_lays 177 = .ok (.getfield 38, 3) := by decide +kernel
theorem dX11_lays_180 : decode cX11_lays 180 = .ok (.if_icmp .le 5, 3) := by decide +kernel
theorem dX11_lays_183 : decode cX11_lays 183 = .ok (.iconst (-1), 1) := by decide +kernel
theorem dX11_lays_184 : decode cX11_lays 184 = .ok (.ireturn, 1) := by decide +kernel
theorem dX11_lays_185 : decode cX11_lays 185 = .ok (.iinc 5 1, 3) := by decide +kernel
theorem dX11_lays_188 : decode cX11_lays 188 = .ok (.goto (-182), 3) := by decide +kernel
theorem dX11_lays_191 : decode cX11_lays 191 = .ok (.iload 4, 2) := by decide +kernel
theorem dX11_lays_193 : decode cX11_lays 193 = .ok (.ireturn, 1) := by decide +kernel
theorem dX11_lineStrain_0 : decode cX11_lineStrain 0 = .ok (.iload_n 1, 1) := by decide +kernel
theorem dX11_lineStrain_1 : decode cX11_lineStrain 1 = .ok (.iload_n 2, 1) := by decide +kernel
theorem dX11_lineStrain_2 : decode cX11_lineStrain 2 = .ok (.iadd, 1) := by decide +kernel
theorem dX11_lineStrain_3 : decode cX11_lineStrain 3 = .ok (.aload_n 0, 1) := by decide +kernel
theorem dX11_lineStrain_4 : decode cX11_lineStrain 4 = .ok (.getfield 118, 3) := by decide +kernel
theorem dX11_lineStrain_7 : decode cX11_lineStrain 7 = .ok (.if_icmp .ne 5, 3) := by decide +kernel
theorem dX11_lineStrain_10 : decode cX11_lineStrain 10 = .ok (.iconst 0, 1) := by decide +kernel
theorem dX11_lineStrain_11 : decode cX11_lineStrain 11 = .ok (.ireturn, 1) := by decide +kernel
theorem dX11_lineStrain_12 : decode cX11_lineStrain 12 = .ok (.aload_n 0, 1) := by decide +kernel
theorem dX11_lineStrain_13 : decode cX11_lineStrain 13 = .ok (.getfield 38, 3) := by decide +kernel
theorem dX11_lineStrain_16 : decode cX11_lineStrain 16 = .ok (.iload_n 3, 1) := by decide +kernel
theorem dX11_lineStrain_17 : decode cX11_lineStrain 17 = .ok (.isub, 1) := by decide +kernel
theorem dX11_lineStrain_18 : decode cX11_lineStrain 18 = .ok (.istore 4, 2) := by decide +kernel
theorem dX11_lineStrain_20 : decode cX11_lineStrain 20 = .ok (.aload_n 0, 1) := by decide +kernel
theorem dX11_lineStrain_21 : decode cX11_lineStrain 21 = .ok (.getfield 16, 3) := by decide +kernel
theorem dX11_lineStrain_24 : decode cX11_lineStrain 24 = .ok (.iload_n 1, 1) := by decide +kernel
theorem dX11_lineStrain_25 : decode cX11_lineStrain 25 = .ok (.iload_n 2, 1) := by decide +kernel
theorem dX11_lineStrain_26 : decode cX11_lineStrain 26 = .ok (.iadd, 1) := by decide +kernel
theorem dX11_lineStrain_27 : decode cX11_lineStrain 27 = .ok (.iconst 1, 1) := by decide +kernel
theorem dX11_lineStrain_28 : decode cX11_lineStrain 28 = .ok (.isub, 1) := by decide +kernel
theorem dX11_lineStrain_29 : decode cX11_lineStrain 29 = .ok (.iaload, 1) := by decide +kernel
theorem dX11_lineStrain_30 : decode cX11_lineStrain 30 = .ok (.istore 5, 2) := by decide +kernel
theorem dX11_lineStrain_32 : decode cX11_lineStrain 32 = .ok (.iload 4, 2) := by decide +kernel
theorem dX11_lineStrain_34 : decode cX11_lineStrain 34 = .ok (.iload 4, 2) := by decide +kernel
theorem dX11_lineStrain_36 : decode cX11_lineStrain 36 = .ok (.imul, 1) := by decide +kernel
theorem dX11_lineStrain_37 : decode cX11_lineStrain 37 = .ok (.aload_n 0, 1) := by decide +kernel
theorem dX11_lineStrain_38 : decode cX11_lineStrain 38 = .ok (.getfield 44, 3) := by decide +kernel
theorem dX11_lineStrain_41 : decode cX11_lineStrain 41 = .ok (.imul, 1) := by decide +kernel
theorem dX11_lineStrain_42 : decode cX11_lineStrain 42 = .ok (.iload 5, 2) := by decide +kernel
theorem dX11_lineStrain_44 : decode cX11_lineStrain 44 = .ok (.bipush 46, 2) := by decide +kernel
theorem dX11_lineStrain_46 : decode cX11_lineStrain 46 = .ok (.if_icmp .ne 7, 3) := by decide +kernel
theorem dX11_lineStrain_49 : decode cX11_lineStrain 49 = .ok (.iconst 0, 1) := by decide +kernel
theorem dX11_lineStrain_50 : decode cX11_lineStrain 50 = .ok (.goto 42, 3) := by decide +kernel
theorem dX11_lineStrain_53 : decode cX11_lineStrain 53 = .ok (.iload 5, 2) := by decide +kernel
theorem dX11_lineStrain_55 : decode cX11_lineStrain 55 = .ok (.bipush 44, 2) := by decide +kernel
theorem dX11_lineStrain_57 : decode cX11_lineStrain 57 = .ok (.if_icmp .eq 10, 3) := by decide +kernel
theorem dX11_lineStrain_60 : decode cX11_lineStrain 60 = .ok (.iload 5, 2) := by decide +kernel
theorem dX11_lineStrain_62 : decode cX11_lineStrain 62 = .ok (.bipush 47, 2) := by decide +kernel
theorem dX11_lineStrain_64 : decode cX11_lineStrain 64 = .ok (.if_icmp .ne 10, 3) := by decide +kernel
theorem dX11_lineStrain_67 : decode cX11_lineStrain 67 = .ok (.aload_n 0, 1) := by decide +kernel
theorem dX11_lineStrain_68 : decode cX11_lineStrain 68 = .ok (.getfield 47, 3) := by decide +kernel
theorem dX11_lineStrain_71 : decode cX11_lineStrain 71 = .ok (.goto 21, 3) := by decide +kernel
theorem dX11_lineStrain_74 : decode cX11_lineStrain 74 = .ok (.iload 5, 2) := by decide +kernel
theorem dX11_lineStrain_76 : decode cX11_lineStrain 76 = .ok (.bipush 45, 2) := by decide +kernel
theorem dX11_lineStrain_78 : decode cX11_lineStrain 78 = .ok (.if_icmp .ne 10, 3) := by decide +kernel
theorem dX11_lineStrain_81 : decode cX11_lineStrain 81 = .ok (.aload_n 0, 1) := by decide +kernel
theorem dX11_lineStrain_82 : decode cX11_lineStrain 82 = .ok (.getfield 53, 3) := by decide +kernel
theorem dX11_lineStrain_85 : decode cX11_lineStrain 85 = .ok (.goto 7, 3) := by decide +kernel
theorem dX11_lineStrain_88 : decode cX11_lineStrain 88 = .ok (.aload_n 0, 1) := by decide +kernel
theorem dX11_lineStrain_89 : decode cX11_lineStrain 89 = .ok (.getfield 50, 3) := by decide +kernel
theorem dX11_lineStrain_92 : decode cX11_lineStrain 92 = .ok (.iadd, 1) := by decide +kernel
theorem dX11_lineStrain_93 : decode cX11_lineStrain 93 = .ok (.ireturn, 1) := by decide +kernel
set_option maxRecDepth 20000 in
theorem ggX11_pairStrain_X11_isLetter : GoodIn wsX11_pairStrain wsX11_isLetter := goodIn_r _ [8] (by decide +kernel) (by decide +kernel)
set_option maxRecDepth 20000 in
theorem gX11_pairStrain_X11_isLetter : GoodIn wsX11_pairStrain (va_wsS RX11 104 yX11_isLetter wsX11_isLetter) := goodIn_app (goodIn_of _ (by decide +kernel)) ggX11_pairStrain_X11_isLetter
theorem dX11_pairStrain_0 : decode cX11_pairStrain 0 = .ok (.iconst 0, 1) := by decide +kernel
theorem dX11_pairStrain_1 : decode cX11_pairStrain 1 = .ok (.istore_n 3, 1) := by decide +kernel
theorem dX11_pairStrain_2 : decode cX11_pairStrain 2 = .ok (.iconst 0, 1) := by decide +kernel
theorem dX11_pairStrain_3 : decode cX11_pairStrain 3 = .ok (.istore 4, 2) := by decide +kernel
theorem dX11_pairStrain_5 : decode cX11_pairStrain 5 = .ok (.iload 4, 2) := by decide +kernel
theorem dX11_pairStrain_7 : decode cX11_pairStrain 7 = .ok (.iload_n 1, 1) := by decide +kernel
theorem dX11_pairStrain_8 : decode cX11_pairStrain 8 = .ok (.if_icmp .ge 104, 3) := by decide +kernel
theorem dX11_pairStrain_11 : decode cX11_pairStrain 11 = .ok (.iload 4, 2) := by decide +kernel
theorem dX11_pairStrain_13 : decode cX11_pairStrain 13 = .ok (.iload_n 2, 1) := by decide +kernel
theorem dX11_pairStrain_14 : decode cX11_pairStrain 14 = .ok (.if_icmp .ge 98, 3) := by decide +kernel
theorem dX11_pairStrain_17 : decode cX11_pairStrain 17 = .ok (.aload_n 0, 1) := by decide +kernel
theorem dX11_pairStrain_18 : decode cX11_pairStrain 18 = .ok (.getfield 62, 3) := by decide +kernel
theorem dX11_pairStrain_21 : decode cX11_pairStrain 21 = .ok (.iload 4, 2) := by decide +kernel
theorem dX11_pairStrain_23 : decode cX11_pairStrain 23 = .ok (.iaload, 1) := by decide +kernel
theorem dX11_pairStrain_24 : decode cX11_pairStrain 24 = .ok (.bipush 32, 2) := by decide +kernel
theorem dX11_pairStrain_26 : decode cX11_pairStrain 26 = .ok (.if_icmp .ne 22, 3) := by decide +kernel
theorem dX11_pairStrain_29 : decode cX11_pairStrain 29 = .ok (.aload_n 0, 1) := by decide +kernel
theorem dX11_pairStrain_30 : decode cX11_pairStrain 30 = .ok (.getfield 65, 3) := by decide +kernel
theorem dX11_pairStrain_33 : decode cX11_pairStrain 33 = .ok (.iload 4, 2) := by decide +kernel
theorem dX11_pairStrain_35 : decode cX11_pairStrain 35 = .ok (.iaload, 1) := by decide +kernel
theorem dX11_pairStrain_36 : decode cX11_pairStrain 36 = .ok (.bipush 32, 2) := by decide +kernel
theorem dX11_pairStrain_38 : decode cX11_pairStrain 38 = .ok (.if_icmp .ne 10, 3) := by decide +kernel
theorem dX11_pairStrain_41 : decode cX11_pairStrain 41 = .ok (.iload_n 3, 1) := by decide +kernel
theorem dX11_pairStrain_42 : decode cX11_pairStrain 42 = .ok (.aload_n 0, 1) := by decide +kernel
theorem dX11_pairStrain_43 : decode cX11_pairStrain 43 = .ok (.getfield 56, 3) := by decide +kernel
theorem dX11_pairStrain_46 : decode cX11_pairStrain 46 = .ok (.iadd, 1) := by decide +kernel
theorem dX11_pairStrain_47 : decode cX11_pairStrain 47 = .ok (.istore_n 3, 1) := by decide +kernel
theorem dX11_pairStrain_48 : decode cX11_pairStrain 48 = .ok (.aload_n 0, 1) := by decide +kernel
theorem dX11_pairStrain_49 : decode cX11_pairStrain 49 = .ok (.getfield 62, 3) := by decide +kernel
theorem dX11_pairStrain_52 : decode cX11_pairStrain 52 = .ok (.iload 4, 2) := by decide +kernel
theorem dX11_pairStrain_54 : decode cX11_pairStrain 54 = .ok (.iaload, 1) := by decide +kernel
theorem dX11_pairStrain_55 : decode cX11_pairStrain 55 = .ok (.invokestatic 104, 3) := by decide +kernel
theorem dX11_pairStrain_58 : decode cX11_pairStrain 58 = .ok (.ifCond .eq 48, 3) := by decide +kernel
theorem dX11_pairStrain_61 : decode cX11_pairStrain 61 = .ok (.aload_n 0, 1) := by decide +kernel
theorem dX11_pairStrain_62 : decode cX11_pairStrain 62 = .ok (.getfield 65, 3) := by decide +kernel
theorem dX11_pairStrain_65 : decode cX11_pairStrain 65 = .ok (.iload 4, 2) := by decide +kernel
theorem dX11_pairStrain_67 : decode cX11_pairStrain 67 = .ok (.iaload, 1) := by decide +kernel
theorem dX11_pairStrain_68 : decode cX11_pairStrain 68 = .ok (.invokestatic 104, 3) := by decide +kernel
theorem dX11_pairStrain_71 : decode cX11_pairStrain 71 = .ok (.ifCond .eq 35, 3) := by decide +kernel
theorem dX11_pairStrain_74 : decode cX11_pairStrain 74 = .ok (.iload_n 3, 1) := by decide +kernel
theorem dX11_pairStrain_75 : decode cX11_pairStrain 75 = .ok (.aload_n 0, 1) := by decide +kernel
theorem dX11_pairStrain_76 : decode cX11_pairStrain 76 = .ok (.getfield 59, 3) := by decide +kernel
theorem dX11_pairStrain_79 : decode cX11_pairStrain 79 = .ok (.bipush 26, 2) := by decide +kernel
theorem dX11_pairStrain_81 : decode cX11_pairStrain 81 = .ok (.aload_n 0, 1) := by decide +kernel
theorem dX11_pairStrain_82 : decode cX11_pairStrain 82 = .ok (.getfield 62, 3) := by decide +kernel
theorem dX11_pairStrain_85 : decode cX11_pairStrain 85 = .ok (.iload 4, 2) := by decide +kernel
theorem dX11_pairStrain_87 : decode cX11_pairStrain 87 = .ok (.iaload, 1) := by decide +kernel
theorem dX11_pairStrain_88 : decode cX11_pairStrain 88 = .ok (.bipush 97, 2) := by decide +kernel
theorem dX11_pairStrain_90 : decode cX11_pairStrain 90 = .ok (.isub, 1) := by decide +kernel
theorem dX11_pairStrain_91 : decode cX11_pairStrain 91 = .ok (.imul, 1) := by decide +kernel
theorem dX11_pairStrain_92 : decode cX11_pairStrain 92 = .ok (.aload_n 0, 1) := by decide +kernel
theorem dX11_pairStrain_93 : decode cX11_pairStrain 93 = .ok (.getfield 65, 3) := by decide +kernel
theorem dX11_pairStrain_96 : decode cX11_pairStrain 96 = .ok (.iload 4, 2) := by decide +kernel
theorem dX11_pairStrain_98 : decode cX11_pairStrain 98 = .ok (.iaload, 1) := by decide +kernel
theorem dX11_pairStrain_99 : decode cX11_pairStrain 99 = .ok (.iadd, 1) := by decide +kernel
theorem dX11_pairStrain_100 : decode cX11_pairStrain 100 = .ok (.bipush 97, 2) := by decide +kernel
theorem dX11_pairStrain_102 : decode cX11_pairStrain 102 = .ok (.isub, 1) := by decide +kernel
theorem dX11_pairStrain_103 : decode cX11_pairStrain 103 = .ok (.iaload, 1) := by decide +kernel
theorem dX11_pairStrain_104 : decode cX11_pairStrain 104 = .ok (.iadd, 1) := by decide +kernel
theorem dX11_pairStrain_105 : decode cX11_pairStrain 105 = .ok (.istore_n 3, 1) := by decide +kernel
theorem dX11_pairStrain_106 : decode cX11_pairStrain 106 = .ok (.iinc 4 1, 3) := by decide +kernel
theorem dX11_pairStrain_109 : decode cX11_pairStrain 109 = .ok (.goto (-104), 3) := by decide +kernel
theorem dX11_pairStrain_112 : decode cX11_pairStrain 112 = .ok (.iload_n 3, 1) := by decide +kernel
theorem dX11_pairStrain_113 : decode cX11_pairStrain 113 = .ok (.ireturn, 1) := by decide +kernel
theorem dX11_place_0 : decode cX11_place 0 = .ok (.bipush 61, 2) := by decide +kernel
theorem dX11_place_2 : decode cX11_place 2 = .ok (.iload_n 1, 1) := by decide +kernel
theorem dX11_place_3 : decode cX11_place 3 = .ok (.imul, 1) := by decide +kernel
theorem dX11_place_4 : decode cX11_place 4 = .ok (.iload_n 2, 1) := by decide +kernel
theorem dX11_place_5 : decode cX11_place 5 = .ok (.iadd, 1) := by decide +kernel
theorem dX11_place_6 : decode cX11_place 6 = .ok (.ireturn, 1) := by decide +kernel
theorem dX11_most_0 : decode cX11_most 0 = .ok (.aload_n 0, 1) := by decide +kernel
theorem dX11_most_1 : decode cX11_most 1 = .ok (.getfield 118, 3) := by decide +kernel
theorem dX11_most_4 : decode cX11_most 4 = .ok (.iload_n 1, 1) := by decide +kernel
theorem dX11_most_5 : decode cX11_most 5 = .ok (.isub, 1) := by decide +kernel
theorem dX11_most_6 : decode cX11_most 6 = .ok (.bipush 60, 2) := by decide +kernel
theorem dX11_most_8 : decode cX11_most 8 = .ok (.if_icmp .ge 12, 3) := by decide +kernel
theorem dX11_most_11 : decode cX11_most 11 = .ok (.aload_n 0, 1) := by decide +kernel
theorem dX11_most_12 : decode cX11_most 12 = .ok (.getfield 118, 3) := by decide +kernel
theorem dX11_most_15 : decode cX11_most 15 = .ok (.iload_n 1, 1) := by decide +kernel
theorem dX11_most_16 : decode cX11_most 16 = .ok (.isub, 1) := by decide +kernel
theorem dX11_most_17 : decode cX11_most 17 = .ok (.goto 5, 3) := by decide +kernel
theorem dX11_most_20 : decode cX11_most 20 = .ok (.bipush 60, 2) := by decide +kernel
theorem dX11_most_22 : decode cX11_most 22 = .ok (.ireturn, 1) := by decide +kernel
set_option maxRecDepth 20000 in
theorem ggX11_costOf_X11_place : GoodIn wsX11_costOf wsX11_place := goodIn_r _ [8] (by decide +kernel) (by decide +kernel)
set_option maxRecDepth 20000 in
theorem gX11_costOf_X11_place : GoodIn wsX11_costOf (wsV RX11 146 RX11 yX11_place wsX11_place) := goodIn_app (goodIn_of _ (by decide +kernel)) ggX11_costOf_X11_place
set_option maxRecDepth 20000 in
theorem ggX11_costOf_X11_lays : GoodIn wsX11_costOf wsX11_lays := goodIn_r _ [12, 13, 14, 15, 16, 17, 28, 29, 30, 31, 32, 33, 34, 35, 36, 37, 38, 39, 40, 41, 42, 43, 44, 45, 46, 47, 48, 49, 50, 51, 52, 53, 54, 55, 56, 57, 58, 59, 60, 61, 62, 63, 64, 65, 66, 67, 68, 69, 70, 71] (by decide +kernel) (by decide +kernel)
set_option maxRecDepth 20000 in
theorem gX11_costOf_X11_lays : GoodIn wsX11_costOf (wsV RX11 151 RX11 yX11_lays wsX11_lays) := goodIn_app (goodIn_of _ (by decide +kernel)) ggX11_costOf_X11_lays
set_option maxRecDepth 20000 in
theorem ggX11_costOf_X11_pairStrain : GoodIn wsX11_costOf wsX11_pairStrain := goodIn_r _ [21, 22, 3, 23, 24, 25, 26, 7, 27, 28, 29, 30, 31, 32, 33, 34, 35, 36, 37, 38, 39, 40, 41, 42, 43, 44, 45, 46, 47, 48, 49, 50, 51, 52, 53, 54, 55, 56, 57, 58, 59, 60, 61, 62, 63, 64, 65, 66, 67, 68, 69, 70, 71] (by decide +kernel) (by decide +kernel)
set_option maxRecDepth 20000 in
theorem gX11_costOf_X11_pairStrain : GoodIn wsX11_costOf (wsV RX11 155 RX11 yX11_pairStrain wsX11_pairStrain) := goodIn_app (goodIn_of _ (by decide +kernel)) ggX11_costOf_X11_pairStrain
theorem dX11_costOf_0 : decode cX11_costOf 0 = .ok (.iload_n 1, 1) := by decide +kernel
theorem dX11_costOf_1 : decode cX11_costOf 1 = .ok (.iload_n 2, 1) := by decide +kernel
theorem dX11_costOf_2 : decode cX11_costOf 2 = .ok (.iadd, 1) := by decide +kernel
theorem dX11_costOf_3 : decode cX11_costOf 3 = .ok (.istore 5, 2) := by decide +kernel
theorem dX11_costOf_5 : decode cX11_costOf 5 = .ok (.aload_n 0, 1) := by decide +kernel
theorem dX11_costOf_6 : decode cX11_costOf 6 = .ok (.getfield 68, 3) := by decide +kernel
theorem dX11_costOf_9 : decode cX11_costOf 9 = .ok (.aload_n 0, 1) := by decide +kernel
theorem dX11_costOf_10 : decode cX11_costOf 10 = .ok (.iload 5, 2) := by decide +kernel
theorem dX11_costOf_12 : decode cX11_costOf 12 = .ok (.iload_n 3, 1) := by decide +kernel
theorem dX11_costOf_13 : decode cX11_costOf 13 = .ok (.invokevirtual 146, 3) := by decide +kernel
theorem dX11_costOf_16 : decode cX11_costOf 16 = .ok (.iaload, 1) := by decide +kernel
theorem dX11_costOf_17 : decode cX11_costOf 17 = .ok (.ldc 150, 2) := by decide +kernel
theorem dX11_costOf_19 : decode cX11_costOf 19 = .ok (.if_icmp .lt 6, 3) := by decide +kernel
theorem dX11_costOf_22 : decode cX11_costOf 22 = .ok (.ldc 150, 2) := by decide +kernel
theorem dX11_costOf_24 : decode cX11_costOf 24 = .ok (.ireturn, 1) := by decide +kernel
theorem dX11_costOf_25 : decode cX11_costOf 25 = .ok (.aload_n 0, 1) := by decide +kernel
theorem dX11_costOf_26 : decode cX11_costOf 26 = .ok (.aload_n 0, 1) := by decide +kernel
theorem dX11_costOf_27 : decode cX11_costOf 27 = .ok (.getfield 65, 3) := by decide +kernel
theorem dX11_costOf_30 : decode cX11_costOf 30 = .ok (.iload 5, 2) := by decide +kernel
theorem dX11_costOf_32 : decode cX11_costOf 32 = .ok (.iload_n 3, 1) := by decide +kernel
theorem dX11_costOf_33 : decode cX11_costOf 33 = .ok (.invokevirtual 151, 3) := by decide +kernel
theorem dX11_costOf_36 : decode cX11_costOf 36 = .ok (.istore 6, 2) := by decide +kernel
theorem dX11_costOf_38 : decode cX11_costOf 38 = .ok (.iload 6, 2) := by decide +kernel
theorem dX11_costOf_40 : decode cX11_costOf 40 = .ok (.iconst (-1), 1) := by decide +kernel
theorem dX11_costOf_41 : decode cX11_costOf 41 = .ok (.if_icmp .ne 8, 3) := by decide +kernel
theorem dX11_costOf_44 : decode cX11_costOf 44 = .ok (.ldc 150, 2) := by decide +kernel
theorem dX11_costOf_46 : decode cX11_costOf 46 = .ok (.goto 24, 3) := by decide +kernel
theorem dX11_costOf_49 : decode cX11_costOf 49 = .ok (.aload_n 0, 1) := by decide +kernel
theorem dX11_costOf_50 : decode cX11_costOf 50 = .ok (.iload 4, 2) := by decide +kernel
theorem dX11_costOf_52 : decode cX11_costOf 52 = .ok (.iload 6, 2) := by decide +kernel
theorem dX11_costOf_54 : decode cX11_costOf 54 = .ok (.invokevirtual 155, 3) := by decide +kernel
theorem dX11_costOf_57 : decode cX11_costOf 57 = .ok (.aload_n 0, 1) := by decide +kernel
theorem dX11_costOf_58 : decode cX11_costOf 58 = .ok (.getfield 68, 3) := by decide +kernel
theorem dX11_costOf_61 : decode cX11_costOf 61 = .ok (.aload_n 0, 1) := by decide +kernel
theorem dX11_costOf_62 : decode cX11_costOf 62 = .ok (.iload 5, 2) := by decide +kernel
theorem dX11_costOf_64 : decode cX11_costOf 64 = .ok (.iload_n 3, 1) := by decide +kernel
theorem dX11_costOf_65 : decode cX11_costOf 65 = .ok (.invokevirtual 146, 3) := by decide +kernel
theorem dX11_costOf_68 : decode cX11_costOf 68 = .ok (.iaload, 1) := by decide +kernel
theorem dX11_costOf_69 : decode cX11_costOf 69 = .ok (.iadd, 1) := by decide +kernel
theorem dX11_costOf_70 : decode cX11_costOf 70 = .ok (.ireturn, 1) := by decide +kernel
set_option maxRecDepth 20000 in
theorem ggX11_weighs_X11_most : GoodIn wsX11_weighs wsX11_most := goodIn_r _ [9, 1, 45, 46, 47, 48, 49, 50, 51, 52, 53, 54, 55, 56, 57, 58, 59, 60, 61, 62, 63, 64, 65, 66, 67, 68, 69, 70, 71, 72, 73, 74, 75, 76, 77, 78, 79, 80, 81, 82, 83, 84, 85, 86, 87, 88] (by decide +kernel) (by decide +kernel)
set_option maxRecDepth 20000 in
theorem gX11_weighs_X11_most : GoodIn wsX11_weighs (wsV RX11 158 RX11 yX11_most wsX11_most) := goodIn_app (goodIn_of _ (by decide +kernel)) ggX11_weighs_X11_most
set_option maxRecDepth 20000 in
theorem ggX11_weighs_X11_lays : GoodIn wsX11_weighs wsX11_lays := goodIn_r _ [13, 14, 15, 16, 17, 18, 45, 46, 47, 48, 49, 50, 51, 52, 53, 54, 55, 56, 57, 58, 59, 60, 61, 62, 63, 64, 65, 66, 67, 68, 69, 70, 71, 72, 73, 74, 75, 76, 77, 78, 79, 80, 81, 82, 83, 84, 85, 86, 87, 88] (by decide +kernel) (by decide +kernel)
set_option maxRecDepth 20000 in
theorem gX11_weighs_X11_lays : GoodIn wsX11_weighs (wsV RX11 151 RX11 yX11_lays wsX11_lays) := goodIn_app (goodIn_of _ (by decide +kernel)) ggX11_weighs_X11_lays
set_option maxRecDepth 20000 in
theorem ggX11_weighs_X11_costOf : GoodIn wsX11_weighs wsX11_costOf := goodIn_r _ [22, 4, 3, 23, 24, 25, 26, 8, 27, 10, 11, 12, 13, 14, 15, 16, 17, 18, 28, 29, 30, 31, 2, 32, 33, 34, 35, 36, 45, 46, 47, 48, 49, 50, 51, 52, 53, 54, 55, 56, 57, 58, 59, 60, 61, 62, 63, 64, 65, 66, 67, 68, 69, 70, 71, 72, 73, 74, 75, 76, 77, 78, 79, 80, 81, 82, 83, 84, 85, 86, 87, 88] (by decide +kernel) (by decide +kernel)
set_option maxRecDepth 20000 in
theorem gX11_weighs_X11_costOf : GoodIn wsX11_weighs (wsV RX11 162 RX11 yX11_costOf wsX11_costOf) := goodIn_app (goodIn_of _ (by decide +kernel)) ggX11_weighs_X11_costOf
set_option maxRecDepth 20000 in
theorem ggX11_weighs_X11_place : GoodIn wsX11_weighs wsX11_place := goodIn_r _ [27] (by decide +kernel) (by decide +kernel)
set_option maxRecDepth 20000 in
theorem gX11_weighs_X11_place : GoodIn wsX11_weighs (wsV RX11 146 RX11 yX11_place wsX11_place) := goodIn_app (goodIn_of _ (by decide +kernel)) ggX11_weighs_X11_place
set_option maxRecDepth 20000 in
theorem ggX11_weighs_X11_lineStrain : GoodIn wsX11_weighs wsX11_lineStrain := goodIn_r _ [40, 1, 18, 14, 41, 42, 43, 44, 45, 46, 47, 48, 49, 50, 51, 52, 53, 54, 55, 56, 57, 58, 59, 60, 61, 62, 63, 64, 65, 66, 67, 68, 69, 70, 71, 72, 73, 74, 75, 76, 77, 78, 79, 80, 81, 82, 83, 84, 85, 86, 87, 88] (by decide +kernel) (by decide +kernel)
set_option maxRecDepth 20000 in
theorem gX11_weighs_X11_lineStrain : GoodIn wsX11_weighs (wsV RX11 166 RX11 yX11_lineStrain wsX11_lineStrain) := goodIn_app (goodIn_of _ (by decide +kernel)) ggX11_weighs_X11_lineStrain
theorem dX11_weighs_0 : decode cX11_weighs 0 = .ok (.aload_n 0, 1) := by decide +kernel
theorem dX11_weighs_1 : decode cX11_weighs 1 = .ok (.getfield 118, 3) := by decide +kernel
theorem dX11_weighs_4 : decode cX11_weighs 4 = .ok (.iconst 1, 1) := by decide +kernel
theorem dX11_weighs_5 : decode cX11_weighs 5 = .ok (.isub, 1) := by decide +kernel
theorem dX11_weighs_6 : decode cX11_weighs 6 = .ok (.istore_n 1, 1) := by decide +kernel
theorem dX11_weighs_7 : decode cX11_weighs 7 = .ok (.iload_n 1, 1) := by decide +kernel
theorem dX11_weighs_8 : decode cX11_weighs 8 = .ok (.ifCond .lt 150, 3) := by decide +kernel
theorem dX11_weighs_11 : decode cX11_weighs 11 = .ok (.iconst 1, 1) := by decide +kernel
theorem dX11_weighs_12 : decode cX11_weighs 12 = .ok (.istore_n 2, 1) := by decide +kernel
theorem dX11_weighs_13 : decode cX11_weighs 13 = .ok (.iload_n 2, 1) := by decide +kernel
theorem dX11_weighs_14 : decode cX11_weighs 14 = .ok (.aload_n 0, 1) := by decide +kernel
theorem dX11_weighs_15 : decode cX11_weighs 15 = .ok (.iload_n 1, 1) := by decide +kernel
theorem dX11_weighs_16 : decode cX11_weighs 16 = .ok (.invokevirtual 158, 3) := by decide +kernel
theorem dX11_weighs_19 : decode cX11_weighs 19 = .ok (.if_icmp .gt 133, 3) := by decide +kernel
theorem dX11_weighs_22 : decode cX11_weighs 22 = .ok (.aload_n 0, 1) := by decide +kernel
theorem dX11_weighs_23 : decode cX11_weighs 23 = .ok (.aload_n 0, 1) := by decide +kernel
theorem dX11_weighs_24 : decode cX11_weighs 24 = .ok (.getfield 62, 3) := by decide +kernel
theorem dX11_weighs_27 : decode cX11_weighs 27 = .ok (.iload_n 1, 1) := by decide +kernel
theorem dX11_weighs_28 : decode cX11_weighs 28 = .ok (.iload_n 2, 1) := by decide +kernel
theorem dX11_weighs_29 : decode cX11_weighs 29 = .ok (.invokevirtual 151, 3) := by decide +kernel
theorem dX11_weighs_32 : decode cX11_weighs 32 = .ok (.istore_n 3, 1) := by decide +kernel
theorem dX11_weighs_33 : decode cX11_weighs 33 = .ok (.ldc 150, 2) := by decide +kernel
theorem dX11_weighs_35 : decode cX11_weighs 35 = .ok (.istore 4, 2) := by decide +kernel
theorem dX11_weighs_37 : decode cX11_weighs 37 = .ok (.iload_n 3, 1) := by decide +kernel
theorem dX11_weighs_38 : decode cX11_weighs 38 = .ok (.iconst (-1), 1) := by decide +kernel
theorem dX11_weighs_39 : decode cX11_weighs 39 = .ok (.if_icmp .eq 16, 3) := by decide +kernel
theorem dX11_weighs_42 : decode cX11_weighs 42 = .ok (.iload_n 1, 1) := by decide +kernel
theorem dX11_weighs_43 : decode cX11_weighs 43 = .ok (.iload_n 2, 1) := by decide +kernel
theorem dX11_weighs_44 : decode cX11_weighs 44 = .ok (.iadd, 1) := by decide +kernel
theorem dX11_weighs_45 : decode cX11_weighs 45 = .ok (.aload_n 0, 1) := by decide +kernel
theorem dX11_weighs_46 : decode cX11_weighs 46 = .ok (.getfield 118, 3) := by decide +kernel
theorem dX11_weighs_49 : decode cX11_weighs 49 = .ok (.if_icmp .ne 6, 3) := by decide +kernel
theorem dX11_weighs_52 : decode cX11_weighs 52 = .ok (.iconst 0, 1) := by decide +kernel
theorem dX11_weighs_53 : decode cX11_weighs 53 = .ok (.istore 4, 2) := by decide +kernel
theorem dX11_weighs_55 : decode cX11_weighs 55 = .ok (.iconst 1, 1) := by decide +kernel
theorem dX11_weighs_56 : decode cX11_weighs 56 = .ok (.istore 5, 2) := by decide +kernel
theorem dX11_weighs_58 : decode cX11_weighs 58 = .ok (.iload_n 3, 1) := by decide +kernel
theorem dX11_weighs_59 : decode cX11_weighs 59 = .ok (.iconst (-1), 1) := by decide +kernel
theorem dX11_weighs_60 : decode cX11_weighs 60 = .ok (.if_icmp .eq 53, 3) := by decide +kernel
theorem dX11_weighs_63 : decode cX11_weighs 63 = .ok (.iload_n 1, 1) := by decide +kernel
theorem dX11_weighs_64 : decode cX11_weighs 64 = .ok (.iload_n 2, 1) := by decide +kernel
theorem dX11_weighs_65 : decode cX11_weighs 65 = .ok (.iadd, 1) := by decide +kernel
theorem dX11_weighs_66 : decode cX11_weighs 66 = .ok (.aload_n 0, 1) := by decide +kernel
theorem dX11_weighs_67 : decode cX11_weighs 67 = .ok (.getfield 118, 3) := by decide +kernel
theorem dX11_weighs_70 : decode cX11_weighs 70 = .ok (.if_icmp .ge 43, 3) := by decide +kernel
theorem dX11_weighs_73 : decode cX11_weighs 73 = .ok (.iload 5, 2) := by decide +kernel
theorem dX11_weighs_75 : decode cX11_weighs 75 = .ok (.aload_n 0, 1) := by decide +kernel
theorem dX11_weighs_76 : decode cX11_weighs 76 = .ok (.iload_n 1, 1) := by decide +kernel
theorem dX11_weighs_77 : decode cX11_weighs 77 = .ok (.iload_n 2, 1) := by decide +kernel
theorem dX11_weighs_78 : decode cX11_weighs 78 = .ok (.iadd, 1) := by decide +kernel
theorem dX11_weighs_79 : decode cX11_weighs 79 = .ok (.invokevirtual 158, 3) := by decide +kernel
theorem dX11_weighs_82 : decode cX11_weighs 82 = .ok (.if_icmp .gt 31, 3) := by decide +kernel
theorem dX11_weighs_85 : decode cX11_weighs 85 = .ok (.aload_n 0, 1) := by decide +kernel
theorem dX11_weighs_86 : decode cX11_weighs 86 = .ok (.iload_n 1, 1) := by decide +kernel
theorem dX11_weighs_87 : decode cX11_weighs 87 = .ok (.iload_n 2, 1) := by decide +kernel
theorem dX11_weighs_88 : decode cX11_weighs 88 = .ok (.iload 5, 2) := by decide +kernel
theorem dX11_weighs_90 : decode cX11_weighs 90 = .ok (.iload_n 3, 1) := by decide +kernel
theorem dX11_weighs_91 : decode cX11_weighs 91 = .ok (.invokevirtual 162, 3) := by decide +kernel
theorem dX11_weighs_94 : decode cX11_weighs 94 = .ok (.istore 6, 2) := by decide +kernel
theorem dX11_weighs_96 : decode cX11_weighs 96 = .ok (.iload 6, 2) := by decide +kernel
theorem dX11_weighs_98 : decode cX11_weighs 98 = .ok (.iload 4, 2) := by decide +kernel
theorem dX11_weighs_100 : decode cX11_weighs 100 = .ok (.if_icmp .ge 7, 3) := by decide +kernel
theorem dX11_weighs_103 : decode cX11_weighs 103 = .ok (.iload 6, 2) := by decide +kernel
theorem dX11_weighs_105 : decode cX11_weighs 105 = .ok (.istore 4, 2) := by decide +kernel
theorem dX11_weighs_107 : decode cX11_weighs 107 = .ok (.iinc 5 1, 3) := by decide +kernel
theorem dX11_weighs_110 : decode cX11_weighs 110 = .ok (.goto (-52), 3) := by decide +kernel
theorem dX11_weighs_113 : decode cX11_weighs 113 = .ok (.aload_n 0, 1) := by decide +kernel
theorem dX11_weighs_114 : decode cX11_weighs 114 = .ok (.getfield 68, 3) := by decide +kernel
theorem dX11_weighs_117 : decode cX11_weighs 117 = .ok (.aload_n 0, 1) := by decide +kernel
theorem dX11_weighs_118 : decode cX11_weighs 118 = .ok (.iload_n 1, 1) := by decide +kernel
theorem dX11_weighs_119 : decode cX11_weighs 119 = .ok (.iload_n 2, 1) := by decide +kernel
theorem dX11_weighs_120 : decode cX11_weighs 120 = .ok (.invokevirtual 146, 3) := by decide +kernel
theorem dX11_weighs_123 : decode cX11_weighs 123 = .ok (.iload 4, 2) := by decide +kernel
theorem dX11_weighs_125 : decode cX11_weighs 125 = .ok (.ldc 150, 2) := by decide +kernel
theorem dX11_weighs_127 : decode cX11_weighs 127 = .ok (.if_icmp .lt 8, 3) := by decide +kernel
theorem dX11_weighs_130 : decode cX11_weighs 130 = .ok (.ldc 150, 2) := by decide +kernel
theorem dX11_weighs_132 : decode cX11_weighs 132 = .ok (.goto 13, 3) := by decide +kernel
theorem dX11_weighs_135 : decode cX11_weighs 135 = .ok (.iload 4, 2) := by decide +kernel
theorem dX11_weighs_137 : decode cX11_weighs 137 = .ok (.aload_n 0, 1) := by decide +kernel
theorem dX11_weighs_138 : decode cX11_weighs 138 = .ok (.iload_n 1, 1) := by decide +kernel
theorem dX11_weighs_139 : decode cX11_weighs 139 = .ok (.iload_n 2, 1) := by decide +kernel
theorem dX11_weighs_140 : decode cX11_weighs 140 = .ok (.iload_n 3, 1) := by decide +kernel
theorem dX11_weighs_141 : decode cX11_weighs 141 = .ok (.invokevirtual 166, 3) := by decide +kernel
theorem dX11_weighs_144 : decode cX11_weighs 144 = .ok (.iadd, 1) := by decide +kernel
theorem dX11_weighs_145 : decode cX11_weighs 145 = .ok (.iastore, 1) := by decide +kernel
theorem dX11_weighs_146 : decode cX11_weighs 146 = .ok (.iinc 2 1, 3) := by decide +kernel
theorem dX11_weighs_149 : decode cX11_weighs 149 = .ok (.goto (-136), 3) := by decide +kernel
theorem dX11_weighs_152 : decode cX11_weighs 152 = .ok (.iinc 1 (-1), 3) := by decide +kernel
theorem dX11_weighs_155 : decode cX11_weighs 155 = .ok (.goto (-148), 3) := by decide +kernel
theorem dX11_weighs_158 : decode cX11_weighs 158 = .ok (.return_, 1) := by decide +kernel
set_option maxRecDepth 20000 in
theorem ggX11_keeps_X11_lays : GoodIn wsX11_keeps wsX11_lays := goodIn_r _ [11, 12, 13, 14, 15, 16, 17, 18, 19, 20, 21, 22, 23, 24, 25, 26, 27, 28, 29, 30, 31, 32, 33, 34, 35, 36, 37, 38, 39, 40, 41, 42, 43, 44, 45, 46, 47, 48, 49, 50, 51, 52, 53, 54, 55, 56, 57, 58, 59, 60] (by decide +kernel) (by decide +kernel)
set_option maxRecDepth 20000 in
theorem gX11_keeps_X11_lays : GoodIn wsX11_keeps (wsV RX11 151 RX11 yX11_lays wsX11_lays) := goodIn_app (goodIn_of _ (by decide +kernel)) ggX11_keeps_X11_lays
theorem dX11_keeps_0 : decode cX11_keeps 0 = .ok (.aload_n 0, 1) := by decide +kernel
theorem dX11_keeps_1 : decode cX11_keeps 1 = .ok (.aload_n 0, 1) := by decide +kernel
theorem dX11_keeps_2 : decode cX11_keeps 2 = .ok (.getfield 62, 3) := by decide +kernel
theorem dX11_keeps_5 : decode cX11_keeps 5 = .ok (.iload_n 1, 1) := by decide +kernel
theorem dX11_keeps_6 : decode cX11_keeps 6 = .ok (.iload_n 2, 1) := by decide +kernel
theorem dX11_keeps_7 : decode cX11_keeps 7 = .ok (.invokevirtual 151, 3) := by decide +kernel
theorem dX11_keeps_10 : decode cX11_keeps 10 = .ok (.istore_n 3, 1) := by decide +kernel
theorem dX11_keeps_11 : decode cX11_keeps 11 = .ok (.aload_n 0, 1) := by decide +kernel
theorem dX11_keeps_12 : decode cX11_keeps 12 = .ok (.getfield 71, 3) := by decide +kernel
theorem dX11_keeps_15 : decode cX11_keeps 15 = .ok (.aload_n 0, 1) := by decide +kernel
theorem dX11_keeps_16 : decode cX11_keeps 16 = .ok (.getfield 170, 3) := by decide +kernel
theorem dX11_keeps_19 : decode cX11_keeps 19 = .ok (.iload_n 1, 1) := by decide +kernel
theorem dX11_keeps_20 : decode cX11_keeps 20 = .ok (.iastore, 1) := by decide +kernel
theorem dX11_keeps_21 : decode cX11_keeps 21 = .ok (.aload_n 0, 1) := by decide +kernel
theorem dX11_keeps_22 : decode cX11_keeps 22 = .ok (.getfield 74, 3) := by decide +kernel
theorem dX11_keeps_25 : decode cX11_keeps 25 = .ok (.aload_n 0, 1) := by decide +kernel
theorem dX11_keeps_26 : decode cX11_keeps 26 = .ok (.getfield 170, 3) := by decide +kernel
theorem dX11_keeps_29 : decode cX11_keeps 29 = .ok (.iload_n 2, 1) := by decide +kernel
theorem dX11_keeps_30 : decode cX11_keeps 30 = .ok (.iastore, 1) := by decide +kernel
theorem dX11_keeps_31 : decode cX11_keeps 31 = .ok (.aload_n 0, 1) := by decide +kernel
theorem dX11_keeps_32 : decode cX11_keeps 32 = .ok (.getfield 77, 3) := by decide +kernel
theorem dX11_keeps_35 : decode cX11_keeps 35 = .ok (.aload_n 0, 1) := by decide +kernel
theorem dX11_keeps_36 : decode cX11_keeps 36 = .ok (.getfield 170, 3) := by decide +kernel
theorem dX11_keeps_39 : decode cX11_keeps 39 = .ok (.iload_n 3, 1) := by decide +kernel
theorem dX11_keeps_40 : decode cX11_keeps 40 = .ok (.iastore, 1) := by decide +kernel
theorem dX11_keeps_41 : decode cX11_keeps 41 = .ok (.iconst 0, 1) := by decide +kernel
theorem dX11_keeps_42 : decode cX11_keeps 42 = .ok (.istore 4, 2) := by decide +kernel
theorem dX11_keeps_44 : decode cX11_keeps 44 = .ok (.iload 4, 2) := by decide +kernel
theorem dX11_keeps_46 : decode cX11_keeps 46 = .ok (.iload_n 3, 1) := by decide +kernel
theorem dX11_keeps_47 : decode cX11_keeps 47 = .ok (.if_icmp .ge 31, 3) := by decide +kernel
theorem dX11_keeps_50 : decode cX11_keeps 50 = .ok (.aload_n 0, 1) := by decide +kernel
theorem dX11_keeps_51 : decode cX11_keeps 51 = .ok (.getfield 80, 3) := by decide +kernel
theorem dX11_keeps_54 : decode cX11_keeps 54 = .ok (.bipush 60, 2) := by decide +kernel
theorem dX11_keeps_56 : decode cX11_keeps 56 = .ok (.aload_n 0, 1) := by decide +kernel
theorem dX11_keeps_57 : decode cX11_keeps 57 = .ok (.getfield 170, 3) := by decide +kernel
theorem dX11_keeps_60 : decode cX11_keeps 60 = .ok (.imul, 1) := by decide +kernel
theorem dX11_keeps_61 : decode cX11_keeps 61 = .ok (.iload 4, 2) := by decide +kernel
theorem dX11_keeps_63 : decode cX11_keeps 63 = .ok (.iadd, 1) := by decide +kernel
theorem dX11_keeps_64 : decode cX11_keeps 64 = .ok (.aload_n 0, 1) := by decide +kernel
theorem dX11_keeps_65 : decode cX11_keeps 65 = .ok (.getfield 62, 3) := by decide +kernel
theorem dX11_keeps_68 : decode cX11_keeps 68 = .ok (.iload 4, 2) := by decide +kernel
theorem dX11_keeps_70 : decode cX11_keeps 70 = .ok (.iaload, 1) := by decide +kernel
theorem dX11_keeps_71 : decode cX11_keeps 71 = .ok (.iastore, 1) := by decide +kernel
theorem dX11_keeps_72 : decode cX11_keeps 72 = .ok (.iinc 4 1, 3) := by decide +kernel
theorem dX11_keeps_75 : decode cX11_keeps 75 = .ok (.goto (-31), 3) := by decide +kernel
theorem dX11_keeps_78 : decode cX11_keeps 78 = .ok (.aload_n 0, 1) := by decide +kernel
theorem dX11_keeps_79 : decode cX11_keeps 79 = .ok (.dup, 1) := by decide +kernel
theorem dX11_keeps_80 : decode cX11_keeps 80 = .ok (.getfield 170, 3) := by decide +kernel
theorem dX11_keeps_83 : decode cX11_keeps 83 = .ok (.iconst 1, 1) := by decide +kernel
theorem dX11_keeps_84 : decode cX11_keeps 84 = .ok (.iadd, 1) := by decide +kernel
theorem dX11_keeps_85 : decode cX11_keeps 85 = .ok (.putfield 170, 3) := by decide +kernel
theorem dX11_keeps_88 : decode cX11_keeps 88 = .ok (.return_, 1) := by decide +kernel
set_option maxRecDepth 20000 in
theorem ggX11_set_X11_weighs : GoodIn wsX11_set wsX11_weighs := goodIn_r _ [12, 1, 7, 2, 3, 13, 14, 15, 11, 16, 17, 18, 19, 20, 21, 22, 23, 24, 25, 26, 27, 28, 29, 30, 31, 32, 33, 34, 35, 36, 37, 38, 39, 40, 41, 42, 43, 44, 45, 46, 47, 48, 49, 50, 51, 60, 61, 62, 63, 64, 65, 66, 67, 68, 69, 70, 71, 72, 73, 74, 75, 76, 77, 78, 79, 80, 81, 82, 83, 84, 85, 86, 87, 88, 89, 90, 91, 92, 93, 94, 95, 96, 97, 98, 99, 100, 101, 102, 103] (by decide +kernel) (by decide +kernel)
set_option maxRecDepth 20000 in
theorem gX11_set_X11_weighs : GoodIn wsX11_set (wsV RX11 173 RX11 yX11_weighs wsX11_weighs) := goodIn_app (goodIn_of _ (by decide +kernel)) ggX11_set_X11_weighs
set_option maxRecDepth 20000 in
theorem ggX11_set_X11_most : GoodIn wsX11_set wsX11_most := goodIn_r _ [16, 1, 60, 61, 62, 63, 64, 65, 66, 67, 68, 69, 70, 71, 72, 73, 74, 75, 76, 77, 78, 79, 80, 81, 82, 83, 84, 85, 86, 87, 88, 89, 90, 91, 92, 93, 94, 95, 96, 97, 98, 99, 100, 101, 102, 103] (by decide +kernel) (by decide +kernel)
set_option maxRecDepth 20000 in
theorem gX11_set_X11_most : GoodIn wsX11_set (wsV RX11 158 RX11 yX11_most wsX11_most) := goodIn_app (goodIn_of _ (by decide +kernel)) ggX11_set_X11_most
set_option maxRecDepth 20000 in
theorem ggX11_set_X11_place : GoodIn wsX11_set wsX11_place := goodIn_r _ [34] (by decide +kernel) (by decide +kernel)
set_option maxRecDepth 20000 in
theorem gX11_set_X11_place : GoodIn wsX11_set (wsV RX11 146 RX11 yX11_place wsX11_place) := goodIn_app (goodIn_of _ (by decide +kernel)) ggX11_set_X11_place
set_option maxRecDepth 20000 in
theorem ggX11_set_X11_keeps : GoodIn wsX11_set wsX11_keeps := goodIn_r _ [55, 7, 56, 6, 57, 58, 59, 17, 18, 19, 11, 20, 21, 22, 23, 24, 25, 60, 61, 62, 63, 64, 65, 66, 67, 68, 69, 70, 71, 72, 73, 74, 75, 76, 77, 78, 79, 80, 81, 82, 83, 84, 85, 86, 87, 88, 89, 90, 91, 92, 93, 94, 95, 96, 97, 98, 99, 100, 101, 102, 103] (by decide +kernel) (by decide +kernel)
set_option maxRecDepth 20000 in
theorem gX11_set_X11_keeps : GoodIn wsX11_set (wsV RX11 176 RX11 yX11_keeps wsX11_keeps) := goodIn_app (goodIn_of _ (by decide +kernel)) ggX11_set_X11_keeps
set_option maxRecDepth 20000 in
theorem ggX11_set_X11_lays : GoodIn wsX11_set wsX11_lays := goodIn_r _ [20, 21, 22, 23, 24, 25, 60, 61, 62, 63, 64, 65, 66, 67, 68, 69, 70, 71, 72, 73, 74, 75, 76, 77, 78, 79, 80, 81, 82, 83, 84, 85, 86, 87, 88, 89, 90, 91, 92, 93, 94, 95, 96, 97, 98, 99, 100, 101, 102, 103] (by decide +kernel) (by decide +kernel)
set_option maxRecDepth 20000 in
theorem gX11_set_X11_lays : GoodIn wsX11_set (wsV RX11 151 RX11 yX11_lays wsX11_lays) := goodIn_app (goodIn_of _ (by decide +kernel)) ggX11_set_X11_lays
set_option maxRecDepth 20000 in
theorem ggX11_set_X11_lineStrain : GoodIn wsX11_set wsX11_lineStrain := goodIn_r _ [47, 1, 25, 21, 48, 49, 50, 51, 60, 61, 62, 63, 64, 65, 66, 67, 68, 69, 70, 71, 72, 73, 74, 75, 76, 77, 78, 79, 80, 81, 82, 83, 84, 85, 86, 87, 88, 89, 90, 91, 92, 93, 94, 95, 96, 97, 98, 99, 100, 101, 102, 103] (by decide +kernel) (by decide +kernel)
set_option maxRecDepth 20000 in
theorem gX11_set_X11_lineStrain : GoodIn wsX11_set (wsV RX11 166 RX11 yX11_lineStrain wsX11_lineStrain) := goodIn_app (goodIn_of _ (by decide +kernel)) ggX11_set_X11_lineStrain
set_option maxRecDepth 20000 in
theorem ggX11_set_X11_costOf : GoodIn wsX11_set wsX11_costOf := goodIn_r _ [29, 3, 2, 30, 31, 32, 33, 11, 34, 17, 18, 19, 20, 21, 22, 23, 24, 25, 35, 36, 37, 38, 7, 39, 40, 41, 42, 43, 60, 61, 62, 63, 64, 65, 66, 67, 68, 69, 70, 71, 72, 73, 74, 75, 76, 77, 78, 79, 80, 81, 82, 83, 84, 85, 86, 87, 88, 89, 90, 91, 92, 93, 94, 95, 96, 97, 98, 99, 100, 101, 102, 103] (by decide +kernel) (by decide +kernel)
set_option maxRecDepth 20000 in
theorem gX11_set_X11_costOf : GoodIn wsX11_set (wsV RX11 162 RX11 yX11_costOf wsX11_costOf) := goodIn_app (goodIn_of _ (by decide +kernel)) ggX11_set_X11_costOf
theorem dX11_set_0 : decode cX11_set 0 = .ok (.aload_n 0, 1) := by decide +kernel
theorem dX11_set_1 : decode cX11_set 1 = .ok (.invokevirtual 173, 3) := by decide +kernel
theorem dX11_set_4 : decode cX11_set 4 = .ok (.aload_n 0, 1) := by decide +kernel
theorem dX11_set_5 : decode cX11_set 5 = .ok (.getfield 118, 3) := by decide +kernel
theorem dX11_set_8 : decode cX11_set 8 = .ok (.ifCond .ne 7, 3) := by decide +kernel
theorem dX11_set_11 : decode cX11_set 11 = .ok (.iconst 0, 1) := by decide +kernel
theorem dX11_set_12 : decode cX11_set 12 = .ok (.goto 5, 3) := by decide +kernel
theorem dX11_set_15 : decode cX11_set 15 = .ok (.ldc 150, 2) := by decide +kernel
theorem dX11_set_17 : decode cX11_set 17 = .ok (.istore_n 1, 1) := by decide +kernel
theorem dX11_set_18 : decode cX11_set 18 = .ok (.iconst 0, 1) := by decide +kernel
theorem dX11_set_19 : decode cX11_set 19 = .ok (.istore_n 2, 1) := by decide +kernel
theorem dX11_set_20 : decode cX11_set 20 = .ok (.aload_n 0, 1) := by decide +kernel
theorem dX11_set_21 : decode cX11_set 21 = .ok (.iconst 0, 1) := by decide +kernel
theorem dX11_set_22 : decode cX11_set 22 = .ok (.invokevirtual 158, 3) := by decide +kernel
theorem dX11_set_25 : decode cX11_set 25 = .ok (.istore_n 3, 1) := by decide +kernel
theorem dX11_set_26 : decode cX11_set 26 = .ok (.iload_n 3, 1) := by decide +kernel
theorem dX11_set_27 : decode cX11_set 27 = .ok (.ifCond .le 41, 3) := by decide +kernel
theorem dX11_set_30 : decode cX11_set 30 = .ok (.aload_n 0, 1) := by decide +kernel
theorem dX11_set_31 : decode cX11_set 31 = .ok (.getfield 68, 3) := by decide +kernel
theorem dX11_set_34 : decode cX11_set 34 = .ok (.aload_n 0, 1) := by decide +kernel
theorem dX11_set_35 : decode cX11_set 35 = .ok (.iconst 0, 1) := by decide +kernel
theorem dX11_set_36 : decode cX11_set 36 = .ok (.iload_n 3, 1) := by decide +kernel
theorem dX11_set_37 : decode cX11_set 37 = .ok (.invokevirtual 146, 3) := by decide +kernel
theorem dX11_set_40 : decode cX11_set 40 = .ok (.iaload, 1) := by decide +kernel
theorem dX11_set_41 : decode cX11_set 41 = .ok (.iload_n 1, 1) := by decide +kernel
theorem dX11_set_42 : decode cX11_set 42 = .ok (.if_icmp .lt 6, 3) := by decide +kernel
theorem dX11_set_45 : decode cX11_set 45 = .ok (.goto 17, 3) := by decide +kernel
theorem dX11_set_48 : decode cX11_set 48 = .ok (.aload_n 0, 1) := by decide +kernel
theorem dX11_set_49 : decode cX11_set 49 = .ok (.getfield 68, 3) := by decide +kernel
theorem dX11_set_52 : decode cX11_set 52 = .ok (.aload_n 0, 1) := by decide +kernel
theorem dX11_set_53 : decode cX11_set 53 = .ok (.iconst 0, 1) := by decide +kernel
theorem dX11_set_54 : decode cX11_set 54 = .ok (.iload_n 3, 1) := by decide +kernel
theorem dX11_set_55 : decode cX11_set 55 = .ok (.invokevirtual 146, 3) := by decide +kernel
theorem dX11_set_58 : decode cX11_set 58 = .ok (.iaload, 1) := by decide +kernel
theorem dX11_set_59 : decode cX11_set 59 = .ok (.istore_n 1, 1) := by decide +kernel
theorem dX11_set_60 : decode cX11_set 60 = .ok (.iload_n 3, 1) := by decide +kernel
theorem dX11_set_61 : decode cX11_set 61 = .ok (.istore_n 2, 1) := by decide +kernel
theorem dX11_set_62 : decode cX11_set 62 = .ok (.iinc 3 (-1), 3) := by decide +kernel
theorem dX11_set_65 : decode cX11_set 65 = .ok (.goto (-39), 3) := by decide +kernel
theorem dX11_set_68 : decode cX11_set 68 = .ok (.iload_n 1, 1) := by decide +kernel
theorem dX11_set_69 : decode cX11_set 69 = .ok (.ldc 150, 2) := by decide +kernel
theorem dX11_set_71 : decode cX11_set 71 = .ok (.if_icmp .lt 5, 3) := by decide +kernel
theorem dX11_set_74 : decode cX11_set 74 = .ok (.iconst (-1), 1) := by decide +kernel
theorem dX11_set_75 : decode cX11_set 75 = .ok (.ireturn, 1) := by decide +kernel
theorem dX11_set_76 : decode cX11_set 76 = .ok (.aload_n 0, 1) := by decide +kernel
theorem dX11_set_77 : decode cX11_set 77 = .ok (.iconst 1, 1) := by decide +kernel
theorem dX11_set_78 : decode cX11_set 78 = .ok (.putfield 132, 3) := by decide +kernel
theorem dX11_set_81 : decode cX11_set 81 = .ok (.aload_n 0, 1) := by decide +kernel
theorem dX11_set_82 : decode cX11_set 82 = .ok (.iconst 1, 1) := by decide +kernel
theorem dX11_set_83 : decode cX11_set 83 = .ok (.putfield 136, 3) := by decide +kernel
theorem dX11_set_86 : decode cX11_set 86 = .ok (.aload_n 0, 1) := by decide +kernel
theorem dX11_set_87 : decode cX11_set 87 = .ok (.iconst 0, 1) := by decide +kernel
theorem dX11_set_88 : decode cX11_set 88 = .ok (.putfield 170, 3) := by decide +kernel
theorem dX11_set_91 : decode cX11_set 91 = .ok (.iconst 0, 1) := by decide +kernel
theorem dX11_set_92 : decode cX11_set 92 = .ok (.istore_n 3, 1) := by decide +kernel
theorem dX11_set_93 : decode cX11_set 93 = .ok (.iload_n 3, 1) := by decide +kernel
theorem dX11_set_94 : decode cX11_set 94 = .ok (.aload_n 0, 1) := by decide +kernel
theorem dX11_set_95 : decode cX11_set 95 = .ok (.getfield 118, 3) := by decide +kernel
theorem dX11_set_98 : decode cX11_set 98 = .ok (.if_icmp .ge 95, 3) := by decide +kernel
theorem dX11_set_101 : decode cX11_set 101 = .ok (.aload_n 0, 1) := by decide +kernel
theorem dX11_set_102 : decode cX11_set 102 = .ok (.iload_n 3, 1) := by decide +kernel
theorem dX11_set_103 : decode cX11_set 103 = .ok (.iload_n 2, 1) := by decide +kernel
theorem dX11_set_104 : decode cX11_set 104 = .ok (.invokevirtual 176, 3) := by decide +kernel
theorem dX11_set_107 : decode cX11_set 107 = .ok (.iload_n 3, 1) := by decide +kernel
theorem dX11_set_108 : decode cX11_set 108 = .ok (.iload_n 2, 1) := by decide +kernel
theorem dX11_set_109 : decode cX11_set 109 = .ok (.iadd, 1) := by decide +kernel
theorem dX11_set_110 : decode cX11_set 110 = .ok (.istore 4, 2) := by decide +kernel
theorem dX11_set_112 : decode cX11_set 112 = .ok (.iload 4, 2) := by decide +kernel
theorem dX11_set_114 : decode cX11_set 114 = .ok (.aload_n 0, 1) := by decide +kernel
theorem dX11_set_115 : decode cX11_set 115 = .ok (.getfield 118, 3) := by decide +kernel
theorem dX11_set_118 : decode cX11_set 118 = .ok (.if_icmp .ge 69, 3) := by decide +kernel
theorem dX11_set_121 : decode cX11_set 121 = .ok (.aload_n 0, 1) := by decide +kernel
theorem dX11_set_122 : decode cX11_set 122 = .ok (.aload_n 0, 1) := by decide +kernel
theorem dX11_set_123 : decode cX11_set 123 = .ok (.getfield 62, 3) := by decide +kernel
theorem dX11_set_126 : decode cX11_set 126 = .ok (.iload_n 3, 1) := by decide +kernel
theorem dX11_set_127 : decode cX11_set 127 = .ok (.iload_n 2, 1) := by decide +kernel
theorem dX11_set_128 : decode cX11_set 128 = .ok (.invokevirtual 151, 3) := by decide +kernel
theorem dX11_set_131 : decode cX11_set 131 = .ok (.istore 5, 2) := by decide +kernel
theorem dX11_set_133 : decode cX11_set 133 = .ok (.aload_n 0, 1) := by decide +kernel
theorem dX11_set_134 : decode cX11_set 134 = .ok (.getfield 68, 3) := by decide +kernel
theorem dX11_set_137 : decode cX11_set 137 = .ok (.aload_n 0, 1) := by decide +kernel
theorem dX11_set_138 : decode cX11_set 138 = .ok (.iload_n 3, 1) := by decide +kernel
theorem dX11_set_139 : decode cX11_set 139 = .ok (.iload_n 2, 1) := by decide +kernel
theorem dX11_set_140 : decode cX11_set 140 = .ok (.invokevirtual 146, 3) := by decide +kernel
theorem dX11_set_143 : decode cX11_set 143 = .ok (.iaload, 1) := by decide +kernel
theorem dX11_set_144 : decode cX11_set 144 = .ok (.aload_n 0, 1) := by decide +kernel
theorem dX11_set_145 : decode cX11_set 145 = .ok (.iload_n 3, 1) := by decide +kernel
theorem dX11_set_146 : decode cX11_set 146 = .ok (.iload_n 2, 1) := by decide +kernel
theorem dX11_set_147 : decode cX11_set 147 = .ok (.iload 5, 2) := by decide +kernel
theorem dX11_set_149 : decode cX11_set 149 = .ok (.invokevirtual 166, 3) := by decide +kernel
theorem dX11_set_152 : decode cX11_set 152 = .ok (.isub, 1) := by decide +kernel
theorem dX11_set_153 : decode cX11_set 153 = .ok (.istore 6, 2) := by decide +kernel
theorem dX11_set_155 : decode cX11_set 155 = .ok (.aload_n 0, 1) := by decide +kernel
theorem dX11_set_156 : decode cX11_set 156 = .ok (.iload 4, 2) := by decide +kernel
theorem dX11_set_158 : decode cX11_set 158 = .ok (.invokevirtual 158, 3) := by decide +kernel
theorem dX11_set_161 : decode cX11_set 161 = .ok (.istore 7, 2) := by decide +kernel
theorem dX11_set_163 : decode cX11_set 163 = .ok (.aload_n 0, 1) := by decide +kernel
theorem dX11_set_164 : decode cX11_set 164 = .ok (.iload_n 3, 1) := by decide +kernel
theorem dX11_set_165 : decode cX11_set 165 = .ok (.iload_n 2, 1) := by decide +kernel
theorem dX11_set_166 : decode cX11_set 166 = .ok (.iload 7, 2) := by decide +kernel
theorem dX11_set_168 : decode cX11_set 168 = .ok (.iload 5, 2) := by decide +kernel
theorem dX11_set_170 : decode cX11_set 170 = .ok (.invokevirtual 162, 3) := by decide +kernel
theorem dX11_set_173 : decode cX11_set 173 = .ok (.iload 6, 2) := by decide +kernel
theorem dX11_set_175 : decode cX11_set 175 = .ok (.if_icmp .eq 9, 3) := by decide +kernel
theorem dX11_set_178 : decode cX11_set 178 = .ok (.iinc 7 (-1), 3) := by decide +kernel
theorem dX11_set_181 : decode cX11_set 181 = .ok (.goto (-18), 3) := by decide +kernel
theorem dX11_set_184 : decode cX11_set 184 = .ok (.iload 7, 2) := by decide +kernel
theorem dX11_set_186 : decode cX11_set 186 = .ok (.istore_n 2, 1) := by decide +kernel
theorem dX11_set_187 : decode cX11_set 187 = .ok (.iload 4, 2) := by decide +kernel
theorem dX11_set_189 : decode cX11_set 189 = .ok (.istore_n 3, 1) := by decide +kernel
theorem dX11_set_190 : decode cX11_set 190 = .ok (.goto (-97), 3) := by decide +kernel
theorem dX11_set_193 : decode cX11_set 193 = .ok (.iload_n 1, 1) := by decide +kernel
theorem dX11_set_194 : decode cX11_set 194 = .ok (.ireturn, 1) := by decide +kernel
theorem dX11_lines_0 : decode cX11_lines 0 = .ok (.aload_n 0, 1) := by decide +kernel
theorem dX11_lines_1 : decode cX11_lines 1 = .ok (.getfield 132, 3) := by decide +kernel
theorem dX11_lines_4 : decode cX11_lines 4 = .ok (.ifCond .eq 10, 3) := by decide +kernel
theorem dX11_lines_7 : decode cX11_lines 7 = .ok (.aload_n 0, 1) := by decide +kernel
theorem dX11_lines_8 : decode cX11_lines 8 = .ok (.getfield 170, 3) := by decide +kernel
theorem dX11_lines_11 : decode cX11_lines 11 = .ok (.goto 4, 3) := by decide +kernel
theorem dX11_lines_14 : decode cX11_lines 14 = .ok (.iconst (-1), 1) := by decide +kernel
theorem dX11_lines_15 : decode cX11_lines 15 = .ok (.ireturn, 1) := by decide +kernel
set_option maxRecDepth 20000 in
theorem ggX11_page_X11_isIn : GoodIn wsX11_page wsX11_isIn := goodIn_r _ [6] (by decide +kernel) (by decide +kernel)
set_option maxRecDepth 20000 in
theorem gX11_page_X11_isIn : GoodIn wsX11_page (va_wsS RX11 142 yX11_isIn wsX11_isIn) := goodIn_app (goodIn_of _ (by decide +kernel)) ggX11_page_X11_isIn
theorem dX11_page_0 : decode cX11_page 0 = .ok (.iload_n 1, 1) := by decide +kernel
theorem dX11_page_1 : decode cX11_page 1 = .ok (.iconst 2, 1) := by decide +kernel
theorem dX11_page_2 : decode cX11_page 2 = .ok (.bipush 40, 2) := by decide +kernel
theorem dX11_page_4 : decode cX11_page 4 = .ok (.invokestatic 142, 3) := by decide +kernel
theorem dX11_page_7 : decode cX11_page 7 = .ok (.ifCond .eq 13, 3) := by decide +kernel
theorem dX11_page_10 : decode cX11_page 10 = .ok (.iload_n 2, 1) := by decide +kernel
theorem dX11_page_11 : decode cX11_page 11 = .ok (.iconst 2, 1) := by decide +kernel
theorem dX11_page_12 : decode cX11_page 12 = .ok (.bipush 7, 2) := by decide +kernel
theorem dX11_page_14 : decode cX11_page 14 = .ok (.invokestatic 142, 3) := by decide +kernel
theorem dX11_page_17 : decode cX11_page 17 = .ok (.ifCond .ne 5, 3) := by decide +kernel
theorem dX11_page_20 : decode cX11_page 20 = .ok (.iconst 0, 1) := by decide +kernel
theorem dX11_page_21 : decode cX11_page 21 = .ok (.ireturn, 1) := by decide +kernel
theorem dX11_page_22 : decode cX11_page 22 = .ok (.aload_n 0, 1) := by decide +kernel
theorem dX11_page_23 : decode cX11_page 23 = .ok (.iload_n 1, 1) := by decide +kernel
theorem dX11_page_24 : decode cX11_page 24 = .ok (.putfield 83, 3) := by decide +kernel
theorem dX11_page_27 : decode cX11_page 27 = .ok (.aload_n 0, 1) := by decide +kernel
theorem dX11_page_28 : decode cX11_page 28 = .ok (.iload_n 2, 1) := by decide +kernel
theorem dX11_page_29 : decode cX11_page 29 = .ok (.putfield 86, 3) := by decide +kernel
theorem dX11_page_32 : decode cX11_page 32 = .ok (.iconst 1, 1) := by decide +kernel
theorem dX11_page_33 : decode cX11_page 33 = .ok (.ireturn, 1) := by decide +kernel
theorem dX11_line_0 : decode cX11_line 0 = .ok (.aload_n 0, 1) := by decide +kernel
theorem dX11_line_1 : decode cX11_line 1 = .ok (.getfield 132, 3) := by decide +kernel
theorem dX11_line_4 : decode cX11_line 4 = .ok (.ifCond .eq 15, 3) := by decide +kernel
theorem dX11_line_7 : decode cX11_line 7 = .ok (.iload_n 1, 1) := by decide +kernel
theorem dX11_line_8 : decode cX11_line 8 = .ok (.ifCond .lt 11, 3) := by decide +kernel
theorem dX11_line_11 : decode cX11_line 11 = .ok (.iload_n 1, 1) := by decide +kernel
theorem dX11_line_12 : decode cX11_line 12 = .ok (.aload_n 0, 1) := by decide +kernel
theorem dX11_line_13 : decode cX11_line 13 = .ok (.getfield 170, 3) := by decide +kernel
theorem dX11_line_16 : decode cX11_line 16 = .ok (.if_icmp .lt 5, 3) := by decide +kernel
theorem dX11_line_19 : decode cX11_line 19 = .ok (.iconst (-1), 1) := by decide +kernel
theorem dX11_line_20 : decode cX11_line 20 = .ok (.ireturn, 1) := by decide +kernel
theorem dX11_line_21 : decode cX11_line 21 = .ok (.iload_n 2, 1) := by decide +kernel
theorem dX11_line_22 : decode cX11_line 22 = .ok (.tableswitch 81 0 4 #[34, 41, 48, 55, 74], 34) := by decide +kernel
theorem dX11_line_56 : decode cX11_line 56 = .ok (.aload_n 0, 1) := by decide +kernel
theorem dX11_line_57 : decode cX11_line 57 = .ok (.getfield 71, 3) := by decide +kernel
theorem dX11_line_60 : decode cX11_line 60 = .ok (.iload_n 1, 1) := by decide +kernel
theorem dX11_line_61 : decode cX11_line 61 = .ok (.iaload, 1) := by decide +kernel
theorem dX11_line_62 : decode cX11_line 62 = .ok (.ireturn, 1) := by decide +kernel
theorem dX11_line_63 : decode cX11_line 63 = .ok (.aload_n 0, 1) := by decide +kernel
theorem dX11_line_64 : decode cX11_line 64 = .ok (.getfield 74, 3) := by decide +kernel
theorem dX11_line_67 : decode cX11_line 67 = .ok (.iload_n 1, 1) := by decide +kernel
theorem dX11_line_68 : decode cX11_line 68 = .ok (.iaload, 1) := by decide +kernel
theorem dX11_line_69 : decode cX11_line 69 = .ok (.ireturn, 1) := by decide +kernel
theorem dX11_line_70 : decode cX11_line 70 = .ok (.aload_n 0, 1) := by decide +kernel
theorem dX11_line_71 : decode cX11_line 71 = .ok (.getfield 77, 3) := by decide +kernel
theorem dX11_line_74 : decode cX11_line 74 = .ok (.iload_n 1, 1) := by decide +kernel
theorem dX11_line_75 : decode cX11_line 75 = .ok (.iaload, 1) := by decide +kernel
theorem dX11_line_76 : decode cX11_line 76 = .ok (.ireturn, 1) := by decide +kernel
theorem dX11_line_77 : decode cX11_line 77 = .ok (.iload_n 1, 1) := by decide +kernel
theorem dX11_line_78 : decode cX11_line 78 = .ok (.aload_n 0, 1) := by decide +kernel
theorem dX11_line_79 : decode cX11_line 79 = .ok (.getfield 83, 3) := by decide +kernel
theorem dX11_line_82 : decode cX11_line 82 = .ok (.irem, 1) := by decide +kernel
theorem dX11_line_83 : decode cX11_line 83 = .ok (.iload_n 1, 1) := by decide +kernel
theorem dX11_line_84 : decode cX11_line 84 = .ok (.aload_n 0, 1) := by decide +kernel
theorem dX11_line_85 : decode cX11_line 85 = .ok (.getfield 83, 3) := by decide +kernel
theorem dX11_line_88 : decode cX11_line 88 = .ok (.idiv, 1) := by decide +kernel
theorem dX11_line_89 : decode cX11_line 89 = .ok (.iadd, 1) := by decide +kernel
theorem dX11_line_90 : decode cX11_line 90 = .ok (.aload_n 0, 1) := by decide +kernel
theorem dX11_line_91 : decode cX11_line 91 = .ok (.getfield 86, 3) := by decide +kernel
theorem dX11_line_94 : decode cX11_line 94 = .ok (.irem, 1) := by decide +kernel
theorem dX11_line_95 : decode cX11_line 95 = .ok (.ireturn, 1) := by decide +kernel
theorem dX11_line_96 : decode cX11_line 96 = .ok (.iload_n 1, 1) := by decide +kernel
theorem dX11_line_97 : decode cX11_line 97 = .ok (.aload_n 0, 1) := by decide +kernel
theorem dX11_line_98 : decode cX11_line 98 = .ok (.getfield 83, 3) := by decide +kernel
theorem dX11_line_101 : decode cX11_line 101 = .ok (.idiv, 1) := by decide +kernel
theorem dX11_line_102 : decode cX11_line 102 = .ok (.ireturn, 1) := by decide +kernel
theorem dX11_line_103 : decode cX11_line 103 = .ok (.iconst (-1), 1) := by decide +kernel
theorem dX11_line_104 : decode cX11_line 104 = .ok (.ireturn, 1) := by decide +kernel
theorem dX11_sign_0 : decode cX11_sign 0 = .ok (.aload_n 0, 1) := by decide +kernel
theorem dX11_sign_1 : decode cX11_sign 1 = .ok (.getfield 132, 3) := by decide +kernel
theorem dX11_sign_4 : decode cX11_sign 4 = .ok (.ifCond .eq 43, 3) := by decide +kernel
theorem dX11_sign_7 : decode cX11_sign 7 = .ok (.iload_n 1, 1) := by decide +kernel
theorem dX11_sign_8 : decode cX11_sign 8 = .ok (.ifCond .lt 39, 3) := by decide +kernel
theorem dX11_sign_11 : decode cX11_sign 11 = .ok (.iload_n 1, 1) := by decide +kernel
theorem dX11_sign_12 : decode cX11_sign 12 = .ok (.aload_n 0, 1) := by decide +kernel
theorem dX11_sign_13 : decode cX11_sign 13 = .ok (.getfield 170, 3) := by decide +kernel
theorem dX11_sign_16 : decode cX11_sign 16 = .ok (.if_icmp .ge 31, 3) := by decide +kernel
theorem dX11_sign_19 : decode cX11_sign 19 = .ok (.iload_n 2, 1) := by decide +kernel
theorem dX11_sign_20 : decode cX11_sign 20 = .ok (.ifCond .lt 27, 3) := by decide +kernel
theorem dX11_sign_23 : decode cX11_sign 23 = .ok (.iload_n 2, 1) := by decide +kernel
theorem dX11_sign_24 : decode cX11_sign 24 = .ok (.aload_n 0, 1) := by decide +kernel
theorem dX11_sign_25 : decode cX11_sign 25 = .ok (.getfield 77, 3) := by decide +kernel
theorem dX11_sign_28 : decode cX11_sign 28 = .ok (.iload_n 1, 1) := by decide +kernel
theorem dX11_sign_29 : decode cX11_sign 29 = .ok (.iaload, 1) := by decide +kernel
theorem dX11_sign_30 : decode cX11_sign 30 = .ok (.if_icmp .ge 17, 3) := by decide +kernel
theorem dX11_sign_33 : decode cX11_sign 33 = .ok (.aload_n 0, 1) := by decide +kernel
theorem dX11_sign_34 : decode cX11_sign 34 = .ok (.getfield 80, 3) := by decide +kernel
theorem dX11_sign_37 : decode cX11_sign 37 = .ok (.bipush 60, 2) := by decide +kernel
theorem dX11_sign_39 : decode cX11_sign 39 = .ok (.iload_n 1, 1) := by decide +kernel
theorem dX11_sign_40 : decode cX11_sign 40 = .ok (.imul, 1) := by decide +kernel
theorem dX11_sign_41 : decode cX11_sign 41 = .ok (.iload_n 2, 1) := by decide +kernel
theorem dX11_sign_42 : decode cX11_sign 42 = .ok (.iadd, 1) := by decide +kernel
theorem dX11_sign_43 : decode cX11_sign 43 = .ok (.iaload, 1) := by decide +kernel
theorem dX11_sign_44 : decode cX11_sign 44 = .ok (.goto 4, 3) := by decide +kernel
theorem dX11_sign_47 : decode cX11_sign 47 = .ok (.iconst (-1), 1) := by decide +kernel
theorem dX11_sign_48 : decode cX11_sign 48 = .ok (.ireturn, 1) := by decide +kernel
theorem dX11_rivers_0 : decode cX11_rivers 0 = .ok (.aload_n 0, 1) := by decide +kernel
theorem dX11_rivers_1 : decode cX11_rivers 1 = .ok (.getfield 132, 3) := by decide +kernel
theorem dX11_rivers_4 : decode cX11_rivers 4 = .ok (.ifCond .eq 8, 3) := by decide +kernel
theorem dX11_rivers_7 : decode cX11_rivers 7 = .ok (.iload_n 1, 1) := by decide +kernel
theorem dX11_rivers_8 : decode cX11_rivers 8 = .ok (.iconst 1, 1) := by decide +kernel
theorem dX11_rivers_9 : decode cX11_rivers 9 = .ok (.if_icmp .ge 5, 3) := by decide +kernel
theorem dX11_rivers_12 : decode cX11_rivers 12 = .ok (.iconst (-1), 1) := by decide +kernel
theorem dX11_rivers_13 : decode cX11_rivers 13 = .ok (.ireturn, 1) := by decide +kernel
theorem dX11_rivers_14 : decode cX11_rivers 14 = .ok (.iconst 0, 1) := by decide +kernel
theorem dX11_rivers_15 : decode cX11_rivers 15 = .ok (.istore_n 2, 1) := by decide +kernel
theorem dX11_rivers_16 : decode cX11_rivers 16 = .ok (.iconst 0, 1) := by decide +kernel
theorem dX11_rivers_17 : decode cX11_rivers 17 = .ok (.istore_n 3, 1) := by decide +kernel
theorem dX11_rivers_18 : decode cX11_rivers 18 = .ok (.iload_n 3, 1) := by decide +kernel
theorem dX11_rivers_19 : decode cX11_rivers 19 = .ok (.bipush 60, 2) := by decide +kernel
theorem dX11_rivers_21 : decode cX11_rivers 21 = .ok (.if_icmp .ge 103, 3) := by decide +kernel
theorem dX11_rivers_24 : decode cX11_rivers 24 = .ok (.iconst 0, 1) := by decide +kernel
theorem dX11_rivers_25 : decode cX11_rivers 25 = .ok (.istore 4, 2) := by decide +kernel
theorem dX11_rivers_27 : decode cX11_rivers 27 = .ok (.iconst 0, 1) := by decide +kernel
theorem dX11_rivers_28 : decode cX11_rivers 28 = .ok (.istore 5, 2) := by decide +kernel
theorem dX11_rivers_30 : decode cX11_rivers 30 = .ok (.iload 5, 2) := by decide +kernel
theorem dX11_rivers_32 : decode cX11_rivers 32 = .ok (.aload_n 0, 1) := by decide +kernel
theorem dX11_rivers_33 : decode cX11_rivers 33 = .ok (.getfield 170, 3) := by decide +kernel
theorem dX11_rivers_36 : decode cX11_rivers 36 = .ok (.if_icmp .gt 82, 3) := by decide +kernel
theorem dX11_rivers_39 : decode cX11_rivers 39 = .ok (.iload 5, 2) := by decide +kernel
theorem dX11_rivers_41 : decode cX11_rivers 41 = .ok (.aload_n 0, 1) := by decide +kernel
theorem dX11_rivers_42 : decode cX11_rivers 42 = .ok (.getfield 170, 3) := by decide +kernel
theorem dX11_rivers_45 : decode cX11_rivers 45 = .ok (.if_icmp .ge 35, 3) := by decide +kernel
theorem dX11_rivers_48 : decode cX11_rivers 48 = .ok (.iload_n 3, 1) := by decide +kernel
theorem dX11_rivers_49 : decode cX11_rivers 49 = .ok (.aload_n 0, 1) := by decide +kernel
theorem dX11_rivers_50 : decode cX11_rivers 50 = .ok (.getfield 77, 3) := by decide +kernel
theorem dX11_rivers_53 : decode cX11_rivers 53 = .ok (.iload 5, 2) := by decide +kernel
theorem dX11_rivers_55 : decode cX11_rivers 55 = .ok (.iaload, 1) := by decide +kernel
theorem dX11_rivers_56 : decode cX11_rivers 56 = .ok (.if_icmp .ge 24, 3) := by decide +kernel
theorem dX11_rivers_59 : decode cX11_rivers 59 = .ok (.aload_n 0, 1) := by decide +kernel
theorem dX11_rivers_60 : decode cX11_rivers 60 = .ok (.getfield 80, 3) := by decide +kernel
theorem dX11_rivers_63 : decode cX11_rivers 63 = .ok (.bipush 60, 2) := by decide +kernel
theorem dX11_rivers_65 : decode cX11_rivers 65 = .ok (.iload 5, 2) := by decide +kernel
theorem dX11_rivers_67 : decode cX11_rivers 67 = .ok (.imul, 1) := by decide +kernel
theorem dX11_rivers_68 : decode cX11_rivers 68 = .ok (.iload_n 3, 1) := by decide +kernel
theorem dX11_rivers_69 : decode cX11_rivers 69 = .ok (.iadd, 1) := by decide +kernel
theorem dX11_rivers_70 : decode cX11_rivers 70 = .ok (.iaload, 1) := by decide +kernel
theorem dX11_rivers_71 : decode cX11_rivers 71 = .ok (.bipush 32, 2) := by decide +kernel
theorem dX11_rivers_73 : decode cX11_rivers 73 = .ok (.if_icmp .ne 7, 3) := by decide +kernel
theorem dX11_rivers_76 : decode cX11_rivers 76 = .ok (.iconst 1, 1) := by decide +kernel
theorem dX11_rivers_77 : decode cX11_rivers 77 = .ok (.goto 4, 3) := by decide +kernel
theorem dX11_rivers_80 : decode cX11_rivers 80 = .ok (.iconst 0, 1) := by decide +kernel
theorem dX11_rivers_81 : decode cX11_rivers 81 = .ok (.istore 6, 2) := by decide +kernel
theorem dX11_rivers_83 : decode cX11_rivers 83 = .ok (.iload 6, 2) := by decide +kernel
theorem dX11_rivers_85 : decode cX11_rivers 85 = .ok (.ifCond .ne 12, 3) := by decide +kernel
theorem dX11_rivers_88 : decode cX11_rivers 88 = .ok (.iload 4, 2) := by decide +kernel
theorem dX11_rivers_90 : decode cX11_rivers 90 = .ok (.iload_n 1, 1) := by decide +kernel
theorem dX11_rivers_91 : decode cX11_rivers 91 = .ok (.if_icmp .le 6, 3) := by decide +kernel
theorem dX11_rivers_94 : decode cX11_rivers 94 = .ok (.iinc 2 1, 3) := by decide +kernel
theorem dX11_rivers_97 : decode cX11_rivers 97 = .ok (.iload 6, 2) := by decide +kernel
theorem dX11_rivers_99 : decode cX11_rivers 99 = .ok (.ifCond .eq 10, 3) := by decide +kernel
theorem dX11_rivers_102 : decode cX11_rivers 102 = .ok (.iload 4, 2) := by decide +kernel
theorem dX11_rivers_104 : decode cX11_rivers 104 = .ok (.iconst 1, 1) := by decide +kernel
theorem dX11_rivers_105 : decode cX11_rivers 105 = .ok (.iadd, 1) := by decide +kernel
theorem dX11_rivers_106 : decode cX11_rivers 106 = .ok (.goto 4, 3) := by decide +kernel
theorem dX11_rivers_109 : decode cX11_rivers 109 = .ok (.iconst 0, 1) := by decide +kernel
theorem dX11_rivers_110 : decode cX11_rivers 110 = .ok (.istore 4, 2) := by decide +kernel
theorem dX11_rivers_112 : decode cX11_rivers 112 = .ok (.iinc 5 1, 3) := by decide +kernel
theorem dX11_rivers_115 : decode cX11_rivers 115 = .ok (.goto (-85), 3) := by decide +kernel
theorem dX11_rivers_118 : decode cX11_rivers 118 = .ok (.iinc 3 1, 3) := by decide +kernel
theorem dX11_rivers_121 : decode cX11_rivers 121 = .ok (.goto (-103), 3) := by decide +kernel
theorem dX11_rivers_124 : decode cX11_rivers 124 = .ok (.iload_n 2, 1) := by decide +kernel
theorem dX11_rivers_125 : decode cX11_rivers 125 = .ok (.ireturn, 1) := by decide +kernel
theorem dX11_pageOf_0 : decode cX11_pageOf 0 = .ok (.iconst 0, 1) := by decide +kernel
theorem dX11_pageOf_1 : decode cX11_pageOf 1 = .ok (.istore_n 2, 1) := by decide +kernel
theorem dX11_pageOf_2 : decode cX11_pageOf 2 = .ok (.iload_n 1, 1) := by decide +kernel
theorem dX11_pageOf_3 : decode cX11_pageOf 3 = .ok (.aload_n 0, 1) := by decide +kernel
theorem dX11_pageOf_4 : decode cX11_pageOf 4 = .ok (.getfield 71, 3) := by decide +kernel
theorem dX11_pageOf_7 : decode cX11_pageOf 7 = .ok (.iload_n 2, 1) := by decide +kernel
theorem dX11_pageOf_8 : decode cX11_pageOf 8 = .ok (.iaload, 1) := by decide +kernel
theorem dX11_pageOf_9 : decode cX11_pageOf 9 = .ok (.aload_n 0, 1) := by decide +kernel
theorem dX11_pageOf_10 : decode cX11_pageOf 10 = .ok (.getfield 74, 3) := by decide +kernel
theorem dX11_pageOf_13 : decode cX11_pageOf 13 = .ok (.iload_n 2, 1) := by decide +kernel
theorem dX11_pageOf_14 : decode cX11_pageOf 14 = .ok (.iaload, 1) := by decide +kernel
theorem dX11_pageOf_15 : decode cX11_pageOf 15 = .ok (.iadd, 1) := by decide +kernel
theorem dX11_pageOf_16 : decode cX11_pageOf 16 = .ok (.if_icmp .lt 9, 3) := by decide +kernel
theorem dX11_pageOf_19 : decode cX11_pageOf 19 = .ok (.iinc 2 1, 3) := by decide +kernel
theorem dX11_pageOf_22 : decode cX11_pageOf 22 = .ok (.goto (-20), 3) := by decide +kernel
theorem dX11_pageOf_25 : decode cX11_pageOf 25 = .ok (.iload_n 2, 1) := by decide +kernel
theorem dX11_pageOf_26 : decode cX11_pageOf 26 = .ok (.aload_n 0, 1) := by decide +kernel
theorem dX11_pageOf_27 : decode cX11_pageOf 27 = .ok (.getfield 83, 3) := by decide +kernel
theorem dX11_pageOf_30 : decode cX11_pageOf 30 = .ok (.idiv, 1) := by decide +kernel
theorem dX11_pageOf_31 : decode cX11_pageOf 31 = .ok (.ireturn, 1) := by decide +kernel
set_option maxRecDepth 20000 in
theorem ggX11_mark_X11_pageOf : GoodIn wsX11_mark wsX11_pageOf := goodIn_r _ [10, 11, 12, 13, 14, 15, 16, 17, 18, 19, 20, 21, 22, 23, 24, 25, 26, 27, 28, 29, 30, 31, 32, 33, 34, 35, 36, 37, 38, 39, 40, 41, 42, 43, 44, 45, 46, 47, 48, 49, 50, 51, 52, 53, 54, 55, 56, 57] (by decide +kernel) (by decide +kernel)
set_option maxRecDepth 20000 in
theorem gX11_mark_X11_pageOf : GoodIn wsX11_mark (wsV RX11 179 RX11 yX11_pageOf wsX11_pageOf) := goodIn_app (goodIn_of _ (by decide +kernel)) ggX11_mark_X11_pageOf
theorem dX11_mark_0 : decode cX11_mark 0 = .ok (.aload_n 0, 1) := by decide +kernel
theorem dX11_mark_1 : decode cX11_mark 1 = .ok (.getfield 136, 3) := by decide +kernel
theorem dX11_mark_4 : decode cX11_mark 4 = .ok (.ifCond .eq 24, 3) := by decide +kernel
theorem dX11_mark_7 : decode cX11_mark 7 = .ok (.iload_n 1, 1) := by decide +kernel
theorem dX11_mark_8 : decode cX11_mark 8 = .ok (.ifCond .lt 20, 3) := by decide +kernel
theorem dX11_mark_11 : decode cX11_mark 11 = .ok (.iload_n 1, 1) := by decide +kernel
theorem dX11_mark_12 : decode cX11_mark 12 = .ok (.aload_n 0, 1) := by decide +kernel
theorem dX11_mark_13 : decode cX11_mark 13 = .ok (.getfield 118, 3) := by decide +kernel
theorem dX11_mark_16 : decode cX11_mark 16 = .ok (.if_icmp .ge 12, 3) := by decide +kernel
theorem dX11_mark_19 : decode cX11_mark 19 = .ok (.aload_n 0, 1) := by decide +kernel
theorem dX11_mark_20 : decode cX11_mark 20 = .ok (.getfield 139, 3) := by decide +kernel
theorem dX11_mark_23 : decode cX11_mark 23 = .ok (.bipush 20, 2) := by decide +kernel
theorem dX11_mark_25 : decode cX11_mark 25 = .ok (.if_icmp .ne 5, 3) := by decide +kernel
theorem dX11_mark_28 : decode cX11_mark 28 = .ok (.iconst (-1), 1) := by decide +kernel
theorem dX11_mark_29 : decode cX11_mark 29 = .ok (.ireturn, 1) := by decide +kernel
theorem dX11_mark_30 : decode cX11_mark 30 = .ok (.aload_n 0, 1) := by decide +kernel
theorem dX11_mark_31 : decode cX11_mark 31 = .ok (.getfield 89, 3) := by decide +kernel
theorem dX11_mark_34 : decode cX11_mark 34 = .ok (.aload_n 0, 1) := by decide +kernel
theorem dX11_mark_35 : decode cX11_mark 35 = .ok (.getfield 139, 3) := by decide +kernel
theorem dX11_mark_38 : decode cX11_mark 38 = .ok (.iload_n 1, 1) := by decide +kernel
theorem dX11_mark_39 : decode cX11_mark 39 = .ok (.iastore, 1) := by decide +kernel
theorem dX11_mark_40 : decode cX11_mark 40 = .ok (.aload_n 0, 1) := by decide +kernel
theorem dX11_mark_41 : decode cX11_mark 41 = .ok (.getfield 92, 3) := by decide +kernel
theorem dX11_mark_44 : decode cX11_mark 44 = .ok (.aload_n 0, 1) := by decide +kernel
theorem dX11_mark_45 : decode cX11_mark 45 = .ok (.getfield 139, 3) := by decide +kernel
theorem dX11_mark_48 : decode cX11_mark 48 = .ok (.aload_n 0, 1) := by decide +kernel
theorem dX11_mark_49 : decode cX11_mark 49 = .ok (.iload_n 1, 1) := by decide +kernel
theorem dX11_mark_50 : decode cX11_mark 50 = .ok (.invokevirtual 179, 3) := by decide +kernel
theorem dX11_mark_53 : decode cX11_mark 53 = .ok (.iastore, 1) := by decide +kernel
theorem dX11_mark_54 : decode cX11_mark 54 = .ok (.aload_n 0, 1) := by decide +kernel
theorem dX11_mark_55 : decode cX11_mark 55 = .ok (.dup, 1) := by decide +kernel
theorem dX11_mark_56 : decode cX11_mark 56 = .ok (.getfield 139, 3) := by decide +kernel
theorem dX11_mark_59 : decode cX11_mark 59 = .ok (.iconst 1, 1) := by decide +kernel
theorem dX11_mark_60 : decode cX11_mark 60 = .ok (.iadd, 1) := by decide +kernel
theorem dX11_mark_61 : decode cX11_mark 61 = .ok (.putfield 139, 3) := by decide +kernel
theorem dX11_mark_64 : decode cX11_mark 64 = .ok (.aload_n 0, 1) := by decide +kernel
theorem dX11_mark_65 : decode cX11_mark 65 = .ok (.getfield 139, 3) := by decide +kernel
theorem dX11_mark_68 : decode cX11_mark 68 = .ok (.iconst 1, 1) := by decide +kernel
theorem dX11_mark_69 : decode cX11_mark 69 = .ok (.isub, 1) := by decide +kernel
theorem dX11_mark_70 : decode cX11_mark 70 = .ok (.ireturn, 1) := by decide +kernel
set_option maxRecDepth 20000 in
theorem ggX11_marked_X11_pageOf : GoodIn wsX11_marked wsX11_pageOf := goodIn_r _ [9, 10, 11, 12, 13, 14, 15, 16, 17, 18, 19, 20, 21, 22, 23, 24, 25, 26, 27, 28, 29, 30, 31, 32, 33, 34, 35, 36, 37, 38, 39, 40, 41, 42, 43, 44, 45, 46, 47, 48, 49, 50, 51, 52, 53, 54, 55, 56] (by decide +kernel) (by decide +kernel)
set_option maxRecDepth 20000 in
theorem gX11_marked_X11_pageOf : GoodIn wsX11_marked (wsV RX11 179 RX11 yX11_pageOf wsX11_pageOf) := goodIn_app (goodIn_of _ (by decide +kernel)) ggX11_marked_X11_pageOf
theorem dX11_marked_0 : decode cX11_marked 0 = .ok (.iload_n 1, 1) := by decide +kernel
theorem dX11_marked_1 : decode cX11_marked 1 = .ok (.ifCond .lt 20, 3) := by decide +kernel
theorem dX11_marked_4 : decode cX11_marked 4 = .ok (.iload_n 1, 1) := by decide +kernel
theorem dX11_marked_5 : decode cX11_marked 5 = .ok (.aload_n 0, 1) := by decide +kernel
theorem dX11_marked_6 : decode cX11_marked 6 = .ok (.getfield 139, 3) := by decide +kernel
theorem dX11_marked_9 : decode cX11_marked 9 = .ok (.if_icmp .ge 12, 3) := by decide +kernel
theorem dX11_marked_12 : decode cX11_marked 12 = .ok (.iload_n 2, 1) := by decide +kernel
theorem dX11_marked_13 : decode cX11_marked 13 = .ok (.ifCond .lt 8, 3) := by decide +kernel
theorem dX11_marked_16 : decode cX11_marked 16 = .ok (.iload_n 2, 1) := by decide +kernel
theorem dX11_marked_17 : decode cX11_marked 17 = .ok (.iconst 2, 1) := by decide +kernel
theorem dX11_marked_18 : decode cX11_marked 18 = .ok (.if_icmp .le 5, 3) := by decide +kernel
theorem dX11_marked_21 : decode cX11_marked 21 = .ok (.iconst (-1), 1) := by decide +kernel
theorem dX11_marked_22 : decode cX11_marked 22 = .ok (.ireturn, 1) := by decide +kernel
theorem dX11_marked_23 : decode cX11_marked 23 = .ok (.iload_n 2, 1) := by decide +kernel
theorem dX11_marked_24 : decode cX11_marked 24 = .ok (.ifCond .ne 10, 3) := by decide +kernel
theorem dX11_marked_27 : decode cX11_marked 27 = .ok (.aload_n 0, 1) := by decide +kernel
theorem dX11_marked_28 : decode cX11_marked 28 = .ok (.getfield 89, 3) := by decide +kernel
theorem dX11_marked_31 : decode cX11_marked 31 = .ok (.iload_n 1, 1) := by decide +kernel
theorem dX11_marked_32 : decode cX11_marked 32 = .ok (.iaload, 1) := by decide +kernel
theorem dX11_marked_33 : decode cX11_marked 33 = .ok (.ireturn, 1) := by decide +kernel
theorem dX11_marked_34 : decode cX11_marked 34 = .ok (.iload_n 2, 1) := by decide +kernel
theorem dX11_marked_35 : decode cX11_marked 35 = .ok (.iconst 1, 1) := by decide +kernel
theorem dX11_marked_36 : decode cX11_marked 36 = .ok (.if_icmp .ne 10, 3) := by decide +kernel
theorem dX11_marked_39 : decode cX11_marked 39 = .ok (.aload_n 0, 1) := by decide +kernel
theorem dX11_marked_40 : decode cX11_marked 40 = .ok (.getfield 92, 3) := by decide +kernel
theorem dX11_marked_43 : decode cX11_marked 43 = .ok (.iload_n 1, 1) := by decide +kernel
theorem dX11_marked_44 : decode cX11_marked 44 = .ok (.iaload, 1) := by decide +kernel
theorem dX11_marked_45 : decode cX11_marked 45 = .ok (.ireturn, 1) := by decide +kernel
theorem dX11_marked_46 : decode cX11_marked 46 = .ok (.aload_n 0, 1) := by decide +kernel
theorem dX11_marked_47 : decode cX11_marked 47 = .ok (.getfield 136, 3) := by decide +kernel
theorem dX11_marked_50 : decode cX11_marked 50 = .ok (.ifCond .eq 23, 3) := by decide +kernel
theorem dX11_marked_53 : decode cX11_marked 53 = .ok (.aload_n 0, 1) := by decide +kernel
theorem dX11_marked_54 : decode cX11_marked 54 = .ok (.aload_n 0, 1) := by decide +kernel
theorem dX11_marked_55 : decode cX11_marked 55 = .ok (.getfield 89, 3) := by decide +kernel
theorem dX11_marked_58 : decode cX11_marked 58 = .ok (.iload_n 1, 1) := by decide +kernel
theorem dX11_marked_59 : decode cX11_marked 59 = .ok (.iaload, 1) := by decide +kernel
theorem dX11_marked_60 : decode cX11_marked 60 = .ok (.invokevirtual 179, 3) := by decide +kernel
theorem dX11_marked_63 : decode cX11_marked 63 = .ok (.aload_n 0, 1) := by decide +kernel
theorem dX11_marked_64 : decode cX11_marked 64 = .ok (.getfield 92, 3) := by decide +kernel
theorem dX11_marked_67 : decode cX11_marked 67 = .ok (.iload_n 1, 1) := by decide +kernel
theorem dX11_marked_68 : decode cX11_marked 68 = .ok (.iaload, 1) := by decide +kernel
theorem dX11_marked_69 : decode cX11_marked 69 = .ok (.isub, 1) := by decide +kernel
theorem dX11_marked_70 : decode cX11_marked 70 = .ok (.goto 6, 3) := by decide +kernel
theorem dX11_marked_73 : decode cX11_marked 73 = .ok (.sipush (-1000), 3) := by decide +kernel
theorem dX11_marked_76 : decode cX11_marked 76 = .ok (.ireturn, 1) := by decide +kernel
theorem dX11_neighbourLong_0 : decode cX11_neighbourLong 0 = .ok (.aload_n 0, 1) := by decide +kernel
theorem dX11_neighbourLong_1 : decode cX11_neighbourLong 1 = .ok (.getfield 182, 3) := by decide +kernel
theorem dX11_neighbourLong_4 : decode cX11_neighbourLong 4 = .ok (.aload_n 0, 1) := by decide +kernel
theorem dX11_neighbourLong_5 : decode cX11_neighbourLong 5 = .ok (.getfield 185, 3) := by decide +kernel
theorem dX11_neighbourLong_8 : decode cX11_neighbourLong 8 = .ok (.ifCond .ne 7, 3) := by decide +kernel
theorem dX11_neighbourLong_11 : decode cX11_neighbourLong 11 = .ok (.iconst 1, 1) := by decide +kernel
theorem dX11_neighbourLong_12 : decode cX11_neighbourLong 12 = .ok (.goto 16, 3) := by decide +kernel
theorem dX11_neighbourLong_15 : decode cX11_neighbourLong 15 = .ok (.aload_n 0, 1) := by decide +kernel
theorem dX11_neighbourLong_16 : decode cX11_neighbourLong 16 = .ok (.getfield 185, 3) := by decide +kernel
theorem dX11_neighbourLong_19 : decode cX11_neighbourLong 19 = .ok (.iconst 1, 1) := by decide +kernel
theorem dX11_neighbourLong_20 : decode cX11_neighbourLong 20 = .ok (.if_icmp .ne 7, 3) := by decide +kernel
theorem dX11_neighbourLong_23 : decode cX11_neighbourLong 23 = .ok (.iconst (-1), 1) := by decide +kernel
theorem dX11_neighbourLong_24 : decode cX11_neighbourLong 24 = .ok (.goto 4, 3) := by decide +kernel
theorem dX11_neighbourLong_27 : decode cX11_neighbourLong 27 = .ok (.iconst 0, 1) := by decide +kernel
theorem dX11_neighbourLong_28 : decode cX11_neighbourLong 28 = .ok (.iadd, 1) := by decide +kernel
theorem dX11_neighbourLong_29 : decode cX11_neighbourLong 29 = .ok (.ireturn, 1) := by decide +kernel
theorem dX11_neighbourSpread_0 : decode cX11_neighbourSpread 0 = .ok (.aload_n 0, 1) := by decide +kernel
theorem dX11_neighbourSpread_1 : decode cX11_neighbourSpread 1 = .ok (.getfield 188, 3) := by decide +kernel
theorem dX11_neighbourSpread_4 : decode cX11_neighbourSpread 4 = .ok (.aload_n 0, 1) := by decide +kernel
theorem dX11_neighbourSpread_5 : decode cX11_neighbourSpread 5 = .ok (.getfield 185, 3) := by decide +kernel
theorem dX11_neighbourSpread_8 : decode cX11_neighbourSpread 8 = .ok (.iconst 2, 1) := by decide +kernel
theorem dX11_neighbourSpread_9 : decode cX11_neighbourSpread 9 = .ok (.if_icmp .ne 7, 3) := by decide +kernel
theorem dX11_neighbourSpread_12 : decode cX11_neighbourSpread 12 = .ok (.iconst 1, 1) := by decide +kernel
theorem dX11_neighbourSpread_13 : decode cX11_neighbourSpread 13 = .ok (.goto 16, 3) := by decide +kernel
theorem dX11_neighbourSpread_16 : decode cX11_neighbourSpread 16 = .ok (.aload_n 0, 1) := by decide +kernel
theorem dX11_neighbourSpread_17 : decode cX11_neighbourSpread 17 = .ok (.getfield 185, 3) := by decide +kernel
theorem dX11_neighbourSpread_20 : decode cX11_neighbourSpread 20 = .ok (.iconst 3, 1) := by decide +kernel
theorem dX11_neighbourSpread_21 : decode cX11_neighbourSpread 21 = .ok (.if_icmp .ne 7, 3) := by decide +kernel
theorem dX11_neighbourSpread_24 : decode cX11_neighbourSpread 24 = .ok (.iconst (-1), 1) := by decide +kernel
theorem dX11_neighbourSpread_25 : decode cX11_neighbourSpread 25 = .ok (.goto 4, 3) := by decide +kernel
theorem dX11_neighbourSpread_28 : decode cX11_neighbourSpread 28 = .ok (.iconst 0, 1) := by decide +kernel
theorem dX11_neighbourSpread_29 : decode cX11_neighbourSpread 29 = .ok (.iadd, 1) := by decide +kernel
theorem dX11_neighbourSpread_30 : decode cX11_neighbourSpread 30 = .ok (.ireturn, 1) := by decide +kernel
set_option maxRecDepth 20000 in
theorem ggX11_finds_X11_neighbourLong : GoodIn wsX11_finds wsX11_neighbourLong := goodIn_r _ [7, 8, 1, 17, 18, 19, 20, 21, 22, 23, 24, 25, 26, 27, 28, 29, 30, 31, 32, 33, 34, 35, 36, 37, 38, 39, 40, 41, 42, 43, 44, 45, 46, 47, 48, 49, 50, 51, 52, 53, 54, 55, 56, 57, 58, 59, 60] (by decide +kernel) (by decide +kernel)
set_option maxRecDepth 20000 in
theorem gX11_finds_X11_neighbourLong : GoodIn wsX11_finds (wsV RX11 191 RX11 yX11_neighbourLong wsX11_neighbourLong) := goodIn_app (goodIn_of _ (by decide +kernel)) ggX11_finds_X11_neighbourLong
set_option maxRecDepth 20000 in
theorem ggX11_finds_X11_isIn : GoodIn wsX11_finds wsX11_isIn := goodIn_r _ [11] (by decide +kernel) (by decide +kernel)
set_option maxRecDepth 20000 in
theorem gX11_finds_X11_isIn : GoodIn wsX11_finds (va_wsS RX11 142 yX11_isIn wsX11_isIn) := goodIn_app (goodIn_of _ (by decide +kernel)) ggX11_finds_X11_isIn
set_option maxRecDepth 20000 in
theorem ggX11_finds_X11_neighbourSpread : GoodIn wsX11_finds wsX11_neighbourSpread := goodIn_r _ [15, 16, 1, 17, 18, 19, 20, 21, 22, 23, 24, 25, 26, 27, 28, 29, 30, 31, 32, 33, 34, 35, 36, 37, 38, 39, 40, 41, 42, 43, 44, 45, 46, 47, 48, 49, 50, 51, 52, 53, 54, 55, 56, 57, 58, 59, 60] (by decide +kernel) (by decide +kernel)
set_option maxRecDepth 20000 in
theorem gX11_finds_X11_neighbourSpread : GoodIn wsX11_finds (wsV RX11 195 RX11 yX11_neighbourSpread wsX11_neighbourSpread) := goodIn_app (goodIn_of _ (by decide +kernel)) ggX11_finds_X11_neighbourSpread
theorem dX11_finds_0 : decode cX11_finds 0 = .ok (.aload_n 0, 1) := by decide +kernel
theorem dX11_finds_1 : decode cX11_finds 1 = .ok (.iload_n 1, 1) := by decide +kernel
theorem dX11_finds_2 : decode cX11_finds 2 = .ok (.putfield 185, 3) := by decide +kernel
theorem dX11_finds_5 : decode cX11_finds 5 = .ok (.aload_n 0, 1) := by decide +kernel
theorem dX11_finds_6 : decode cX11_finds 6 = .ok (.getfield 185, 3) := by decide +kernel
theorem dX11_finds_9 : decode cX11_finds 9 = .ok (.iconst 4, 1) := by decide +kernel
theorem dX11_finds_10 : decode cX11_finds 10 = .ok (.if_icmp .ge 41, 3) := by decide +kernel
theorem dX11_finds_13 : decode cX11_finds 13 = .ok (.aload_n 0, 1) := by decide +kernel
theorem dX11_finds_14 : decode cX11_finds 14 = .ok (.invokevirtual 191, 3) := by decide +kernel
theorem dX11_finds_17 : decode cX11_finds 17 = .ok (.iconst 0, 1) := by decide +kernel
theorem dX11_finds_18 : decode cX11_finds 18 = .ok (.bipush 10, 2) := by decide +kernel
theorem dX11_finds_20 : decode cX11_finds 20 = .ok (.invokestatic 142, 3) := by decide +kernel
theorem dX11_finds_23 : decode cX11_finds 23 = .ok (.ifCond .eq 15, 3) := by decide +kernel
theorem dX11_finds_26 : decode cX11_finds 26 = .ok (.aload_n 0, 1) := by decide +kernel
theorem dX11_finds_27 : decode cX11_finds 27 = .ok (.invokevirtual 195, 3) := by decide +kernel
theorem dX11_finds_30 : decode cX11_finds 30 = .ok (.iconst 0, 1) := by decide +kernel
theorem dX11_finds_31 : decode cX11_finds 31 = .ok (.iconst 2, 1) := by decide +kernel
theorem dX11_finds_32 : decode cX11_finds 32 = .ok (.invokestatic 142, 3) := by decide +kernel
theorem dX11_finds_35 : decode cX11_finds 35 = .ok (.ifCond .ne 16, 3) := by decide +kernel
theorem dX11_finds_38 : decode cX11_finds 38 = .ok (.aload_n 0, 1) := by decide +kernel
theorem dX11_finds_39 : decode cX11_finds 39 = .ok (.dup, 1) := by decide +kernel
theorem dX11_finds_40 : decode cX11_finds 40 = .ok (.getfield 185, 3) := by decide +kernel
theorem dX11_finds_43 : decode cX11_finds 43 = .ok (.iconst 1, 1) := by decide +kernel
theorem dX11_finds_44 : decode cX11_finds 44 = .ok (.iadd, 1) := by decide +kernel
theorem dX11_finds_45 : decode cX11_finds 45 = .ok (.putfield 185, 3) := by decide +kernel
theorem dX11_finds_48 : decode cX11_finds 48 = .ok (.goto (-43), 3) := by decide +kernel
theorem dX11_finds_51 : decode cX11_finds 51 = .ok (.aload_n 0, 1) := by decide +kernel
theorem dX11_finds_52 : decode cX11_finds 52 = .ok (.iconst 0, 1) := by decide +kernel
theorem dX11_finds_53 : decode cX11_finds 53 = .ok (.putfield 198, 3) := by decide +kernel
theorem dX11_finds_56 : decode cX11_finds 56 = .ok (.return_, 1) := by decide +kernel
set_option maxRecDepth 20000 in
theorem ggX11_test_X11_isIn : GoodIn wsX11_test wsX11_isIn := goodIn_r _ [10] (by decide +kernel) (by decide +kernel)
set_option maxRecDepth 20000 in
theorem gX11_test_X11_isIn : GoodIn wsX11_test (va_wsS RX11 142 yX11_isIn wsX11_isIn) := goodIn_app (goodIn_of _ (by decide +kernel)) ggX11_test_X11_isIn
set_option maxRecDepth 20000 in
theorem ggX11_test_X11_finds : GoodIn wsX11_test wsX11_finds := goodIn_r _ [14, 15, 16, 17, 18, 19, 9, 20, 2, 7, 8, 10, 21, 22, 23, 24, 3, 25, 26, 27, 28, 29, 30, 31, 32, 33, 34, 35, 36, 37, 38, 39, 40, 41, 42, 43, 44, 45, 46, 47, 48, 49, 50, 51, 52, 53, 54, 55, 56, 57, 58, 59, 60, 61, 62, 63, 64, 65, 66, 67, 68] (by decide +kernel) (by decide +kernel)
set_option maxRecDepth 20000 in
theorem gX11_test_X11_finds : GoodIn wsX11_test (wsV RX11 213 RX11 yX11_finds wsX11_finds) := goodIn_app (goodIn_of _ (by decide +kernel)) ggX11_test_X11_finds
theorem dX11_test_0 : decode cX11_test 0 = .ok (.iload_n 1, 1) := by decide +kernel
theorem dX11_test_1 : decode cX11_test 1 = .ok (.iconst 0, 1) := by decide +kernel
theorem dX11_test_2 : decode cX11_test 2 = .ok (.bipush 10, 2) := by decide +kernel
theorem dX11_test_4 : decode cX11_test 4 = .ok (.invokestatic 142, 3) := by decide +kernel
theorem dX11_test_7 : decode cX11_test 7 = .ok (.ifCond .eq 22, 3) := by decide +kernel
theorem dX11_test_10 : decode cX11_test 10 = .ok (.iload_n 2, 1) := by decide +kernel
theorem dX11_test_11 : decode cX11_test 11 = .ok (.iconst 0, 1) := by decide +kernel
theorem dX11_test_12 : decode cX11_test 12 = .ok (.iconst 2, 1) := by decide +kernel
theorem dX11_test_13 : decode cX11_test 13 = .ok (.invokestatic 142, 3) := by decide +kernel
theorem dX11_test_16 : decode cX11_test 16 = .ok (.ifCond .eq 13, 3) := by decide +kernel
theorem dX11_test_19 : decode cX11_test 19 = .ok (.iload_n 3, 1) := by decide +kernel
theorem dX11_test_20 : decode cX11_test 20 = .ok (.iconst 1, 1) := by decide +kernel
theorem dX11_test_21 : decode cX11_test 21 = .ok (.bipush 9, 2) := by decide +kernel
theorem dX11_test_23 : decode cX11_test 23 = .ok (.invokestatic 142, 3) := by decide +kernel
theorem dX11_test_26 : decode cX11_test 26 = .ok (.ifCond .ne 5, 3) := by decide +kernel
theorem dX11_test_29 : decode cX11_test 29 = .ok (.iconst 0, 1) := by decide +kernel
theorem dX11_test_30 : decode cX11_test 30 = .ok (.ireturn, 1) := by decide +kernel
theorem dX11_test_31 : decode cX11_test 31 = .ok (.aload_n 0, 1) := by decide +kernel
theorem dX11_test_32 : decode cX11_test 32 = .ok (.iconst 1, 1) := by decide +kernel
theorem dX11_test_33 : decode cX11_test 33 = .ok (.putfield 201, 3) := by decide +kernel
theorem dX11_test_36 : decode cX11_test 36 = .ok (.aload_n 0, 1) := by decide +kernel
theorem dX11_test_37 : decode cX11_test 37 = .ok (.iload_n 1, 1) := by decide +kernel
theorem dX11_test_38 : decode cX11_test 38 = .ok (.putfield 182, 3) := by decide +kernel
theorem dX11_test_41 : decode cX11_test 41 = .ok (.aload_n 0, 1) := by decide +kernel
theorem dX11_test_42 : decode cX11_test 42 = .ok (.iload_n 2, 1) := by decide +kernel
theorem dX11_test_43 : decode cX11_test 43 = .ok (.putfield 188, 3) := by decide +kernel
theorem dX11_test_46 : decode cX11_test 46 = .ok (.aload_n 0, 1) := by decide +kernel
theorem dX11_test_47 : decode cX11_test 47 = .ok (.iload_n 3, 1) := by decide +kernel
theorem dX11_test_48 : decode cX11_test 48 = .ok (.putfield 204, 3) := by decide +kernel
theorem dX11_test_51 : decode cX11_test 51 = .ok (.aload_n 0, 1) := by decide +kernel
theorem dX11_test_52 : decode cX11_test 52 = .ok (.iconst 0, 1) := by decide +kernel
theorem dX11_test_53 : decode cX11_test 53 = .ok (.putfield 207, 3) := by decide +kernel
theorem dX11_test_56 : decode cX11_test 56 = .ok (.aload_n 0, 1) := by decide +kernel
theorem dX11_test_57 : decode cX11_test 57 = .ok (.iconst 0, 1) := by decide +kernel
theorem dX11_test_58 : decode cX11_test 58 = .ok (.putfield 210, 3) := by decide +kernel
theorem dX11_test_61 : decode cX11_test 61 = .ok (.aload_n 0, 1) := by decide +kernel
theorem dX11_test_62 : decode cX11_test 62 = .ok (.iconst 0, 1) := by decide +kernel
theorem dX11_test_63 : decode cX11_test 63 = .ok (.invokevirtual 213, 3) := by decide +kernel
theorem dX11_test_66 : decode cX11_test 66 = .ok (.iconst 1, 1) := by decide +kernel
theorem dX11_test_67 : decode cX11_test 67 = .ok (.ireturn, 1) := by decide +kernel
theorem dX11_isOver_0 : decode cX11_isOver 0 = .ok (.aload_n 0, 1) := by decide +kernel
theorem dX11_isOver_1 : decode cX11_isOver 1 = .ok (.getfield 185, 3) := by decide +kernel
theorem dX11_isOver_4 : decode cX11_isOver 4 = .ok (.iconst 4, 1) := by decide +kernel
theorem dX11_isOver_5 : decode cX11_isOver 5 = .ok (.if_icmp .eq 13, 3) := by decide +kernel
theorem dX11_isOver_8 : decode cX11_isOver 8 = .ok (.aload_n 0, 1) := by decide +kernel
theorem dX11_isOver_9 : decode cX11_isOver 9 = .ok (.getfield 207, 3) := by decide +kernel
theorem dX11_isOver_12 : decode cX11_isOver 12 = .ok (.sipush 200, 3) := by decide +kernel
theorem dX11_isOver_15 : decode cX11_isOver 15 = .ok (.if_icmp .ne 7, 3) := by decide +kernel
theorem dX11_isOver_18 : decode cX11_isOver 18 = .ok (.iconst 1, 1) := by decide +kernel
theorem dX11_isOver_19 : decode cX11_isOver 19 = .ok (.goto 4, 3) := by decide +kernel
theorem dX11_isOver_22 : decode cX11_isOver 22 = .ok (.iconst 0, 1) := by decide +kernel
theorem dX11_isOver_23 : decode cX11_isOver 23 = .ok (.ireturn, 1) := by decide +kernel
set_option maxRecDepth 20000 in
theorem ggX11_tested_X11_isOver : GoodIn wsX11_tested wsX11_isOver := goodIn_r _ [10, 11, 4, 20, 21, 22, 23, 24, 25, 26, 27, 28, 29, 30, 31, 32, 33, 34, 35, 36, 37, 38, 39, 40, 41, 42, 43, 44, 45, 46, 47, 48, 49, 50, 51, 52, 53, 54, 55, 56, 57, 58, 59, 60, 61, 62, 63] (by decide +kernel) (by decide +kernel)
set_option maxRecDepth 20000 in
theorem gX11_tested_X11_isOver : GoodIn wsX11_tested (wsV RX11 217 RX11 yX11_isOver wsX11_isOver) := goodIn_app (goodIn_of _ (by decide +kernel)) ggX11_tested_X11_isOver
set_option maxRecDepth 20000 in
theorem ggX11_tested_X11_neighbourLong : GoodIn wsX11_tested wsX11_neighbourLong := goodIn_r _ [15, 2, 11, 20, 21, 22, 23, 24, 25, 26, 27, 28, 29, 30, 31, 32, 33, 34, 35, 36, 37, 38, 39, 40, 41, 42, 43, 44, 45, 46, 47, 48, 49, 50, 51, 52, 53, 54, 55, 56, 57, 58, 59, 60, 61, 62, 63] (by decide +kernel) (by decide +kernel)
set_option maxRecDepth 20000 in
theorem gX11_tested_X11_neighbourLong : GoodIn wsX11_tested (wsV RX11 191 RX11 yX11_neighbourLong wsX11_neighbourLong) := goodIn_app (goodIn_of _ (by decide +kernel)) ggX11_tested_X11_neighbourLong
set_option maxRecDepth 20000 in
theorem ggX11_tested_X11_neighbourSpread : GoodIn wsX11_tested wsX11_neighbourSpread := goodIn_r _ [19, 3, 11, 20, 21, 22, 23, 24, 25, 26, 27, 28, 29, 30, 31, 32, 33, 34, 35, 36, 37, 38, 39, 40, 41, 42, 43, 44, 45, 46, 47, 48, 49, 50, 51, 52, 53, 54, 55, 56, 57, 58, 59, 60, 61, 62, 63] (by decide +kernel) (by decide +kernel)
set_option maxRecDepth 20000 in
theorem gX11_tested_X11_neighbourSpread : GoodIn wsX11_tested (wsV RX11 195 RX11 yX11_neighbourSpread wsX11_neighbourSpread) := goodIn_app (goodIn_of _ (by decide +kernel)) ggX11_tested_X11_neighbourSpread
theorem dX11_tested_0 : decode cX11_tested 0 = .ok (.aload_n 0, 1) := by decide +kernel
theorem dX11_tested_1 : decode cX11_tested 1 = .ok (.getfield 201, 3) := by decide +kernel
theorem dX11_tested_4 : decode cX11_tested 4 = .ok (.ifCond .ne 5, 3) := by decide +kernel
theorem dX11_tested_7 : decode cX11_tested 7 = .ok (.iconst (-1), 1) := by decide +kernel
theorem dX11_tested_8 : decode cX11_tested 8 = .ok (.ireturn, 1) := by decide +kernel
theorem dX11_tested_9 : decode cX11_tested 9 = .ok (.iload_n 1, 1) := by decide +kernel
theorem dX11_tested_10 : decode cX11_tested 10 = .ok (.tableswitch 90 0 5 #[38, 43, 48, 64, 80, 85], 38) := by decide +kernel
theorem dX11_tested_48 : decode cX11_tested 48 = .ok (.aload_n 0, 1) := by decide +kernel
theorem dX11_tested_49 : decode cX11_tested 49 = .ok (.getfield 182, 3) := by decide +kernel
theorem dX11_tested_52 : decode cX11_tested 52 = .ok (.ireturn, 1) := by decide +kernel
theorem dX11_tested_53 : decode cX11_tested 53 = .ok (.aload_n 0, 1) := by decide +kernel
theorem dX11_tested_54 : decode cX11_tested 54 = .ok (.getfield 188, 3) := by decide +kernel
theorem dX11_tested_57 : decode cX11_tested 57 = .ok (.ireturn, 1) := by decide +kernel
theorem dX11_tested_58 : decode cX11_tested 58 = .ok (.aload_n 0, 1) := by decide +kernel
theorem dX11_tested_59 : decode cX11_tested 59 = .ok (.invokevirtual 217, 3) := by decide +kernel
theorem dX11_tested_62 : decode cX11_tested 62 = .ok (.ifCond .eq 7, 3) := by decide +kernel
theorem dX11_tested_65 : decode cX11_tested 65 = .ok (.iconst (-1), 1) := by decide +kernel
theorem dX11_tested_66 : decode cX11_tested 66 = .ok (.goto 7, 3) := by decide +kernel
theorem dX11_tested_69 : decode cX11_tested 69 = .ok (.aload_n 0, 1) := by decide +kernel
theorem dX11_tested_70 : decode cX11_tested 70 = .ok (.invokevirtual 191, 3) := by decide +kernel
theorem dX11_tested_73 : decode cX11_tested 73 = .ok (.ireturn, 1) := by decide +kernel
theorem dX11_tested_74 : decode cX11_tested 74 = .ok (.aload_n 0, 1) := by decide +kernel
theorem dX11_tested_75 : decode cX11_tested 75 = .ok (.invokevirtual 217, 3) := by decide +kernel
theorem dX11_tested_78 : decode cX11_tested 78 = .ok (.ifCond .eq 7, 3) := by decide +kernel
theorem dX11_tested_81 : decode cX11_tested 81 = .ok (.iconst (-1), 1) := by decide +kernel
theorem dX11_tested_82 : decode cX11_tested 82 = .ok (.goto 7, 3) := by decide +kernel
theorem dX11_tested_85 : decode cX11_tested 85 = .ok (.aload_n 0, 1) := by decide +kernel
theorem dX11_tested_86 : decode cX11_tested 86 = .ok (.invokevirtual 195, 3) := by decide +kernel
theorem dX11_tested_89 : decode cX11_tested 89 = .ok (.ireturn, 1) := by decide +kernel
theorem dX11_tested_90 : decode cX11_tested 90 = .ok (.aload_n 0, 1) := by decide +kernel
theorem dX11_tested_91 : decode cX11_tested 91 = .ok (.getfield 207, 3) := by decide +kernel
theorem dX11_tested_94 : decode cX11_tested 94 = .ok (.ireturn, 1) := by decide +kernel
theorem dX11_tested_95 : decode cX11_tested 95 = .ok (.aload_n 0, 1) := by decide +kernel
theorem dX11_tested_96 : decode cX11_tested 96 = .ok (.getfield 210, 3) := by decide +kernel
theorem dX11_tested_99 : decode cX11_tested 99 = .ok (.ireturn, 1) := by decide +kernel
theorem dX11_tested_100 : decode cX11_tested 100 = .ok (.iconst (-1), 1) := by decide +kernel
theorem dX11_tested_101 : decode cX11_tested 101 = .ok (.ireturn, 1) := by decide +kernel
set_option maxRecDepth 20000 in
theorem ggX11_answer_X11_isOver : GoodIn wsX11_answer wsX11_isOver := goodIn_r _ [13, 6, 2, 29, 30, 31, 32, 33, 34, 35, 36, 37, 38, 39, 40, 41, 42, 43, 44, 45, 46, 47, 48, 49, 50, 51, 52, 53, 54, 55, 56, 57, 58, 59, 60, 61, 62, 63, 64, 65, 66, 67, 68, 69, 70, 71, 72] (by decide +kernel) (by decide +kernel)
set_option maxRecDepth 20000 in
theorem gX11_answer_X11_isOver : GoodIn wsX11_answer (wsV RX11 217 RX11 yX11_isOver wsX11_isOver) := goodIn_app (goodIn_of _ (by decide +kernel)) ggX11_answer_X11_isOver
set_option maxRecDepth 20000 in
theorem ggX11_answer_X11_finds : GoodIn wsX11_answer wsX11_finds := goodIn_r _ [17, 6, 3, 18, 19, 20, 12, 21, 7, 22, 23, 24, 25, 26, 27, 28, 8, 29, 30, 31, 32, 33, 34, 35, 36, 37, 38, 39, 40, 41, 42, 43, 44, 45, 46, 47, 48, 49, 50, 51, 52, 53, 54, 55, 56, 57, 58, 59, 60, 61, 62, 63, 64, 65, 66, 67, 68, 69, 70, 71, 72] (by decide +kernel) (by decide +kernel)
set_option maxRecDepth 20000 in
theorem gX11_answer_X11_finds : GoodIn wsX11_answer (wsV RX11 213 RX11 yX11_finds wsX11_finds) := goodIn_app (goodIn_of _ (by decide +kernel)) ggX11_answer_X11_finds
set_option maxRecDepth 20000 in
theorem ggX11_answer_X11_neighbourLong : GoodIn wsX11_answer wsX11_neighbourLong := goodIn_r _ [21, 7, 6, 29, 30, 31, 32, 33, 34, 35, 36, 37, 38, 39, 40, 41, 42, 43, 44, 45, 46, 47, 48, 49, 50, 51, 52, 53, 54, 55, 56, 57, 58, 59, 60, 61, 62, 63, 64, 65, 66, 67, 68, 69, 70, 71, 72] (by decide +kernel) (by decide +kernel)
set_option maxRecDepth 20000 in
theorem gX11_answer_X11_neighbourLong : GoodIn wsX11_answer (wsV RX11 191 RX11 yX11_neighbourLong wsX11_neighbourLong) := goodIn_app (goodIn_of _ (by decide +kernel)) ggX11_answer_X11_neighbourLong
set_option maxRecDepth 20000 in
theorem ggX11_answer_X11_neighbourSpread : GoodIn wsX11_answer wsX11_neighbourSpread := goodIn_r _ [28, 8, 6, 29, 30, 31, 32, 33, 34, 35, 36, 37, 38, 39, 40, 41, 42, 43, 44, 45, 46, 47, 48, 49, 50, 51, 52, 53, 54, 55, 56, 57, 58, 59, 60, 61, 62, 63, 64, 65, 66, 67, 68, 69, 70, 71, 72] (by decide +kernel) (by decide +kernel)
set_option maxRecDepth 20000 in
theorem gX11_answer_X11_neighbourSpread : GoodIn wsX11_answer (wsV RX11 195 RX11 yX11_neighbourSpread wsX11_neighbourSpread) := goodIn_app (goodIn_of _ (by decide +kernel)) ggX11_answer_X11_neighbourSpread
theorem dX11_answer_0 : decode cX11_answer 0 = .ok (.aload_n 0, 1) := by decide +kernel
theorem dX11_answer_1 : decode cX11_answer 1 = .ok (.getfield 201, 3) := by decide +kernel
theorem dX11_answer_4 : decode cX11_answer 4 = .ok (.ifCond .eq 10, 3) := by decide +kernel
theorem dX11_answer_7 : decode cX11_answer 7 = .ok (.aload_n 0, 1) := by decide +kernel
theorem dX11_answer_8 : decode cX11_answer 8 = .ok (.invokevirtual 217, 3) := by decide +kernel
theorem dX11_answer_11 : decode cX11_answer 11 = .ok (.ifCond .eq 5, 3) := by decide +kernel
theorem dX11_answer_14 : decode cX11_answer 14 = .ok (.iconst (-1), 1) := by decide +kernel
theorem dX11_answer_15 : decode cX11_answer 15 = .ok (.ireturn, 1) := by decide +kernel
theorem dX11_answer_16 : decode cX11_answer 16 = .ok (.aload_n 0, 1) := by decide +kernel
theorem dX11_answer_17 : decode cX11_answer 17 = .ok (.dup, 1) := by decide +kernel
theorem dX11_answer_18 : decode cX11_answer 18 = .ok (.getfield 207, 3) := by decide +kernel
theorem dX11_answer_21 : decode cX11_answer 21 = .ok (.iconst 1, 1) := by decide +kernel
theorem dX11_answer_22 : decode cX11_answer 22 = .ok (.iadd, 1) := by decide +kernel
theorem dX11_answer_23 : decode cX11_answer 23 = .ok (.putfield 207, 3) := by decide +kernel
theorem dX11_answer_26 : decode cX11_answer 26 = .ok (.aload_n 0, 1) := by decide +kernel
theorem dX11_answer_27 : decode cX11_answer 27 = .ok (.dup, 1) := by decide +kernel
theorem dX11_answer_28 : decode cX11_answer 28 = .ok (.getfield 198, 3) := by decide +kernel
theorem dX11_answer_31 : decode cX11_answer 31 = .ok (.iload_n 1, 1) := by decide +kernel
theorem dX11_answer_32 : decode cX11_answer 32 = .ok (.ifCond .eq 7, 3) := by decide +kernel
theorem dX11_answer_35 : decode cX11_answer 35 = .ok (.iconst 1, 1) := by decide +kernel
theorem dX11_answer_36 : decode cX11_answer 36 = .ok (.goto 4, 3) := by decide +kernel
theorem dX11_answer_39 : decode cX11_answer 39 = .ok (.iconst (-1), 1) := by decide +kernel
theorem dX11_answer_40 : decode cX11_answer 40 = .ok (.iadd, 1) := by decide +kernel
theorem dX11_answer_41 : decode cX11_answer 41 = .ok (.putfield 198, 3) := by decide +kernel
theorem dX11_answer_44 : decode cX11_answer 44 = .ok (.iconst 0, 1) := by decide +kernel
theorem dX11_answer_45 : decode cX11_answer 45 = .ok (.istore_n 2, 1) := by decide +kernel
theorem dX11_answer_46 : decode cX11_answer 46 = .ok (.aload_n 0, 1) := by decide +kernel
theorem dX11_answer_47 : decode cX11_answer 47 = .ok (.getfield 198, 3) := by decide +kernel
theorem dX11_answer_50 : decode cX11_answer 50 = .ok (.aload_n 0, 1) := by decide +kernel
theorem dX11_answer_51 : decode cX11_answer 51 = .ok (.getfield 204, 3) := by decide +kernel
theorem dX11_answer_54 : decode cX11_answer 54 = .ok (.if_icmp .ne 28, 3) := by decide +kernel
theorem dX11_answer_57 : decode cX11_answer 57 = .ok (.iconst 1, 1) := by decide +kernel
theorem dX11_answer_58 : decode cX11_answer 58 = .ok (.istore_n 2, 1) := by decide +kernel
theorem dX11_answer_59 : decode cX11_answer 59 = .ok (.aload_n 0, 1) := by decide +kernel
theorem dX11_answer_60 : decode cX11_answer 60 = .ok (.dup, 1) := by decide +kernel
theorem dX11_answer_61 : decode cX11_answer 61 = .ok (.getfield 210, 3) := by decide +kernel
theorem dX11_answer_64 : decode cX11_answer 64 = .ok (.iconst 1, 1) := by decide +kernel
theorem dX11_answer_65 : decode cX11_answer 65 = .ok (.iadd, 1) := by decide +kernel
theorem dX11_answer_66 : decode cX11_answer 66 = .ok (.putfield 210, 3) := by decide +kernel
theorem dX11_answer_69 : decode cX11_answer 69 = .ok (.aload_n 0, 1) := by decide +kernel
theorem dX11_answer_70 : decode cX11_answer 70 = .ok (.aload_n 0, 1) := by decide +kernel
theorem dX11_answer_71 : decode cX11_answer 71 = .ok (.getfield 185, 3) := by decide +kernel
theorem dX11_answer_74 : decode cX11_answer 74 = .ok (.iconst 1, 1) := by decide +kernel
theorem dX11_answer_75 : decode cX11_answer 75 = .ok (.iadd, 1) := by decide +kernel
theorem dX11_answer_76 : decode cX11_answer 76 = .ok (.invokevirtual 213, 3) := by decide +kernel
theorem dX11_answer_79 : decode cX11_answer 79 = .ok (.goto 54, 3) := by decide +kernel
theorem dX11_answer_82 : decode cX11_answer 82 = .ok (.aload_n 0, 1) := by decide +kernel
theorem dX11_answer_83 : decode cX11_answer 83 = .ok (.getfield 198, 3) := by decide +kernel
theorem dX11_answer_86 : decode cX11_answer 86 = .ok (.aload_n 0, 1) := by decide +kernel
theorem dX11_answer_87 : decode cX11_answer 87 = .ok (.getfield 204, 3) := by decide +kernel
theorem dX11_answer_90 : decode cX11_answer 90 = .ok (.ineg, 1) := by decide +kernel
theorem dX11_answer_91 : decode cX11_answer 91 = .ok (.if_icmp .ne 42, 3) := by decide +kernel
theorem dX11_answer_94 : decode cX11_answer 94 = .ok (.iconst 2, 1) := by decide +kernel
theorem dX11_answer_95 : decode cX11_answer 95 = .ok (.istore_n 2, 1) := by decide +kernel
theorem dX11_answer_96 : decode cX11_answer 96 = .ok (.aload_n 0, 1) := by decide +kernel
theorem dX11_answer_97 : decode cX11_answer 97 = .ok (.dup, 1) := by decide +kernel
theorem dX11_answer_98 : decode cX11_answer 98 = .ok (.getfield 210, 3) := by decide +kernel
theorem dX11_answer_101 : decode cX11_answer 101 = .ok (.iconst 1, 1) := by decide +kernel
theorem dX11_answer_102 : decode cX11_answer 102 = .ok (.iadd, 1) := by decide +kernel
theorem dX11_answer_103 : decode cX11_answer 103 = .ok (.putfield 210, 3) := by decide +kernel
theorem dX11_answer_106 : decode cX11_answer 106 = .ok (.aload_n 0, 1) := by decide +kernel
theorem dX11_answer_107 : decode cX11_answer 107 = .ok (.invokevirtual 191, 3) := by decide +kernel
theorem dX11_answer_110 : decode cX11_answer 110 = .ok (.istore_n 3, 1) := by decide +kernel
theorem dX11_answer_111 : decode cX11_answer 111 = .ok (.aload_n 0, 1) := by decide +kernel
theorem dX11_answer_112 : decode cX11_answer 112 = .ok (.invokevirtual 195, 3) := by decide +kernel
theorem dX11_answer_115 : decode cX11_answer 115 = .ok (.istore 4, 2) := by decide +kernel
theorem dX11_answer_117 : decode cX11_answer 117 = .ok (.aload_n 0, 1) := by decide +kernel
theorem dX11_answer_118 : decode cX11_answer 118 = .ok (.iload_n 3, 1) := by decide +kernel
theorem dX11_answer_119 : decode cX11_answer 119 = .ok (.putfield 182, 3) := by decide +kernel
theorem dX11_answer_122 : decode cX11_answer 122 = .ok (.aload_n 0, 1) := by decide +kernel
theorem dX11_answer_123 : decode cX11_answer 123 = .ok (.iload 4, 2) := by decide +kernel
theorem dX11_answer_125 : decode cX11_answer 125 = .ok (.putfield 188, 3) := by decide +kernel
theorem dX11_answer_128 : decode cX11_answer 128 = .ok (.aload_n 0, 1) := by decide +kernel
theorem dX11_answer_129 : decode cX11_answer 129 = .ok (.iconst 0, 1) := by decide +kernel
theorem dX11_answer_130 : decode cX11_answer 130 = .ok (.invokevirtual 213, 3) := by decide +kernel
theorem dX11_answer_133 : decode cX11_answer 133 = .ok (.aload_n 0, 1) := by decide +kernel
theorem dX11_answer_134 : decode cX11_answer 134 = .ok (.invokevirtual 217, 3) := by decide +kernel
theorem dX11_answer_137 : decode cX11_answer 137 = .ok (.ifCond .eq 7, 3) := by decide +kernel
theorem dX11_answer_140 : decode cX11_answer 140 = .ok (.iconst 3, 1) := by decide +kernel
theorem dX11_answer_141 : decode cX11_answer 141 = .ok (.goto 4, 3) := by decide +kernel
theorem dX11_answer_144 : decode cX11_answer 144 = .ok (.iload_n 2, 1) := by decide +kernel
theorem dX11_answer_145 : decode cX11_answer 145 = .ok (.ireturn, 1) := by decide +kernel
theorem dX11_use_0 : decode cX11_use 0 = .ok (.aload_n 0, 1) := by decide +kernel
theorem dX11_use_1 : decode cX11_use 1 = .ok (.getfield 201, 3) := by decide +kernel
theorem dX11_use_4 : decode cX11_use 4 = .ok (.ifCond .ne 5, 3) := by decide +kernel
theorem dX11_use_7 : decode cX11_use 7 = .ok (.iconst 0, 1) := by decide +kernel
theorem dX11_use_8 : decode cX11_use 8 = .ok (.ireturn, 1) := by decide +kernel
theorem dX11_use_9 : decode cX11_use 9 = .ok (.aload_n 0, 1) := by decide +kernel
theorem dX11_use_10 : decode cX11_use 10 = .ok (.bipush 20, 2) := by decide +kernel
theorem dX11_use_12 : decode cX11_use 12 = .ok (.iconst 4, 1) := by decide +kernel
theorem dX11_use_13 : decode cX11_use 13 = .ok (.aload_n 0, 1) := by decide +kernel
theorem dX11_use_14 : decode cX11_use 14 = .ok (.getfield 182, 3) := by decide +kernel
theorem dX11_use_17 : decode cX11_use 17 = .ok (.imul, 1) := by decide +kernel
theorem dX11_use_18 : decode cX11_use 18 = .ok (.iadd, 1) := by decide +kernel
theorem dX11_use_19 : decode cX11_use 19 = .ok (.putfield 38, 3) := by decide +kernel
theorem dX11_use_22 : decode cX11_use 22 = .ok (.aload_n 0, 1) := by decide +kernel
theorem dX11_use_23 : decode cX11_use 23 = .ok (.iconst 1, 1) := by decide +kernel
theorem dX11_use_24 : decode cX11_use 24 = .ok (.aload_n 0, 1) := by decide +kernel
theorem dX11_use_25 : decode cX11_use 25 = .ok (.getfield 188, 3) := by decide +kernel
theorem dX11_use_28 : decode cX11_use 28 = .ok (.iadd, 1) := by decide +kernel
theorem dX11_use_29 : decode cX11_use 29 = .ok (.putfield 41, 3) := by decide +kernel
theorem dX11_use_32 : decode cX11_use 32 = .ok (.iconst 1, 1) := by decide +kernel
theorem dX11_use_33 : decode cX11_use 33 = .ok (.ireturn, 1) := by decide +kernel
theorem dJ9_abs_0f7a4_0 : decode cJ9_abs_0f7a4 0 = .ok (.iload_n 0, 1) := by decide +kernel
theorem dJ9_abs_0f7a4_1 : decode cJ9_abs_0f7a4 1 = .ok (.ifCond .ge 8, 3) := by decide +kernel
theorem dJ9_abs_0f7a4_4 : decode cJ9_abs_0f7a4 4 = .ok (.iload_n 0, 1) := by decide +kernel
theorem dJ9_abs_0f7a4_5 : decode cJ9_abs_0f7a4 5 = .ok (.ineg, 1) := by decide +kernel
theorem dJ9_abs_0f7a4_6 : decode cJ9_abs_0f7a4 6 = .ok (.goto 4, 3) := by decide +kernel
theorem dJ9_abs_0f7a4_9 : decode cJ9_abs_0f7a4 9 = .ok (.iload_n 0, 1) := by decide +kernel
theorem dJ9_abs_0f7a4_10 : decode cJ9_abs_0f7a4 10 = .ok (.ireturn, 1) := by decide +kernel
theorem dJ9_min_7cf53_0 : decode cJ9_min_7cf53 0 = .ok (.iload_n 0, 1) := by decide +kernel
theorem dJ9_min_7cf53_1 : decode cJ9_min_7cf53 1 = .ok (.iload_n 1, 1) := by decide +kernel
theorem dJ9_min_7cf53_2 : decode cJ9_min_7cf53 2 = .ok (.if_icmp .gt 7, 3) := by decide +kernel
theorem dJ9_min_7cf53_5 : decode cJ9_min_7cf53 5 = .ok (.iload_n 0, 1) := by decide +kernel
theorem dJ9_min_7cf53_6 : decode cJ9_min_7cf53 6 = .ok (.goto 4, 3) := by decide +kernel
theorem dJ9_min_7cf53_9 : decode cJ9_min_7cf53 9 = .ok (.iload_n 1, 1) := by decide +kernel
theorem dJ9_min_7cf53_10 : decode cJ9_min_7cf53 10 = .ok (.ireturn, 1) := by decide +kernel
