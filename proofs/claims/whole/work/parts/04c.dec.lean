theorem d_Md_init_0 : decode b_Md_init 0 = .ok (.aload_n 0, 1) := by decide +kernel
theorem d_Md_init_1 : decode b_Md_init 1 = .ok (.invokespecial 1, 3) := by decide +kernel
theorem d_Md_init_4 : decode b_Md_init 4 = .ok (.aload_n 0, 1) := by decide +kernel
theorem d_Md_init_5 : decode b_Md_init 5 = .ok (.bipush 12, 2) := by decide +kernel
theorem d_Md_init_7 : decode b_Md_init 7 = .ok (.newarray .int, 2) := by decide +kernel
theorem d_Md_init_9 : decode b_Md_init 9 = .ok (.putfield 7, 3) := by decide +kernel
theorem d_Md_init_12 : decode b_Md_init 12 = .ok (.aload_n 0, 1) := by decide +kernel
theorem d_Md_init_13 : decode b_Md_init 13 = .ok (.bipush 12, 2) := by decide +kernel
theorem d_Md_init_15 : decode b_Md_init 15 = .ok (.newarray .int, 2) := by decide +kernel
theorem d_Md_init_17 : decode b_Md_init 17 = .ok (.putfield 13, 3) := by decide +kernel
theorem d_Md_init_20 : decode b_Md_init 20 = .ok (.aload_n 0, 1) := by decide +kernel
theorem d_Md_init_21 : decode b_Md_init 21 = .ok (.bipush 12, 2) := by decide +kernel
theorem d_Md_init_23 : decode b_Md_init 23 = .ok (.newarray .int, 2) := by decide +kernel
theorem d_Md_init_25 : decode b_Md_init 25 = .ok (.putfield 16, 3) := by decide +kernel
theorem d_Md_init_28 : decode b_Md_init 28 = .ok (.aload_n 0, 1) := by decide +kernel
theorem d_Md_init_29 : decode b_Md_init 29 = .ok (.bipush 12, 2) := by decide +kernel
theorem d_Md_init_31 : decode b_Md_init 31 = .ok (.newarray .int, 2) := by decide +kernel
theorem d_Md_init_33 : decode b_Md_init 33 = .ok (.putfield 19, 3) := by decide +kernel
theorem d_Md_init_36 : decode b_Md_init 36 = .ok (.aload_n 0, 1) := by decide +kernel
theorem d_Md_init_37 : decode b_Md_init 37 = .ok (.sipush 144, 3) := by decide +kernel
theorem d_Md_init_40 : decode b_Md_init 40 = .ok (.newarray .int, 2) := by decide +kernel
theorem d_Md_init_42 : decode b_Md_init 42 = .ok (.putfield 22, 3) := by decide +kernel
theorem d_Md_init_45 : decode b_Md_init 45 = .ok (.aload_n 0, 1) := by decide +kernel
theorem d_Md_init_46 : decode b_Md_init 46 = .ok (.bipush 12, 2) := by decide +kernel
theorem d_Md_init_48 : decode b_Md_init 48 = .ok (.newarray .int, 2) := by decide +kernel
theorem d_Md_init_50 : decode b_Md_init 50 = .ok (.putfield 25, 3) := by decide +kernel
theorem d_Md_init_53 : decode b_Md_init 53 = .ok (.aload_n 0, 1) := by decide +kernel
theorem d_Md_init_54 : decode b_Md_init 54 = .ok (.bipush 12, 2) := by decide +kernel
theorem d_Md_init_56 : decode b_Md_init 56 = .ok (.newarray .int, 2) := by decide +kernel
theorem d_Md_init_58 : decode b_Md_init 58 = .ok (.putfield 28, 3) := by decide +kernel
theorem d_Md_init_61 : decode b_Md_init 61 = .ok (.aload_n 0, 1) := by decide +kernel
theorem d_Md_init_62 : decode b_Md_init 62 = .ok (.sipush 576, 3) := by decide +kernel
theorem d_Md_init_65 : decode b_Md_init 65 = .ok (.newarray .int, 2) := by decide +kernel
theorem d_Md_init_67 : decode b_Md_init 67 = .ok (.putfield 31, 3) := by decide +kernel
theorem d_Md_init_70 : decode b_Md_init 70 = .ok (.aload_n 0, 1) := by decide +kernel
theorem d_Md_init_71 : decode b_Md_init 71 = .ok (.bipush 12, 2) := by decide +kernel
theorem d_Md_init_73 : decode b_Md_init 73 = .ok (.newarray .int, 2) := by decide +kernel
theorem d_Md_init_75 : decode b_Md_init 75 = .ok (.putfield 34, 3) := by decide +kernel
theorem d_Md_init_78 : decode b_Md_init 78 = .ok (.aload_n 0, 1) := by decide +kernel
theorem d_Md_init_79 : decode b_Md_init 79 = .ok (.bipush 12, 2) := by decide +kernel
theorem d_Md_init_81 : decode b_Md_init 81 = .ok (.newarray .int, 2) := by decide +kernel
theorem d_Md_init_83 : decode b_Md_init 83 = .ok (.putfield 37, 3) := by decide +kernel
theorem d_Md_init_86 : decode b_Md_init 86 = .ok (.aload_n 0, 1) := by decide +kernel
theorem d_Md_init_87 : decode b_Md_init 87 = .ok (.sipush 576, 3) := by decide +kernel
theorem d_Md_init_90 : decode b_Md_init 90 = .ok (.newarray .int, 2) := by decide +kernel
theorem d_Md_init_92 : decode b_Md_init 92 = .ok (.putfield 40, 3) := by decide +kernel
theorem d_Md_init_95 : decode b_Md_init 95 = .ok (.aload_n 0, 1) := by decide +kernel
theorem d_Md_init_96 : decode b_Md_init 96 = .ok (.bipush 12, 2) := by decide +kernel
theorem d_Md_init_98 : decode b_Md_init 98 = .ok (.newarray .int, 2) := by decide +kernel
theorem d_Md_init_100 : decode b_Md_init 100 = .ok (.putfield 43, 3) := by decide +kernel
theorem d_Md_init_103 : decode b_Md_init 103 = .ok (.aload_n 0, 1) := by decide +kernel
theorem d_Md_init_104 : decode b_Md_init 104 = .ok (.sipush 700, 3) := by decide +kernel
theorem d_Md_init_107 : decode b_Md_init 107 = .ok (.newarray .int, 2) := by decide +kernel
theorem d_Md_init_109 : decode b_Md_init 109 = .ok (.putfield 46, 3) := by decide +kernel
theorem d_Md_init_112 : decode b_Md_init 112 = .ok (.aload_n 0, 1) := by decide +kernel
theorem d_Md_init_113 : decode b_Md_init 113 = .ok (.sipush 700, 3) := by decide +kernel
theorem d_Md_init_116 : decode b_Md_init 116 = .ok (.newarray .boolean, 2) := by decide +kernel
theorem d_Md_init_118 : decode b_Md_init 118 = .ok (.putfield 49, 3) := by decide +kernel
theorem d_Md_init_121 : decode b_Md_init 121 = .ok (.aload_n 0, 1) := by decide +kernel
theorem d_Md_init_122 : decode b_Md_init 122 = .ok (.bipush 16, 2) := by decide +kernel
theorem d_Md_init_124 : decode b_Md_init 124 = .ok (.newarray .int, 2) := by decide +kernel
theorem d_Md_init_126 : decode b_Md_init 126 = .ok (.putfield 53, 3) := by decide +kernel
theorem d_Md_init_129 : decode b_Md_init 129 = .ok (.aload_n 0, 1) := by decide +kernel
theorem d_Md_init_130 : decode b_Md_init 130 = .ok (.iconst (-1), 1) := by decide +kernel
theorem d_Md_init_131 : decode b_Md_init 131 = .ok (.putfield 56, 3) := by decide +kernel
theorem d_Md_init_134 : decode b_Md_init 134 = .ok (.aload_n 0, 1) := by decide +kernel
theorem d_Md_init_135 : decode b_Md_init 135 = .ok (.iconst (-1), 1) := by decide +kernel
theorem d_Md_init_136 : decode b_Md_init 136 = .ok (.putfield 60, 3) := by decide +kernel
theorem d_Md_init_139 : decode b_Md_init 139 = .ok (.aload_n 0, 1) := by decide +kernel
theorem d_Md_init_140 : decode b_Md_init 140 = .ok (.bipush 12, 2) := by decide +kernel
theorem d_Md_init_142 : decode b_Md_init 142 = .ok (.newarray .boolean, 2) := by decide +kernel
theorem d_Md_init_144 : decode b_Md_init 144 = .ok (.putfield 63, 3) := by decide +kernel
theorem d_Md_init_147 : decode b_Md_init 147 = .ok (.aload_n 0, 1) := by decide +kernel
theorem d_Md_init_148 : decode b_Md_init 148 = .ok (.bipush 12, 2) := by decide +kernel
theorem d_Md_init_150 : decode b_Md_init 150 = .ok (.newarray .int, 2) := by decide +kernel
theorem d_Md_init_152 : decode b_Md_init 152 = .ok (.putfield 66, 3) := by decide +kernel
theorem d_Md_init_155 : decode b_Md_init 155 = .ok (.aload_n 0, 1) := by decide +kernel
theorem d_Md_init_156 : decode b_Md_init 156 = .ok (.bipush 12, 2) := by decide +kernel
theorem d_Md_init_158 : decode b_Md_init 158 = .ok (.newarray .int, 2) := by decide +kernel
theorem d_Md_init_160 : decode b_Md_init 160 = .ok (.putfield 69, 3) := by decide +kernel
theorem d_Md_init_163 : decode b_Md_init 163 = .ok (.aload_n 0, 1) := by decide +kernel
theorem d_Md_init_164 : decode b_Md_init 164 = .ok (.bipush 72, 2) := by decide +kernel
theorem d_Md_init_166 : decode b_Md_init 166 = .ok (.newarray .boolean, 2) := by decide +kernel
theorem d_Md_init_168 : decode b_Md_init 168 = .ok (.putfield 72, 3) := by decide +kernel
theorem d_Md_init_171 : decode b_Md_init 171 = .ok (.aload_n 0, 1) := by decide +kernel
theorem d_Md_init_172 : decode b_Md_init 172 = .ok (.sipush 576, 3) := by decide +kernel
theorem d_Md_init_175 : decode b_Md_init 175 = .ok (.newarray .int, 2) := by decide +kernel
theorem d_Md_init_177 : decode b_Md_init 177 = .ok (.putfield 75, 3) := by decide +kernel
theorem d_Md_init_180 : decode b_Md_init 180 = .ok (.aload_n 0, 1) := by decide +kernel
theorem d_Md_init_181 : decode b_Md_init 181 = .ok (.sipush 258, 3) := by decide +kernel
theorem d_Md_init_184 : decode b_Md_init 184 = .ok (.newarray .int, 2) := by decide +kernel
theorem d_Md_init_186 : decode b_Md_init 186 = .ok (.putfield 78, 3) := by decide +kernel
theorem d_Md_init_189 : decode b_Md_init 189 = .ok (.aload_n 0, 1) := by decide +kernel
theorem d_Md_init_190 : decode b_Md_init 190 = .ok (.bipush 6, 2) := by decide +kernel
theorem d_Md_init_192 : decode b_Md_init 192 = .ok (.newarray .int, 2) := by decide +kernel
theorem d_Md_init_194 : decode b_Md_init 194 = .ok (.putfield 81, 3) := by decide +kernel
theorem d_Md_init_197 : decode b_Md_init 197 = .ok (.aload_n 0, 1) := by decide +kernel
theorem d_Md_init_198 : decode b_Md_init 198 = .ok (.getfield 7, 3) := by decide +kernel
theorem d_Md_init_201 : decode b_Md_init 201 = .ok (.iconst 0, 1) := by decide +kernel
theorem d_Md_init_202 : decode b_Md_init 202 = .ok (.iconst 1, 1) := by decide +kernel
theorem d_Md_init_203 : decode b_Md_init 203 = .ok (.iastore, 1) := by decide +kernel
theorem d_Md_init_204 : decode b_Md_init 204 = .ok (.return_, 1) := by decide +kernel
theorem d_Md_after_0 : decode b_Md_after 0 = .ok (.iconst (-1), 1) := by decide +kernel
theorem d_Md_after_1 : decode b_Md_after 1 = .ok (.istore_n 3, 1) := by decide +kernel
theorem d_Md_after_2 : decode b_Md_after 2 = .ok (.iconst 1, 1) := by decide +kernel
theorem d_Md_after_3 : decode b_Md_after 3 = .ok (.istore 4, 2) := by decide +kernel
theorem d_Md_after_5 : decode b_Md_after 5 = .ok (.iload 4, 2) := by decide +kernel
theorem d_Md_after_7 : decode b_Md_after 7 = .ok (.bipush 12, 2) := by decide +kernel
theorem d_Md_after_9 : decode b_Md_after 9 = .ok (.if_icmp .ge 80, 3) := by decide +kernel
theorem d_Md_after_12 : decode b_Md_after 12 = .ok (.aload_n 0, 1) := by decide +kernel
theorem d_Md_after_13 : decode b_Md_after 13 = .ok (.getfield 7, 3) := by decide +kernel
theorem d_Md_after_16 : decode b_Md_after 16 = .ok (.iload 4, 2) := by decide +kernel
theorem d_Md_after_18 : decode b_Md_after 18 = .ok (.iaload, 1) := by decide +kernel
theorem d_Md_after_19 : decode b_Md_after 19 = .ok (.ifCond .eq 29, 3) := by decide +kernel
theorem d_Md_after_22 : decode b_Md_after 22 = .ok (.aload_n 0, 1) := by decide +kernel
theorem d_Md_after_23 : decode b_Md_after 23 = .ok (.getfield 13, 3) := by decide +kernel
theorem d_Md_after_26 : decode b_Md_after 26 = .ok (.iload 4, 2) := by decide +kernel
theorem d_Md_after_28 : decode b_Md_after 28 = .ok (.iaload, 1) := by decide +kernel
theorem d_Md_after_29 : decode b_Md_after 29 = .ok (.iload_n 1, 1) := by decide +kernel
theorem d_Md_after_30 : decode b_Md_after 30 = .ok (.if_icmp .ne 18, 3) := by decide +kernel
theorem d_Md_after_33 : decode b_Md_after 33 = .ok (.aload_n 0, 1) := by decide +kernel
theorem d_Md_after_34 : decode b_Md_after 34 = .ok (.getfield 16, 3) := by decide +kernel
theorem d_Md_after_37 : decode b_Md_after 37 = .ok (.iload 4, 2) := by decide +kernel
theorem d_Md_after_39 : decode b_Md_after 39 = .ok (.iaload, 1) := by decide +kernel
theorem d_Md_after_40 : decode b_Md_after 40 = .ok (.iload_n 2, 1) := by decide +kernel
theorem d_Md_after_41 : decode b_Md_after 41 = .ok (.if_icmp .le 7, 3) := by decide +kernel
theorem d_Md_after_44 : decode b_Md_after 44 = .ok (.iconst 1, 1) := by decide +kernel
theorem d_Md_after_45 : decode b_Md_after 45 = .ok (.goto 4, 3) := by decide +kernel
theorem d_Md_after_48 : decode b_Md_after 48 = .ok (.iconst 0, 1) := by decide +kernel
theorem d_Md_after_49 : decode b_Md_after 49 = .ok (.istore 5, 2) := by decide +kernel
theorem d_Md_after_51 : decode b_Md_after 51 = .ok (.iload 5, 2) := by decide +kernel
theorem d_Md_after_53 : decode b_Md_after 53 = .ok (.ifCond .eq 28, 3) := by decide +kernel
theorem d_Md_after_56 : decode b_Md_after 56 = .ok (.iload_n 3, 1) := by decide +kernel
theorem d_Md_after_57 : decode b_Md_after 57 = .ok (.ifCond .lt 19, 3) := by decide +kernel
theorem d_Md_after_60 : decode b_Md_after 60 = .ok (.aload_n 0, 1) := by decide +kernel
theorem d_Md_after_61 : decode b_Md_after 61 = .ok (.getfield 16, 3) := by decide +kernel
theorem d_Md_after_64 : decode b_Md_after 64 = .ok (.iload 4, 2) := by decide +kernel
theorem d_Md_after_66 : decode b_Md_after 66 = .ok (.iaload, 1) := by decide +kernel
theorem d_Md_after_67 : decode b_Md_after 67 = .ok (.aload_n 0, 1) := by decide +kernel
theorem d_Md_after_68 : decode b_Md_after 68 = .ok (.getfield 16, 3) := by decide +kernel
theorem d_Md_after_71 : decode b_Md_after 71 = .ok (.iload_n 3, 1) := by decide +kernel
theorem d_Md_after_72 : decode b_Md_after 72 = .ok (.iaload, 1) := by decide +kernel
theorem d_Md_after_73 : decode b_Md_after 73 = .ok (.if_icmp .ge 8, 3) := by decide +kernel
theorem d_Md_after_76 : decode b_Md_after 76 = .ok (.iload 4, 2) := by decide +kernel
theorem d_Md_after_78 : decode b_Md_after 78 = .ok (.goto 4, 3) := by decide +kernel
theorem d_Md_after_81 : decode b_Md_after 81 = .ok (.iload_n 3, 1) := by decide +kernel
theorem d_Md_after_82 : decode b_Md_after 82 = .ok (.istore_n 3, 1) := by decide +kernel
theorem d_Md_after_83 : decode b_Md_after 83 = .ok (.iinc 4 1, 3) := by decide +kernel
theorem d_Md_after_86 : decode b_Md_after 86 = .ok (.goto (-81), 3) := by decide +kernel
theorem d_Md_after_89 : decode b_Md_after 89 = .ok (.iload_n 3, 1) := by decide +kernel
theorem d_Md_after_90 : decode b_Md_after 90 = .ok (.ireturn, 1) := by decide +kernel
theorem d_Md_append_0 : decode b_Md_append 0 = .ok (.iload_n 1, 1) := by decide +kernel
theorem d_Md_append_1 : decode b_Md_append 1 = .ok (.iconst 1, 1) := by decide +kernel
theorem d_Md_append_2 : decode b_Md_append 2 = .ok (.bipush 11, 2) := by decide +kernel
theorem d_Md_append_4 : decode b_Md_append 4 = .ok (.invokestatic 84, 3) := by decide +kernel
theorem d_Md_append_7 : decode b_Md_append 7 = .ok (.ifCond .eq 14, 3) := by decide +kernel
theorem d_Md_append_10 : decode b_Md_append 10 = .ok (.iload_n 2, 1) := by decide +kernel
theorem d_Md_append_11 : decode b_Md_append 11 = .ok (.iconst 0, 1) := by decide +kernel
theorem d_Md_append_12 : decode b_Md_append 12 = .ok (.sipush 255, 3) := by decide +kernel
theorem d_Md_append_15 : decode b_Md_append 15 = .ok (.invokestatic 84, 3) := by decide +kernel
theorem d_Md_append_18 : decode b_Md_append 18 = .ok (.ifCond .ne 5, 3) := by decide +kernel
theorem d_Md_append_21 : decode b_Md_append 21 = .ok (.iconst (-1), 1) := by decide +kernel
theorem d_Md_append_22 : decode b_Md_append 22 = .ok (.ireturn, 1) := by decide +kernel
theorem d_Md_append_23 : decode b_Md_append 23 = .ok (.aload_n 0, 1) := by decide +kernel
theorem d_Md_append_24 : decode b_Md_append 24 = .ok (.getfield 7, 3) := by decide +kernel
theorem d_Md_append_27 : decode b_Md_append 27 = .ok (.iload_n 1, 1) := by decide +kernel
theorem d_Md_append_28 : decode b_Md_append 28 = .ok (.iaload, 1) := by decide +kernel
theorem d_Md_append_29 : decode b_Md_append 29 = .ok (.iconst 3, 1) := by decide +kernel
theorem d_Md_append_30 : decode b_Md_append 30 = .ok (.if_icmp .eq 6, 3) := by decide +kernel
theorem d_Md_append_33 : decode b_Md_append 33 = .ok (.bipush (-2), 2) := by decide +kernel
theorem d_Md_append_35 : decode b_Md_append 35 = .ok (.ireturn, 1) := by decide +kernel
theorem d_Md_append_36 : decode b_Md_append 36 = .ok (.aload_n 0, 1) := by decide +kernel
theorem d_Md_append_37 : decode b_Md_append 37 = .ok (.getfield 19, 3) := by decide +kernel
theorem d_Md_append_40 : decode b_Md_append 40 = .ok (.iload_n 1, 1) := by decide +kernel
theorem d_Md_append_41 : decode b_Md_append 41 = .ok (.iaload, 1) := by decide +kernel
theorem d_Md_append_42 : decode b_Md_append 42 = .ok (.bipush 12, 2) := by decide +kernel
theorem d_Md_append_44 : decode b_Md_append 44 = .ok (.if_icmp .ne 6, 3) := by decide +kernel
theorem d_Md_append_47 : decode b_Md_append 47 = .ok (.bipush (-4), 2) := by decide +kernel
theorem d_Md_append_49 : decode b_Md_append 49 = .ok (.ireturn, 1) := by decide +kernel
theorem d_Md_append_50 : decode b_Md_append 50 = .ok (.aload_n 0, 1) := by decide +kernel
theorem d_Md_append_51 : decode b_Md_append 51 = .ok (.getfield 22, 3) := by decide +kernel
theorem d_Md_append_54 : decode b_Md_append 54 = .ok (.bipush 12, 2) := by decide +kernel
theorem d_Md_append_56 : decode b_Md_append 56 = .ok (.iload_n 1, 1) := by decide +kernel
theorem d_Md_append_57 : decode b_Md_append 57 = .ok (.imul, 1) := by decide +kernel
theorem d_Md_append_58 : decode b_Md_append 58 = .ok (.aload_n 0, 1) := by decide +kernel
theorem d_Md_append_59 : decode b_Md_append 59 = .ok (.getfield 19, 3) := by decide +kernel
theorem d_Md_append_62 : decode b_Md_append 62 = .ok (.iload_n 1, 1) := by decide +kernel
theorem d_Md_append_63 : decode b_Md_append 63 = .ok (.iaload, 1) := by decide +kernel
theorem d_Md_append_64 : decode b_Md_append 64 = .ok (.iadd, 1) := by decide +kernel
theorem d_Md_append_65 : decode b_Md_append 65 = .ok (.iload_n 2, 1) := by decide +kernel
theorem d_Md_append_66 : decode b_Md_append 66 = .ok (.iastore, 1) := by decide +kernel
theorem d_Md_append_67 : decode b_Md_append 67 = .ok (.aload_n 0, 1) := by decide +kernel
theorem d_Md_append_68 : decode b_Md_append 68 = .ok (.getfield 19, 3) := by decide +kernel
theorem d_Md_append_71 : decode b_Md_append 71 = .ok (.iload_n 1, 1) := by decide +kernel
theorem d_Md_append_72 : decode b_Md_append 72 = .ok (.dup2, 1) := by decide +kernel
theorem d_Md_append_73 : decode b_Md_append 73 = .ok (.iaload, 1) := by decide +kernel
theorem d_Md_append_74 : decode b_Md_append 74 = .ok (.iconst 1, 1) := by decide +kernel
theorem d_Md_append_75 : decode b_Md_append 75 = .ok (.iadd, 1) := by decide +kernel
theorem d_Md_append_76 : decode b_Md_append 76 = .ok (.iastore, 1) := by decide +kernel
theorem d_Md_append_77 : decode b_Md_append 77 = .ok (.aload_n 0, 1) := by decide +kernel
theorem d_Md_append_78 : decode b_Md_append 78 = .ok (.getfield 19, 3) := by decide +kernel
theorem d_Md_append_81 : decode b_Md_append 81 = .ok (.iload_n 1, 1) := by decide +kernel
theorem d_Md_append_82 : decode b_Md_append 82 = .ok (.iaload, 1) := by decide +kernel
theorem d_Md_append_83 : decode b_Md_append 83 = .ok (.ireturn, 1) := by decide +kernel
theorem d_Md_empty_0 : decode b_Md_empty 0 = .ok (.iload_n 1, 1) := by decide +kernel
theorem d_Md_empty_1 : decode b_Md_empty 1 = .ok (.iconst 1, 1) := by decide +kernel
theorem d_Md_empty_2 : decode b_Md_empty 2 = .ok (.bipush 11, 2) := by decide +kernel
theorem d_Md_empty_4 : decode b_Md_empty 4 = .ok (.invokestatic 84, 3) := by decide +kernel
theorem d_Md_empty_7 : decode b_Md_empty 7 = .ok (.ifCond .ne 5, 3) := by decide +kernel
theorem d_Md_empty_10 : decode b_Md_empty 10 = .ok (.iconst (-1), 1) := by decide +kernel
theorem d_Md_empty_11 : decode b_Md_empty 11 = .ok (.ireturn, 1) := by decide +kernel
theorem d_Md_empty_12 : decode b_Md_empty 12 = .ok (.aload_n 0, 1) := by decide +kernel
theorem d_Md_empty_13 : decode b_Md_empty 13 = .ok (.getfield 7, 3) := by decide +kernel
theorem d_Md_empty_16 : decode b_Md_empty 16 = .ok (.iload_n 1, 1) := by decide +kernel
theorem d_Md_empty_17 : decode b_Md_empty 17 = .ok (.iaload, 1) := by decide +kernel
theorem d_Md_empty_18 : decode b_Md_empty 18 = .ok (.iconst 3, 1) := by decide +kernel
theorem d_Md_empty_19 : decode b_Md_empty 19 = .ok (.if_icmp .eq 6, 3) := by decide +kernel
theorem d_Md_empty_22 : decode b_Md_empty 22 = .ok (.bipush (-2), 2) := by decide +kernel
theorem d_Md_empty_24 : decode b_Md_empty 24 = .ok (.ireturn, 1) := by decide +kernel
theorem d_Md_empty_25 : decode b_Md_empty 25 = .ok (.aload_n 0, 1) := by decide +kernel
theorem d_Md_empty_26 : decode b_Md_empty 26 = .ok (.getfield 19, 3) := by decide +kernel
theorem d_Md_empty_29 : decode b_Md_empty 29 = .ok (.iload_n 1, 1) := by decide +kernel
theorem d_Md_empty_30 : decode b_Md_empty 30 = .ok (.iaload, 1) := by decide +kernel
theorem d_Md_empty_31 : decode b_Md_empty 31 = .ok (.istore_n 2, 1) := by decide +kernel
theorem d_Md_empty_32 : decode b_Md_empty 32 = .ok (.aload_n 0, 1) := by decide +kernel
theorem d_Md_empty_33 : decode b_Md_empty 33 = .ok (.getfield 19, 3) := by decide +kernel
theorem d_Md_empty_36 : decode b_Md_empty 36 = .ok (.iload_n 1, 1) := by decide +kernel
theorem d_Md_empty_37 : decode b_Md_empty 37 = .ok (.iconst 0, 1) := by decide +kernel
theorem d_Md_empty_38 : decode b_Md_empty 38 = .ok (.iastore, 1) := by decide +kernel
theorem d_Md_empty_39 : decode b_Md_empty 39 = .ok (.iload_n 2, 1) := by decide +kernel
theorem d_Md_empty_40 : decode b_Md_empty 40 = .ok (.ireturn, 1) := by decide +kernel
theorem d_Md_emit_0 : decode b_Md_emit 0 = .ok (.aload_n 0, 1) := by decide +kernel
theorem d_Md_emit_1 : decode b_Md_emit 1 = .ok (.getfield 46, 3) := by decide +kernel
theorem d_Md_emit_4 : decode b_Md_emit 4 = .ok (.aload_n 0, 1) := by decide +kernel
theorem d_Md_emit_5 : decode b_Md_emit 5 = .ok (.getfield 130, 3) := by decide +kernel
theorem d_Md_emit_8 : decode b_Md_emit 8 = .ok (.iload_n 1, 1) := by decide +kernel
theorem d_Md_emit_9 : decode b_Md_emit 9 = .ok (.iastore, 1) := by decide +kernel
theorem d_Md_emit_10 : decode b_Md_emit 10 = .ok (.aload_n 0, 1) := by decide +kernel
theorem d_Md_emit_11 : decode b_Md_emit 11 = .ok (.getfield 49, 3) := by decide +kernel
theorem d_Md_emit_14 : decode b_Md_emit 14 = .ok (.aload_n 0, 1) := by decide +kernel
theorem d_Md_emit_15 : decode b_Md_emit 15 = .ok (.getfield 130, 3) := by decide +kernel
theorem d_Md_emit_18 : decode b_Md_emit 18 = .ok (.iconst 0, 1) := by decide +kernel
theorem d_Md_emit_19 : decode b_Md_emit 19 = .ok (.bastore, 1) := by decide +kernel
theorem d_Md_emit_20 : decode b_Md_emit 20 = .ok (.aload_n 0, 1) := by decide +kernel
theorem d_Md_emit_21 : decode b_Md_emit 21 = .ok (.dup, 1) := by decide +kernel
theorem d_Md_emit_22 : decode b_Md_emit 22 = .ok (.getfield 130, 3) := by decide +kernel
theorem d_Md_emit_25 : decode b_Md_emit 25 = .ok (.iconst 1, 1) := by decide +kernel
theorem d_Md_emit_26 : decode b_Md_emit 26 = .ok (.iadd, 1) := by decide +kernel
theorem d_Md_emit_27 : decode b_Md_emit 27 = .ok (.putfield 130, 3) := by decide +kernel
theorem d_Md_emit_30 : decode b_Md_emit 30 = .ok (.aload_n 0, 1) := by decide +kernel
theorem d_Md_emit_31 : decode b_Md_emit 31 = .ok (.aload_n 0, 1) := by decide +kernel
theorem d_Md_emit_32 : decode b_Md_emit 32 = .ok (.getfield 133, 3) := by decide +kernel
theorem d_Md_emit_35 : decode b_Md_emit 35 = .ok (.iload_n 1, 1) := by decide +kernel
theorem d_Md_emit_36 : decode b_Md_emit 36 = .ok (.invokestatic 136, 3) := by decide +kernel
theorem d_Md_emit_39 : decode b_Md_emit 39 = .ok (.putfield 133, 3) := by decide +kernel
theorem d_Md_emit_42 : decode b_Md_emit 42 = .ok (.return_, 1) := by decide +kernel
theorem d_Md_emitPair_0 : decode b_Md_emitPair 0 = .ok (.aload_n 0, 1) := by decide +kernel
theorem d_Md_emitPair_1 : decode b_Md_emitPair 1 = .ok (.iload_n 1, 1) := by decide +kernel
theorem d_Md_emitPair_2 : decode b_Md_emitPair 2 = .ok (.sipush 256, 3) := by decide +kernel
theorem d_Md_emitPair_5 : decode b_Md_emitPair 5 = .ok (.idiv, 1) := by decide +kernel
theorem d_Md_emitPair_6 : decode b_Md_emitPair 6 = .ok (.sipush 256, 3) := by decide +kernel
theorem d_Md_emitPair_9 : decode b_Md_emitPair 9 = .ok (.irem, 1) := by decide +kernel
theorem d_Md_emitPair_10 : decode b_Md_emitPair 10 = .ok (.invokevirtual 139, 3) := by decide +kernel
theorem d_Md_emitPair_13 : decode b_Md_emitPair 13 = .ok (.aload_n 0, 1) := by decide +kernel
theorem d_Md_emitPair_14 : decode b_Md_emitPair 14 = .ok (.iload_n 1, 1) := by decide +kernel
theorem d_Md_emitPair_15 : decode b_Md_emitPair 15 = .ok (.sipush 256, 3) := by decide +kernel
theorem d_Md_emitPair_18 : decode b_Md_emitPair 18 = .ok (.irem, 1) := by decide +kernel
theorem d_Md_emitPair_19 : decode b_Md_emitPair 19 = .ok (.invokevirtual 139, 3) := by decide +kernel
theorem d_Md_emitPair_22 : decode b_Md_emitPair 22 = .ok (.return_, 1) := by decide +kernel
theorem d_Md_emitCheck_0 : decode b_Md_emitCheck 0 = .ok (.aload_n 0, 1) := by decide +kernel
theorem d_Md_emitCheck_1 : decode b_Md_emitCheck 1 = .ok (.getfield 133, 3) := by decide +kernel
theorem d_Md_emitCheck_4 : decode b_Md_emitCheck 4 = .ok (.istore_n 1, 1) := by decide +kernel
theorem d_Md_emitCheck_5 : decode b_Md_emitCheck 5 = .ok (.aload_n 0, 1) := by decide +kernel
theorem d_Md_emitCheck_6 : decode b_Md_emitCheck 6 = .ok (.iload_n 1, 1) := by decide +kernel
theorem d_Md_emitCheck_7 : decode b_Md_emitCheck 7 = .ok (.bipush 24, 2) := by decide +kernel
theorem d_Md_emitCheck_9 : decode b_Md_emitCheck 9 = .ok (.iushr, 1) := by decide +kernel
theorem d_Md_emitCheck_10 : decode b_Md_emitCheck 10 = .ok (.invokevirtual 139, 3) := by decide +kernel
theorem d_Md_emitCheck_13 : decode b_Md_emitCheck 13 = .ok (.aload_n 0, 1) := by decide +kernel
theorem d_Md_emitCheck_14 : decode b_Md_emitCheck 14 = .ok (.iload_n 1, 1) := by decide +kernel
theorem d_Md_emitCheck_15 : decode b_Md_emitCheck 15 = .ok (.bipush 16, 2) := by decide +kernel
theorem d_Md_emitCheck_17 : decode b_Md_emitCheck 17 = .ok (.iushr, 1) := by decide +kernel
theorem d_Md_emitCheck_18 : decode b_Md_emitCheck 18 = .ok (.sipush 255, 3) := by decide +kernel
theorem d_Md_emitCheck_21 : decode b_Md_emitCheck 21 = .ok (.iand, 1) := by decide +kernel
theorem d_Md_emitCheck_22 : decode b_Md_emitCheck 22 = .ok (.invokevirtual 139, 3) := by decide +kernel
theorem d_Md_emitCheck_25 : decode b_Md_emitCheck 25 = .ok (.aload_n 0, 1) := by decide +kernel
theorem d_Md_emitCheck_26 : decode b_Md_emitCheck 26 = .ok (.iload_n 1, 1) := by decide +kernel
theorem d_Md_emitCheck_27 : decode b_Md_emitCheck 27 = .ok (.bipush 8, 2) := by decide +kernel
theorem d_Md_emitCheck_29 : decode b_Md_emitCheck 29 = .ok (.iushr, 1) := by decide +kernel
theorem d_Md_emitCheck_30 : decode b_Md_emitCheck 30 = .ok (.sipush 255, 3) := by decide +kernel
theorem d_Md_emitCheck_33 : decode b_Md_emitCheck 33 = .ok (.iand, 1) := by decide +kernel
theorem d_Md_emitCheck_34 : decode b_Md_emitCheck 34 = .ok (.invokevirtual 139, 3) := by decide +kernel
theorem d_Md_emitCheck_37 : decode b_Md_emitCheck 37 = .ok (.aload_n 0, 1) := by decide +kernel
theorem d_Md_emitCheck_38 : decode b_Md_emitCheck 38 = .ok (.iload_n 1, 1) := by decide +kernel
theorem d_Md_emitCheck_39 : decode b_Md_emitCheck 39 = .ok (.sipush 255, 3) := by decide +kernel
theorem d_Md_emitCheck_42 : decode b_Md_emitCheck 42 = .ok (.iand, 1) := by decide +kernel
theorem d_Md_emitCheck_43 : decode b_Md_emitCheck 43 = .ok (.invokevirtual 139, 3) := by decide +kernel
theorem d_Md_emitCheck_46 : decode b_Md_emitCheck 46 = .ok (.aload_n 0, 1) := by decide +kernel
theorem d_Md_emitCheck_47 : decode b_Md_emitCheck 47 = .ok (.getfield 49, 3) := by decide +kernel
theorem d_Md_emitCheck_50 : decode b_Md_emitCheck 50 = .ok (.aload_n 0, 1) := by decide +kernel
theorem d_Md_emitCheck_51 : decode b_Md_emitCheck 51 = .ok (.getfield 130, 3) := by decide +kernel
theorem d_Md_emitCheck_54 : decode b_Md_emitCheck 54 = .ok (.iconst 1, 1) := by decide +kernel
theorem d_Md_emitCheck_55 : decode b_Md_emitCheck 55 = .ok (.isub, 1) := by decide +kernel
theorem d_Md_emitCheck_56 : decode b_Md_emitCheck 56 = .ok (.iconst 1, 1) := by decide +kernel
theorem d_Md_emitCheck_57 : decode b_Md_emitCheck 57 = .ok (.bastore, 1) := by decide +kernel
theorem d_Md_emitCheck_58 : decode b_Md_emitCheck 58 = .ok (.aload_n 0, 1) := by decide +kernel
theorem d_Md_emitCheck_59 : decode b_Md_emitCheck 59 = .ok (.iconst (-1), 1) := by decide +kernel
theorem d_Md_emitCheck_60 : decode b_Md_emitCheck 60 = .ok (.putfield 133, 3) := by decide +kernel
theorem d_Md_emitCheck_63 : decode b_Md_emitCheck 63 = .ok (.return_, 1) := by decide +kernel
theorem d_Md_build_0 : decode b_Md_build 0 = .ok (.aload_n 0, 1) := by decide +kernel
theorem d_Md_build_1 : decode b_Md_build 1 = .ok (.invokevirtual 149, 3) := by decide +kernel
theorem d_Md_build_4 : decode b_Md_build 4 = .ok (.istore_n 1, 1) := by decide +kernel
theorem d_Md_build_5 : decode b_Md_build 5 = .ok (.iload_n 1, 1) := by decide +kernel
theorem d_Md_build_6 : decode b_Md_build 6 = .ok (.bipush 12, 2) := by decide +kernel
theorem d_Md_build_8 : decode b_Md_build 8 = .ok (.if_icmp .gt 20, 3) := by decide +kernel
theorem d_Md_build_11 : decode b_Md_build 11 = .ok (.aload_n 0, 1) := by decide +kernel
theorem d_Md_build_12 : decode b_Md_build 12 = .ok (.getfield 126, 3) := by decide +kernel
theorem d_Md_build_15 : decode b_Md_build 15 = .ok (.iload_n 1, 1) := by decide +kernel
theorem d_Md_build_16 : decode b_Md_build 16 = .ok (.iadd, 1) := by decide +kernel
theorem d_Md_build_17 : decode b_Md_build 17 = .ok (.aload_n 0, 1) := by decide +kernel
theorem d_Md_build_18 : decode b_Md_build 18 = .ok (.getfield 130, 3) := by decide +kernel
theorem d_Md_build_21 : decode b_Md_build 21 = .ok (.if_icmp .ge 7, 3) := by decide +kernel
theorem d_Md_build_24 : decode b_Md_build 24 = .ok (.iconst 1, 1) := by decide +kernel
theorem d_Md_build_25 : decode b_Md_build 25 = .ok (.goto 4, 3) := by decide +kernel
theorem d_Md_build_28 : decode b_Md_build 28 = .ok (.iconst 0, 1) := by decide +kernel
theorem d_Md_build_29 : decode b_Md_build 29 = .ok (.istore_n 2, 1) := by decide +kernel
theorem d_Md_build_30 : decode b_Md_build 30 = .ok (.aload_n 0, 1) := by decide +kernel
theorem d_Md_build_31 : decode b_Md_build 31 = .ok (.getfield 130, 3) := by decide +kernel
theorem d_Md_build_34 : decode b_Md_build 34 = .ok (.aload_n 0, 1) := by decide +kernel
theorem d_Md_build_35 : decode b_Md_build 35 = .ok (.getfield 126, 3) := by decide +kernel
theorem d_Md_build_38 : decode b_Md_build 38 = .ok (.isub, 1) := by decide +kernel
theorem d_Md_build_39 : decode b_Md_build 39 = .ok (.istore_n 3, 1) := by decide +kernel
theorem d_Md_build_40 : decode b_Md_build 40 = .ok (.iload_n 2, 1) := by decide +kernel
theorem d_Md_build_41 : decode b_Md_build 41 = .ok (.ifCond .eq 8, 3) := by decide +kernel
theorem d_Md_build_44 : decode b_Md_build 44 = .ok (.bipush 13, 2) := by decide +kernel
theorem d_Md_build_46 : decode b_Md_build 46 = .ok (.goto 5, 3) := by decide +kernel
theorem d_Md_build_49 : decode b_Md_build 49 = .ok (.bipush 14, 2) := by decide +kernel
theorem d_Md_build_51 : decode b_Md_build 51 = .ok (.istore 4, 2) := by decide +kernel
theorem d_Md_build_53 : decode b_Md_build 53 = .ok (.iload_n 2, 1) := by decide +kernel
theorem d_Md_build_54 : decode b_Md_build 54 = .ok (.ifCond .eq 7, 3) := by decide +kernel
theorem d_Md_build_57 : decode b_Md_build 57 = .ok (.iload_n 3, 1) := by decide +kernel
theorem d_Md_build_58 : decode b_Md_build 58 = .ok (.goto 4, 3) := by decide +kernel
theorem d_Md_build_61 : decode b_Md_build 61 = .ok (.iload_n 1, 1) := by decide +kernel
theorem d_Md_build_62 : decode b_Md_build 62 = .ok (.istore 5, 2) := by decide +kernel
theorem d_Md_build_64 : decode b_Md_build 64 = .ok (.iload 5, 2) := by decide +kernel
theorem d_Md_build_66 : decode b_Md_build 66 = .ok (.iload 4, 2) := by decide +kernel
theorem d_Md_build_68 : decode b_Md_build 68 = .ok (.if_icmp .ge 8, 3) := by decide +kernel
theorem d_Md_build_71 : decode b_Md_build 71 = .ok (.iload 5, 2) := by decide +kernel
theorem d_Md_build_73 : decode b_Md_build 73 = .ok (.goto 5, 3) := by decide +kernel
theorem d_Md_build_76 : decode b_Md_build 76 = .ok (.iload 4, 2) := by decide +kernel
theorem d_Md_build_78 : decode b_Md_build 78 = .ok (.istore 6, 2) := by decide +kernel
theorem d_Md_build_80 : decode b_Md_build 80 = .ok (.iconst 0, 1) := by decide +kernel
theorem d_Md_build_81 : decode b_Md_build 81 = .ok (.istore 7, 2) := by decide +kernel
theorem d_Md_build_83 : decode b_Md_build 83 = .ok (.iload 7, 2) := by decide +kernel
theorem d_Md_build_85 : decode b_Md_build 85 = .ok (.bipush 16, 2) := by decide +kernel
theorem d_Md_build_87 : decode b_Md_build 87 = .ok (.if_icmp .ge 19, 3) := by decide +kernel
theorem d_Md_build_90 : decode b_Md_build 90 = .ok (.aload_n 0, 1) := by decide +kernel
theorem d_Md_build_91 : decode b_Md_build 91 = .ok (.getfield 53, 3) := by decide +kernel
theorem d_Md_build_94 : decode b_Md_build 94 = .ok (.iload 7, 2) := by decide +kernel
theorem d_Md_build_96 : decode b_Md_build 96 = .ok (.sipush 255, 3) := by decide +kernel
theorem d_Md_build_99 : decode b_Md_build 99 = .ok (.iastore, 1) := by decide +kernel
theorem d_Md_build_100 : decode b_Md_build 100 = .ok (.iinc 7 1, 3) := by decide +kernel
theorem d_Md_build_103 : decode b_Md_build 103 = .ok (.goto (-20), 3) := by decide +kernel
theorem d_Md_build_106 : decode b_Md_build 106 = .ok (.aload_n 0, 1) := by decide +kernel
theorem d_Md_build_107 : decode b_Md_build 107 = .ok (.getfield 53, 3) := by decide +kernel
theorem d_Md_build_110 : decode b_Md_build 110 = .ok (.iconst 0, 1) := by decide +kernel
theorem d_Md_build_111 : decode b_Md_build 111 = .ok (.bipush 71, 2) := by decide +kernel
theorem d_Md_build_113 : decode b_Md_build 113 = .ok (.iastore, 1) := by decide +kernel
theorem d_Md_build_114 : decode b_Md_build 114 = .ok (.aload_n 0, 1) := by decide +kernel
theorem d_Md_build_115 : decode b_Md_build 115 = .ok (.getfield 53, 3) := by decide +kernel
theorem d_Md_build_118 : decode b_Md_build 118 = .ok (.iconst 1, 1) := by decide +kernel
theorem d_Md_build_119 : decode b_Md_build 119 = .ok (.aload_n 0, 1) := by decide +kernel
theorem d_Md_build_120 : decode b_Md_build 120 = .ok (.getfield 153, 3) := by decide +kernel
theorem d_Md_build_123 : decode b_Md_build 123 = .ok (.iload_n 2, 1) := by decide +kernel
theorem d_Md_build_124 : decode b_Md_build 124 = .ok (.ifCond .eq 8, 3) := by decide +kernel
theorem d_Md_build_127 : decode b_Md_build 127 = .ok (.bipush 64, 2) := by decide +kernel
theorem d_Md_build_129 : decode b_Md_build 129 = .ok (.goto 4, 3) := by decide +kernel
theorem d_Md_build_132 : decode b_Md_build 132 = .ok (.iconst 0, 1) := by decide +kernel
theorem d_Md_build_133 : decode b_Md_build 133 = .ok (.iadd, 1) := by decide +kernel
theorem d_Md_build_134 : decode b_Md_build 134 = .ok (.iastore, 1) := by decide +kernel
theorem d_Md_build_135 : decode b_Md_build 135 = .ok (.aload_n 0, 1) := by decide +kernel
theorem d_Md_build_136 : decode b_Md_build 136 = .ok (.getfield 53, 3) := by decide +kernel
theorem d_Md_build_139 : decode b_Md_build 139 = .ok (.iconst 2, 1) := by decide +kernel
theorem d_Md_build_140 : decode b_Md_build 140 = .ok (.iload_n 2, 1) := by decide +kernel
theorem d_Md_build_141 : decode b_Md_build 141 = .ok (.ifCond .eq 7, 3) := by decide +kernel
theorem d_Md_build_144 : decode b_Md_build 144 = .ok (.iload_n 1, 1) := by decide +kernel
theorem d_Md_build_145 : decode b_Md_build 145 = .ok (.goto 6, 3) := by decide +kernel
theorem d_Md_build_148 : decode b_Md_build 148 = .ok (.sipush 255, 3) := by decide +kernel
theorem d_Md_build_151 : decode b_Md_build 151 = .ok (.iastore, 1) := by decide +kernel
theorem d_Md_build_152 : decode b_Md_build 152 = .ok (.iload_n 2, 1) := by decide +kernel
theorem d_Md_build_153 : decode b_Md_build 153 = .ok (.ifCond .eq 7, 3) := by decide +kernel
theorem d_Md_build_156 : decode b_Md_build 156 = .ok (.iconst 3, 1) := by decide +kernel
theorem d_Md_build_157 : decode b_Md_build 157 = .ok (.goto 4, 3) := by decide +kernel
theorem d_Md_build_160 : decode b_Md_build 160 = .ok (.iconst 2, 1) := by decide +kernel
theorem d_Md_build_161 : decode b_Md_build 161 = .ok (.istore 7, 2) := by decide +kernel
theorem d_Md_build_163 : decode b_Md_build 163 = .ok (.iconst 0, 1) := by decide +kernel
theorem d_Md_build_164 : decode b_Md_build 164 = .ok (.istore 8, 2) := by decide +kernel
theorem d_Md_build_166 : decode b_Md_build 166 = .ok (.iload 8, 2) := by decide +kernel
theorem d_Md_build_168 : decode b_Md_build 168 = .ok (.iload 6, 2) := by decide +kernel
theorem d_Md_build_170 : decode b_Md_build 170 = .ok (.if_icmp .ge 31, 3) := by decide +kernel
theorem d_Md_build_173 : decode b_Md_build 173 = .ok (.aload_n 0, 1) := by decide +kernel
theorem d_Md_build_174 : decode b_Md_build 174 = .ok (.getfield 53, 3) := by decide +kernel
theorem d_Md_build_177 : decode b_Md_build 177 = .ok (.iload 7, 2) := by decide +kernel
theorem d_Md_build_179 : decode b_Md_build 179 = .ok (.iload 8, 2) := by decide +kernel
theorem d_Md_build_181 : decode b_Md_build 181 = .ok (.iadd, 1) := by decide +kernel
theorem d_Md_build_182 : decode b_Md_build 182 = .ok (.aload_n 0, 1) := by decide +kernel
theorem d_Md_build_183 : decode b_Md_build 183 = .ok (.getfield 46, 3) := by decide +kernel
theorem d_Md_build_186 : decode b_Md_build 186 = .ok (.aload_n 0, 1) := by decide +kernel
theorem d_Md_build_187 : decode b_Md_build 187 = .ok (.getfield 126, 3) := by decide +kernel
theorem d_Md_build_190 : decode b_Md_build 190 = .ok (.iload 8, 2) := by decide +kernel
theorem d_Md_build_192 : decode b_Md_build 192 = .ok (.iadd, 1) := by decide +kernel
theorem d_Md_build_193 : decode b_Md_build 193 = .ok (.iaload, 1) := by decide +kernel
theorem d_Md_build_194 : decode b_Md_build 194 = .ok (.iastore, 1) := by decide +kernel
theorem d_Md_build_195 : decode b_Md_build 195 = .ok (.iinc 8 1, 3) := by decide +kernel
theorem d_Md_build_198 : decode b_Md_build 198 = .ok (.goto (-32), 3) := by decide +kernel
theorem d_Md_build_201 : decode b_Md_build 201 = .ok (.iload 6, 2) := by decide +kernel
theorem d_Md_build_203 : decode b_Md_build 203 = .ok (.ireturn, 1) := by decide +kernel
theorem d_Md_checks_0 : decode b_Md_checks 0 = .ok (.iconst (-1), 1) := by decide +kernel
theorem d_Md_checks_1 : decode b_Md_checks 1 = .ok (.istore_n 1, 1) := by decide +kernel
theorem d_Md_checks_2 : decode b_Md_checks 2 = .ok (.iconst 0, 1) := by decide +kernel
theorem d_Md_checks_3 : decode b_Md_checks 3 = .ok (.istore_n 2, 1) := by decide +kernel
theorem d_Md_checks_4 : decode b_Md_checks 4 = .ok (.iload_n 2, 1) := by decide +kernel
theorem d_Md_checks_5 : decode b_Md_checks 5 = .ok (.aload_n 0, 1) := by decide +kernel
theorem d_Md_checks_6 : decode b_Md_checks 6 = .ok (.getfield 182, 3) := by decide +kernel
theorem d_Md_checks_9 : decode b_Md_checks 9 = .ok (.iconst 4, 1) := by decide +kernel
theorem d_Md_checks_10 : decode b_Md_checks 10 = .ok (.isub, 1) := by decide +kernel
theorem d_Md_checks_11 : decode b_Md_checks 11 = .ok (.if_icmp .ge 20, 3) := by decide +kernel
theorem d_Md_checks_14 : decode b_Md_checks 14 = .ok (.iload_n 1, 1) := by decide +kernel
theorem d_Md_checks_15 : decode b_Md_checks 15 = .ok (.aload_n 0, 1) := by decide +kernel
theorem d_Md_checks_16 : decode b_Md_checks 16 = .ok (.getfield 78, 3) := by decide +kernel
theorem d_Md_checks_19 : decode b_Md_checks 19 = .ok (.iload_n 2, 1) := by decide +kernel
theorem d_Md_checks_20 : decode b_Md_checks 20 = .ok (.iaload, 1) := by decide +kernel
theorem d_Md_checks_21 : decode b_Md_checks 21 = .ok (.invokestatic 136, 3) := by decide +kernel
theorem d_Md_checks_24 : decode b_Md_checks 24 = .ok (.istore_n 1, 1) := by decide +kernel
theorem d_Md_checks_25 : decode b_Md_checks 25 = .ok (.iinc 2 1, 3) := by decide +kernel
theorem d_Md_checks_28 : decode b_Md_checks 28 = .ok (.goto (-24), 3) := by decide +kernel
theorem d_Md_checks_31 : decode b_Md_checks 31 = .ok (.iconst 0, 1) := by decide +kernel
theorem d_Md_checks_32 : decode b_Md_checks 32 = .ok (.istore_n 2, 1) := by decide +kernel
theorem d_Md_checks_33 : decode b_Md_checks 33 = .ok (.aload_n 0, 1) := by decide +kernel
theorem d_Md_checks_34 : decode b_Md_checks 34 = .ok (.getfield 182, 3) := by decide +kernel
theorem d_Md_checks_37 : decode b_Md_checks 37 = .ok (.iconst 4, 1) := by decide +kernel
theorem d_Md_checks_38 : decode b_Md_checks 38 = .ok (.isub, 1) := by decide +kernel
theorem d_Md_checks_39 : decode b_Md_checks 39 = .ok (.istore_n 3, 1) := by decide +kernel
theorem d_Md_checks_40 : decode b_Md_checks 40 = .ok (.iload_n 3, 1) := by decide +kernel
theorem d_Md_checks_41 : decode b_Md_checks 41 = .ok (.aload_n 0, 1) := by decide +kernel
theorem d_Md_checks_42 : decode b_Md_checks 42 = .ok (.getfield 182, 3) := by decide +kernel
theorem d_Md_checks_45 : decode b_Md_checks 45 = .ok (.if_icmp .ge 21, 3) := by decide +kernel
theorem d_Md_checks_48 : decode b_Md_checks 48 = .ok (.iload_n 2, 1) := by decide +kernel
theorem d_Md_checks_49 : decode b_Md_checks 49 = .ok (.bipush 8, 2) := by decide +kernel
theorem d_Md_checks_51 : decode b_Md_checks 51 = .ok (.ishl, 1) := by decide +kernel
theorem d_Md_checks_52 : decode b_Md_checks 52 = .ok (.aload_n 0, 1) := by decide +kernel
theorem d_Md_checks_53 : decode b_Md_checks 53 = .ok (.getfield 78, 3) := by decide +kernel
theorem d_Md_checks_56 : decode b_Md_checks 56 = .ok (.iload_n 3, 1) := by decide +kernel
theorem d_Md_checks_57 : decode b_Md_checks 57 = .ok (.iaload, 1) := by decide +kernel
theorem d_Md_checks_58 : decode b_Md_checks 58 = .ok (.ior, 1) := by decide +kernel
theorem d_Md_checks_59 : decode b_Md_checks 59 = .ok (.istore_n 2, 1) := by decide +kernel
theorem d_Md_checks_60 : decode b_Md_checks 60 = .ok (.iinc 3 1, 3) := by decide +kernel
theorem d_Md_checks_63 : decode b_Md_checks 63 = .ok (.goto (-23), 3) := by decide +kernel
theorem d_Md_checks_66 : decode b_Md_checks 66 = .ok (.iload_n 1, 1) := by decide +kernel
theorem d_Md_checks_67 : decode b_Md_checks 67 = .ok (.iload_n 2, 1) := by decide +kernel
theorem d_Md_checks_68 : decode b_Md_checks 68 = .ok (.if_icmp .ne 7, 3) := by decide +kernel
theorem d_Md_checks_71 : decode b_Md_checks 71 = .ok (.iconst 1, 1) := by decide +kernel
theorem d_Md_checks_72 : decode b_Md_checks 72 = .ok (.goto 4, 3) := by decide +kernel
theorem d_Md_checks_75 : decode b_Md_checks 75 = .ok (.iconst 0, 1) := by decide +kernel
theorem d_Md_checks_76 : decode b_Md_checks 76 = .ok (.ireturn, 1) := by decide +kernel
theorem d_Md_isList_0 : decode b_Md_isList 0 = .ok (.aload_n 0, 1) := by decide +kernel
theorem d_Md_isList_1 : decode b_Md_isList 1 = .ok (.getfield 78, 3) := by decide +kernel
theorem d_Md_isList_4 : decode b_Md_isList 4 = .ok (.iconst 0, 1) := by decide +kernel
theorem d_Md_isList_5 : decode b_Md_isList 5 = .ok (.iaload, 1) := by decide +kernel
theorem d_Md_isList_6 : decode b_Md_isList 6 = .ok (.bipush 59, 2) := by decide +kernel
theorem d_Md_isList_8 : decode b_Md_isList 8 = .ok (.if_icmp .ne 45, 3) := by decide +kernel
theorem d_Md_isList_11 : decode b_Md_isList 11 = .ok (.aload_n 0, 1) := by decide +kernel
theorem d_Md_isList_12 : decode b_Md_isList 12 = .ok (.getfield 182, 3) := by decide +kernel
theorem d_Md_isList_15 : decode b_Md_isList 15 = .ok (.bipush 9, 2) := by decide +kernel
theorem d_Md_isList_17 : decode b_Md_isList 17 = .ok (.if_icmp .lt 36, 3) := by decide +kernel
theorem d_Md_isList_20 : decode b_Md_isList 20 = .ok (.aload_n 0, 1) := by decide +kernel
theorem d_Md_isList_21 : decode b_Md_isList 21 = .ok (.getfield 182, 3) := by decide +kernel
theorem d_Md_isList_24 : decode b_Md_isList 24 = .ok (.bipush 9, 2) := by decide +kernel
theorem d_Md_isList_26 : decode b_Md_isList 26 = .ok (.iconst 3, 1) := by decide +kernel
theorem d_Md_isList_27 : decode b_Md_isList 27 = .ok (.aload_n 0, 1) := by decide +kernel
theorem d_Md_isList_28 : decode b_Md_isList 28 = .ok (.getfield 78, 3) := by decide +kernel
theorem d_Md_isList_31 : decode b_Md_isList 31 = .ok (.iconst 4, 1) := by decide +kernel
theorem d_Md_isList_32 : decode b_Md_isList 32 = .ok (.iaload, 1) := by decide +kernel
theorem d_Md_isList_33 : decode b_Md_isList 33 = .ok (.imul, 1) := by decide +kernel
theorem d_Md_isList_34 : decode b_Md_isList 34 = .ok (.iadd, 1) := by decide +kernel
theorem d_Md_isList_35 : decode b_Md_isList 35 = .ok (.if_icmp .ne 18, 3) := by decide +kernel
theorem d_Md_isList_38 : decode b_Md_isList 38 = .ok (.aload_n 0, 1) := by decide +kernel
theorem d_Md_isList_39 : decode b_Md_isList 39 = .ok (.getfield 78, 3) := by decide +kernel
theorem d_Md_isList_42 : decode b_Md_isList 42 = .ok (.iconst 4, 1) := by decide +kernel
theorem d_Md_isList_43 : decode b_Md_isList 43 = .ok (.iaload, 1) := by decide +kernel
theorem d_Md_isList_44 : decode b_Md_isList 44 = .ok (.iconst 1, 1) := by decide +kernel
theorem d_Md_isList_45 : decode b_Md_isList 45 = .ok (.bipush 12, 2) := by decide +kernel
theorem d_Md_isList_47 : decode b_Md_isList 47 = .ok (.invokestatic 84, 3) := by decide +kernel
theorem d_Md_isList_50 : decode b_Md_isList 50 = .ok (.ifCond .ne 5, 3) := by decide +kernel
theorem d_Md_isList_53 : decode b_Md_isList 53 = .ok (.iconst 0, 1) := by decide +kernel
theorem d_Md_isList_54 : decode b_Md_isList 54 = .ok (.ireturn, 1) := by decide +kernel
theorem d_Md_isList_55 : decode b_Md_isList 55 = .ok (.iconst 1, 1) := by decide +kernel
theorem d_Md_isList_56 : decode b_Md_isList 56 = .ok (.istore_n 1, 1) := by decide +kernel
theorem d_Md_isList_57 : decode b_Md_isList 57 = .ok (.iconst 0, 1) := by decide +kernel
theorem d_Md_isList_58 : decode b_Md_isList 58 = .ok (.istore_n 2, 1) := by decide +kernel
theorem d_Md_isList_59 : decode b_Md_isList 59 = .ok (.iload_n 2, 1) := by decide +kernel
theorem d_Md_isList_60 : decode b_Md_isList 60 = .ok (.aload_n 0, 1) := by decide +kernel
theorem d_Md_isList_61 : decode b_Md_isList 61 = .ok (.getfield 78, 3) := by decide +kernel
theorem d_Md_isList_64 : decode b_Md_isList 64 = .ok (.iconst 4, 1) := by decide +kernel
theorem d_Md_isList_65 : decode b_Md_isList 65 = .ok (.iaload, 1) := by decide +kernel
theorem d_Md_isList_66 : decode b_Md_isList 66 = .ok (.if_icmp .ge 38, 3) := by decide +kernel
theorem d_Md_isList_69 : decode b_Md_isList 69 = .ok (.iload_n 1, 1) := by decide +kernel
theorem d_Md_isList_70 : decode b_Md_isList 70 = .ok (.ifCond .eq 26, 3) := by decide +kernel
theorem d_Md_isList_73 : decode b_Md_isList 73 = .ok (.aload_n 0, 1) := by decide +kernel
theorem d_Md_isList_74 : decode b_Md_isList 74 = .ok (.getfield 78, 3) := by decide +kernel
theorem d_Md_isList_77 : decode b_Md_isList 77 = .ok (.iconst 5, 1) := by decide +kernel
theorem d_Md_isList_78 : decode b_Md_isList 78 = .ok (.iconst 3, 1) := by decide +kernel
theorem d_Md_isList_79 : decode b_Md_isList 79 = .ok (.iload_n 2, 1) := by decide +kernel
theorem d_Md_isList_80 : decode b_Md_isList 80 = .ok (.imul, 1) := by decide +kernel
theorem d_Md_isList_81 : decode b_Md_isList 81 = .ok (.iadd, 1) := by decide +kernel
theorem d_Md_isList_82 : decode b_Md_isList 82 = .ok (.iaload, 1) := by decide +kernel
theorem d_Md_isList_83 : decode b_Md_isList 83 = .ok (.iconst 1, 1) := by decide +kernel
theorem d_Md_isList_84 : decode b_Md_isList 84 = .ok (.bipush 48, 2) := by decide +kernel
theorem d_Md_isList_86 : decode b_Md_isList 86 = .ok (.invokestatic 84, 3) := by decide +kernel
theorem d_Md_isList_89 : decode b_Md_isList 89 = .ok (.ifCond .eq 7, 3) := by decide +kernel
theorem d_Md_isList_92 : decode b_Md_isList 92 = .ok (.iconst 1, 1) := by decide +kernel
theorem d_Md_isList_93 : decode b_Md_isList 93 = .ok (.goto 4, 3) := by decide +kernel
theorem d_Md_isList_96 : decode b_Md_isList 96 = .ok (.iconst 0, 1) := by decide +kernel
theorem d_Md_isList_97 : decode b_Md_isList 97 = .ok (.istore_n 1, 1) := by decide +kernel
theorem d_Md_isList_98 : decode b_Md_isList 98 = .ok (.iinc 2 1, 3) := by decide +kernel
theorem d_Md_isList_101 : decode b_Md_isList 101 = .ok (.goto (-42), 3) := by decide +kernel
theorem d_Md_isList_104 : decode b_Md_isList 104 = .ok (.iload_n 1, 1) := by decide +kernel
theorem d_Md_isList_105 : decode b_Md_isList 105 = .ok (.ireturn, 1) := by decide +kernel
theorem d_Md_fits_0 : decode b_Md_fits 0 = .ok (.aload_n 0, 1) := by decide +kernel
theorem d_Md_fits_1 : decode b_Md_fits 1 = .ok (.getfield 78, 3) := by decide +kernel
theorem d_Md_fits_4 : decode b_Md_fits 4 = .ok (.iconst 2, 1) := by decide +kernel
theorem d_Md_fits_5 : decode b_Md_fits 5 = .ok (.iaload, 1) := by decide +kernel
theorem d_Md_fits_6 : decode b_Md_fits 6 = .ok (.istore_n 1, 1) := by decide +kernel
theorem d_Md_fits_7 : decode b_Md_fits 7 = .ok (.iload_n 1, 1) := by decide +kernel
theorem d_Md_fits_8 : decode b_Md_fits 8 = .ok (.bipush 11, 2) := by decide +kernel
theorem d_Md_fits_10 : decode b_Md_fits 10 = .ok (.if_icmp .gt 26, 3) := by decide +kernel
theorem d_Md_fits_13 : decode b_Md_fits 13 = .ok (.aload_n 0, 1) := by decide +kernel
theorem d_Md_fits_14 : decode b_Md_fits 14 = .ok (.getfield 63, 3) := by decide +kernel
theorem d_Md_fits_17 : decode b_Md_fits 17 = .ok (.iload_n 1, 1) := by decide +kernel
theorem d_Md_fits_18 : decode b_Md_fits 18 = .ok (.baload, 1) := by decide +kernel
theorem d_Md_fits_19 : decode b_Md_fits 19 = .ok (.ifCond .eq 17, 3) := by decide +kernel
theorem d_Md_fits_22 : decode b_Md_fits 22 = .ok (.aload_n 0, 1) := by decide +kernel
theorem d_Md_fits_23 : decode b_Md_fits 23 = .ok (.getfield 66, 3) := by decide +kernel
theorem d_Md_fits_26 : decode b_Md_fits 26 = .ok (.iload_n 1, 1) := by decide +kernel
theorem d_Md_fits_27 : decode b_Md_fits 27 = .ok (.iaload, 1) := by decide +kernel
theorem d_Md_fits_28 : decode b_Md_fits 28 = .ok (.aload_n 0, 1) := by decide +kernel
theorem d_Md_fits_29 : decode b_Md_fits 29 = .ok (.iconst 3, 1) := by decide +kernel
theorem d_Md_fits_30 : decode b_Md_fits 30 = .ok (.invokevirtual 207, 3) := by decide +kernel
theorem d_Md_fits_33 : decode b_Md_fits 33 = .ok (.if_icmp .eq 5, 3) := by decide +kernel
theorem d_Md_fits_36 : decode b_Md_fits 36 = .ok (.iconst 0, 1) := by decide +kernel
theorem d_Md_fits_37 : decode b_Md_fits 37 = .ok (.ireturn, 1) := by decide +kernel
theorem d_Md_fits_38 : decode b_Md_fits 38 = .ok (.aload_n 0, 1) := by decide +kernel
theorem d_Md_fits_39 : decode b_Md_fits 39 = .ok (.getfield 69, 3) := by decide +kernel
theorem d_Md_fits_42 : decode b_Md_fits 42 = .ok (.iload_n 1, 1) := by decide +kernel
theorem d_Md_fits_43 : decode b_Md_fits 43 = .ok (.iaload, 1) := by decide +kernel
theorem d_Md_fits_44 : decode b_Md_fits 44 = .ok (.bipush 8, 2) := by decide +kernel
theorem d_Md_fits_46 : decode b_Md_fits 46 = .ok (.aload_n 0, 1) := by decide +kernel
theorem d_Md_fits_47 : decode b_Md_fits 47 = .ok (.getfield 78, 3) := by decide +kernel
theorem d_Md_fits_50 : decode b_Md_fits 50 = .ok (.iconst 5, 1) := by decide +kernel
theorem d_Md_fits_51 : decode b_Md_fits 51 = .ok (.iaload, 1) := by decide +kernel
theorem d_Md_fits_52 : decode b_Md_fits 52 = .ok (.imul, 1) := by decide +kernel
theorem d_Md_fits_53 : decode b_Md_fits 53 = .ok (.isub, 1) := by decide +kernel
theorem d_Md_fits_54 : decode b_Md_fits 54 = .ok (.istore_n 2, 1) := by decide +kernel
theorem d_Md_fits_55 : decode b_Md_fits 55 = .ok (.iload_n 2, 1) := by decide +kernel
theorem d_Md_fits_56 : decode b_Md_fits 56 = .ok (.ifCond .le 29, 3) := by decide +kernel
theorem d_Md_fits_59 : decode b_Md_fits 59 = .ok (.aload_n 0, 1) := by decide +kernel
theorem d_Md_fits_60 : decode b_Md_fits 60 = .ok (.getfield 182, 3) := by decide +kernel
theorem d_Md_fits_63 : decode b_Md_fits 63 = .ok (.bipush 10, 2) := by decide +kernel
theorem d_Md_fits_65 : decode b_Md_fits 65 = .ok (.isub, 1) := by decide +kernel
theorem d_Md_fits_66 : decode b_Md_fits 66 = .ok (.iload_n 2, 1) := by decide +kernel
theorem d_Md_fits_67 : decode b_Md_fits 67 = .ok (.bipush 8, 2) := by decide +kernel
theorem d_Md_fits_69 : decode b_Md_fits 69 = .ok (.if_icmp .ge 7, 3) := by decide +kernel
theorem d_Md_fits_72 : decode b_Md_fits 72 = .ok (.iload_n 2, 1) := by decide +kernel
theorem d_Md_fits_73 : decode b_Md_fits 73 = .ok (.goto 5, 3) := by decide +kernel
theorem d_Md_fits_76 : decode b_Md_fits 76 = .ok (.bipush 8, 2) := by decide +kernel
theorem d_Md_fits_78 : decode b_Md_fits 78 = .ok (.if_icmp .ne 7, 3) := by decide +kernel
theorem d_Md_fits_81 : decode b_Md_fits 81 = .ok (.iconst 1, 1) := by decide +kernel
theorem d_Md_fits_82 : decode b_Md_fits 82 = .ok (.goto 4, 3) := by decide +kernel
theorem d_Md_fits_85 : decode b_Md_fits 85 = .ok (.iconst 0, 1) := by decide +kernel
theorem d_Md_fits_86 : decode b_Md_fits 86 = .ok (.ireturn, 1) := by decide +kernel
theorem d_Md_block_0 : decode b_Md_block 0 = .ok (.aload_n 0, 1) := by decide +kernel
theorem d_Md_block_1 : decode b_Md_block 1 = .ok (.getfield 81, 3) := by decide +kernel
theorem d_Md_block_4 : decode b_Md_block 4 = .ok (.iconst 1, 1) := by decide +kernel
theorem d_Md_block_5 : decode b_Md_block 5 = .ok (.dup2, 1) := by decide +kernel
theorem d_Md_block_6 : decode b_Md_block 6 = .ok (.iaload, 1) := by decide +kernel
theorem d_Md_block_7 : decode b_Md_block 7 = .ok (.iconst 1, 1) := by decide +kernel
theorem d_Md_block_8 : decode b_Md_block 8 = .ok (.iadd, 1) := by decide +kernel
theorem d_Md_block_9 : decode b_Md_block 9 = .ok (.iastore, 1) := by decide +kernel
theorem d_Md_block_10 : decode b_Md_block 10 = .ok (.aload_n 0, 1) := by decide +kernel
theorem d_Md_block_11 : decode b_Md_block 11 = .ok (.getfield 78, 3) := by decide +kernel
theorem d_Md_block_14 : decode b_Md_block 14 = .ok (.iconst 2, 1) := by decide +kernel
theorem d_Md_block_15 : decode b_Md_block 15 = .ok (.iaload, 1) := by decide +kernel
theorem d_Md_block_16 : decode b_Md_block 16 = .ok (.istore_n 1, 1) := by decide +kernel
theorem d_Md_block_17 : decode b_Md_block 17 = .ok (.aload_n 0, 1) := by decide +kernel
theorem d_Md_block_18 : decode b_Md_block 18 = .ok (.getfield 72, 3) := by decide +kernel
theorem d_Md_block_21 : decode b_Md_block 21 = .ok (.bipush 6, 2) := by decide +kernel
theorem d_Md_block_23 : decode b_Md_block 23 = .ok (.iload_n 1, 1) := by decide +kernel
theorem d_Md_block_24 : decode b_Md_block 24 = .ok (.imul, 1) := by decide +kernel
theorem d_Md_block_25 : decode b_Md_block 25 = .ok (.aload_n 0, 1) := by decide +kernel
theorem d_Md_block_26 : decode b_Md_block 26 = .ok (.getfield 78, 3) := by decide +kernel
theorem d_Md_block_29 : decode b_Md_block 29 = .ok (.iconst 5, 1) := by decide +kernel
theorem d_Md_block_30 : decode b_Md_block 30 = .ok (.iaload, 1) := by decide +kernel
theorem d_Md_block_31 : decode b_Md_block 31 = .ok (.iadd, 1) := by decide +kernel
theorem d_Md_block_32 : decode b_Md_block 32 = .ok (.iconst 1, 1) := by decide +kernel
theorem d_Md_block_33 : decode b_Md_block 33 = .ok (.bastore, 1) := by decide +kernel
theorem d_Md_block_34 : decode b_Md_block 34 = .ok (.iconst 0, 1) := by decide +kernel
theorem d_Md_block_35 : decode b_Md_block 35 = .ok (.istore_n 2, 1) := by decide +kernel
theorem d_Md_block_36 : decode b_Md_block 36 = .ok (.iload_n 2, 1) := by decide +kernel
theorem d_Md_block_37 : decode b_Md_block 37 = .ok (.aload_n 0, 1) := by decide +kernel
theorem d_Md_block_38 : decode b_Md_block 38 = .ok (.getfield 182, 3) := by decide +kernel
theorem d_Md_block_41 : decode b_Md_block 41 = .ok (.bipush 10, 2) := by decide +kernel
theorem d_Md_block_43 : decode b_Md_block 43 = .ok (.isub, 1) := by decide +kernel
theorem d_Md_block_44 : decode b_Md_block 44 = .ok (.if_icmp .ge 39, 3) := by decide +kernel
theorem d_Md_block_47 : decode b_Md_block 47 = .ok (.aload_n 0, 1) := by decide +kernel
theorem d_Md_block_48 : decode b_Md_block 48 = .ok (.getfield 75, 3) := by decide +kernel
theorem d_Md_block_51 : decode b_Md_block 51 = .ok (.bipush 48, 2) := by decide +kernel
theorem d_Md_block_53 : decode b_Md_block 53 = .ok (.iload_n 1, 1) := by decide +kernel
theorem d_Md_block_54 : decode b_Md_block 54 = .ok (.imul, 1) := by decide +kernel
theorem d_Md_block_55 : decode b_Md_block 55 = .ok (.bipush 8, 2) := by decide +kernel
theorem d_Md_block_57 : decode b_Md_block 57 = .ok (.aload_n 0, 1) := by decide +kernel
theorem d_Md_block_58 : decode b_Md_block 58 = .ok (.getfield 78, 3) := by decide +kernel
theorem d_Md_block_61 : decode b_Md_block 61 = .ok (.iconst 5, 1) := by decide +kernel
theorem d_Md_block_62 : decode b_Md_block 62 = .ok (.iaload, 1) := by decide +kernel
theorem d_Md_block_63 : decode b_Md_block 63 = .ok (.imul, 1) := by decide +kernel
theorem d_Md_block_64 : decode b_Md_block 64 = .ok (.iadd, 1) := by decide +kernel
theorem d_Md_block_65 : decode b_Md_block 65 = .ok (.iload_n 2, 1) := by decide +kernel
theorem d_Md_block_66 : decode b_Md_block 66 = .ok (.iadd, 1) := by decide +kernel
theorem d_Md_block_67 : decode b_Md_block 67 = .ok (.aload_n 0, 1) := by decide +kernel
theorem d_Md_block_68 : decode b_Md_block 68 = .ok (.getfield 78, 3) := by decide +kernel
theorem d_Md_block_71 : decode b_Md_block 71 = .ok (.bipush 6, 2) := by decide +kernel
theorem d_Md_block_73 : decode b_Md_block 73 = .ok (.iload_n 2, 1) := by decide +kernel
theorem d_Md_block_74 : decode b_Md_block 74 = .ok (.iadd, 1) := by decide +kernel
theorem d_Md_block_75 : decode b_Md_block 75 = .ok (.iaload, 1) := by decide +kernel
theorem d_Md_block_76 : decode b_Md_block 76 = .ok (.iastore, 1) := by decide +kernel
theorem d_Md_block_77 : decode b_Md_block 77 = .ok (.iinc 2 1, 3) := by decide +kernel
theorem d_Md_block_80 : decode b_Md_block 80 = .ok (.goto (-44), 3) := by decide +kernel
theorem d_Md_block_83 : decode b_Md_block 83 = .ok (.return_, 1) := by decide +kernel
theorem d_Md_count_0 : decode b_Md_count 0 = .ok (.iload_n 1, 1) := by decide +kernel
theorem d_Md_count_1 : decode b_Md_count 1 = .ok (.iconst 0, 1) := by decide +kernel
theorem d_Md_count_2 : decode b_Md_count 2 = .ok (.iconst 5, 1) := by decide +kernel
theorem d_Md_count_3 : decode b_Md_count 3 = .ok (.invokestatic 84, 3) := by decide +kernel
theorem d_Md_count_6 : decode b_Md_count 6 = .ok (.ifCond .eq 12, 3) := by decide +kernel
theorem d_Md_count_9 : decode b_Md_count 9 = .ok (.aload_n 0, 1) := by decide +kernel
theorem d_Md_count_10 : decode b_Md_count 10 = .ok (.getfield 81, 3) := by decide +kernel
theorem d_Md_count_13 : decode b_Md_count 13 = .ok (.iload_n 1, 1) := by decide +kernel
theorem d_Md_count_14 : decode b_Md_count 14 = .ok (.iaload, 1) := by decide +kernel
theorem d_Md_count_15 : decode b_Md_count 15 = .ok (.goto 4, 3) := by decide +kernel
theorem d_Md_count_18 : decode b_Md_count 18 = .ok (.iconst (-1), 1) := by decide +kernel
theorem d_Md_count_19 : decode b_Md_count 19 = .ok (.ireturn, 1) := by decide +kernel
theorem d_Md_heldOf_0 : decode b_Md_heldOf 0 = .ok (.iconst 0, 1) := by decide +kernel
theorem d_Md_heldOf_1 : decode b_Md_heldOf 1 = .ok (.istore_n 2, 1) := by decide +kernel
theorem d_Md_heldOf_2 : decode b_Md_heldOf 2 = .ok (.bipush 6, 2) := by decide +kernel
theorem d_Md_heldOf_4 : decode b_Md_heldOf 4 = .ok (.iload_n 1, 1) := by decide +kernel
theorem d_Md_heldOf_5 : decode b_Md_heldOf 5 = .ok (.imul, 1) := by decide +kernel
theorem d_Md_heldOf_6 : decode b_Md_heldOf 6 = .ok (.istore_n 3, 1) := by decide +kernel
theorem d_Md_heldOf_7 : decode b_Md_heldOf 7 = .ok (.iload_n 3, 1) := by decide +kernel
theorem d_Md_heldOf_8 : decode b_Md_heldOf 8 = .ok (.bipush 6, 2) := by decide +kernel
theorem d_Md_heldOf_10 : decode b_Md_heldOf 10 = .ok (.iload_n 1, 1) := by decide +kernel
theorem d_Md_heldOf_11 : decode b_Md_heldOf 11 = .ok (.imul, 1) := by decide +kernel
theorem d_Md_heldOf_12 : decode b_Md_heldOf 12 = .ok (.bipush 6, 2) := by decide +kernel
theorem d_Md_heldOf_14 : decode b_Md_heldOf 14 = .ok (.iadd, 1) := by decide +kernel
theorem d_Md_heldOf_15 : decode b_Md_heldOf 15 = .ok (.if_icmp .ge 26, 3) := by decide +kernel
theorem d_Md_heldOf_18 : decode b_Md_heldOf 18 = .ok (.aload_n 0, 1) := by decide +kernel
theorem d_Md_heldOf_19 : decode b_Md_heldOf 19 = .ok (.getfield 72, 3) := by decide +kernel
theorem d_Md_heldOf_22 : decode b_Md_heldOf 22 = .ok (.iload_n 3, 1) := by decide +kernel
theorem d_Md_heldOf_23 : decode b_Md_heldOf 23 = .ok (.baload, 1) := by decide +kernel
theorem d_Md_heldOf_24 : decode b_Md_heldOf 24 = .ok (.ifCond .eq 9, 3) := by decide +kernel
theorem d_Md_heldOf_27 : decode b_Md_heldOf 27 = .ok (.iload_n 2, 1) := by decide +kernel
theorem d_Md_heldOf_28 : decode b_Md_heldOf 28 = .ok (.iconst 1, 1) := by decide +kernel
theorem d_Md_heldOf_29 : decode b_Md_heldOf 29 = .ok (.iadd, 1) := by decide +kernel
theorem d_Md_heldOf_30 : decode b_Md_heldOf 30 = .ok (.goto 4, 3) := by decide +kernel
theorem d_Md_heldOf_33 : decode b_Md_heldOf 33 = .ok (.iload_n 2, 1) := by decide +kernel
theorem d_Md_heldOf_34 : decode b_Md_heldOf 34 = .ok (.istore_n 2, 1) := by decide +kernel
theorem d_Md_heldOf_35 : decode b_Md_heldOf 35 = .ok (.iinc 3 1, 3) := by decide +kernel
theorem d_Md_heldOf_38 : decode b_Md_heldOf 38 = .ok (.goto (-31), 3) := by decide +kernel
theorem d_Md_heldOf_41 : decode b_Md_heldOf 41 = .ok (.iload_n 2, 1) := by decide +kernel
theorem d_Md_heldOf_42 : decode b_Md_heldOf 42 = .ok (.ireturn, 1) := by decide +kernel
theorem d_Md_held_0 : decode b_Md_held 0 = .ok (.iload_n 1, 1) := by decide +kernel
theorem d_Md_held_1 : decode b_Md_held 1 = .ok (.iconst 0, 1) := by decide +kernel
theorem d_Md_held_2 : decode b_Md_held 2 = .ok (.bipush 11, 2) := by decide +kernel
theorem d_Md_held_4 : decode b_Md_held 4 = .ok (.invokestatic 84, 3) := by decide +kernel
theorem d_Md_held_7 : decode b_Md_held 7 = .ok (.ifCond .eq 20, 3) := by decide +kernel
theorem d_Md_held_10 : decode b_Md_held 10 = .ok (.aload_n 0, 1) := by decide +kernel
theorem d_Md_held_11 : decode b_Md_held 11 = .ok (.getfield 63, 3) := by decide +kernel
theorem d_Md_held_14 : decode b_Md_held 14 = .ok (.iload_n 1, 1) := by decide +kernel
theorem d_Md_held_15 : decode b_Md_held 15 = .ok (.baload, 1) := by decide +kernel
theorem d_Md_held_16 : decode b_Md_held 16 = .ok (.ifCond .eq 11, 3) := by decide +kernel
theorem d_Md_held_19 : decode b_Md_held 19 = .ok (.aload_n 0, 1) := by decide +kernel
theorem d_Md_held_20 : decode b_Md_held 20 = .ok (.iload_n 1, 1) := by decide +kernel
theorem d_Md_held_21 : decode b_Md_held 21 = .ok (.invokevirtual 210, 3) := by decide +kernel
theorem d_Md_held_24 : decode b_Md_held 24 = .ok (.goto 5, 3) := by decide +kernel
theorem d_Md_held_27 : decode b_Md_held 27 = .ok (.bipush (-2), 2) := by decide +kernel
theorem d_Md_held_29 : decode b_Md_held 29 = .ok (.ireturn, 1) := by decide +kernel
theorem d_Md_first_0 : decode b_Md_first 0 = .ok (.iconst 0, 1) := by decide +kernel
theorem d_Md_first_1 : decode b_Md_first 1 = .ok (.istore_n 3, 1) := by decide +kernel
theorem d_Md_first_2 : decode b_Md_first 2 = .ok (.aload_n 0, 1) := by decide +kernel
theorem d_Md_first_3 : decode b_Md_first 3 = .ok (.iload_n 1, 1) := by decide +kernel
theorem d_Md_first_4 : decode b_Md_first 4 = .ok (.iload_n 3, 1) := by decide +kernel
theorem d_Md_first_5 : decode b_Md_first 5 = .ok (.invokevirtual 213, 3) := by decide +kernel
theorem d_Md_first_8 : decode b_Md_first 8 = .ok (.ifCond .eq 52, 3) := by decide +kernel
theorem d_Md_first_11 : decode b_Md_first 11 = .ok (.iload_n 2, 1) := by decide +kernel
theorem d_Md_first_12 : decode b_Md_first 12 = .ok (.ifCond .lt 20, 3) := by decide +kernel
theorem d_Md_first_15 : decode b_Md_first 15 = .ok (.aload_n 0, 1) := by decide +kernel
theorem d_Md_first_16 : decode b_Md_first 16 = .ok (.getfield 75, 3) := by decide +kernel
theorem d_Md_first_19 : decode b_Md_first 19 = .ok (.bipush 48, 2) := by decide +kernel
theorem d_Md_first_21 : decode b_Md_first 21 = .ok (.iload_n 1, 1) := by decide +kernel
theorem d_Md_first_22 : decode b_Md_first 22 = .ok (.imul, 1) := by decide +kernel
theorem d_Md_first_23 : decode b_Md_first 23 = .ok (.iload_n 3, 1) := by decide +kernel
theorem d_Md_first_24 : decode b_Md_first 24 = .ok (.iadd, 1) := by decide +kernel
theorem d_Md_first_25 : decode b_Md_first 25 = .ok (.iconst 1, 1) := by decide +kernel
theorem d_Md_first_26 : decode b_Md_first 26 = .ok (.iadd, 1) := by decide +kernel
theorem d_Md_first_27 : decode b_Md_first 27 = .ok (.iaload, 1) := by decide +kernel
theorem d_Md_first_28 : decode b_Md_first 28 = .ok (.iload_n 2, 1) := by decide +kernel
theorem d_Md_first_29 : decode b_Md_first 29 = .ok (.if_icmp .ne 10, 3) := by decide +kernel
theorem d_Md_first_32 : decode b_Md_first 32 = .ok (.bipush 48, 2) := by decide +kernel
theorem d_Md_first_34 : decode b_Md_first 34 = .ok (.iload_n 1, 1) := by decide +kernel
theorem d_Md_first_35 : decode b_Md_first 35 = .ok (.imul, 1) := by decide +kernel
theorem d_Md_first_36 : decode b_Md_first 36 = .ok (.iload_n 3, 1) := by decide +kernel
theorem d_Md_first_37 : decode b_Md_first 37 = .ok (.iadd, 1) := by decide +kernel
theorem d_Md_first_38 : decode b_Md_first 38 = .ok (.ireturn, 1) := by decide +kernel
theorem d_Md_first_39 : decode b_Md_first 39 = .ok (.iload_n 3, 1) := by decide +kernel
theorem d_Md_first_40 : decode b_Md_first 40 = .ok (.iconst 3, 1) := by decide +kernel
theorem d_Md_first_41 : decode b_Md_first 41 = .ok (.iadd, 1) := by decide +kernel
theorem d_Md_first_42 : decode b_Md_first 42 = .ok (.aload_n 0, 1) := by decide +kernel
theorem d_Md_first_43 : decode b_Md_first 43 = .ok (.getfield 75, 3) := by decide +kernel
theorem d_Md_first_46 : decode b_Md_first 46 = .ok (.bipush 48, 2) := by decide +kernel
theorem d_Md_first_48 : decode b_Md_first 48 = .ok (.iload_n 1, 1) := by decide +kernel
theorem d_Md_first_49 : decode b_Md_first 49 = .ok (.imul, 1) := by decide +kernel
theorem d_Md_first_50 : decode b_Md_first 50 = .ok (.iload_n 3, 1) := by decide +kernel
theorem d_Md_first_51 : decode b_Md_first 51 = .ok (.iadd, 1) := by decide +kernel
theorem d_Md_first_52 : decode b_Md_first 52 = .ok (.iconst 2, 1) := by decide +kernel
theorem d_Md_first_53 : decode b_Md_first 53 = .ok (.iadd, 1) := by decide +kernel
theorem d_Md_first_54 : decode b_Md_first 54 = .ok (.iaload, 1) := by decide +kernel
theorem d_Md_first_55 : decode b_Md_first 55 = .ok (.iadd, 1) := by decide +kernel
theorem d_Md_first_56 : decode b_Md_first 56 = .ok (.istore_n 3, 1) := by decide +kernel
theorem d_Md_first_57 : decode b_Md_first 57 = .ok (.goto (-55), 3) := by decide +kernel
theorem d_Md_first_60 : decode b_Md_first 60 = .ok (.bipush (-2), 2) := by decide +kernel
theorem d_Md_first_62 : decode b_Md_first 62 = .ok (.ireturn, 1) := by decide +kernel
theorem d_Md_gateway_0 : decode b_Md_gateway 0 = .ok (.aload_n 0, 1) := by decide +kernel
theorem d_Md_gateway_1 : decode b_Md_gateway 1 = .ok (.iconst 0, 1) := by decide +kernel
theorem d_Md_gateway_2 : decode b_Md_gateway 2 = .ok (.invokevirtual 217, 3) := by decide +kernel
theorem d_Md_gateway_5 : decode b_Md_gateway 5 = .ok (.istore_n 1, 1) := by decide +kernel
theorem d_Md_gateway_6 : decode b_Md_gateway 6 = .ok (.iload_n 1, 1) := by decide +kernel
theorem d_Md_gateway_7 : decode b_Md_gateway 7 = .ok (.ifCond .eq 5, 3) := by decide +kernel
theorem d_Md_gateway_10 : decode b_Md_gateway 10 = .ok (.iload_n 1, 1) := by decide +kernel
theorem d_Md_gateway_11 : decode b_Md_gateway 11 = .ok (.ireturn, 1) := by decide +kernel
theorem d_Md_gateway_12 : decode b_Md_gateway 12 = .ok (.aload_n 0, 1) := by decide +kernel
theorem d_Md_gateway_13 : decode b_Md_gateway 13 = .ok (.iconst 0, 1) := by decide +kernel
theorem d_Md_gateway_14 : decode b_Md_gateway 14 = .ok (.iconst (-1), 1) := by decide +kernel
theorem d_Md_gateway_15 : decode b_Md_gateway 15 = .ok (.invokevirtual 220, 3) := by decide +kernel
theorem d_Md_gateway_18 : decode b_Md_gateway 18 = .ok (.istore_n 2, 1) := by decide +kernel
theorem d_Md_gateway_19 : decode b_Md_gateway 19 = .ok (.iload_n 2, 1) := by decide +kernel
theorem d_Md_gateway_20 : decode b_Md_gateway 20 = .ok (.ifCond .lt 17, 3) := by decide +kernel
theorem d_Md_gateway_23 : decode b_Md_gateway 23 = .ok (.aload_n 0, 1) := by decide +kernel
theorem d_Md_gateway_24 : decode b_Md_gateway 24 = .ok (.getfield 75, 3) := by decide +kernel
theorem d_Md_gateway_27 : decode b_Md_gateway 27 = .ok (.iload_n 2, 1) := by decide +kernel
theorem d_Md_gateway_28 : decode b_Md_gateway 28 = .ok (.iaload, 1) := by decide +kernel
theorem d_Md_gateway_29 : decode b_Md_gateway 29 = .ok (.iconst 1, 1) := by decide +kernel
theorem d_Md_gateway_30 : decode b_Md_gateway 30 = .ok (.if_icmp .ne 7, 3) := by decide +kernel
theorem d_Md_gateway_33 : decode b_Md_gateway 33 = .ok (.iload_n 2, 1) := by decide +kernel
theorem d_Md_gateway_34 : decode b_Md_gateway 34 = .ok (.goto 5, 3) := by decide +kernel
theorem d_Md_gateway_37 : decode b_Md_gateway 37 = .ok (.bipush (-2), 2) := by decide +kernel
theorem d_Md_gateway_39 : decode b_Md_gateway 39 = .ok (.ireturn, 1) := by decide +kernel
theorem d_Md_enter_0 : decode b_Md_enter 0 = .ok (.aload_n 0, 1) := by decide +kernel
theorem d_Md_enter_1 : decode b_Md_enter 1 = .ok (.getfield 75, 3) := by decide +kernel
theorem d_Md_enter_4 : decode b_Md_enter 4 = .ok (.iload_n 1, 1) := by decide +kernel
theorem d_Md_enter_5 : decode b_Md_enter 5 = .ok (.iaload, 1) := by decide +kernel
theorem d_Md_enter_6 : decode b_Md_enter 6 = .ok (.iconst 1, 1) := by decide +kernel
theorem d_Md_enter_7 : decode b_Md_enter 7 = .ok (.if_icmp .eq 16, 3) := by decide +kernel
theorem d_Md_enter_10 : decode b_Md_enter 10 = .ok (.aload_n 0, 1) := by decide +kernel
theorem d_Md_enter_11 : decode b_Md_enter 11 = .ok (.getfield 75, 3) := by decide +kernel
theorem d_Md_enter_14 : decode b_Md_enter 14 = .ok (.iload_n 1, 1) := by decide +kernel
theorem d_Md_enter_15 : decode b_Md_enter 15 = .ok (.iaload, 1) := by decide +kernel
theorem d_Md_enter_16 : decode b_Md_enter 16 = .ok (.iconst 2, 1) := by decide +kernel
theorem d_Md_enter_17 : decode b_Md_enter 17 = .ok (.if_icmp .eq 6, 3) := by decide +kernel
theorem d_Md_enter_20 : decode b_Md_enter 20 = .ok (.bipush (-2), 2) := by decide +kernel
theorem d_Md_enter_22 : decode b_Md_enter 22 = .ok (.ireturn, 1) := by decide +kernel
theorem d_Md_enter_23 : decode b_Md_enter 23 = .ok (.aload_n 0, 1) := by decide +kernel
theorem d_Md_enter_24 : decode b_Md_enter 24 = .ok (.getfield 75, 3) := by decide +kernel
theorem d_Md_enter_27 : decode b_Md_enter 27 = .ok (.iload_n 1, 1) := by decide +kernel
theorem d_Md_enter_28 : decode b_Md_enter 28 = .ok (.iconst 2, 1) := by decide +kernel
theorem d_Md_enter_29 : decode b_Md_enter 29 = .ok (.iadd, 1) := by decide +kernel
theorem d_Md_enter_30 : decode b_Md_enter 30 = .ok (.iaload, 1) := by decide +kernel
theorem d_Md_enter_31 : decode b_Md_enter 31 = .ok (.iconst 4, 1) := by decide +kernel
theorem d_Md_enter_32 : decode b_Md_enter 32 = .ok (.idiv, 1) := by decide +kernel
theorem d_Md_enter_33 : decode b_Md_enter 33 = .ok (.istore_n 3, 1) := by decide +kernel
theorem d_Md_enter_34 : decode b_Md_enter 34 = .ok (.iconst 0, 1) := by decide +kernel
theorem d_Md_enter_35 : decode b_Md_enter 35 = .ok (.istore 4, 2) := by decide +kernel
theorem d_Md_enter_37 : decode b_Md_enter 37 = .ok (.iload 4, 2) := by decide +kernel
theorem d_Md_enter_39 : decode b_Md_enter 39 = .ok (.iload_n 3, 1) := by decide +kernel
theorem d_Md_enter_40 : decode b_Md_enter 40 = .ok (.if_icmp .ge 78, 3) := by decide +kernel
theorem d_Md_enter_43 : decode b_Md_enter 43 = .ok (.iload_n 1, 1) := by decide +kernel
theorem d_Md_enter_44 : decode b_Md_enter 44 = .ok (.iconst 3, 1) := by decide +kernel
theorem d_Md_enter_45 : decode b_Md_enter 45 = .ok (.iadd, 1) := by decide +kernel
theorem d_Md_enter_46 : decode b_Md_enter 46 = .ok (.iconst 4, 1) := by decide +kernel
theorem d_Md_enter_47 : decode b_Md_enter 47 = .ok (.iload 4, 2) := by decide +kernel
theorem d_Md_enter_49 : decode b_Md_enter 49 = .ok (.imul, 1) := by decide +kernel
theorem d_Md_enter_50 : decode b_Md_enter 50 = .ok (.iadd, 1) := by decide +kernel
theorem d_Md_enter_51 : decode b_Md_enter 51 = .ok (.istore 5, 2) := by decide +kernel
theorem d_Md_enter_53 : decode b_Md_enter 53 = .ok (.aload_n 0, 1) := by decide +kernel
theorem d_Md_enter_54 : decode b_Md_enter 54 = .ok (.getfield 75, 3) := by decide +kernel
theorem d_Md_enter_57 : decode b_Md_enter 57 = .ok (.iload 5, 2) := by decide +kernel
theorem d_Md_enter_59 : decode b_Md_enter 59 = .ok (.iaload, 1) := by decide +kernel
theorem d_Md_enter_60 : decode b_Md_enter 60 = .ok (.iload_n 2, 1) := by decide +kernel
theorem d_Md_enter_61 : decode b_Md_enter 61 = .ok (.if_icmp .ne 51, 3) := by decide +kernel
theorem d_Md_enter_64 : decode b_Md_enter 64 = .ok (.aload_n 0, 1) := by decide +kernel
theorem d_Md_enter_65 : decode b_Md_enter 65 = .ok (.aload_n 0, 1) := by decide +kernel
theorem d_Md_enter_66 : decode b_Md_enter 66 = .ok (.getfield 75, 3) := by decide +kernel
theorem d_Md_enter_69 : decode b_Md_enter 69 = .ok (.iload 5, 2) := by decide +kernel
theorem d_Md_enter_71 : decode b_Md_enter 71 = .ok (.iconst 2, 1) := by decide +kernel
theorem d_Md_enter_72 : decode b_Md_enter 72 = .ok (.iadd, 1) := by decide +kernel
theorem d_Md_enter_73 : decode b_Md_enter 73 = .ok (.iaload, 1) := by decide +kernel
theorem d_Md_enter_74 : decode b_Md_enter 74 = .ok (.invokevirtual 217, 3) := by decide +kernel
theorem d_Md_enter_77 : decode b_Md_enter 77 = .ok (.istore 6, 2) := by decide +kernel
theorem d_Md_enter_79 : decode b_Md_enter 79 = .ok (.iload 6, 2) := by decide +kernel
theorem d_Md_enter_81 : decode b_Md_enter 81 = .ok (.ifCond .eq 8, 3) := by decide +kernel
theorem d_Md_enter_84 : decode b_Md_enter 84 = .ok (.iload 6, 2) := by decide +kernel
theorem d_Md_enter_86 : decode b_Md_enter 86 = .ok (.goto 25, 3) := by decide +kernel
theorem d_Md_enter_89 : decode b_Md_enter 89 = .ok (.aload_n 0, 1) := by decide +kernel
theorem d_Md_enter_90 : decode b_Md_enter 90 = .ok (.aload_n 0, 1) := by decide +kernel
theorem d_Md_enter_91 : decode b_Md_enter 91 = .ok (.getfield 75, 3) := by decide +kernel
theorem d_Md_enter_94 : decode b_Md_enter 94 = .ok (.iload 5, 2) := by decide +kernel
theorem d_Md_enter_96 : decode b_Md_enter 96 = .ok (.iconst 2, 1) := by decide +kernel
theorem d_Md_enter_97 : decode b_Md_enter 97 = .ok (.iadd, 1) := by decide +kernel
theorem d_Md_enter_98 : decode b_Md_enter 98 = .ok (.iaload, 1) := by decide +kernel
theorem d_Md_enter_99 : decode b_Md_enter 99 = .ok (.aload_n 0, 1) := by decide +kernel
theorem d_Md_enter_100 : decode b_Md_enter 100 = .ok (.getfield 75, 3) := by decide +kernel
theorem d_Md_enter_103 : decode b_Md_enter 103 = .ok (.iload 5, 2) := by decide +kernel
theorem d_Md_enter_105 : decode b_Md_enter 105 = .ok (.iconst 3, 1) := by decide +kernel
theorem d_Md_enter_106 : decode b_Md_enter 106 = .ok (.iadd, 1) := by decide +kernel
theorem d_Md_enter_107 : decode b_Md_enter 107 = .ok (.iaload, 1) := by decide +kernel
theorem d_Md_enter_108 : decode b_Md_enter 108 = .ok (.invokevirtual 220, 3) := by decide +kernel
theorem d_Md_enter_111 : decode b_Md_enter 111 = .ok (.ireturn, 1) := by decide +kernel
theorem d_Md_enter_112 : decode b_Md_enter 112 = .ok (.iinc 4 1, 3) := by decide +kernel
theorem d_Md_enter_115 : decode b_Md_enter 115 = .ok (.goto (-78), 3) := by decide +kernel
theorem d_Md_enter_118 : decode b_Md_enter 118 = .ok (.bipush (-2), 2) := by decide +kernel
theorem d_Md_enter_120 : decode b_Md_enter 120 = .ok (.ireturn, 1) := by decide +kernel
theorem d_Md_follow_0 : decode b_Md_follow 0 = .ok (.iload_n 1, 1) := by decide +kernel
theorem d_Md_follow_1 : decode b_Md_follow 1 = .ok (.iconst 0, 1) := by decide +kernel
theorem d_Md_follow_2 : decode b_Md_follow 2 = .ok (.sipush 255, 3) := by decide +kernel
theorem d_Md_follow_5 : decode b_Md_follow 5 = .ok (.invokestatic 84, 3) := by decide +kernel
theorem d_Md_follow_8 : decode b_Md_follow 8 = .ok (.ifCond .eq 25, 3) := by decide +kernel
theorem d_Md_follow_11 : decode b_Md_follow 11 = .ok (.iload_n 2, 1) := by decide +kernel
theorem d_Md_follow_12 : decode b_Md_follow 12 = .ok (.iconst 0, 1) := by decide +kernel
theorem d_Md_follow_13 : decode b_Md_follow 13 = .ok (.sipush 255, 3) := by decide +kernel
theorem d_Md_follow_16 : decode b_Md_follow 16 = .ok (.invokestatic 84, 3) := by decide +kernel
theorem d_Md_follow_19 : decode b_Md_follow 19 = .ok (.ifCond .eq 14, 3) := by decide +kernel
theorem d_Md_follow_22 : decode b_Md_follow 22 = .ok (.iload_n 3, 1) := by decide +kernel
theorem d_Md_follow_23 : decode b_Md_follow 23 = .ok (.iconst 0, 1) := by decide +kernel
theorem d_Md_follow_24 : decode b_Md_follow 24 = .ok (.sipush 255, 3) := by decide +kernel
theorem d_Md_follow_27 : decode b_Md_follow 27 = .ok (.invokestatic 84, 3) := by decide +kernel
theorem d_Md_follow_30 : decode b_Md_follow 30 = .ok (.ifCond .ne 5, 3) := by decide +kernel
theorem d_Md_follow_33 : decode b_Md_follow 33 = .ok (.iconst (-1), 1) := by decide +kernel
theorem d_Md_follow_34 : decode b_Md_follow 34 = .ok (.ireturn, 1) := by decide +kernel
theorem d_Md_follow_35 : decode b_Md_follow 35 = .ok (.aload_n 0, 1) := by decide +kernel
theorem d_Md_follow_36 : decode b_Md_follow 36 = .ok (.invokevirtual 223, 3) := by decide +kernel
theorem d_Md_follow_39 : decode b_Md_follow 39 = .ok (.istore 4, 2) := by decide +kernel
theorem d_Md_follow_41 : decode b_Md_follow 41 = .ok (.iload 4, 2) := by decide +kernel
theorem d_Md_follow_43 : decode b_Md_follow 43 = .ok (.ifCond .lt 52, 3) := by decide +kernel
theorem d_Md_follow_46 : decode b_Md_follow 46 = .ok (.iload_n 1, 1) := by decide +kernel
theorem d_Md_follow_47 : decode b_Md_follow 47 = .ok (.ifCond .eq 48, 3) := by decide +kernel
theorem d_Md_follow_50 : decode b_Md_follow 50 = .ok (.aload_n 0, 1) := by decide +kernel
theorem d_Md_follow_51 : decode b_Md_follow 51 = .ok (.iload 4, 2) := by decide +kernel
theorem d_Md_follow_53 : decode b_Md_follow 53 = .ok (.iload_n 1, 1) := by decide +kernel
theorem d_Md_follow_54 : decode b_Md_follow 54 = .ok (.invokevirtual 226, 3) := by decide +kernel
theorem d_Md_follow_57 : decode b_Md_follow 57 = .ok (.istore 4, 2) := by decide +kernel
theorem d_Md_follow_59 : decode b_Md_follow 59 = .ok (.iload 4, 2) := by decide +kernel
theorem d_Md_follow_61 : decode b_Md_follow 61 = .ok (.ifCond .lt 34, 3) := by decide +kernel
theorem d_Md_follow_64 : decode b_Md_follow 64 = .ok (.iload_n 2, 1) := by decide +kernel
theorem d_Md_follow_65 : decode b_Md_follow 65 = .ok (.ifCond .eq 30, 3) := by decide +kernel
theorem d_Md_follow_68 : decode b_Md_follow 68 = .ok (.aload_n 0, 1) := by decide +kernel
theorem d_Md_follow_69 : decode b_Md_follow 69 = .ok (.iload 4, 2) := by decide +kernel
theorem d_Md_follow_71 : decode b_Md_follow 71 = .ok (.iload_n 2, 1) := by decide +kernel
theorem d_Md_follow_72 : decode b_Md_follow 72 = .ok (.invokevirtual 226, 3) := by decide +kernel
theorem d_Md_follow_75 : decode b_Md_follow 75 = .ok (.istore 4, 2) := by decide +kernel
theorem d_Md_follow_77 : decode b_Md_follow 77 = .ok (.iload 4, 2) := by decide +kernel
theorem d_Md_follow_79 : decode b_Md_follow 79 = .ok (.ifCond .lt 16, 3) := by decide +kernel
theorem d_Md_follow_82 : decode b_Md_follow 82 = .ok (.iload_n 3, 1) := by decide +kernel
theorem d_Md_follow_83 : decode b_Md_follow 83 = .ok (.ifCond .eq 12, 3) := by decide +kernel
theorem d_Md_follow_86 : decode b_Md_follow 86 = .ok (.aload_n 0, 1) := by decide +kernel
theorem d_Md_follow_87 : decode b_Md_follow 87 = .ok (.iload 4, 2) := by decide +kernel
theorem d_Md_follow_89 : decode b_Md_follow 89 = .ok (.iload_n 3, 1) := by decide +kernel
theorem d_Md_follow_90 : decode b_Md_follow 90 = .ok (.invokevirtual 226, 3) := by decide +kernel
theorem d_Md_follow_93 : decode b_Md_follow 93 = .ok (.istore 4, 2) := by decide +kernel
theorem d_Md_follow_95 : decode b_Md_follow 95 = .ok (.iload 4, 2) := by decide +kernel
theorem d_Md_follow_97 : decode b_Md_follow 97 = .ok (.ireturn, 1) := by decide +kernel
