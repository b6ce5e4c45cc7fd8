theorem d_Md_within_0 : decode b_Md_within 0 = .ok (.iload_n 0, 1) := by decide +kernel
theorem d_Md_within_1 : decode b_Md_within 1 = .ok (.iload_n 1, 1) := by decide +kernel
theorem d_Md_within_2 : decode b_Md_within 2 = .ok (.if_icmp .lt 12, 3) := by decide +kernel
theorem d_Md_within_5 : decode b_Md_within 5 = .ok (.iload_n 0, 1) := by decide +kernel
theorem d_Md_within_6 : decode b_Md_within 6 = .ok (.iload_n 2, 1) := by decide +kernel
theorem d_Md_within_7 : decode b_Md_within 7 = .ok (.if_icmp .gt 7, 3) := by decide +kernel
theorem d_Md_within_10 : decode b_Md_within 10 = .ok (.iconst 1, 1) := by decide +kernel
theorem d_Md_within_11 : decode b_Md_within 11 = .ok (.goto 4, 3) := by decide +kernel
theorem d_Md_within_14 : decode b_Md_within 14 = .ok (.iconst 0, 1) := by decide +kernel
theorem d_Md_within_15 : decode b_Md_within 15 = .ok (.ireturn, 1) := by decide +kernel
theorem d_Md_make_0 : decode b_Md_make 0 = .ok (.iload_n 1, 1) := by decide +kernel
theorem d_Md_make_1 : decode b_Md_make 1 = .ok (.iconst 0, 1) := by decide +kernel
theorem d_Md_make_2 : decode b_Md_make 2 = .ok (.bipush 11, 2) := by decide +kernel
theorem d_Md_make_4 : decode b_Md_make 4 = .ok (.invokestatic 84, 3) := by decide +kernel
theorem d_Md_make_7 : decode b_Md_make 7 = .ok (.ifCond .eq 14, 3) := by decide +kernel
theorem d_Md_make_10 : decode b_Md_make 10 = .ok (.iload_n 2, 1) := by decide +kernel
theorem d_Md_make_11 : decode b_Md_make 11 = .ok (.iconst 1, 1) := by decide +kernel
theorem d_Md_make_12 : decode b_Md_make 12 = .ok (.sipush 255, 3) := by decide +kernel
theorem d_Md_make_15 : decode b_Md_make 15 = .ok (.invokestatic 84, 3) := by decide +kernel
theorem d_Md_make_18 : decode b_Md_make 18 = .ok (.ifCond .ne 5, 3) := by decide +kernel
theorem d_Md_make_21 : decode b_Md_make 21 = .ok (.iconst (-1), 1) := by decide +kernel
theorem d_Md_make_22 : decode b_Md_make 22 = .ok (.ireturn, 1) := by decide +kernel
theorem d_Md_make_23 : decode b_Md_make 23 = .ok (.aload_n 0, 1) := by decide +kernel
theorem d_Md_make_24 : decode b_Md_make 24 = .ok (.getfield 7, 3) := by decide +kernel
theorem d_Md_make_27 : decode b_Md_make 27 = .ok (.iload_n 1, 1) := by decide +kernel
theorem d_Md_make_28 : decode b_Md_make 28 = .ok (.iaload, 1) := by decide +kernel
theorem d_Md_make_29 : decode b_Md_make 29 = .ok (.iconst 1, 1) := by decide +kernel
theorem d_Md_make_30 : decode b_Md_make 30 = .ok (.if_icmp .eq 16, 3) := by decide +kernel
theorem d_Md_make_33 : decode b_Md_make 33 = .ok (.aload_n 0, 1) := by decide +kernel
theorem d_Md_make_34 : decode b_Md_make 34 = .ok (.getfield 7, 3) := by decide +kernel
theorem d_Md_make_37 : decode b_Md_make 37 = .ok (.iload_n 1, 1) := by decide +kernel
theorem d_Md_make_38 : decode b_Md_make 38 = .ok (.iaload, 1) := by decide +kernel
theorem d_Md_make_39 : decode b_Md_make 39 = .ok (.iconst 2, 1) := by decide +kernel
theorem d_Md_make_40 : decode b_Md_make 40 = .ok (.if_icmp .eq 6, 3) := by decide +kernel
theorem d_Md_make_43 : decode b_Md_make 43 = .ok (.bipush (-2), 2) := by decide +kernel
theorem d_Md_make_45 : decode b_Md_make 45 = .ok (.ireturn, 1) := by decide +kernel
theorem d_Md_make_46 : decode b_Md_make 46 = .ok (.aload_n 0, 1) := by decide +kernel
theorem d_Md_make_47 : decode b_Md_make 47 = .ok (.iload_n 1, 1) := by decide +kernel
theorem d_Md_make_48 : decode b_Md_make 48 = .ok (.iload_n 2, 1) := by decide +kernel
theorem d_Md_make_49 : decode b_Md_make 49 = .ok (.iconst 1, 1) := by decide +kernel
theorem d_Md_make_50 : decode b_Md_make 50 = .ok (.isub, 1) := by decide +kernel
theorem d_Md_make_51 : decode b_Md_make 51 = .ok (.invokevirtual 88, 3) := by decide +kernel
theorem d_Md_make_54 : decode b_Md_make 54 = .ok (.ifCond .lt 23, 3) := by decide +kernel
theorem d_Md_make_57 : decode b_Md_make 57 = .ok (.aload_n 0, 1) := by decide +kernel
theorem d_Md_make_58 : decode b_Md_make 58 = .ok (.getfield 16, 3) := by decide +kernel
theorem d_Md_make_61 : decode b_Md_make 61 = .ok (.aload_n 0, 1) := by decide +kernel
theorem d_Md_make_62 : decode b_Md_make 62 = .ok (.iload_n 1, 1) := by decide +kernel
theorem d_Md_make_63 : decode b_Md_make 63 = .ok (.iload_n 2, 1) := by decide +kernel
theorem d_Md_make_64 : decode b_Md_make 64 = .ok (.iconst 1, 1) := by decide +kernel
theorem d_Md_make_65 : decode b_Md_make 65 = .ok (.isub, 1) := by decide +kernel
theorem d_Md_make_66 : decode b_Md_make 66 = .ok (.invokevirtual 88, 3) := by decide +kernel
theorem d_Md_make_69 : decode b_Md_make 69 = .ok (.iaload, 1) := by decide +kernel
theorem d_Md_make_70 : decode b_Md_make 70 = .ok (.iload_n 2, 1) := by decide +kernel
theorem d_Md_make_71 : decode b_Md_make 71 = .ok (.if_icmp .ne 6, 3) := by decide +kernel
theorem d_Md_make_74 : decode b_Md_make 74 = .ok (.bipush (-3), 2) := by decide +kernel
theorem d_Md_make_76 : decode b_Md_make 76 = .ok (.ireturn, 1) := by decide +kernel
theorem d_Md_make_77 : decode b_Md_make 77 = .ok (.iconst 1, 1) := by decide +kernel
theorem d_Md_make_78 : decode b_Md_make 78 = .ok (.istore 4, 2) := by decide +kernel
theorem d_Md_make_80 : decode b_Md_make 80 = .ok (.iload 4, 2) := by decide +kernel
theorem d_Md_make_82 : decode b_Md_make 82 = .ok (.bipush 12, 2) := by decide +kernel
theorem d_Md_make_84 : decode b_Md_make 84 = .ok (.if_icmp .ge 19, 3) := by decide +kernel
theorem d_Md_make_87 : decode b_Md_make 87 = .ok (.aload_n 0, 1) := by decide +kernel
theorem d_Md_make_88 : decode b_Md_make 88 = .ok (.getfield 7, 3) := by decide +kernel
theorem d_Md_make_91 : decode b_Md_make 91 = .ok (.iload 4, 2) := by decide +kernel
theorem d_Md_make_93 : decode b_Md_make 93 = .ok (.iaload, 1) := by decide +kernel
theorem d_Md_make_94 : decode b_Md_make 94 = .ok (.ifCond .eq 9, 3) := by decide +kernel
theorem d_Md_make_97 : decode b_Md_make 97 = .ok (.iinc 4 1, 3) := by decide +kernel
theorem d_Md_make_100 : decode b_Md_make 100 = .ok (.goto (-20), 3) := by decide +kernel
theorem d_Md_make_103 : decode b_Md_make 103 = .ok (.iload 4, 2) := by decide +kernel
theorem d_Md_make_105 : decode b_Md_make 105 = .ok (.bipush 12, 2) := by decide +kernel
theorem d_Md_make_107 : decode b_Md_make 107 = .ok (.if_icmp .ne 6, 3) := by decide +kernel
theorem d_Md_make_110 : decode b_Md_make 110 = .ok (.bipush (-4), 2) := by decide +kernel
theorem d_Md_make_112 : decode b_Md_make 112 = .ok (.ireturn, 1) := by decide +kernel
theorem d_Md_make_113 : decode b_Md_make 113 = .ok (.aload_n 0, 1) := by decide +kernel
theorem d_Md_make_114 : decode b_Md_make 114 = .ok (.getfield 7, 3) := by decide +kernel
theorem d_Md_make_117 : decode b_Md_make 117 = .ok (.iload 4, 2) := by decide +kernel
theorem d_Md_make_119 : decode b_Md_make 119 = .ok (.iload_n 3, 1) := by decide +kernel
theorem d_Md_make_120 : decode b_Md_make 120 = .ok (.ifCond .eq 7, 3) := by decide +kernel
theorem d_Md_make_123 : decode b_Md_make 123 = .ok (.iconst 2, 1) := by decide +kernel
theorem d_Md_make_124 : decode b_Md_make 124 = .ok (.goto 4, 3) := by decide +kernel
theorem d_Md_make_127 : decode b_Md_make 127 = .ok (.iconst 3, 1) := by decide +kernel
theorem d_Md_make_128 : decode b_Md_make 128 = .ok (.iastore, 1) := by decide +kernel
theorem d_Md_make_129 : decode b_Md_make 129 = .ok (.aload_n 0, 1) := by decide +kernel
theorem d_Md_make_130 : decode b_Md_make 130 = .ok (.getfield 13, 3) := by decide +kernel
theorem d_Md_make_133 : decode b_Md_make 133 = .ok (.iload 4, 2) := by decide +kernel
theorem d_Md_make_135 : decode b_Md_make 135 = .ok (.iload_n 1, 1) := by decide +kernel
theorem d_Md_make_136 : decode b_Md_make 136 = .ok (.iastore, 1) := by decide +kernel
theorem d_Md_make_137 : decode b_Md_make 137 = .ok (.aload_n 0, 1) := by decide +kernel
theorem d_Md_make_138 : decode b_Md_make 138 = .ok (.getfield 16, 3) := by decide +kernel
theorem d_Md_make_141 : decode b_Md_make 141 = .ok (.iload 4, 2) := by decide +kernel
theorem d_Md_make_143 : decode b_Md_make 143 = .ok (.iload_n 2, 1) := by decide +kernel
theorem d_Md_make_144 : decode b_Md_make 144 = .ok (.iastore, 1) := by decide +kernel
theorem d_Md_make_145 : decode b_Md_make 145 = .ok (.aload_n 0, 1) := by decide +kernel
theorem d_Md_make_146 : decode b_Md_make 146 = .ok (.getfield 19, 3) := by decide +kernel
theorem d_Md_make_149 : decode b_Md_make 149 = .ok (.iload 4, 2) := by decide +kernel
theorem d_Md_make_151 : decode b_Md_make 151 = .ok (.iconst 0, 1) := by decide +kernel
theorem d_Md_make_152 : decode b_Md_make 152 = .ok (.iastore, 1) := by decide +kernel
theorem d_Md_make_153 : decode b_Md_make 153 = .ok (.iload 4, 2) := by decide +kernel
theorem d_Md_make_155 : decode b_Md_make 155 = .ok (.ireturn, 1) := by decide +kernel
theorem d_Md_remove_0 : decode b_Md_remove 0 = .ok (.iload_n 1, 1) := by decide +kernel
theorem d_Md_remove_1 : decode b_Md_remove 1 = .ok (.iconst 1, 1) := by decide +kernel
theorem d_Md_remove_2 : decode b_Md_remove 2 = .ok (.bipush 11, 2) := by decide +kernel
theorem d_Md_remove_4 : decode b_Md_remove 4 = .ok (.invokestatic 84, 3) := by decide +kernel
theorem d_Md_remove_7 : decode b_Md_remove 7 = .ok (.ifCond .ne 5, 3) := by decide +kernel
theorem d_Md_remove_10 : decode b_Md_remove 10 = .ok (.iconst (-1), 1) := by decide +kernel
theorem d_Md_remove_11 : decode b_Md_remove 11 = .ok (.ireturn, 1) := by decide +kernel
theorem d_Md_remove_12 : decode b_Md_remove 12 = .ok (.aload_n 0, 1) := by decide +kernel
theorem d_Md_remove_13 : decode b_Md_remove 13 = .ok (.getfield 7, 3) := by decide +kernel
theorem d_Md_remove_16 : decode b_Md_remove 16 = .ok (.iload_n 1, 1) := by decide +kernel
theorem d_Md_remove_17 : decode b_Md_remove 17 = .ok (.iaload, 1) := by decide +kernel
theorem d_Md_remove_18 : decode b_Md_remove 18 = .ok (.ifCond .ne 6, 3) := by decide +kernel
theorem d_Md_remove_21 : decode b_Md_remove 21 = .ok (.bipush (-2), 2) := by decide +kernel
theorem d_Md_remove_23 : decode b_Md_remove 23 = .ok (.ireturn, 1) := by decide +kernel
theorem d_Md_remove_24 : decode b_Md_remove 24 = .ok (.aload_n 0, 1) := by decide +kernel
theorem d_Md_remove_25 : decode b_Md_remove 25 = .ok (.iload_n 1, 1) := by decide +kernel
theorem d_Md_remove_26 : decode b_Md_remove 26 = .ok (.iconst 0, 1) := by decide +kernel
theorem d_Md_remove_27 : decode b_Md_remove 27 = .ok (.invokevirtual 88, 3) := by decide +kernel
theorem d_Md_remove_30 : decode b_Md_remove 30 = .ok (.ifCond .lt 6, 3) := by decide +kernel
theorem d_Md_remove_33 : decode b_Md_remove 33 = .ok (.bipush (-5), 2) := by decide +kernel
theorem d_Md_remove_35 : decode b_Md_remove 35 = .ok (.ireturn, 1) := by decide +kernel
theorem d_Md_remove_36 : decode b_Md_remove 36 = .ok (.aload_n 0, 1) := by decide +kernel
theorem d_Md_remove_37 : decode b_Md_remove 37 = .ok (.getfield 7, 3) := by decide +kernel
theorem d_Md_remove_40 : decode b_Md_remove 40 = .ok (.iload_n 1, 1) := by decide +kernel
theorem d_Md_remove_41 : decode b_Md_remove 41 = .ok (.iconst 0, 1) := by decide +kernel
theorem d_Md_remove_42 : decode b_Md_remove 42 = .ok (.iastore, 1) := by decide +kernel
theorem d_Md_remove_43 : decode b_Md_remove 43 = .ok (.iconst 0, 1) := by decide +kernel
theorem d_Md_remove_44 : decode b_Md_remove 44 = .ok (.ireturn, 1) := by decide +kernel
theorem d_Md_next_0 : decode b_Md_next 0 = .ok (.aload_n 0, 1) := by decide +kernel
theorem d_Md_next_1 : decode b_Md_next 1 = .ok (.iload_n 1, 1) := by decide +kernel
theorem d_Md_next_2 : decode b_Md_next 2 = .ok (.iconst 0, 1) := by decide +kernel
theorem d_Md_next_3 : decode b_Md_next 3 = .ok (.invokevirtual 88, 3) := by decide +kernel
theorem d_Md_next_6 : decode b_Md_next 6 = .ok (.istore_n 2, 1) := by decide +kernel
theorem d_Md_next_7 : decode b_Md_next 7 = .ok (.iload_n 1, 1) := by decide +kernel
theorem d_Md_next_8 : decode b_Md_next 8 = .ok (.istore_n 3, 1) := by decide +kernel
theorem d_Md_next_9 : decode b_Md_next 9 = .ok (.iload_n 2, 1) := by decide +kernel
theorem d_Md_next_10 : decode b_Md_next 10 = .ok (.ifCond .ge 34, 3) := by decide +kernel
theorem d_Md_next_13 : decode b_Md_next 13 = .ok (.iload_n 3, 1) := by decide +kernel
theorem d_Md_next_14 : decode b_Md_next 14 = .ok (.ifCond .eq 30, 3) := by decide +kernel
theorem d_Md_next_17 : decode b_Md_next 17 = .ok (.aload_n 0, 1) := by decide +kernel
theorem d_Md_next_18 : decode b_Md_next 18 = .ok (.aload_n 0, 1) := by decide +kernel
theorem d_Md_next_19 : decode b_Md_next 19 = .ok (.getfield 13, 3) := by decide +kernel
theorem d_Md_next_22 : decode b_Md_next 22 = .ok (.iload_n 3, 1) := by decide +kernel
theorem d_Md_next_23 : decode b_Md_next 23 = .ok (.iaload, 1) := by decide +kernel
theorem d_Md_next_24 : decode b_Md_next 24 = .ok (.aload_n 0, 1) := by decide +kernel
theorem d_Md_next_25 : decode b_Md_next 25 = .ok (.getfield 16, 3) := by decide +kernel
theorem d_Md_next_28 : decode b_Md_next 28 = .ok (.iload_n 3, 1) := by decide +kernel
theorem d_Md_next_29 : decode b_Md_next 29 = .ok (.iaload, 1) := by decide +kernel
theorem d_Md_next_30 : decode b_Md_next 30 = .ok (.invokevirtual 88, 3) := by decide +kernel
theorem d_Md_next_33 : decode b_Md_next 33 = .ok (.istore_n 2, 1) := by decide +kernel
theorem d_Md_next_34 : decode b_Md_next 34 = .ok (.aload_n 0, 1) := by decide +kernel
theorem d_Md_next_35 : decode b_Md_next 35 = .ok (.getfield 13, 3) := by decide +kernel
theorem d_Md_next_38 : decode b_Md_next 38 = .ok (.iload_n 3, 1) := by decide +kernel
theorem d_Md_next_39 : decode b_Md_next 39 = .ok (.iaload, 1) := by decide +kernel
theorem d_Md_next_40 : decode b_Md_next 40 = .ok (.istore_n 3, 1) := by decide +kernel
theorem d_Md_next_41 : decode b_Md_next 41 = .ok (.goto (-32), 3) := by decide +kernel
theorem d_Md_next_44 : decode b_Md_next 44 = .ok (.iload_n 2, 1) := by decide +kernel
theorem d_Md_next_45 : decode b_Md_next 45 = .ok (.ireturn, 1) := by decide +kernel
theorem d_Md_payload_0 : decode b_Md_payload 0 = .ok (.aload_n 0, 1) := by decide +kernel
theorem d_Md_payload_1 : decode b_Md_payload 1 = .ok (.getfield 7, 3) := by decide +kernel
theorem d_Md_payload_4 : decode b_Md_payload 4 = .ok (.iload_n 1, 1) := by decide +kernel
theorem d_Md_payload_5 : decode b_Md_payload 5 = .ok (.iaload, 1) := by decide +kernel
theorem d_Md_payload_6 : decode b_Md_payload 6 = .ok (.iconst 3, 1) := by decide +kernel
theorem d_Md_payload_7 : decode b_Md_payload 7 = .ok (.if_icmp .ne 10, 3) := by decide +kernel
theorem d_Md_payload_10 : decode b_Md_payload 10 = .ok (.aload_n 0, 1) := by decide +kernel
theorem d_Md_payload_11 : decode b_Md_payload 11 = .ok (.getfield 19, 3) := by decide +kernel
theorem d_Md_payload_14 : decode b_Md_payload 14 = .ok (.iload_n 1, 1) := by decide +kernel
theorem d_Md_payload_15 : decode b_Md_payload 15 = .ok (.iaload, 1) := by decide +kernel
theorem d_Md_payload_16 : decode b_Md_payload 16 = .ok (.ireturn, 1) := by decide +kernel
theorem d_Md_payload_17 : decode b_Md_payload 17 = .ok (.iconst 0, 1) := by decide +kernel
theorem d_Md_payload_18 : decode b_Md_payload 18 = .ok (.istore_n 2, 1) := by decide +kernel
theorem d_Md_payload_19 : decode b_Md_payload 19 = .ok (.iconst 1, 1) := by decide +kernel
theorem d_Md_payload_20 : decode b_Md_payload 20 = .ok (.istore_n 3, 1) := by decide +kernel
theorem d_Md_payload_21 : decode b_Md_payload 21 = .ok (.iload_n 3, 1) := by decide +kernel
theorem d_Md_payload_22 : decode b_Md_payload 22 = .ok (.bipush 12, 2) := by decide +kernel
theorem d_Md_payload_24 : decode b_Md_payload 24 = .ok (.if_icmp .ge 36, 3) := by decide +kernel
theorem d_Md_payload_27 : decode b_Md_payload 27 = .ok (.aload_n 0, 1) := by decide +kernel
theorem d_Md_payload_28 : decode b_Md_payload 28 = .ok (.getfield 7, 3) := by decide +kernel
theorem d_Md_payload_31 : decode b_Md_payload 31 = .ok (.iload_n 3, 1) := by decide +kernel
theorem d_Md_payload_32 : decode b_Md_payload 32 = .ok (.iaload, 1) := by decide +kernel
theorem d_Md_payload_33 : decode b_Md_payload 33 = .ok (.ifCond .eq 19, 3) := by decide +kernel
theorem d_Md_payload_36 : decode b_Md_payload 36 = .ok (.aload_n 0, 1) := by decide +kernel
theorem d_Md_payload_37 : decode b_Md_payload 37 = .ok (.getfield 13, 3) := by decide +kernel
theorem d_Md_payload_40 : decode b_Md_payload 40 = .ok (.iload_n 3, 1) := by decide +kernel
theorem d_Md_payload_41 : decode b_Md_payload 41 = .ok (.iaload, 1) := by decide +kernel
theorem d_Md_payload_42 : decode b_Md_payload 42 = .ok (.iload_n 1, 1) := by decide +kernel
theorem d_Md_payload_43 : decode b_Md_payload 43 = .ok (.if_icmp .ne 9, 3) := by decide +kernel
theorem d_Md_payload_46 : decode b_Md_payload 46 = .ok (.iload_n 2, 1) := by decide +kernel
theorem d_Md_payload_47 : decode b_Md_payload 47 = .ok (.iconst 4, 1) := by decide +kernel
theorem d_Md_payload_48 : decode b_Md_payload 48 = .ok (.iadd, 1) := by decide +kernel
theorem d_Md_payload_49 : decode b_Md_payload 49 = .ok (.goto 4, 3) := by decide +kernel
theorem d_Md_payload_52 : decode b_Md_payload 52 = .ok (.iload_n 2, 1) := by decide +kernel
theorem d_Md_payload_53 : decode b_Md_payload 53 = .ok (.istore_n 2, 1) := by decide +kernel
theorem d_Md_payload_54 : decode b_Md_payload 54 = .ok (.iinc 3 1, 3) := by decide +kernel
theorem d_Md_payload_57 : decode b_Md_payload 57 = .ok (.goto (-36), 3) := by decide +kernel
theorem d_Md_payload_60 : decode b_Md_payload 60 = .ok (.iload_n 2, 1) := by decide +kernel
theorem d_Md_payload_61 : decode b_Md_payload 61 = .ok (.ireturn, 1) := by decide +kernel
theorem d_Md_put_0 : decode b_Md_put 0 = .ok (.aload_n 0, 1) := by decide +kernel
theorem d_Md_put_1 : decode b_Md_put 1 = .ok (.getfield 31, 3) := by decide +kernel
theorem d_Md_put_4 : decode b_Md_put 4 = .ok (.bipush 48, 2) := by decide +kernel
theorem d_Md_put_6 : decode b_Md_put 6 = .ok (.iload_n 1, 1) := by decide +kernel
theorem d_Md_put_7 : decode b_Md_put 7 = .ok (.imul, 1) := by decide +kernel
theorem d_Md_put_8 : decode b_Md_put 8 = .ok (.aload_n 0, 1) := by decide +kernel
theorem d_Md_put_9 : decode b_Md_put 9 = .ok (.getfield 25, 3) := by decide +kernel
theorem d_Md_put_12 : decode b_Md_put 12 = .ok (.iload_n 1, 1) := by decide +kernel
theorem d_Md_put_13 : decode b_Md_put 13 = .ok (.iaload, 1) := by decide +kernel
theorem d_Md_put_14 : decode b_Md_put 14 = .ok (.iadd, 1) := by decide +kernel
theorem d_Md_put_15 : decode b_Md_put 15 = .ok (.iload_n 2, 1) := by decide +kernel
theorem d_Md_put_16 : decode b_Md_put 16 = .ok (.iastore, 1) := by decide +kernel
theorem d_Md_put_17 : decode b_Md_put 17 = .ok (.aload_n 0, 1) := by decide +kernel
theorem d_Md_put_18 : decode b_Md_put 18 = .ok (.getfield 25, 3) := by decide +kernel
theorem d_Md_put_21 : decode b_Md_put 21 = .ok (.iload_n 1, 1) := by decide +kernel
theorem d_Md_put_22 : decode b_Md_put 22 = .ok (.dup2, 1) := by decide +kernel
theorem d_Md_put_23 : decode b_Md_put 23 = .ok (.iaload, 1) := by decide +kernel
theorem d_Md_put_24 : decode b_Md_put 24 = .ok (.iconst 1, 1) := by decide +kernel
theorem d_Md_put_25 : decode b_Md_put 25 = .ok (.iadd, 1) := by decide +kernel
theorem d_Md_put_26 : decode b_Md_put 26 = .ok (.iastore, 1) := by decide +kernel
theorem d_Md_put_27 : decode b_Md_put 27 = .ok (.return_, 1) := by decide +kernel
theorem d_Md_message_0 : decode b_Md_message 0 = .ok (.aload_n 0, 1) := by decide +kernel
theorem d_Md_message_1 : decode b_Md_message 1 = .ok (.getfield 43, 3) := by decide +kernel
theorem d_Md_message_4 : decode b_Md_message 4 = .ok (.iload_n 1, 1) := by decide +kernel
theorem d_Md_message_5 : decode b_Md_message 5 = .ok (.iaload, 1) := by decide +kernel
theorem d_Md_message_6 : decode b_Md_message 6 = .ok (.istore_n 2, 1) := by decide +kernel
theorem d_Md_message_7 : decode b_Md_message 7 = .ok (.aload_n 0, 1) := by decide +kernel
theorem d_Md_message_8 : decode b_Md_message 8 = .ok (.iload_n 2, 1) := by decide +kernel
theorem d_Md_message_9 : decode b_Md_message 9 = .ok (.aload_n 0, 1) := by decide +kernel
theorem d_Md_message_10 : decode b_Md_message 10 = .ok (.getfield 7, 3) := by decide +kernel
theorem d_Md_message_13 : decode b_Md_message 13 = .ok (.iload_n 1, 1) := by decide +kernel
theorem d_Md_message_14 : decode b_Md_message 14 = .ok (.iaload, 1) := by decide +kernel
theorem d_Md_message_15 : decode b_Md_message 15 = .ok (.invokevirtual 92, 3) := by decide +kernel
theorem d_Md_message_18 : decode b_Md_message 18 = .ok (.aload_n 0, 1) := by decide +kernel
theorem d_Md_message_19 : decode b_Md_message 19 = .ok (.iload_n 2, 1) := by decide +kernel
theorem d_Md_message_20 : decode b_Md_message 20 = .ok (.iload_n 1, 1) := by decide +kernel
theorem d_Md_message_21 : decode b_Md_message 21 = .ok (.invokevirtual 92, 3) := by decide +kernel
theorem d_Md_message_24 : decode b_Md_message 24 = .ok (.aload_n 0, 1) := by decide +kernel
theorem d_Md_message_25 : decode b_Md_message 25 = .ok (.iload_n 2, 1) := by decide +kernel
theorem d_Md_message_26 : decode b_Md_message 26 = .ok (.aload_n 0, 1) := by decide +kernel
theorem d_Md_message_27 : decode b_Md_message 27 = .ok (.iload_n 1, 1) := by decide +kernel
theorem d_Md_message_28 : decode b_Md_message 28 = .ok (.invokevirtual 96, 3) := by decide +kernel
theorem d_Md_message_31 : decode b_Md_message 31 = .ok (.invokevirtual 92, 3) := by decide +kernel
theorem d_Md_message_34 : decode b_Md_message 34 = .ok (.iconst 0, 1) := by decide +kernel
theorem d_Md_message_35 : decode b_Md_message 35 = .ok (.istore_n 3, 1) := by decide +kernel
theorem d_Md_message_36 : decode b_Md_message 36 = .ok (.aload_n 0, 1) := by decide +kernel
theorem d_Md_message_37 : decode b_Md_message 37 = .ok (.getfield 7, 3) := by decide +kernel
theorem d_Md_message_40 : decode b_Md_message 40 = .ok (.iload_n 1, 1) := by decide +kernel
theorem d_Md_message_41 : decode b_Md_message 41 = .ok (.iaload, 1) := by decide +kernel
theorem d_Md_message_42 : decode b_Md_message 42 = .ok (.iconst 3, 1) := by decide +kernel
theorem d_Md_message_43 : decode b_Md_message 43 = .ok (.if_icmp .ne 35, 3) := by decide +kernel
theorem d_Md_message_46 : decode b_Md_message 46 = .ok (.iload_n 3, 1) := by decide +kernel
theorem d_Md_message_47 : decode b_Md_message 47 = .ok (.aload_n 0, 1) := by decide +kernel
theorem d_Md_message_48 : decode b_Md_message 48 = .ok (.getfield 19, 3) := by decide +kernel
theorem d_Md_message_51 : decode b_Md_message 51 = .ok (.iload_n 1, 1) := by decide +kernel
theorem d_Md_message_52 : decode b_Md_message 52 = .ok (.iaload, 1) := by decide +kernel
theorem d_Md_message_53 : decode b_Md_message 53 = .ok (.if_icmp .ge 25, 3) := by decide +kernel
theorem d_Md_message_56 : decode b_Md_message 56 = .ok (.aload_n 0, 1) := by decide +kernel
theorem d_Md_message_57 : decode b_Md_message 57 = .ok (.iload_n 2, 1) := by decide +kernel
theorem d_Md_message_58 : decode b_Md_message 58 = .ok (.aload_n 0, 1) := by decide +kernel
theorem d_Md_message_59 : decode b_Md_message 59 = .ok (.getfield 22, 3) := by decide +kernel
theorem d_Md_message_62 : decode b_Md_message 62 = .ok (.bipush 12, 2) := by decide +kernel
theorem d_Md_message_64 : decode b_Md_message 64 = .ok (.iload_n 1, 1) := by decide +kernel
theorem d_Md_message_65 : decode b_Md_message 65 = .ok (.imul, 1) := by decide +kernel
theorem d_Md_message_66 : decode b_Md_message 66 = .ok (.iload_n 3, 1) := by decide +kernel
theorem d_Md_message_67 : decode b_Md_message 67 = .ok (.iadd, 1) := by decide +kernel
theorem d_Md_message_68 : decode b_Md_message 68 = .ok (.iaload, 1) := by decide +kernel
theorem d_Md_message_69 : decode b_Md_message 69 = .ok (.invokevirtual 92, 3) := by decide +kernel
theorem d_Md_message_72 : decode b_Md_message 72 = .ok (.iinc 3 1, 3) := by decide +kernel
theorem d_Md_message_75 : decode b_Md_message 75 = .ok (.goto (-39), 3) := by decide +kernel
theorem d_Md_message_78 : decode b_Md_message 78 = .ok (.aload_n 0, 1) := by decide +kernel
theorem d_Md_message_79 : decode b_Md_message 79 = .ok (.getfield 7, 3) := by decide +kernel
theorem d_Md_message_82 : decode b_Md_message 82 = .ok (.iload_n 1, 1) := by decide +kernel
theorem d_Md_message_83 : decode b_Md_message 83 = .ok (.iaload, 1) := by decide +kernel
theorem d_Md_message_84 : decode b_Md_message 84 = .ok (.iconst 3, 1) := by decide +kernel
theorem d_Md_message_85 : decode b_Md_message 85 = .ok (.if_icmp .ne 7, 3) := by decide +kernel
theorem d_Md_message_88 : decode b_Md_message 88 = .ok (.iconst (-1), 1) := by decide +kernel
theorem d_Md_message_89 : decode b_Md_message 89 = .ok (.goto 9, 3) := by decide +kernel
theorem d_Md_message_92 : decode b_Md_message 92 = .ok (.aload_n 0, 1) := by decide +kernel
theorem d_Md_message_93 : decode b_Md_message 93 = .ok (.iload_n 1, 1) := by decide +kernel
theorem d_Md_message_94 : decode b_Md_message 94 = .ok (.iconst 0, 1) := by decide +kernel
theorem d_Md_message_95 : decode b_Md_message 95 = .ok (.invokevirtual 88, 3) := by decide +kernel
theorem d_Md_message_98 : decode b_Md_message 98 = .ok (.istore_n 3, 1) := by decide +kernel
theorem d_Md_message_99 : decode b_Md_message 99 = .ok (.iload_n 3, 1) := by decide +kernel
theorem d_Md_message_100 : decode b_Md_message 100 = .ok (.ifCond .lt 57, 3) := by decide +kernel
theorem d_Md_message_103 : decode b_Md_message 103 = .ok (.aload_n 0, 1) := by decide +kernel
theorem d_Md_message_104 : decode b_Md_message 104 = .ok (.iload_n 2, 1) := by decide +kernel
theorem d_Md_message_105 : decode b_Md_message 105 = .ok (.aload_n 0, 1) := by decide +kernel
theorem d_Md_message_106 : decode b_Md_message 106 = .ok (.getfield 16, 3) := by decide +kernel
theorem d_Md_message_109 : decode b_Md_message 109 = .ok (.iload_n 3, 1) := by decide +kernel
theorem d_Md_message_110 : decode b_Md_message 110 = .ok (.iaload, 1) := by decide +kernel
theorem d_Md_message_111 : decode b_Md_message 111 = .ok (.invokevirtual 92, 3) := by decide +kernel
theorem d_Md_message_114 : decode b_Md_message 114 = .ok (.aload_n 0, 1) := by decide +kernel
theorem d_Md_message_115 : decode b_Md_message 115 = .ok (.iload_n 2, 1) := by decide +kernel
theorem d_Md_message_116 : decode b_Md_message 116 = .ok (.aload_n 0, 1) := by decide +kernel
theorem d_Md_message_117 : decode b_Md_message 117 = .ok (.getfield 7, 3) := by decide +kernel
theorem d_Md_message_120 : decode b_Md_message 120 = .ok (.iload_n 3, 1) := by decide +kernel
theorem d_Md_message_121 : decode b_Md_message 121 = .ok (.iaload, 1) := by decide +kernel
theorem d_Md_message_122 : decode b_Md_message 122 = .ok (.invokevirtual 92, 3) := by decide +kernel
theorem d_Md_message_125 : decode b_Md_message 125 = .ok (.aload_n 0, 1) := by decide +kernel
theorem d_Md_message_126 : decode b_Md_message 126 = .ok (.iload_n 2, 1) := by decide +kernel
theorem d_Md_message_127 : decode b_Md_message 127 = .ok (.aload_n 0, 1) := by decide +kernel
theorem d_Md_message_128 : decode b_Md_message 128 = .ok (.getfield 43, 3) := by decide +kernel
theorem d_Md_message_131 : decode b_Md_message 131 = .ok (.iload_n 3, 1) := by decide +kernel
theorem d_Md_message_132 : decode b_Md_message 132 = .ok (.iaload, 1) := by decide +kernel
theorem d_Md_message_133 : decode b_Md_message 133 = .ok (.invokevirtual 92, 3) := by decide +kernel
theorem d_Md_message_136 : decode b_Md_message 136 = .ok (.aload_n 0, 1) := by decide +kernel
theorem d_Md_message_137 : decode b_Md_message 137 = .ok (.iload_n 2, 1) := by decide +kernel
theorem d_Md_message_138 : decode b_Md_message 138 = .ok (.iload_n 3, 1) := by decide +kernel
theorem d_Md_message_139 : decode b_Md_message 139 = .ok (.invokevirtual 92, 3) := by decide +kernel
theorem d_Md_message_142 : decode b_Md_message 142 = .ok (.aload_n 0, 1) := by decide +kernel
theorem d_Md_message_143 : decode b_Md_message 143 = .ok (.iload_n 1, 1) := by decide +kernel
theorem d_Md_message_144 : decode b_Md_message 144 = .ok (.aload_n 0, 1) := by decide +kernel
theorem d_Md_message_145 : decode b_Md_message 145 = .ok (.getfield 16, 3) := by decide +kernel
theorem d_Md_message_148 : decode b_Md_message 148 = .ok (.iload_n 3, 1) := by decide +kernel
theorem d_Md_message_149 : decode b_Md_message 149 = .ok (.iaload, 1) := by decide +kernel
theorem d_Md_message_150 : decode b_Md_message 150 = .ok (.invokevirtual 88, 3) := by decide +kernel
theorem d_Md_message_153 : decode b_Md_message 153 = .ok (.istore_n 3, 1) := by decide +kernel
theorem d_Md_message_154 : decode b_Md_message 154 = .ok (.goto (-55), 3) := by decide +kernel
theorem d_Md_message_157 : decode b_Md_message 157 = .ok (.return_, 1) := by decide +kernel
theorem d_Md_keepOld_0 : decode b_Md_keepOld 0 = .ok (.aload_n 0, 1) := by decide +kernel
theorem d_Md_keepOld_1 : decode b_Md_keepOld 1 = .ok (.aload_n 0, 1) := by decide +kernel
theorem d_Md_keepOld_2 : decode b_Md_keepOld 2 = .ok (.getfield 100, 3) := by decide +kernel
theorem d_Md_keepOld_5 : decode b_Md_keepOld 5 = .ok (.putfield 103, 3) := by decide +kernel
theorem d_Md_keepOld_8 : decode b_Md_keepOld 8 = .ok (.iconst 0, 1) := by decide +kernel
theorem d_Md_keepOld_9 : decode b_Md_keepOld 9 = .ok (.istore_n 1, 1) := by decide +kernel
theorem d_Md_keepOld_10 : decode b_Md_keepOld 10 = .ok (.iload_n 1, 1) := by decide +kernel
theorem d_Md_keepOld_11 : decode b_Md_keepOld 11 = .ok (.bipush 12, 2) := by decide +kernel
theorem d_Md_keepOld_13 : decode b_Md_keepOld 13 = .ok (.if_icmp .ge 33, 3) := by decide +kernel
theorem d_Md_keepOld_16 : decode b_Md_keepOld 16 = .ok (.aload_n 0, 1) := by decide +kernel
theorem d_Md_keepOld_17 : decode b_Md_keepOld 17 = .ok (.getfield 34, 3) := by decide +kernel
theorem d_Md_keepOld_20 : decode b_Md_keepOld 20 = .ok (.iload_n 1, 1) := by decide +kernel
theorem d_Md_keepOld_21 : decode b_Md_keepOld 21 = .ok (.aload_n 0, 1) := by decide +kernel
theorem d_Md_keepOld_22 : decode b_Md_keepOld 22 = .ok (.getfield 25, 3) := by decide +kernel
theorem d_Md_keepOld_25 : decode b_Md_keepOld 25 = .ok (.iload_n 1, 1) := by decide +kernel
theorem d_Md_keepOld_26 : decode b_Md_keepOld 26 = .ok (.iaload, 1) := by decide +kernel
theorem d_Md_keepOld_27 : decode b_Md_keepOld 27 = .ok (.iastore, 1) := by decide +kernel
theorem d_Md_keepOld_28 : decode b_Md_keepOld 28 = .ok (.aload_n 0, 1) := by decide +kernel
theorem d_Md_keepOld_29 : decode b_Md_keepOld 29 = .ok (.getfield 37, 3) := by decide +kernel
theorem d_Md_keepOld_32 : decode b_Md_keepOld 32 = .ok (.iload_n 1, 1) := by decide +kernel
theorem d_Md_keepOld_33 : decode b_Md_keepOld 33 = .ok (.aload_n 0, 1) := by decide +kernel
theorem d_Md_keepOld_34 : decode b_Md_keepOld 34 = .ok (.getfield 28, 3) := by decide +kernel
theorem d_Md_keepOld_37 : decode b_Md_keepOld 37 = .ok (.iload_n 1, 1) := by decide +kernel
theorem d_Md_keepOld_38 : decode b_Md_keepOld 38 = .ok (.iaload, 1) := by decide +kernel
theorem d_Md_keepOld_39 : decode b_Md_keepOld 39 = .ok (.iastore, 1) := by decide +kernel
theorem d_Md_keepOld_40 : decode b_Md_keepOld 40 = .ok (.iinc 1 1, 3) := by decide +kernel
theorem d_Md_keepOld_43 : decode b_Md_keepOld 43 = .ok (.goto (-33), 3) := by decide +kernel
theorem d_Md_keepOld_46 : decode b_Md_keepOld 46 = .ok (.iconst 0, 1) := by decide +kernel
theorem d_Md_keepOld_47 : decode b_Md_keepOld 47 = .ok (.istore_n 1, 1) := by decide +kernel
theorem d_Md_keepOld_48 : decode b_Md_keepOld 48 = .ok (.iload_n 1, 1) := by decide +kernel
theorem d_Md_keepOld_49 : decode b_Md_keepOld 49 = .ok (.sipush 576, 3) := by decide +kernel
theorem d_Md_keepOld_52 : decode b_Md_keepOld 52 = .ok (.if_icmp .ge 21, 3) := by decide +kernel
theorem d_Md_keepOld_55 : decode b_Md_keepOld 55 = .ok (.aload_n 0, 1) := by decide +kernel
theorem d_Md_keepOld_56 : decode b_Md_keepOld 56 = .ok (.getfield 40, 3) := by decide +kernel
theorem d_Md_keepOld_59 : decode b_Md_keepOld 59 = .ok (.iload_n 1, 1) := by decide +kernel
theorem d_Md_keepOld_60 : decode b_Md_keepOld 60 = .ok (.aload_n 0, 1) := by decide +kernel
theorem d_Md_keepOld_61 : decode b_Md_keepOld 61 = .ok (.getfield 31, 3) := by decide +kernel
theorem d_Md_keepOld_64 : decode b_Md_keepOld 64 = .ok (.iload_n 1, 1) := by decide +kernel
theorem d_Md_keepOld_65 : decode b_Md_keepOld 65 = .ok (.iaload, 1) := by decide +kernel
theorem d_Md_keepOld_66 : decode b_Md_keepOld 66 = .ok (.iastore, 1) := by decide +kernel
theorem d_Md_keepOld_67 : decode b_Md_keepOld 67 = .ok (.iinc 1 1, 3) := by decide +kernel
theorem d_Md_keepOld_70 : decode b_Md_keepOld 70 = .ok (.goto (-22), 3) := by decide +kernel
theorem d_Md_keepOld_73 : decode b_Md_keepOld 73 = .ok (.return_, 1) := by decide +kernel
theorem d_Md_unchanged_0 : decode b_Md_unchanged 0 = .ok (.iload_n 1, 1) := by decide +kernel
theorem d_Md_unchanged_1 : decode b_Md_unchanged 1 = .ok (.aload_n 0, 1) := by decide +kernel
theorem d_Md_unchanged_2 : decode b_Md_unchanged 2 = .ok (.getfield 103, 3) := by decide +kernel
theorem d_Md_unchanged_5 : decode b_Md_unchanged 5 = .ok (.if_icmp .ge 22, 3) := by decide +kernel
theorem d_Md_unchanged_8 : decode b_Md_unchanged 8 = .ok (.aload_n 0, 1) := by decide +kernel
theorem d_Md_unchanged_9 : decode b_Md_unchanged 9 = .ok (.getfield 34, 3) := by decide +kernel
theorem d_Md_unchanged_12 : decode b_Md_unchanged 12 = .ok (.iload_n 1, 1) := by decide +kernel
theorem d_Md_unchanged_13 : decode b_Md_unchanged 13 = .ok (.iaload, 1) := by decide +kernel
theorem d_Md_unchanged_14 : decode b_Md_unchanged 14 = .ok (.aload_n 0, 1) := by decide +kernel
theorem d_Md_unchanged_15 : decode b_Md_unchanged 15 = .ok (.getfield 25, 3) := by decide +kernel
theorem d_Md_unchanged_18 : decode b_Md_unchanged 18 = .ok (.iload_n 1, 1) := by decide +kernel
theorem d_Md_unchanged_19 : decode b_Md_unchanged 19 = .ok (.iaload, 1) := by decide +kernel
theorem d_Md_unchanged_20 : decode b_Md_unchanged 20 = .ok (.if_icmp .ne 7, 3) := by decide +kernel
theorem d_Md_unchanged_23 : decode b_Md_unchanged 23 = .ok (.iconst 1, 1) := by decide +kernel
theorem d_Md_unchanged_24 : decode b_Md_unchanged 24 = .ok (.goto 4, 3) := by decide +kernel
theorem d_Md_unchanged_27 : decode b_Md_unchanged 27 = .ok (.iconst 0, 1) := by decide +kernel
theorem d_Md_unchanged_28 : decode b_Md_unchanged 28 = .ok (.istore_n 2, 1) := by decide +kernel
theorem d_Md_unchanged_29 : decode b_Md_unchanged 29 = .ok (.iconst 0, 1) := by decide +kernel
theorem d_Md_unchanged_30 : decode b_Md_unchanged 30 = .ok (.istore_n 3, 1) := by decide +kernel
theorem d_Md_unchanged_31 : decode b_Md_unchanged 31 = .ok (.iload_n 3, 1) := by decide +kernel
theorem d_Md_unchanged_32 : decode b_Md_unchanged 32 = .ok (.aload_n 0, 1) := by decide +kernel
theorem d_Md_unchanged_33 : decode b_Md_unchanged 33 = .ok (.getfield 25, 3) := by decide +kernel
theorem d_Md_unchanged_36 : decode b_Md_unchanged 36 = .ok (.iload_n 1, 1) := by decide +kernel
theorem d_Md_unchanged_37 : decode b_Md_unchanged 37 = .ok (.iaload, 1) := by decide +kernel
theorem d_Md_unchanged_38 : decode b_Md_unchanged 38 = .ok (.if_icmp .ge 44, 3) := by decide +kernel
theorem d_Md_unchanged_41 : decode b_Md_unchanged 41 = .ok (.iload_n 2, 1) := by decide +kernel
theorem d_Md_unchanged_42 : decode b_Md_unchanged 42 = .ok (.ifCond .eq 32, 3) := by decide +kernel
theorem d_Md_unchanged_45 : decode b_Md_unchanged 45 = .ok (.aload_n 0, 1) := by decide +kernel
theorem d_Md_unchanged_46 : decode b_Md_unchanged 46 = .ok (.getfield 40, 3) := by decide +kernel
theorem d_Md_unchanged_49 : decode b_Md_unchanged 49 = .ok (.bipush 48, 2) := by decide +kernel
theorem d_Md_unchanged_51 : decode b_Md_unchanged 51 = .ok (.iload_n 1, 1) := by decide +kernel
theorem d_Md_unchanged_52 : decode b_Md_unchanged 52 = .ok (.imul, 1) := by decide +kernel
theorem d_Md_unchanged_53 : decode b_Md_unchanged 53 = .ok (.iload_n 3, 1) := by decide +kernel
theorem d_Md_unchanged_54 : decode b_Md_unchanged 54 = .ok (.iadd, 1) := by decide +kernel
theorem d_Md_unchanged_55 : decode b_Md_unchanged 55 = .ok (.iaload, 1) := by decide +kernel
theorem d_Md_unchanged_56 : decode b_Md_unchanged 56 = .ok (.aload_n 0, 1) := by decide +kernel
theorem d_Md_unchanged_57 : decode b_Md_unchanged 57 = .ok (.getfield 31, 3) := by decide +kernel
theorem d_Md_unchanged_60 : decode b_Md_unchanged 60 = .ok (.bipush 48, 2) := by decide +kernel
theorem d_Md_unchanged_62 : decode b_Md_unchanged 62 = .ok (.iload_n 1, 1) := by decide +kernel
theorem d_Md_unchanged_63 : decode b_Md_unchanged 63 = .ok (.imul, 1) := by decide +kernel
theorem d_Md_unchanged_64 : decode b_Md_unchanged 64 = .ok (.iload_n 3, 1) := by decide +kernel
theorem d_Md_unchanged_65 : decode b_Md_unchanged 65 = .ok (.iadd, 1) := by decide +kernel
theorem d_Md_unchanged_66 : decode b_Md_unchanged 66 = .ok (.iaload, 1) := by decide +kernel
theorem d_Md_unchanged_67 : decode b_Md_unchanged 67 = .ok (.if_icmp .ne 7, 3) := by decide +kernel
theorem d_Md_unchanged_70 : decode b_Md_unchanged 70 = .ok (.iconst 1, 1) := by decide +kernel
theorem d_Md_unchanged_71 : decode b_Md_unchanged 71 = .ok (.goto 4, 3) := by decide +kernel
theorem d_Md_unchanged_74 : decode b_Md_unchanged 74 = .ok (.iconst 0, 1) := by decide +kernel
theorem d_Md_unchanged_75 : decode b_Md_unchanged 75 = .ok (.istore_n 2, 1) := by decide +kernel
theorem d_Md_unchanged_76 : decode b_Md_unchanged 76 = .ok (.iinc 3 1, 3) := by decide +kernel
theorem d_Md_unchanged_79 : decode b_Md_unchanged 79 = .ok (.goto (-48), 3) := by decide +kernel
theorem d_Md_unchanged_82 : decode b_Md_unchanged 82 = .ok (.iload_n 2, 1) := by decide +kernel
theorem d_Md_unchanged_83 : decode b_Md_unchanged 83 = .ok (.ireturn, 1) := by decide +kernel
theorem d_Md_publish_0 : decode b_Md_publish 0 = .ok (.aload_n 0, 1) := by decide +kernel
theorem d_Md_publish_1 : decode b_Md_publish 1 = .ok (.invokevirtual 106, 3) := by decide +kernel
theorem d_Md_publish_4 : decode b_Md_publish 4 = .ok (.aload_n 0, 1) := by decide +kernel
theorem d_Md_publish_5 : decode b_Md_publish 5 = .ok (.dup, 1) := by decide +kernel
theorem d_Md_publish_6 : decode b_Md_publish 6 = .ok (.getfield 109, 3) := by decide +kernel
theorem d_Md_publish_9 : decode b_Md_publish 9 = .ok (.iconst 1, 1) := by decide +kernel
theorem d_Md_publish_10 : decode b_Md_publish 10 = .ok (.iadd, 1) := by decide +kernel
theorem d_Md_publish_11 : decode b_Md_publish 11 = .ok (.putfield 109, 3) := by decide +kernel
theorem d_Md_publish_14 : decode b_Md_publish 14 = .ok (.aload_n 0, 1) := by decide +kernel
theorem d_Md_publish_15 : decode b_Md_publish 15 = .ok (.iconst 0, 1) := by decide +kernel
theorem d_Md_publish_16 : decode b_Md_publish 16 = .ok (.putfield 100, 3) := by decide +kernel
theorem d_Md_publish_19 : decode b_Md_publish 19 = .ok (.iconst 0, 1) := by decide +kernel
theorem d_Md_publish_20 : decode b_Md_publish 20 = .ok (.istore_n 1, 1) := by decide +kernel
theorem d_Md_publish_21 : decode b_Md_publish 21 = .ok (.iconst 0, 1) := by decide +kernel
theorem d_Md_publish_22 : decode b_Md_publish 22 = .ok (.istore_n 2, 1) := by decide +kernel
theorem d_Md_publish_23 : decode b_Md_publish 23 = .ok (.iload_n 2, 1) := by decide +kernel
theorem d_Md_publish_24 : decode b_Md_publish 24 = .ok (.ifCond .lt 75, 3) := by decide +kernel
theorem d_Md_publish_27 : decode b_Md_publish 27 = .ok (.iconst 3, 1) := by decide +kernel
theorem d_Md_publish_28 : decode b_Md_publish 28 = .ok (.aload_n 0, 1) := by decide +kernel
theorem d_Md_publish_29 : decode b_Md_publish 29 = .ok (.iload_n 2, 1) := by decide +kernel
theorem d_Md_publish_30 : decode b_Md_publish 30 = .ok (.invokevirtual 96, 3) := by decide +kernel
theorem d_Md_publish_33 : decode b_Md_publish 33 = .ok (.iadd, 1) := by decide +kernel
theorem d_Md_publish_34 : decode b_Md_publish 34 = .ok (.istore_n 3, 1) := by decide +kernel
theorem d_Md_publish_35 : decode b_Md_publish 35 = .ok (.aload_n 0, 1) := by decide +kernel
theorem d_Md_publish_36 : decode b_Md_publish 36 = .ok (.getfield 100, 3) := by decide +kernel
theorem d_Md_publish_39 : decode b_Md_publish 39 = .ok (.ifCond .eq 11, 3) := by decide +kernel
theorem d_Md_publish_42 : decode b_Md_publish 42 = .ok (.iload_n 1, 1) := by decide +kernel
theorem d_Md_publish_43 : decode b_Md_publish 43 = .ok (.iload_n 3, 1) := by decide +kernel
theorem d_Md_publish_44 : decode b_Md_publish 44 = .ok (.iadd, 1) := by decide +kernel
theorem d_Md_publish_45 : decode b_Md_publish 45 = .ok (.bipush 24, 2) := by decide +kernel
theorem d_Md_publish_47 : decode b_Md_publish 47 = .ok (.if_icmp .le 27, 3) := by decide +kernel
theorem d_Md_publish_50 : decode b_Md_publish 50 = .ok (.aload_n 0, 1) := by decide +kernel
theorem d_Md_publish_51 : decode b_Md_publish 51 = .ok (.dup, 1) := by decide +kernel
theorem d_Md_publish_52 : decode b_Md_publish 52 = .ok (.getfield 100, 3) := by decide +kernel
theorem d_Md_publish_55 : decode b_Md_publish 55 = .ok (.iconst 1, 1) := by decide +kernel
theorem d_Md_publish_56 : decode b_Md_publish 56 = .ok (.iadd, 1) := by decide +kernel
theorem d_Md_publish_57 : decode b_Md_publish 57 = .ok (.putfield 100, 3) := by decide +kernel
theorem d_Md_publish_60 : decode b_Md_publish 60 = .ok (.iconst 0, 1) := by decide +kernel
theorem d_Md_publish_61 : decode b_Md_publish 61 = .ok (.istore_n 1, 1) := by decide +kernel
theorem d_Md_publish_62 : decode b_Md_publish 62 = .ok (.aload_n 0, 1) := by decide +kernel
theorem d_Md_publish_63 : decode b_Md_publish 63 = .ok (.getfield 25, 3) := by decide +kernel
theorem d_Md_publish_66 : decode b_Md_publish 66 = .ok (.aload_n 0, 1) := by decide +kernel
theorem d_Md_publish_67 : decode b_Md_publish 67 = .ok (.getfield 100, 3) := by decide +kernel
theorem d_Md_publish_70 : decode b_Md_publish 70 = .ok (.iconst 1, 1) := by decide +kernel
theorem d_Md_publish_71 : decode b_Md_publish 71 = .ok (.isub, 1) := by decide +kernel
theorem d_Md_publish_72 : decode b_Md_publish 72 = .ok (.iconst 0, 1) := by decide +kernel
theorem d_Md_publish_73 : decode b_Md_publish 73 = .ok (.iastore, 1) := by decide +kernel
theorem d_Md_publish_74 : decode b_Md_publish 74 = .ok (.iload_n 1, 1) := by decide +kernel
theorem d_Md_publish_75 : decode b_Md_publish 75 = .ok (.iload_n 3, 1) := by decide +kernel
theorem d_Md_publish_76 : decode b_Md_publish 76 = .ok (.iadd, 1) := by decide +kernel
theorem d_Md_publish_77 : decode b_Md_publish 77 = .ok (.istore_n 1, 1) := by decide +kernel
theorem d_Md_publish_78 : decode b_Md_publish 78 = .ok (.aload_n 0, 1) := by decide +kernel
theorem d_Md_publish_79 : decode b_Md_publish 79 = .ok (.getfield 43, 3) := by decide +kernel
theorem d_Md_publish_82 : decode b_Md_publish 82 = .ok (.iload_n 2, 1) := by decide +kernel
theorem d_Md_publish_83 : decode b_Md_publish 83 = .ok (.aload_n 0, 1) := by decide +kernel
theorem d_Md_publish_84 : decode b_Md_publish 84 = .ok (.getfield 100, 3) := by decide +kernel
theorem d_Md_publish_87 : decode b_Md_publish 87 = .ok (.iconst 1, 1) := by decide +kernel
theorem d_Md_publish_88 : decode b_Md_publish 88 = .ok (.isub, 1) := by decide +kernel
theorem d_Md_publish_89 : decode b_Md_publish 89 = .ok (.iastore, 1) := by decide +kernel
theorem d_Md_publish_90 : decode b_Md_publish 90 = .ok (.aload_n 0, 1) := by decide +kernel
theorem d_Md_publish_91 : decode b_Md_publish 91 = .ok (.iload_n 2, 1) := by decide +kernel
theorem d_Md_publish_92 : decode b_Md_publish 92 = .ok (.invokevirtual 112, 3) := by decide +kernel
theorem d_Md_publish_95 : decode b_Md_publish 95 = .ok (.istore_n 2, 1) := by decide +kernel
theorem d_Md_publish_96 : decode b_Md_publish 96 = .ok (.goto (-73), 3) := by decide +kernel
theorem d_Md_publish_99 : decode b_Md_publish 99 = .ok (.iconst 0, 1) := by decide +kernel
theorem d_Md_publish_100 : decode b_Md_publish 100 = .ok (.istore_n 2, 1) := by decide +kernel
theorem d_Md_publish_101 : decode b_Md_publish 101 = .ok (.iload_n 2, 1) := by decide +kernel
theorem d_Md_publish_102 : decode b_Md_publish 102 = .ok (.ifCond .lt 17, 3) := by decide +kernel
theorem d_Md_publish_105 : decode b_Md_publish 105 = .ok (.aload_n 0, 1) := by decide +kernel
theorem d_Md_publish_106 : decode b_Md_publish 106 = .ok (.iload_n 2, 1) := by decide +kernel
theorem d_Md_publish_107 : decode b_Md_publish 107 = .ok (.invokevirtual 115, 3) := by decide +kernel
theorem d_Md_publish_110 : decode b_Md_publish 110 = .ok (.aload_n 0, 1) := by decide +kernel
theorem d_Md_publish_111 : decode b_Md_publish 111 = .ok (.iload_n 2, 1) := by decide +kernel
theorem d_Md_publish_112 : decode b_Md_publish 112 = .ok (.invokevirtual 112, 3) := by decide +kernel
theorem d_Md_publish_115 : decode b_Md_publish 115 = .ok (.istore_n 2, 1) := by decide +kernel
theorem d_Md_publish_116 : decode b_Md_publish 116 = .ok (.goto (-15), 3) := by decide +kernel
theorem d_Md_publish_119 : decode b_Md_publish 119 = .ok (.iconst 0, 1) := by decide +kernel
theorem d_Md_publish_120 : decode b_Md_publish 120 = .ok (.istore_n 2, 1) := by decide +kernel
theorem d_Md_publish_121 : decode b_Md_publish 121 = .ok (.iload_n 2, 1) := by decide +kernel
theorem d_Md_publish_122 : decode b_Md_publish 122 = .ok (.aload_n 0, 1) := by decide +kernel
theorem d_Md_publish_123 : decode b_Md_publish 123 = .ok (.getfield 100, 3) := by decide +kernel
theorem d_Md_publish_126 : decode b_Md_publish 126 = .ok (.if_icmp .ge 36, 3) := by decide +kernel
theorem d_Md_publish_129 : decode b_Md_publish 129 = .ok (.aload_n 0, 1) := by decide +kernel
theorem d_Md_publish_130 : decode b_Md_publish 130 = .ok (.getfield 28, 3) := by decide +kernel
theorem d_Md_publish_133 : decode b_Md_publish 133 = .ok (.iload_n 2, 1) := by decide +kernel
theorem d_Md_publish_134 : decode b_Md_publish 134 = .ok (.aload_n 0, 1) := by decide +kernel
theorem d_Md_publish_135 : decode b_Md_publish 135 = .ok (.iload_n 2, 1) := by decide +kernel
theorem d_Md_publish_136 : decode b_Md_publish 136 = .ok (.invokevirtual 119, 3) := by decide +kernel
theorem d_Md_publish_139 : decode b_Md_publish 139 = .ok (.ifCond .eq 12, 3) := by decide +kernel
theorem d_Md_publish_142 : decode b_Md_publish 142 = .ok (.aload_n 0, 1) := by decide +kernel
theorem d_Md_publish_143 : decode b_Md_publish 143 = .ok (.getfield 37, 3) := by decide +kernel
theorem d_Md_publish_146 : decode b_Md_publish 146 = .ok (.iload_n 2, 1) := by decide +kernel
theorem d_Md_publish_147 : decode b_Md_publish 147 = .ok (.iaload, 1) := by decide +kernel
theorem d_Md_publish_148 : decode b_Md_publish 148 = .ok (.goto 7, 3) := by decide +kernel
theorem d_Md_publish_151 : decode b_Md_publish 151 = .ok (.aload_n 0, 1) := by decide +kernel
theorem d_Md_publish_152 : decode b_Md_publish 152 = .ok (.getfield 109, 3) := by decide +kernel
theorem d_Md_publish_155 : decode b_Md_publish 155 = .ok (.iastore, 1) := by decide +kernel
theorem d_Md_publish_156 : decode b_Md_publish 156 = .ok (.iinc 2 1, 3) := by decide +kernel
theorem d_Md_publish_159 : decode b_Md_publish 159 = .ok (.goto (-38), 3) := by decide +kernel
theorem d_Md_publish_162 : decode b_Md_publish 162 = .ok (.aload_n 0, 1) := by decide +kernel
theorem d_Md_publish_163 : decode b_Md_publish 163 = .ok (.invokevirtual 123, 3) := by decide +kernel
theorem d_Md_publish_166 : decode b_Md_publish 166 = .ok (.aload_n 0, 1) := by decide +kernel
theorem d_Md_publish_167 : decode b_Md_publish 167 = .ok (.iconst 0, 1) := by decide +kernel
theorem d_Md_publish_168 : decode b_Md_publish 168 = .ok (.putfield 126, 3) := by decide +kernel
theorem d_Md_publish_171 : decode b_Md_publish 171 = .ok (.aload_n 0, 1) := by decide +kernel
theorem d_Md_publish_172 : decode b_Md_publish 172 = .ok (.getfield 109, 3) := by decide +kernel
theorem d_Md_publish_175 : decode b_Md_publish 175 = .ok (.ireturn, 1) := by decide +kernel
theorem d_Md_mixed_0 : decode b_Md_mixed 0 = .ok (.iload_n 0, 1) := by decide +kernel
theorem d_Md_mixed_1 : decode b_Md_mixed 1 = .ok (.iload_n 1, 1) := by decide +kernel
theorem d_Md_mixed_2 : decode b_Md_mixed 2 = .ok (.bipush 24, 2) := by decide +kernel
theorem d_Md_mixed_4 : decode b_Md_mixed 4 = .ok (.ishl, 1) := by decide +kernel
theorem d_Md_mixed_5 : decode b_Md_mixed 5 = .ok (.ixor, 1) := by decide +kernel
theorem d_Md_mixed_6 : decode b_Md_mixed 6 = .ok (.istore_n 2, 1) := by decide +kernel
theorem d_Md_mixed_7 : decode b_Md_mixed 7 = .ok (.iconst 0, 1) := by decide +kernel
theorem d_Md_mixed_8 : decode b_Md_mixed 8 = .ok (.istore_n 3, 1) := by decide +kernel
theorem d_Md_mixed_9 : decode b_Md_mixed 9 = .ok (.iload_n 3, 1) := by decide +kernel
theorem d_Md_mixed_10 : decode b_Md_mixed 10 = .ok (.bipush 8, 2) := by decide +kernel
theorem d_Md_mixed_12 : decode b_Md_mixed 12 = .ok (.if_icmp .ge 29, 3) := by decide +kernel
theorem d_Md_mixed_15 : decode b_Md_mixed 15 = .ok (.iconst 2, 1) := by decide +kernel
theorem d_Md_mixed_16 : decode b_Md_mixed 16 = .ok (.iload_n 2, 1) := by decide +kernel
theorem d_Md_mixed_17 : decode b_Md_mixed 17 = .ok (.imul, 1) := by decide +kernel
theorem d_Md_mixed_18 : decode b_Md_mixed 18 = .ok (.istore 4, 2) := by decide +kernel
theorem d_Md_mixed_20 : decode b_Md_mixed 20 = .ok (.iload_n 2, 1) := by decide +kernel
theorem d_Md_mixed_21 : decode b_Md_mixed 21 = .ok (.ifCond .ge 11, 3) := by decide +kernel
theorem d_Md_mixed_24 : decode b_Md_mixed 24 = .ok (.iload 4, 2) := by decide +kernel
theorem d_Md_mixed_26 : decode b_Md_mixed 26 = .ok (.ldc 129, 2) := by decide +kernel
theorem d_Md_mixed_28 : decode b_Md_mixed 28 = .ok (.ixor, 1) := by decide +kernel
theorem d_Md_mixed_29 : decode b_Md_mixed 29 = .ok (.goto 5, 3) := by decide +kernel
theorem d_Md_mixed_32 : decode b_Md_mixed 32 = .ok (.iload 4, 2) := by decide +kernel
theorem d_Md_mixed_34 : decode b_Md_mixed 34 = .ok (.istore_n 2, 1) := by decide +kernel
theorem d_Md_mixed_35 : decode b_Md_mixed 35 = .ok (.iinc 3 1, 3) := by decide +kernel
theorem d_Md_mixed_38 : decode b_Md_mixed 38 = .ok (.goto (-29), 3) := by decide +kernel
theorem d_Md_mixed_41 : decode b_Md_mixed 41 = .ok (.iload_n 2, 1) := by decide +kernel
theorem d_Md_mixed_42 : decode b_Md_mixed 42 = .ok (.ireturn, 1) := by decide +kernel
theorem d_Md_writeCycle_0 : decode b_Md_writeCycle 0 = .ok (.aload_n 0, 1) := by decide +kernel
theorem d_Md_writeCycle_1 : decode b_Md_writeCycle 1 = .ok (.iconst 0, 1) := by decide +kernel
theorem d_Md_writeCycle_2 : decode b_Md_writeCycle 2 = .ok (.putfield 130, 3) := by decide +kernel
theorem d_Md_writeCycle_5 : decode b_Md_writeCycle 5 = .ok (.aload_n 0, 1) := by decide +kernel
theorem d_Md_writeCycle_6 : decode b_Md_writeCycle 6 = .ok (.iconst (-1), 1) := by decide +kernel
theorem d_Md_writeCycle_7 : decode b_Md_writeCycle 7 = .ok (.putfield 133, 3) := by decide +kernel
theorem d_Md_writeCycle_10 : decode b_Md_writeCycle 10 = .ok (.aload_n 0, 1) := by decide +kernel
theorem d_Md_writeCycle_11 : decode b_Md_writeCycle 11 = .ok (.bipush 59, 2) := by decide +kernel
theorem d_Md_writeCycle_13 : decode b_Md_writeCycle 13 = .ok (.invokevirtual 139, 3) := by decide +kernel
theorem d_Md_writeCycle_16 : decode b_Md_writeCycle 16 = .ok (.aload_n 0, 1) := by decide +kernel
theorem d_Md_writeCycle_17 : decode b_Md_writeCycle 17 = .ok (.bipush 7, 2) := by decide +kernel
theorem d_Md_writeCycle_19 : decode b_Md_writeCycle 19 = .ok (.iconst 3, 1) := by decide +kernel
theorem d_Md_writeCycle_20 : decode b_Md_writeCycle 20 = .ok (.aload_n 0, 1) := by decide +kernel
theorem d_Md_writeCycle_21 : decode b_Md_writeCycle 21 = .ok (.getfield 100, 3) := by decide +kernel
theorem d_Md_writeCycle_24 : decode b_Md_writeCycle 24 = .ok (.imul, 1) := by decide +kernel
theorem d_Md_writeCycle_25 : decode b_Md_writeCycle 25 = .ok (.iadd, 1) := by decide +kernel
theorem d_Md_writeCycle_26 : decode b_Md_writeCycle 26 = .ok (.invokevirtual 139, 3) := by decide +kernel
theorem d_Md_writeCycle_29 : decode b_Md_writeCycle 29 = .ok (.aload_n 0, 1) := by decide +kernel
theorem d_Md_writeCycle_30 : decode b_Md_writeCycle 30 = .ok (.aload_n 0, 1) := by decide +kernel
theorem d_Md_writeCycle_31 : decode b_Md_writeCycle 31 = .ok (.getfield 109, 3) := by decide +kernel
theorem d_Md_writeCycle_34 : decode b_Md_writeCycle 34 = .ok (.invokevirtual 142, 3) := by decide +kernel
theorem d_Md_writeCycle_37 : decode b_Md_writeCycle 37 = .ok (.aload_n 0, 1) := by decide +kernel
theorem d_Md_writeCycle_38 : decode b_Md_writeCycle 38 = .ok (.aload_n 0, 1) := by decide +kernel
theorem d_Md_writeCycle_39 : decode b_Md_writeCycle 39 = .ok (.getfield 100, 3) := by decide +kernel
theorem d_Md_writeCycle_42 : decode b_Md_writeCycle 42 = .ok (.invokevirtual 139, 3) := by decide +kernel
theorem d_Md_writeCycle_45 : decode b_Md_writeCycle 45 = .ok (.iconst 0, 1) := by decide +kernel
theorem d_Md_writeCycle_46 : decode b_Md_writeCycle 46 = .ok (.istore_n 1, 1) := by decide +kernel
theorem d_Md_writeCycle_47 : decode b_Md_writeCycle 47 = .ok (.iload_n 1, 1) := by decide +kernel
theorem d_Md_writeCycle_48 : decode b_Md_writeCycle 48 = .ok (.aload_n 0, 1) := by decide +kernel
theorem d_Md_writeCycle_49 : decode b_Md_writeCycle 49 = .ok (.getfield 100, 3) := by decide +kernel
theorem d_Md_writeCycle_52 : decode b_Md_writeCycle 52 = .ok (.if_icmp .ge 29, 3) := by decide +kernel
theorem d_Md_writeCycle_55 : decode b_Md_writeCycle 55 = .ok (.aload_n 0, 1) := by decide +kernel
theorem d_Md_writeCycle_56 : decode b_Md_writeCycle 56 = .ok (.aload_n 0, 1) := by decide +kernel
theorem d_Md_writeCycle_57 : decode b_Md_writeCycle 57 = .ok (.getfield 25, 3) := by decide +kernel
theorem d_Md_writeCycle_60 : decode b_Md_writeCycle 60 = .ok (.iload_n 1, 1) := by decide +kernel
theorem d_Md_writeCycle_61 : decode b_Md_writeCycle 61 = .ok (.iaload, 1) := by decide +kernel
theorem d_Md_writeCycle_62 : decode b_Md_writeCycle 62 = .ok (.invokevirtual 139, 3) := by decide +kernel
theorem d_Md_writeCycle_65 : decode b_Md_writeCycle 65 = .ok (.aload_n 0, 1) := by decide +kernel
theorem d_Md_writeCycle_66 : decode b_Md_writeCycle 66 = .ok (.aload_n 0, 1) := by decide +kernel
theorem d_Md_writeCycle_67 : decode b_Md_writeCycle 67 = .ok (.getfield 28, 3) := by decide +kernel
theorem d_Md_writeCycle_70 : decode b_Md_writeCycle 70 = .ok (.iload_n 1, 1) := by decide +kernel
theorem d_Md_writeCycle_71 : decode b_Md_writeCycle 71 = .ok (.iaload, 1) := by decide +kernel
theorem d_Md_writeCycle_72 : decode b_Md_writeCycle 72 = .ok (.invokevirtual 142, 3) := by decide +kernel
theorem d_Md_writeCycle_75 : decode b_Md_writeCycle 75 = .ok (.iinc 1 1, 3) := by decide +kernel
theorem d_Md_writeCycle_78 : decode b_Md_writeCycle 78 = .ok (.goto (-31), 3) := by decide +kernel
theorem d_Md_writeCycle_81 : decode b_Md_writeCycle 81 = .ok (.aload_n 0, 1) := by decide +kernel
theorem d_Md_writeCycle_82 : decode b_Md_writeCycle 82 = .ok (.invokevirtual 145, 3) := by decide +kernel
theorem d_Md_writeCycle_85 : decode b_Md_writeCycle 85 = .ok (.iconst 0, 1) := by decide +kernel
theorem d_Md_writeCycle_86 : decode b_Md_writeCycle 86 = .ok (.istore_n 1, 1) := by decide +kernel
theorem d_Md_writeCycle_87 : decode b_Md_writeCycle 87 = .ok (.iload_n 1, 1) := by decide +kernel
theorem d_Md_writeCycle_88 : decode b_Md_writeCycle 88 = .ok (.aload_n 0, 1) := by decide +kernel
theorem d_Md_writeCycle_89 : decode b_Md_writeCycle 89 = .ok (.getfield 100, 3) := by decide +kernel
theorem d_Md_writeCycle_92 : decode b_Md_writeCycle 92 = .ok (.if_icmp .ge 128, 3) := by decide +kernel
theorem d_Md_writeCycle_95 : decode b_Md_writeCycle 95 = .ok (.iconst 0, 1) := by decide +kernel
theorem d_Md_writeCycle_96 : decode b_Md_writeCycle 96 = .ok (.istore_n 2, 1) := by decide +kernel
theorem d_Md_writeCycle_97 : decode b_Md_writeCycle 97 = .ok (.iload_n 2, 1) := by decide +kernel
theorem d_Md_writeCycle_98 : decode b_Md_writeCycle 98 = .ok (.aload_n 0, 1) := by decide +kernel
theorem d_Md_writeCycle_99 : decode b_Md_writeCycle 99 = .ok (.getfield 25, 3) := by decide +kernel
theorem d_Md_writeCycle_102 : decode b_Md_writeCycle 102 = .ok (.iload_n 1, 1) := by decide +kernel
theorem d_Md_writeCycle_103 : decode b_Md_writeCycle 103 = .ok (.iaload, 1) := by decide +kernel
theorem d_Md_writeCycle_104 : decode b_Md_writeCycle 104 = .ok (.if_icmp .ge 110, 3) := by decide +kernel
theorem d_Md_writeCycle_107 : decode b_Md_writeCycle 107 = .ok (.aload_n 0, 1) := by decide +kernel
theorem d_Md_writeCycle_108 : decode b_Md_writeCycle 108 = .ok (.getfield 25, 3) := by decide +kernel
theorem d_Md_writeCycle_111 : decode b_Md_writeCycle 111 = .ok (.iload_n 1, 1) := by decide +kernel
theorem d_Md_writeCycle_112 : decode b_Md_writeCycle 112 = .ok (.iaload, 1) := by decide +kernel
theorem d_Md_writeCycle_113 : decode b_Md_writeCycle 113 = .ok (.iload_n 2, 1) := by decide +kernel
theorem d_Md_writeCycle_114 : decode b_Md_writeCycle 114 = .ok (.isub, 1) := by decide +kernel
theorem d_Md_writeCycle_115 : decode b_Md_writeCycle 115 = .ok (.bipush 8, 2) := by decide +kernel
theorem d_Md_writeCycle_117 : decode b_Md_writeCycle 117 = .ok (.if_icmp .ge 14, 3) := by decide +kernel
theorem d_Md_writeCycle_120 : decode b_Md_writeCycle 120 = .ok (.aload_n 0, 1) := by decide +kernel
theorem d_Md_writeCycle_121 : decode b_Md_writeCycle 121 = .ok (.getfield 25, 3) := by decide +kernel
theorem d_Md_writeCycle_124 : decode b_Md_writeCycle 124 = .ok (.iload_n 1, 1) := by decide +kernel
theorem d_Md_writeCycle_125 : decode b_Md_writeCycle 125 = .ok (.iaload, 1) := by decide +kernel
theorem d_Md_writeCycle_126 : decode b_Md_writeCycle 126 = .ok (.iload_n 2, 1) := by decide +kernel
theorem d_Md_writeCycle_127 : decode b_Md_writeCycle 127 = .ok (.isub, 1) := by decide +kernel
theorem d_Md_writeCycle_128 : decode b_Md_writeCycle 128 = .ok (.goto 5, 3) := by decide +kernel
theorem d_Md_writeCycle_131 : decode b_Md_writeCycle 131 = .ok (.bipush 8, 2) := by decide +kernel
theorem d_Md_writeCycle_133 : decode b_Md_writeCycle 133 = .ok (.istore_n 3, 1) := by decide +kernel
theorem d_Md_writeCycle_134 : decode b_Md_writeCycle 134 = .ok (.aload_n 0, 1) := by decide +kernel
theorem d_Md_writeCycle_135 : decode b_Md_writeCycle 135 = .ok (.bipush 60, 2) := by decide +kernel
theorem d_Md_writeCycle_137 : decode b_Md_writeCycle 137 = .ok (.invokevirtual 139, 3) := by decide +kernel
theorem d_Md_writeCycle_140 : decode b_Md_writeCycle 140 = .ok (.aload_n 0, 1) := by decide +kernel
theorem d_Md_writeCycle_141 : decode b_Md_writeCycle 141 = .ok (.bipush 8, 2) := by decide +kernel
theorem d_Md_writeCycle_143 : decode b_Md_writeCycle 143 = .ok (.iload_n 3, 1) := by decide +kernel
theorem d_Md_writeCycle_144 : decode b_Md_writeCycle 144 = .ok (.iadd, 1) := by decide +kernel
theorem d_Md_writeCycle_145 : decode b_Md_writeCycle 145 = .ok (.invokevirtual 139, 3) := by decide +kernel
theorem d_Md_writeCycle_148 : decode b_Md_writeCycle 148 = .ok (.aload_n 0, 1) := by decide +kernel
theorem d_Md_writeCycle_149 : decode b_Md_writeCycle 149 = .ok (.iload_n 1, 1) := by decide +kernel
theorem d_Md_writeCycle_150 : decode b_Md_writeCycle 150 = .ok (.invokevirtual 139, 3) := by decide +kernel
theorem d_Md_writeCycle_153 : decode b_Md_writeCycle 153 = .ok (.aload_n 0, 1) := by decide +kernel
theorem d_Md_writeCycle_154 : decode b_Md_writeCycle 154 = .ok (.aload_n 0, 1) := by decide +kernel
theorem d_Md_writeCycle_155 : decode b_Md_writeCycle 155 = .ok (.getfield 28, 3) := by decide +kernel
theorem d_Md_writeCycle_158 : decode b_Md_writeCycle 158 = .ok (.iload_n 1, 1) := by decide +kernel
theorem d_Md_writeCycle_159 : decode b_Md_writeCycle 159 = .ok (.iaload, 1) := by decide +kernel
theorem d_Md_writeCycle_160 : decode b_Md_writeCycle 160 = .ok (.invokevirtual 142, 3) := by decide +kernel
theorem d_Md_writeCycle_163 : decode b_Md_writeCycle 163 = .ok (.aload_n 0, 1) := by decide +kernel
theorem d_Md_writeCycle_164 : decode b_Md_writeCycle 164 = .ok (.iload_n 2, 1) := by decide +kernel
theorem d_Md_writeCycle_165 : decode b_Md_writeCycle 165 = .ok (.bipush 8, 2) := by decide +kernel
theorem d_Md_writeCycle_167 : decode b_Md_writeCycle 167 = .ok (.idiv, 1) := by decide +kernel
theorem d_Md_writeCycle_168 : decode b_Md_writeCycle 168 = .ok (.invokevirtual 139, 3) := by decide +kernel
theorem d_Md_writeCycle_171 : decode b_Md_writeCycle 171 = .ok (.iconst 0, 1) := by decide +kernel
theorem d_Md_writeCycle_172 : decode b_Md_writeCycle 172 = .ok (.istore 4, 2) := by decide +kernel
theorem d_Md_writeCycle_174 : decode b_Md_writeCycle 174 = .ok (.iload 4, 2) := by decide +kernel
theorem d_Md_writeCycle_176 : decode b_Md_writeCycle 176 = .ok (.iload_n 3, 1) := by decide +kernel
theorem d_Md_writeCycle_177 : decode b_Md_writeCycle 177 = .ok (.if_icmp .ge 27, 3) := by decide +kernel
theorem d_Md_writeCycle_180 : decode b_Md_writeCycle 180 = .ok (.aload_n 0, 1) := by decide +kernel
theorem d_Md_writeCycle_181 : decode b_Md_writeCycle 181 = .ok (.aload_n 0, 1) := by decide +kernel
theorem d_Md_writeCycle_182 : decode b_Md_writeCycle 182 = .ok (.getfield 31, 3) := by decide +kernel
theorem d_Md_writeCycle_185 : decode b_Md_writeCycle 185 = .ok (.bipush 48, 2) := by decide +kernel
theorem d_Md_writeCycle_187 : decode b_Md_writeCycle 187 = .ok (.iload_n 1, 1) := by decide +kernel
theorem d_Md_writeCycle_188 : decode b_Md_writeCycle 188 = .ok (.imul, 1) := by decide +kernel
theorem d_Md_writeCycle_189 : decode b_Md_writeCycle 189 = .ok (.iload_n 2, 1) := by decide +kernel
theorem d_Md_writeCycle_190 : decode b_Md_writeCycle 190 = .ok (.iadd, 1) := by decide +kernel
theorem d_Md_writeCycle_191 : decode b_Md_writeCycle 191 = .ok (.iload 4, 2) := by decide +kernel
theorem d_Md_writeCycle_193 : decode b_Md_writeCycle 193 = .ok (.iadd, 1) := by decide +kernel
theorem d_Md_writeCycle_194 : decode b_Md_writeCycle 194 = .ok (.iaload, 1) := by decide +kernel
theorem d_Md_writeCycle_195 : decode b_Md_writeCycle 195 = .ok (.invokevirtual 139, 3) := by decide +kernel
theorem d_Md_writeCycle_198 : decode b_Md_writeCycle 198 = .ok (.iinc 4 1, 3) := by decide +kernel
theorem d_Md_writeCycle_201 : decode b_Md_writeCycle 201 = .ok (.goto (-27), 3) := by decide +kernel
theorem d_Md_writeCycle_204 : decode b_Md_writeCycle 204 = .ok (.aload_n 0, 1) := by decide +kernel
theorem d_Md_writeCycle_205 : decode b_Md_writeCycle 205 = .ok (.invokevirtual 145, 3) := by decide +kernel
theorem d_Md_writeCycle_208 : decode b_Md_writeCycle 208 = .ok (.iinc 2 8, 3) := by decide +kernel
theorem d_Md_writeCycle_211 : decode b_Md_writeCycle 211 = .ok (.goto (-114), 3) := by decide +kernel
theorem d_Md_writeCycle_214 : decode b_Md_writeCycle 214 = .ok (.iinc 1 1, 3) := by decide +kernel
theorem d_Md_writeCycle_217 : decode b_Md_writeCycle 217 = .ok (.goto (-130), 3) := by decide +kernel
theorem d_Md_writeCycle_220 : decode b_Md_writeCycle 220 = .ok (.return_, 1) := by decide +kernel
theorem d_Md_modules_0 : decode b_Md_modules 0 = .ok (.aload_n 0, 1) := by decide +kernel
theorem d_Md_modules_1 : decode b_Md_modules 1 = .ok (.getfield 100, 3) := by decide +kernel
theorem d_Md_modules_4 : decode b_Md_modules 4 = .ok (.ireturn, 1) := by decide +kernel
theorem d_Md_module_0 : decode b_Md_module 0 = .ok (.iload_n 1, 1) := by decide +kernel
theorem d_Md_module_1 : decode b_Md_module 1 = .ok (.ifCond .lt 30, 3) := by decide +kernel
theorem d_Md_module_4 : decode b_Md_module 4 = .ok (.iload_n 1, 1) := by decide +kernel
theorem d_Md_module_5 : decode b_Md_module 5 = .ok (.aload_n 0, 1) := by decide +kernel
theorem d_Md_module_6 : decode b_Md_module 6 = .ok (.getfield 100, 3) := by decide +kernel
theorem d_Md_module_9 : decode b_Md_module 9 = .ok (.if_icmp .ge 22, 3) := by decide +kernel
theorem d_Md_module_12 : decode b_Md_module 12 = .ok (.ldc 148, 2) := by decide +kernel
theorem d_Md_module_14 : decode b_Md_module 14 = .ok (.aload_n 0, 1) := by decide +kernel
theorem d_Md_module_15 : decode b_Md_module 15 = .ok (.getfield 28, 3) := by decide +kernel
theorem d_Md_module_18 : decode b_Md_module 18 = .ok (.iload_n 1, 1) := by decide +kernel
theorem d_Md_module_19 : decode b_Md_module 19 = .ok (.iaload, 1) := by decide +kernel
theorem d_Md_module_20 : decode b_Md_module 20 = .ok (.imul, 1) := by decide +kernel
theorem d_Md_module_21 : decode b_Md_module 21 = .ok (.aload_n 0, 1) := by decide +kernel
theorem d_Md_module_22 : decode b_Md_module 22 = .ok (.getfield 25, 3) := by decide +kernel
theorem d_Md_module_25 : decode b_Md_module 25 = .ok (.iload_n 1, 1) := by decide +kernel
theorem d_Md_module_26 : decode b_Md_module 26 = .ok (.iaload, 1) := by decide +kernel
theorem d_Md_module_27 : decode b_Md_module 27 = .ok (.iadd, 1) := by decide +kernel
theorem d_Md_module_28 : decode b_Md_module 28 = .ok (.goto 5, 3) := by decide +kernel
theorem d_Md_module_31 : decode b_Md_module 31 = .ok (.bipush (-2), 2) := by decide +kernel
theorem d_Md_module_33 : decode b_Md_module 33 = .ok (.ireturn, 1) := by decide +kernel
theorem d_Md_rest_0 : decode b_Md_rest 0 = .ok (.aload_n 0, 1) := by decide +kernel
theorem d_Md_rest_1 : decode b_Md_rest 1 = .ok (.getfield 126, 3) := by decide +kernel
theorem d_Md_rest_4 : decode b_Md_rest 4 = .ok (.ifCond .eq 17, 3) := by decide +kernel
theorem d_Md_rest_7 : decode b_Md_rest 7 = .ok (.aload_n 0, 1) := by decide +kernel
theorem d_Md_rest_8 : decode b_Md_rest 8 = .ok (.getfield 49, 3) := by decide +kernel
theorem d_Md_rest_11 : decode b_Md_rest 11 = .ok (.aload_n 0, 1) := by decide +kernel
theorem d_Md_rest_12 : decode b_Md_rest 12 = .ok (.getfield 126, 3) := by decide +kernel
theorem d_Md_rest_15 : decode b_Md_rest 15 = .ok (.iconst 1, 1) := by decide +kernel
theorem d_Md_rest_16 : decode b_Md_rest 16 = .ok (.isub, 1) := by decide +kernel
theorem d_Md_rest_17 : decode b_Md_rest 17 = .ok (.baload, 1) := by decide +kernel
theorem d_Md_rest_18 : decode b_Md_rest 18 = .ok (.ifCond .eq 5, 3) := by decide +kernel
theorem d_Md_rest_21 : decode b_Md_rest 21 = .ok (.iconst 0, 1) := by decide +kernel
theorem d_Md_rest_22 : decode b_Md_rest 22 = .ok (.ireturn, 1) := by decide +kernel
theorem d_Md_rest_23 : decode b_Md_rest 23 = .ok (.aload_n 0, 1) := by decide +kernel
theorem d_Md_rest_24 : decode b_Md_rest 24 = .ok (.getfield 126, 3) := by decide +kernel
theorem d_Md_rest_27 : decode b_Md_rest 27 = .ok (.istore_n 1, 1) := by decide +kernel
theorem d_Md_rest_28 : decode b_Md_rest 28 = .ok (.aload_n 0, 1) := by decide +kernel
theorem d_Md_rest_29 : decode b_Md_rest 29 = .ok (.getfield 49, 3) := by decide +kernel
theorem d_Md_rest_32 : decode b_Md_rest 32 = .ok (.iload_n 1, 1) := by decide +kernel
theorem d_Md_rest_33 : decode b_Md_rest 33 = .ok (.baload, 1) := by decide +kernel
theorem d_Md_rest_34 : decode b_Md_rest 34 = .ok (.ifCond .ne 9, 3) := by decide +kernel
theorem d_Md_rest_37 : decode b_Md_rest 37 = .ok (.iinc 1 1, 3) := by decide +kernel
theorem d_Md_rest_40 : decode b_Md_rest 40 = .ok (.goto (-12), 3) := by decide +kernel
theorem d_Md_rest_43 : decode b_Md_rest 43 = .ok (.iload_n 1, 1) := by decide +kernel
theorem d_Md_rest_44 : decode b_Md_rest 44 = .ok (.iconst 1, 1) := by decide +kernel
theorem d_Md_rest_45 : decode b_Md_rest 45 = .ok (.iadd, 1) := by decide +kernel
theorem d_Md_rest_46 : decode b_Md_rest 46 = .ok (.aload_n 0, 1) := by decide +kernel
theorem d_Md_rest_47 : decode b_Md_rest 47 = .ok (.getfield 126, 3) := by decide +kernel
theorem d_Md_rest_50 : decode b_Md_rest 50 = .ok (.isub, 1) := by decide +kernel
theorem d_Md_rest_51 : decode b_Md_rest 51 = .ok (.ireturn, 1) := by decide +kernel
theorem d_Md_sent_0 : decode b_Md_sent 0 = .ok (.aload_n 0, 1) := by decide +kernel
theorem d_Md_sent_1 : decode b_Md_sent 1 = .ok (.invokevirtual 156, 3) := by decide +kernel
theorem d_Md_sent_4 : decode b_Md_sent 4 = .ok (.istore_n 1, 1) := by decide +kernel
theorem d_Md_sent_5 : decode b_Md_sent 5 = .ok (.aload_n 0, 1) := by decide +kernel
theorem d_Md_sent_6 : decode b_Md_sent 6 = .ok (.aload_n 0, 1) := by decide +kernel
theorem d_Md_sent_7 : decode b_Md_sent 7 = .ok (.getfield 126, 3) := by decide +kernel
theorem d_Md_sent_10 : decode b_Md_sent 10 = .ok (.iload_n 1, 1) := by decide +kernel
theorem d_Md_sent_11 : decode b_Md_sent 11 = .ok (.iadd, 1) := by decide +kernel
theorem d_Md_sent_12 : decode b_Md_sent 12 = .ok (.aload_n 0, 1) := by decide +kernel
theorem d_Md_sent_13 : decode b_Md_sent 13 = .ok (.getfield 130, 3) := by decide +kernel
theorem d_Md_sent_16 : decode b_Md_sent 16 = .ok (.if_icmp .ne 7, 3) := by decide +kernel
theorem d_Md_sent_19 : decode b_Md_sent 19 = .ok (.iconst 0, 1) := by decide +kernel
theorem d_Md_sent_20 : decode b_Md_sent 20 = .ok (.goto 9, 3) := by decide +kernel
theorem d_Md_sent_23 : decode b_Md_sent 23 = .ok (.aload_n 0, 1) := by decide +kernel
theorem d_Md_sent_24 : decode b_Md_sent 24 = .ok (.getfield 126, 3) := by decide +kernel
theorem d_Md_sent_27 : decode b_Md_sent 27 = .ok (.iload_n 1, 1) := by decide +kernel
theorem d_Md_sent_28 : decode b_Md_sent 28 = .ok (.iadd, 1) := by decide +kernel
theorem d_Md_sent_29 : decode b_Md_sent 29 = .ok (.putfield 126, 3) := by decide +kernel
theorem d_Md_sent_32 : decode b_Md_sent 32 = .ok (.aload_n 0, 1) := by decide +kernel
theorem d_Md_sent_33 : decode b_Md_sent 33 = .ok (.aload_n 0, 1) := by decide +kernel
theorem d_Md_sent_34 : decode b_Md_sent 34 = .ok (.getfield 153, 3) := by decide +kernel
theorem d_Md_sent_37 : decode b_Md_sent 37 = .ok (.iconst 1, 1) := by decide +kernel
theorem d_Md_sent_38 : decode b_Md_sent 38 = .ok (.iadd, 1) := by decide +kernel
theorem d_Md_sent_39 : decode b_Md_sent 39 = .ok (.bipush 16, 2) := by decide +kernel
theorem d_Md_sent_41 : decode b_Md_sent 41 = .ok (.irem, 1) := by decide +kernel
theorem d_Md_sent_42 : decode b_Md_sent 42 = .ok (.putfield 153, 3) := by decide +kernel
theorem d_Md_sent_45 : decode b_Md_sent 45 = .ok (.return_, 1) := by decide +kernel
theorem d_Md_peek_0 : decode b_Md_peek 0 = .ok (.aload_n 0, 1) := by decide +kernel
theorem d_Md_peek_1 : decode b_Md_peek 1 = .ok (.getfield 109, 3) := by decide +kernel
theorem d_Md_peek_4 : decode b_Md_peek 4 = .ok (.ifCond .eq 13, 3) := by decide +kernel
theorem d_Md_peek_7 : decode b_Md_peek 7 = .ok (.iload_n 1, 1) := by decide +kernel
theorem d_Md_peek_8 : decode b_Md_peek 8 = .ok (.iconst 0, 1) := by decide +kernel
theorem d_Md_peek_9 : decode b_Md_peek 9 = .ok (.bipush 15, 2) := by decide +kernel
theorem d_Md_peek_11 : decode b_Md_peek 11 = .ok (.invokestatic 84, 3) := by decide +kernel
theorem d_Md_peek_14 : decode b_Md_peek 14 = .ok (.ifCond .ne 6, 3) := by decide +kernel
theorem d_Md_peek_17 : decode b_Md_peek 17 = .ok (.bipush (-2), 2) := by decide +kernel
theorem d_Md_peek_19 : decode b_Md_peek 19 = .ok (.ireturn, 1) := by decide +kernel
theorem d_Md_peek_20 : decode b_Md_peek 20 = .ok (.aload_n 0, 1) := by decide +kernel
theorem d_Md_peek_21 : decode b_Md_peek 21 = .ok (.invokevirtual 156, 3) := by decide +kernel
theorem d_Md_peek_24 : decode b_Md_peek 24 = .ok (.istore_n 2, 1) := by decide +kernel
theorem d_Md_peek_25 : decode b_Md_peek 25 = .ok (.iload_n 2, 1) := by decide +kernel
theorem d_Md_peek_26 : decode b_Md_peek 26 = .ok (.ifCond .ge 8, 3) := by decide +kernel
theorem d_Md_peek_29 : decode b_Md_peek 29 = .ok (.bipush (-2), 2) := by decide +kernel
theorem d_Md_peek_31 : decode b_Md_peek 31 = .ok (.goto 9, 3) := by decide +kernel
theorem d_Md_peek_34 : decode b_Md_peek 34 = .ok (.aload_n 0, 1) := by decide +kernel
theorem d_Md_peek_35 : decode b_Md_peek 35 = .ok (.getfield 53, 3) := by decide +kernel
theorem d_Md_peek_38 : decode b_Md_peek 38 = .ok (.iload_n 1, 1) := by decide +kernel
theorem d_Md_peek_39 : decode b_Md_peek 39 = .ok (.iaload, 1) := by decide +kernel
theorem d_Md_peek_40 : decode b_Md_peek 40 = .ok (.ireturn, 1) := by decide +kernel
theorem d_Md_pass_0 : decode b_Md_pass 0 = .ok (.iload_n 1, 1) := by decide +kernel
theorem d_Md_pass_1 : decode b_Md_pass 1 = .ok (.iconst 0, 1) := by decide +kernel
theorem d_Md_pass_2 : decode b_Md_pass 2 = .ok (.bipush 64, 2) := by decide +kernel
theorem d_Md_pass_4 : decode b_Md_pass 4 = .ok (.invokestatic 84, 3) := by decide +kernel
theorem d_Md_pass_7 : decode b_Md_pass 7 = .ok (.ifCond .ne 5, 3) := by decide +kernel
theorem d_Md_pass_10 : decode b_Md_pass 10 = .ok (.iconst (-1), 1) := by decide +kernel
theorem d_Md_pass_11 : decode b_Md_pass 11 = .ok (.ireturn, 1) := by decide +kernel
theorem d_Md_pass_12 : decode b_Md_pass 12 = .ok (.aload_n 0, 1) := by decide +kernel
theorem d_Md_pass_13 : decode b_Md_pass 13 = .ok (.getfield 109, 3) := by decide +kernel
theorem d_Md_pass_16 : decode b_Md_pass 16 = .ok (.ifCond .ne 6, 3) := by decide +kernel
theorem d_Md_pass_19 : decode b_Md_pass 19 = .ok (.bipush (-2), 2) := by decide +kernel
theorem d_Md_pass_21 : decode b_Md_pass 21 = .ok (.ireturn, 1) := by decide +kernel
theorem d_Md_pass_22 : decode b_Md_pass 22 = .ok (.iconst 0, 1) := by decide +kernel
theorem d_Md_pass_23 : decode b_Md_pass 23 = .ok (.istore_n 3, 1) := by decide +kernel
theorem d_Md_pass_24 : decode b_Md_pass 24 = .ok (.iload_n 3, 1) := by decide +kernel
theorem d_Md_pass_25 : decode b_Md_pass 25 = .ok (.iload_n 1, 1) := by decide +kernel
theorem d_Md_pass_26 : decode b_Md_pass 26 = .ok (.if_icmp .ge 21, 3) := by decide +kernel
theorem d_Md_pass_29 : decode b_Md_pass 29 = .ok (.aload_n 0, 1) := by decide +kernel
theorem d_Md_pass_30 : decode b_Md_pass 30 = .ok (.invokevirtual 159, 3) := by decide +kernel
theorem d_Md_pass_33 : decode b_Md_pass 33 = .ok (.iload_n 2, 1) := by decide +kernel
theorem d_Md_pass_34 : decode b_Md_pass 34 = .ok (.ifCond .eq 7, 3) := by decide +kernel
theorem d_Md_pass_37 : decode b_Md_pass 37 = .ok (.aload_n 0, 1) := by decide +kernel
theorem d_Md_pass_38 : decode b_Md_pass 38 = .ok (.invokevirtual 162, 3) := by decide +kernel
theorem d_Md_pass_41 : decode b_Md_pass 41 = .ok (.iinc 3 1, 3) := by decide +kernel
theorem d_Md_pass_44 : decode b_Md_pass 44 = .ok (.goto (-20), 3) := by decide +kernel
theorem d_Md_pass_47 : decode b_Md_pass 47 = .ok (.iload_n 1, 1) := by decide +kernel
theorem d_Md_pass_48 : decode b_Md_pass 48 = .ok (.ireturn, 1) := by decide +kernel
theorem d_Md_send_0 : decode b_Md_send 0 = .ok (.aload_n 0, 1) := by decide +kernel
theorem d_Md_send_1 : decode b_Md_send 1 = .ok (.iload_n 1, 1) := by decide +kernel
theorem d_Md_send_2 : decode b_Md_send 2 = .ok (.iconst 1, 1) := by decide +kernel
theorem d_Md_send_3 : decode b_Md_send 3 = .ok (.invokevirtual 165, 3) := by decide +kernel
theorem d_Md_send_6 : decode b_Md_send 6 = .ok (.ireturn, 1) := by decide +kernel
theorem d_Md_lose_0 : decode b_Md_lose 0 = .ok (.aload_n 0, 1) := by decide +kernel
theorem d_Md_lose_1 : decode b_Md_lose 1 = .ok (.iload_n 1, 1) := by decide +kernel
theorem d_Md_lose_2 : decode b_Md_lose 2 = .ok (.iconst 0, 1) := by decide +kernel
theorem d_Md_lose_3 : decode b_Md_lose 3 = .ok (.invokevirtual 165, 3) := by decide +kernel
theorem d_Md_lose_6 : decode b_Md_lose 6 = .ok (.ireturn, 1) := by decide +kernel
theorem d_Md_spoil_0 : decode b_Md_spoil 0 = .ok (.iload_n 1, 1) := by decide +kernel
theorem d_Md_spoil_1 : decode b_Md_spoil 1 = .ok (.iconst 0, 1) := by decide +kernel
theorem d_Md_spoil_2 : decode b_Md_spoil 2 = .ok (.bipush 15, 2) := by decide +kernel
theorem d_Md_spoil_4 : decode b_Md_spoil 4 = .ok (.invokestatic 84, 3) := by decide +kernel
theorem d_Md_spoil_7 : decode b_Md_spoil 7 = .ok (.ifCond .eq 14, 3) := by decide +kernel
theorem d_Md_spoil_10 : decode b_Md_spoil 10 = .ok (.iload_n 2, 1) := by decide +kernel
theorem d_Md_spoil_11 : decode b_Md_spoil 11 = .ok (.iconst 0, 1) := by decide +kernel
theorem d_Md_spoil_12 : decode b_Md_spoil 12 = .ok (.sipush 255, 3) := by decide +kernel
theorem d_Md_spoil_15 : decode b_Md_spoil 15 = .ok (.invokestatic 84, 3) := by decide +kernel
theorem d_Md_spoil_18 : decode b_Md_spoil 18 = .ok (.ifCond .ne 5, 3) := by decide +kernel
theorem d_Md_spoil_21 : decode b_Md_spoil 21 = .ok (.iconst (-1), 1) := by decide +kernel
theorem d_Md_spoil_22 : decode b_Md_spoil 22 = .ok (.ireturn, 1) := by decide +kernel
theorem d_Md_spoil_23 : decode b_Md_spoil 23 = .ok (.aload_n 0, 1) := by decide +kernel
theorem d_Md_spoil_24 : decode b_Md_spoil 24 = .ok (.getfield 109, 3) := by decide +kernel
theorem d_Md_spoil_27 : decode b_Md_spoil 27 = .ok (.ifCond .ne 6, 3) := by decide +kernel
theorem d_Md_spoil_30 : decode b_Md_spoil 30 = .ok (.bipush (-2), 2) := by decide +kernel
theorem d_Md_spoil_32 : decode b_Md_spoil 32 = .ok (.ireturn, 1) := by decide +kernel
theorem d_Md_spoil_33 : decode b_Md_spoil 33 = .ok (.aload_n 0, 1) := by decide +kernel
theorem d_Md_spoil_34 : decode b_Md_spoil 34 = .ok (.invokevirtual 159, 3) := by decide +kernel
theorem d_Md_spoil_37 : decode b_Md_spoil 37 = .ok (.aload_n 0, 1) := by decide +kernel
theorem d_Md_spoil_38 : decode b_Md_spoil 38 = .ok (.getfield 53, 3) := by decide +kernel
theorem d_Md_spoil_41 : decode b_Md_spoil 41 = .ok (.iload_n 1, 1) := by decide +kernel
theorem d_Md_spoil_42 : decode b_Md_spoil 42 = .ok (.aload_n 0, 1) := by decide +kernel
theorem d_Md_spoil_43 : decode b_Md_spoil 43 = .ok (.getfield 53, 3) := by decide +kernel
theorem d_Md_spoil_46 : decode b_Md_spoil 46 = .ok (.iload_n 1, 1) := by decide +kernel
theorem d_Md_spoil_47 : decode b_Md_spoil 47 = .ok (.iaload, 1) := by decide +kernel
theorem d_Md_spoil_48 : decode b_Md_spoil 48 = .ok (.iload_n 2, 1) := by decide +kernel
theorem d_Md_spoil_49 : decode b_Md_spoil 49 = .ok (.ixor, 1) := by decide +kernel
theorem d_Md_spoil_50 : decode b_Md_spoil 50 = .ok (.iastore, 1) := by decide +kernel
theorem d_Md_spoil_51 : decode b_Md_spoil 51 = .ok (.aload_n 0, 1) := by decide +kernel
theorem d_Md_spoil_52 : decode b_Md_spoil 52 = .ok (.invokevirtual 162, 3) := by decide +kernel
theorem d_Md_spoil_55 : decode b_Md_spoil 55 = .ok (.iconst 1, 1) := by decide +kernel
theorem d_Md_spoil_56 : decode b_Md_spoil 56 = .ok (.ireturn, 1) := by decide +kernel
theorem d_Md_retune_0 : decode b_Md_retune 0 = .ok (.aload_n 0, 1) := by decide +kernel
theorem d_Md_retune_1 : decode b_Md_retune 1 = .ok (.iconst (-1), 1) := by decide +kernel
theorem d_Md_retune_2 : decode b_Md_retune 2 = .ok (.putfield 56, 3) := by decide +kernel
theorem d_Md_retune_5 : decode b_Md_retune 5 = .ok (.aload_n 0, 1) := by decide +kernel
theorem d_Md_retune_6 : decode b_Md_retune 6 = .ok (.iconst (-1), 1) := by decide +kernel
theorem d_Md_retune_7 : decode b_Md_retune 7 = .ok (.putfield 60, 3) := by decide +kernel
theorem d_Md_retune_10 : decode b_Md_retune 10 = .ok (.aload_n 0, 1) := by decide +kernel
theorem d_Md_retune_11 : decode b_Md_retune 11 = .ok (.iconst 0, 1) := by decide +kernel
theorem d_Md_retune_12 : decode b_Md_retune 12 = .ok (.putfield 169, 3) := by decide +kernel
theorem d_Md_retune_15 : decode b_Md_retune 15 = .ok (.iconst 0, 1) := by decide +kernel
theorem d_Md_retune_16 : decode b_Md_retune 16 = .ok (.istore_n 1, 1) := by decide +kernel
theorem d_Md_retune_17 : decode b_Md_retune 17 = .ok (.iload_n 1, 1) := by decide +kernel
theorem d_Md_retune_18 : decode b_Md_retune 18 = .ok (.bipush 12, 2) := by decide +kernel
theorem d_Md_retune_20 : decode b_Md_retune 20 = .ok (.if_icmp .ge 21, 3) := by decide +kernel
theorem d_Md_retune_23 : decode b_Md_retune 23 = .ok (.aload_n 0, 1) := by decide +kernel
theorem d_Md_retune_24 : decode b_Md_retune 24 = .ok (.getfield 63, 3) := by decide +kernel
theorem d_Md_retune_27 : decode b_Md_retune 27 = .ok (.iload_n 1, 1) := by decide +kernel
theorem d_Md_retune_28 : decode b_Md_retune 28 = .ok (.iconst 0, 1) := by decide +kernel
theorem d_Md_retune_29 : decode b_Md_retune 29 = .ok (.bastore, 1) := by decide +kernel
theorem d_Md_retune_30 : decode b_Md_retune 30 = .ok (.aload_n 0, 1) := by decide +kernel
theorem d_Md_retune_31 : decode b_Md_retune 31 = .ok (.iload_n 1, 1) := by decide +kernel
theorem d_Md_retune_32 : decode b_Md_retune 32 = .ok (.invokevirtual 173, 3) := by decide +kernel
theorem d_Md_retune_35 : decode b_Md_retune 35 = .ok (.iinc 1 1, 3) := by decide +kernel
theorem d_Md_retune_38 : decode b_Md_retune 38 = .ok (.goto (-21), 3) := by decide +kernel
theorem d_Md_retune_41 : decode b_Md_retune 41 = .ok (.iconst 0, 1) := by decide +kernel
theorem d_Md_retune_42 : decode b_Md_retune 42 = .ok (.istore_n 1, 1) := by decide +kernel
theorem d_Md_retune_43 : decode b_Md_retune 43 = .ok (.iload_n 1, 1) := by decide +kernel
theorem d_Md_retune_44 : decode b_Md_retune 44 = .ok (.bipush 6, 2) := by decide +kernel
theorem d_Md_retune_46 : decode b_Md_retune 46 = .ok (.if_icmp .ge 16, 3) := by decide +kernel
theorem d_Md_retune_49 : decode b_Md_retune 49 = .ok (.aload_n 0, 1) := by decide +kernel
theorem d_Md_retune_50 : decode b_Md_retune 50 = .ok (.getfield 81, 3) := by decide +kernel
theorem d_Md_retune_53 : decode b_Md_retune 53 = .ok (.iload_n 1, 1) := by decide +kernel
theorem d_Md_retune_54 : decode b_Md_retune 54 = .ok (.iconst 0, 1) := by decide +kernel
theorem d_Md_retune_55 : decode b_Md_retune 55 = .ok (.iastore, 1) := by decide +kernel
theorem d_Md_retune_56 : decode b_Md_retune 56 = .ok (.iinc 1 1, 3) := by decide +kernel
theorem d_Md_retune_59 : decode b_Md_retune 59 = .ok (.goto (-16), 3) := by decide +kernel
theorem d_Md_retune_62 : decode b_Md_retune 62 = .ok (.return_, 1) := by decide +kernel
theorem d_Md_nothing_0 : decode b_Md_nothing 0 = .ok (.bipush 6, 2) := by decide +kernel
theorem d_Md_nothing_2 : decode b_Md_nothing 2 = .ok (.iload_n 1, 1) := by decide +kernel
theorem d_Md_nothing_3 : decode b_Md_nothing 3 = .ok (.imul, 1) := by decide +kernel
theorem d_Md_nothing_4 : decode b_Md_nothing 4 = .ok (.istore_n 2, 1) := by decide +kernel
theorem d_Md_nothing_5 : decode b_Md_nothing 5 = .ok (.iload_n 2, 1) := by decide +kernel
theorem d_Md_nothing_6 : decode b_Md_nothing 6 = .ok (.bipush 6, 2) := by decide +kernel
theorem d_Md_nothing_8 : decode b_Md_nothing 8 = .ok (.iload_n 1, 1) := by decide +kernel
theorem d_Md_nothing_9 : decode b_Md_nothing 9 = .ok (.imul, 1) := by decide +kernel
theorem d_Md_nothing_10 : decode b_Md_nothing 10 = .ok (.bipush 6, 2) := by decide +kernel
theorem d_Md_nothing_12 : decode b_Md_nothing 12 = .ok (.iadd, 1) := by decide +kernel
theorem d_Md_nothing_13 : decode b_Md_nothing 13 = .ok (.if_icmp .ge 16, 3) := by decide +kernel
theorem d_Md_nothing_16 : decode b_Md_nothing 16 = .ok (.aload_n 0, 1) := by decide +kernel
theorem d_Md_nothing_17 : decode b_Md_nothing 17 = .ok (.getfield 72, 3) := by decide +kernel
theorem d_Md_nothing_20 : decode b_Md_nothing 20 = .ok (.iload_n 2, 1) := by decide +kernel
theorem d_Md_nothing_21 : decode b_Md_nothing 21 = .ok (.iconst 0, 1) := by decide +kernel
theorem d_Md_nothing_22 : decode b_Md_nothing 22 = .ok (.bastore, 1) := by decide +kernel
theorem d_Md_nothing_23 : decode b_Md_nothing 23 = .ok (.iinc 2 1, 3) := by decide +kernel
theorem d_Md_nothing_26 : decode b_Md_nothing 26 = .ok (.goto (-21), 3) := by decide +kernel
theorem d_Md_nothing_29 : decode b_Md_nothing 29 = .ok (.return_, 1) := by decide +kernel
theorem d_Md_throwAway_0 : decode b_Md_throwAway 0 = .ok (.aload_n 0, 1) := by decide +kernel
theorem d_Md_throwAway_1 : decode b_Md_throwAway 1 = .ok (.getfield 81, 3) := by decide +kernel
theorem d_Md_throwAway_4 : decode b_Md_throwAway 4 = .ok (.iconst 4, 1) := by decide +kernel
theorem d_Md_throwAway_5 : decode b_Md_throwAway 5 = .ok (.aload_n 0, 1) := by decide +kernel
theorem d_Md_throwAway_6 : decode b_Md_throwAway 6 = .ok (.getfield 169, 3) := by decide +kernel
theorem d_Md_throwAway_9 : decode b_Md_throwAway 9 = .ok (.ifCond .eq 14, 3) := by decide +kernel
theorem d_Md_throwAway_12 : decode b_Md_throwAway 12 = .ok (.aload_n 0, 1) := by decide +kernel
theorem d_Md_throwAway_13 : decode b_Md_throwAway 13 = .ok (.getfield 81, 3) := by decide +kernel
theorem d_Md_throwAway_16 : decode b_Md_throwAway 16 = .ok (.iconst 4, 1) := by decide +kernel
theorem d_Md_throwAway_17 : decode b_Md_throwAway 17 = .ok (.iaload, 1) := by decide +kernel
theorem d_Md_throwAway_18 : decode b_Md_throwAway 18 = .ok (.iconst 1, 1) := by decide +kernel
theorem d_Md_throwAway_19 : decode b_Md_throwAway 19 = .ok (.iadd, 1) := by decide +kernel
theorem d_Md_throwAway_20 : decode b_Md_throwAway 20 = .ok (.goto 9, 3) := by decide +kernel
theorem d_Md_throwAway_23 : decode b_Md_throwAway 23 = .ok (.aload_n 0, 1) := by decide +kernel
theorem d_Md_throwAway_24 : decode b_Md_throwAway 24 = .ok (.getfield 81, 3) := by decide +kernel
theorem d_Md_throwAway_27 : decode b_Md_throwAway 27 = .ok (.iconst 4, 1) := by decide +kernel
theorem d_Md_throwAway_28 : decode b_Md_throwAway 28 = .ok (.iaload, 1) := by decide +kernel
theorem d_Md_throwAway_29 : decode b_Md_throwAway 29 = .ok (.iastore, 1) := by decide +kernel
theorem d_Md_throwAway_30 : decode b_Md_throwAway 30 = .ok (.aload_n 0, 1) := by decide +kernel
theorem d_Md_throwAway_31 : decode b_Md_throwAway 31 = .ok (.iconst 0, 1) := by decide +kernel
theorem d_Md_throwAway_32 : decode b_Md_throwAway 32 = .ok (.putfield 169, 3) := by decide +kernel
theorem d_Md_throwAway_35 : decode b_Md_throwAway 35 = .ok (.return_, 1) := by decide +kernel
theorem d_Md_receive_0 : decode b_Md_receive 0 = .ok (.aload_n 0, 1) := by decide +kernel
theorem d_Md_receive_1 : decode b_Md_receive 1 = .ok (.getfield 53, 3) := by decide +kernel
theorem d_Md_receive_4 : decode b_Md_receive 4 = .ok (.iconst 1, 1) := by decide +kernel
theorem d_Md_receive_5 : decode b_Md_receive 5 = .ok (.iaload, 1) := by decide +kernel
theorem d_Md_receive_6 : decode b_Md_receive 6 = .ok (.istore_n 1, 1) := by decide +kernel
theorem d_Md_receive_7 : decode b_Md_receive 7 = .ok (.aload_n 0, 1) := by decide +kernel
theorem d_Md_receive_8 : decode b_Md_receive 8 = .ok (.getfield 53, 3) := by decide +kernel
theorem d_Md_receive_11 : decode b_Md_receive 11 = .ok (.iconst 0, 1) := by decide +kernel
theorem d_Md_receive_12 : decode b_Md_receive 12 = .ok (.iaload, 1) := by decide +kernel
theorem d_Md_receive_13 : decode b_Md_receive 13 = .ok (.bipush 71, 2) := by decide +kernel
theorem d_Md_receive_15 : decode b_Md_receive 15 = .ok (.if_icmp .ne 11, 3) := by decide +kernel
theorem d_Md_receive_18 : decode b_Md_receive 18 = .ok (.iload_n 1, 1) := by decide +kernel
theorem d_Md_receive_19 : decode b_Md_receive 19 = .ok (.sipush 176, 3) := by decide +kernel
theorem d_Md_receive_22 : decode b_Md_receive 22 = .ok (.iand, 1) := by decide +kernel
theorem d_Md_receive_23 : decode b_Md_receive 23 = .ok (.ifCond .eq 14, 3) := by decide +kernel
theorem d_Md_receive_26 : decode b_Md_receive 26 = .ok (.aload_n 0, 1) := by decide +kernel
theorem d_Md_receive_27 : decode b_Md_receive 27 = .ok (.getfield 81, 3) := by decide +kernel
theorem d_Md_receive_30 : decode b_Md_receive 30 = .ok (.iconst 5, 1) := by decide +kernel
theorem d_Md_receive_31 : decode b_Md_receive 31 = .ok (.dup2, 1) := by decide +kernel
theorem d_Md_receive_32 : decode b_Md_receive 32 = .ok (.iaload, 1) := by decide +kernel
theorem d_Md_receive_33 : decode b_Md_receive 33 = .ok (.iconst 1, 1) := by decide +kernel
theorem d_Md_receive_34 : decode b_Md_receive 34 = .ok (.iadd, 1) := by decide +kernel
theorem d_Md_receive_35 : decode b_Md_receive 35 = .ok (.iastore, 1) := by decide +kernel
theorem d_Md_receive_36 : decode b_Md_receive 36 = .ok (.return_, 1) := by decide +kernel
theorem d_Md_receive_37 : decode b_Md_receive 37 = .ok (.iload_n 1, 1) := by decide +kernel
theorem d_Md_receive_38 : decode b_Md_receive 38 = .ok (.bipush 15, 2) := by decide +kernel
theorem d_Md_receive_40 : decode b_Md_receive 40 = .ok (.iand, 1) := by decide +kernel
theorem d_Md_receive_41 : decode b_Md_receive 41 = .ok (.istore_n 2, 1) := by decide +kernel
theorem d_Md_receive_42 : decode b_Md_receive 42 = .ok (.aload_n 0, 1) := by decide +kernel
theorem d_Md_receive_43 : decode b_Md_receive 43 = .ok (.getfield 60, 3) := by decide +kernel
theorem d_Md_receive_46 : decode b_Md_receive 46 = .ok (.ifCond .lt 20, 3) := by decide +kernel
theorem d_Md_receive_49 : decode b_Md_receive 49 = .ok (.iload_n 2, 1) := by decide +kernel
theorem d_Md_receive_50 : decode b_Md_receive 50 = .ok (.aload_n 0, 1) := by decide +kernel
theorem d_Md_receive_51 : decode b_Md_receive 51 = .ok (.getfield 60, 3) := by decide +kernel
theorem d_Md_receive_54 : decode b_Md_receive 54 = .ok (.iconst 1, 1) := by decide +kernel
theorem d_Md_receive_55 : decode b_Md_receive 55 = .ok (.iadd, 1) := by decide +kernel
theorem d_Md_receive_56 : decode b_Md_receive 56 = .ok (.bipush 16, 2) := by decide +kernel
theorem d_Md_receive_58 : decode b_Md_receive 58 = .ok (.irem, 1) := by decide +kernel
theorem d_Md_receive_59 : decode b_Md_receive 59 = .ok (.if_icmp .eq 7, 3) := by decide +kernel
theorem d_Md_receive_62 : decode b_Md_receive 62 = .ok (.aload_n 0, 1) := by decide +kernel
theorem d_Md_receive_63 : decode b_Md_receive 63 = .ok (.invokevirtual 176, 3) := by decide +kernel
theorem d_Md_receive_66 : decode b_Md_receive 66 = .ok (.aload_n 0, 1) := by decide +kernel
theorem d_Md_receive_67 : decode b_Md_receive 67 = .ok (.iload_n 2, 1) := by decide +kernel
theorem d_Md_receive_68 : decode b_Md_receive 68 = .ok (.putfield 60, 3) := by decide +kernel
theorem d_Md_receive_71 : decode b_Md_receive 71 = .ok (.iload_n 1, 1) := by decide +kernel
theorem d_Md_receive_72 : decode b_Md_receive 72 = .ok (.bipush 64, 2) := by decide +kernel
theorem d_Md_receive_74 : decode b_Md_receive 74 = .ok (.iand, 1) := by decide +kernel
theorem d_Md_receive_75 : decode b_Md_receive 75 = .ok (.ifCond .ne 11, 3) := by decide +kernel
theorem d_Md_receive_78 : decode b_Md_receive 78 = .ok (.aload_n 0, 1) := by decide +kernel
theorem d_Md_receive_79 : decode b_Md_receive 79 = .ok (.iconst 2, 1) := by decide +kernel
theorem d_Md_receive_80 : decode b_Md_receive 80 = .ok (.bipush 16, 2) := by decide +kernel
theorem d_Md_receive_82 : decode b_Md_receive 82 = .ok (.invokevirtual 179, 3) := by decide +kernel
theorem d_Md_receive_85 : decode b_Md_receive 85 = .ok (.return_, 1) := by decide +kernel
theorem d_Md_receive_86 : decode b_Md_receive 86 = .ok (.aload_n 0, 1) := by decide +kernel
theorem d_Md_receive_87 : decode b_Md_receive 87 = .ok (.getfield 53, 3) := by decide +kernel
theorem d_Md_receive_90 : decode b_Md_receive 90 = .ok (.iconst 2, 1) := by decide +kernel
theorem d_Md_receive_91 : decode b_Md_receive 91 = .ok (.iaload, 1) := by decide +kernel
theorem d_Md_receive_92 : decode b_Md_receive 92 = .ok (.istore_n 3, 1) := by decide +kernel
theorem d_Md_receive_93 : decode b_Md_receive 93 = .ok (.iload_n 3, 1) := by decide +kernel
theorem d_Md_receive_94 : decode b_Md_receive 94 = .ok (.bipush 13, 2) := by decide +kernel
theorem d_Md_receive_96 : decode b_Md_receive 96 = .ok (.if_icmp .le 8, 3) := by decide +kernel
theorem d_Md_receive_99 : decode b_Md_receive 99 = .ok (.aload_n 0, 1) := by decide +kernel
theorem d_Md_receive_100 : decode b_Md_receive 100 = .ok (.invokevirtual 176, 3) := by decide +kernel
theorem d_Md_receive_103 : decode b_Md_receive 103 = .ok (.return_, 1) := by decide +kernel
theorem d_Md_receive_104 : decode b_Md_receive 104 = .ok (.aload_n 0, 1) := by decide +kernel
theorem d_Md_receive_105 : decode b_Md_receive 105 = .ok (.iconst 3, 1) := by decide +kernel
theorem d_Md_receive_106 : decode b_Md_receive 106 = .ok (.iconst 3, 1) := by decide +kernel
theorem d_Md_receive_107 : decode b_Md_receive 107 = .ok (.iload_n 3, 1) := by decide +kernel
theorem d_Md_receive_108 : decode b_Md_receive 108 = .ok (.iadd, 1) := by decide +kernel
theorem d_Md_receive_109 : decode b_Md_receive 109 = .ok (.invokevirtual 179, 3) := by decide +kernel
theorem d_Md_receive_112 : decode b_Md_receive 112 = .ok (.aload_n 0, 1) := by decide +kernel
theorem d_Md_receive_113 : decode b_Md_receive 113 = .ok (.invokevirtual 176, 3) := by decide +kernel
theorem d_Md_receive_116 : decode b_Md_receive 116 = .ok (.iconst 3, 1) := by decide +kernel
theorem d_Md_receive_117 : decode b_Md_receive 117 = .ok (.iload_n 3, 1) := by decide +kernel
theorem d_Md_receive_118 : decode b_Md_receive 118 = .ok (.iadd, 1) := by decide +kernel
theorem d_Md_receive_119 : decode b_Md_receive 119 = .ok (.istore 4, 2) := by decide +kernel
theorem d_Md_receive_121 : decode b_Md_receive 121 = .ok (.iload 4, 2) := by decide +kernel
theorem d_Md_receive_123 : decode b_Md_receive 123 = .ok (.bipush 16, 2) := by decide +kernel
theorem d_Md_receive_125 : decode b_Md_receive 125 = .ok (.if_icmp .ge 51, 3) := by decide +kernel
theorem d_Md_receive_128 : decode b_Md_receive 128 = .ok (.aload_n 0, 1) := by decide +kernel
theorem d_Md_receive_129 : decode b_Md_receive 129 = .ok (.getfield 169, 3) := by decide +kernel
theorem d_Md_receive_132 : decode b_Md_receive 132 = .ok (.ifCond .ne 27, 3) := by decide +kernel
theorem d_Md_receive_135 : decode b_Md_receive 135 = .ok (.aload_n 0, 1) := by decide +kernel
theorem d_Md_receive_136 : decode b_Md_receive 136 = .ok (.getfield 53, 3) := by decide +kernel
theorem d_Md_receive_139 : decode b_Md_receive 139 = .ok (.iload 4, 2) := by decide +kernel
theorem d_Md_receive_141 : decode b_Md_receive 141 = .ok (.iaload, 1) := by decide +kernel
theorem d_Md_receive_142 : decode b_Md_receive 142 = .ok (.sipush 255, 3) := by decide +kernel
theorem d_Md_receive_145 : decode b_Md_receive 145 = .ok (.if_icmp .ne 4, 3) := by decide +kernel
theorem d_Md_receive_148 : decode b_Md_receive 148 = .ok (.return_, 1) := by decide +kernel
theorem d_Md_receive_149 : decode b_Md_receive 149 = .ok (.aload_n 0, 1) := by decide +kernel
theorem d_Md_receive_150 : decode b_Md_receive 150 = .ok (.iconst 1, 1) := by decide +kernel
theorem d_Md_receive_151 : decode b_Md_receive 151 = .ok (.putfield 169, 3) := by decide +kernel
theorem d_Md_receive_154 : decode b_Md_receive 154 = .ok (.aload_n 0, 1) := by decide +kernel
theorem d_Md_receive_155 : decode b_Md_receive 155 = .ok (.iconst 0, 1) := by decide +kernel
theorem d_Md_receive_156 : decode b_Md_receive 156 = .ok (.putfield 182, 3) := by decide +kernel
theorem d_Md_receive_159 : decode b_Md_receive 159 = .ok (.aload_n 0, 1) := by decide +kernel
theorem d_Md_receive_160 : decode b_Md_receive 160 = .ok (.aload_n 0, 1) := by decide +kernel
theorem d_Md_receive_161 : decode b_Md_receive 161 = .ok (.getfield 53, 3) := by decide +kernel
theorem d_Md_receive_164 : decode b_Md_receive 164 = .ok (.iload 4, 2) := by decide +kernel
theorem d_Md_receive_166 : decode b_Md_receive 166 = .ok (.iaload, 1) := by decide +kernel
theorem d_Md_receive_167 : decode b_Md_receive 167 = .ok (.invokevirtual 185, 3) := by decide +kernel
theorem d_Md_receive_170 : decode b_Md_receive 170 = .ok (.iinc 4 1, 3) := by decide +kernel
theorem d_Md_receive_173 : decode b_Md_receive 173 = .ok (.goto (-52), 3) := by decide +kernel
theorem d_Md_receive_176 : decode b_Md_receive 176 = .ok (.return_, 1) := by decide +kernel
theorem d_Md_more_0 : decode b_Md_more 0 = .ok (.iload_n 1, 1) := by decide +kernel
theorem d_Md_more_1 : decode b_Md_more 1 = .ok (.istore_n 3, 1) := by decide +kernel
theorem d_Md_more_2 : decode b_Md_more 2 = .ok (.iload_n 3, 1) := by decide +kernel
theorem d_Md_more_3 : decode b_Md_more 3 = .ok (.iload_n 2, 1) := by decide +kernel
theorem d_Md_more_4 : decode b_Md_more 4 = .ok (.if_icmp .ge 26, 3) := by decide +kernel
theorem d_Md_more_7 : decode b_Md_more 7 = .ok (.aload_n 0, 1) := by decide +kernel
theorem d_Md_more_8 : decode b_Md_more 8 = .ok (.getfield 169, 3) := by decide +kernel
theorem d_Md_more_11 : decode b_Md_more 11 = .ok (.ifCond .eq 19, 3) := by decide +kernel
theorem d_Md_more_14 : decode b_Md_more 14 = .ok (.aload_n 0, 1) := by decide +kernel
theorem d_Md_more_15 : decode b_Md_more 15 = .ok (.aload_n 0, 1) := by decide +kernel
theorem d_Md_more_16 : decode b_Md_more 16 = .ok (.getfield 53, 3) := by decide +kernel
theorem d_Md_more_19 : decode b_Md_more 19 = .ok (.iload_n 3, 1) := by decide +kernel
theorem d_Md_more_20 : decode b_Md_more 20 = .ok (.iaload, 1) := by decide +kernel
theorem d_Md_more_21 : decode b_Md_more 21 = .ok (.invokevirtual 185, 3) := by decide +kernel
theorem d_Md_more_24 : decode b_Md_more 24 = .ok (.iinc 3 1, 3) := by decide +kernel
theorem d_Md_more_27 : decode b_Md_more 27 = .ok (.goto (-25), 3) := by decide +kernel
theorem d_Md_more_30 : decode b_Md_more 30 = .ok (.return_, 1) := by decide +kernel
theorem d_Md_take_0 : decode b_Md_take 0 = .ok (.aload_n 0, 1) := by decide +kernel
theorem d_Md_take_1 : decode b_Md_take 1 = .ok (.getfield 78, 3) := by decide +kernel
theorem d_Md_take_4 : decode b_Md_take 4 = .ok (.aload_n 0, 1) := by decide +kernel
theorem d_Md_take_5 : decode b_Md_take 5 = .ok (.getfield 182, 3) := by decide +kernel
theorem d_Md_take_8 : decode b_Md_take 8 = .ok (.iload_n 1, 1) := by decide +kernel
theorem d_Md_take_9 : decode b_Md_take 9 = .ok (.iastore, 1) := by decide +kernel
theorem d_Md_take_10 : decode b_Md_take 10 = .ok (.aload_n 0, 1) := by decide +kernel
theorem d_Md_take_11 : decode b_Md_take 11 = .ok (.dup, 1) := by decide +kernel
theorem d_Md_take_12 : decode b_Md_take 12 = .ok (.getfield 182, 3) := by decide +kernel
theorem d_Md_take_15 : decode b_Md_take 15 = .ok (.iconst 1, 1) := by decide +kernel
theorem d_Md_take_16 : decode b_Md_take 16 = .ok (.iadd, 1) := by decide +kernel
theorem d_Md_take_17 : decode b_Md_take 17 = .ok (.putfield 182, 3) := by decide +kernel
theorem d_Md_take_20 : decode b_Md_take 20 = .ok (.aload_n 0, 1) := by decide +kernel
theorem d_Md_take_21 : decode b_Md_take 21 = .ok (.getfield 182, 3) := by decide +kernel
theorem d_Md_take_24 : decode b_Md_take 24 = .ok (.iconst 2, 1) := by decide +kernel
theorem d_Md_take_25 : decode b_Md_take 25 = .ok (.if_icmp .lt 27, 3) := by decide +kernel
theorem d_Md_take_28 : decode b_Md_take 28 = .ok (.aload_n 0, 1) := by decide +kernel
theorem d_Md_take_29 : decode b_Md_take 29 = .ok (.getfield 182, 3) := by decide +kernel
theorem d_Md_take_32 : decode b_Md_take 32 = .ok (.iconst 2, 1) := by decide +kernel
theorem d_Md_take_33 : decode b_Md_take 33 = .ok (.aload_n 0, 1) := by decide +kernel
theorem d_Md_take_34 : decode b_Md_take 34 = .ok (.getfield 78, 3) := by decide +kernel
theorem d_Md_take_37 : decode b_Md_take 37 = .ok (.iconst 1, 1) := by decide +kernel
theorem d_Md_take_38 : decode b_Md_take 38 = .ok (.iaload, 1) := by decide +kernel
theorem d_Md_take_39 : decode b_Md_take 39 = .ok (.iadd, 1) := by decide +kernel
theorem d_Md_take_40 : decode b_Md_take 40 = .ok (.if_icmp .ne 12, 3) := by decide +kernel
theorem d_Md_take_43 : decode b_Md_take 43 = .ok (.aload_n 0, 1) := by decide +kernel
theorem d_Md_take_44 : decode b_Md_take 44 = .ok (.iconst 0, 1) := by decide +kernel
theorem d_Md_take_45 : decode b_Md_take 45 = .ok (.putfield 169, 3) := by decide +kernel
theorem d_Md_take_48 : decode b_Md_take 48 = .ok (.aload_n 0, 1) := by decide +kernel
theorem d_Md_take_49 : decode b_Md_take 49 = .ok (.invokevirtual 188, 3) := by decide +kernel
theorem d_Md_take_52 : decode b_Md_take 52 = .ok (.return_, 1) := by decide +kernel
theorem d_Md_pair_0 : decode b_Md_pair 0 = .ok (.sipush 256, 3) := by decide +kernel
theorem d_Md_pair_3 : decode b_Md_pair 3 = .ok (.aload_n 0, 1) := by decide +kernel
theorem d_Md_pair_4 : decode b_Md_pair 4 = .ok (.getfield 78, 3) := by decide +kernel
theorem d_Md_pair_7 : decode b_Md_pair 7 = .ok (.iload_n 1, 1) := by decide +kernel
theorem d_Md_pair_8 : decode b_Md_pair 8 = .ok (.iaload, 1) := by decide +kernel
theorem d_Md_pair_9 : decode b_Md_pair 9 = .ok (.imul, 1) := by decide +kernel
theorem d_Md_pair_10 : decode b_Md_pair 10 = .ok (.aload_n 0, 1) := by decide +kernel
theorem d_Md_pair_11 : decode b_Md_pair 11 = .ok (.getfield 78, 3) := by decide +kernel
theorem d_Md_pair_14 : decode b_Md_pair 14 = .ok (.iload_n 1, 1) := by decide +kernel
theorem d_Md_pair_15 : decode b_Md_pair 15 = .ok (.iconst 1, 1) := by decide +kernel
theorem d_Md_pair_16 : decode b_Md_pair 16 = .ok (.iadd, 1) := by decide +kernel
theorem d_Md_pair_17 : decode b_Md_pair 17 = .ok (.iaload, 1) := by decide +kernel
theorem d_Md_pair_18 : decode b_Md_pair 18 = .ok (.iadd, 1) := by decide +kernel
theorem d_Md_pair_19 : decode b_Md_pair 19 = .ok (.ireturn, 1) := by decide +kernel
theorem d_Md_look_0 : decode b_Md_look 0 = .ok (.aload_n 0, 1) := by decide +kernel
theorem d_Md_look_1 : decode b_Md_look 1 = .ok (.getfield 182, 3) := by decide +kernel
theorem d_Md_look_4 : decode b_Md_look 4 = .ok (.bipush 6, 2) := by decide +kernel
theorem d_Md_look_6 : decode b_Md_look 6 = .ok (.if_icmp .lt 10, 3) := by decide +kernel
theorem d_Md_look_9 : decode b_Md_look 9 = .ok (.aload_n 0, 1) := by decide +kernel
theorem d_Md_look_10 : decode b_Md_look 10 = .ok (.invokevirtual 191, 3) := by decide +kernel
theorem d_Md_look_13 : decode b_Md_look 13 = .ok (.ifCond .ne 16, 3) := by decide +kernel
theorem d_Md_look_16 : decode b_Md_look 16 = .ok (.aload_n 0, 1) := by decide +kernel
theorem d_Md_look_17 : decode b_Md_look 17 = .ok (.getfield 81, 3) := by decide +kernel
theorem d_Md_look_20 : decode b_Md_look 20 = .ok (.iconst 2, 1) := by decide +kernel
theorem d_Md_look_21 : decode b_Md_look 21 = .ok (.dup2, 1) := by decide +kernel
theorem d_Md_look_22 : decode b_Md_look 22 = .ok (.iaload, 1) := by decide +kernel
theorem d_Md_look_23 : decode b_Md_look 23 = .ok (.iconst 1, 1) := by decide +kernel
theorem d_Md_look_24 : decode b_Md_look 24 = .ok (.iadd, 1) := by decide +kernel
theorem d_Md_look_25 : decode b_Md_look 25 = .ok (.iastore, 1) := by decide +kernel
theorem d_Md_look_26 : decode b_Md_look 26 = .ok (.goto 66, 3) := by decide +kernel
theorem d_Md_look_29 : decode b_Md_look 29 = .ok (.aload_n 0, 1) := by decide +kernel
theorem d_Md_look_30 : decode b_Md_look 30 = .ok (.invokevirtual 195, 3) := by decide +kernel
theorem d_Md_look_33 : decode b_Md_look 33 = .ok (.ifCond .eq 10, 3) := by decide +kernel
theorem d_Md_look_36 : decode b_Md_look 36 = .ok (.aload_n 0, 1) := by decide +kernel
theorem d_Md_look_37 : decode b_Md_look 37 = .ok (.invokevirtual 198, 3) := by decide +kernel
theorem d_Md_look_40 : decode b_Md_look 40 = .ok (.goto 52, 3) := by decide +kernel
theorem d_Md_look_43 : decode b_Md_look 43 = .ok (.aload_n 0, 1) := by decide +kernel
theorem d_Md_look_44 : decode b_Md_look 44 = .ok (.getfield 78, 3) := by decide +kernel
theorem d_Md_look_47 : decode b_Md_look 47 = .ok (.iconst 0, 1) := by decide +kernel
theorem d_Md_look_48 : decode b_Md_look 48 = .ok (.iaload, 1) := by decide +kernel
theorem d_Md_look_49 : decode b_Md_look 49 = .ok (.bipush 60, 2) := by decide +kernel
theorem d_Md_look_51 : decode b_Md_look 51 = .ok (.if_icmp .ne 31, 3) := by decide +kernel
theorem d_Md_look_54 : decode b_Md_look 54 = .ok (.aload_n 0, 1) := by decide +kernel
theorem d_Md_look_55 : decode b_Md_look 55 = .ok (.getfield 182, 3) := by decide +kernel
theorem d_Md_look_58 : decode b_Md_look 58 = .ok (.bipush 11, 2) := by decide +kernel
theorem d_Md_look_60 : decode b_Md_look 60 = .ok (.bipush 18, 2) := by decide +kernel
theorem d_Md_look_62 : decode b_Md_look 62 = .ok (.invokestatic 84, 3) := by decide +kernel
theorem d_Md_look_65 : decode b_Md_look 65 = .ok (.ifCond .eq 17, 3) := by decide +kernel
theorem d_Md_look_68 : decode b_Md_look 68 = .ok (.aload_n 0, 1) := by decide +kernel
theorem d_Md_look_69 : decode b_Md_look 69 = .ok (.invokevirtual 201, 3) := by decide +kernel
theorem d_Md_look_72 : decode b_Md_look 72 = .ok (.ifCond .eq 10, 3) := by decide +kernel
theorem d_Md_look_75 : decode b_Md_look 75 = .ok (.aload_n 0, 1) := by decide +kernel
theorem d_Md_look_76 : decode b_Md_look 76 = .ok (.invokevirtual 204, 3) := by decide +kernel
theorem d_Md_look_79 : decode b_Md_look 79 = .ok (.goto 13, 3) := by decide +kernel
theorem d_Md_look_82 : decode b_Md_look 82 = .ok (.aload_n 0, 1) := by decide +kernel
theorem d_Md_look_83 : decode b_Md_look 83 = .ok (.getfield 81, 3) := by decide +kernel
theorem d_Md_look_86 : decode b_Md_look 86 = .ok (.iconst 3, 1) := by decide +kernel
theorem d_Md_look_87 : decode b_Md_look 87 = .ok (.dup2, 1) := by decide +kernel
theorem d_Md_look_88 : decode b_Md_look 88 = .ok (.iaload, 1) := by decide +kernel
theorem d_Md_look_89 : decode b_Md_look 89 = .ok (.iconst 1, 1) := by decide +kernel
theorem d_Md_look_90 : decode b_Md_look 90 = .ok (.iadd, 1) := by decide +kernel
theorem d_Md_look_91 : decode b_Md_look 91 = .ok (.iastore, 1) := by decide +kernel
theorem d_Md_look_92 : decode b_Md_look 92 = .ok (.return_, 1) := by decide +kernel
theorem d_Md_list_0 : decode b_Md_list 0 = .ok (.aload_n 0, 1) := by decide +kernel
theorem d_Md_list_1 : decode b_Md_list 1 = .ok (.getfield 81, 3) := by decide +kernel
theorem d_Md_list_4 : decode b_Md_list 4 = .ok (.iconst 0, 1) := by decide +kernel
theorem d_Md_list_5 : decode b_Md_list 5 = .ok (.dup2, 1) := by decide +kernel
theorem d_Md_list_6 : decode b_Md_list 6 = .ok (.iaload, 1) := by decide +kernel
theorem d_Md_list_7 : decode b_Md_list 7 = .ok (.iconst 1, 1) := by decide +kernel
theorem d_Md_list_8 : decode b_Md_list 8 = .ok (.iadd, 1) := by decide +kernel
theorem d_Md_list_9 : decode b_Md_list 9 = .ok (.iastore, 1) := by decide +kernel
theorem d_Md_list_10 : decode b_Md_list 10 = .ok (.aload_n 0, 1) := by decide +kernel
theorem d_Md_list_11 : decode b_Md_list 11 = .ok (.aload_n 0, 1) := by decide +kernel
theorem d_Md_list_12 : decode b_Md_list 12 = .ok (.iconst 2, 1) := by decide +kernel
theorem d_Md_list_13 : decode b_Md_list 13 = .ok (.invokevirtual 207, 3) := by decide +kernel
theorem d_Md_list_16 : decode b_Md_list 16 = .ok (.putfield 56, 3) := by decide +kernel
theorem d_Md_list_19 : decode b_Md_list 19 = .ok (.iconst 0, 1) := by decide +kernel
theorem d_Md_list_20 : decode b_Md_list 20 = .ok (.istore_n 1, 1) := by decide +kernel
theorem d_Md_list_21 : decode b_Md_list 21 = .ok (.iload_n 1, 1) := by decide +kernel
theorem d_Md_list_22 : decode b_Md_list 22 = .ok (.bipush 12, 2) := by decide +kernel
theorem d_Md_list_24 : decode b_Md_list 24 = .ok (.if_icmp .ge 137, 3) := by decide +kernel
theorem d_Md_list_27 : decode b_Md_list 27 = .ok (.iload_n 1, 1) := by decide +kernel
theorem d_Md_list_28 : decode b_Md_list 28 = .ok (.aload_n 0, 1) := by decide +kernel
theorem d_Md_list_29 : decode b_Md_list 29 = .ok (.getfield 78, 3) := by decide +kernel
theorem d_Md_list_32 : decode b_Md_list 32 = .ok (.iconst 4, 1) := by decide +kernel
theorem d_Md_list_33 : decode b_Md_list 33 = .ok (.iaload, 1) := by decide +kernel
theorem d_Md_list_34 : decode b_Md_list 34 = .ok (.if_icmp .ge 7, 3) := by decide +kernel
theorem d_Md_list_37 : decode b_Md_list 37 = .ok (.iconst 1, 1) := by decide +kernel
theorem d_Md_list_38 : decode b_Md_list 38 = .ok (.goto 4, 3) := by decide +kernel
theorem d_Md_list_41 : decode b_Md_list 41 = .ok (.iconst 0, 1) := by decide +kernel
theorem d_Md_list_42 : decode b_Md_list 42 = .ok (.istore_n 2, 1) := by decide +kernel
theorem d_Md_list_43 : decode b_Md_list 43 = .ok (.iload_n 2, 1) := by decide +kernel
theorem d_Md_list_44 : decode b_Md_list 44 = .ok (.ifCond .eq 16, 3) := by decide +kernel
theorem d_Md_list_47 : decode b_Md_list 47 = .ok (.aload_n 0, 1) := by decide +kernel
theorem d_Md_list_48 : decode b_Md_list 48 = .ok (.getfield 78, 3) := by decide +kernel
theorem d_Md_list_51 : decode b_Md_list 51 = .ok (.iconst 5, 1) := by decide +kernel
theorem d_Md_list_52 : decode b_Md_list 52 = .ok (.iconst 3, 1) := by decide +kernel
theorem d_Md_list_53 : decode b_Md_list 53 = .ok (.iload_n 1, 1) := by decide +kernel
theorem d_Md_list_54 : decode b_Md_list 54 = .ok (.imul, 1) := by decide +kernel
theorem d_Md_list_55 : decode b_Md_list 55 = .ok (.iadd, 1) := by decide +kernel
theorem d_Md_list_56 : decode b_Md_list 56 = .ok (.iaload, 1) := by decide +kernel
theorem d_Md_list_57 : decode b_Md_list 57 = .ok (.goto 4, 3) := by decide +kernel
theorem d_Md_list_60 : decode b_Md_list 60 = .ok (.iconst 0, 1) := by decide +kernel
theorem d_Md_list_61 : decode b_Md_list 61 = .ok (.istore_n 3, 1) := by decide +kernel
theorem d_Md_list_62 : decode b_Md_list 62 = .ok (.iload_n 2, 1) := by decide +kernel
theorem d_Md_list_63 : decode b_Md_list 63 = .ok (.ifCond .eq 16, 3) := by decide +kernel
theorem d_Md_list_66 : decode b_Md_list 66 = .ok (.aload_n 0, 1) := by decide +kernel
theorem d_Md_list_67 : decode b_Md_list 67 = .ok (.bipush 6, 2) := by decide +kernel
theorem d_Md_list_69 : decode b_Md_list 69 = .ok (.iconst 3, 1) := by decide +kernel
theorem d_Md_list_70 : decode b_Md_list 70 = .ok (.iload_n 1, 1) := by decide +kernel
theorem d_Md_list_71 : decode b_Md_list 71 = .ok (.imul, 1) := by decide +kernel
theorem d_Md_list_72 : decode b_Md_list 72 = .ok (.iadd, 1) := by decide +kernel
theorem d_Md_list_73 : decode b_Md_list 73 = .ok (.invokevirtual 207, 3) := by decide +kernel
theorem d_Md_list_76 : decode b_Md_list 76 = .ok (.goto 4, 3) := by decide +kernel
theorem d_Md_list_79 : decode b_Md_list 79 = .ok (.iconst 0, 1) := by decide +kernel
theorem d_Md_list_80 : decode b_Md_list 80 = .ok (.istore 4, 2) := by decide +kernel
theorem d_Md_list_82 : decode b_Md_list 82 = .ok (.iload_n 2, 1) := by decide +kernel
theorem d_Md_list_83 : decode b_Md_list 83 = .ok (.ifCond .eq 37, 3) := by decide +kernel
theorem d_Md_list_86 : decode b_Md_list 86 = .ok (.aload_n 0, 1) := by decide +kernel
theorem d_Md_list_87 : decode b_Md_list 87 = .ok (.getfield 63, 3) := by decide +kernel
theorem d_Md_list_90 : decode b_Md_list 90 = .ok (.iload_n 1, 1) := by decide +kernel
theorem d_Md_list_91 : decode b_Md_list 91 = .ok (.baload, 1) := by decide +kernel
theorem d_Md_list_92 : decode b_Md_list 92 = .ok (.ifCond .eq 28, 3) := by decide +kernel
theorem d_Md_list_95 : decode b_Md_list 95 = .ok (.aload_n 0, 1) := by decide +kernel
theorem d_Md_list_96 : decode b_Md_list 96 = .ok (.getfield 69, 3) := by decide +kernel
theorem d_Md_list_99 : decode b_Md_list 99 = .ok (.iload_n 1, 1) := by decide +kernel
theorem d_Md_list_100 : decode b_Md_list 100 = .ok (.iaload, 1) := by decide +kernel
theorem d_Md_list_101 : decode b_Md_list 101 = .ok (.iload_n 3, 1) := by decide +kernel
theorem d_Md_list_102 : decode b_Md_list 102 = .ok (.if_icmp .ne 18, 3) := by decide +kernel
theorem d_Md_list_105 : decode b_Md_list 105 = .ok (.aload_n 0, 1) := by decide +kernel
theorem d_Md_list_106 : decode b_Md_list 106 = .ok (.getfield 66, 3) := by decide +kernel
theorem d_Md_list_109 : decode b_Md_list 109 = .ok (.iload_n 1, 1) := by decide +kernel
theorem d_Md_list_110 : decode b_Md_list 110 = .ok (.iaload, 1) := by decide +kernel
theorem d_Md_list_111 : decode b_Md_list 111 = .ok (.iload 4, 2) := by decide +kernel
theorem d_Md_list_113 : decode b_Md_list 113 = .ok (.if_icmp .ne 7, 3) := by decide +kernel
theorem d_Md_list_116 : decode b_Md_list 116 = .ok (.iconst 1, 1) := by decide +kernel
theorem d_Md_list_117 : decode b_Md_list 117 = .ok (.goto 4, 3) := by decide +kernel
theorem d_Md_list_120 : decode b_Md_list 120 = .ok (.iconst 0, 1) := by decide +kernel
theorem d_Md_list_121 : decode b_Md_list 121 = .ok (.istore 5, 2) := by decide +kernel
theorem d_Md_list_123 : decode b_Md_list 123 = .ok (.iload 5, 2) := by decide +kernel
theorem d_Md_list_125 : decode b_Md_list 125 = .ok (.ifCond .ne 8, 3) := by decide +kernel
theorem d_Md_list_128 : decode b_Md_list 128 = .ok (.aload_n 0, 1) := by decide +kernel
theorem d_Md_list_129 : decode b_Md_list 129 = .ok (.iload_n 1, 1) := by decide +kernel
theorem d_Md_list_130 : decode b_Md_list 130 = .ok (.invokevirtual 173, 3) := by decide +kernel
theorem d_Md_list_133 : decode b_Md_list 133 = .ok (.aload_n 0, 1) := by decide +kernel
theorem d_Md_list_134 : decode b_Md_list 134 = .ok (.getfield 63, 3) := by decide +kernel
theorem d_Md_list_137 : decode b_Md_list 137 = .ok (.iload_n 1, 1) := by decide +kernel
theorem d_Md_list_138 : decode b_Md_list 138 = .ok (.iload_n 2, 1) := by decide +kernel
theorem d_Md_list_139 : decode b_Md_list 139 = .ok (.bastore, 1) := by decide +kernel
theorem d_Md_list_140 : decode b_Md_list 140 = .ok (.aload_n 0, 1) := by decide +kernel
theorem d_Md_list_141 : decode b_Md_list 141 = .ok (.getfield 69, 3) := by decide +kernel
theorem d_Md_list_144 : decode b_Md_list 144 = .ok (.iload_n 1, 1) := by decide +kernel
theorem d_Md_list_145 : decode b_Md_list 145 = .ok (.iload_n 3, 1) := by decide +kernel
theorem d_Md_list_146 : decode b_Md_list 146 = .ok (.iastore, 1) := by decide +kernel
theorem d_Md_list_147 : decode b_Md_list 147 = .ok (.aload_n 0, 1) := by decide +kernel
theorem d_Md_list_148 : decode b_Md_list 148 = .ok (.getfield 66, 3) := by decide +kernel
theorem d_Md_list_151 : decode b_Md_list 151 = .ok (.iload_n 1, 1) := by decide +kernel
theorem d_Md_list_152 : decode b_Md_list 152 = .ok (.iload 4, 2) := by decide +kernel
theorem d_Md_list_154 : decode b_Md_list 154 = .ok (.iastore, 1) := by decide +kernel
theorem d_Md_list_155 : decode b_Md_list 155 = .ok (.iinc 1 1, 3) := by decide +kernel
theorem d_Md_list_158 : decode b_Md_list 158 = .ok (.goto (-137), 3) := by decide +kernel
theorem d_Md_list_161 : decode b_Md_list 161 = .ok (.return_, 1) := by decide +kernel
theorem d_Md_transaction_0 : decode b_Md_transaction 0 = .ok (.aload_n 0, 1) := by decide +kernel
theorem d_Md_transaction_1 : decode b_Md_transaction 1 = .ok (.getfield 56, 3) := by decide +kernel
theorem d_Md_transaction_4 : decode b_Md_transaction 4 = .ok (.ifCond .ge 8, 3) := by decide +kernel
theorem d_Md_transaction_7 : decode b_Md_transaction 7 = .ok (.bipush (-2), 2) := by decide +kernel
theorem d_Md_transaction_9 : decode b_Md_transaction 9 = .ok (.goto 7, 3) := by decide +kernel
theorem d_Md_transaction_12 : decode b_Md_transaction 12 = .ok (.aload_n 0, 1) := by decide +kernel
theorem d_Md_transaction_13 : decode b_Md_transaction 13 = .ok (.getfield 56, 3) := by decide +kernel
theorem d_Md_transaction_16 : decode b_Md_transaction 16 = .ok (.ireturn, 1) := by decide +kernel
theorem d_Md_ready_0 : decode b_Md_ready 0 = .ok (.aload_n 0, 1) := by decide +kernel
theorem d_Md_ready_1 : decode b_Md_ready 1 = .ok (.getfield 56, 3) := by decide +kernel
theorem d_Md_ready_4 : decode b_Md_ready 4 = .ok (.ifCond .ge 6, 3) := by decide +kernel
theorem d_Md_ready_7 : decode b_Md_ready 7 = .ok (.bipush (-6), 2) := by decide +kernel
theorem d_Md_ready_9 : decode b_Md_ready 9 = .ok (.ireturn, 1) := by decide +kernel
theorem d_Md_ready_10 : decode b_Md_ready 10 = .ok (.iload_n 1, 1) := by decide +kernel
theorem d_Md_ready_11 : decode b_Md_ready 11 = .ok (.bipush 11, 2) := by decide +kernel
theorem d_Md_ready_13 : decode b_Md_ready 13 = .ok (.if_icmp .gt 12, 3) := by decide +kernel
theorem d_Md_ready_16 : decode b_Md_ready 16 = .ok (.aload_n 0, 1) := by decide +kernel
theorem d_Md_ready_17 : decode b_Md_ready 17 = .ok (.getfield 63, 3) := by decide +kernel
theorem d_Md_ready_20 : decode b_Md_ready 20 = .ok (.iload_n 1, 1) := by decide +kernel
theorem d_Md_ready_21 : decode b_Md_ready 21 = .ok (.baload, 1) := by decide +kernel
theorem d_Md_ready_22 : decode b_Md_ready 22 = .ok (.ifCond .ne 6, 3) := by decide +kernel
theorem d_Md_ready_25 : decode b_Md_ready 25 = .ok (.bipush (-2), 2) := by decide +kernel
theorem d_Md_ready_27 : decode b_Md_ready 27 = .ok (.ireturn, 1) := by decide +kernel
theorem d_Md_ready_28 : decode b_Md_ready 28 = .ok (.bipush 8, 2) := by decide +kernel
theorem d_Md_ready_30 : decode b_Md_ready 30 = .ok (.aload_n 0, 1) := by decide +kernel
theorem d_Md_ready_31 : decode b_Md_ready 31 = .ok (.iload_n 1, 1) := by decide +kernel
theorem d_Md_ready_32 : decode b_Md_ready 32 = .ok (.invokevirtual 210, 3) := by decide +kernel
theorem d_Md_ready_35 : decode b_Md_ready 35 = .ok (.imul, 1) := by decide +kernel
theorem d_Md_ready_36 : decode b_Md_ready 36 = .ok (.aload_n 0, 1) := by decide +kernel
theorem d_Md_ready_37 : decode b_Md_ready 37 = .ok (.getfield 69, 3) := by decide +kernel
theorem d_Md_ready_40 : decode b_Md_ready 40 = .ok (.iload_n 1, 1) := by decide +kernel
theorem d_Md_ready_41 : decode b_Md_ready 41 = .ok (.iaload, 1) := by decide +kernel
theorem d_Md_ready_42 : decode b_Md_ready 42 = .ok (.if_icmp .lt 7, 3) := by decide +kernel
theorem d_Md_ready_45 : decode b_Md_ready 45 = .ok (.iconst 0, 1) := by decide +kernel
theorem d_Md_ready_46 : decode b_Md_ready 46 = .ok (.goto 5, 3) := by decide +kernel
theorem d_Md_ready_49 : decode b_Md_ready 49 = .ok (.bipush (-6), 2) := by decide +kernel
theorem d_Md_ready_51 : decode b_Md_ready 51 = .ok (.ireturn, 1) := by decide +kernel
theorem d_Md_stands_0 : decode b_Md_stands 0 = .ok (.aload_n 0, 1) := by decide +kernel
theorem d_Md_stands_1 : decode b_Md_stands 1 = .ok (.getfield 69, 3) := by decide +kernel
theorem d_Md_stands_4 : decode b_Md_stands 4 = .ok (.iload_n 1, 1) := by decide +kernel
theorem d_Md_stands_5 : decode b_Md_stands 5 = .ok (.iaload, 1) := by decide +kernel
theorem d_Md_stands_6 : decode b_Md_stands 6 = .ok (.istore_n 3, 1) := by decide +kernel
theorem d_Md_stands_7 : decode b_Md_stands 7 = .ok (.iload_n 2, 1) := by decide +kernel
theorem d_Md_stands_8 : decode b_Md_stands 8 = .ok (.iconst 3, 1) := by decide +kernel
theorem d_Md_stands_9 : decode b_Md_stands 9 = .ok (.iadd, 1) := by decide +kernel
theorem d_Md_stands_10 : decode b_Md_stands 10 = .ok (.iload_n 3, 1) := by decide +kernel
theorem d_Md_stands_11 : decode b_Md_stands 11 = .ok (.if_icmp .gt 28, 3) := by decide +kernel
theorem d_Md_stands_14 : decode b_Md_stands 14 = .ok (.iload_n 2, 1) := by decide +kernel
theorem d_Md_stands_15 : decode b_Md_stands 15 = .ok (.iconst 3, 1) := by decide +kernel
theorem d_Md_stands_16 : decode b_Md_stands 16 = .ok (.iadd, 1) := by decide +kernel
theorem d_Md_stands_17 : decode b_Md_stands 17 = .ok (.aload_n 0, 1) := by decide +kernel
theorem d_Md_stands_18 : decode b_Md_stands 18 = .ok (.getfield 75, 3) := by decide +kernel
theorem d_Md_stands_21 : decode b_Md_stands 21 = .ok (.bipush 48, 2) := by decide +kernel
theorem d_Md_stands_23 : decode b_Md_stands 23 = .ok (.iload_n 1, 1) := by decide +kernel
theorem d_Md_stands_24 : decode b_Md_stands 24 = .ok (.imul, 1) := by decide +kernel
theorem d_Md_stands_25 : decode b_Md_stands 25 = .ok (.iload_n 2, 1) := by decide +kernel
theorem d_Md_stands_26 : decode b_Md_stands 26 = .ok (.iadd, 1) := by decide +kernel
theorem d_Md_stands_27 : decode b_Md_stands 27 = .ok (.iconst 2, 1) := by decide +kernel
theorem d_Md_stands_28 : decode b_Md_stands 28 = .ok (.iadd, 1) := by decide +kernel
theorem d_Md_stands_29 : decode b_Md_stands 29 = .ok (.iaload, 1) := by decide +kernel
theorem d_Md_stands_30 : decode b_Md_stands 30 = .ok (.iadd, 1) := by decide +kernel
theorem d_Md_stands_31 : decode b_Md_stands 31 = .ok (.iload_n 3, 1) := by decide +kernel
theorem d_Md_stands_32 : decode b_Md_stands 32 = .ok (.if_icmp .gt 7, 3) := by decide +kernel
theorem d_Md_stands_35 : decode b_Md_stands 35 = .ok (.iconst 1, 1) := by decide +kernel
theorem d_Md_stands_36 : decode b_Md_stands 36 = .ok (.goto 4, 3) := by decide +kernel
theorem d_Md_stands_39 : decode b_Md_stands 39 = .ok (.iconst 0, 1) := by decide +kernel
theorem d_Md_stands_40 : decode b_Md_stands 40 = .ok (.ireturn, 1) := by decide +kernel
theorem d_Md_kind_0 : decode b_Md_kind 0 = .ok (.aload_n 0, 1) := by decide +kernel
theorem d_Md_kind_1 : decode b_Md_kind 1 = .ok (.iload_n 1, 1) := by decide +kernel
theorem d_Md_kind_2 : decode b_Md_kind 2 = .ok (.iload_n 2, 1) := by decide +kernel
theorem d_Md_kind_3 : decode b_Md_kind 3 = .ok (.iload_n 3, 1) := by decide +kernel
theorem d_Md_kind_4 : decode b_Md_kind 4 = .ok (.invokevirtual 229, 3) := by decide +kernel
theorem d_Md_kind_7 : decode b_Md_kind 7 = .ok (.istore 4, 2) := by decide +kernel
theorem d_Md_kind_9 : decode b_Md_kind 9 = .ok (.iload 4, 2) := by decide +kernel
theorem d_Md_kind_11 : decode b_Md_kind 11 = .ok (.ifCond .ge 8, 3) := by decide +kernel
theorem d_Md_kind_14 : decode b_Md_kind 14 = .ok (.iload 4, 2) := by decide +kernel
theorem d_Md_kind_16 : decode b_Md_kind 16 = .ok (.goto 10, 3) := by decide +kernel
theorem d_Md_kind_19 : decode b_Md_kind 19 = .ok (.aload_n 0, 1) := by decide +kernel
theorem d_Md_kind_20 : decode b_Md_kind 20 = .ok (.getfield 75, 3) := by decide +kernel
theorem d_Md_kind_23 : decode b_Md_kind 23 = .ok (.iload 4, 2) := by decide +kernel
theorem d_Md_kind_25 : decode b_Md_kind 25 = .ok (.iaload, 1) := by decide +kernel
theorem d_Md_kind_26 : decode b_Md_kind 26 = .ok (.ireturn, 1) := by decide +kernel
theorem d_Md_size_0 : decode b_Md_size 0 = .ok (.aload_n 0, 1) := by decide +kernel
theorem d_Md_size_1 : decode b_Md_size 1 = .ok (.iload_n 1, 1) := by decide +kernel
theorem d_Md_size_2 : decode b_Md_size 2 = .ok (.iload_n 2, 1) := by decide +kernel
theorem d_Md_size_3 : decode b_Md_size 3 = .ok (.iload_n 3, 1) := by decide +kernel
theorem d_Md_size_4 : decode b_Md_size 4 = .ok (.invokevirtual 229, 3) := by decide +kernel
theorem d_Md_size_7 : decode b_Md_size 7 = .ok (.istore 4, 2) := by decide +kernel
theorem d_Md_size_9 : decode b_Md_size 9 = .ok (.iload 4, 2) := by decide +kernel
theorem d_Md_size_11 : decode b_Md_size 11 = .ok (.ifCond .ge 6, 3) := by decide +kernel
theorem d_Md_size_14 : decode b_Md_size 14 = .ok (.iload 4, 2) := by decide +kernel
theorem d_Md_size_16 : decode b_Md_size 16 = .ok (.ireturn, 1) := by decide +kernel
theorem d_Md_size_17 : decode b_Md_size 17 = .ok (.aload_n 0, 1) := by decide +kernel
theorem d_Md_size_18 : decode b_Md_size 18 = .ok (.getfield 75, 3) := by decide +kernel
theorem d_Md_size_21 : decode b_Md_size 21 = .ok (.iload 4, 2) := by decide +kernel
theorem d_Md_size_23 : decode b_Md_size 23 = .ok (.iaload, 1) := by decide +kernel
theorem d_Md_size_24 : decode b_Md_size 24 = .ok (.iconst 1, 1) := by decide +kernel
theorem d_Md_size_25 : decode b_Md_size 25 = .ok (.if_icmp .eq 14, 3) := by decide +kernel
theorem d_Md_size_28 : decode b_Md_size 28 = .ok (.aload_n 0, 1) := by decide +kernel
theorem d_Md_size_29 : decode b_Md_size 29 = .ok (.getfield 75, 3) := by decide +kernel
theorem d_Md_size_32 : decode b_Md_size 32 = .ok (.iload 4, 2) := by decide +kernel
theorem d_Md_size_34 : decode b_Md_size 34 = .ok (.iaload, 1) := by decide +kernel
theorem d_Md_size_35 : decode b_Md_size 35 = .ok (.iconst 2, 1) := by decide +kernel
theorem d_Md_size_36 : decode b_Md_size 36 = .ok (.if_icmp .ne 17, 3) := by decide +kernel
theorem d_Md_size_39 : decode b_Md_size 39 = .ok (.aload_n 0, 1) := by decide +kernel
theorem d_Md_size_40 : decode b_Md_size 40 = .ok (.getfield 75, 3) := by decide +kernel
theorem d_Md_size_43 : decode b_Md_size 43 = .ok (.iload 4, 2) := by decide +kernel
theorem d_Md_size_45 : decode b_Md_size 45 = .ok (.iconst 2, 1) := by decide +kernel
theorem d_Md_size_46 : decode b_Md_size 46 = .ok (.iadd, 1) := by decide +kernel
theorem d_Md_size_47 : decode b_Md_size 47 = .ok (.iaload, 1) := by decide +kernel
theorem d_Md_size_48 : decode b_Md_size 48 = .ok (.iconst 4, 1) := by decide +kernel
theorem d_Md_size_49 : decode b_Md_size 49 = .ok (.idiv, 1) := by decide +kernel
theorem d_Md_size_50 : decode b_Md_size 50 = .ok (.goto 12, 3) := by decide +kernel
theorem d_Md_size_53 : decode b_Md_size 53 = .ok (.aload_n 0, 1) := by decide +kernel
theorem d_Md_size_54 : decode b_Md_size 54 = .ok (.getfield 75, 3) := by decide +kernel
theorem d_Md_size_57 : decode b_Md_size 57 = .ok (.iload 4, 2) := by decide +kernel
theorem d_Md_size_59 : decode b_Md_size 59 = .ok (.iconst 2, 1) := by decide +kernel
theorem d_Md_size_60 : decode b_Md_size 60 = .ok (.iadd, 1) := by decide +kernel
theorem d_Md_size_61 : decode b_Md_size 61 = .ok (.iaload, 1) := by decide +kernel
theorem d_Md_size_62 : decode b_Md_size 62 = .ok (.ireturn, 1) := by decide +kernel
theorem d_Md_read_0 : decode b_Md_read 0 = .ok (.aload_n 0, 1) := by decide +kernel
theorem d_Md_read_1 : decode b_Md_read 1 = .ok (.iload_n 1, 1) := by decide +kernel
theorem d_Md_read_2 : decode b_Md_read 2 = .ok (.iload_n 2, 1) := by decide +kernel
theorem d_Md_read_3 : decode b_Md_read 3 = .ok (.iload_n 3, 1) := by decide +kernel
theorem d_Md_read_4 : decode b_Md_read 4 = .ok (.invokevirtual 229, 3) := by decide +kernel
theorem d_Md_read_7 : decode b_Md_read 7 = .ok (.istore 5, 2) := by decide +kernel
theorem d_Md_read_9 : decode b_Md_read 9 = .ok (.iload 5, 2) := by decide +kernel
theorem d_Md_read_11 : decode b_Md_read 11 = .ok (.ifCond .ge 6, 3) := by decide +kernel
theorem d_Md_read_14 : decode b_Md_read 14 = .ok (.iload 5, 2) := by decide +kernel
theorem d_Md_read_16 : decode b_Md_read 16 = .ok (.ireturn, 1) := by decide +kernel
theorem d_Md_read_17 : decode b_Md_read 17 = .ok (.iload 4, 2) := by decide +kernel
theorem d_Md_read_19 : decode b_Md_read 19 = .ok (.ifCond .lt 32, 3) := by decide +kernel
theorem d_Md_read_22 : decode b_Md_read 22 = .ok (.iload 4, 2) := by decide +kernel
theorem d_Md_read_24 : decode b_Md_read 24 = .ok (.aload_n 0, 1) := by decide +kernel
theorem d_Md_read_25 : decode b_Md_read 25 = .ok (.getfield 75, 3) := by decide +kernel
theorem d_Md_read_28 : decode b_Md_read 28 = .ok (.iload 5, 2) := by decide +kernel
theorem d_Md_read_30 : decode b_Md_read 30 = .ok (.iconst 2, 1) := by decide +kernel
theorem d_Md_read_31 : decode b_Md_read 31 = .ok (.iadd, 1) := by decide +kernel
theorem d_Md_read_32 : decode b_Md_read 32 = .ok (.iaload, 1) := by decide +kernel
theorem d_Md_read_33 : decode b_Md_read 33 = .ok (.if_icmp .ge 18, 3) := by decide +kernel
theorem d_Md_read_36 : decode b_Md_read 36 = .ok (.aload_n 0, 1) := by decide +kernel
theorem d_Md_read_37 : decode b_Md_read 37 = .ok (.getfield 75, 3) := by decide +kernel
theorem d_Md_read_40 : decode b_Md_read 40 = .ok (.iload 5, 2) := by decide +kernel
theorem d_Md_read_42 : decode b_Md_read 42 = .ok (.iconst 3, 1) := by decide +kernel
theorem d_Md_read_43 : decode b_Md_read 43 = .ok (.iadd, 1) := by decide +kernel
theorem d_Md_read_44 : decode b_Md_read 44 = .ok (.iload 4, 2) := by decide +kernel
theorem d_Md_read_46 : decode b_Md_read 46 = .ok (.iadd, 1) := by decide +kernel
theorem d_Md_read_47 : decode b_Md_read 47 = .ok (.iaload, 1) := by decide +kernel
theorem d_Md_read_48 : decode b_Md_read 48 = .ok (.goto 5, 3) := by decide +kernel
theorem d_Md_read_51 : decode b_Md_read 51 = .ok (.bipush (-2), 2) := by decide +kernel
theorem d_Md_read_53 : decode b_Md_read 53 = .ok (.ireturn, 1) := by decide +kernel
theorem d_Arr_fill_0 : decode b_Arr_fill 0 = .ok (.iconst 0, 1) := by decide +kernel
theorem d_Arr_fill_1 : decode b_Arr_fill 1 = .ok (.istore_n 2, 1) := by decide +kernel
theorem d_Arr_fill_2 : decode b_Arr_fill 2 = .ok (.aload_n 0, 1) := by decide +kernel
theorem d_Arr_fill_3 : decode b_Arr_fill 3 = .ok (.arraylength, 1) := by decide +kernel
theorem d_Arr_fill_4 : decode b_Arr_fill 4 = .ok (.istore_n 3, 1) := by decide +kernel
theorem d_Arr_fill_5 : decode b_Arr_fill 5 = .ok (.iload_n 2, 1) := by decide +kernel
theorem d_Arr_fill_6 : decode b_Arr_fill 6 = .ok (.iload_n 3, 1) := by decide +kernel
theorem d_Arr_fill_7 : decode b_Arr_fill 7 = .ok (.if_icmp .ge 13, 3) := by decide +kernel
theorem d_Arr_fill_10 : decode b_Arr_fill 10 = .ok (.aload_n 0, 1) := by decide +kernel
theorem d_Arr_fill_11 : decode b_Arr_fill 11 = .ok (.iload_n 2, 1) := by decide +kernel
theorem d_Arr_fill_12 : decode b_Arr_fill 12 = .ok (.iload_n 1, 1) := by decide +kernel
theorem d_Arr_fill_13 : decode b_Arr_fill 13 = .ok (.iastore, 1) := by decide +kernel
theorem d_Arr_fill_14 : decode b_Arr_fill 14 = .ok (.iinc 2 1, 3) := by decide +kernel
theorem d_Arr_fill_17 : decode b_Arr_fill 17 = .ok (.goto (-12), 3) := by decide +kernel
theorem d_Arr_fill_20 : decode b_Arr_fill 20 = .ok (.return_, 1) := by decide +kernel
theorem d_Int_bitCount_0 : decode b_Int_bitCount 0 = .ok (.iload_n 0, 1) := by decide +kernel
theorem d_Int_bitCount_1 : decode b_Int_bitCount 1 = .ok (.iload_n 0, 1) := by decide +kernel
theorem d_Int_bitCount_2 : decode b_Int_bitCount 2 = .ok (.iconst 1, 1) := by decide +kernel
theorem d_Int_bitCount_3 : decode b_Int_bitCount 3 = .ok (.iushr, 1) := by decide +kernel
theorem d_Int_bitCount_4 : decode b_Int_bitCount 4 = .ok (.ldc_w 265, 3) := by decide +kernel
theorem d_Int_bitCount_7 : decode b_Int_bitCount 7 = .ok (.iand, 1) := by decide +kernel
theorem d_Int_bitCount_8 : decode b_Int_bitCount 8 = .ok (.isub, 1) := by decide +kernel
theorem d_Int_bitCount_9 : decode b_Int_bitCount 9 = .ok (.istore_n 0, 1) := by decide +kernel
theorem d_Int_bitCount_10 : decode b_Int_bitCount 10 = .ok (.iload_n 0, 1) := by decide +kernel
theorem d_Int_bitCount_11 : decode b_Int_bitCount 11 = .ok (.ldc_w 266, 3) := by decide +kernel
theorem d_Int_bitCount_14 : decode b_Int_bitCount 14 = .ok (.iand, 1) := by decide +kernel
theorem d_Int_bitCount_15 : decode b_Int_bitCount 15 = .ok (.iload_n 0, 1) := by decide +kernel
theorem d_Int_bitCount_16 : decode b_Int_bitCount 16 = .ok (.iconst 2, 1) := by decide +kernel
theorem d_Int_bitCount_17 : decode b_Int_bitCount 17 = .ok (.iushr, 1) := by decide +kernel
theorem d_Int_bitCount_18 : decode b_Int_bitCount 18 = .ok (.ldc_w 266, 3) := by decide +kernel
theorem d_Int_bitCount_21 : decode b_Int_bitCount 21 = .ok (.iand, 1) := by decide +kernel
theorem d_Int_bitCount_22 : decode b_Int_bitCount 22 = .ok (.iadd, 1) := by decide +kernel
theorem d_Int_bitCount_23 : decode b_Int_bitCount 23 = .ok (.istore_n 0, 1) := by decide +kernel
theorem d_Int_bitCount_24 : decode b_Int_bitCount 24 = .ok (.iload_n 0, 1) := by decide +kernel
theorem d_Int_bitCount_25 : decode b_Int_bitCount 25 = .ok (.iload_n 0, 1) := by decide +kernel
theorem d_Int_bitCount_26 : decode b_Int_bitCount 26 = .ok (.iconst 4, 1) := by decide +kernel
theorem d_Int_bitCount_27 : decode b_Int_bitCount 27 = .ok (.iushr, 1) := by decide +kernel
theorem d_Int_bitCount_28 : decode b_Int_bitCount 28 = .ok (.iadd, 1) := by decide +kernel
theorem d_Int_bitCount_29 : decode b_Int_bitCount 29 = .ok (.ldc_w 267, 3) := by decide +kernel
theorem d_Int_bitCount_32 : decode b_Int_bitCount 32 = .ok (.iand, 1) := by decide +kernel
theorem d_Int_bitCount_33 : decode b_Int_bitCount 33 = .ok (.istore_n 0, 1) := by decide +kernel
theorem d_Int_bitCount_34 : decode b_Int_bitCount 34 = .ok (.iload_n 0, 1) := by decide +kernel
theorem d_Int_bitCount_35 : decode b_Int_bitCount 35 = .ok (.iload_n 0, 1) := by decide +kernel
theorem d_Int_bitCount_36 : decode b_Int_bitCount 36 = .ok (.bipush 8, 2) := by decide +kernel
theorem d_Int_bitCount_38 : decode b_Int_bitCount 38 = .ok (.iushr, 1) := by decide +kernel
theorem d_Int_bitCount_39 : decode b_Int_bitCount 39 = .ok (.iadd, 1) := by decide +kernel
theorem d_Int_bitCount_40 : decode b_Int_bitCount 40 = .ok (.istore_n 0, 1) := by decide +kernel
theorem d_Int_bitCount_41 : decode b_Int_bitCount 41 = .ok (.iload_n 0, 1) := by decide +kernel
theorem d_Int_bitCount_42 : decode b_Int_bitCount 42 = .ok (.iload_n 0, 1) := by decide +kernel
theorem d_Int_bitCount_43 : decode b_Int_bitCount 43 = .ok (.bipush 16, 2) := by decide +kernel
theorem d_Int_bitCount_45 : decode b_Int_bitCount 45 = .ok (.iushr, 1) := by decide +kernel
theorem d_Int_bitCount_46 : decode b_Int_bitCount 46 = .ok (.iadd, 1) := by decide +kernel
theorem d_Int_bitCount_47 : decode b_Int_bitCount 47 = .ok (.istore_n 0, 1) := by decide +kernel
theorem d_Int_bitCount_48 : decode b_Int_bitCount 48 = .ok (.iload_n 0, 1) := by decide +kernel
theorem d_Int_bitCount_49 : decode b_Int_bitCount 49 = .ok (.bipush 63, 2) := by decide +kernel
theorem d_Int_bitCount_51 : decode b_Int_bitCount 51 = .ok (.iand, 1) := by decide +kernel
theorem d_Int_bitCount_52 : decode b_Int_bitCount 52 = .ok (.ireturn, 1) := by decide +kernel
