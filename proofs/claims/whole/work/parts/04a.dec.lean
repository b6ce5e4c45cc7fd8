theorem d_CM_init_0 : decode b_CM_init 0 = .ok (.aload_n 0, 1) := by decide +kernel
theorem d_CM_init_1 : decode b_CM_init 1 = .ok (.invokespecial 1, 3) := by decide +kernel
theorem d_CM_init_4 : decode b_CM_init 4 = .ok (.aload_n 0, 1) := by decide +kernel
theorem d_CM_init_5 : decode b_CM_init 5 = .ok (.new 7, 3) := by decide +kernel
theorem d_CM_init_8 : decode b_CM_init 8 = .ok (.dup, 1) := by decide +kernel
theorem d_CM_init_9 : decode b_CM_init 9 = .ok (.invokespecial 9, 3) := by decide +kernel
theorem d_CM_init_12 : decode b_CM_init 12 = .ok (.putfield 10, 3) := by decide +kernel
theorem d_CM_init_15 : decode b_CM_init 15 = .ok (.aload_n 0, 1) := by decide +kernel
theorem d_CM_init_16 : decode b_CM_init 16 = .ok (.new 16, 3) := by decide +kernel
theorem d_CM_init_19 : decode b_CM_init 19 = .ok (.dup, 1) := by decide +kernel
theorem d_CM_init_20 : decode b_CM_init 20 = .ok (.invokespecial 18, 3) := by decide +kernel
theorem d_CM_init_23 : decode b_CM_init 23 = .ok (.putfield 19, 3) := by decide +kernel
theorem d_CM_init_26 : decode b_CM_init 26 = .ok (.aload_n 0, 1) := by decide +kernel
theorem d_CM_init_27 : decode b_CM_init 27 = .ok (.new 23, 3) := by decide +kernel
theorem d_CM_init_30 : decode b_CM_init 30 = .ok (.dup, 1) := by decide +kernel
theorem d_CM_init_31 : decode b_CM_init 31 = .ok (.invokespecial 25, 3) := by decide +kernel
theorem d_CM_init_34 : decode b_CM_init 34 = .ok (.putfield 26, 3) := by decide +kernel
theorem d_CM_init_37 : decode b_CM_init 37 = .ok (.aload_n 0, 1) := by decide +kernel
theorem d_CM_init_38 : decode b_CM_init 38 = .ok (.new 30, 3) := by decide +kernel
theorem d_CM_init_41 : decode b_CM_init 41 = .ok (.dup, 1) := by decide +kernel
theorem d_CM_init_42 : decode b_CM_init 42 = .ok (.invokespecial 32, 3) := by decide +kernel
theorem d_CM_init_45 : decode b_CM_init 45 = .ok (.putfield 33, 3) := by decide +kernel
theorem d_CM_init_48 : decode b_CM_init 48 = .ok (.return_, 1) := by decide +kernel
theorem d_CM_make_0 : decode b_CM_make 0 = .ok (.iload_n 1, 1) := by decide +kernel
theorem d_CM_make_1 : decode b_CM_make 1 = .ok (.ifCond .lt 21, 3) := by decide +kernel
theorem d_CM_make_4 : decode b_CM_make 4 = .ok (.iload_n 1, 1) := by decide +kernel
theorem d_CM_make_5 : decode b_CM_make 5 = .ok (.bipush 12, 2) := by decide +kernel
theorem d_CM_make_7 : decode b_CM_make 7 = .ok (.if_icmp .ge 15, 3) := by decide +kernel
theorem d_CM_make_10 : decode b_CM_make 10 = .ok (.iload_n 2, 1) := by decide +kernel
theorem d_CM_make_11 : decode b_CM_make 11 = .ok (.iconst 1, 1) := by decide +kernel
theorem d_CM_make_12 : decode b_CM_make 12 = .ok (.if_icmp .lt 10, 3) := by decide +kernel
theorem d_CM_make_15 : decode b_CM_make 15 = .ok (.iload_n 2, 1) := by decide +kernel
theorem d_CM_make_16 : decode b_CM_make 16 = .ok (.sipush 255, 3) := by decide +kernel
theorem d_CM_make_19 : decode b_CM_make 19 = .ok (.if_icmp .le 5, 3) := by decide +kernel
theorem d_CM_make_22 : decode b_CM_make 22 = .ok (.iconst (-1), 1) := by decide +kernel
theorem d_CM_make_23 : decode b_CM_make 23 = .ok (.ireturn, 1) := by decide +kernel
theorem d_CM_make_24 : decode b_CM_make 24 = .ok (.aload_n 0, 1) := by decide +kernel
theorem d_CM_make_25 : decode b_CM_make 25 = .ok (.getfield 10, 3) := by decide +kernel
theorem d_CM_make_28 : decode b_CM_make 28 = .ok (.iload_n 1, 1) := by decide +kernel
theorem d_CM_make_29 : decode b_CM_make 29 = .ok (.invokevirtual 37, 3) := by decide +kernel
theorem d_CM_make_32 : decode b_CM_make 32 = .ok (.ifCond .ne 6, 3) := by decide +kernel
theorem d_CM_make_35 : decode b_CM_make 35 = .ok (.bipush (-2), 2) := by decide +kernel
theorem d_CM_make_37 : decode b_CM_make 37 = .ok (.ireturn, 1) := by decide +kernel
theorem d_CM_make_38 : decode b_CM_make 38 = .ok (.aload_n 0, 1) := by decide +kernel
theorem d_CM_make_39 : decode b_CM_make 39 = .ok (.getfield 10, 3) := by decide +kernel
theorem d_CM_make_42 : decode b_CM_make 42 = .ok (.iload_n 1, 1) := by decide +kernel
theorem d_CM_make_43 : decode b_CM_make 43 = .ok (.iload_n 2, 1) := by decide +kernel
theorem d_CM_make_44 : decode b_CM_make 44 = .ok (.invokevirtual 41, 3) := by decide +kernel
theorem d_CM_make_47 : decode b_CM_make 47 = .ok (.ifCond .eq 6, 3) := by decide +kernel
theorem d_CM_make_50 : decode b_CM_make 50 = .ok (.bipush (-3), 2) := by decide +kernel
theorem d_CM_make_52 : decode b_CM_make 52 = .ok (.ireturn, 1) := by decide +kernel
theorem d_CM_make_53 : decode b_CM_make 53 = .ok (.aload_n 0, 1) := by decide +kernel
theorem d_CM_make_54 : decode b_CM_make 54 = .ok (.getfield 10, 3) := by decide +kernel
theorem d_CM_make_57 : decode b_CM_make 57 = .ok (.invokevirtual 45, 3) := by decide +kernel
theorem d_CM_make_60 : decode b_CM_make 60 = .ok (.istore 4, 2) := by decide +kernel
theorem d_CM_make_62 : decode b_CM_make 62 = .ok (.iload 4, 2) := by decide +kernel
theorem d_CM_make_64 : decode b_CM_make 64 = .ok (.iconst (-1), 1) := by decide +kernel
theorem d_CM_make_65 : decode b_CM_make 65 = .ok (.if_icmp .ne 6, 3) := by decide +kernel
theorem d_CM_make_68 : decode b_CM_make 68 = .ok (.bipush (-4), 2) := by decide +kernel
theorem d_CM_make_70 : decode b_CM_make 70 = .ok (.ireturn, 1) := by decide +kernel
theorem d_CM_make_71 : decode b_CM_make 71 = .ok (.aload_n 0, 1) := by decide +kernel
theorem d_CM_make_72 : decode b_CM_make 72 = .ok (.getfield 10, 3) := by decide +kernel
theorem d_CM_make_75 : decode b_CM_make 75 = .ok (.iload 4, 2) := by decide +kernel
theorem d_CM_make_77 : decode b_CM_make 77 = .ok (.iload_n 1, 1) := by decide +kernel
theorem d_CM_make_78 : decode b_CM_make 78 = .ok (.iload_n 2, 1) := by decide +kernel
theorem d_CM_make_79 : decode b_CM_make 79 = .ok (.iload_n 3, 1) := by decide +kernel
theorem d_CM_make_80 : decode b_CM_make 80 = .ok (.ifCond .eq 7, 3) := by decide +kernel
theorem d_CM_make_83 : decode b_CM_make 83 = .ok (.iconst 2, 1) := by decide +kernel
theorem d_CM_make_84 : decode b_CM_make 84 = .ok (.goto 4, 3) := by decide +kernel
theorem d_CM_make_87 : decode b_CM_make 87 = .ok (.iconst 3, 1) := by decide +kernel
theorem d_CM_make_88 : decode b_CM_make 88 = .ok (.invokevirtual 49, 3) := by decide +kernel
theorem d_CM_make_91 : decode b_CM_make 91 = .ok (.iload 4, 2) := by decide +kernel
theorem d_CM_make_93 : decode b_CM_make 93 = .ok (.ireturn, 1) := by decide +kernel
theorem d_CM_remove_0 : decode b_CM_remove 0 = .ok (.iload_n 1, 1) := by decide +kernel
theorem d_CM_remove_1 : decode b_CM_remove 1 = .ok (.invokestatic 53, 3) := by decide +kernel
theorem d_CM_remove_4 : decode b_CM_remove 4 = .ok (.ifCond .ne 5, 3) := by decide +kernel
theorem d_CM_remove_7 : decode b_CM_remove 7 = .ok (.iconst (-1), 1) := by decide +kernel
theorem d_CM_remove_8 : decode b_CM_remove 8 = .ok (.ireturn, 1) := by decide +kernel
theorem d_CM_remove_9 : decode b_CM_remove 9 = .ok (.aload_n 0, 1) := by decide +kernel
theorem d_CM_remove_10 : decode b_CM_remove 10 = .ok (.getfield 10, 3) := by decide +kernel
theorem d_CM_remove_13 : decode b_CM_remove 13 = .ok (.iload_n 1, 1) := by decide +kernel
theorem d_CM_remove_14 : decode b_CM_remove 14 = .ok (.invokevirtual 56, 3) := by decide +kernel
theorem d_CM_remove_17 : decode b_CM_remove 17 = .ok (.ifCond .ne 6, 3) := by decide +kernel
theorem d_CM_remove_20 : decode b_CM_remove 20 = .ok (.bipush (-2), 2) := by decide +kernel
theorem d_CM_remove_22 : decode b_CM_remove 22 = .ok (.ireturn, 1) := by decide +kernel
theorem d_CM_remove_23 : decode b_CM_remove 23 = .ok (.aload_n 0, 1) := by decide +kernel
theorem d_CM_remove_24 : decode b_CM_remove 24 = .ok (.getfield 10, 3) := by decide +kernel
theorem d_CM_remove_27 : decode b_CM_remove 27 = .ok (.iload_n 1, 1) := by decide +kernel
theorem d_CM_remove_28 : decode b_CM_remove 28 = .ok (.invokevirtual 59, 3) := by decide +kernel
theorem d_CM_remove_31 : decode b_CM_remove 31 = .ok (.ifCond .le 6, 3) := by decide +kernel
theorem d_CM_remove_34 : decode b_CM_remove 34 = .ok (.bipush (-5), 2) := by decide +kernel
theorem d_CM_remove_36 : decode b_CM_remove 36 = .ok (.ireturn, 1) := by decide +kernel
theorem d_CM_remove_37 : decode b_CM_remove 37 = .ok (.aload_n 0, 1) := by decide +kernel
theorem d_CM_remove_38 : decode b_CM_remove 38 = .ok (.getfield 10, 3) := by decide +kernel
theorem d_CM_remove_41 : decode b_CM_remove 41 = .ok (.iload_n 1, 1) := by decide +kernel
theorem d_CM_remove_42 : decode b_CM_remove 42 = .ok (.invokevirtual 63, 3) := by decide +kernel
theorem d_CM_remove_45 : decode b_CM_remove 45 = .ok (.iconst 0, 1) := by decide +kernel
theorem d_CM_remove_46 : decode b_CM_remove 46 = .ok (.ireturn, 1) := by decide +kernel
theorem d_CM_append_0 : decode b_CM_append 0 = .ok (.iload_n 1, 1) := by decide +kernel
theorem d_CM_append_1 : decode b_CM_append 1 = .ok (.invokestatic 53, 3) := by decide +kernel
theorem d_CM_append_4 : decode b_CM_append 4 = .ok (.ifCond .eq 10, 3) := by decide +kernel
theorem d_CM_append_7 : decode b_CM_append 7 = .ok (.iload_n 2, 1) := by decide +kernel
theorem d_CM_append_8 : decode b_CM_append 8 = .ok (.invokestatic 67, 3) := by decide +kernel
theorem d_CM_append_11 : decode b_CM_append 11 = .ok (.ifCond .ne 5, 3) := by decide +kernel
theorem d_CM_append_14 : decode b_CM_append 14 = .ok (.iconst (-1), 1) := by decide +kernel
theorem d_CM_append_15 : decode b_CM_append 15 = .ok (.ireturn, 1) := by decide +kernel
theorem d_CM_append_16 : decode b_CM_append 16 = .ok (.aload_n 0, 1) := by decide +kernel
theorem d_CM_append_17 : decode b_CM_append 17 = .ok (.getfield 10, 3) := by decide +kernel
theorem d_CM_append_20 : decode b_CM_append 20 = .ok (.iload_n 1, 1) := by decide +kernel
theorem d_CM_append_21 : decode b_CM_append 21 = .ok (.invokevirtual 70, 3) := by decide +kernel
theorem d_CM_append_24 : decode b_CM_append 24 = .ok (.ifCond .ne 6, 3) := by decide +kernel
theorem d_CM_append_27 : decode b_CM_append 27 = .ok (.bipush (-2), 2) := by decide +kernel
theorem d_CM_append_29 : decode b_CM_append 29 = .ok (.ireturn, 1) := by decide +kernel
theorem d_CM_append_30 : decode b_CM_append 30 = .ok (.aload_n 0, 1) := by decide +kernel
theorem d_CM_append_31 : decode b_CM_append 31 = .ok (.getfield 10, 3) := by decide +kernel
theorem d_CM_append_34 : decode b_CM_append 34 = .ok (.iload_n 1, 1) := by decide +kernel
theorem d_CM_append_35 : decode b_CM_append 35 = .ok (.invokevirtual 73, 3) := by decide +kernel
theorem d_CM_append_38 : decode b_CM_append 38 = .ok (.bipush 12, 2) := by decide +kernel
theorem d_CM_append_40 : decode b_CM_append 40 = .ok (.if_icmp .lt 6, 3) := by decide +kernel
theorem d_CM_append_43 : decode b_CM_append 43 = .ok (.bipush (-4), 2) := by decide +kernel
theorem d_CM_append_45 : decode b_CM_append 45 = .ok (.ireturn, 1) := by decide +kernel
theorem d_CM_append_46 : decode b_CM_append 46 = .ok (.aload_n 0, 1) := by decide +kernel
theorem d_CM_append_47 : decode b_CM_append 47 = .ok (.getfield 10, 3) := by decide +kernel
theorem d_CM_append_50 : decode b_CM_append 50 = .ok (.iload_n 1, 1) := by decide +kernel
theorem d_CM_append_51 : decode b_CM_append 51 = .ok (.iload_n 2, 1) := by decide +kernel
theorem d_CM_append_52 : decode b_CM_append 52 = .ok (.invokevirtual 76, 3) := by decide +kernel
theorem d_CM_append_55 : decode b_CM_append 55 = .ok (.ireturn, 1) := by decide +kernel
theorem d_CM_empty_0 : decode b_CM_empty 0 = .ok (.iload_n 1, 1) := by decide +kernel
theorem d_CM_empty_1 : decode b_CM_empty 1 = .ok (.invokestatic 53, 3) := by decide +kernel
theorem d_CM_empty_4 : decode b_CM_empty 4 = .ok (.ifCond .ne 5, 3) := by decide +kernel
theorem d_CM_empty_7 : decode b_CM_empty 7 = .ok (.iconst (-1), 1) := by decide +kernel
theorem d_CM_empty_8 : decode b_CM_empty 8 = .ok (.ireturn, 1) := by decide +kernel
theorem d_CM_empty_9 : decode b_CM_empty 9 = .ok (.aload_n 0, 1) := by decide +kernel
theorem d_CM_empty_10 : decode b_CM_empty 10 = .ok (.getfield 10, 3) := by decide +kernel
theorem d_CM_empty_13 : decode b_CM_empty 13 = .ok (.iload_n 1, 1) := by decide +kernel
theorem d_CM_empty_14 : decode b_CM_empty 14 = .ok (.invokevirtual 70, 3) := by decide +kernel
theorem d_CM_empty_17 : decode b_CM_empty 17 = .ok (.ifCond .ne 6, 3) := by decide +kernel
theorem d_CM_empty_20 : decode b_CM_empty 20 = .ok (.bipush (-2), 2) := by decide +kernel
theorem d_CM_empty_22 : decode b_CM_empty 22 = .ok (.ireturn, 1) := by decide +kernel
theorem d_CM_empty_23 : decode b_CM_empty 23 = .ok (.aload_n 0, 1) := by decide +kernel
theorem d_CM_empty_24 : decode b_CM_empty 24 = .ok (.getfield 10, 3) := by decide +kernel
theorem d_CM_empty_27 : decode b_CM_empty 27 = .ok (.iload_n 1, 1) := by decide +kernel
theorem d_CM_empty_28 : decode b_CM_empty 28 = .ok (.invokevirtual 80, 3) := by decide +kernel
theorem d_CM_empty_31 : decode b_CM_empty 31 = .ok (.ireturn, 1) := by decide +kernel
theorem d_CM_publish_0 : decode b_CM_publish 0 = .ok (.aload_n 0, 1) := by decide +kernel
theorem d_CM_publish_1 : decode b_CM_publish 1 = .ok (.getfield 19, 3) := by decide +kernel
theorem d_CM_publish_4 : decode b_CM_publish 4 = .ok (.aload_n 0, 1) := by decide +kernel
theorem d_CM_publish_5 : decode b_CM_publish 5 = .ok (.getfield 10, 3) := by decide +kernel
theorem d_CM_publish_8 : decode b_CM_publish 8 = .ok (.invokevirtual 83, 3) := by decide +kernel
theorem d_CM_publish_11 : decode b_CM_publish 11 = .ok (.aload_n 0, 1) := by decide +kernel
theorem d_CM_publish_12 : decode b_CM_publish 12 = .ok (.getfield 26, 3) := by decide +kernel
theorem d_CM_publish_15 : decode b_CM_publish 15 = .ok (.aload_n 0, 1) := by decide +kernel
theorem d_CM_publish_16 : decode b_CM_publish 16 = .ok (.getfield 19, 3) := by decide +kernel
theorem d_CM_publish_19 : decode b_CM_publish 19 = .ok (.invokevirtual 87, 3) := by decide +kernel
theorem d_CM_publish_22 : decode b_CM_publish 22 = .ok (.aload_n 0, 1) := by decide +kernel
theorem d_CM_publish_23 : decode b_CM_publish 23 = .ok (.getfield 19, 3) := by decide +kernel
theorem d_CM_publish_26 : decode b_CM_publish 26 = .ok (.getfield 91, 3) := by decide +kernel
theorem d_CM_publish_29 : decode b_CM_publish 29 = .ok (.ireturn, 1) := by decide +kernel
theorem d_CM_modules_0 : decode b_CM_modules 0 = .ok (.aload_n 0, 1) := by decide +kernel
theorem d_CM_modules_1 : decode b_CM_modules 1 = .ok (.getfield 19, 3) := by decide +kernel
theorem d_CM_modules_4 : decode b_CM_modules 4 = .ok (.getfield 95, 3) := by decide +kernel
theorem d_CM_modules_7 : decode b_CM_modules 7 = .ok (.ireturn, 1) := by decide +kernel
theorem d_CM_module_0 : decode b_CM_module 0 = .ok (.iload_n 1, 1) := by decide +kernel
theorem d_CM_module_1 : decode b_CM_module 1 = .ok (.ifCond .lt 14, 3) := by decide +kernel
theorem d_CM_module_4 : decode b_CM_module 4 = .ok (.iload_n 1, 1) := by decide +kernel
theorem d_CM_module_5 : decode b_CM_module 5 = .ok (.aload_n 0, 1) := by decide +kernel
theorem d_CM_module_6 : decode b_CM_module 6 = .ok (.getfield 19, 3) := by decide +kernel
theorem d_CM_module_9 : decode b_CM_module 9 = .ok (.getfield 95, 3) := by decide +kernel
theorem d_CM_module_12 : decode b_CM_module 12 = .ok (.if_icmp .lt 6, 3) := by decide +kernel
theorem d_CM_module_15 : decode b_CM_module 15 = .ok (.bipush (-2), 2) := by decide +kernel
theorem d_CM_module_17 : decode b_CM_module 17 = .ok (.ireturn, 1) := by decide +kernel
theorem d_CM_module_18 : decode b_CM_module 18 = .ok (.ldc 98, 2) := by decide +kernel
theorem d_CM_module_20 : decode b_CM_module 20 = .ok (.aload_n 0, 1) := by decide +kernel
theorem d_CM_module_21 : decode b_CM_module 21 = .ok (.getfield 19, 3) := by decide +kernel
theorem d_CM_module_24 : decode b_CM_module 24 = .ok (.getfield 99, 3) := by decide +kernel
theorem d_CM_module_27 : decode b_CM_module 27 = .ok (.iload_n 1, 1) := by decide +kernel
theorem d_CM_module_28 : decode b_CM_module 28 = .ok (.iaload, 1) := by decide +kernel
theorem d_CM_module_29 : decode b_CM_module 29 = .ok (.imul, 1) := by decide +kernel
theorem d_CM_module_30 : decode b_CM_module 30 = .ok (.aload_n 0, 1) := by decide +kernel
theorem d_CM_module_31 : decode b_CM_module 31 = .ok (.getfield 19, 3) := by decide +kernel
theorem d_CM_module_34 : decode b_CM_module 34 = .ok (.getfield 103, 3) := by decide +kernel
theorem d_CM_module_37 : decode b_CM_module 37 = .ok (.iload_n 1, 1) := by decide +kernel
theorem d_CM_module_38 : decode b_CM_module 38 = .ok (.iaload, 1) := by decide +kernel
theorem d_CM_module_39 : decode b_CM_module 39 = .ok (.iadd, 1) := by decide +kernel
theorem d_CM_module_40 : decode b_CM_module 40 = .ok (.ireturn, 1) := by decide +kernel
theorem d_CM_peek_0 : decode b_CM_peek 0 = .ok (.aload_n 0, 1) := by decide +kernel
theorem d_CM_peek_1 : decode b_CM_peek 1 = .ok (.getfield 26, 3) := by decide +kernel
theorem d_CM_peek_4 : decode b_CM_peek 4 = .ok (.invokevirtual 106, 3) := by decide +kernel
theorem d_CM_peek_7 : decode b_CM_peek 7 = .ok (.ifCond .eq 13, 3) := by decide +kernel
theorem d_CM_peek_10 : decode b_CM_peek 10 = .ok (.iload_n 1, 1) := by decide +kernel
theorem d_CM_peek_11 : decode b_CM_peek 11 = .ok (.ifCond .lt 9, 3) := by decide +kernel
theorem d_CM_peek_14 : decode b_CM_peek 14 = .ok (.iload_n 1, 1) := by decide +kernel
theorem d_CM_peek_15 : decode b_CM_peek 15 = .ok (.bipush 16, 2) := by decide +kernel
theorem d_CM_peek_17 : decode b_CM_peek 17 = .ok (.if_icmp .lt 6, 3) := by decide +kernel
theorem d_CM_peek_20 : decode b_CM_peek 20 = .ok (.bipush (-2), 2) := by decide +kernel
theorem d_CM_peek_22 : decode b_CM_peek 22 = .ok (.ireturn, 1) := by decide +kernel
theorem d_CM_peek_23 : decode b_CM_peek 23 = .ok (.aload_n 0, 1) := by decide +kernel
theorem d_CM_peek_24 : decode b_CM_peek 24 = .ok (.getfield 26, 3) := by decide +kernel
theorem d_CM_peek_27 : decode b_CM_peek 27 = .ok (.getfield 110, 3) := by decide +kernel
theorem d_CM_peek_30 : decode b_CM_peek 30 = .ok (.iload_n 1, 1) := by decide +kernel
theorem d_CM_peek_31 : decode b_CM_peek 31 = .ok (.iaload, 1) := by decide +kernel
theorem d_CM_peek_32 : decode b_CM_peek 32 = .ok (.ireturn, 1) := by decide +kernel
theorem d_CM_send_0 : decode b_CM_send 0 = .ok (.iload_n 1, 1) := by decide +kernel
theorem d_CM_send_1 : decode b_CM_send 1 = .ok (.ifCond .lt 9, 3) := by decide +kernel
theorem d_CM_send_4 : decode b_CM_send 4 = .ok (.iload_n 1, 1) := by decide +kernel
theorem d_CM_send_5 : decode b_CM_send 5 = .ok (.bipush 64, 2) := by decide +kernel
theorem d_CM_send_7 : decode b_CM_send 7 = .ok (.if_icmp .le 5, 3) := by decide +kernel
theorem d_CM_send_10 : decode b_CM_send 10 = .ok (.iconst (-1), 1) := by decide +kernel
theorem d_CM_send_11 : decode b_CM_send 11 = .ok (.ireturn, 1) := by decide +kernel
theorem d_CM_send_12 : decode b_CM_send 12 = .ok (.aload_n 0, 1) := by decide +kernel
theorem d_CM_send_13 : decode b_CM_send 13 = .ok (.getfield 26, 3) := by decide +kernel
theorem d_CM_send_16 : decode b_CM_send 16 = .ok (.invokevirtual 106, 3) := by decide +kernel
theorem d_CM_send_19 : decode b_CM_send 19 = .ok (.ifCond .ne 6, 3) := by decide +kernel
theorem d_CM_send_22 : decode b_CM_send 22 = .ok (.bipush (-2), 2) := by decide +kernel
theorem d_CM_send_24 : decode b_CM_send 24 = .ok (.ireturn, 1) := by decide +kernel
theorem d_CM_send_25 : decode b_CM_send 25 = .ok (.iconst 0, 1) := by decide +kernel
theorem d_CM_send_26 : decode b_CM_send 26 = .ok (.istore_n 2, 1) := by decide +kernel
theorem d_CM_send_27 : decode b_CM_send 27 = .ok (.iload_n 2, 1) := by decide +kernel
theorem d_CM_send_28 : decode b_CM_send 28 = .ok (.iload_n 1, 1) := by decide +kernel
theorem d_CM_send_29 : decode b_CM_send 29 = .ok (.if_icmp .ge 30, 3) := by decide +kernel
theorem d_CM_send_32 : decode b_CM_send 32 = .ok (.aload_n 0, 1) := by decide +kernel
theorem d_CM_send_33 : decode b_CM_send 33 = .ok (.getfield 33, 3) := by decide +kernel
theorem d_CM_send_36 : decode b_CM_send 36 = .ok (.aload_n 0, 1) := by decide +kernel
theorem d_CM_send_37 : decode b_CM_send 37 = .ok (.getfield 26, 3) := by decide +kernel
theorem d_CM_send_40 : decode b_CM_send 40 = .ok (.getfield 110, 3) := by decide +kernel
theorem d_CM_send_43 : decode b_CM_send 43 = .ok (.invokevirtual 113, 3) := by decide +kernel
theorem d_CM_send_46 : decode b_CM_send 46 = .ok (.aload_n 0, 1) := by decide +kernel
theorem d_CM_send_47 : decode b_CM_send 47 = .ok (.getfield 26, 3) := by decide +kernel
theorem d_CM_send_50 : decode b_CM_send 50 = .ok (.invokevirtual 117, 3) := by decide +kernel
theorem d_CM_send_53 : decode b_CM_send 53 = .ok (.iinc 2 1, 3) := by decide +kernel
theorem d_CM_send_56 : decode b_CM_send 56 = .ok (.goto (-29), 3) := by decide +kernel
theorem d_CM_send_59 : decode b_CM_send 59 = .ok (.iload_n 1, 1) := by decide +kernel
theorem d_CM_send_60 : decode b_CM_send 60 = .ok (.ireturn, 1) := by decide +kernel
theorem d_CM_lose_0 : decode b_CM_lose 0 = .ok (.iload_n 1, 1) := by decide +kernel
theorem d_CM_lose_1 : decode b_CM_lose 1 = .ok (.ifCond .lt 9, 3) := by decide +kernel
theorem d_CM_lose_4 : decode b_CM_lose 4 = .ok (.iload_n 1, 1) := by decide +kernel
theorem d_CM_lose_5 : decode b_CM_lose 5 = .ok (.bipush 64, 2) := by decide +kernel
theorem d_CM_lose_7 : decode b_CM_lose 7 = .ok (.if_icmp .le 5, 3) := by decide +kernel
theorem d_CM_lose_10 : decode b_CM_lose 10 = .ok (.iconst (-1), 1) := by decide +kernel
theorem d_CM_lose_11 : decode b_CM_lose 11 = .ok (.ireturn, 1) := by decide +kernel
theorem d_CM_lose_12 : decode b_CM_lose 12 = .ok (.aload_n 0, 1) := by decide +kernel
theorem d_CM_lose_13 : decode b_CM_lose 13 = .ok (.getfield 26, 3) := by decide +kernel
theorem d_CM_lose_16 : decode b_CM_lose 16 = .ok (.invokevirtual 106, 3) := by decide +kernel
theorem d_CM_lose_19 : decode b_CM_lose 19 = .ok (.ifCond .ne 6, 3) := by decide +kernel
theorem d_CM_lose_22 : decode b_CM_lose 22 = .ok (.bipush (-2), 2) := by decide +kernel
theorem d_CM_lose_24 : decode b_CM_lose 24 = .ok (.ireturn, 1) := by decide +kernel
theorem d_CM_lose_25 : decode b_CM_lose 25 = .ok (.iconst 0, 1) := by decide +kernel
theorem d_CM_lose_26 : decode b_CM_lose 26 = .ok (.istore_n 2, 1) := by decide +kernel
theorem d_CM_lose_27 : decode b_CM_lose 27 = .ok (.iload_n 2, 1) := by decide +kernel
theorem d_CM_lose_28 : decode b_CM_lose 28 = .ok (.iload_n 1, 1) := by decide +kernel
theorem d_CM_lose_29 : decode b_CM_lose 29 = .ok (.if_icmp .ge 16, 3) := by decide +kernel
theorem d_CM_lose_32 : decode b_CM_lose 32 = .ok (.aload_n 0, 1) := by decide +kernel
theorem d_CM_lose_33 : decode b_CM_lose 33 = .ok (.getfield 26, 3) := by decide +kernel
theorem d_CM_lose_36 : decode b_CM_lose 36 = .ok (.invokevirtual 117, 3) := by decide +kernel
theorem d_CM_lose_39 : decode b_CM_lose 39 = .ok (.iinc 2 1, 3) := by decide +kernel
theorem d_CM_lose_42 : decode b_CM_lose 42 = .ok (.goto (-15), 3) := by decide +kernel
theorem d_CM_lose_45 : decode b_CM_lose 45 = .ok (.iload_n 1, 1) := by decide +kernel
theorem d_CM_lose_46 : decode b_CM_lose 46 = .ok (.ireturn, 1) := by decide +kernel
theorem d_CM_spoil_0 : decode b_CM_spoil 0 = .ok (.iload_n 1, 1) := by decide +kernel
theorem d_CM_spoil_1 : decode b_CM_spoil 1 = .ok (.ifCond .lt 16, 3) := by decide +kernel
theorem d_CM_spoil_4 : decode b_CM_spoil 4 = .ok (.iload_n 1, 1) := by decide +kernel
theorem d_CM_spoil_5 : decode b_CM_spoil 5 = .ok (.bipush 16, 2) := by decide +kernel
theorem d_CM_spoil_7 : decode b_CM_spoil 7 = .ok (.if_icmp .ge 10, 3) := by decide +kernel
theorem d_CM_spoil_10 : decode b_CM_spoil 10 = .ok (.iload_n 2, 1) := by decide +kernel
theorem d_CM_spoil_11 : decode b_CM_spoil 11 = .ok (.invokestatic 67, 3) := by decide +kernel
theorem d_CM_spoil_14 : decode b_CM_spoil 14 = .ok (.ifCond .ne 5, 3) := by decide +kernel
theorem d_CM_spoil_17 : decode b_CM_spoil 17 = .ok (.iconst (-1), 1) := by decide +kernel
theorem d_CM_spoil_18 : decode b_CM_spoil 18 = .ok (.ireturn, 1) := by decide +kernel
theorem d_CM_spoil_19 : decode b_CM_spoil 19 = .ok (.aload_n 0, 1) := by decide +kernel
theorem d_CM_spoil_20 : decode b_CM_spoil 20 = .ok (.getfield 26, 3) := by decide +kernel
theorem d_CM_spoil_23 : decode b_CM_spoil 23 = .ok (.invokevirtual 106, 3) := by decide +kernel
theorem d_CM_spoil_26 : decode b_CM_spoil 26 = .ok (.ifCond .ne 6, 3) := by decide +kernel
theorem d_CM_spoil_29 : decode b_CM_spoil 29 = .ok (.bipush (-2), 2) := by decide +kernel
theorem d_CM_spoil_31 : decode b_CM_spoil 31 = .ok (.ireturn, 1) := by decide +kernel
theorem d_CM_spoil_32 : decode b_CM_spoil 32 = .ok (.aload_n 0, 1) := by decide +kernel
theorem d_CM_spoil_33 : decode b_CM_spoil 33 = .ok (.getfield 26, 3) := by decide +kernel
theorem d_CM_spoil_36 : decode b_CM_spoil 36 = .ok (.getfield 110, 3) := by decide +kernel
theorem d_CM_spoil_39 : decode b_CM_spoil 39 = .ok (.iload_n 1, 1) := by decide +kernel
theorem d_CM_spoil_40 : decode b_CM_spoil 40 = .ok (.dup2, 1) := by decide +kernel
theorem d_CM_spoil_41 : decode b_CM_spoil 41 = .ok (.iaload, 1) := by decide +kernel
theorem d_CM_spoil_42 : decode b_CM_spoil 42 = .ok (.iload_n 2, 1) := by decide +kernel
theorem d_CM_spoil_43 : decode b_CM_spoil 43 = .ok (.ixor, 1) := by decide +kernel
theorem d_CM_spoil_44 : decode b_CM_spoil 44 = .ok (.iastore, 1) := by decide +kernel
theorem d_CM_spoil_45 : decode b_CM_spoil 45 = .ok (.aload_n 0, 1) := by decide +kernel
theorem d_CM_spoil_46 : decode b_CM_spoil 46 = .ok (.getfield 33, 3) := by decide +kernel
theorem d_CM_spoil_49 : decode b_CM_spoil 49 = .ok (.aload_n 0, 1) := by decide +kernel
theorem d_CM_spoil_50 : decode b_CM_spoil 50 = .ok (.getfield 26, 3) := by decide +kernel
theorem d_CM_spoil_53 : decode b_CM_spoil 53 = .ok (.getfield 110, 3) := by decide +kernel
theorem d_CM_spoil_56 : decode b_CM_spoil 56 = .ok (.invokevirtual 113, 3) := by decide +kernel
theorem d_CM_spoil_59 : decode b_CM_spoil 59 = .ok (.aload_n 0, 1) := by decide +kernel
theorem d_CM_spoil_60 : decode b_CM_spoil 60 = .ok (.getfield 26, 3) := by decide +kernel
theorem d_CM_spoil_63 : decode b_CM_spoil 63 = .ok (.invokevirtual 117, 3) := by decide +kernel
theorem d_CM_spoil_66 : decode b_CM_spoil 66 = .ok (.iconst 1, 1) := by decide +kernel
theorem d_CM_spoil_67 : decode b_CM_spoil 67 = .ok (.ireturn, 1) := by decide +kernel
theorem d_CM_retune_0 : decode b_CM_retune 0 = .ok (.aload_n 0, 1) := by decide +kernel
theorem d_CM_retune_1 : decode b_CM_retune 1 = .ok (.getfield 33, 3) := by decide +kernel
theorem d_CM_retune_4 : decode b_CM_retune 4 = .ok (.invokevirtual 120, 3) := by decide +kernel
theorem d_CM_retune_7 : decode b_CM_retune 7 = .ok (.return_, 1) := by decide +kernel
theorem d_CM_count_0 : decode b_CM_count 0 = .ok (.iload_n 1, 1) := by decide +kernel
theorem d_CM_count_1 : decode b_CM_count 1 = .ok (.ifCond .lt 15, 3) := by decide +kernel
theorem d_CM_count_4 : decode b_CM_count 4 = .ok (.iload_n 1, 1) := by decide +kernel
theorem d_CM_count_5 : decode b_CM_count 5 = .ok (.aload_n 0, 1) := by decide +kernel
theorem d_CM_count_6 : decode b_CM_count 6 = .ok (.getfield 33, 3) := by decide +kernel
theorem d_CM_count_9 : decode b_CM_count 9 = .ok (.getfield 123, 3) := by decide +kernel
theorem d_CM_count_12 : decode b_CM_count 12 = .ok (.arraylength, 1) := by decide +kernel
theorem d_CM_count_13 : decode b_CM_count 13 = .ok (.if_icmp .lt 5, 3) := by decide +kernel
theorem d_CM_count_16 : decode b_CM_count 16 = .ok (.iconst (-1), 1) := by decide +kernel
theorem d_CM_count_17 : decode b_CM_count 17 = .ok (.ireturn, 1) := by decide +kernel
theorem d_CM_count_18 : decode b_CM_count 18 = .ok (.aload_n 0, 1) := by decide +kernel
theorem d_CM_count_19 : decode b_CM_count 19 = .ok (.getfield 33, 3) := by decide +kernel
theorem d_CM_count_22 : decode b_CM_count 22 = .ok (.getfield 123, 3) := by decide +kernel
theorem d_CM_count_25 : decode b_CM_count 25 = .ok (.iload_n 1, 1) := by decide +kernel
theorem d_CM_count_26 : decode b_CM_count 26 = .ok (.iaload, 1) := by decide +kernel
theorem d_CM_count_27 : decode b_CM_count 27 = .ok (.ireturn, 1) := by decide +kernel
theorem d_CM_transaction_0 : decode b_CM_transaction 0 = .ok (.aload_n 0, 1) := by decide +kernel
theorem d_CM_transaction_1 : decode b_CM_transaction 1 = .ok (.getfield 33, 3) := by decide +kernel
theorem d_CM_transaction_4 : decode b_CM_transaction 4 = .ok (.getfield 126, 3) := by decide +kernel
theorem d_CM_transaction_7 : decode b_CM_transaction 7 = .ok (.astore_n 1, 1) := by decide +kernel
theorem d_CM_transaction_8 : decode b_CM_transaction 8 = .ok (.aload_n 1, 1) := by decide +kernel
theorem d_CM_transaction_9 : decode b_CM_transaction 9 = .ok (.getfield 130, 3) := by decide +kernel
theorem d_CM_transaction_12 : decode b_CM_transaction 12 = .ok (.ifCond .eq 10, 3) := by decide +kernel
theorem d_CM_transaction_15 : decode b_CM_transaction 15 = .ok (.aload_n 1, 1) := by decide +kernel
theorem d_CM_transaction_16 : decode b_CM_transaction 16 = .ok (.getfield 136, 3) := by decide +kernel
theorem d_CM_transaction_19 : decode b_CM_transaction 19 = .ok (.goto 5, 3) := by decide +kernel
theorem d_CM_transaction_22 : decode b_CM_transaction 22 = .ok (.bipush (-2), 2) := by decide +kernel
theorem d_CM_transaction_24 : decode b_CM_transaction 24 = .ok (.ireturn, 1) := by decide +kernel
theorem d_CM_held_0 : decode b_CM_held 0 = .ok (.aload_n 0, 1) := by decide +kernel
theorem d_CM_held_1 : decode b_CM_held 1 = .ok (.getfield 33, 3) := by decide +kernel
theorem d_CM_held_4 : decode b_CM_held 4 = .ok (.getfield 126, 3) := by decide +kernel
theorem d_CM_held_7 : decode b_CM_held 7 = .ok (.astore_n 2, 1) := by decide +kernel
theorem d_CM_held_8 : decode b_CM_held 8 = .ok (.aload_n 2, 1) := by decide +kernel
theorem d_CM_held_9 : decode b_CM_held 9 = .ok (.iload_n 1, 1) := by decide +kernel
theorem d_CM_held_10 : decode b_CM_held 10 = .ok (.invokevirtual 139, 3) := by decide +kernel
theorem d_CM_held_13 : decode b_CM_held 13 = .ok (.ifCond .eq 11, 3) := by decide +kernel
theorem d_CM_held_16 : decode b_CM_held 16 = .ok (.aload_n 2, 1) := by decide +kernel
theorem d_CM_held_17 : decode b_CM_held 17 = .ok (.iload_n 1, 1) := by decide +kernel
theorem d_CM_held_18 : decode b_CM_held 18 = .ok (.invokevirtual 142, 3) := by decide +kernel
theorem d_CM_held_21 : decode b_CM_held 21 = .ok (.goto 5, 3) := by decide +kernel
theorem d_CM_held_24 : decode b_CM_held 24 = .ok (.bipush (-2), 2) := by decide +kernel
theorem d_CM_held_26 : decode b_CM_held 26 = .ok (.ireturn, 1) := by decide +kernel
theorem d_CM_kind_0 : decode b_CM_kind 0 = .ok (.aload_n 0, 1) := by decide +kernel
theorem d_CM_kind_1 : decode b_CM_kind 1 = .ok (.iload_n 1, 1) := by decide +kernel
theorem d_CM_kind_2 : decode b_CM_kind 2 = .ok (.iload_n 2, 1) := by decide +kernel
theorem d_CM_kind_3 : decode b_CM_kind 3 = .ok (.iload_n 3, 1) := by decide +kernel
theorem d_CM_kind_4 : decode b_CM_kind 4 = .ok (.invokevirtual 145, 3) := by decide +kernel
theorem d_CM_kind_7 : decode b_CM_kind 7 = .ok (.istore 4, 2) := by decide +kernel
theorem d_CM_kind_9 : decode b_CM_kind 9 = .ok (.iload 4, 2) := by decide +kernel
theorem d_CM_kind_11 : decode b_CM_kind 11 = .ok (.ifCond .ge 8, 3) := by decide +kernel
theorem d_CM_kind_14 : decode b_CM_kind 14 = .ok (.iload 4, 2) := by decide +kernel
theorem d_CM_kind_16 : decode b_CM_kind 16 = .ok (.goto 15, 3) := by decide +kernel
theorem d_CM_kind_19 : decode b_CM_kind 19 = .ok (.aload_n 0, 1) := by decide +kernel
theorem d_CM_kind_20 : decode b_CM_kind 20 = .ok (.getfield 33, 3) := by decide +kernel
theorem d_CM_kind_23 : decode b_CM_kind 23 = .ok (.getfield 126, 3) := by decide +kernel
theorem d_CM_kind_26 : decode b_CM_kind 26 = .ok (.iload 4, 2) := by decide +kernel
theorem d_CM_kind_28 : decode b_CM_kind 28 = .ok (.invokevirtual 149, 3) := by decide +kernel
theorem d_CM_kind_31 : decode b_CM_kind 31 = .ok (.ireturn, 1) := by decide +kernel
theorem d_CM_size_0 : decode b_CM_size 0 = .ok (.aload_n 0, 1) := by decide +kernel
theorem d_CM_size_1 : decode b_CM_size 1 = .ok (.iload_n 1, 1) := by decide +kernel
theorem d_CM_size_2 : decode b_CM_size 2 = .ok (.iload_n 2, 1) := by decide +kernel
theorem d_CM_size_3 : decode b_CM_size 3 = .ok (.iload_n 3, 1) := by decide +kernel
theorem d_CM_size_4 : decode b_CM_size 4 = .ok (.invokevirtual 145, 3) := by decide +kernel
theorem d_CM_size_7 : decode b_CM_size 7 = .ok (.istore 4, 2) := by decide +kernel
theorem d_CM_size_9 : decode b_CM_size 9 = .ok (.iload 4, 2) := by decide +kernel
theorem d_CM_size_11 : decode b_CM_size 11 = .ok (.ifCond .ge 6, 3) := by decide +kernel
theorem d_CM_size_14 : decode b_CM_size 14 = .ok (.iload 4, 2) := by decide +kernel
theorem d_CM_size_16 : decode b_CM_size 16 = .ok (.ireturn, 1) := by decide +kernel
theorem d_CM_size_17 : decode b_CM_size 17 = .ok (.aload_n 0, 1) := by decide +kernel
theorem d_CM_size_18 : decode b_CM_size 18 = .ok (.getfield 33, 3) := by decide +kernel
theorem d_CM_size_21 : decode b_CM_size 21 = .ok (.getfield 126, 3) := by decide +kernel
theorem d_CM_size_24 : decode b_CM_size 24 = .ok (.astore 5, 2) := by decide +kernel
theorem d_CM_size_26 : decode b_CM_size 26 = .ok (.aload 5, 2) := by decide +kernel
theorem d_CM_size_28 : decode b_CM_size 28 = .ok (.iload 4, 2) := by decide +kernel
theorem d_CM_size_30 : decode b_CM_size 30 = .ok (.invokevirtual 152, 3) := by decide +kernel
theorem d_CM_size_33 : decode b_CM_size 33 = .ok (.istore 6, 2) := by decide +kernel
theorem d_CM_size_35 : decode b_CM_size 35 = .ok (.aload 5, 2) := by decide +kernel
theorem d_CM_size_37 : decode b_CM_size 37 = .ok (.iload 4, 2) := by decide +kernel
theorem d_CM_size_39 : decode b_CM_size 39 = .ok (.invokevirtual 155, 3) := by decide +kernel
theorem d_CM_size_42 : decode b_CM_size 42 = .ok (.ifCond .eq 10, 3) := by decide +kernel
theorem d_CM_size_45 : decode b_CM_size 45 = .ok (.iload 6, 2) := by decide +kernel
theorem d_CM_size_47 : decode b_CM_size 47 = .ok (.iconst 4, 1) := by decide +kernel
theorem d_CM_size_48 : decode b_CM_size 48 = .ok (.idiv, 1) := by decide +kernel
theorem d_CM_size_49 : decode b_CM_size 49 = .ok (.goto 5, 3) := by decide +kernel
theorem d_CM_size_52 : decode b_CM_size 52 = .ok (.iload 6, 2) := by decide +kernel
theorem d_CM_size_54 : decode b_CM_size 54 = .ok (.ireturn, 1) := by decide +kernel
theorem d_CM_read_0 : decode b_CM_read 0 = .ok (.aload_n 0, 1) := by decide +kernel
theorem d_CM_read_1 : decode b_CM_read 1 = .ok (.iload_n 1, 1) := by decide +kernel
theorem d_CM_read_2 : decode b_CM_read 2 = .ok (.iload_n 2, 1) := by decide +kernel
theorem d_CM_read_3 : decode b_CM_read 3 = .ok (.iload_n 3, 1) := by decide +kernel
theorem d_CM_read_4 : decode b_CM_read 4 = .ok (.invokevirtual 145, 3) := by decide +kernel
theorem d_CM_read_7 : decode b_CM_read 7 = .ok (.istore 5, 2) := by decide +kernel
theorem d_CM_read_9 : decode b_CM_read 9 = .ok (.iload 5, 2) := by decide +kernel
theorem d_CM_read_11 : decode b_CM_read 11 = .ok (.ifCond .ge 6, 3) := by decide +kernel
theorem d_CM_read_14 : decode b_CM_read 14 = .ok (.iload 5, 2) := by decide +kernel
theorem d_CM_read_16 : decode b_CM_read 16 = .ok (.ireturn, 1) := by decide +kernel
theorem d_CM_read_17 : decode b_CM_read 17 = .ok (.iload 4, 2) := by decide +kernel
theorem d_CM_read_19 : decode b_CM_read 19 = .ok (.ifCond .lt 20, 3) := by decide +kernel
theorem d_CM_read_22 : decode b_CM_read 22 = .ok (.iload 4, 2) := by decide +kernel
theorem d_CM_read_24 : decode b_CM_read 24 = .ok (.aload_n 0, 1) := by decide +kernel
theorem d_CM_read_25 : decode b_CM_read 25 = .ok (.getfield 33, 3) := by decide +kernel
theorem d_CM_read_28 : decode b_CM_read 28 = .ok (.getfield 126, 3) := by decide +kernel
theorem d_CM_read_31 : decode b_CM_read 31 = .ok (.iload 5, 2) := by decide +kernel
theorem d_CM_read_33 : decode b_CM_read 33 = .ok (.invokevirtual 152, 3) := by decide +kernel
theorem d_CM_read_36 : decode b_CM_read 36 = .ok (.if_icmp .lt 6, 3) := by decide +kernel
theorem d_CM_read_39 : decode b_CM_read 39 = .ok (.bipush (-2), 2) := by decide +kernel
theorem d_CM_read_41 : decode b_CM_read 41 = .ok (.ireturn, 1) := by decide +kernel
theorem d_CM_read_42 : decode b_CM_read 42 = .ok (.aload_n 0, 1) := by decide +kernel
theorem d_CM_read_43 : decode b_CM_read 43 = .ok (.getfield 33, 3) := by decide +kernel
theorem d_CM_read_46 : decode b_CM_read 46 = .ok (.getfield 126, 3) := by decide +kernel
theorem d_CM_read_49 : decode b_CM_read 49 = .ok (.iload 5, 2) := by decide +kernel
theorem d_CM_read_51 : decode b_CM_read 51 = .ok (.iload 4, 2) := by decide +kernel
theorem d_CM_read_53 : decode b_CM_read 53 = .ok (.invokevirtual 158, 3) := by decide +kernel
theorem d_CM_read_56 : decode b_CM_read 56 = .ok (.ireturn, 1) := by decide +kernel
theorem d_CM_follow_0 : decode b_CM_follow 0 = .ok (.iload_n 1, 1) := by decide +kernel
theorem d_CM_follow_1 : decode b_CM_follow 1 = .ok (.invokestatic 67, 3) := by decide +kernel
theorem d_CM_follow_4 : decode b_CM_follow 4 = .ok (.ifCond .eq 17, 3) := by decide +kernel
theorem d_CM_follow_7 : decode b_CM_follow 7 = .ok (.iload_n 2, 1) := by decide +kernel
theorem d_CM_follow_8 : decode b_CM_follow 8 = .ok (.invokestatic 67, 3) := by decide +kernel
theorem d_CM_follow_11 : decode b_CM_follow 11 = .ok (.ifCond .eq 10, 3) := by decide +kernel
theorem d_CM_follow_14 : decode b_CM_follow 14 = .ok (.iload_n 3, 1) := by decide +kernel
theorem d_CM_follow_15 : decode b_CM_follow 15 = .ok (.invokestatic 67, 3) := by decide +kernel
theorem d_CM_follow_18 : decode b_CM_follow 18 = .ok (.ifCond .ne 5, 3) := by decide +kernel
theorem d_CM_follow_21 : decode b_CM_follow 21 = .ok (.iconst (-1), 1) := by decide +kernel
theorem d_CM_follow_22 : decode b_CM_follow 22 = .ok (.ireturn, 1) := by decide +kernel
theorem d_CM_follow_23 : decode b_CM_follow 23 = .ok (.aload_n 0, 1) := by decide +kernel
theorem d_CM_follow_24 : decode b_CM_follow 24 = .ok (.getfield 33, 3) := by decide +kernel
theorem d_CM_follow_27 : decode b_CM_follow 27 = .ok (.getfield 126, 3) := by decide +kernel
theorem d_CM_follow_30 : decode b_CM_follow 30 = .ok (.astore 4, 2) := by decide +kernel
theorem d_CM_follow_32 : decode b_CM_follow 32 = .ok (.aload 4, 2) := by decide +kernel
theorem d_CM_follow_34 : decode b_CM_follow 34 = .ok (.invokevirtual 161, 3) := by decide +kernel
theorem d_CM_follow_37 : decode b_CM_follow 37 = .ok (.istore 5, 2) := by decide +kernel
theorem d_CM_follow_39 : decode b_CM_follow 39 = .ok (.iload_n 1, 1) := by decide +kernel
theorem d_CM_follow_40 : decode b_CM_follow 40 = .ok (.ifCond .eq 8, 3) := by decide +kernel
theorem d_CM_follow_43 : decode b_CM_follow 43 = .ok (.iload 5, 2) := by decide +kernel
theorem d_CM_follow_45 : decode b_CM_follow 45 = .ok (.ifCond .ge 6, 3) := by decide +kernel
theorem d_CM_follow_48 : decode b_CM_follow 48 = .ok (.iload 5, 2) := by decide +kernel
theorem d_CM_follow_50 : decode b_CM_follow 50 = .ok (.ireturn, 1) := by decide +kernel
theorem d_CM_follow_51 : decode b_CM_follow 51 = .ok (.aload 4, 2) := by decide +kernel
theorem d_CM_follow_53 : decode b_CM_follow 53 = .ok (.iload 5, 2) := by decide +kernel
theorem d_CM_follow_55 : decode b_CM_follow 55 = .ok (.iload_n 1, 1) := by decide +kernel
theorem d_CM_follow_56 : decode b_CM_follow 56 = .ok (.invokevirtual 164, 3) := by decide +kernel
theorem d_CM_follow_59 : decode b_CM_follow 59 = .ok (.istore 5, 2) := by decide +kernel
theorem d_CM_follow_61 : decode b_CM_follow 61 = .ok (.iload_n 2, 1) := by decide +kernel
theorem d_CM_follow_62 : decode b_CM_follow 62 = .ok (.ifCond .eq 8, 3) := by decide +kernel
theorem d_CM_follow_65 : decode b_CM_follow 65 = .ok (.iload 5, 2) := by decide +kernel
theorem d_CM_follow_67 : decode b_CM_follow 67 = .ok (.ifCond .ge 6, 3) := by decide +kernel
theorem d_CM_follow_70 : decode b_CM_follow 70 = .ok (.iload 5, 2) := by decide +kernel
theorem d_CM_follow_72 : decode b_CM_follow 72 = .ok (.ireturn, 1) := by decide +kernel
theorem d_CM_follow_73 : decode b_CM_follow 73 = .ok (.aload 4, 2) := by decide +kernel
theorem d_CM_follow_75 : decode b_CM_follow 75 = .ok (.iload 5, 2) := by decide +kernel
theorem d_CM_follow_77 : decode b_CM_follow 77 = .ok (.iload_n 2, 1) := by decide +kernel
theorem d_CM_follow_78 : decode b_CM_follow 78 = .ok (.invokevirtual 164, 3) := by decide +kernel
theorem d_CM_follow_81 : decode b_CM_follow 81 = .ok (.istore 5, 2) := by decide +kernel
theorem d_CM_follow_83 : decode b_CM_follow 83 = .ok (.iload_n 3, 1) := by decide +kernel
theorem d_CM_follow_84 : decode b_CM_follow 84 = .ok (.ifCond .eq 8, 3) := by decide +kernel
theorem d_CM_follow_87 : decode b_CM_follow 87 = .ok (.iload 5, 2) := by decide +kernel
theorem d_CM_follow_89 : decode b_CM_follow 89 = .ok (.ifCond .ge 6, 3) := by decide +kernel
theorem d_CM_follow_92 : decode b_CM_follow 92 = .ok (.iload 5, 2) := by decide +kernel
theorem d_CM_follow_94 : decode b_CM_follow 94 = .ok (.ireturn, 1) := by decide +kernel
theorem d_CM_follow_95 : decode b_CM_follow 95 = .ok (.aload 4, 2) := by decide +kernel
theorem d_CM_follow_97 : decode b_CM_follow 97 = .ok (.iload 5, 2) := by decide +kernel
theorem d_CM_follow_99 : decode b_CM_follow 99 = .ok (.iload_n 3, 1) := by decide +kernel
theorem d_CM_follow_100 : decode b_CM_follow 100 = .ok (.invokevirtual 164, 3) := by decide +kernel
theorem d_CM_follow_103 : decode b_CM_follow 103 = .ok (.ireturn, 1) := by decide +kernel
theorem d_CM_isEntryKey_0 : decode b_CM_isEntryKey 0 = .ok (.iload_n 0, 1) := by decide +kernel
theorem d_CM_isEntryKey_1 : decode b_CM_isEntryKey 1 = .ok (.iconst 1, 1) := by decide +kernel
theorem d_CM_isEntryKey_2 : decode b_CM_isEntryKey 2 = .ok (.if_icmp .lt 13, 3) := by decide +kernel
theorem d_CM_isEntryKey_5 : decode b_CM_isEntryKey 5 = .ok (.iload_n 0, 1) := by decide +kernel
theorem d_CM_isEntryKey_6 : decode b_CM_isEntryKey 6 = .ok (.bipush 12, 2) := by decide +kernel
theorem d_CM_isEntryKey_8 : decode b_CM_isEntryKey 8 = .ok (.if_icmp .ge 7, 3) := by decide +kernel
theorem d_CM_isEntryKey_11 : decode b_CM_isEntryKey 11 = .ok (.iconst 1, 1) := by decide +kernel
theorem d_CM_isEntryKey_12 : decode b_CM_isEntryKey 12 = .ok (.goto 4, 3) := by decide +kernel
theorem d_CM_isEntryKey_15 : decode b_CM_isEntryKey 15 = .ok (.iconst 0, 1) := by decide +kernel
theorem d_CM_isEntryKey_16 : decode b_CM_isEntryKey 16 = .ok (.ireturn, 1) := by decide +kernel
theorem d_CM_isByte_0 : decode b_CM_isByte 0 = .ok (.iload_n 0, 1) := by decide +kernel
theorem d_CM_isByte_1 : decode b_CM_isByte 1 = .ok (.ifCond .lt 14, 3) := by decide +kernel
theorem d_CM_isByte_4 : decode b_CM_isByte 4 = .ok (.iload_n 0, 1) := by decide +kernel
theorem d_CM_isByte_5 : decode b_CM_isByte 5 = .ok (.sipush 255, 3) := by decide +kernel
theorem d_CM_isByte_8 : decode b_CM_isByte 8 = .ok (.if_icmp .gt 7, 3) := by decide +kernel
theorem d_CM_isByte_11 : decode b_CM_isByte 11 = .ok (.iconst 1, 1) := by decide +kernel
theorem d_CM_isByte_12 : decode b_CM_isByte 12 = .ok (.goto 4, 3) := by decide +kernel
theorem d_CM_isByte_15 : decode b_CM_isByte 15 = .ok (.iconst 0, 1) := by decide +kernel
theorem d_CM_isByte_16 : decode b_CM_isByte 16 = .ok (.ireturn, 1) := by decide +kernel
theorem d_CM_pairAt_0 : decode b_CM_pairAt 0 = .ok (.aload_n 0, 1) := by decide +kernel
theorem d_CM_pairAt_1 : decode b_CM_pairAt 1 = .ok (.iload_n 1, 1) := by decide +kernel
theorem d_CM_pairAt_2 : decode b_CM_pairAt 2 = .ok (.iaload, 1) := by decide +kernel
theorem d_CM_pairAt_3 : decode b_CM_pairAt 3 = .ok (.sipush 256, 3) := by decide +kernel
theorem d_CM_pairAt_6 : decode b_CM_pairAt 6 = .ok (.imul, 1) := by decide +kernel
theorem d_CM_pairAt_7 : decode b_CM_pairAt 7 = .ok (.aload_n 0, 1) := by decide +kernel
theorem d_CM_pairAt_8 : decode b_CM_pairAt 8 = .ok (.iload_n 1, 1) := by decide +kernel
theorem d_CM_pairAt_9 : decode b_CM_pairAt 9 = .ok (.iconst 1, 1) := by decide +kernel
theorem d_CM_pairAt_10 : decode b_CM_pairAt 10 = .ok (.iadd, 1) := by decide +kernel
theorem d_CM_pairAt_11 : decode b_CM_pairAt 11 = .ok (.iaload, 1) := by decide +kernel
theorem d_CM_pairAt_12 : decode b_CM_pairAt 12 = .ok (.iadd, 1) := by decide +kernel
theorem d_CM_pairAt_13 : decode b_CM_pairAt 13 = .ok (.ireturn, 1) := by decide +kernel
theorem d_CM_checkOf_0 : decode b_CM_checkOf 0 = .ok (.iconst (-1), 1) := by decide +kernel
theorem d_CM_checkOf_1 : decode b_CM_checkOf 1 = .ok (.istore_n 3, 1) := by decide +kernel
theorem d_CM_checkOf_2 : decode b_CM_checkOf 2 = .ok (.iload_n 1, 1) := by decide +kernel
theorem d_CM_checkOf_3 : decode b_CM_checkOf 3 = .ok (.istore 4, 2) := by decide +kernel
theorem d_CM_checkOf_5 : decode b_CM_checkOf 5 = .ok (.iload 4, 2) := by decide +kernel
theorem d_CM_checkOf_7 : decode b_CM_checkOf 7 = .ok (.iload_n 2, 1) := by decide +kernel
theorem d_CM_checkOf_8 : decode b_CM_checkOf 8 = .ok (.if_icmp .ge 52, 3) := by decide +kernel
theorem d_CM_checkOf_11 : decode b_CM_checkOf 11 = .ok (.iload_n 3, 1) := by decide +kernel
theorem d_CM_checkOf_12 : decode b_CM_checkOf 12 = .ok (.aload_n 0, 1) := by decide +kernel
theorem d_CM_checkOf_13 : decode b_CM_checkOf 13 = .ok (.iload 4, 2) := by decide +kernel
theorem d_CM_checkOf_15 : decode b_CM_checkOf 15 = .ok (.iaload, 1) := by decide +kernel
theorem d_CM_checkOf_16 : decode b_CM_checkOf 16 = .ok (.bipush 24, 2) := by decide +kernel
theorem d_CM_checkOf_18 : decode b_CM_checkOf 18 = .ok (.ishl, 1) := by decide +kernel
theorem d_CM_checkOf_19 : decode b_CM_checkOf 19 = .ok (.ixor, 1) := by decide +kernel
theorem d_CM_checkOf_20 : decode b_CM_checkOf 20 = .ok (.istore_n 3, 1) := by decide +kernel
theorem d_CM_checkOf_21 : decode b_CM_checkOf 21 = .ok (.iconst 0, 1) := by decide +kernel
theorem d_CM_checkOf_22 : decode b_CM_checkOf 22 = .ok (.istore 5, 2) := by decide +kernel
theorem d_CM_checkOf_24 : decode b_CM_checkOf 24 = .ok (.iload 5, 2) := by decide +kernel
theorem d_CM_checkOf_26 : decode b_CM_checkOf 26 = .ok (.bipush 8, 2) := by decide +kernel
theorem d_CM_checkOf_28 : decode b_CM_checkOf 28 = .ok (.if_icmp .ge 26, 3) := by decide +kernel
theorem d_CM_checkOf_31 : decode b_CM_checkOf 31 = .ok (.iload_n 3, 1) := by decide +kernel
theorem d_CM_checkOf_32 : decode b_CM_checkOf 32 = .ok (.ifCond .ge 12, 3) := by decide +kernel
theorem d_CM_checkOf_35 : decode b_CM_checkOf 35 = .ok (.iload_n 3, 1) := by decide +kernel
theorem d_CM_checkOf_36 : decode b_CM_checkOf 36 = .ok (.iconst 1, 1) := by decide +kernel
theorem d_CM_checkOf_37 : decode b_CM_checkOf 37 = .ok (.ishl, 1) := by decide +kernel
theorem d_CM_checkOf_38 : decode b_CM_checkOf 38 = .ok (.ldc 167, 2) := by decide +kernel
theorem d_CM_checkOf_40 : decode b_CM_checkOf 40 = .ok (.ixor, 1) := by decide +kernel
theorem d_CM_checkOf_41 : decode b_CM_checkOf 41 = .ok (.goto 6, 3) := by decide +kernel
theorem d_CM_checkOf_44 : decode b_CM_checkOf 44 = .ok (.iload_n 3, 1) := by decide +kernel
theorem d_CM_checkOf_45 : decode b_CM_checkOf 45 = .ok (.iconst 1, 1) := by decide +kernel
theorem d_CM_checkOf_46 : decode b_CM_checkOf 46 = .ok (.ishl, 1) := by decide +kernel
theorem d_CM_checkOf_47 : decode b_CM_checkOf 47 = .ok (.istore_n 3, 1) := by decide +kernel
theorem d_CM_checkOf_48 : decode b_CM_checkOf 48 = .ok (.iinc 5 1, 3) := by decide +kernel
theorem d_CM_checkOf_51 : decode b_CM_checkOf 51 = .ok (.goto (-27), 3) := by decide +kernel
theorem d_CM_checkOf_54 : decode b_CM_checkOf 54 = .ok (.iinc 4 1, 3) := by decide +kernel
theorem d_CM_checkOf_57 : decode b_CM_checkOf 57 = .ok (.goto (-52), 3) := by decide +kernel
theorem d_CM_checkOf_60 : decode b_CM_checkOf 60 = .ok (.iload_n 3, 1) := by decide +kernel
theorem d_CM_checkOf_61 : decode b_CM_checkOf 61 = .ok (.ireturn, 1) := by decide +kernel
theorem d_CM_blocksIn_0 : decode b_CM_blocksIn 0 = .ok (.iload_n 0, 1) := by decide +kernel
theorem d_CM_blocksIn_1 : decode b_CM_blocksIn 1 = .ok (.bipush 8, 2) := by decide +kernel
theorem d_CM_blocksIn_3 : decode b_CM_blocksIn 3 = .ok (.iadd, 1) := by decide +kernel
theorem d_CM_blocksIn_4 : decode b_CM_blocksIn 4 = .ok (.iconst 1, 1) := by decide +kernel
theorem d_CM_blocksIn_5 : decode b_CM_blocksIn 5 = .ok (.isub, 1) := by decide +kernel
theorem d_CM_blocksIn_6 : decode b_CM_blocksIn 6 = .ok (.bipush 8, 2) := by decide +kernel
theorem d_CM_blocksIn_8 : decode b_CM_blocksIn 8 = .ok (.idiv, 1) := by decide +kernel
theorem d_CM_blocksIn_9 : decode b_CM_blocksIn 9 = .ok (.ireturn, 1) := by decide +kernel
theorem d_CM_blockLength_0 : decode b_CM_blockLength 0 = .ok (.iload_n 0, 1) := by decide +kernel
theorem d_CM_blockLength_1 : decode b_CM_blockLength 1 = .ok (.iload_n 1, 1) := by decide +kernel
theorem d_CM_blockLength_2 : decode b_CM_blockLength 2 = .ok (.bipush 8, 2) := by decide +kernel
theorem d_CM_blockLength_4 : decode b_CM_blockLength 4 = .ok (.imul, 1) := by decide +kernel
theorem d_CM_blockLength_5 : decode b_CM_blockLength 5 = .ok (.isub, 1) := by decide +kernel
theorem d_CM_blockLength_6 : decode b_CM_blockLength 6 = .ok (.istore_n 2, 1) := by decide +kernel
theorem d_CM_blockLength_7 : decode b_CM_blockLength 7 = .ok (.iload_n 2, 1) := by decide +kernel
theorem d_CM_blockLength_8 : decode b_CM_blockLength 8 = .ok (.bipush 8, 2) := by decide +kernel
theorem d_CM_blockLength_10 : decode b_CM_blockLength 10 = .ok (.if_icmp .ge 7, 3) := by decide +kernel
theorem d_CM_blockLength_13 : decode b_CM_blockLength 13 = .ok (.iload_n 2, 1) := by decide +kernel
theorem d_CM_blockLength_14 : decode b_CM_blockLength 14 = .ok (.goto 5, 3) := by decide +kernel
theorem d_CM_blockLength_17 : decode b_CM_blockLength 17 = .ok (.bipush 8, 2) := by decide +kernel
theorem d_CM_blockLength_19 : decode b_CM_blockLength 19 = .ok (.ireturn, 1) := by decide +kernel
theorem d_Ed_init_0 : decode b_Ed_init 0 = .ok (.aload_n 0, 1) := by decide +kernel
theorem d_Ed_init_1 : decode b_Ed_init 1 = .ok (.invokespecial 3, 3) := by decide +kernel
theorem d_Ed_init_4 : decode b_Ed_init 4 = .ok (.aload_n 0, 1) := by decide +kernel
theorem d_Ed_init_5 : decode b_Ed_init 5 = .ok (.iconst 0, 1) := by decide +kernel
theorem d_Ed_init_6 : decode b_Ed_init 6 = .ok (.putfield 9, 3) := by decide +kernel
theorem d_Ed_init_9 : decode b_Ed_init 9 = .ok (.aload_n 0, 1) := by decide +kernel
theorem d_Ed_init_10 : decode b_Ed_init 10 = .ok (.iconst 0, 1) := by decide +kernel
theorem d_Ed_init_11 : decode b_Ed_init 11 = .ok (.putfield 15, 3) := by decide +kernel
theorem d_Ed_init_14 : decode b_Ed_init 14 = .ok (.aload_n 0, 1) := by decide +kernel
theorem d_Ed_init_15 : decode b_Ed_init 15 = .ok (.bipush 12, 2) := by decide +kernel
theorem d_Ed_init_17 : decode b_Ed_init 17 = .ok (.newarray .int, 2) := by decide +kernel
theorem d_Ed_init_19 : decode b_Ed_init 19 = .ok (.putfield 18, 3) := by decide +kernel
theorem d_Ed_init_22 : decode b_Ed_init 22 = .ok (.aload_n 0, 1) := by decide +kernel
theorem d_Ed_init_23 : decode b_Ed_init 23 = .ok (.bipush 12, 2) := by decide +kernel
theorem d_Ed_init_25 : decode b_Ed_init 25 = .ok (.newarray .int, 2) := by decide +kernel
theorem d_Ed_init_27 : decode b_Ed_init 27 = .ok (.putfield 22, 3) := by decide +kernel
theorem d_Ed_init_30 : decode b_Ed_init 30 = .ok (.aload_n 0, 1) := by decide +kernel
theorem d_Ed_init_31 : decode b_Ed_init 31 = .ok (.sipush 576, 3) := by decide +kernel
theorem d_Ed_init_34 : decode b_Ed_init 34 = .ok (.newarray .int, 2) := by decide +kernel
theorem d_Ed_init_36 : decode b_Ed_init 36 = .ok (.putfield 25, 3) := by decide +kernel
theorem d_Ed_init_39 : decode b_Ed_init 39 = .ok (.aload_n 0, 1) := by decide +kernel
theorem d_Ed_init_40 : decode b_Ed_init 40 = .ok (.bipush 12, 2) := by decide +kernel
theorem d_Ed_init_42 : decode b_Ed_init 42 = .ok (.newarray .int, 2) := by decide +kernel
theorem d_Ed_init_44 : decode b_Ed_init 44 = .ok (.putfield 28, 3) := by decide +kernel
theorem d_Ed_init_47 : decode b_Ed_init 47 = .ok (.aload_n 0, 1) := by decide +kernel
theorem d_Ed_init_48 : decode b_Ed_init 48 = .ok (.iconst 0, 1) := by decide +kernel
theorem d_Ed_init_49 : decode b_Ed_init 49 = .ok (.putfield 31, 3) := by decide +kernel
theorem d_Ed_init_52 : decode b_Ed_init 52 = .ok (.aload_n 0, 1) := by decide +kernel
theorem d_Ed_init_53 : decode b_Ed_init 53 = .ok (.bipush 12, 2) := by decide +kernel
theorem d_Ed_init_55 : decode b_Ed_init 55 = .ok (.newarray .int, 2) := by decide +kernel
theorem d_Ed_init_57 : decode b_Ed_init 57 = .ok (.putfield 34, 3) := by decide +kernel
theorem d_Ed_init_60 : decode b_Ed_init 60 = .ok (.aload_n 0, 1) := by decide +kernel
theorem d_Ed_init_61 : decode b_Ed_init 61 = .ok (.bipush 48, 2) := by decide +kernel
theorem d_Ed_init_63 : decode b_Ed_init 63 = .ok (.newarray .int, 2) := by decide +kernel
theorem d_Ed_init_65 : decode b_Ed_init 65 = .ok (.putfield 37, 3) := by decide +kernel
theorem d_Ed_init_68 : decode b_Ed_init 68 = .ok (.aload_n 0, 1) := by decide +kernel
theorem d_Ed_init_69 : decode b_Ed_init 69 = .ok (.iconst 0, 1) := by decide +kernel
theorem d_Ed_init_70 : decode b_Ed_init 70 = .ok (.putfield 40, 3) := by decide +kernel
theorem d_Ed_init_73 : decode b_Ed_init 73 = .ok (.return_, 1) := by decide +kernel
theorem d_Ed_byteAt_0 : decode b_Ed_byteAt 0 = .ok (.aload_n 0, 1) := by decide +kernel
theorem d_Ed_byteAt_1 : decode b_Ed_byteAt 1 = .ok (.getfield 25, 3) := by decide +kernel
theorem d_Ed_byteAt_4 : decode b_Ed_byteAt 4 = .ok (.iload_n 1, 1) := by decide +kernel
theorem d_Ed_byteAt_5 : decode b_Ed_byteAt 5 = .ok (.bipush 48, 2) := by decide +kernel
theorem d_Ed_byteAt_7 : decode b_Ed_byteAt 7 = .ok (.imul, 1) := by decide +kernel
theorem d_Ed_byteAt_8 : decode b_Ed_byteAt 8 = .ok (.iload_n 2, 1) := by decide +kernel
theorem d_Ed_byteAt_9 : decode b_Ed_byteAt 9 = .ok (.iadd, 1) := by decide +kernel
theorem d_Ed_byteAt_10 : decode b_Ed_byteAt 10 = .ok (.iaload, 1) := by decide +kernel
theorem d_Ed_byteAt_11 : decode b_Ed_byteAt 11 = .ok (.ireturn, 1) := by decide +kernel
theorem d_Ed_renew_0 : decode b_Ed_renew 0 = .ok (.aload_n 0, 1) := by decide +kernel
theorem d_Ed_renew_1 : decode b_Ed_renew 1 = .ok (.dup, 1) := by decide +kernel
theorem d_Ed_renew_2 : decode b_Ed_renew 2 = .ok (.getfield 9, 3) := by decide +kernel
theorem d_Ed_renew_5 : decode b_Ed_renew 5 = .ok (.iconst 1, 1) := by decide +kernel
theorem d_Ed_renew_6 : decode b_Ed_renew 6 = .ok (.iadd, 1) := by decide +kernel
theorem d_Ed_renew_7 : decode b_Ed_renew 7 = .ok (.putfield 9, 3) := by decide +kernel
theorem d_Ed_renew_10 : decode b_Ed_renew 10 = .ok (.aload_n 0, 1) := by decide +kernel
theorem d_Ed_renew_11 : decode b_Ed_renew 11 = .ok (.aload_n 1, 1) := by decide +kernel
theorem d_Ed_renew_12 : decode b_Ed_renew 12 = .ok (.invokevirtual 43, 3) := by decide +kernel
theorem d_Ed_renew_15 : decode b_Ed_renew 15 = .ok (.aload_n 0, 1) := by decide +kernel
theorem d_Ed_renew_16 : decode b_Ed_renew 16 = .ok (.aload_n 1, 1) := by decide +kernel
theorem d_Ed_renew_17 : decode b_Ed_renew 17 = .ok (.invokevirtual 47, 3) := by decide +kernel
theorem d_Ed_renew_20 : decode b_Ed_renew 20 = .ok (.istore_n 2, 1) := by decide +kernel
theorem d_Ed_renew_21 : decode b_Ed_renew 21 = .ok (.iconst 0, 1) := by decide +kernel
theorem d_Ed_renew_22 : decode b_Ed_renew 22 = .ok (.istore_n 3, 1) := by decide +kernel
theorem d_Ed_renew_23 : decode b_Ed_renew 23 = .ok (.iload_n 3, 1) := by decide +kernel
theorem d_Ed_renew_24 : decode b_Ed_renew 24 = .ok (.iload_n 2, 1) := by decide +kernel
theorem d_Ed_renew_25 : decode b_Ed_renew 25 = .ok (.if_icmp .ge 20, 3) := by decide +kernel
theorem d_Ed_renew_28 : decode b_Ed_renew 28 = .ok (.aload_n 0, 1) := by decide +kernel
theorem d_Ed_renew_29 : decode b_Ed_renew 29 = .ok (.aload_n 1, 1) := by decide +kernel
theorem d_Ed_renew_30 : decode b_Ed_renew 30 = .ok (.iload_n 3, 1) := by decide +kernel
theorem d_Ed_renew_31 : decode b_Ed_renew 31 = .ok (.invokevirtual 51, 3) := by decide +kernel
theorem d_Ed_renew_34 : decode b_Ed_renew 34 = .ok (.aload_n 0, 1) := by decide +kernel
theorem d_Ed_renew_35 : decode b_Ed_renew 35 = .ok (.iload_n 3, 1) := by decide +kernel
theorem d_Ed_renew_36 : decode b_Ed_renew 36 = .ok (.invokevirtual 55, 3) := by decide +kernel
theorem d_Ed_renew_39 : decode b_Ed_renew 39 = .ok (.iinc 3 1, 3) := by decide +kernel
theorem d_Ed_renew_42 : decode b_Ed_renew 42 = .ok (.goto (-19), 3) := by decide +kernel
theorem d_Ed_renew_45 : decode b_Ed_renew 45 = .ok (.aload_n 0, 1) := by decide +kernel
theorem d_Ed_renew_46 : decode b_Ed_renew 46 = .ok (.iload_n 2, 1) := by decide +kernel
theorem d_Ed_renew_47 : decode b_Ed_renew 47 = .ok (.putfield 15, 3) := by decide +kernel
theorem d_Ed_renew_50 : decode b_Ed_renew 50 = .ok (.return_, 1) := by decide +kernel
theorem d_Ed_arrange_0 : decode b_Ed_arrange 0 = .ok (.aload_n 0, 1) := by decide +kernel
theorem d_Ed_arrange_1 : decode b_Ed_arrange 1 = .ok (.iconst 0, 1) := by decide +kernel
theorem d_Ed_arrange_2 : decode b_Ed_arrange 2 = .ok (.putfield 31, 3) := by decide +kernel
theorem d_Ed_arrange_5 : decode b_Ed_arrange 5 = .ok (.iconst 0, 1) := by decide +kernel
theorem d_Ed_arrange_6 : decode b_Ed_arrange 6 = .ok (.istore_n 2, 1) := by decide +kernel
theorem d_Ed_arrange_7 : decode b_Ed_arrange 7 = .ok (.iconst 0, 1) := by decide +kernel
theorem d_Ed_arrange_8 : decode b_Ed_arrange 8 = .ok (.istore_n 3, 1) := by decide +kernel
theorem d_Ed_arrange_9 : decode b_Ed_arrange 9 = .ok (.iload_n 3, 1) := by decide +kernel
theorem d_Ed_arrange_10 : decode b_Ed_arrange 10 = .ok (.bipush 12, 2) := by decide +kernel
theorem d_Ed_arrange_12 : decode b_Ed_arrange 12 = .ok (.if_icmp .ge 37, 3) := by decide +kernel
theorem d_Ed_arrange_15 : decode b_Ed_arrange 15 = .ok (.iload_n 2, 1) := by decide +kernel
theorem d_Ed_arrange_16 : decode b_Ed_arrange 16 = .ok (.iconst (-1), 1) := by decide +kernel
theorem d_Ed_arrange_17 : decode b_Ed_arrange 17 = .ok (.if_icmp .eq 32, 3) := by decide +kernel
theorem d_Ed_arrange_20 : decode b_Ed_arrange 20 = .ok (.aload_n 0, 1) := by decide +kernel
theorem d_Ed_arrange_21 : decode b_Ed_arrange 21 = .ok (.getfield 28, 3) := by decide +kernel
theorem d_Ed_arrange_24 : decode b_Ed_arrange 24 = .ok (.iload_n 3, 1) := by decide +kernel
theorem d_Ed_arrange_25 : decode b_Ed_arrange 25 = .ok (.iload_n 2, 1) := by decide +kernel
theorem d_Ed_arrange_26 : decode b_Ed_arrange 26 = .ok (.iastore, 1) := by decide +kernel
theorem d_Ed_arrange_27 : decode b_Ed_arrange 27 = .ok (.aload_n 0, 1) := by decide +kernel
theorem d_Ed_arrange_28 : decode b_Ed_arrange 28 = .ok (.dup, 1) := by decide +kernel
theorem d_Ed_arrange_29 : decode b_Ed_arrange 29 = .ok (.getfield 31, 3) := by decide +kernel
theorem d_Ed_arrange_32 : decode b_Ed_arrange 32 = .ok (.iconst 1, 1) := by decide +kernel
theorem d_Ed_arrange_33 : decode b_Ed_arrange 33 = .ok (.iadd, 1) := by decide +kernel
theorem d_Ed_arrange_34 : decode b_Ed_arrange 34 = .ok (.putfield 31, 3) := by decide +kernel
theorem d_Ed_arrange_37 : decode b_Ed_arrange 37 = .ok (.aload_n 1, 1) := by decide +kernel
theorem d_Ed_arrange_38 : decode b_Ed_arrange 38 = .ok (.iload_n 2, 1) := by decide +kernel
theorem d_Ed_arrange_39 : decode b_Ed_arrange 39 = .ok (.invokevirtual 59, 3) := by decide +kernel
theorem d_Ed_arrange_42 : decode b_Ed_arrange 42 = .ok (.istore_n 2, 1) := by decide +kernel
theorem d_Ed_arrange_43 : decode b_Ed_arrange 43 = .ok (.iinc 3 1, 3) := by decide +kernel
theorem d_Ed_arrange_46 : decode b_Ed_arrange 46 = .ok (.goto (-37), 3) := by decide +kernel
theorem d_Ed_arrange_49 : decode b_Ed_arrange 49 = .ok (.return_, 1) := by decide +kernel
theorem d_Ed_assignModules_0 : decode b_Ed_assignModules 0 = .ok (.iconst 0, 1) := by decide +kernel
theorem d_Ed_assignModules_1 : decode b_Ed_assignModules 1 = .ok (.istore_n 2, 1) := by decide +kernel
theorem d_Ed_assignModules_2 : decode b_Ed_assignModules 2 = .ok (.iconst 0, 1) := by decide +kernel
theorem d_Ed_assignModules_3 : decode b_Ed_assignModules 3 = .ok (.istore_n 3, 1) := by decide +kernel
theorem d_Ed_assignModules_4 : decode b_Ed_assignModules 4 = .ok (.iconst 0, 1) := by decide +kernel
theorem d_Ed_assignModules_5 : decode b_Ed_assignModules 5 = .ok (.istore 4, 2) := by decide +kernel
theorem d_Ed_assignModules_7 : decode b_Ed_assignModules 7 = .ok (.iload 4, 2) := by decide +kernel
theorem d_Ed_assignModules_9 : decode b_Ed_assignModules 9 = .ok (.aload_n 0, 1) := by decide +kernel
theorem d_Ed_assignModules_10 : decode b_Ed_assignModules 10 = .ok (.getfield 31, 3) := by decide +kernel
theorem d_Ed_assignModules_13 : decode b_Ed_assignModules 13 = .ok (.if_icmp .ge 61, 3) := by decide +kernel
theorem d_Ed_assignModules_16 : decode b_Ed_assignModules 16 = .ok (.iconst 3, 1) := by decide +kernel
theorem d_Ed_assignModules_17 : decode b_Ed_assignModules 17 = .ok (.aload_n 1, 1) := by decide +kernel
theorem d_Ed_assignModules_18 : decode b_Ed_assignModules 18 = .ok (.aload_n 0, 1) := by decide +kernel
theorem d_Ed_assignModules_19 : decode b_Ed_assignModules 19 = .ok (.getfield 28, 3) := by decide +kernel
theorem d_Ed_assignModules_22 : decode b_Ed_assignModules 22 = .ok (.iload 4, 2) := by decide +kernel
theorem d_Ed_assignModules_24 : decode b_Ed_assignModules 24 = .ok (.iaload, 1) := by decide +kernel
theorem d_Ed_assignModules_25 : decode b_Ed_assignModules 25 = .ok (.invokevirtual 65, 3) := by decide +kernel
theorem d_Ed_assignModules_28 : decode b_Ed_assignModules 28 = .ok (.iadd, 1) := by decide +kernel
theorem d_Ed_assignModules_29 : decode b_Ed_assignModules 29 = .ok (.istore 5, 2) := by decide +kernel
theorem d_Ed_assignModules_31 : decode b_Ed_assignModules 31 = .ok (.iload 4, 2) := by decide +kernel
theorem d_Ed_assignModules_33 : decode b_Ed_assignModules 33 = .ok (.ifCond .le 17, 3) := by decide +kernel
theorem d_Ed_assignModules_36 : decode b_Ed_assignModules 36 = .ok (.iload_n 3, 1) := by decide +kernel
theorem d_Ed_assignModules_37 : decode b_Ed_assignModules 37 = .ok (.iload 5, 2) := by decide +kernel
theorem d_Ed_assignModules_39 : decode b_Ed_assignModules 39 = .ok (.iadd, 1) := by decide +kernel
theorem d_Ed_assignModules_40 : decode b_Ed_assignModules 40 = .ok (.bipush 24, 2) := by decide +kernel
theorem d_Ed_assignModules_42 : decode b_Ed_assignModules 42 = .ok (.if_icmp .le 8, 3) := by decide +kernel
theorem d_Ed_assignModules_45 : decode b_Ed_assignModules 45 = .ok (.iinc 2 1, 3) := by decide +kernel
theorem d_Ed_assignModules_48 : decode b_Ed_assignModules 48 = .ok (.iconst 0, 1) := by decide +kernel
theorem d_Ed_assignModules_49 : decode b_Ed_assignModules 49 = .ok (.istore_n 3, 1) := by decide +kernel
theorem d_Ed_assignModules_50 : decode b_Ed_assignModules 50 = .ok (.aload_n 0, 1) := by decide +kernel
theorem d_Ed_assignModules_51 : decode b_Ed_assignModules 51 = .ok (.getfield 34, 3) := by decide +kernel
theorem d_Ed_assignModules_54 : decode b_Ed_assignModules 54 = .ok (.aload_n 0, 1) := by decide +kernel
theorem d_Ed_assignModules_55 : decode b_Ed_assignModules 55 = .ok (.getfield 28, 3) := by decide +kernel
theorem d_Ed_assignModules_58 : decode b_Ed_assignModules 58 = .ok (.iload 4, 2) := by decide +kernel
theorem d_Ed_assignModules_60 : decode b_Ed_assignModules 60 = .ok (.iaload, 1) := by decide +kernel
theorem d_Ed_assignModules_61 : decode b_Ed_assignModules 61 = .ok (.iload_n 2, 1) := by decide +kernel
theorem d_Ed_assignModules_62 : decode b_Ed_assignModules 62 = .ok (.iastore, 1) := by decide +kernel
theorem d_Ed_assignModules_63 : decode b_Ed_assignModules 63 = .ok (.iload_n 3, 1) := by decide +kernel
theorem d_Ed_assignModules_64 : decode b_Ed_assignModules 64 = .ok (.iload 5, 2) := by decide +kernel
theorem d_Ed_assignModules_66 : decode b_Ed_assignModules 66 = .ok (.iadd, 1) := by decide +kernel
theorem d_Ed_assignModules_67 : decode b_Ed_assignModules 67 = .ok (.istore_n 3, 1) := by decide +kernel
theorem d_Ed_assignModules_68 : decode b_Ed_assignModules 68 = .ok (.iinc 4 1, 3) := by decide +kernel
theorem d_Ed_assignModules_71 : decode b_Ed_assignModules 71 = .ok (.goto (-64), 3) := by decide +kernel
theorem d_Ed_assignModules_74 : decode b_Ed_assignModules 74 = .ok (.iload_n 2, 1) := by decide +kernel
theorem d_Ed_assignModules_75 : decode b_Ed_assignModules 75 = .ok (.iconst 1, 1) := by decide +kernel
theorem d_Ed_assignModules_76 : decode b_Ed_assignModules 76 = .ok (.iadd, 1) := by decide +kernel
theorem d_Ed_assignModules_77 : decode b_Ed_assignModules 77 = .ok (.ireturn, 1) := by decide +kernel
theorem d_Ed_draftModule_0 : decode b_Ed_draftModule 0 = .ok (.aload_n 0, 1) := by decide +kernel
theorem d_Ed_draftModule_1 : decode b_Ed_draftModule 1 = .ok (.iconst 0, 1) := by decide +kernel
theorem d_Ed_draftModule_2 : decode b_Ed_draftModule 2 = .ok (.putfield 40, 3) := by decide +kernel
theorem d_Ed_draftModule_5 : decode b_Ed_draftModule 5 = .ok (.iconst 0, 1) := by decide +kernel
theorem d_Ed_draftModule_6 : decode b_Ed_draftModule 6 = .ok (.istore_n 3, 1) := by decide +kernel
theorem d_Ed_draftModule_7 : decode b_Ed_draftModule 7 = .ok (.iload_n 3, 1) := by decide +kernel
theorem d_Ed_draftModule_8 : decode b_Ed_draftModule 8 = .ok (.aload_n 0, 1) := by decide +kernel
theorem d_Ed_draftModule_9 : decode b_Ed_draftModule 9 = .ok (.getfield 31, 3) := by decide +kernel
theorem d_Ed_draftModule_12 : decode b_Ed_draftModule 12 = .ok (.if_icmp .ge 35, 3) := by decide +kernel
theorem d_Ed_draftModule_15 : decode b_Ed_draftModule 15 = .ok (.aload_n 0, 1) := by decide +kernel
theorem d_Ed_draftModule_16 : decode b_Ed_draftModule 16 = .ok (.getfield 34, 3) := by decide +kernel
theorem d_Ed_draftModule_19 : decode b_Ed_draftModule 19 = .ok (.aload_n 0, 1) := by decide +kernel
theorem d_Ed_draftModule_20 : decode b_Ed_draftModule 20 = .ok (.getfield 28, 3) := by decide +kernel
theorem d_Ed_draftModule_23 : decode b_Ed_draftModule 23 = .ok (.iload_n 3, 1) := by decide +kernel
theorem d_Ed_draftModule_24 : decode b_Ed_draftModule 24 = .ok (.iaload, 1) := by decide +kernel
theorem d_Ed_draftModule_25 : decode b_Ed_draftModule 25 = .ok (.iaload, 1) := by decide +kernel
theorem d_Ed_draftModule_26 : decode b_Ed_draftModule 26 = .ok (.iload_n 2, 1) := by decide +kernel
theorem d_Ed_draftModule_27 : decode b_Ed_draftModule 27 = .ok (.if_icmp .ne 14, 3) := by decide +kernel
theorem d_Ed_draftModule_30 : decode b_Ed_draftModule 30 = .ok (.aload_n 0, 1) := by decide +kernel
theorem d_Ed_draftModule_31 : decode b_Ed_draftModule 31 = .ok (.aload_n 1, 1) := by decide +kernel
theorem d_Ed_draftModule_32 : decode b_Ed_draftModule 32 = .ok (.aload_n 0, 1) := by decide +kernel
theorem d_Ed_draftModule_33 : decode b_Ed_draftModule 33 = .ok (.getfield 28, 3) := by decide +kernel
theorem d_Ed_draftModule_36 : decode b_Ed_draftModule 36 = .ok (.iload_n 3, 1) := by decide +kernel
theorem d_Ed_draftModule_37 : decode b_Ed_draftModule 37 = .ok (.iaload, 1) := by decide +kernel
theorem d_Ed_draftModule_38 : decode b_Ed_draftModule 38 = .ok (.invokevirtual 68, 3) := by decide +kernel
theorem d_Ed_draftModule_41 : decode b_Ed_draftModule 41 = .ok (.iinc 3 1, 3) := by decide +kernel
theorem d_Ed_draftModule_44 : decode b_Ed_draftModule 44 = .ok (.goto (-37), 3) := by decide +kernel
theorem d_Ed_draftModule_47 : decode b_Ed_draftModule 47 = .ok (.return_, 1) := by decide +kernel
theorem d_Ed_draftMessage_0 : decode b_Ed_draftMessage 0 = .ok (.aload_n 0, 1) := by decide +kernel
theorem d_Ed_draftMessage_1 : decode b_Ed_draftMessage 1 = .ok (.aload_n 1, 1) := by decide +kernel
theorem d_Ed_draftMessage_2 : decode b_Ed_draftMessage 2 = .ok (.iload_n 2, 1) := by decide +kernel
theorem d_Ed_draftMessage_3 : decode b_Ed_draftMessage 3 = .ok (.invokevirtual 71, 3) := by decide +kernel
theorem d_Ed_draftMessage_6 : decode b_Ed_draftMessage 6 = .ok (.invokevirtual 74, 3) := by decide +kernel
theorem d_Ed_draftMessage_9 : decode b_Ed_draftMessage 9 = .ok (.aload_n 0, 1) := by decide +kernel
theorem d_Ed_draftMessage_10 : decode b_Ed_draftMessage 10 = .ok (.iload_n 2, 1) := by decide +kernel
theorem d_Ed_draftMessage_11 : decode b_Ed_draftMessage 11 = .ok (.invokevirtual 74, 3) := by decide +kernel
theorem d_Ed_draftMessage_14 : decode b_Ed_draftMessage 14 = .ok (.aload_n 0, 1) := by decide +kernel
theorem d_Ed_draftMessage_15 : decode b_Ed_draftMessage 15 = .ok (.aload_n 1, 1) := by decide +kernel
theorem d_Ed_draftMessage_16 : decode b_Ed_draftMessage 16 = .ok (.iload_n 2, 1) := by decide +kernel
theorem d_Ed_draftMessage_17 : decode b_Ed_draftMessage 17 = .ok (.invokevirtual 65, 3) := by decide +kernel
theorem d_Ed_draftMessage_20 : decode b_Ed_draftMessage 20 = .ok (.invokevirtual 74, 3) := by decide +kernel
theorem d_Ed_draftMessage_23 : decode b_Ed_draftMessage 23 = .ok (.aload_n 1, 1) := by decide +kernel
theorem d_Ed_draftMessage_24 : decode b_Ed_draftMessage 24 = .ok (.iload_n 2, 1) := by decide +kernel
theorem d_Ed_draftMessage_25 : decode b_Ed_draftMessage 25 = .ok (.invokevirtual 77, 3) := by decide +kernel
theorem d_Ed_draftMessage_28 : decode b_Ed_draftMessage 28 = .ok (.ifCond .eq 33, 3) := by decide +kernel
theorem d_Ed_draftMessage_31 : decode b_Ed_draftMessage 31 = .ok (.iconst 0, 1) := by decide +kernel
theorem d_Ed_draftMessage_32 : decode b_Ed_draftMessage 32 = .ok (.istore_n 3, 1) := by decide +kernel
theorem d_Ed_draftMessage_33 : decode b_Ed_draftMessage 33 = .ok (.iload_n 3, 1) := by decide +kernel
theorem d_Ed_draftMessage_34 : decode b_Ed_draftMessage 34 = .ok (.aload_n 1, 1) := by decide +kernel
theorem d_Ed_draftMessage_35 : decode b_Ed_draftMessage 35 = .ok (.iload_n 2, 1) := by decide +kernel
theorem d_Ed_draftMessage_36 : decode b_Ed_draftMessage 36 = .ok (.invokevirtual 81, 3) := by decide +kernel
theorem d_Ed_draftMessage_39 : decode b_Ed_draftMessage 39 = .ok (.if_icmp .ge 19, 3) := by decide +kernel
theorem d_Ed_draftMessage_42 : decode b_Ed_draftMessage 42 = .ok (.aload_n 0, 1) := by decide +kernel
theorem d_Ed_draftMessage_43 : decode b_Ed_draftMessage 43 = .ok (.aload_n 1, 1) := by decide +kernel
theorem d_Ed_draftMessage_44 : decode b_Ed_draftMessage 44 = .ok (.iload_n 2, 1) := by decide +kernel
theorem d_Ed_draftMessage_45 : decode b_Ed_draftMessage 45 = .ok (.iload_n 3, 1) := by decide +kernel
theorem d_Ed_draftMessage_46 : decode b_Ed_draftMessage 46 = .ok (.invokevirtual 84, 3) := by decide +kernel
theorem d_Ed_draftMessage_49 : decode b_Ed_draftMessage 49 = .ok (.invokevirtual 74, 3) := by decide +kernel
theorem d_Ed_draftMessage_52 : decode b_Ed_draftMessage 52 = .ok (.iinc 3 1, 3) := by decide +kernel
theorem d_Ed_draftMessage_55 : decode b_Ed_draftMessage 55 = .ok (.goto (-22), 3) := by decide +kernel
theorem d_Ed_draftMessage_58 : decode b_Ed_draftMessage 58 = .ok (.goto 9, 3) := by decide +kernel
theorem d_Ed_draftMessage_61 : decode b_Ed_draftMessage 61 = .ok (.aload_n 0, 1) := by decide +kernel
theorem d_Ed_draftMessage_62 : decode b_Ed_draftMessage 62 = .ok (.aload_n 1, 1) := by decide +kernel
theorem d_Ed_draftMessage_63 : decode b_Ed_draftMessage 63 = .ok (.iload_n 2, 1) := by decide +kernel
theorem d_Ed_draftMessage_64 : decode b_Ed_draftMessage 64 = .ok (.invokevirtual 88, 3) := by decide +kernel
theorem d_Ed_draftMessage_67 : decode b_Ed_draftMessage 67 = .ok (.return_, 1) := by decide +kernel
theorem d_Ed_draftEntries_0 : decode b_Ed_draftEntries 0 = .ok (.aload_n 1, 1) := by decide +kernel
theorem d_Ed_draftEntries_1 : decode b_Ed_draftEntries 1 = .ok (.iload_n 2, 1) := by decide +kernel
theorem d_Ed_draftEntries_2 : decode b_Ed_draftEntries 2 = .ok (.iconst 0, 1) := by decide +kernel
theorem d_Ed_draftEntries_3 : decode b_Ed_draftEntries 3 = .ok (.invokevirtual 91, 3) := by decide +kernel
theorem d_Ed_draftEntries_6 : decode b_Ed_draftEntries 6 = .ok (.istore_n 3, 1) := by decide +kernel
theorem d_Ed_draftEntries_7 : decode b_Ed_draftEntries 7 = .ok (.iconst 0, 1) := by decide +kernel
theorem d_Ed_draftEntries_8 : decode b_Ed_draftEntries 8 = .ok (.istore 4, 2) := by decide +kernel
theorem d_Ed_draftEntries_10 : decode b_Ed_draftEntries 10 = .ok (.iload 4, 2) := by decide +kernel
theorem d_Ed_draftEntries_12 : decode b_Ed_draftEntries 12 = .ok (.bipush 12, 2) := by decide +kernel
theorem d_Ed_draftEntries_14 : decode b_Ed_draftEntries 14 = .ok (.if_icmp .ge 58, 3) := by decide +kernel
theorem d_Ed_draftEntries_17 : decode b_Ed_draftEntries 17 = .ok (.iload_n 3, 1) := by decide +kernel
theorem d_Ed_draftEntries_18 : decode b_Ed_draftEntries 18 = .ok (.iconst (-1), 1) := by decide +kernel
theorem d_Ed_draftEntries_19 : decode b_Ed_draftEntries 19 = .ok (.if_icmp .eq 53, 3) := by decide +kernel
theorem d_Ed_draftEntries_22 : decode b_Ed_draftEntries 22 = .ok (.aload_n 0, 1) := by decide +kernel
theorem d_Ed_draftEntries_23 : decode b_Ed_draftEntries 23 = .ok (.aload_n 1, 1) := by decide +kernel
theorem d_Ed_draftEntries_24 : decode b_Ed_draftEntries 24 = .ok (.iload_n 3, 1) := by decide +kernel
theorem d_Ed_draftEntries_25 : decode b_Ed_draftEntries 25 = .ok (.invokevirtual 94, 3) := by decide +kernel
theorem d_Ed_draftEntries_28 : decode b_Ed_draftEntries 28 = .ok (.invokevirtual 74, 3) := by decide +kernel
theorem d_Ed_draftEntries_31 : decode b_Ed_draftEntries 31 = .ok (.aload_n 0, 1) := by decide +kernel
theorem d_Ed_draftEntries_32 : decode b_Ed_draftEntries 32 = .ok (.aload_n 1, 1) := by decide +kernel
theorem d_Ed_draftEntries_33 : decode b_Ed_draftEntries 33 = .ok (.iload_n 3, 1) := by decide +kernel
theorem d_Ed_draftEntries_34 : decode b_Ed_draftEntries 34 = .ok (.invokevirtual 71, 3) := by decide +kernel
theorem d_Ed_draftEntries_37 : decode b_Ed_draftEntries 37 = .ok (.invokevirtual 74, 3) := by decide +kernel
theorem d_Ed_draftEntries_40 : decode b_Ed_draftEntries 40 = .ok (.aload_n 0, 1) := by decide +kernel
theorem d_Ed_draftEntries_41 : decode b_Ed_draftEntries 41 = .ok (.aload_n 0, 1) := by decide +kernel
theorem d_Ed_draftEntries_42 : decode b_Ed_draftEntries 42 = .ok (.getfield 34, 3) := by decide +kernel
theorem d_Ed_draftEntries_45 : decode b_Ed_draftEntries 45 = .ok (.iload_n 3, 1) := by decide +kernel
theorem d_Ed_draftEntries_46 : decode b_Ed_draftEntries 46 = .ok (.iaload, 1) := by decide +kernel
theorem d_Ed_draftEntries_47 : decode b_Ed_draftEntries 47 = .ok (.invokevirtual 74, 3) := by decide +kernel
theorem d_Ed_draftEntries_50 : decode b_Ed_draftEntries 50 = .ok (.aload_n 0, 1) := by decide +kernel
theorem d_Ed_draftEntries_51 : decode b_Ed_draftEntries 51 = .ok (.iload_n 3, 1) := by decide +kernel
theorem d_Ed_draftEntries_52 : decode b_Ed_draftEntries 52 = .ok (.invokevirtual 74, 3) := by decide +kernel
theorem d_Ed_draftEntries_55 : decode b_Ed_draftEntries 55 = .ok (.aload_n 1, 1) := by decide +kernel
theorem d_Ed_draftEntries_56 : decode b_Ed_draftEntries 56 = .ok (.iload_n 2, 1) := by decide +kernel
theorem d_Ed_draftEntries_57 : decode b_Ed_draftEntries 57 = .ok (.aload_n 1, 1) := by decide +kernel
theorem d_Ed_draftEntries_58 : decode b_Ed_draftEntries 58 = .ok (.iload_n 3, 1) := by decide +kernel
theorem d_Ed_draftEntries_59 : decode b_Ed_draftEntries 59 = .ok (.invokevirtual 94, 3) := by decide +kernel
theorem d_Ed_draftEntries_62 : decode b_Ed_draftEntries 62 = .ok (.invokevirtual 91, 3) := by decide +kernel
theorem d_Ed_draftEntries_65 : decode b_Ed_draftEntries 65 = .ok (.istore_n 3, 1) := by decide +kernel
theorem d_Ed_draftEntries_66 : decode b_Ed_draftEntries 66 = .ok (.iinc 4 1, 3) := by decide +kernel
theorem d_Ed_draftEntries_69 : decode b_Ed_draftEntries 69 = .ok (.goto (-59), 3) := by decide +kernel
theorem d_Ed_draftEntries_72 : decode b_Ed_draftEntries 72 = .ok (.return_, 1) := by decide +kernel
theorem d_Ed_write_0 : decode b_Ed_write 0 = .ok (.aload_n 0, 1) := by decide +kernel
theorem d_Ed_write_1 : decode b_Ed_write 1 = .ok (.getfield 40, 3) := by decide +kernel
theorem d_Ed_write_4 : decode b_Ed_write 4 = .ok (.aload_n 0, 1) := by decide +kernel
theorem d_Ed_write_5 : decode b_Ed_write 5 = .ok (.getfield 37, 3) := by decide +kernel
theorem d_Ed_write_8 : decode b_Ed_write 8 = .ok (.arraylength, 1) := by decide +kernel
theorem d_Ed_write_9 : decode b_Ed_write 9 = .ok (.if_icmp .ge 23, 3) := by decide +kernel
theorem d_Ed_write_12 : decode b_Ed_write 12 = .ok (.aload_n 0, 1) := by decide +kernel
theorem d_Ed_write_13 : decode b_Ed_write 13 = .ok (.getfield 37, 3) := by decide +kernel
theorem d_Ed_write_16 : decode b_Ed_write 16 = .ok (.aload_n 0, 1) := by decide +kernel
theorem d_Ed_write_17 : decode b_Ed_write 17 = .ok (.getfield 40, 3) := by decide +kernel
theorem d_Ed_write_20 : decode b_Ed_write 20 = .ok (.iload_n 1, 1) := by decide +kernel
theorem d_Ed_write_21 : decode b_Ed_write 21 = .ok (.iastore, 1) := by decide +kernel
theorem d_Ed_write_22 : decode b_Ed_write 22 = .ok (.aload_n 0, 1) := by decide +kernel
theorem d_Ed_write_23 : decode b_Ed_write 23 = .ok (.dup, 1) := by decide +kernel
theorem d_Ed_write_24 : decode b_Ed_write 24 = .ok (.getfield 40, 3) := by decide +kernel
theorem d_Ed_write_27 : decode b_Ed_write 27 = .ok (.iconst 1, 1) := by decide +kernel
theorem d_Ed_write_28 : decode b_Ed_write 28 = .ok (.iadd, 1) := by decide +kernel
theorem d_Ed_write_29 : decode b_Ed_write 29 = .ok (.putfield 40, 3) := by decide +kernel
theorem d_Ed_write_32 : decode b_Ed_write 32 = .ok (.return_, 1) := by decide +kernel
theorem d_Ed_keepDraft_0 : decode b_Ed_keepDraft 0 = .ok (.iload_n 1, 1) := by decide +kernel
theorem d_Ed_keepDraft_1 : decode b_Ed_keepDraft 1 = .ok (.aload_n 0, 1) := by decide +kernel
theorem d_Ed_keepDraft_2 : decode b_Ed_keepDraft 2 = .ok (.getfield 15, 3) := by decide +kernel
theorem d_Ed_keepDraft_5 : decode b_Ed_keepDraft 5 = .ok (.if_icmp .ge 11, 3) := by decide +kernel
theorem d_Ed_keepDraft_8 : decode b_Ed_keepDraft 8 = .ok (.aload_n 0, 1) := by decide +kernel
theorem d_Ed_keepDraft_9 : decode b_Ed_keepDraft 9 = .ok (.iload_n 1, 1) := by decide +kernel
theorem d_Ed_keepDraft_10 : decode b_Ed_keepDraft 10 = .ok (.invokevirtual 97, 3) := by decide +kernel
theorem d_Ed_keepDraft_13 : decode b_Ed_keepDraft 13 = .ok (.ifCond .ne 13, 3) := by decide +kernel
theorem d_Ed_keepDraft_16 : decode b_Ed_keepDraft 16 = .ok (.aload_n 0, 1) := by decide +kernel
theorem d_Ed_keepDraft_17 : decode b_Ed_keepDraft 17 = .ok (.getfield 22, 3) := by decide +kernel
theorem d_Ed_keepDraft_20 : decode b_Ed_keepDraft 20 = .ok (.iload_n 1, 1) := by decide +kernel
theorem d_Ed_keepDraft_21 : decode b_Ed_keepDraft 21 = .ok (.aload_n 0, 1) := by decide +kernel
theorem d_Ed_keepDraft_22 : decode b_Ed_keepDraft 22 = .ok (.getfield 9, 3) := by decide +kernel
theorem d_Ed_keepDraft_25 : decode b_Ed_keepDraft 25 = .ok (.iastore, 1) := by decide +kernel
theorem d_Ed_keepDraft_26 : decode b_Ed_keepDraft 26 = .ok (.aload_n 0, 1) := by decide +kernel
theorem d_Ed_keepDraft_27 : decode b_Ed_keepDraft 27 = .ok (.getfield 18, 3) := by decide +kernel
theorem d_Ed_keepDraft_30 : decode b_Ed_keepDraft 30 = .ok (.iload_n 1, 1) := by decide +kernel
theorem d_Ed_keepDraft_31 : decode b_Ed_keepDraft 31 = .ok (.aload_n 0, 1) := by decide +kernel
theorem d_Ed_keepDraft_32 : decode b_Ed_keepDraft 32 = .ok (.getfield 40, 3) := by decide +kernel
theorem d_Ed_keepDraft_35 : decode b_Ed_keepDraft 35 = .ok (.iastore, 1) := by decide +kernel
theorem d_Ed_keepDraft_36 : decode b_Ed_keepDraft 36 = .ok (.aload_n 0, 1) := by decide +kernel
theorem d_Ed_keepDraft_37 : decode b_Ed_keepDraft 37 = .ok (.getfield 37, 3) := by decide +kernel
theorem d_Ed_keepDraft_40 : decode b_Ed_keepDraft 40 = .ok (.iconst 0, 1) := by decide +kernel
theorem d_Ed_keepDraft_41 : decode b_Ed_keepDraft 41 = .ok (.aload_n 0, 1) := by decide +kernel
theorem d_Ed_keepDraft_42 : decode b_Ed_keepDraft 42 = .ok (.getfield 25, 3) := by decide +kernel
theorem d_Ed_keepDraft_45 : decode b_Ed_keepDraft 45 = .ok (.iload_n 1, 1) := by decide +kernel
theorem d_Ed_keepDraft_46 : decode b_Ed_keepDraft 46 = .ok (.bipush 48, 2) := by decide +kernel
theorem d_Ed_keepDraft_48 : decode b_Ed_keepDraft 48 = .ok (.imul, 1) := by decide +kernel
theorem d_Ed_keepDraft_49 : decode b_Ed_keepDraft 49 = .ok (.aload_n 0, 1) := by decide +kernel
theorem d_Ed_keepDraft_50 : decode b_Ed_keepDraft 50 = .ok (.getfield 40, 3) := by decide +kernel
theorem d_Ed_keepDraft_53 : decode b_Ed_keepDraft 53 = .ok (.invokestatic 100, 3) := by decide +kernel
theorem d_Ed_keepDraft_56 : decode b_Ed_keepDraft 56 = .ok (.return_, 1) := by decide +kernel
theorem d_Ed_draftEquals_0 : decode b_Ed_draftEquals 0 = .ok (.aload_n 0, 1) := by decide +kernel
theorem d_Ed_draftEquals_1 : decode b_Ed_draftEquals 1 = .ok (.getfield 18, 3) := by decide +kernel
theorem d_Ed_draftEquals_4 : decode b_Ed_draftEquals 4 = .ok (.iload_n 1, 1) := by decide +kernel
theorem d_Ed_draftEquals_5 : decode b_Ed_draftEquals 5 = .ok (.iaload, 1) := by decide +kernel
theorem d_Ed_draftEquals_6 : decode b_Ed_draftEquals 6 = .ok (.aload_n 0, 1) := by decide +kernel
theorem d_Ed_draftEquals_7 : decode b_Ed_draftEquals 7 = .ok (.getfield 40, 3) := by decide +kernel
theorem d_Ed_draftEquals_10 : decode b_Ed_draftEquals 10 = .ok (.if_icmp .eq 5, 3) := by decide +kernel
theorem d_Ed_draftEquals_13 : decode b_Ed_draftEquals 13 = .ok (.iconst 0, 1) := by decide +kernel
theorem d_Ed_draftEquals_14 : decode b_Ed_draftEquals 14 = .ok (.ireturn, 1) := by decide +kernel
theorem d_Ed_draftEquals_15 : decode b_Ed_draftEquals 15 = .ok (.iconst 0, 1) := by decide +kernel
theorem d_Ed_draftEquals_16 : decode b_Ed_draftEquals 16 = .ok (.istore_n 2, 1) := by decide +kernel
theorem d_Ed_draftEquals_17 : decode b_Ed_draftEquals 17 = .ok (.iload_n 2, 1) := by decide +kernel
theorem d_Ed_draftEquals_18 : decode b_Ed_draftEquals 18 = .ok (.aload_n 0, 1) := by decide +kernel
theorem d_Ed_draftEquals_19 : decode b_Ed_draftEquals 19 = .ok (.getfield 40, 3) := by decide +kernel
theorem d_Ed_draftEquals_22 : decode b_Ed_draftEquals 22 = .ok (.if_icmp .ge 26, 3) := by decide +kernel
theorem d_Ed_draftEquals_25 : decode b_Ed_draftEquals 25 = .ok (.aload_n 0, 1) := by decide +kernel
theorem d_Ed_draftEquals_26 : decode b_Ed_draftEquals 26 = .ok (.iload_n 1, 1) := by decide +kernel
theorem d_Ed_draftEquals_27 : decode b_Ed_draftEquals 27 = .ok (.iload_n 2, 1) := by decide +kernel
theorem d_Ed_draftEquals_28 : decode b_Ed_draftEquals 28 = .ok (.invokevirtual 106, 3) := by decide +kernel
theorem d_Ed_draftEquals_31 : decode b_Ed_draftEquals 31 = .ok (.aload_n 0, 1) := by decide +kernel
theorem d_Ed_draftEquals_32 : decode b_Ed_draftEquals 32 = .ok (.getfield 37, 3) := by decide +kernel
theorem d_Ed_draftEquals_35 : decode b_Ed_draftEquals 35 = .ok (.iload_n 2, 1) := by decide +kernel
theorem d_Ed_draftEquals_36 : decode b_Ed_draftEquals 36 = .ok (.iaload, 1) := by decide +kernel
theorem d_Ed_draftEquals_37 : decode b_Ed_draftEquals 37 = .ok (.if_icmp .eq 5, 3) := by decide +kernel
theorem d_Ed_draftEquals_40 : decode b_Ed_draftEquals 40 = .ok (.iconst 0, 1) := by decide +kernel
theorem d_Ed_draftEquals_41 : decode b_Ed_draftEquals 41 = .ok (.ireturn, 1) := by decide +kernel
theorem d_Ed_draftEquals_42 : decode b_Ed_draftEquals 42 = .ok (.iinc 2 1, 3) := by decide +kernel
theorem d_Ed_draftEquals_45 : decode b_Ed_draftEquals 45 = .ok (.goto (-28), 3) := by decide +kernel
theorem d_Ed_draftEquals_48 : decode b_Ed_draftEquals 48 = .ok (.iconst 1, 1) := by decide +kernel
theorem d_Ed_draftEquals_49 : decode b_Ed_draftEquals 49 = .ok (.ireturn, 1) := by decide +kernel
theorem d_Tree_init_0 : decode b_Tree_init 0 = .ok (.aload_n 0, 1) := by decide +kernel
theorem d_Tree_init_1 : decode b_Tree_init 1 = .ok (.invokespecial 3, 3) := by decide +kernel
theorem d_Tree_init_4 : decode b_Tree_init 4 = .ok (.aload_n 0, 1) := by decide +kernel
theorem d_Tree_init_5 : decode b_Tree_init 5 = .ok (.bipush 12, 2) := by decide +kernel
theorem d_Tree_init_7 : decode b_Tree_init 7 = .ok (.newarray .int, 2) := by decide +kernel
theorem d_Tree_init_9 : decode b_Tree_init 9 = .ok (.putfield 9, 3) := by decide +kernel
theorem d_Tree_init_12 : decode b_Tree_init 12 = .ok (.aload_n 0, 1) := by decide +kernel
theorem d_Tree_init_13 : decode b_Tree_init 13 = .ok (.bipush 12, 2) := by decide +kernel
theorem d_Tree_init_15 : decode b_Tree_init 15 = .ok (.newarray .int, 2) := by decide +kernel
theorem d_Tree_init_17 : decode b_Tree_init 17 = .ok (.putfield 15, 3) := by decide +kernel
theorem d_Tree_init_20 : decode b_Tree_init 20 = .ok (.aload_n 0, 1) := by decide +kernel
theorem d_Tree_init_21 : decode b_Tree_init 21 = .ok (.bipush 12, 2) := by decide +kernel
theorem d_Tree_init_23 : decode b_Tree_init 23 = .ok (.newarray .int, 2) := by decide +kernel
theorem d_Tree_init_25 : decode b_Tree_init 25 = .ok (.putfield 18, 3) := by decide +kernel
theorem d_Tree_init_28 : decode b_Tree_init 28 = .ok (.aload_n 0, 1) := by decide +kernel
theorem d_Tree_init_29 : decode b_Tree_init 29 = .ok (.bipush 12, 2) := by decide +kernel
theorem d_Tree_init_31 : decode b_Tree_init 31 = .ok (.newarray .int, 2) := by decide +kernel
theorem d_Tree_init_33 : decode b_Tree_init 33 = .ok (.putfield 21, 3) := by decide +kernel
theorem d_Tree_init_36 : decode b_Tree_init 36 = .ok (.aload_n 0, 1) := by decide +kernel
theorem d_Tree_init_37 : decode b_Tree_init 37 = .ok (.sipush 144, 3) := by decide +kernel
theorem d_Tree_init_40 : decode b_Tree_init 40 = .ok (.newarray .int, 2) := by decide +kernel
theorem d_Tree_init_42 : decode b_Tree_init 42 = .ok (.putfield 24, 3) := by decide +kernel
theorem d_Tree_init_45 : decode b_Tree_init 45 = .ok (.aload_n 0, 1) := by decide +kernel
theorem d_Tree_init_46 : decode b_Tree_init 46 = .ok (.getfield 9, 3) := by decide +kernel
theorem d_Tree_init_49 : decode b_Tree_init 49 = .ok (.iconst 0, 1) := by decide +kernel
theorem d_Tree_init_50 : decode b_Tree_init 50 = .ok (.iconst 1, 1) := by decide +kernel
theorem d_Tree_init_51 : decode b_Tree_init 51 = .ok (.iastore, 1) := by decide +kernel
theorem d_Tree_init_52 : decode b_Tree_init 52 = .ok (.aload_n 0, 1) := by decide +kernel
theorem d_Tree_init_53 : decode b_Tree_init 53 = .ok (.getfield 15, 3) := by decide +kernel
theorem d_Tree_init_56 : decode b_Tree_init 56 = .ok (.iconst (-1), 1) := by decide +kernel
theorem d_Tree_init_57 : decode b_Tree_init 57 = .ok (.invokestatic 27, 3) := by decide +kernel
theorem d_Tree_init_60 : decode b_Tree_init 60 = .ok (.return_, 1) := by decide +kernel
theorem d_Tree_isThere_0 : decode b_Tree_isThere 0 = .ok (.aload_n 0, 1) := by decide +kernel
theorem d_Tree_isThere_1 : decode b_Tree_isThere 1 = .ok (.getfield 9, 3) := by decide +kernel
theorem d_Tree_isThere_4 : decode b_Tree_isThere 4 = .ok (.iload_n 1, 1) := by decide +kernel
theorem d_Tree_isThere_5 : decode b_Tree_isThere 5 = .ok (.iaload, 1) := by decide +kernel
theorem d_Tree_isThere_6 : decode b_Tree_isThere 6 = .ok (.ifCond .eq 7, 3) := by decide +kernel
theorem d_Tree_isThere_9 : decode b_Tree_isThere 9 = .ok (.iconst 1, 1) := by decide +kernel
theorem d_Tree_isThere_10 : decode b_Tree_isThere 10 = .ok (.goto 4, 3) := by decide +kernel
theorem d_Tree_isThere_13 : decode b_Tree_isThere 13 = .ok (.iconst 0, 1) := by decide +kernel
theorem d_Tree_isThere_14 : decode b_Tree_isThere 14 = .ok (.ireturn, 1) := by decide +kernel
theorem d_Tree_isDirectory_0 : decode b_Tree_isDirectory 0 = .ok (.aload_n 0, 1) := by decide +kernel
theorem d_Tree_isDirectory_1 : decode b_Tree_isDirectory 1 = .ok (.getfield 9, 3) := by decide +kernel
theorem d_Tree_isDirectory_4 : decode b_Tree_isDirectory 4 = .ok (.iload_n 1, 1) := by decide +kernel
theorem d_Tree_isDirectory_5 : decode b_Tree_isDirectory 5 = .ok (.iaload, 1) := by decide +kernel
theorem d_Tree_isDirectory_6 : decode b_Tree_isDirectory 6 = .ok (.iconst 1, 1) := by decide +kernel
theorem d_Tree_isDirectory_7 : decode b_Tree_isDirectory 7 = .ok (.if_icmp .eq 13, 3) := by decide +kernel
theorem d_Tree_isDirectory_10 : decode b_Tree_isDirectory 10 = .ok (.aload_n 0, 1) := by decide +kernel
theorem d_Tree_isDirectory_11 : decode b_Tree_isDirectory 11 = .ok (.getfield 9, 3) := by decide +kernel
theorem d_Tree_isDirectory_14 : decode b_Tree_isDirectory 14 = .ok (.iload_n 1, 1) := by decide +kernel
theorem d_Tree_isDirectory_15 : decode b_Tree_isDirectory 15 = .ok (.iaload, 1) := by decide +kernel
theorem d_Tree_isDirectory_16 : decode b_Tree_isDirectory 16 = .ok (.iconst 2, 1) := by decide +kernel
theorem d_Tree_isDirectory_17 : decode b_Tree_isDirectory 17 = .ok (.if_icmp .ne 7, 3) := by decide +kernel
theorem d_Tree_isDirectory_20 : decode b_Tree_isDirectory 20 = .ok (.iconst 1, 1) := by decide +kernel
theorem d_Tree_isDirectory_21 : decode b_Tree_isDirectory 21 = .ok (.goto 4, 3) := by decide +kernel
theorem d_Tree_isDirectory_24 : decode b_Tree_isDirectory 24 = .ok (.iconst 0, 1) := by decide +kernel
theorem d_Tree_isDirectory_25 : decode b_Tree_isDirectory 25 = .ok (.ireturn, 1) := by decide +kernel
theorem d_Tree_isFile_0 : decode b_Tree_isFile 0 = .ok (.aload_n 0, 1) := by decide +kernel
theorem d_Tree_isFile_1 : decode b_Tree_isFile 1 = .ok (.getfield 9, 3) := by decide +kernel
theorem d_Tree_isFile_4 : decode b_Tree_isFile 4 = .ok (.iload_n 1, 1) := by decide +kernel
theorem d_Tree_isFile_5 : decode b_Tree_isFile 5 = .ok (.iaload, 1) := by decide +kernel
theorem d_Tree_isFile_6 : decode b_Tree_isFile 6 = .ok (.iconst 3, 1) := by decide +kernel
theorem d_Tree_isFile_7 : decode b_Tree_isFile 7 = .ok (.if_icmp .ne 7, 3) := by decide +kernel
theorem d_Tree_isFile_10 : decode b_Tree_isFile 10 = .ok (.iconst 1, 1) := by decide +kernel
theorem d_Tree_isFile_11 : decode b_Tree_isFile 11 = .ok (.goto 4, 3) := by decide +kernel
theorem d_Tree_isFile_14 : decode b_Tree_isFile 14 = .ok (.iconst 0, 1) := by decide +kernel
theorem d_Tree_isFile_15 : decode b_Tree_isFile 15 = .ok (.ireturn, 1) := by decide +kernel
theorem d_Tree_kindOf_0 : decode b_Tree_kindOf 0 = .ok (.aload_n 0, 1) := by decide +kernel
theorem d_Tree_kindOf_1 : decode b_Tree_kindOf 1 = .ok (.getfield 9, 3) := by decide +kernel
theorem d_Tree_kindOf_4 : decode b_Tree_kindOf 4 = .ok (.iload_n 1, 1) := by decide +kernel
theorem d_Tree_kindOf_5 : decode b_Tree_kindOf 5 = .ok (.iaload, 1) := by decide +kernel
theorem d_Tree_kindOf_6 : decode b_Tree_kindOf 6 = .ok (.ireturn, 1) := by decide +kernel
theorem d_Tree_nameOf_0 : decode b_Tree_nameOf 0 = .ok (.aload_n 0, 1) := by decide +kernel
theorem d_Tree_nameOf_1 : decode b_Tree_nameOf 1 = .ok (.getfield 18, 3) := by decide +kernel
theorem d_Tree_nameOf_4 : decode b_Tree_nameOf 4 = .ok (.iload_n 1, 1) := by decide +kernel
theorem d_Tree_nameOf_5 : decode b_Tree_nameOf 5 = .ok (.iaload, 1) := by decide +kernel
theorem d_Tree_nameOf_6 : decode b_Tree_nameOf 6 = .ok (.ireturn, 1) := by decide +kernel
theorem d_Tree_fileLength_0 : decode b_Tree_fileLength 0 = .ok (.aload_n 0, 1) := by decide +kernel
theorem d_Tree_fileLength_1 : decode b_Tree_fileLength 1 = .ok (.getfield 21, 3) := by decide +kernel
theorem d_Tree_fileLength_4 : decode b_Tree_fileLength 4 = .ok (.iload_n 1, 1) := by decide +kernel
theorem d_Tree_fileLength_5 : decode b_Tree_fileLength 5 = .ok (.iaload, 1) := by decide +kernel
theorem d_Tree_fileLength_6 : decode b_Tree_fileLength 6 = .ok (.ireturn, 1) := by decide +kernel
theorem d_Tree_fileByte_0 : decode b_Tree_fileByte 0 = .ok (.aload_n 0, 1) := by decide +kernel
theorem d_Tree_fileByte_1 : decode b_Tree_fileByte 1 = .ok (.getfield 24, 3) := by decide +kernel
theorem d_Tree_fileByte_4 : decode b_Tree_fileByte 4 = .ok (.iload_n 1, 1) := by decide +kernel
theorem d_Tree_fileByte_5 : decode b_Tree_fileByte 5 = .ok (.bipush 12, 2) := by decide +kernel
theorem d_Tree_fileByte_7 : decode b_Tree_fileByte 7 = .ok (.imul, 1) := by decide +kernel
theorem d_Tree_fileByte_8 : decode b_Tree_fileByte 8 = .ok (.iload_n 2, 1) := by decide +kernel
theorem d_Tree_fileByte_9 : decode b_Tree_fileByte 9 = .ok (.iadd, 1) := by decide +kernel
theorem d_Tree_fileByte_10 : decode b_Tree_fileByte 10 = .ok (.iaload, 1) := by decide +kernel
theorem d_Tree_fileByte_11 : decode b_Tree_fileByte 11 = .ok (.ireturn, 1) := by decide +kernel
theorem d_Tree_hasEntry_0 : decode b_Tree_hasEntry 0 = .ok (.iconst 1, 1) := by decide +kernel
theorem d_Tree_hasEntry_1 : decode b_Tree_hasEntry 1 = .ok (.istore_n 3, 1) := by decide +kernel
theorem d_Tree_hasEntry_2 : decode b_Tree_hasEntry 2 = .ok (.iload_n 3, 1) := by decide +kernel
theorem d_Tree_hasEntry_3 : decode b_Tree_hasEntry 3 = .ok (.bipush 12, 2) := by decide +kernel
theorem d_Tree_hasEntry_5 : decode b_Tree_hasEntry 5 = .ok (.if_icmp .ge 31, 3) := by decide +kernel
theorem d_Tree_hasEntry_8 : decode b_Tree_hasEntry 8 = .ok (.aload_n 0, 1) := by decide +kernel
theorem d_Tree_hasEntry_9 : decode b_Tree_hasEntry 9 = .ok (.getfield 15, 3) := by decide +kernel
theorem d_Tree_hasEntry_12 : decode b_Tree_hasEntry 12 = .ok (.iload_n 3, 1) := by decide +kernel
theorem d_Tree_hasEntry_13 : decode b_Tree_hasEntry 13 = .ok (.iaload, 1) := by decide +kernel
theorem d_Tree_hasEntry_14 : decode b_Tree_hasEntry 14 = .ok (.iload_n 1, 1) := by decide +kernel
theorem d_Tree_hasEntry_15 : decode b_Tree_hasEntry 15 = .ok (.if_icmp .ne 15, 3) := by decide +kernel
theorem d_Tree_hasEntry_18 : decode b_Tree_hasEntry 18 = .ok (.aload_n 0, 1) := by decide +kernel
theorem d_Tree_hasEntry_19 : decode b_Tree_hasEntry 19 = .ok (.getfield 18, 3) := by decide +kernel
theorem d_Tree_hasEntry_22 : decode b_Tree_hasEntry 22 = .ok (.iload_n 3, 1) := by decide +kernel
theorem d_Tree_hasEntry_23 : decode b_Tree_hasEntry 23 = .ok (.iaload, 1) := by decide +kernel
theorem d_Tree_hasEntry_24 : decode b_Tree_hasEntry 24 = .ok (.iload_n 2, 1) := by decide +kernel
theorem d_Tree_hasEntry_25 : decode b_Tree_hasEntry 25 = .ok (.if_icmp .ne 5, 3) := by decide +kernel
theorem d_Tree_hasEntry_28 : decode b_Tree_hasEntry 28 = .ok (.iconst 1, 1) := by decide +kernel
theorem d_Tree_hasEntry_29 : decode b_Tree_hasEntry 29 = .ok (.ireturn, 1) := by decide +kernel
theorem d_Tree_hasEntry_30 : decode b_Tree_hasEntry 30 = .ok (.iinc 3 1, 3) := by decide +kernel
theorem d_Tree_hasEntry_33 : decode b_Tree_hasEntry 33 = .ok (.goto (-31), 3) := by decide +kernel
theorem d_Tree_hasEntry_36 : decode b_Tree_hasEntry 36 = .ok (.iconst 0, 1) := by decide +kernel
theorem d_Tree_hasEntry_37 : decode b_Tree_hasEntry 37 = .ok (.ireturn, 1) := by decide +kernel
theorem d_Tree_entryCount_0 : decode b_Tree_entryCount 0 = .ok (.iconst 0, 1) := by decide +kernel
theorem d_Tree_entryCount_1 : decode b_Tree_entryCount 1 = .ok (.istore_n 2, 1) := by decide +kernel
theorem d_Tree_entryCount_2 : decode b_Tree_entryCount 2 = .ok (.iconst 1, 1) := by decide +kernel
theorem d_Tree_entryCount_3 : decode b_Tree_entryCount 3 = .ok (.istore_n 3, 1) := by decide +kernel
theorem d_Tree_entryCount_4 : decode b_Tree_entryCount 4 = .ok (.iload_n 3, 1) := by decide +kernel
theorem d_Tree_entryCount_5 : decode b_Tree_entryCount 5 = .ok (.bipush 12, 2) := by decide +kernel
theorem d_Tree_entryCount_7 : decode b_Tree_entryCount 7 = .ok (.if_icmp .ge 22, 3) := by decide +kernel
theorem d_Tree_entryCount_10 : decode b_Tree_entryCount 10 = .ok (.aload_n 0, 1) := by decide +kernel
theorem d_Tree_entryCount_11 : decode b_Tree_entryCount 11 = .ok (.getfield 15, 3) := by decide +kernel
theorem d_Tree_entryCount_14 : decode b_Tree_entryCount 14 = .ok (.iload_n 3, 1) := by decide +kernel
theorem d_Tree_entryCount_15 : decode b_Tree_entryCount 15 = .ok (.iaload, 1) := by decide +kernel
theorem d_Tree_entryCount_16 : decode b_Tree_entryCount 16 = .ok (.iload_n 1, 1) := by decide +kernel
theorem d_Tree_entryCount_17 : decode b_Tree_entryCount 17 = .ok (.if_icmp .ne 6, 3) := by decide +kernel
theorem d_Tree_entryCount_20 : decode b_Tree_entryCount 20 = .ok (.iinc 2 1, 3) := by decide +kernel
theorem d_Tree_entryCount_23 : decode b_Tree_entryCount 23 = .ok (.iinc 3 1, 3) := by decide +kernel
theorem d_Tree_entryCount_26 : decode b_Tree_entryCount 26 = .ok (.goto (-22), 3) := by decide +kernel
theorem d_Tree_entryCount_29 : decode b_Tree_entryCount 29 = .ok (.iload_n 2, 1) := by decide +kernel
theorem d_Tree_entryCount_30 : decode b_Tree_entryCount 30 = .ok (.ireturn, 1) := by decide +kernel
theorem d_Tree_leastFreeKey_0 : decode b_Tree_leastFreeKey 0 = .ok (.iconst 1, 1) := by decide +kernel
theorem d_Tree_leastFreeKey_1 : decode b_Tree_leastFreeKey 1 = .ok (.istore_n 1, 1) := by decide +kernel
theorem d_Tree_leastFreeKey_2 : decode b_Tree_leastFreeKey 2 = .ok (.iload_n 1, 1) := by decide +kernel
theorem d_Tree_leastFreeKey_3 : decode b_Tree_leastFreeKey 3 = .ok (.bipush 12, 2) := by decide +kernel
theorem d_Tree_leastFreeKey_5 : decode b_Tree_leastFreeKey 5 = .ok (.if_icmp .ge 19, 3) := by decide +kernel
theorem d_Tree_leastFreeKey_8 : decode b_Tree_leastFreeKey 8 = .ok (.aload_n 0, 1) := by decide +kernel
theorem d_Tree_leastFreeKey_9 : decode b_Tree_leastFreeKey 9 = .ok (.iload_n 1, 1) := by decide +kernel
theorem d_Tree_leastFreeKey_10 : decode b_Tree_leastFreeKey 10 = .ok (.invokevirtual 33, 3) := by decide +kernel
theorem d_Tree_leastFreeKey_13 : decode b_Tree_leastFreeKey 13 = .ok (.ifCond .ne 5, 3) := by decide +kernel
theorem d_Tree_leastFreeKey_16 : decode b_Tree_leastFreeKey 16 = .ok (.iload_n 1, 1) := by decide +kernel
theorem d_Tree_leastFreeKey_17 : decode b_Tree_leastFreeKey 17 = .ok (.ireturn, 1) := by decide +kernel
theorem d_Tree_leastFreeKey_18 : decode b_Tree_leastFreeKey 18 = .ok (.iinc 1 1, 3) := by decide +kernel
theorem d_Tree_leastFreeKey_21 : decode b_Tree_leastFreeKey 21 = .ok (.goto (-19), 3) := by decide +kernel
theorem d_Tree_leastFreeKey_24 : decode b_Tree_leastFreeKey 24 = .ok (.iconst (-1), 1) := by decide +kernel
theorem d_Tree_leastFreeKey_25 : decode b_Tree_leastFreeKey 25 = .ok (.ireturn, 1) := by decide +kernel
theorem d_Tree_put_0 : decode b_Tree_put 0 = .ok (.aload_n 0, 1) := by decide +kernel
theorem d_Tree_put_1 : decode b_Tree_put 1 = .ok (.getfield 9, 3) := by decide +kernel
theorem d_Tree_put_4 : decode b_Tree_put 4 = .ok (.iload_n 1, 1) := by decide +kernel
theorem d_Tree_put_5 : decode b_Tree_put 5 = .ok (.iload 4, 2) := by decide +kernel
theorem d_Tree_put_7 : decode b_Tree_put 7 = .ok (.iastore, 1) := by decide +kernel
theorem d_Tree_put_8 : decode b_Tree_put 8 = .ok (.aload_n 0, 1) := by decide +kernel
theorem d_Tree_put_9 : decode b_Tree_put 9 = .ok (.getfield 15, 3) := by decide +kernel
theorem d_Tree_put_12 : decode b_Tree_put 12 = .ok (.iload_n 1, 1) := by decide +kernel
theorem d_Tree_put_13 : decode b_Tree_put 13 = .ok (.iload_n 2, 1) := by decide +kernel
theorem d_Tree_put_14 : decode b_Tree_put 14 = .ok (.iastore, 1) := by decide +kernel
theorem d_Tree_put_15 : decode b_Tree_put 15 = .ok (.aload_n 0, 1) := by decide +kernel
theorem d_Tree_put_16 : decode b_Tree_put 16 = .ok (.getfield 18, 3) := by decide +kernel
theorem d_Tree_put_19 : decode b_Tree_put 19 = .ok (.iload_n 1, 1) := by decide +kernel
theorem d_Tree_put_20 : decode b_Tree_put 20 = .ok (.iload_n 3, 1) := by decide +kernel
theorem d_Tree_put_21 : decode b_Tree_put 21 = .ok (.iastore, 1) := by decide +kernel
theorem d_Tree_put_22 : decode b_Tree_put 22 = .ok (.aload_n 0, 1) := by decide +kernel
theorem d_Tree_put_23 : decode b_Tree_put 23 = .ok (.getfield 21, 3) := by decide +kernel
theorem d_Tree_put_26 : decode b_Tree_put 26 = .ok (.iload_n 1, 1) := by decide +kernel
theorem d_Tree_put_27 : decode b_Tree_put 27 = .ok (.iconst 0, 1) := by decide +kernel
theorem d_Tree_put_28 : decode b_Tree_put 28 = .ok (.iastore, 1) := by decide +kernel
theorem d_Tree_put_29 : decode b_Tree_put 29 = .ok (.return_, 1) := by decide +kernel
theorem d_Tree_take_0 : decode b_Tree_take 0 = .ok (.aload_n 0, 1) := by decide +kernel
theorem d_Tree_take_1 : decode b_Tree_take 1 = .ok (.getfield 9, 3) := by decide +kernel
theorem d_Tree_take_4 : decode b_Tree_take 4 = .ok (.iload_n 1, 1) := by decide +kernel
theorem d_Tree_take_5 : decode b_Tree_take 5 = .ok (.iconst 0, 1) := by decide +kernel
theorem d_Tree_take_6 : decode b_Tree_take 6 = .ok (.iastore, 1) := by decide +kernel
theorem d_Tree_take_7 : decode b_Tree_take 7 = .ok (.aload_n 0, 1) := by decide +kernel
theorem d_Tree_take_8 : decode b_Tree_take 8 = .ok (.getfield 15, 3) := by decide +kernel
theorem d_Tree_take_11 : decode b_Tree_take 11 = .ok (.iload_n 1, 1) := by decide +kernel
theorem d_Tree_take_12 : decode b_Tree_take 12 = .ok (.iconst (-1), 1) := by decide +kernel
theorem d_Tree_take_13 : decode b_Tree_take 13 = .ok (.iastore, 1) := by decide +kernel
theorem d_Tree_take_14 : decode b_Tree_take 14 = .ok (.return_, 1) := by decide +kernel
theorem d_Tree_addByte_0 : decode b_Tree_addByte 0 = .ok (.aload_n 0, 1) := by decide +kernel
theorem d_Tree_addByte_1 : decode b_Tree_addByte 1 = .ok (.getfield 24, 3) := by decide +kernel
theorem d_Tree_addByte_4 : decode b_Tree_addByte 4 = .ok (.iload_n 1, 1) := by decide +kernel
theorem d_Tree_addByte_5 : decode b_Tree_addByte 5 = .ok (.bipush 12, 2) := by decide +kernel
theorem d_Tree_addByte_7 : decode b_Tree_addByte 7 = .ok (.imul, 1) := by decide +kernel
theorem d_Tree_addByte_8 : decode b_Tree_addByte 8 = .ok (.aload_n 0, 1) := by decide +kernel
theorem d_Tree_addByte_9 : decode b_Tree_addByte 9 = .ok (.getfield 21, 3) := by decide +kernel
theorem d_Tree_addByte_12 : decode b_Tree_addByte 12 = .ok (.iload_n 1, 1) := by decide +kernel
theorem d_Tree_addByte_13 : decode b_Tree_addByte 13 = .ok (.iaload, 1) := by decide +kernel
theorem d_Tree_addByte_14 : decode b_Tree_addByte 14 = .ok (.iadd, 1) := by decide +kernel
theorem d_Tree_addByte_15 : decode b_Tree_addByte 15 = .ok (.iload_n 2, 1) := by decide +kernel
theorem d_Tree_addByte_16 : decode b_Tree_addByte 16 = .ok (.iastore, 1) := by decide +kernel
theorem d_Tree_addByte_17 : decode b_Tree_addByte 17 = .ok (.aload_n 0, 1) := by decide +kernel
theorem d_Tree_addByte_18 : decode b_Tree_addByte 18 = .ok (.getfield 21, 3) := by decide +kernel
theorem d_Tree_addByte_21 : decode b_Tree_addByte 21 = .ok (.iload_n 1, 1) := by decide +kernel
theorem d_Tree_addByte_22 : decode b_Tree_addByte 22 = .ok (.dup2, 1) := by decide +kernel
theorem d_Tree_addByte_23 : decode b_Tree_addByte 23 = .ok (.iaload, 1) := by decide +kernel
theorem d_Tree_addByte_24 : decode b_Tree_addByte 24 = .ok (.iconst 1, 1) := by decide +kernel
theorem d_Tree_addByte_25 : decode b_Tree_addByte 25 = .ok (.iadd, 1) := by decide +kernel
theorem d_Tree_addByte_26 : decode b_Tree_addByte 26 = .ok (.iastore, 1) := by decide +kernel
theorem d_Tree_addByte_27 : decode b_Tree_addByte 27 = .ok (.aload_n 0, 1) := by decide +kernel
theorem d_Tree_addByte_28 : decode b_Tree_addByte 28 = .ok (.getfield 21, 3) := by decide +kernel
theorem d_Tree_addByte_31 : decode b_Tree_addByte 31 = .ok (.iload_n 1, 1) := by decide +kernel
theorem d_Tree_addByte_32 : decode b_Tree_addByte 32 = .ok (.iaload, 1) := by decide +kernel
theorem d_Tree_addByte_33 : decode b_Tree_addByte 33 = .ok (.ireturn, 1) := by decide +kernel
theorem d_Tree_clearFile_0 : decode b_Tree_clearFile 0 = .ok (.aload_n 0, 1) := by decide +kernel
theorem d_Tree_clearFile_1 : decode b_Tree_clearFile 1 = .ok (.getfield 21, 3) := by decide +kernel
theorem d_Tree_clearFile_4 : decode b_Tree_clearFile 4 = .ok (.iload_n 1, 1) := by decide +kernel
theorem d_Tree_clearFile_5 : decode b_Tree_clearFile 5 = .ok (.iaload, 1) := by decide +kernel
theorem d_Tree_clearFile_6 : decode b_Tree_clearFile 6 = .ok (.istore_n 2, 1) := by decide +kernel
theorem d_Tree_clearFile_7 : decode b_Tree_clearFile 7 = .ok (.aload_n 0, 1) := by decide +kernel
theorem d_Tree_clearFile_8 : decode b_Tree_clearFile 8 = .ok (.getfield 21, 3) := by decide +kernel
theorem d_Tree_clearFile_11 : decode b_Tree_clearFile 11 = .ok (.iload_n 1, 1) := by decide +kernel
theorem d_Tree_clearFile_12 : decode b_Tree_clearFile 12 = .ok (.iconst 0, 1) := by decide +kernel
theorem d_Tree_clearFile_13 : decode b_Tree_clearFile 13 = .ok (.iastore, 1) := by decide +kernel
theorem d_Tree_clearFile_14 : decode b_Tree_clearFile 14 = .ok (.iload_n 2, 1) := by decide +kernel
theorem d_Tree_clearFile_15 : decode b_Tree_clearFile 15 = .ok (.ireturn, 1) := by decide +kernel
theorem d_Tree_messageLength_0 : decode b_Tree_messageLength 0 = .ok (.aload_n 0, 1) := by decide +kernel
theorem d_Tree_messageLength_1 : decode b_Tree_messageLength 1 = .ok (.iload_n 1, 1) := by decide +kernel
theorem d_Tree_messageLength_2 : decode b_Tree_messageLength 2 = .ok (.invokevirtual 37, 3) := by decide +kernel
theorem d_Tree_messageLength_5 : decode b_Tree_messageLength 5 = .ok (.ifCond .eq 12, 3) := by decide +kernel
theorem d_Tree_messageLength_8 : decode b_Tree_messageLength 8 = .ok (.aload_n 0, 1) := by decide +kernel
theorem d_Tree_messageLength_9 : decode b_Tree_messageLength 9 = .ok (.getfield 21, 3) := by decide +kernel
theorem d_Tree_messageLength_12 : decode b_Tree_messageLength 12 = .ok (.iload_n 1, 1) := by decide +kernel
theorem d_Tree_messageLength_13 : decode b_Tree_messageLength 13 = .ok (.iaload, 1) := by decide +kernel
theorem d_Tree_messageLength_14 : decode b_Tree_messageLength 14 = .ok (.goto 10, 3) := by decide +kernel
theorem d_Tree_messageLength_17 : decode b_Tree_messageLength 17 = .ok (.iconst 4, 1) := by decide +kernel
theorem d_Tree_messageLength_18 : decode b_Tree_messageLength 18 = .ok (.aload_n 0, 1) := by decide +kernel
theorem d_Tree_messageLength_19 : decode b_Tree_messageLength 19 = .ok (.iload_n 1, 1) := by decide +kernel
theorem d_Tree_messageLength_20 : decode b_Tree_messageLength 20 = .ok (.invokevirtual 40, 3) := by decide +kernel
theorem d_Tree_messageLength_23 : decode b_Tree_messageLength 23 = .ok (.imul, 1) := by decide +kernel
theorem d_Tree_messageLength_24 : decode b_Tree_messageLength 24 = .ok (.ireturn, 1) := by decide +kernel
theorem d_Tree_entryAfter_0 : decode b_Tree_entryAfter 0 = .ok (.iconst (-1), 1) := by decide +kernel
theorem d_Tree_entryAfter_1 : decode b_Tree_entryAfter 1 = .ok (.istore_n 3, 1) := by decide +kernel
theorem d_Tree_entryAfter_2 : decode b_Tree_entryAfter 2 = .ok (.iconst 1, 1) := by decide +kernel
theorem d_Tree_entryAfter_3 : decode b_Tree_entryAfter 3 = .ok (.istore 4, 2) := by decide +kernel
theorem d_Tree_entryAfter_5 : decode b_Tree_entryAfter 5 = .ok (.iload 4, 2) := by decide +kernel
theorem d_Tree_entryAfter_7 : decode b_Tree_entryAfter 7 = .ok (.bipush 12, 2) := by decide +kernel
theorem d_Tree_entryAfter_9 : decode b_Tree_entryAfter 9 = .ok (.if_icmp .ge 67, 3) := by decide +kernel
theorem d_Tree_entryAfter_12 : decode b_Tree_entryAfter 12 = .ok (.aload_n 0, 1) := by decide +kernel
theorem d_Tree_entryAfter_13 : decode b_Tree_entryAfter 13 = .ok (.getfield 15, 3) := by decide +kernel
theorem d_Tree_entryAfter_16 : decode b_Tree_entryAfter 16 = .ok (.iload 4, 2) := by decide +kernel
theorem d_Tree_entryAfter_18 : decode b_Tree_entryAfter 18 = .ok (.iaload, 1) := by decide +kernel
theorem d_Tree_entryAfter_19 : decode b_Tree_entryAfter 19 = .ok (.iload_n 1, 1) := by decide +kernel
theorem d_Tree_entryAfter_20 : decode b_Tree_entryAfter 20 = .ok (.if_icmp .ne 18, 3) := by decide +kernel
theorem d_Tree_entryAfter_23 : decode b_Tree_entryAfter 23 = .ok (.aload_n 0, 1) := by decide +kernel
theorem d_Tree_entryAfter_24 : decode b_Tree_entryAfter 24 = .ok (.getfield 18, 3) := by decide +kernel
theorem d_Tree_entryAfter_27 : decode b_Tree_entryAfter 27 = .ok (.iload 4, 2) := by decide +kernel
theorem d_Tree_entryAfter_29 : decode b_Tree_entryAfter 29 = .ok (.iaload, 1) := by decide +kernel
theorem d_Tree_entryAfter_30 : decode b_Tree_entryAfter 30 = .ok (.iload_n 2, 1) := by decide +kernel
theorem d_Tree_entryAfter_31 : decode b_Tree_entryAfter 31 = .ok (.if_icmp .le 7, 3) := by decide +kernel
theorem d_Tree_entryAfter_34 : decode b_Tree_entryAfter 34 = .ok (.iconst 1, 1) := by decide +kernel
theorem d_Tree_entryAfter_35 : decode b_Tree_entryAfter 35 = .ok (.goto 4, 3) := by decide +kernel
theorem d_Tree_entryAfter_38 : decode b_Tree_entryAfter 38 = .ok (.iconst 0, 1) := by decide +kernel
theorem d_Tree_entryAfter_39 : decode b_Tree_entryAfter 39 = .ok (.istore 5, 2) := by decide +kernel
theorem d_Tree_entryAfter_41 : decode b_Tree_entryAfter 41 = .ok (.iload 5, 2) := by decide +kernel
theorem d_Tree_entryAfter_43 : decode b_Tree_entryAfter 43 = .ok (.ifCond .eq 27, 3) := by decide +kernel
theorem d_Tree_entryAfter_46 : decode b_Tree_entryAfter 46 = .ok (.iload_n 3, 1) := by decide +kernel
theorem d_Tree_entryAfter_47 : decode b_Tree_entryAfter 47 = .ok (.iconst (-1), 1) := by decide +kernel
theorem d_Tree_entryAfter_48 : decode b_Tree_entryAfter 48 = .ok (.if_icmp .eq 19, 3) := by decide +kernel
theorem d_Tree_entryAfter_51 : decode b_Tree_entryAfter 51 = .ok (.aload_n 0, 1) := by decide +kernel
theorem d_Tree_entryAfter_52 : decode b_Tree_entryAfter 52 = .ok (.getfield 18, 3) := by decide +kernel
theorem d_Tree_entryAfter_55 : decode b_Tree_entryAfter 55 = .ok (.iload 4, 2) := by decide +kernel
theorem d_Tree_entryAfter_57 : decode b_Tree_entryAfter 57 = .ok (.iaload, 1) := by decide +kernel
theorem d_Tree_entryAfter_58 : decode b_Tree_entryAfter 58 = .ok (.aload_n 0, 1) := by decide +kernel
theorem d_Tree_entryAfter_59 : decode b_Tree_entryAfter 59 = .ok (.getfield 18, 3) := by decide +kernel
theorem d_Tree_entryAfter_62 : decode b_Tree_entryAfter 62 = .ok (.iload_n 3, 1) := by decide +kernel
theorem d_Tree_entryAfter_63 : decode b_Tree_entryAfter 63 = .ok (.iaload, 1) := by decide +kernel
theorem d_Tree_entryAfter_64 : decode b_Tree_entryAfter 64 = .ok (.if_icmp .ge 6, 3) := by decide +kernel
theorem d_Tree_entryAfter_67 : decode b_Tree_entryAfter 67 = .ok (.iload 4, 2) := by decide +kernel
theorem d_Tree_entryAfter_69 : decode b_Tree_entryAfter 69 = .ok (.istore_n 3, 1) := by decide +kernel
theorem d_Tree_entryAfter_70 : decode b_Tree_entryAfter 70 = .ok (.iinc 4 1, 3) := by decide +kernel
theorem d_Tree_entryAfter_73 : decode b_Tree_entryAfter 73 = .ok (.goto (-68), 3) := by decide +kernel
theorem d_Tree_entryAfter_76 : decode b_Tree_entryAfter 76 = .ok (.iload_n 3, 1) := by decide +kernel
theorem d_Tree_entryAfter_77 : decode b_Tree_entryAfter 77 = .ok (.ireturn, 1) := by decide +kernel
theorem d_Tree_followerOf_0 : decode b_Tree_followerOf 0 = .ok (.aload_n 0, 1) := by decide +kernel
theorem d_Tree_followerOf_1 : decode b_Tree_followerOf 1 = .ok (.iload_n 1, 1) := by decide +kernel
theorem d_Tree_followerOf_2 : decode b_Tree_followerOf 2 = .ok (.iconst 0, 1) := by decide +kernel
theorem d_Tree_followerOf_3 : decode b_Tree_followerOf 3 = .ok (.invokevirtual 44, 3) := by decide +kernel
theorem d_Tree_followerOf_6 : decode b_Tree_followerOf 6 = .ok (.istore_n 2, 1) := by decide +kernel
theorem d_Tree_followerOf_7 : decode b_Tree_followerOf 7 = .ok (.iload_n 1, 1) := by decide +kernel
theorem d_Tree_followerOf_8 : decode b_Tree_followerOf 8 = .ok (.istore_n 3, 1) := by decide +kernel
theorem d_Tree_followerOf_9 : decode b_Tree_followerOf 9 = .ok (.iconst 0, 1) := by decide +kernel
theorem d_Tree_followerOf_10 : decode b_Tree_followerOf 10 = .ok (.istore 4, 2) := by decide +kernel
theorem d_Tree_followerOf_12 : decode b_Tree_followerOf 12 = .ok (.iload 4, 2) := by decide +kernel
theorem d_Tree_followerOf_14 : decode b_Tree_followerOf 14 = .ok (.bipush 12, 2) := by decide +kernel
theorem d_Tree_followerOf_16 : decode b_Tree_followerOf 16 = .ok (.if_icmp .ge 42, 3) := by decide +kernel
theorem d_Tree_followerOf_19 : decode b_Tree_followerOf 19 = .ok (.iload_n 2, 1) := by decide +kernel
theorem d_Tree_followerOf_20 : decode b_Tree_followerOf 20 = .ok (.iconst (-1), 1) := by decide +kernel
theorem d_Tree_followerOf_21 : decode b_Tree_followerOf 21 = .ok (.if_icmp .ne 37, 3) := by decide +kernel
theorem d_Tree_followerOf_24 : decode b_Tree_followerOf 24 = .ok (.iload_n 3, 1) := by decide +kernel
theorem d_Tree_followerOf_25 : decode b_Tree_followerOf 25 = .ok (.ifCond .le 33, 3) := by decide +kernel
theorem d_Tree_followerOf_28 : decode b_Tree_followerOf 28 = .ok (.aload_n 0, 1) := by decide +kernel
theorem d_Tree_followerOf_29 : decode b_Tree_followerOf 29 = .ok (.aload_n 0, 1) := by decide +kernel
theorem d_Tree_followerOf_30 : decode b_Tree_followerOf 30 = .ok (.getfield 15, 3) := by decide +kernel
theorem d_Tree_followerOf_33 : decode b_Tree_followerOf 33 = .ok (.iload_n 3, 1) := by decide +kernel
theorem d_Tree_followerOf_34 : decode b_Tree_followerOf 34 = .ok (.iaload, 1) := by decide +kernel
theorem d_Tree_followerOf_35 : decode b_Tree_followerOf 35 = .ok (.aload_n 0, 1) := by decide +kernel
theorem d_Tree_followerOf_36 : decode b_Tree_followerOf 36 = .ok (.getfield 18, 3) := by decide +kernel
theorem d_Tree_followerOf_39 : decode b_Tree_followerOf 39 = .ok (.iload_n 3, 1) := by decide +kernel
theorem d_Tree_followerOf_40 : decode b_Tree_followerOf 40 = .ok (.iaload, 1) := by decide +kernel
theorem d_Tree_followerOf_41 : decode b_Tree_followerOf 41 = .ok (.invokevirtual 44, 3) := by decide +kernel
theorem d_Tree_followerOf_44 : decode b_Tree_followerOf 44 = .ok (.istore_n 2, 1) := by decide +kernel
theorem d_Tree_followerOf_45 : decode b_Tree_followerOf 45 = .ok (.aload_n 0, 1) := by decide +kernel
theorem d_Tree_followerOf_46 : decode b_Tree_followerOf 46 = .ok (.getfield 15, 3) := by decide +kernel
theorem d_Tree_followerOf_49 : decode b_Tree_followerOf 49 = .ok (.iload_n 3, 1) := by decide +kernel
theorem d_Tree_followerOf_50 : decode b_Tree_followerOf 50 = .ok (.iaload, 1) := by decide +kernel
theorem d_Tree_followerOf_51 : decode b_Tree_followerOf 51 = .ok (.istore_n 3, 1) := by decide +kernel
theorem d_Tree_followerOf_52 : decode b_Tree_followerOf 52 = .ok (.iinc 4 1, 3) := by decide +kernel
theorem d_Tree_followerOf_55 : decode b_Tree_followerOf 55 = .ok (.goto (-43), 3) := by decide +kernel
theorem d_Tree_followerOf_58 : decode b_Tree_followerOf 58 = .ok (.iload_n 2, 1) := by decide +kernel
theorem d_Tree_followerOf_59 : decode b_Tree_followerOf 59 = .ok (.ireturn, 1) := by decide +kernel
