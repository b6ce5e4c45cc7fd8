theorem d_Cy_init_0 : decode b_Cy_init 0 = .ok (.aload_n 0, 1) := by decide +kernel
theorem d_Cy_init_1 : decode b_Cy_init 1 = .ok (.invokespecial 3, 3) := by decide +kernel
theorem d_Cy_init_4 : decode b_Cy_init 4 = .ok (.aload_n 0, 1) := by decide +kernel
theorem d_Cy_init_5 : decode b_Cy_init 5 = .ok (.sipush 1341, 3) := by decide +kernel
theorem d_Cy_init_8 : decode b_Cy_init 8 = .ok (.newarray .int, 2) := by decide +kernel
theorem d_Cy_init_10 : decode b_Cy_init 10 = .ok (.putfield 11, 3) := by decide +kernel
theorem d_Cy_init_13 : decode b_Cy_init 13 = .ok (.aload_n 0, 1) := by decide +kernel
theorem d_Cy_init_14 : decode b_Cy_init 14 = .ok (.iconst 0, 1) := by decide +kernel
theorem d_Cy_init_15 : decode b_Cy_init 15 = .ok (.putfield 15, 3) := by decide +kernel
theorem d_Cy_init_18 : decode b_Cy_init 18 = .ok (.aload_n 0, 1) := by decide +kernel
theorem d_Cy_init_19 : decode b_Cy_init 19 = .ok (.bipush 73, 2) := by decide +kernel
theorem d_Cy_init_21 : decode b_Cy_init 21 = .ok (.newarray .int, 2) := by decide +kernel
theorem d_Cy_init_23 : decode b_Cy_init 23 = .ok (.putfield 19, 3) := by decide +kernel
theorem d_Cy_init_26 : decode b_Cy_init 26 = .ok (.aload_n 0, 1) := by decide +kernel
theorem d_Cy_init_27 : decode b_Cy_init 27 = .ok (.iconst 0, 1) := by decide +kernel
theorem d_Cy_init_28 : decode b_Cy_init 28 = .ok (.putfield 22, 3) := by decide +kernel
theorem d_Cy_init_31 : decode b_Cy_init 31 = .ok (.return_, 1) := by decide +kernel
theorem d_Cy_renew_0 : decode b_Cy_renew 0 = .ok (.aload_n 0, 1) := by decide +kernel
theorem d_Cy_renew_1 : decode b_Cy_renew 1 = .ok (.iconst 0, 1) := by decide +kernel
theorem d_Cy_renew_2 : decode b_Cy_renew 2 = .ok (.putfield 15, 3) := by decide +kernel
theorem d_Cy_renew_5 : decode b_Cy_renew 5 = .ok (.aload_n 0, 1) := by decide +kernel
theorem d_Cy_renew_6 : decode b_Cy_renew 6 = .ok (.iconst 0, 1) := by decide +kernel
theorem d_Cy_renew_7 : decode b_Cy_renew 7 = .ok (.putfield 22, 3) := by decide +kernel
theorem d_Cy_renew_10 : decode b_Cy_renew 10 = .ok (.aload_n 0, 1) := by decide +kernel
theorem d_Cy_renew_11 : decode b_Cy_renew 11 = .ok (.aload_n 1, 1) := by decide +kernel
theorem d_Cy_renew_12 : decode b_Cy_renew 12 = .ok (.invokevirtual 25, 3) := by decide +kernel
theorem d_Cy_renew_15 : decode b_Cy_renew 15 = .ok (.iconst 0, 1) := by decide +kernel
theorem d_Cy_renew_16 : decode b_Cy_renew 16 = .ok (.istore_n 2, 1) := by decide +kernel
theorem d_Cy_renew_17 : decode b_Cy_renew 17 = .ok (.iload_n 2, 1) := by decide +kernel
theorem d_Cy_renew_18 : decode b_Cy_renew 18 = .ok (.aload_n 1, 1) := by decide +kernel
theorem d_Cy_renew_19 : decode b_Cy_renew 19 = .ok (.getfield 29, 3) := by decide +kernel
theorem d_Cy_renew_22 : decode b_Cy_renew 22 = .ok (.if_icmp .ge 42, 3) := by decide +kernel
theorem d_Cy_renew_25 : decode b_Cy_renew 25 = .ok (.aload_n 1, 1) := by decide +kernel
theorem d_Cy_renew_26 : decode b_Cy_renew 26 = .ok (.getfield 34, 3) := by decide +kernel
theorem d_Cy_renew_29 : decode b_Cy_renew 29 = .ok (.iload_n 2, 1) := by decide +kernel
theorem d_Cy_renew_30 : decode b_Cy_renew 30 = .ok (.iaload, 1) := by decide +kernel
theorem d_Cy_renew_31 : decode b_Cy_renew 31 = .ok (.invokestatic 37, 3) := by decide +kernel
theorem d_Cy_renew_34 : decode b_Cy_renew 34 = .ok (.istore_n 3, 1) := by decide +kernel
theorem d_Cy_renew_35 : decode b_Cy_renew 35 = .ok (.iconst 0, 1) := by decide +kernel
theorem d_Cy_renew_36 : decode b_Cy_renew 36 = .ok (.istore 4, 2) := by decide +kernel
theorem d_Cy_renew_38 : decode b_Cy_renew 38 = .ok (.iload 4, 2) := by decide +kernel
theorem d_Cy_renew_40 : decode b_Cy_renew 40 = .ok (.iload_n 3, 1) := by decide +kernel
theorem d_Cy_renew_41 : decode b_Cy_renew 41 = .ok (.if_icmp .ge 17, 3) := by decide +kernel
theorem d_Cy_renew_44 : decode b_Cy_renew 44 = .ok (.aload_n 0, 1) := by decide +kernel
theorem d_Cy_renew_45 : decode b_Cy_renew 45 = .ok (.aload_n 1, 1) := by decide +kernel
theorem d_Cy_renew_46 : decode b_Cy_renew 46 = .ok (.iload_n 2, 1) := by decide +kernel
theorem d_Cy_renew_47 : decode b_Cy_renew 47 = .ok (.iload 4, 2) := by decide +kernel
theorem d_Cy_renew_49 : decode b_Cy_renew 49 = .ok (.invokevirtual 41, 3) := by decide +kernel
theorem d_Cy_renew_52 : decode b_Cy_renew 52 = .ok (.iinc 4 1, 3) := by decide +kernel
theorem d_Cy_renew_55 : decode b_Cy_renew 55 = .ok (.goto (-17), 3) := by decide +kernel
theorem d_Cy_renew_58 : decode b_Cy_renew 58 = .ok (.iinc 2 1, 3) := by decide +kernel
theorem d_Cy_renew_61 : decode b_Cy_renew 61 = .ok (.goto (-44), 3) := by decide +kernel
theorem d_Cy_renew_64 : decode b_Cy_renew 64 = .ok (.return_, 1) := by decide +kernel
theorem d_Cy_startFrom_0 : decode b_Cy_startFrom 0 = .ok (.iconst 0, 1) := by decide +kernel
theorem d_Cy_startFrom_1 : decode b_Cy_startFrom 1 = .ok (.istore_n 2, 1) := by decide +kernel
theorem d_Cy_startFrom_2 : decode b_Cy_startFrom 2 = .ok (.iload_n 2, 1) := by decide +kernel
theorem d_Cy_startFrom_3 : decode b_Cy_startFrom 3 = .ok (.aload_n 0, 1) := by decide +kernel
theorem d_Cy_startFrom_4 : decode b_Cy_startFrom 4 = .ok (.getfield 22, 3) := by decide +kernel
theorem d_Cy_startFrom_7 : decode b_Cy_startFrom 7 = .ok (.if_icmp .ge 26, 3) := by decide +kernel
theorem d_Cy_startFrom_10 : decode b_Cy_startFrom 10 = .ok (.aload_n 0, 1) := by decide +kernel
theorem d_Cy_startFrom_11 : decode b_Cy_startFrom 11 = .ok (.getfield 19, 3) := by decide +kernel
theorem d_Cy_startFrom_14 : decode b_Cy_startFrom 14 = .ok (.iload_n 2, 1) := by decide +kernel
theorem d_Cy_startFrom_15 : decode b_Cy_startFrom 15 = .ok (.iaload, 1) := by decide +kernel
theorem d_Cy_startFrom_16 : decode b_Cy_startFrom 16 = .ok (.iload_n 1, 1) := by decide +kernel
theorem d_Cy_startFrom_17 : decode b_Cy_startFrom 17 = .ok (.if_icmp .lt 10, 3) := by decide +kernel
theorem d_Cy_startFrom_20 : decode b_Cy_startFrom 20 = .ok (.aload_n 0, 1) := by decide +kernel
theorem d_Cy_startFrom_21 : decode b_Cy_startFrom 21 = .ok (.getfield 19, 3) := by decide +kernel
theorem d_Cy_startFrom_24 : decode b_Cy_startFrom 24 = .ok (.iload_n 2, 1) := by decide +kernel
theorem d_Cy_startFrom_25 : decode b_Cy_startFrom 25 = .ok (.iaload, 1) := by decide +kernel
theorem d_Cy_startFrom_26 : decode b_Cy_startFrom 26 = .ok (.ireturn, 1) := by decide +kernel
theorem d_Cy_startFrom_27 : decode b_Cy_startFrom 27 = .ok (.iinc 2 1, 3) := by decide +kernel
theorem d_Cy_startFrom_30 : decode b_Cy_startFrom 30 = .ok (.goto (-28), 3) := by decide +kernel
theorem d_Cy_startFrom_33 : decode b_Cy_startFrom 33 = .ok (.aload_n 0, 1) := by decide +kernel
theorem d_Cy_startFrom_34 : decode b_Cy_startFrom 34 = .ok (.getfield 15, 3) := by decide +kernel
theorem d_Cy_startFrom_37 : decode b_Cy_startFrom 37 = .ok (.ireturn, 1) := by decide +kernel
theorem d_Cy_addList_0 : decode b_Cy_addList 0 = .ok (.aload_n 0, 1) := by decide +kernel
theorem d_Cy_addList_1 : decode b_Cy_addList 1 = .ok (.bipush 59, 2) := by decide +kernel
theorem d_Cy_addList_3 : decode b_Cy_addList 3 = .ok (.iconst 5, 1) := by decide +kernel
theorem d_Cy_addList_4 : decode b_Cy_addList 4 = .ok (.iconst 3, 1) := by decide +kernel
theorem d_Cy_addList_5 : decode b_Cy_addList 5 = .ok (.aload_n 1, 1) := by decide +kernel
theorem d_Cy_addList_6 : decode b_Cy_addList 6 = .ok (.getfield 29, 3) := by decide +kernel
theorem d_Cy_addList_9 : decode b_Cy_addList 9 = .ok (.imul, 1) := by decide +kernel
theorem d_Cy_addList_10 : decode b_Cy_addList 10 = .ok (.iadd, 1) := by decide +kernel
theorem d_Cy_addList_11 : decode b_Cy_addList 11 = .ok (.invokevirtual 45, 3) := by decide +kernel
theorem d_Cy_addList_14 : decode b_Cy_addList 14 = .ok (.aload_n 0, 1) := by decide +kernel
theorem d_Cy_addList_15 : decode b_Cy_addList 15 = .ok (.aload_n 1, 1) := by decide +kernel
theorem d_Cy_addList_16 : decode b_Cy_addList 16 = .ok (.getfield 49, 3) := by decide +kernel
theorem d_Cy_addList_19 : decode b_Cy_addList 19 = .ok (.invokevirtual 52, 3) := by decide +kernel
theorem d_Cy_addList_22 : decode b_Cy_addList 22 = .ok (.aload_n 0, 1) := by decide +kernel
theorem d_Cy_addList_23 : decode b_Cy_addList 23 = .ok (.aload_n 1, 1) := by decide +kernel
theorem d_Cy_addList_24 : decode b_Cy_addList 24 = .ok (.getfield 29, 3) := by decide +kernel
theorem d_Cy_addList_27 : decode b_Cy_addList 27 = .ok (.invokevirtual 56, 3) := by decide +kernel
theorem d_Cy_addList_30 : decode b_Cy_addList 30 = .ok (.iconst 0, 1) := by decide +kernel
theorem d_Cy_addList_31 : decode b_Cy_addList 31 = .ok (.istore_n 2, 1) := by decide +kernel
theorem d_Cy_addList_32 : decode b_Cy_addList 32 = .ok (.iload_n 2, 1) := by decide +kernel
theorem d_Cy_addList_33 : decode b_Cy_addList 33 = .ok (.aload_n 1, 1) := by decide +kernel
theorem d_Cy_addList_34 : decode b_Cy_addList 34 = .ok (.getfield 29, 3) := by decide +kernel
theorem d_Cy_addList_37 : decode b_Cy_addList 37 = .ok (.if_icmp .ge 29, 3) := by decide +kernel
theorem d_Cy_addList_40 : decode b_Cy_addList 40 = .ok (.aload_n 0, 1) := by decide +kernel
theorem d_Cy_addList_41 : decode b_Cy_addList 41 = .ok (.aload_n 1, 1) := by decide +kernel
theorem d_Cy_addList_42 : decode b_Cy_addList 42 = .ok (.getfield 34, 3) := by decide +kernel
theorem d_Cy_addList_45 : decode b_Cy_addList 45 = .ok (.iload_n 2, 1) := by decide +kernel
theorem d_Cy_addList_46 : decode b_Cy_addList 46 = .ok (.iaload, 1) := by decide +kernel
theorem d_Cy_addList_47 : decode b_Cy_addList 47 = .ok (.invokevirtual 56, 3) := by decide +kernel
theorem d_Cy_addList_50 : decode b_Cy_addList 50 = .ok (.aload_n 0, 1) := by decide +kernel
theorem d_Cy_addList_51 : decode b_Cy_addList 51 = .ok (.aload_n 1, 1) := by decide +kernel
theorem d_Cy_addList_52 : decode b_Cy_addList 52 = .ok (.getfield 59, 3) := by decide +kernel
theorem d_Cy_addList_55 : decode b_Cy_addList 55 = .ok (.iload_n 2, 1) := by decide +kernel
theorem d_Cy_addList_56 : decode b_Cy_addList 56 = .ok (.iaload, 1) := by decide +kernel
theorem d_Cy_addList_57 : decode b_Cy_addList 57 = .ok (.invokevirtual 52, 3) := by decide +kernel
theorem d_Cy_addList_60 : decode b_Cy_addList 60 = .ok (.iinc 2 1, 3) := by decide +kernel
theorem d_Cy_addList_63 : decode b_Cy_addList 63 = .ok (.goto (-31), 3) := by decide +kernel
theorem d_Cy_addList_66 : decode b_Cy_addList 66 = .ok (.aload_n 0, 1) := by decide +kernel
theorem d_Cy_addList_67 : decode b_Cy_addList 67 = .ok (.invokevirtual 62, 3) := by decide +kernel
theorem d_Cy_addList_70 : decode b_Cy_addList 70 = .ok (.return_, 1) := by decide +kernel
theorem d_Cy_addBlock_0 : decode b_Cy_addBlock 0 = .ok (.aload_n 1, 1) := by decide +kernel
theorem d_Cy_addBlock_1 : decode b_Cy_addBlock 1 = .ok (.getfield 34, 3) := by decide +kernel
theorem d_Cy_addBlock_4 : decode b_Cy_addBlock 4 = .ok (.iload_n 2, 1) := by decide +kernel
theorem d_Cy_addBlock_5 : decode b_Cy_addBlock 5 = .ok (.iaload, 1) := by decide +kernel
theorem d_Cy_addBlock_6 : decode b_Cy_addBlock 6 = .ok (.iload_n 3, 1) := by decide +kernel
theorem d_Cy_addBlock_7 : decode b_Cy_addBlock 7 = .ok (.invokestatic 65, 3) := by decide +kernel
theorem d_Cy_addBlock_10 : decode b_Cy_addBlock 10 = .ok (.istore 4, 2) := by decide +kernel
theorem d_Cy_addBlock_12 : decode b_Cy_addBlock 12 = .ok (.aload_n 0, 1) := by decide +kernel
theorem d_Cy_addBlock_13 : decode b_Cy_addBlock 13 = .ok (.bipush 60, 2) := by decide +kernel
theorem d_Cy_addBlock_15 : decode b_Cy_addBlock 15 = .ok (.bipush 6, 2) := by decide +kernel
theorem d_Cy_addBlock_17 : decode b_Cy_addBlock 17 = .ok (.iload 4, 2) := by decide +kernel
theorem d_Cy_addBlock_19 : decode b_Cy_addBlock 19 = .ok (.iadd, 1) := by decide +kernel
theorem d_Cy_addBlock_20 : decode b_Cy_addBlock 20 = .ok (.invokevirtual 45, 3) := by decide +kernel
theorem d_Cy_addBlock_23 : decode b_Cy_addBlock 23 = .ok (.aload_n 0, 1) := by decide +kernel
theorem d_Cy_addBlock_24 : decode b_Cy_addBlock 24 = .ok (.iload_n 2, 1) := by decide +kernel
theorem d_Cy_addBlock_25 : decode b_Cy_addBlock 25 = .ok (.invokevirtual 56, 3) := by decide +kernel
theorem d_Cy_addBlock_28 : decode b_Cy_addBlock 28 = .ok (.aload_n 0, 1) := by decide +kernel
theorem d_Cy_addBlock_29 : decode b_Cy_addBlock 29 = .ok (.aload_n 1, 1) := by decide +kernel
theorem d_Cy_addBlock_30 : decode b_Cy_addBlock 30 = .ok (.getfield 59, 3) := by decide +kernel
theorem d_Cy_addBlock_33 : decode b_Cy_addBlock 33 = .ok (.iload_n 2, 1) := by decide +kernel
theorem d_Cy_addBlock_34 : decode b_Cy_addBlock 34 = .ok (.iaload, 1) := by decide +kernel
theorem d_Cy_addBlock_35 : decode b_Cy_addBlock 35 = .ok (.invokevirtual 52, 3) := by decide +kernel
theorem d_Cy_addBlock_38 : decode b_Cy_addBlock 38 = .ok (.aload_n 0, 1) := by decide +kernel
theorem d_Cy_addBlock_39 : decode b_Cy_addBlock 39 = .ok (.iload_n 3, 1) := by decide +kernel
theorem d_Cy_addBlock_40 : decode b_Cy_addBlock 40 = .ok (.invokevirtual 56, 3) := by decide +kernel
theorem d_Cy_addBlock_43 : decode b_Cy_addBlock 43 = .ok (.iconst 0, 1) := by decide +kernel
theorem d_Cy_addBlock_44 : decode b_Cy_addBlock 44 = .ok (.istore 5, 2) := by decide +kernel
theorem d_Cy_addBlock_46 : decode b_Cy_addBlock 46 = .ok (.iload 5, 2) := by decide +kernel
theorem d_Cy_addBlock_48 : decode b_Cy_addBlock 48 = .ok (.iload 4, 2) := by decide +kernel
theorem d_Cy_addBlock_50 : decode b_Cy_addBlock 50 = .ok (.if_icmp .ge 25, 3) := by decide +kernel
theorem d_Cy_addBlock_53 : decode b_Cy_addBlock 53 = .ok (.aload_n 0, 1) := by decide +kernel
theorem d_Cy_addBlock_54 : decode b_Cy_addBlock 54 = .ok (.aload_n 1, 1) := by decide +kernel
theorem d_Cy_addBlock_55 : decode b_Cy_addBlock 55 = .ok (.iload_n 2, 1) := by decide +kernel
theorem d_Cy_addBlock_56 : decode b_Cy_addBlock 56 = .ok (.iload_n 3, 1) := by decide +kernel
theorem d_Cy_addBlock_57 : decode b_Cy_addBlock 57 = .ok (.bipush 8, 2) := by decide +kernel
theorem d_Cy_addBlock_59 : decode b_Cy_addBlock 59 = .ok (.imul, 1) := by decide +kernel
theorem d_Cy_addBlock_60 : decode b_Cy_addBlock 60 = .ok (.iload 5, 2) := by decide +kernel
theorem d_Cy_addBlock_62 : decode b_Cy_addBlock 62 = .ok (.iadd, 1) := by decide +kernel
theorem d_Cy_addBlock_63 : decode b_Cy_addBlock 63 = .ok (.invokevirtual 69, 3) := by decide +kernel
theorem d_Cy_addBlock_66 : decode b_Cy_addBlock 66 = .ok (.invokevirtual 56, 3) := by decide +kernel
theorem d_Cy_addBlock_69 : decode b_Cy_addBlock 69 = .ok (.iinc 5 1, 3) := by decide +kernel
theorem d_Cy_addBlock_72 : decode b_Cy_addBlock 72 = .ok (.goto (-26), 3) := by decide +kernel
theorem d_Cy_addBlock_75 : decode b_Cy_addBlock 75 = .ok (.aload_n 0, 1) := by decide +kernel
theorem d_Cy_addBlock_76 : decode b_Cy_addBlock 76 = .ok (.invokevirtual 62, 3) := by decide +kernel
theorem d_Cy_addBlock_79 : decode b_Cy_addBlock 79 = .ok (.return_, 1) := by decide +kernel
theorem d_Cy_begin_0 : decode b_Cy_begin 0 = .ok (.aload_n 0, 1) := by decide +kernel
theorem d_Cy_begin_1 : decode b_Cy_begin 1 = .ok (.getfield 22, 3) := by decide +kernel
theorem d_Cy_begin_4 : decode b_Cy_begin 4 = .ok (.aload_n 0, 1) := by decide +kernel
theorem d_Cy_begin_5 : decode b_Cy_begin 5 = .ok (.getfield 19, 3) := by decide +kernel
theorem d_Cy_begin_8 : decode b_Cy_begin 8 = .ok (.arraylength, 1) := by decide +kernel
theorem d_Cy_begin_9 : decode b_Cy_begin 9 = .ok (.if_icmp .ge 26, 3) := by decide +kernel
theorem d_Cy_begin_12 : decode b_Cy_begin 12 = .ok (.aload_n 0, 1) := by decide +kernel
theorem d_Cy_begin_13 : decode b_Cy_begin 13 = .ok (.getfield 19, 3) := by decide +kernel
theorem d_Cy_begin_16 : decode b_Cy_begin 16 = .ok (.aload_n 0, 1) := by decide +kernel
theorem d_Cy_begin_17 : decode b_Cy_begin 17 = .ok (.getfield 22, 3) := by decide +kernel
theorem d_Cy_begin_20 : decode b_Cy_begin 20 = .ok (.aload_n 0, 1) := by decide +kernel
theorem d_Cy_begin_21 : decode b_Cy_begin 21 = .ok (.getfield 15, 3) := by decide +kernel
theorem d_Cy_begin_24 : decode b_Cy_begin 24 = .ok (.iastore, 1) := by decide +kernel
theorem d_Cy_begin_25 : decode b_Cy_begin 25 = .ok (.aload_n 0, 1) := by decide +kernel
theorem d_Cy_begin_26 : decode b_Cy_begin 26 = .ok (.dup, 1) := by decide +kernel
theorem d_Cy_begin_27 : decode b_Cy_begin 27 = .ok (.getfield 22, 3) := by decide +kernel
theorem d_Cy_begin_30 : decode b_Cy_begin 30 = .ok (.iconst 1, 1) := by decide +kernel
theorem d_Cy_begin_31 : decode b_Cy_begin 31 = .ok (.iadd, 1) := by decide +kernel
theorem d_Cy_begin_32 : decode b_Cy_begin 32 = .ok (.putfield 22, 3) := by decide +kernel
theorem d_Cy_begin_35 : decode b_Cy_begin 35 = .ok (.aload_n 0, 1) := by decide +kernel
theorem d_Cy_begin_36 : decode b_Cy_begin 36 = .ok (.iload_n 1, 1) := by decide +kernel
theorem d_Cy_begin_37 : decode b_Cy_begin 37 = .ok (.invokevirtual 56, 3) := by decide +kernel
theorem d_Cy_begin_40 : decode b_Cy_begin 40 = .ok (.aload_n 0, 1) := by decide +kernel
theorem d_Cy_begin_41 : decode b_Cy_begin 41 = .ok (.iload_n 2, 1) := by decide +kernel
theorem d_Cy_begin_42 : decode b_Cy_begin 42 = .ok (.iconst 2, 1) := by decide +kernel
theorem d_Cy_begin_43 : decode b_Cy_begin 43 = .ok (.isub, 1) := by decide +kernel
theorem d_Cy_begin_44 : decode b_Cy_begin 44 = .ok (.iconst 4, 1) := by decide +kernel
theorem d_Cy_begin_45 : decode b_Cy_begin 45 = .ok (.iadd, 1) := by decide +kernel
theorem d_Cy_begin_46 : decode b_Cy_begin 46 = .ok (.invokevirtual 56, 3) := by decide +kernel
theorem d_Cy_begin_49 : decode b_Cy_begin 49 = .ok (.return_, 1) := by decide +kernel
theorem d_Cy_writeCheck_0 : decode b_Cy_writeCheck 0 = .ok (.aload_n 0, 1) := by decide +kernel
theorem d_Cy_writeCheck_1 : decode b_Cy_writeCheck 1 = .ok (.getfield 11, 3) := by decide +kernel
theorem d_Cy_writeCheck_4 : decode b_Cy_writeCheck 4 = .ok (.aload_n 0, 1) := by decide +kernel
theorem d_Cy_writeCheck_5 : decode b_Cy_writeCheck 5 = .ok (.getfield 19, 3) := by decide +kernel
theorem d_Cy_writeCheck_8 : decode b_Cy_writeCheck 8 = .ok (.aload_n 0, 1) := by decide +kernel
theorem d_Cy_writeCheck_9 : decode b_Cy_writeCheck 9 = .ok (.getfield 22, 3) := by decide +kernel
theorem d_Cy_writeCheck_12 : decode b_Cy_writeCheck 12 = .ok (.iconst 1, 1) := by decide +kernel
theorem d_Cy_writeCheck_13 : decode b_Cy_writeCheck 13 = .ok (.isub, 1) := by decide +kernel
theorem d_Cy_writeCheck_14 : decode b_Cy_writeCheck 14 = .ok (.iaload, 1) := by decide +kernel
theorem d_Cy_writeCheck_15 : decode b_Cy_writeCheck 15 = .ok (.aload_n 0, 1) := by decide +kernel
theorem d_Cy_writeCheck_16 : decode b_Cy_writeCheck 16 = .ok (.getfield 15, 3) := by decide +kernel
theorem d_Cy_writeCheck_19 : decode b_Cy_writeCheck 19 = .ok (.invokestatic 72, 3) := by decide +kernel
theorem d_Cy_writeCheck_22 : decode b_Cy_writeCheck 22 = .ok (.istore_n 1, 1) := by decide +kernel
theorem d_Cy_writeCheck_23 : decode b_Cy_writeCheck 23 = .ok (.aload_n 0, 1) := by decide +kernel
theorem d_Cy_writeCheck_24 : decode b_Cy_writeCheck 24 = .ok (.iload_n 1, 1) := by decide +kernel
theorem d_Cy_writeCheck_25 : decode b_Cy_writeCheck 25 = .ok (.bipush 16, 2) := by decide +kernel
theorem d_Cy_writeCheck_27 : decode b_Cy_writeCheck 27 = .ok (.iushr, 1) := by decide +kernel
theorem d_Cy_writeCheck_28 : decode b_Cy_writeCheck 28 = .ok (.invokevirtual 52, 3) := by decide +kernel
theorem d_Cy_writeCheck_31 : decode b_Cy_writeCheck 31 = .ok (.aload_n 0, 1) := by decide +kernel
theorem d_Cy_writeCheck_32 : decode b_Cy_writeCheck 32 = .ok (.iload_n 1, 1) := by decide +kernel
theorem d_Cy_writeCheck_33 : decode b_Cy_writeCheck 33 = .ok (.invokevirtual 52, 3) := by decide +kernel
theorem d_Cy_writeCheck_36 : decode b_Cy_writeCheck 36 = .ok (.return_, 1) := by decide +kernel
theorem d_Cy_writePair_0 : decode b_Cy_writePair 0 = .ok (.aload_n 0, 1) := by decide +kernel
theorem d_Cy_writePair_1 : decode b_Cy_writePair 1 = .ok (.iload_n 1, 1) := by decide +kernel
theorem d_Cy_writePair_2 : decode b_Cy_writePair 2 = .ok (.bipush 8, 2) := by decide +kernel
theorem d_Cy_writePair_4 : decode b_Cy_writePair 4 = .ok (.ishr, 1) := by decide +kernel
theorem d_Cy_writePair_5 : decode b_Cy_writePair 5 = .ok (.invokevirtual 56, 3) := by decide +kernel
theorem d_Cy_writePair_8 : decode b_Cy_writePair 8 = .ok (.aload_n 0, 1) := by decide +kernel
theorem d_Cy_writePair_9 : decode b_Cy_writePair 9 = .ok (.iload_n 1, 1) := by decide +kernel
theorem d_Cy_writePair_10 : decode b_Cy_writePair 10 = .ok (.invokevirtual 56, 3) := by decide +kernel
theorem d_Cy_writePair_13 : decode b_Cy_writePair 13 = .ok (.return_, 1) := by decide +kernel
theorem d_Cy_write_0 : decode b_Cy_write 0 = .ok (.aload_n 0, 1) := by decide +kernel
theorem d_Cy_write_1 : decode b_Cy_write 1 = .ok (.getfield 15, 3) := by decide +kernel
theorem d_Cy_write_4 : decode b_Cy_write 4 = .ok (.aload_n 0, 1) := by decide +kernel
theorem d_Cy_write_5 : decode b_Cy_write 5 = .ok (.getfield 11, 3) := by decide +kernel
theorem d_Cy_write_8 : decode b_Cy_write 8 = .ok (.arraylength, 1) := by decide +kernel
theorem d_Cy_write_9 : decode b_Cy_write 9 = .ok (.if_icmp .ge 27, 3) := by decide +kernel
theorem d_Cy_write_12 : decode b_Cy_write 12 = .ok (.aload_n 0, 1) := by decide +kernel
theorem d_Cy_write_13 : decode b_Cy_write 13 = .ok (.getfield 11, 3) := by decide +kernel
theorem d_Cy_write_16 : decode b_Cy_write 16 = .ok (.aload_n 0, 1) := by decide +kernel
theorem d_Cy_write_17 : decode b_Cy_write 17 = .ok (.getfield 15, 3) := by decide +kernel
theorem d_Cy_write_20 : decode b_Cy_write 20 = .ok (.iload_n 1, 1) := by decide +kernel
theorem d_Cy_write_21 : decode b_Cy_write 21 = .ok (.sipush 255, 3) := by decide +kernel
theorem d_Cy_write_24 : decode b_Cy_write 24 = .ok (.iand, 1) := by decide +kernel
theorem d_Cy_write_25 : decode b_Cy_write 25 = .ok (.iastore, 1) := by decide +kernel
theorem d_Cy_write_26 : decode b_Cy_write 26 = .ok (.aload_n 0, 1) := by decide +kernel
theorem d_Cy_write_27 : decode b_Cy_write 27 = .ok (.dup, 1) := by decide +kernel
theorem d_Cy_write_28 : decode b_Cy_write 28 = .ok (.getfield 15, 3) := by decide +kernel
theorem d_Cy_write_31 : decode b_Cy_write 31 = .ok (.iconst 1, 1) := by decide +kernel
theorem d_Cy_write_32 : decode b_Cy_write 32 = .ok (.iadd, 1) := by decide +kernel
theorem d_Cy_write_33 : decode b_Cy_write 33 = .ok (.putfield 15, 3) := by decide +kernel
theorem d_Cy_write_36 : decode b_Cy_write 36 = .ok (.return_, 1) := by decide +kernel
theorem d_Mt_init_0 : decode b_Mt_init 0 = .ok (.aload_n 0, 1) := by decide +kernel
theorem d_Mt_init_1 : decode b_Mt_init 1 = .ok (.invokespecial 3, 3) := by decide +kernel
theorem d_Mt_init_4 : decode b_Mt_init 4 = .ok (.aload_n 0, 1) := by decide +kernel
theorem d_Mt_init_5 : decode b_Mt_init 5 = .ok (.iconst 0, 1) := by decide +kernel
theorem d_Mt_init_6 : decode b_Mt_init 6 = .ok (.putfield 9, 3) := by decide +kernel
theorem d_Mt_init_9 : decode b_Mt_init 9 = .ok (.aload_n 0, 1) := by decide +kernel
theorem d_Mt_init_10 : decode b_Mt_init 10 = .ok (.iconst 0, 1) := by decide +kernel
theorem d_Mt_init_11 : decode b_Mt_init 11 = .ok (.putfield 15, 3) := by decide +kernel
theorem d_Mt_init_14 : decode b_Mt_init 14 = .ok (.aload_n 0, 1) := by decide +kernel
theorem d_Mt_init_15 : decode b_Mt_init 15 = .ok (.bipush 12, 2) := by decide +kernel
theorem d_Mt_init_17 : decode b_Mt_init 17 = .ok (.newarray .int, 2) := by decide +kernel
theorem d_Mt_init_19 : decode b_Mt_init 19 = .ok (.putfield 19, 3) := by decide +kernel
theorem d_Mt_init_22 : decode b_Mt_init 22 = .ok (.aload_n 0, 1) := by decide +kernel
theorem d_Mt_init_23 : decode b_Mt_init 23 = .ok (.bipush 12, 2) := by decide +kernel
theorem d_Mt_init_25 : decode b_Mt_init 25 = .ok (.newarray .int, 2) := by decide +kernel
theorem d_Mt_init_27 : decode b_Mt_init 27 = .ok (.putfield 23, 3) := by decide +kernel
theorem d_Mt_init_30 : decode b_Mt_init 30 = .ok (.aload_n 0, 1) := by decide +kernel
theorem d_Mt_init_31 : decode b_Mt_init 31 = .ok (.bipush 12, 2) := by decide +kernel
theorem d_Mt_init_33 : decode b_Mt_init 33 = .ok (.newarray .int, 2) := by decide +kernel
theorem d_Mt_init_35 : decode b_Mt_init 35 = .ok (.putfield 26, 3) := by decide +kernel
theorem d_Mt_init_38 : decode b_Mt_init 38 = .ok (.aload_n 0, 1) := by decide +kernel
theorem d_Mt_init_39 : decode b_Mt_init 39 = .ok (.sipush 576, 3) := by decide +kernel
theorem d_Mt_init_42 : decode b_Mt_init 42 = .ok (.newarray .int, 2) := by decide +kernel
theorem d_Mt_init_44 : decode b_Mt_init 44 = .ok (.putfield 29, 3) := by decide +kernel
theorem d_Mt_init_47 : decode b_Mt_init 47 = .ok (.return_, 1) := by decide +kernel
theorem d_Mt_reset_0 : decode b_Mt_reset 0 = .ok (.aload_n 0, 1) := by decide +kernel
theorem d_Mt_reset_1 : decode b_Mt_reset 1 = .ok (.iconst 0, 1) := by decide +kernel
theorem d_Mt_reset_2 : decode b_Mt_reset 2 = .ok (.putfield 9, 3) := by decide +kernel
theorem d_Mt_reset_5 : decode b_Mt_reset 5 = .ok (.aload_n 0, 1) := by decide +kernel
theorem d_Mt_reset_6 : decode b_Mt_reset 6 = .ok (.iconst 0, 1) := by decide +kernel
theorem d_Mt_reset_7 : decode b_Mt_reset 7 = .ok (.putfield 15, 3) := by decide +kernel
theorem d_Mt_reset_10 : decode b_Mt_reset 10 = .ok (.iconst 0, 1) := by decide +kernel
theorem d_Mt_reset_11 : decode b_Mt_reset 11 = .ok (.istore_n 1, 1) := by decide +kernel
theorem d_Mt_reset_12 : decode b_Mt_reset 12 = .ok (.iload_n 1, 1) := by decide +kernel
theorem d_Mt_reset_13 : decode b_Mt_reset 13 = .ok (.bipush 12, 2) := by decide +kernel
theorem d_Mt_reset_15 : decode b_Mt_reset 15 = .ok (.if_icmp .ge 16, 3) := by decide +kernel
theorem d_Mt_reset_18 : decode b_Mt_reset 18 = .ok (.aload_n 0, 1) := by decide +kernel
theorem d_Mt_reset_19 : decode b_Mt_reset 19 = .ok (.iload_n 1, 1) := by decide +kernel
theorem d_Mt_reset_20 : decode b_Mt_reset 20 = .ok (.iconst 0, 1) := by decide +kernel
theorem d_Mt_reset_21 : decode b_Mt_reset 21 = .ok (.iconst 0, 1) := by decide +kernel
theorem d_Mt_reset_22 : decode b_Mt_reset 22 = .ok (.invokevirtual 32, 3) := by decide +kernel
theorem d_Mt_reset_25 : decode b_Mt_reset 25 = .ok (.iinc 1 1, 3) := by decide +kernel
theorem d_Mt_reset_28 : decode b_Mt_reset 28 = .ok (.goto (-16), 3) := by decide +kernel
theorem d_Mt_reset_31 : decode b_Mt_reset 31 = .ok (.return_, 1) := by decide +kernel
theorem d_Mt_relist_0 : decode b_Mt_relist 0 = .ok (.aload_n 0, 1) := by decide +kernel
theorem d_Mt_relist_1 : decode b_Mt_relist 1 = .ok (.getfield 19, 3) := by decide +kernel
theorem d_Mt_relist_4 : decode b_Mt_relist 4 = .ok (.iload_n 1, 1) := by decide +kernel
theorem d_Mt_relist_5 : decode b_Mt_relist 5 = .ok (.iload_n 2, 1) := by decide +kernel
theorem d_Mt_relist_6 : decode b_Mt_relist 6 = .ok (.iastore, 1) := by decide +kernel
theorem d_Mt_relist_7 : decode b_Mt_relist 7 = .ok (.aload_n 0, 1) := by decide +kernel
theorem d_Mt_relist_8 : decode b_Mt_relist 8 = .ok (.getfield 23, 3) := by decide +kernel
theorem d_Mt_relist_11 : decode b_Mt_relist 11 = .ok (.iload_n 1, 1) := by decide +kernel
theorem d_Mt_relist_12 : decode b_Mt_relist 12 = .ok (.iload_n 3, 1) := by decide +kernel
theorem d_Mt_relist_13 : decode b_Mt_relist 13 = .ok (.iastore, 1) := by decide +kernel
theorem d_Mt_relist_14 : decode b_Mt_relist 14 = .ok (.aload_n 0, 1) := by decide +kernel
theorem d_Mt_relist_15 : decode b_Mt_relist 15 = .ok (.getfield 26, 3) := by decide +kernel
theorem d_Mt_relist_18 : decode b_Mt_relist 18 = .ok (.iload_n 1, 1) := by decide +kernel
theorem d_Mt_relist_19 : decode b_Mt_relist 19 = .ok (.iconst 0, 1) := by decide +kernel
theorem d_Mt_relist_20 : decode b_Mt_relist 20 = .ok (.iastore, 1) := by decide +kernel
theorem d_Mt_relist_21 : decode b_Mt_relist 21 = .ok (.return_, 1) := by decide +kernel
theorem d_Mt_takeList_0 : decode b_Mt_takeList 0 = .ok (.aload_n 0, 1) := by decide +kernel
theorem d_Mt_takeList_1 : decode b_Mt_takeList 1 = .ok (.iconst 1, 1) := by decide +kernel
theorem d_Mt_takeList_2 : decode b_Mt_takeList 2 = .ok (.putfield 9, 3) := by decide +kernel
theorem d_Mt_takeList_5 : decode b_Mt_takeList 5 = .ok (.aload_n 0, 1) := by decide +kernel
theorem d_Mt_takeList_6 : decode b_Mt_takeList 6 = .ok (.aload_n 1, 1) := by decide +kernel
theorem d_Mt_takeList_7 : decode b_Mt_takeList 7 = .ok (.iconst 2, 1) := by decide +kernel
theorem d_Mt_takeList_8 : decode b_Mt_takeList 8 = .ok (.invokestatic 36, 3) := by decide +kernel
theorem d_Mt_takeList_11 : decode b_Mt_takeList 11 = .ok (.putfield 15, 3) := by decide +kernel
theorem d_Mt_takeList_14 : decode b_Mt_takeList 14 = .ok (.aload_n 1, 1) := by decide +kernel
theorem d_Mt_takeList_15 : decode b_Mt_takeList 15 = .ok (.iconst 4, 1) := by decide +kernel
theorem d_Mt_takeList_16 : decode b_Mt_takeList 16 = .ok (.iaload, 1) := by decide +kernel
theorem d_Mt_takeList_17 : decode b_Mt_takeList 17 = .ok (.istore_n 2, 1) := by decide +kernel
theorem d_Mt_takeList_18 : decode b_Mt_takeList 18 = .ok (.iconst 0, 1) := by decide +kernel
theorem d_Mt_takeList_19 : decode b_Mt_takeList 19 = .ok (.istore_n 3, 1) := by decide +kernel
theorem d_Mt_takeList_20 : decode b_Mt_takeList 20 = .ok (.iload_n 3, 1) := by decide +kernel
theorem d_Mt_takeList_21 : decode b_Mt_takeList 21 = .ok (.bipush 12, 2) := by decide +kernel
theorem d_Mt_takeList_23 : decode b_Mt_takeList 23 = .ok (.if_icmp .ge 81, 3) := by decide +kernel
theorem d_Mt_takeList_26 : decode b_Mt_takeList 26 = .ok (.iconst 5, 1) := by decide +kernel
theorem d_Mt_takeList_27 : decode b_Mt_takeList 27 = .ok (.iconst 3, 1) := by decide +kernel
theorem d_Mt_takeList_28 : decode b_Mt_takeList 28 = .ok (.iload_n 3, 1) := by decide +kernel
theorem d_Mt_takeList_29 : decode b_Mt_takeList 29 = .ok (.imul, 1) := by decide +kernel
theorem d_Mt_takeList_30 : decode b_Mt_takeList 30 = .ok (.iadd, 1) := by decide +kernel
theorem d_Mt_takeList_31 : decode b_Mt_takeList 31 = .ok (.istore 4, 2) := by decide +kernel
theorem d_Mt_takeList_33 : decode b_Mt_takeList 33 = .ok (.iload_n 3, 1) := by decide +kernel
theorem d_Mt_takeList_34 : decode b_Mt_takeList 34 = .ok (.iload_n 2, 1) := by decide +kernel
theorem d_Mt_takeList_35 : decode b_Mt_takeList 35 = .ok (.if_icmp .ge 10, 3) := by decide +kernel
theorem d_Mt_takeList_38 : decode b_Mt_takeList 38 = .ok (.aload_n 1, 1) := by decide +kernel
theorem d_Mt_takeList_39 : decode b_Mt_takeList 39 = .ok (.iload 4, 2) := by decide +kernel
theorem d_Mt_takeList_41 : decode b_Mt_takeList 41 = .ok (.iaload, 1) := by decide +kernel
theorem d_Mt_takeList_42 : decode b_Mt_takeList 42 = .ok (.goto 4, 3) := by decide +kernel
theorem d_Mt_takeList_45 : decode b_Mt_takeList 45 = .ok (.iconst 0, 1) := by decide +kernel
theorem d_Mt_takeList_46 : decode b_Mt_takeList 46 = .ok (.istore 5, 2) := by decide +kernel
theorem d_Mt_takeList_48 : decode b_Mt_takeList 48 = .ok (.iload_n 3, 1) := by decide +kernel
theorem d_Mt_takeList_49 : decode b_Mt_takeList 49 = .ok (.iload_n 2, 1) := by decide +kernel
theorem d_Mt_takeList_50 : decode b_Mt_takeList 50 = .ok (.if_icmp .ge 14, 3) := by decide +kernel
theorem d_Mt_takeList_53 : decode b_Mt_takeList 53 = .ok (.aload_n 1, 1) := by decide +kernel
theorem d_Mt_takeList_54 : decode b_Mt_takeList 54 = .ok (.iload 4, 2) := by decide +kernel
theorem d_Mt_takeList_56 : decode b_Mt_takeList 56 = .ok (.iconst 1, 1) := by decide +kernel
theorem d_Mt_takeList_57 : decode b_Mt_takeList 57 = .ok (.iadd, 1) := by decide +kernel
theorem d_Mt_takeList_58 : decode b_Mt_takeList 58 = .ok (.invokestatic 36, 3) := by decide +kernel
theorem d_Mt_takeList_61 : decode b_Mt_takeList 61 = .ok (.goto 4, 3) := by decide +kernel
theorem d_Mt_takeList_64 : decode b_Mt_takeList 64 = .ok (.iconst 0, 1) := by decide +kernel
theorem d_Mt_takeList_65 : decode b_Mt_takeList 65 = .ok (.istore 6, 2) := by decide +kernel
theorem d_Mt_takeList_67 : decode b_Mt_takeList 67 = .ok (.aload_n 0, 1) := by decide +kernel
theorem d_Mt_takeList_68 : decode b_Mt_takeList 68 = .ok (.getfield 19, 3) := by decide +kernel
theorem d_Mt_takeList_71 : decode b_Mt_takeList 71 = .ok (.iload_n 3, 1) := by decide +kernel
theorem d_Mt_takeList_72 : decode b_Mt_takeList 72 = .ok (.iaload, 1) := by decide +kernel
theorem d_Mt_takeList_73 : decode b_Mt_takeList 73 = .ok (.iload 5, 2) := by decide +kernel
theorem d_Mt_takeList_75 : decode b_Mt_takeList 75 = .ok (.if_icmp .ne 14, 3) := by decide +kernel
theorem d_Mt_takeList_78 : decode b_Mt_takeList 78 = .ok (.aload_n 0, 1) := by decide +kernel
theorem d_Mt_takeList_79 : decode b_Mt_takeList 79 = .ok (.getfield 23, 3) := by decide +kernel
theorem d_Mt_takeList_82 : decode b_Mt_takeList 82 = .ok (.iload_n 3, 1) := by decide +kernel
theorem d_Mt_takeList_83 : decode b_Mt_takeList 83 = .ok (.iaload, 1) := by decide +kernel
theorem d_Mt_takeList_84 : decode b_Mt_takeList 84 = .ok (.iload 6, 2) := by decide +kernel
theorem d_Mt_takeList_86 : decode b_Mt_takeList 86 = .ok (.if_icmp .eq 12, 3) := by decide +kernel
theorem d_Mt_takeList_89 : decode b_Mt_takeList 89 = .ok (.aload_n 0, 1) := by decide +kernel
theorem d_Mt_takeList_90 : decode b_Mt_takeList 90 = .ok (.iload_n 3, 1) := by decide +kernel
theorem d_Mt_takeList_91 : decode b_Mt_takeList 91 = .ok (.iload 5, 2) := by decide +kernel
theorem d_Mt_takeList_93 : decode b_Mt_takeList 93 = .ok (.iload 6, 2) := by decide +kernel
theorem d_Mt_takeList_95 : decode b_Mt_takeList 95 = .ok (.invokevirtual 32, 3) := by decide +kernel
theorem d_Mt_takeList_98 : decode b_Mt_takeList 98 = .ok (.iinc 3 1, 3) := by decide +kernel
theorem d_Mt_takeList_101 : decode b_Mt_takeList 101 = .ok (.goto (-81), 3) := by decide +kernel
theorem d_Mt_takeList_104 : decode b_Mt_takeList 104 = .ok (.return_, 1) := by decide +kernel
theorem d_Mt_takeBlock_0 : decode b_Mt_takeBlock 0 = .ok (.aload_n 1, 1) := by decide +kernel
theorem d_Mt_takeBlock_1 : decode b_Mt_takeBlock 1 = .ok (.iconst 2, 1) := by decide +kernel
theorem d_Mt_takeBlock_2 : decode b_Mt_takeBlock 2 = .ok (.iaload, 1) := by decide +kernel
theorem d_Mt_takeBlock_3 : decode b_Mt_takeBlock 3 = .ok (.istore_n 3, 1) := by decide +kernel
theorem d_Mt_takeBlock_4 : decode b_Mt_takeBlock 4 = .ok (.aload_n 1, 1) := by decide +kernel
theorem d_Mt_takeBlock_5 : decode b_Mt_takeBlock 5 = .ok (.iconst 5, 1) := by decide +kernel
theorem d_Mt_takeBlock_6 : decode b_Mt_takeBlock 6 = .ok (.iaload, 1) := by decide +kernel
theorem d_Mt_takeBlock_7 : decode b_Mt_takeBlock 7 = .ok (.istore 4, 2) := by decide +kernel
theorem d_Mt_takeBlock_9 : decode b_Mt_takeBlock 9 = .ok (.aload_n 0, 1) := by decide +kernel
theorem d_Mt_takeBlock_10 : decode b_Mt_takeBlock 10 = .ok (.iload_n 3, 1) := by decide +kernel
theorem d_Mt_takeBlock_11 : decode b_Mt_takeBlock 11 = .ok (.invokevirtual 40, 3) := by decide +kernel
theorem d_Mt_takeBlock_14 : decode b_Mt_takeBlock 14 = .ok (.ifCond .eq 17, 3) := by decide +kernel
theorem d_Mt_takeBlock_17 : decode b_Mt_takeBlock 17 = .ok (.aload_n 0, 1) := by decide +kernel
theorem d_Mt_takeBlock_18 : decode b_Mt_takeBlock 18 = .ok (.getfield 23, 3) := by decide +kernel
theorem d_Mt_takeBlock_21 : decode b_Mt_takeBlock 21 = .ok (.iload_n 3, 1) := by decide +kernel
theorem d_Mt_takeBlock_22 : decode b_Mt_takeBlock 22 = .ok (.iaload, 1) := by decide +kernel
theorem d_Mt_takeBlock_23 : decode b_Mt_takeBlock 23 = .ok (.aload_n 1, 1) := by decide +kernel
theorem d_Mt_takeBlock_24 : decode b_Mt_takeBlock 24 = .ok (.iconst 3, 1) := by decide +kernel
theorem d_Mt_takeBlock_25 : decode b_Mt_takeBlock 25 = .ok (.invokestatic 36, 3) := by decide +kernel
theorem d_Mt_takeBlock_28 : decode b_Mt_takeBlock 28 = .ok (.if_icmp .eq 5, 3) := by decide +kernel
theorem d_Mt_takeBlock_31 : decode b_Mt_takeBlock 31 = .ok (.iconst 0, 1) := by decide +kernel
theorem d_Mt_takeBlock_32 : decode b_Mt_takeBlock 32 = .ok (.ireturn, 1) := by decide +kernel
theorem d_Mt_takeBlock_33 : decode b_Mt_takeBlock 33 = .ok (.iload 4, 2) := by decide +kernel
theorem d_Mt_takeBlock_35 : decode b_Mt_takeBlock 35 = .ok (.aload_n 0, 1) := by decide +kernel
theorem d_Mt_takeBlock_36 : decode b_Mt_takeBlock 36 = .ok (.getfield 19, 3) := by decide +kernel
theorem d_Mt_takeBlock_39 : decode b_Mt_takeBlock 39 = .ok (.iload_n 3, 1) := by decide +kernel
theorem d_Mt_takeBlock_40 : decode b_Mt_takeBlock 40 = .ok (.iaload, 1) := by decide +kernel
theorem d_Mt_takeBlock_41 : decode b_Mt_takeBlock 41 = .ok (.invokestatic 44, 3) := by decide +kernel
theorem d_Mt_takeBlock_44 : decode b_Mt_takeBlock 44 = .ok (.if_icmp .ge 18, 3) := by decide +kernel
theorem d_Mt_takeBlock_47 : decode b_Mt_takeBlock 47 = .ok (.iload_n 2, 1) := by decide +kernel
theorem d_Mt_takeBlock_48 : decode b_Mt_takeBlock 48 = .ok (.aload_n 0, 1) := by decide +kernel
theorem d_Mt_takeBlock_49 : decode b_Mt_takeBlock 49 = .ok (.getfield 19, 3) := by decide +kernel
theorem d_Mt_takeBlock_52 : decode b_Mt_takeBlock 52 = .ok (.iload_n 3, 1) := by decide +kernel
theorem d_Mt_takeBlock_53 : decode b_Mt_takeBlock 53 = .ok (.iaload, 1) := by decide +kernel
theorem d_Mt_takeBlock_54 : decode b_Mt_takeBlock 54 = .ok (.iload 4, 2) := by decide +kernel
theorem d_Mt_takeBlock_56 : decode b_Mt_takeBlock 56 = .ok (.invokestatic 48, 3) := by decide +kernel
theorem d_Mt_takeBlock_59 : decode b_Mt_takeBlock 59 = .ok (.if_icmp .eq 5, 3) := by decide +kernel
theorem d_Mt_takeBlock_62 : decode b_Mt_takeBlock 62 = .ok (.iconst 0, 1) := by decide +kernel
theorem d_Mt_takeBlock_63 : decode b_Mt_takeBlock 63 = .ok (.ireturn, 1) := by decide +kernel
theorem d_Mt_takeBlock_64 : decode b_Mt_takeBlock 64 = .ok (.iload_n 3, 1) := by decide +kernel
theorem d_Mt_takeBlock_65 : decode b_Mt_takeBlock 65 = .ok (.bipush 48, 2) := by decide +kernel
theorem d_Mt_takeBlock_67 : decode b_Mt_takeBlock 67 = .ok (.imul, 1) := by decide +kernel
theorem d_Mt_takeBlock_68 : decode b_Mt_takeBlock 68 = .ok (.iload 4, 2) := by decide +kernel
theorem d_Mt_takeBlock_70 : decode b_Mt_takeBlock 70 = .ok (.bipush 8, 2) := by decide +kernel
theorem d_Mt_takeBlock_72 : decode b_Mt_takeBlock 72 = .ok (.imul, 1) := by decide +kernel
theorem d_Mt_takeBlock_73 : decode b_Mt_takeBlock 73 = .ok (.iadd, 1) := by decide +kernel
theorem d_Mt_takeBlock_74 : decode b_Mt_takeBlock 74 = .ok (.istore 5, 2) := by decide +kernel
theorem d_Mt_takeBlock_76 : decode b_Mt_takeBlock 76 = .ok (.aload_n 1, 1) := by decide +kernel
theorem d_Mt_takeBlock_77 : decode b_Mt_takeBlock 77 = .ok (.bipush 6, 2) := by decide +kernel
theorem d_Mt_takeBlock_79 : decode b_Mt_takeBlock 79 = .ok (.aload_n 0, 1) := by decide +kernel
theorem d_Mt_takeBlock_80 : decode b_Mt_takeBlock 80 = .ok (.getfield 29, 3) := by decide +kernel
theorem d_Mt_takeBlock_83 : decode b_Mt_takeBlock 83 = .ok (.iload 5, 2) := by decide +kernel
theorem d_Mt_takeBlock_85 : decode b_Mt_takeBlock 85 = .ok (.iload_n 2, 1) := by decide +kernel
theorem d_Mt_takeBlock_86 : decode b_Mt_takeBlock 86 = .ok (.invokestatic 52, 3) := by decide +kernel
theorem d_Mt_takeBlock_89 : decode b_Mt_takeBlock 89 = .ok (.aload_n 0, 1) := by decide +kernel
theorem d_Mt_takeBlock_90 : decode b_Mt_takeBlock 90 = .ok (.getfield 26, 3) := by decide +kernel
theorem d_Mt_takeBlock_93 : decode b_Mt_takeBlock 93 = .ok (.iload_n 3, 1) := by decide +kernel
theorem d_Mt_takeBlock_94 : decode b_Mt_takeBlock 94 = .ok (.dup2, 1) := by decide +kernel
theorem d_Mt_takeBlock_95 : decode b_Mt_takeBlock 95 = .ok (.iaload, 1) := by decide +kernel
theorem d_Mt_takeBlock_96 : decode b_Mt_takeBlock 96 = .ok (.iconst 1, 1) := by decide +kernel
theorem d_Mt_takeBlock_97 : decode b_Mt_takeBlock 97 = .ok (.iload 4, 2) := by decide +kernel
theorem d_Mt_takeBlock_99 : decode b_Mt_takeBlock 99 = .ok (.ishl, 1) := by decide +kernel
theorem d_Mt_takeBlock_100 : decode b_Mt_takeBlock 100 = .ok (.ior, 1) := by decide +kernel
theorem d_Mt_takeBlock_101 : decode b_Mt_takeBlock 101 = .ok (.iastore, 1) := by decide +kernel
theorem d_Mt_takeBlock_102 : decode b_Mt_takeBlock 102 = .ok (.iconst 1, 1) := by decide +kernel
theorem d_Mt_takeBlock_103 : decode b_Mt_takeBlock 103 = .ok (.ireturn, 1) := by decide +kernel
theorem d_Mt_isListed_0 : decode b_Mt_isListed 0 = .ok (.iload_n 1, 1) := by decide +kernel
theorem d_Mt_isListed_1 : decode b_Mt_isListed 1 = .ok (.ifCond .lt 22, 3) := by decide +kernel
theorem d_Mt_isListed_4 : decode b_Mt_isListed 4 = .ok (.iload_n 1, 1) := by decide +kernel
theorem d_Mt_isListed_5 : decode b_Mt_isListed 5 = .ok (.bipush 12, 2) := by decide +kernel
theorem d_Mt_isListed_7 : decode b_Mt_isListed 7 = .ok (.if_icmp .ge 16, 3) := by decide +kernel
theorem d_Mt_isListed_10 : decode b_Mt_isListed 10 = .ok (.aload_n 0, 1) := by decide +kernel
theorem d_Mt_isListed_11 : decode b_Mt_isListed 11 = .ok (.getfield 19, 3) := by decide +kernel
theorem d_Mt_isListed_14 : decode b_Mt_isListed 14 = .ok (.iload_n 1, 1) := by decide +kernel
theorem d_Mt_isListed_15 : decode b_Mt_isListed 15 = .ok (.iaload, 1) := by decide +kernel
theorem d_Mt_isListed_16 : decode b_Mt_isListed 16 = .ok (.ifCond .le 7, 3) := by decide +kernel
theorem d_Mt_isListed_19 : decode b_Mt_isListed 19 = .ok (.iconst 1, 1) := by decide +kernel
theorem d_Mt_isListed_20 : decode b_Mt_isListed 20 = .ok (.goto 4, 3) := by decide +kernel
theorem d_Mt_isListed_23 : decode b_Mt_isListed 23 = .ok (.iconst 0, 1) := by decide +kernel
theorem d_Mt_isListed_24 : decode b_Mt_isListed 24 = .ok (.ireturn, 1) := by decide +kernel
theorem d_Mt_blocksHeld_0 : decode b_Mt_blocksHeld 0 = .ok (.aload_n 0, 1) := by decide +kernel
theorem d_Mt_blocksHeld_1 : decode b_Mt_blocksHeld 1 = .ok (.getfield 26, 3) := by decide +kernel
theorem d_Mt_blocksHeld_4 : decode b_Mt_blocksHeld 4 = .ok (.iload_n 1, 1) := by decide +kernel
theorem d_Mt_blocksHeld_5 : decode b_Mt_blocksHeld 5 = .ok (.iaload, 1) := by decide +kernel
theorem d_Mt_blocksHeld_6 : decode b_Mt_blocksHeld 6 = .ok (.invokestatic 58, 3) := by decide +kernel
theorem d_Mt_blocksHeld_9 : decode b_Mt_blocksHeld 9 = .ok (.ireturn, 1) := by decide +kernel
theorem d_Mt_obstacle_0 : decode b_Mt_obstacle 0 = .ok (.aload_n 0, 1) := by decide +kernel
theorem d_Mt_obstacle_1 : decode b_Mt_obstacle 1 = .ok (.getfield 9, 3) := by decide +kernel
theorem d_Mt_obstacle_4 : decode b_Mt_obstacle 4 = .ok (.ifCond .ne 6, 3) := by decide +kernel
theorem d_Mt_obstacle_7 : decode b_Mt_obstacle 7 = .ok (.bipush (-6), 2) := by decide +kernel
theorem d_Mt_obstacle_9 : decode b_Mt_obstacle 9 = .ok (.ireturn, 1) := by decide +kernel
theorem d_Mt_obstacle_10 : decode b_Mt_obstacle 10 = .ok (.aload_n 0, 1) := by decide +kernel
theorem d_Mt_obstacle_11 : decode b_Mt_obstacle 11 = .ok (.iload_n 1, 1) := by decide +kernel
theorem d_Mt_obstacle_12 : decode b_Mt_obstacle 12 = .ok (.invokevirtual 40, 3) := by decide +kernel
theorem d_Mt_obstacle_15 : decode b_Mt_obstacle 15 = .ok (.ifCond .ne 6, 3) := by decide +kernel
theorem d_Mt_obstacle_18 : decode b_Mt_obstacle 18 = .ok (.bipush (-2), 2) := by decide +kernel
theorem d_Mt_obstacle_20 : decode b_Mt_obstacle 20 = .ok (.ireturn, 1) := by decide +kernel
theorem d_Mt_obstacle_21 : decode b_Mt_obstacle 21 = .ok (.aload_n 0, 1) := by decide +kernel
theorem d_Mt_obstacle_22 : decode b_Mt_obstacle 22 = .ok (.iload_n 1, 1) := by decide +kernel
theorem d_Mt_obstacle_23 : decode b_Mt_obstacle 23 = .ok (.invokevirtual 63, 3) := by decide +kernel
theorem d_Mt_obstacle_26 : decode b_Mt_obstacle 26 = .ok (.aload_n 0, 1) := by decide +kernel
theorem d_Mt_obstacle_27 : decode b_Mt_obstacle 27 = .ok (.getfield 19, 3) := by decide +kernel
theorem d_Mt_obstacle_30 : decode b_Mt_obstacle 30 = .ok (.iload_n 1, 1) := by decide +kernel
theorem d_Mt_obstacle_31 : decode b_Mt_obstacle 31 = .ok (.iaload, 1) := by decide +kernel
theorem d_Mt_obstacle_32 : decode b_Mt_obstacle 32 = .ok (.invokestatic 44, 3) := by decide +kernel
theorem d_Mt_obstacle_35 : decode b_Mt_obstacle 35 = .ok (.if_icmp .ne 7, 3) := by decide +kernel
theorem d_Mt_obstacle_38 : decode b_Mt_obstacle 38 = .ok (.iconst 0, 1) := by decide +kernel
theorem d_Mt_obstacle_39 : decode b_Mt_obstacle 39 = .ok (.goto 5, 3) := by decide +kernel
theorem d_Mt_obstacle_42 : decode b_Mt_obstacle 42 = .ok (.bipush (-6), 2) := by decide +kernel
theorem d_Mt_obstacle_44 : decode b_Mt_obstacle 44 = .ok (.ireturn, 1) := by decide +kernel
theorem d_Mt_gateway_0 : decode b_Mt_gateway 0 = .ok (.aload_n 0, 1) := by decide +kernel
theorem d_Mt_gateway_1 : decode b_Mt_gateway 1 = .ok (.iconst 0, 1) := by decide +kernel
theorem d_Mt_gateway_2 : decode b_Mt_gateway 2 = .ok (.invokevirtual 66, 3) := by decide +kernel
theorem d_Mt_gateway_5 : decode b_Mt_gateway 5 = .ok (.istore_n 1, 1) := by decide +kernel
theorem d_Mt_gateway_6 : decode b_Mt_gateway 6 = .ok (.iload_n 1, 1) := by decide +kernel
theorem d_Mt_gateway_7 : decode b_Mt_gateway 7 = .ok (.ifCond .ge 5, 3) := by decide +kernel
theorem d_Mt_gateway_10 : decode b_Mt_gateway 10 = .ok (.iload_n 1, 1) := by decide +kernel
theorem d_Mt_gateway_11 : decode b_Mt_gateway 11 = .ok (.ireturn, 1) := by decide +kernel
theorem d_Mt_gateway_12 : decode b_Mt_gateway 12 = .ok (.aload_n 0, 1) := by decide +kernel
theorem d_Mt_gateway_13 : decode b_Mt_gateway 13 = .ok (.iconst 0, 1) := by decide +kernel
theorem d_Mt_gateway_14 : decode b_Mt_gateway 14 = .ok (.aload_n 0, 1) := by decide +kernel
theorem d_Mt_gateway_15 : decode b_Mt_gateway 15 = .ok (.getfield 19, 3) := by decide +kernel
theorem d_Mt_gateway_18 : decode b_Mt_gateway 18 = .ok (.iconst 0, 1) := by decide +kernel
theorem d_Mt_gateway_19 : decode b_Mt_gateway 19 = .ok (.iaload, 1) := by decide +kernel
theorem d_Mt_gateway_20 : decode b_Mt_gateway 20 = .ok (.invokevirtual 69, 3) := by decide +kernel
theorem d_Mt_gateway_23 : decode b_Mt_gateway 23 = .ok (.ifCond .eq 16, 3) := by decide +kernel
theorem d_Mt_gateway_26 : decode b_Mt_gateway 26 = .ok (.aload_n 0, 1) := by decide +kernel
theorem d_Mt_gateway_27 : decode b_Mt_gateway 27 = .ok (.iconst 0, 1) := by decide +kernel
theorem d_Mt_gateway_28 : decode b_Mt_gateway 28 = .ok (.invokevirtual 73, 3) := by decide +kernel
theorem d_Mt_gateway_31 : decode b_Mt_gateway 31 = .ok (.iconst 1, 1) := by decide +kernel
theorem d_Mt_gateway_32 : decode b_Mt_gateway 32 = .ok (.if_icmp .ne 7, 3) := by decide +kernel
theorem d_Mt_gateway_35 : decode b_Mt_gateway 35 = .ok (.iconst 0, 1) := by decide +kernel
theorem d_Mt_gateway_36 : decode b_Mt_gateway 36 = .ok (.goto 5, 3) := by decide +kernel
theorem d_Mt_gateway_39 : decode b_Mt_gateway 39 = .ok (.bipush (-2), 2) := by decide +kernel
theorem d_Mt_gateway_41 : decode b_Mt_gateway 41 = .ok (.ireturn, 1) := by decide +kernel
theorem d_Mt_enter_0 : decode b_Mt_enter 0 = .ok (.aload_n 0, 1) := by decide +kernel
theorem d_Mt_enter_1 : decode b_Mt_enter 1 = .ok (.iload_n 1, 1) := by decide +kernel
theorem d_Mt_enter_2 : decode b_Mt_enter 2 = .ok (.invokevirtual 76, 3) := by decide +kernel
theorem d_Mt_enter_5 : decode b_Mt_enter 5 = .ok (.ifCond .ne 6, 3) := by decide +kernel
theorem d_Mt_enter_8 : decode b_Mt_enter 8 = .ok (.bipush (-2), 2) := by decide +kernel
theorem d_Mt_enter_10 : decode b_Mt_enter 10 = .ok (.ireturn, 1) := by decide +kernel
theorem d_Mt_enter_11 : decode b_Mt_enter 11 = .ok (.aload_n 0, 1) := by decide +kernel
theorem d_Mt_enter_12 : decode b_Mt_enter 12 = .ok (.iload_n 1, 1) := by decide +kernel
theorem d_Mt_enter_13 : decode b_Mt_enter 13 = .ok (.invokevirtual 79, 3) := by decide +kernel
theorem d_Mt_enter_16 : decode b_Mt_enter 16 = .ok (.iconst 4, 1) := by decide +kernel
theorem d_Mt_enter_17 : decode b_Mt_enter 17 = .ok (.idiv, 1) := by decide +kernel
theorem d_Mt_enter_18 : decode b_Mt_enter 18 = .ok (.istore_n 3, 1) := by decide +kernel
theorem d_Mt_enter_19 : decode b_Mt_enter 19 = .ok (.iconst 0, 1) := by decide +kernel
theorem d_Mt_enter_20 : decode b_Mt_enter 20 = .ok (.istore 4, 2) := by decide +kernel
theorem d_Mt_enter_22 : decode b_Mt_enter 22 = .ok (.iload 4, 2) := by decide +kernel
theorem d_Mt_enter_24 : decode b_Mt_enter 24 = .ok (.iload_n 3, 1) := by decide +kernel
theorem d_Mt_enter_25 : decode b_Mt_enter 25 = .ok (.if_icmp .ge 53, 3) := by decide +kernel
theorem d_Mt_enter_28 : decode b_Mt_enter 28 = .ok (.iload_n 1, 1) := by decide +kernel
theorem d_Mt_enter_29 : decode b_Mt_enter 29 = .ok (.iconst 3, 1) := by decide +kernel
theorem d_Mt_enter_30 : decode b_Mt_enter 30 = .ok (.iadd, 1) := by decide +kernel
theorem d_Mt_enter_31 : decode b_Mt_enter 31 = .ok (.iconst 4, 1) := by decide +kernel
theorem d_Mt_enter_32 : decode b_Mt_enter 32 = .ok (.iload 4, 2) := by decide +kernel
theorem d_Mt_enter_34 : decode b_Mt_enter 34 = .ok (.imul, 1) := by decide +kernel
theorem d_Mt_enter_35 : decode b_Mt_enter 35 = .ok (.iadd, 1) := by decide +kernel
theorem d_Mt_enter_36 : decode b_Mt_enter 36 = .ok (.istore 5, 2) := by decide +kernel
theorem d_Mt_enter_38 : decode b_Mt_enter 38 = .ok (.aload_n 0, 1) := by decide +kernel
theorem d_Mt_enter_39 : decode b_Mt_enter 39 = .ok (.getfield 29, 3) := by decide +kernel
theorem d_Mt_enter_42 : decode b_Mt_enter 42 = .ok (.iload 5, 2) := by decide +kernel
theorem d_Mt_enter_44 : decode b_Mt_enter 44 = .ok (.iaload, 1) := by decide +kernel
theorem d_Mt_enter_45 : decode b_Mt_enter 45 = .ok (.iload_n 2, 1) := by decide +kernel
theorem d_Mt_enter_46 : decode b_Mt_enter 46 = .ok (.if_icmp .ne 26, 3) := by decide +kernel
theorem d_Mt_enter_49 : decode b_Mt_enter 49 = .ok (.aload_n 0, 1) := by decide +kernel
theorem d_Mt_enter_50 : decode b_Mt_enter 50 = .ok (.aload_n 0, 1) := by decide +kernel
theorem d_Mt_enter_51 : decode b_Mt_enter 51 = .ok (.getfield 29, 3) := by decide +kernel
theorem d_Mt_enter_54 : decode b_Mt_enter 54 = .ok (.iload 5, 2) := by decide +kernel
theorem d_Mt_enter_56 : decode b_Mt_enter 56 = .ok (.iconst 2, 1) := by decide +kernel
theorem d_Mt_enter_57 : decode b_Mt_enter 57 = .ok (.iadd, 1) := by decide +kernel
theorem d_Mt_enter_58 : decode b_Mt_enter 58 = .ok (.iaload, 1) := by decide +kernel
theorem d_Mt_enter_59 : decode b_Mt_enter 59 = .ok (.aload_n 0, 1) := by decide +kernel
theorem d_Mt_enter_60 : decode b_Mt_enter 60 = .ok (.getfield 29, 3) := by decide +kernel
theorem d_Mt_enter_63 : decode b_Mt_enter 63 = .ok (.iload 5, 2) := by decide +kernel
theorem d_Mt_enter_65 : decode b_Mt_enter 65 = .ok (.iconst 3, 1) := by decide +kernel
theorem d_Mt_enter_66 : decode b_Mt_enter 66 = .ok (.iadd, 1) := by decide +kernel
theorem d_Mt_enter_67 : decode b_Mt_enter 67 = .ok (.iaload, 1) := by decide +kernel
theorem d_Mt_enter_68 : decode b_Mt_enter 68 = .ok (.invokevirtual 82, 3) := by decide +kernel
theorem d_Mt_enter_71 : decode b_Mt_enter 71 = .ok (.ireturn, 1) := by decide +kernel
theorem d_Mt_enter_72 : decode b_Mt_enter 72 = .ok (.iinc 4 1, 3) := by decide +kernel
theorem d_Mt_enter_75 : decode b_Mt_enter 75 = .ok (.goto (-53), 3) := by decide +kernel
theorem d_Mt_enter_78 : decode b_Mt_enter 78 = .ok (.bipush (-2), 2) := by decide +kernel
theorem d_Mt_enter_80 : decode b_Mt_enter 80 = .ok (.ireturn, 1) := by decide +kernel
theorem d_Mt_messageWithKey_0 : decode b_Mt_messageWithKey 0 = .ok (.aload_n 0, 1) := by decide +kernel
theorem d_Mt_messageWithKey_1 : decode b_Mt_messageWithKey 1 = .ok (.iload_n 1, 1) := by decide +kernel
theorem d_Mt_messageWithKey_2 : decode b_Mt_messageWithKey 2 = .ok (.invokevirtual 66, 3) := by decide +kernel
theorem d_Mt_messageWithKey_5 : decode b_Mt_messageWithKey 5 = .ok (.istore_n 3, 1) := by decide +kernel
theorem d_Mt_messageWithKey_6 : decode b_Mt_messageWithKey 6 = .ok (.iload_n 3, 1) := by decide +kernel
theorem d_Mt_messageWithKey_7 : decode b_Mt_messageWithKey 7 = .ok (.ifCond .ge 5, 3) := by decide +kernel
theorem d_Mt_messageWithKey_10 : decode b_Mt_messageWithKey 10 = .ok (.iload_n 3, 1) := by decide +kernel
theorem d_Mt_messageWithKey_11 : decode b_Mt_messageWithKey 11 = .ok (.ireturn, 1) := by decide +kernel
theorem d_Mt_messageWithKey_12 : decode b_Mt_messageWithKey 12 = .ok (.iload_n 1, 1) := by decide +kernel
theorem d_Mt_messageWithKey_13 : decode b_Mt_messageWithKey 13 = .ok (.bipush 48, 2) := by decide +kernel
theorem d_Mt_messageWithKey_15 : decode b_Mt_messageWithKey 15 = .ok (.imul, 1) := by decide +kernel
theorem d_Mt_messageWithKey_16 : decode b_Mt_messageWithKey 16 = .ok (.istore 4, 2) := by decide +kernel
theorem d_Mt_messageWithKey_18 : decode b_Mt_messageWithKey 18 = .ok (.iload 4, 2) := by decide +kernel
theorem d_Mt_messageWithKey_20 : decode b_Mt_messageWithKey 20 = .ok (.aload_n 0, 1) := by decide +kernel
theorem d_Mt_messageWithKey_21 : decode b_Mt_messageWithKey 21 = .ok (.getfield 19, 3) := by decide +kernel
theorem d_Mt_messageWithKey_24 : decode b_Mt_messageWithKey 24 = .ok (.iload_n 1, 1) := by decide +kernel
theorem d_Mt_messageWithKey_25 : decode b_Mt_messageWithKey 25 = .ok (.iaload, 1) := by decide +kernel
theorem d_Mt_messageWithKey_26 : decode b_Mt_messageWithKey 26 = .ok (.iadd, 1) := by decide +kernel
theorem d_Mt_messageWithKey_27 : decode b_Mt_messageWithKey 27 = .ok (.istore 5, 2) := by decide +kernel
theorem d_Mt_messageWithKey_29 : decode b_Mt_messageWithKey 29 = .ok (.iconst 0, 1) := by decide +kernel
theorem d_Mt_messageWithKey_30 : decode b_Mt_messageWithKey 30 = .ok (.istore 6, 2) := by decide +kernel
theorem d_Mt_messageWithKey_32 : decode b_Mt_messageWithKey 32 = .ok (.iload 6, 2) := by decide +kernel
theorem d_Mt_messageWithKey_34 : decode b_Mt_messageWithKey 34 = .ok (.bipush 48, 2) := by decide +kernel
theorem d_Mt_messageWithKey_36 : decode b_Mt_messageWithKey 36 = .ok (.if_icmp .ge 49, 3) := by decide +kernel
theorem d_Mt_messageWithKey_39 : decode b_Mt_messageWithKey 39 = .ok (.aload_n 0, 1) := by decide +kernel
theorem d_Mt_messageWithKey_40 : decode b_Mt_messageWithKey 40 = .ok (.iload 4, 2) := by decide +kernel
theorem d_Mt_messageWithKey_42 : decode b_Mt_messageWithKey 42 = .ok (.iload 5, 2) := by decide +kernel
theorem d_Mt_messageWithKey_44 : decode b_Mt_messageWithKey 44 = .ok (.invokevirtual 69, 3) := by decide +kernel
theorem d_Mt_messageWithKey_47 : decode b_Mt_messageWithKey 47 = .ok (.ifCond .eq 38, 3) := by decide +kernel
theorem d_Mt_messageWithKey_50 : decode b_Mt_messageWithKey 50 = .ok (.aload_n 0, 1) := by decide +kernel
theorem d_Mt_messageWithKey_51 : decode b_Mt_messageWithKey 51 = .ok (.getfield 29, 3) := by decide +kernel
theorem d_Mt_messageWithKey_54 : decode b_Mt_messageWithKey 54 = .ok (.iload 4, 2) := by decide +kernel
theorem d_Mt_messageWithKey_56 : decode b_Mt_messageWithKey 56 = .ok (.iconst 1, 1) := by decide +kernel
theorem d_Mt_messageWithKey_57 : decode b_Mt_messageWithKey 57 = .ok (.iadd, 1) := by decide +kernel
theorem d_Mt_messageWithKey_58 : decode b_Mt_messageWithKey 58 = .ok (.iaload, 1) := by decide +kernel
theorem d_Mt_messageWithKey_59 : decode b_Mt_messageWithKey 59 = .ok (.iload_n 2, 1) := by decide +kernel
theorem d_Mt_messageWithKey_60 : decode b_Mt_messageWithKey 60 = .ok (.if_icmp .ne 6, 3) := by decide +kernel
theorem d_Mt_messageWithKey_63 : decode b_Mt_messageWithKey 63 = .ok (.iload 4, 2) := by decide +kernel
theorem d_Mt_messageWithKey_65 : decode b_Mt_messageWithKey 65 = .ok (.ireturn, 1) := by decide +kernel
theorem d_Mt_messageWithKey_66 : decode b_Mt_messageWithKey 66 = .ok (.iload 4, 2) := by decide +kernel
theorem d_Mt_messageWithKey_68 : decode b_Mt_messageWithKey 68 = .ok (.iconst 3, 1) := by decide +kernel
theorem d_Mt_messageWithKey_69 : decode b_Mt_messageWithKey 69 = .ok (.aload_n 0, 1) := by decide +kernel
theorem d_Mt_messageWithKey_70 : decode b_Mt_messageWithKey 70 = .ok (.iload 4, 2) := by decide +kernel
theorem d_Mt_messageWithKey_72 : decode b_Mt_messageWithKey 72 = .ok (.invokevirtual 79, 3) := by decide +kernel
theorem d_Mt_messageWithKey_75 : decode b_Mt_messageWithKey 75 = .ok (.iadd, 1) := by decide +kernel
theorem d_Mt_messageWithKey_76 : decode b_Mt_messageWithKey 76 = .ok (.iadd, 1) := by decide +kernel
theorem d_Mt_messageWithKey_77 : decode b_Mt_messageWithKey 77 = .ok (.istore 4, 2) := by decide +kernel
theorem d_Mt_messageWithKey_79 : decode b_Mt_messageWithKey 79 = .ok (.iinc 6 1, 3) := by decide +kernel
theorem d_Mt_messageWithKey_82 : decode b_Mt_messageWithKey 82 = .ok (.goto (-50), 3) := by decide +kernel
theorem d_Mt_messageWithKey_85 : decode b_Mt_messageWithKey 85 = .ok (.bipush (-2), 2) := by decide +kernel
theorem d_Mt_messageWithKey_87 : decode b_Mt_messageWithKey 87 = .ok (.ireturn, 1) := by decide +kernel
theorem d_Mt_fits_0 : decode b_Mt_fits 0 = .ok (.iload_n 1, 1) := by decide +kernel
theorem d_Mt_fits_1 : decode b_Mt_fits 1 = .ok (.iconst 3, 1) := by decide +kernel
theorem d_Mt_fits_2 : decode b_Mt_fits 2 = .ok (.iadd, 1) := by decide +kernel
theorem d_Mt_fits_3 : decode b_Mt_fits 3 = .ok (.iload_n 2, 1) := by decide +kernel
theorem d_Mt_fits_4 : decode b_Mt_fits 4 = .ok (.if_icmp .gt 20, 3) := by decide +kernel
theorem d_Mt_fits_7 : decode b_Mt_fits 7 = .ok (.iload_n 1, 1) := by decide +kernel
theorem d_Mt_fits_8 : decode b_Mt_fits 8 = .ok (.iconst 3, 1) := by decide +kernel
theorem d_Mt_fits_9 : decode b_Mt_fits 9 = .ok (.iadd, 1) := by decide +kernel
theorem d_Mt_fits_10 : decode b_Mt_fits 10 = .ok (.aload_n 0, 1) := by decide +kernel
theorem d_Mt_fits_11 : decode b_Mt_fits 11 = .ok (.iload_n 1, 1) := by decide +kernel
theorem d_Mt_fits_12 : decode b_Mt_fits 12 = .ok (.invokevirtual 79, 3) := by decide +kernel
theorem d_Mt_fits_15 : decode b_Mt_fits 15 = .ok (.iadd, 1) := by decide +kernel
theorem d_Mt_fits_16 : decode b_Mt_fits 16 = .ok (.iload_n 2, 1) := by decide +kernel
theorem d_Mt_fits_17 : decode b_Mt_fits 17 = .ok (.if_icmp .gt 7, 3) := by decide +kernel
theorem d_Mt_fits_20 : decode b_Mt_fits 20 = .ok (.iconst 1, 1) := by decide +kernel
theorem d_Mt_fits_21 : decode b_Mt_fits 21 = .ok (.goto 4, 3) := by decide +kernel
theorem d_Mt_fits_24 : decode b_Mt_fits 24 = .ok (.iconst 0, 1) := by decide +kernel
theorem d_Mt_fits_25 : decode b_Mt_fits 25 = .ok (.ireturn, 1) := by decide +kernel
theorem d_Mt_isDirectoryAt_0 : decode b_Mt_isDirectoryAt 0 = .ok (.aload_n 0, 1) := by decide +kernel
theorem d_Mt_isDirectoryAt_1 : decode b_Mt_isDirectoryAt 1 = .ok (.iload_n 1, 1) := by decide +kernel
theorem d_Mt_isDirectoryAt_2 : decode b_Mt_isDirectoryAt 2 = .ok (.invokevirtual 73, 3) := by decide +kernel
theorem d_Mt_isDirectoryAt_5 : decode b_Mt_isDirectoryAt 5 = .ok (.iconst 1, 1) := by decide +kernel
theorem d_Mt_isDirectoryAt_6 : decode b_Mt_isDirectoryAt 6 = .ok (.if_icmp .eq 12, 3) := by decide +kernel
theorem d_Mt_isDirectoryAt_9 : decode b_Mt_isDirectoryAt 9 = .ok (.aload_n 0, 1) := by decide +kernel
theorem d_Mt_isDirectoryAt_10 : decode b_Mt_isDirectoryAt 10 = .ok (.iload_n 1, 1) := by decide +kernel
theorem d_Mt_isDirectoryAt_11 : decode b_Mt_isDirectoryAt 11 = .ok (.invokevirtual 73, 3) := by decide +kernel
theorem d_Mt_isDirectoryAt_14 : decode b_Mt_isDirectoryAt 14 = .ok (.iconst 2, 1) := by decide +kernel
theorem d_Mt_isDirectoryAt_15 : decode b_Mt_isDirectoryAt 15 = .ok (.if_icmp .ne 7, 3) := by decide +kernel
theorem d_Mt_isDirectoryAt_18 : decode b_Mt_isDirectoryAt 18 = .ok (.iconst 1, 1) := by decide +kernel
theorem d_Mt_isDirectoryAt_19 : decode b_Mt_isDirectoryAt 19 = .ok (.goto 4, 3) := by decide +kernel
theorem d_Mt_isDirectoryAt_22 : decode b_Mt_isDirectoryAt 22 = .ok (.iconst 0, 1) := by decide +kernel
theorem d_Mt_isDirectoryAt_23 : decode b_Mt_isDirectoryAt 23 = .ok (.ireturn, 1) := by decide +kernel
theorem d_Mt_kindAt_0 : decode b_Mt_kindAt 0 = .ok (.aload_n 0, 1) := by decide +kernel
theorem d_Mt_kindAt_1 : decode b_Mt_kindAt 1 = .ok (.getfield 29, 3) := by decide +kernel
theorem d_Mt_kindAt_4 : decode b_Mt_kindAt 4 = .ok (.iload_n 1, 1) := by decide +kernel
theorem d_Mt_kindAt_5 : decode b_Mt_kindAt 5 = .ok (.iaload, 1) := by decide +kernel
theorem d_Mt_kindAt_6 : decode b_Mt_kindAt 6 = .ok (.ireturn, 1) := by decide +kernel
theorem d_Mt_lengthAt_0 : decode b_Mt_lengthAt 0 = .ok (.aload_n 0, 1) := by decide +kernel
theorem d_Mt_lengthAt_1 : decode b_Mt_lengthAt 1 = .ok (.getfield 29, 3) := by decide +kernel
theorem d_Mt_lengthAt_4 : decode b_Mt_lengthAt 4 = .ok (.iload_n 1, 1) := by decide +kernel
theorem d_Mt_lengthAt_5 : decode b_Mt_lengthAt 5 = .ok (.iconst 2, 1) := by decide +kernel
theorem d_Mt_lengthAt_6 : decode b_Mt_lengthAt 6 = .ok (.iadd, 1) := by decide +kernel
theorem d_Mt_lengthAt_7 : decode b_Mt_lengthAt 7 = .ok (.iaload, 1) := by decide +kernel
theorem d_Mt_lengthAt_8 : decode b_Mt_lengthAt 8 = .ok (.ireturn, 1) := by decide +kernel
theorem d_Mt_contentAt_0 : decode b_Mt_contentAt 0 = .ok (.aload_n 0, 1) := by decide +kernel
theorem d_Mt_contentAt_1 : decode b_Mt_contentAt 1 = .ok (.getfield 29, 3) := by decide +kernel
theorem d_Mt_contentAt_4 : decode b_Mt_contentAt 4 = .ok (.iload_n 1, 1) := by decide +kernel
theorem d_Mt_contentAt_5 : decode b_Mt_contentAt 5 = .ok (.iconst 3, 1) := by decide +kernel
theorem d_Mt_contentAt_6 : decode b_Mt_contentAt 6 = .ok (.iadd, 1) := by decide +kernel
theorem d_Mt_contentAt_7 : decode b_Mt_contentAt 7 = .ok (.iload_n 2, 1) := by decide +kernel
theorem d_Mt_contentAt_8 : decode b_Mt_contentAt 8 = .ok (.iadd, 1) := by decide +kernel
theorem d_Mt_contentAt_9 : decode b_Mt_contentAt 9 = .ok (.iaload, 1) := by decide +kernel
theorem d_Mt_contentAt_10 : decode b_Mt_contentAt 10 = .ok (.ireturn, 1) := by decide +kernel
theorem d_Rc_init_0 : decode b_Rc_init 0 = .ok (.aload_n 0, 1) := by decide +kernel
theorem d_Rc_init_1 : decode b_Rc_init 1 = .ok (.invokespecial 3, 3) := by decide +kernel
theorem d_Rc_init_4 : decode b_Rc_init 4 = .ok (.aload_n 0, 1) := by decide +kernel
theorem d_Rc_init_5 : decode b_Rc_init 5 = .ok (.new 9, 3) := by decide +kernel
theorem d_Rc_init_8 : decode b_Rc_init 8 = .ok (.dup, 1) := by decide +kernel
theorem d_Rc_init_9 : decode b_Rc_init 9 = .ok (.invokespecial 11, 3) := by decide +kernel
theorem d_Rc_init_12 : decode b_Rc_init 12 = .ok (.putfield 12, 3) := by decide +kernel
theorem d_Rc_init_15 : decode b_Rc_init 15 = .ok (.aload_n 0, 1) := by decide +kernel
theorem d_Rc_init_16 : decode b_Rc_init 16 = .ok (.bipush 6, 2) := by decide +kernel
theorem d_Rc_init_18 : decode b_Rc_init 18 = .ok (.newarray .int, 2) := by decide +kernel
theorem d_Rc_init_20 : decode b_Rc_init 20 = .ok (.putfield 18, 3) := by decide +kernel
theorem d_Rc_init_23 : decode b_Rc_init 23 = .ok (.aload_n 0, 1) := by decide +kernel
theorem d_Rc_init_24 : decode b_Rc_init 24 = .ok (.sipush 257, 3) := by decide +kernel
theorem d_Rc_init_27 : decode b_Rc_init 27 = .ok (.newarray .int, 2) := by decide +kernel
theorem d_Rc_init_29 : decode b_Rc_init 29 = .ok (.putfield 22, 3) := by decide +kernel
theorem d_Rc_init_32 : decode b_Rc_init 32 = .ok (.aload_n 0, 1) := by decide +kernel
theorem d_Rc_init_33 : decode b_Rc_init 33 = .ok (.iconst 0, 1) := by decide +kernel
theorem d_Rc_init_34 : decode b_Rc_init 34 = .ok (.putfield 25, 3) := by decide +kernel
theorem d_Rc_init_37 : decode b_Rc_init 37 = .ok (.aload_n 0, 1) := by decide +kernel
theorem d_Rc_init_38 : decode b_Rc_init 38 = .ok (.iconst (-1), 1) := by decide +kernel
theorem d_Rc_init_39 : decode b_Rc_init 39 = .ok (.putfield 29, 3) := by decide +kernel
theorem d_Rc_init_42 : decode b_Rc_init 42 = .ok (.return_, 1) := by decide +kernel
theorem d_Rc_reset_0 : decode b_Rc_reset 0 = .ok (.aload_n 0, 1) := by decide +kernel
theorem d_Rc_reset_1 : decode b_Rc_reset 1 = .ok (.getfield 12, 3) := by decide +kernel
theorem d_Rc_reset_4 : decode b_Rc_reset 4 = .ok (.invokevirtual 32, 3) := by decide +kernel
theorem d_Rc_reset_7 : decode b_Rc_reset 7 = .ok (.aload_n 0, 1) := by decide +kernel
theorem d_Rc_reset_8 : decode b_Rc_reset 8 = .ok (.getfield 18, 3) := by decide +kernel
theorem d_Rc_reset_11 : decode b_Rc_reset 11 = .ok (.iconst 0, 1) := by decide +kernel
theorem d_Rc_reset_12 : decode b_Rc_reset 12 = .ok (.invokestatic 35, 3) := by decide +kernel
theorem d_Rc_reset_15 : decode b_Rc_reset 15 = .ok (.aload_n 0, 1) := by decide +kernel
theorem d_Rc_reset_16 : decode b_Rc_reset 16 = .ok (.iconst 0, 1) := by decide +kernel
theorem d_Rc_reset_17 : decode b_Rc_reset 17 = .ok (.putfield 25, 3) := by decide +kernel
theorem d_Rc_reset_20 : decode b_Rc_reset 20 = .ok (.aload_n 0, 1) := by decide +kernel
theorem d_Rc_reset_21 : decode b_Rc_reset 21 = .ok (.iconst (-1), 1) := by decide +kernel
theorem d_Rc_reset_22 : decode b_Rc_reset 22 = .ok (.putfield 29, 3) := by decide +kernel
theorem d_Rc_reset_25 : decode b_Rc_reset 25 = .ok (.return_, 1) := by decide +kernel
theorem d_Rc_takePacket_0 : decode b_Rc_takePacket 0 = .ok (.aload_n 1, 1) := by decide +kernel
theorem d_Rc_takePacket_1 : decode b_Rc_takePacket 1 = .ok (.iconst 1, 1) := by decide +kernel
theorem d_Rc_takePacket_2 : decode b_Rc_takePacket 2 = .ok (.iaload, 1) := by decide +kernel
theorem d_Rc_takePacket_3 : decode b_Rc_takePacket 3 = .ok (.istore_n 2, 1) := by decide +kernel
theorem d_Rc_takePacket_4 : decode b_Rc_takePacket 4 = .ok (.aload_n 1, 1) := by decide +kernel
theorem d_Rc_takePacket_5 : decode b_Rc_takePacket 5 = .ok (.iconst 0, 1) := by decide +kernel
theorem d_Rc_takePacket_6 : decode b_Rc_takePacket 6 = .ok (.iaload, 1) := by decide +kernel
theorem d_Rc_takePacket_7 : decode b_Rc_takePacket 7 = .ok (.bipush 71, 2) := by decide +kernel
theorem d_Rc_takePacket_9 : decode b_Rc_takePacket 9 = .ok (.if_icmp .ne 11, 3) := by decide +kernel
theorem d_Rc_takePacket_12 : decode b_Rc_takePacket 12 = .ok (.iload_n 2, 1) := by decide +kernel
theorem d_Rc_takePacket_13 : decode b_Rc_takePacket 13 = .ok (.sipush 176, 3) := by decide +kernel
theorem d_Rc_takePacket_16 : decode b_Rc_takePacket 16 = .ok (.iand, 1) := by decide +kernel
theorem d_Rc_takePacket_17 : decode b_Rc_takePacket 17 = .ok (.ifCond .eq 14, 3) := by decide +kernel
theorem d_Rc_takePacket_20 : decode b_Rc_takePacket 20 = .ok (.aload_n 0, 1) := by decide +kernel
theorem d_Rc_takePacket_21 : decode b_Rc_takePacket 21 = .ok (.getfield 18, 3) := by decide +kernel
theorem d_Rc_takePacket_24 : decode b_Rc_takePacket 24 = .ok (.iconst 5, 1) := by decide +kernel
theorem d_Rc_takePacket_25 : decode b_Rc_takePacket 25 = .ok (.dup2, 1) := by decide +kernel
theorem d_Rc_takePacket_26 : decode b_Rc_takePacket 26 = .ok (.iaload, 1) := by decide +kernel
theorem d_Rc_takePacket_27 : decode b_Rc_takePacket 27 = .ok (.iconst 1, 1) := by decide +kernel
theorem d_Rc_takePacket_28 : decode b_Rc_takePacket 28 = .ok (.iadd, 1) := by decide +kernel
theorem d_Rc_takePacket_29 : decode b_Rc_takePacket 29 = .ok (.iastore, 1) := by decide +kernel
theorem d_Rc_takePacket_30 : decode b_Rc_takePacket 30 = .ok (.return_, 1) := by decide +kernel
theorem d_Rc_takePacket_31 : decode b_Rc_takePacket 31 = .ok (.iload_n 2, 1) := by decide +kernel
theorem d_Rc_takePacket_32 : decode b_Rc_takePacket 32 = .ok (.bipush 15, 2) := by decide +kernel
theorem d_Rc_takePacket_34 : decode b_Rc_takePacket 34 = .ok (.iand, 1) := by decide +kernel
theorem d_Rc_takePacket_35 : decode b_Rc_takePacket 35 = .ok (.istore_n 3, 1) := by decide +kernel
theorem d_Rc_takePacket_36 : decode b_Rc_takePacket 36 = .ok (.aload_n 0, 1) := by decide +kernel
theorem d_Rc_takePacket_37 : decode b_Rc_takePacket 37 = .ok (.getfield 29, 3) := by decide +kernel
theorem d_Rc_takePacket_40 : decode b_Rc_takePacket 40 = .ok (.iconst (-1), 1) := by decide +kernel
theorem d_Rc_takePacket_41 : decode b_Rc_takePacket 41 = .ok (.if_icmp .eq 20, 3) := by decide +kernel
theorem d_Rc_takePacket_44 : decode b_Rc_takePacket 44 = .ok (.iload_n 3, 1) := by decide +kernel
theorem d_Rc_takePacket_45 : decode b_Rc_takePacket 45 = .ok (.aload_n 0, 1) := by decide +kernel
theorem d_Rc_takePacket_46 : decode b_Rc_takePacket 46 = .ok (.getfield 29, 3) := by decide +kernel
theorem d_Rc_takePacket_49 : decode b_Rc_takePacket 49 = .ok (.iconst 1, 1) := by decide +kernel
theorem d_Rc_takePacket_50 : decode b_Rc_takePacket 50 = .ok (.iadd, 1) := by decide +kernel
theorem d_Rc_takePacket_51 : decode b_Rc_takePacket 51 = .ok (.bipush 15, 2) := by decide +kernel
theorem d_Rc_takePacket_53 : decode b_Rc_takePacket 53 = .ok (.iand, 1) := by decide +kernel
theorem d_Rc_takePacket_54 : decode b_Rc_takePacket 54 = .ok (.if_icmp .eq 7, 3) := by decide +kernel
theorem d_Rc_takePacket_57 : decode b_Rc_takePacket 57 = .ok (.aload_n 0, 1) := by decide +kernel
theorem d_Rc_takePacket_58 : decode b_Rc_takePacket 58 = .ok (.invokevirtual 41, 3) := by decide +kernel
theorem d_Rc_takePacket_61 : decode b_Rc_takePacket 61 = .ok (.aload_n 0, 1) := by decide +kernel
theorem d_Rc_takePacket_62 : decode b_Rc_takePacket 62 = .ok (.iload_n 3, 1) := by decide +kernel
theorem d_Rc_takePacket_63 : decode b_Rc_takePacket 63 = .ok (.putfield 29, 3) := by decide +kernel
theorem d_Rc_takePacket_66 : decode b_Rc_takePacket 66 = .ok (.aload_n 1, 1) := by decide +kernel
theorem d_Rc_takePacket_67 : decode b_Rc_takePacket 67 = .ok (.iconst 2, 1) := by decide +kernel
theorem d_Rc_takePacket_68 : decode b_Rc_takePacket 68 = .ok (.iaload, 1) := by decide +kernel
theorem d_Rc_takePacket_69 : decode b_Rc_takePacket 69 = .ok (.istore 4, 2) := by decide +kernel
theorem d_Rc_takePacket_71 : decode b_Rc_takePacket 71 = .ok (.iload_n 2, 1) := by decide +kernel
theorem d_Rc_takePacket_72 : decode b_Rc_takePacket 72 = .ok (.bipush 64, 2) := by decide +kernel
theorem d_Rc_takePacket_74 : decode b_Rc_takePacket 74 = .ok (.iand, 1) := by decide +kernel
theorem d_Rc_takePacket_75 : decode b_Rc_takePacket 75 = .ok (.ifCond .ne 14, 3) := by decide +kernel
theorem d_Rc_takePacket_78 : decode b_Rc_takePacket 78 = .ok (.aload_n 0, 1) := by decide +kernel
theorem d_Rc_takePacket_79 : decode b_Rc_takePacket 79 = .ok (.aload_n 1, 1) := by decide +kernel
theorem d_Rc_takePacket_80 : decode b_Rc_takePacket 80 = .ok (.iconst 2, 1) := by decide +kernel
theorem d_Rc_takePacket_81 : decode b_Rc_takePacket 81 = .ok (.bipush 16, 2) := by decide +kernel
theorem d_Rc_takePacket_83 : decode b_Rc_takePacket 83 = .ok (.invokevirtual 44, 3) := by decide +kernel
theorem d_Rc_takePacket_86 : decode b_Rc_takePacket 86 = .ok (.goto 42, 3) := by decide +kernel
theorem d_Rc_takePacket_89 : decode b_Rc_takePacket 89 = .ok (.iload 4, 2) := by decide +kernel
theorem d_Rc_takePacket_91 : decode b_Rc_takePacket 91 = .ok (.bipush 13, 2) := by decide +kernel
theorem d_Rc_takePacket_93 : decode b_Rc_takePacket 93 = .ok (.if_icmp .le 10, 3) := by decide +kernel
theorem d_Rc_takePacket_96 : decode b_Rc_takePacket 96 = .ok (.aload_n 0, 1) := by decide +kernel
theorem d_Rc_takePacket_97 : decode b_Rc_takePacket 97 = .ok (.invokevirtual 41, 3) := by decide +kernel
theorem d_Rc_takePacket_100 : decode b_Rc_takePacket 100 = .ok (.goto 28, 3) := by decide +kernel
theorem d_Rc_takePacket_103 : decode b_Rc_takePacket 103 = .ok (.iconst 3, 1) := by decide +kernel
theorem d_Rc_takePacket_104 : decode b_Rc_takePacket 104 = .ok (.iload 4, 2) := by decide +kernel
theorem d_Rc_takePacket_106 : decode b_Rc_takePacket 106 = .ok (.iadd, 1) := by decide +kernel
theorem d_Rc_takePacket_107 : decode b_Rc_takePacket 107 = .ok (.istore 5, 2) := by decide +kernel
theorem d_Rc_takePacket_109 : decode b_Rc_takePacket 109 = .ok (.aload_n 0, 1) := by decide +kernel
theorem d_Rc_takePacket_110 : decode b_Rc_takePacket 110 = .ok (.aload_n 1, 1) := by decide +kernel
theorem d_Rc_takePacket_111 : decode b_Rc_takePacket 111 = .ok (.iconst 3, 1) := by decide +kernel
theorem d_Rc_takePacket_112 : decode b_Rc_takePacket 112 = .ok (.iload 5, 2) := by decide +kernel
theorem d_Rc_takePacket_114 : decode b_Rc_takePacket 114 = .ok (.invokevirtual 44, 3) := by decide +kernel
theorem d_Rc_takePacket_117 : decode b_Rc_takePacket 117 = .ok (.aload_n 0, 1) := by decide +kernel
theorem d_Rc_takePacket_118 : decode b_Rc_takePacket 118 = .ok (.invokevirtual 41, 3) := by decide +kernel
theorem d_Rc_takePacket_121 : decode b_Rc_takePacket 121 = .ok (.aload_n 0, 1) := by decide +kernel
theorem d_Rc_takePacket_122 : decode b_Rc_takePacket 122 = .ok (.aload_n 1, 1) := by decide +kernel
theorem d_Rc_takePacket_123 : decode b_Rc_takePacket 123 = .ok (.iload 5, 2) := by decide +kernel
theorem d_Rc_takePacket_125 : decode b_Rc_takePacket 125 = .ok (.invokevirtual 48, 3) := by decide +kernel
theorem d_Rc_takePacket_128 : decode b_Rc_takePacket 128 = .ok (.return_, 1) := by decide +kernel
theorem d_Rc_continueSection_0 : decode b_Rc_continueSection 0 = .ok (.iload_n 2, 1) := by decide +kernel
theorem d_Rc_continueSection_1 : decode b_Rc_continueSection 1 = .ok (.istore 4, 2) := by decide +kernel
theorem d_Rc_continueSection_3 : decode b_Rc_continueSection 3 = .ok (.iload 4, 2) := by decide +kernel
theorem d_Rc_continueSection_5 : decode b_Rc_continueSection 5 = .ok (.iload_n 3, 1) := by decide +kernel
theorem d_Rc_continueSection_6 : decode b_Rc_continueSection 6 = .ok (.if_icmp .ge 24, 3) := by decide +kernel
theorem d_Rc_continueSection_9 : decode b_Rc_continueSection 9 = .ok (.aload_n 0, 1) := by decide +kernel
theorem d_Rc_continueSection_10 : decode b_Rc_continueSection 10 = .ok (.getfield 25, 3) := by decide +kernel
theorem d_Rc_continueSection_13 : decode b_Rc_continueSection 13 = .ok (.ifCond .le 17, 3) := by decide +kernel
theorem d_Rc_continueSection_16 : decode b_Rc_continueSection 16 = .ok (.aload_n 0, 1) := by decide +kernel
theorem d_Rc_continueSection_17 : decode b_Rc_continueSection 17 = .ok (.aload_n 1, 1) := by decide +kernel
theorem d_Rc_continueSection_18 : decode b_Rc_continueSection 18 = .ok (.iload 4, 2) := by decide +kernel
theorem d_Rc_continueSection_20 : decode b_Rc_continueSection 20 = .ok (.iaload, 1) := by decide +kernel
theorem d_Rc_continueSection_21 : decode b_Rc_continueSection 21 = .ok (.invokevirtual 51, 3) := by decide +kernel
theorem d_Rc_continueSection_24 : decode b_Rc_continueSection 24 = .ok (.iinc 4 1, 3) := by decide +kernel
theorem d_Rc_continueSection_27 : decode b_Rc_continueSection 27 = .ok (.goto (-24), 3) := by decide +kernel
theorem d_Rc_continueSection_30 : decode b_Rc_continueSection 30 = .ok (.return_, 1) := by decide +kernel
theorem d_Rc_beginSections_0 : decode b_Rc_beginSections 0 = .ok (.iload_n 2, 1) := by decide +kernel
theorem d_Rc_beginSections_1 : decode b_Rc_beginSections 1 = .ok (.istore_n 3, 1) := by decide +kernel
theorem d_Rc_beginSections_2 : decode b_Rc_beginSections 2 = .ok (.iload_n 3, 1) := by decide +kernel
theorem d_Rc_beginSections_3 : decode b_Rc_beginSections 3 = .ok (.bipush 16, 2) := by decide +kernel
theorem d_Rc_beginSections_5 : decode b_Rc_beginSections 5 = .ok (.if_icmp .ge 33, 3) := by decide +kernel
theorem d_Rc_beginSections_8 : decode b_Rc_beginSections 8 = .ok (.aload_n 0, 1) := by decide +kernel
theorem d_Rc_beginSections_9 : decode b_Rc_beginSections 9 = .ok (.getfield 25, 3) := by decide +kernel
theorem d_Rc_beginSections_12 : decode b_Rc_beginSections 12 = .ok (.ifCond .ne 13, 3) := by decide +kernel
theorem d_Rc_beginSections_15 : decode b_Rc_beginSections 15 = .ok (.aload_n 1, 1) := by decide +kernel
theorem d_Rc_beginSections_16 : decode b_Rc_beginSections 16 = .ok (.iload_n 3, 1) := by decide +kernel
theorem d_Rc_beginSections_17 : decode b_Rc_beginSections 17 = .ok (.iaload, 1) := by decide +kernel
theorem d_Rc_beginSections_18 : decode b_Rc_beginSections 18 = .ok (.sipush 255, 3) := by decide +kernel
theorem d_Rc_beginSections_21 : decode b_Rc_beginSections 21 = .ok (.if_icmp .ne 4, 3) := by decide +kernel
theorem d_Rc_beginSections_24 : decode b_Rc_beginSections 24 = .ok (.return_, 1) := by decide +kernel
theorem d_Rc_beginSections_25 : decode b_Rc_beginSections 25 = .ok (.aload_n 0, 1) := by decide +kernel
theorem d_Rc_beginSections_26 : decode b_Rc_beginSections 26 = .ok (.aload_n 1, 1) := by decide +kernel
theorem d_Rc_beginSections_27 : decode b_Rc_beginSections 27 = .ok (.iload_n 3, 1) := by decide +kernel
theorem d_Rc_beginSections_28 : decode b_Rc_beginSections 28 = .ok (.iaload, 1) := by decide +kernel
theorem d_Rc_beginSections_29 : decode b_Rc_beginSections 29 = .ok (.invokevirtual 51, 3) := by decide +kernel
theorem d_Rc_beginSections_32 : decode b_Rc_beginSections 32 = .ok (.iinc 3 1, 3) := by decide +kernel
theorem d_Rc_beginSections_35 : decode b_Rc_beginSections 35 = .ok (.goto (-33), 3) := by decide +kernel
theorem d_Rc_beginSections_38 : decode b_Rc_beginSections 38 = .ok (.return_, 1) := by decide +kernel
theorem d_Rc_throwAway_0 : decode b_Rc_throwAway 0 = .ok (.aload_n 0, 1) := by decide +kernel
theorem d_Rc_throwAway_1 : decode b_Rc_throwAway 1 = .ok (.getfield 25, 3) := by decide +kernel
theorem d_Rc_throwAway_4 : decode b_Rc_throwAway 4 = .ok (.ifCond .le 18, 3) := by decide +kernel
theorem d_Rc_throwAway_7 : decode b_Rc_throwAway 7 = .ok (.aload_n 0, 1) := by decide +kernel
theorem d_Rc_throwAway_8 : decode b_Rc_throwAway 8 = .ok (.getfield 18, 3) := by decide +kernel
theorem d_Rc_throwAway_11 : decode b_Rc_throwAway 11 = .ok (.iconst 4, 1) := by decide +kernel
theorem d_Rc_throwAway_12 : decode b_Rc_throwAway 12 = .ok (.dup2, 1) := by decide +kernel
theorem d_Rc_throwAway_13 : decode b_Rc_throwAway 13 = .ok (.iaload, 1) := by decide +kernel
theorem d_Rc_throwAway_14 : decode b_Rc_throwAway 14 = .ok (.iconst 1, 1) := by decide +kernel
theorem d_Rc_throwAway_15 : decode b_Rc_throwAway 15 = .ok (.iadd, 1) := by decide +kernel
theorem d_Rc_throwAway_16 : decode b_Rc_throwAway 16 = .ok (.iastore, 1) := by decide +kernel
theorem d_Rc_throwAway_17 : decode b_Rc_throwAway 17 = .ok (.aload_n 0, 1) := by decide +kernel
theorem d_Rc_throwAway_18 : decode b_Rc_throwAway 18 = .ok (.iconst 0, 1) := by decide +kernel
theorem d_Rc_throwAway_19 : decode b_Rc_throwAway 19 = .ok (.putfield 25, 3) := by decide +kernel
theorem d_Rc_throwAway_22 : decode b_Rc_throwAway 22 = .ok (.return_, 1) := by decide +kernel
theorem d_Rc_collect_0 : decode b_Rc_collect 0 = .ok (.aload_n 0, 1) := by decide +kernel
theorem d_Rc_collect_1 : decode b_Rc_collect 1 = .ok (.getfield 22, 3) := by decide +kernel
theorem d_Rc_collect_4 : decode b_Rc_collect 4 = .ok (.aload_n 0, 1) := by decide +kernel
theorem d_Rc_collect_5 : decode b_Rc_collect 5 = .ok (.getfield 25, 3) := by decide +kernel
theorem d_Rc_collect_8 : decode b_Rc_collect 8 = .ok (.iload_n 1, 1) := by decide +kernel
theorem d_Rc_collect_9 : decode b_Rc_collect 9 = .ok (.iastore, 1) := by decide +kernel
theorem d_Rc_collect_10 : decode b_Rc_collect 10 = .ok (.aload_n 0, 1) := by decide +kernel
theorem d_Rc_collect_11 : decode b_Rc_collect 11 = .ok (.dup, 1) := by decide +kernel
theorem d_Rc_collect_12 : decode b_Rc_collect 12 = .ok (.getfield 25, 3) := by decide +kernel
theorem d_Rc_collect_15 : decode b_Rc_collect 15 = .ok (.iconst 1, 1) := by decide +kernel
theorem d_Rc_collect_16 : decode b_Rc_collect 16 = .ok (.iadd, 1) := by decide +kernel
theorem d_Rc_collect_17 : decode b_Rc_collect 17 = .ok (.putfield 25, 3) := by decide +kernel
theorem d_Rc_collect_20 : decode b_Rc_collect 20 = .ok (.aload_n 0, 1) := by decide +kernel
theorem d_Rc_collect_21 : decode b_Rc_collect 21 = .ok (.getfield 25, 3) := by decide +kernel
theorem d_Rc_collect_24 : decode b_Rc_collect 24 = .ok (.iconst 2, 1) := by decide +kernel
theorem d_Rc_collect_25 : decode b_Rc_collect 25 = .ok (.if_icmp .lt 42, 3) := by decide +kernel
theorem d_Rc_collect_28 : decode b_Rc_collect 28 = .ok (.aload_n 0, 1) := by decide +kernel
theorem d_Rc_collect_29 : decode b_Rc_collect 29 = .ok (.getfield 25, 3) := by decide +kernel
theorem d_Rc_collect_32 : decode b_Rc_collect 32 = .ok (.iconst 2, 1) := by decide +kernel
theorem d_Rc_collect_33 : decode b_Rc_collect 33 = .ok (.aload_n 0, 1) := by decide +kernel
theorem d_Rc_collect_34 : decode b_Rc_collect 34 = .ok (.getfield 22, 3) := by decide +kernel
theorem d_Rc_collect_37 : decode b_Rc_collect 37 = .ok (.iconst 1, 1) := by decide +kernel
theorem d_Rc_collect_38 : decode b_Rc_collect 38 = .ok (.iaload, 1) := by decide +kernel
theorem d_Rc_collect_39 : decode b_Rc_collect 39 = .ok (.iadd, 1) := by decide +kernel
theorem d_Rc_collect_40 : decode b_Rc_collect 40 = .ok (.if_icmp .ne 27, 3) := by decide +kernel
theorem d_Rc_collect_43 : decode b_Rc_collect 43 = .ok (.aload_n 0, 1) := by decide +kernel
theorem d_Rc_collect_44 : decode b_Rc_collect 44 = .ok (.getfield 25, 3) := by decide +kernel
theorem d_Rc_collect_47 : decode b_Rc_collect 47 = .ok (.istore_n 2, 1) := by decide +kernel
theorem d_Rc_collect_48 : decode b_Rc_collect 48 = .ok (.aload_n 0, 1) := by decide +kernel
theorem d_Rc_collect_49 : decode b_Rc_collect 49 = .ok (.iconst 0, 1) := by decide +kernel
theorem d_Rc_collect_50 : decode b_Rc_collect 50 = .ok (.putfield 25, 3) := by decide +kernel
theorem d_Rc_collect_53 : decode b_Rc_collect 53 = .ok (.aload_n 0, 1) := by decide +kernel
theorem d_Rc_collect_54 : decode b_Rc_collect 54 = .ok (.getfield 18, 3) := by decide +kernel
theorem d_Rc_collect_57 : decode b_Rc_collect 57 = .ok (.aload_n 0, 1) := by decide +kernel
theorem d_Rc_collect_58 : decode b_Rc_collect 58 = .ok (.iload_n 2, 1) := by decide +kernel
theorem d_Rc_collect_59 : decode b_Rc_collect 59 = .ok (.invokevirtual 55, 3) := by decide +kernel
theorem d_Rc_collect_62 : decode b_Rc_collect 62 = .ok (.dup2, 1) := by decide +kernel
theorem d_Rc_collect_63 : decode b_Rc_collect 63 = .ok (.iaload, 1) := by decide +kernel
theorem d_Rc_collect_64 : decode b_Rc_collect 64 = .ok (.iconst 1, 1) := by decide +kernel
theorem d_Rc_collect_65 : decode b_Rc_collect 65 = .ok (.iadd, 1) := by decide +kernel
theorem d_Rc_collect_66 : decode b_Rc_collect 66 = .ok (.iastore, 1) := by decide +kernel
theorem d_Rc_collect_67 : decode b_Rc_collect 67 = .ok (.return_, 1) := by decide +kernel
theorem d_Rc_judge_0 : decode b_Rc_judge 0 = .ok (.iload_n 1, 1) := by decide +kernel
theorem d_Rc_judge_1 : decode b_Rc_judge 1 = .ok (.bipush 6, 2) := by decide +kernel
theorem d_Rc_judge_3 : decode b_Rc_judge 3 = .ok (.if_icmp .lt 11, 3) := by decide +kernel
theorem d_Rc_judge_6 : decode b_Rc_judge 6 = .ok (.aload_n 0, 1) := by decide +kernel
theorem d_Rc_judge_7 : decode b_Rc_judge 7 = .ok (.iload_n 1, 1) := by decide +kernel
theorem d_Rc_judge_8 : decode b_Rc_judge 8 = .ok (.invokevirtual 59, 3) := by decide +kernel
theorem d_Rc_judge_11 : decode b_Rc_judge 11 = .ok (.ifCond .ne 5, 3) := by decide +kernel
theorem d_Rc_judge_14 : decode b_Rc_judge 14 = .ok (.iconst 2, 1) := by decide +kernel
theorem d_Rc_judge_15 : decode b_Rc_judge 15 = .ok (.ireturn, 1) := by decide +kernel
theorem d_Rc_judge_16 : decode b_Rc_judge 16 = .ok (.aload_n 0, 1) := by decide +kernel
theorem d_Rc_judge_17 : decode b_Rc_judge 17 = .ok (.iload_n 1, 1) := by decide +kernel
theorem d_Rc_judge_18 : decode b_Rc_judge 18 = .ok (.invokevirtual 63, 3) := by decide +kernel
theorem d_Rc_judge_21 : decode b_Rc_judge 21 = .ok (.ifCond .eq 16, 3) := by decide +kernel
theorem d_Rc_judge_24 : decode b_Rc_judge 24 = .ok (.aload_n 0, 1) := by decide +kernel
theorem d_Rc_judge_25 : decode b_Rc_judge 25 = .ok (.getfield 12, 3) := by decide +kernel
theorem d_Rc_judge_28 : decode b_Rc_judge 28 = .ok (.aload_n 0, 1) := by decide +kernel
theorem d_Rc_judge_29 : decode b_Rc_judge 29 = .ok (.getfield 22, 3) := by decide +kernel
theorem d_Rc_judge_32 : decode b_Rc_judge 32 = .ok (.invokevirtual 66, 3) := by decide +kernel
theorem d_Rc_judge_35 : decode b_Rc_judge 35 = .ok (.iconst 0, 1) := by decide +kernel
theorem d_Rc_judge_36 : decode b_Rc_judge 36 = .ok (.ireturn, 1) := by decide +kernel
theorem d_Rc_judge_37 : decode b_Rc_judge 37 = .ok (.aload_n 0, 1) := by decide +kernel
theorem d_Rc_judge_38 : decode b_Rc_judge 38 = .ok (.iload_n 1, 1) := by decide +kernel
theorem d_Rc_judge_39 : decode b_Rc_judge 39 = .ok (.invokevirtual 70, 3) := by decide +kernel
theorem d_Rc_judge_42 : decode b_Rc_judge 42 = .ok (.ifCond .eq 25, 3) := by decide +kernel
theorem d_Rc_judge_45 : decode b_Rc_judge 45 = .ok (.aload_n 0, 1) := by decide +kernel
theorem d_Rc_judge_46 : decode b_Rc_judge 46 = .ok (.getfield 12, 3) := by decide +kernel
theorem d_Rc_judge_49 : decode b_Rc_judge 49 = .ok (.aload_n 0, 1) := by decide +kernel
theorem d_Rc_judge_50 : decode b_Rc_judge 50 = .ok (.getfield 22, 3) := by decide +kernel
theorem d_Rc_judge_53 : decode b_Rc_judge 53 = .ok (.iload_n 1, 1) := by decide +kernel
theorem d_Rc_judge_54 : decode b_Rc_judge 54 = .ok (.bipush 6, 2) := by decide +kernel
theorem d_Rc_judge_56 : decode b_Rc_judge 56 = .ok (.isub, 1) := by decide +kernel
theorem d_Rc_judge_57 : decode b_Rc_judge 57 = .ok (.iconst 4, 1) := by decide +kernel
theorem d_Rc_judge_58 : decode b_Rc_judge 58 = .ok (.isub, 1) := by decide +kernel
theorem d_Rc_judge_59 : decode b_Rc_judge 59 = .ok (.invokevirtual 73, 3) := by decide +kernel
theorem d_Rc_judge_62 : decode b_Rc_judge 62 = .ok (.ifCond .eq 5, 3) := by decide +kernel
theorem d_Rc_judge_65 : decode b_Rc_judge 65 = .ok (.iconst 1, 1) := by decide +kernel
theorem d_Rc_judge_66 : decode b_Rc_judge 66 = .ok (.ireturn, 1) := by decide +kernel
theorem d_Rc_judge_67 : decode b_Rc_judge 67 = .ok (.iconst 3, 1) := by decide +kernel
theorem d_Rc_judge_68 : decode b_Rc_judge 68 = .ok (.ireturn, 1) := by decide +kernel
theorem d_Rc_hasCheckDue_0 : decode b_Rc_hasCheckDue 0 = .ok (.iload_n 1, 1) := by decide +kernel
theorem d_Rc_hasCheckDue_1 : decode b_Rc_hasCheckDue 1 = .ok (.iconst 4, 1) := by decide +kernel
theorem d_Rc_hasCheckDue_2 : decode b_Rc_hasCheckDue 2 = .ok (.isub, 1) := by decide +kernel
theorem d_Rc_hasCheckDue_3 : decode b_Rc_hasCheckDue 3 = .ok (.istore_n 2, 1) := by decide +kernel
theorem d_Rc_hasCheckDue_4 : decode b_Rc_hasCheckDue 4 = .ok (.aload_n 0, 1) := by decide +kernel
theorem d_Rc_hasCheckDue_5 : decode b_Rc_hasCheckDue 5 = .ok (.getfield 22, 3) := by decide +kernel
theorem d_Rc_hasCheckDue_8 : decode b_Rc_hasCheckDue 8 = .ok (.iload_n 2, 1) := by decide +kernel
theorem d_Rc_hasCheckDue_9 : decode b_Rc_hasCheckDue 9 = .ok (.invokestatic 77, 3) := by decide +kernel
theorem d_Rc_hasCheckDue_12 : decode b_Rc_hasCheckDue 12 = .ok (.bipush 16, 2) := by decide +kernel
theorem d_Rc_hasCheckDue_14 : decode b_Rc_hasCheckDue 14 = .ok (.ishl, 1) := by decide +kernel
theorem d_Rc_hasCheckDue_15 : decode b_Rc_hasCheckDue 15 = .ok (.aload_n 0, 1) := by decide +kernel
theorem d_Rc_hasCheckDue_16 : decode b_Rc_hasCheckDue 16 = .ok (.getfield 22, 3) := by decide +kernel
theorem d_Rc_hasCheckDue_19 : decode b_Rc_hasCheckDue 19 = .ok (.iload_n 2, 1) := by decide +kernel
theorem d_Rc_hasCheckDue_20 : decode b_Rc_hasCheckDue 20 = .ok (.iconst 2, 1) := by decide +kernel
theorem d_Rc_hasCheckDue_21 : decode b_Rc_hasCheckDue 21 = .ok (.iadd, 1) := by decide +kernel
theorem d_Rc_hasCheckDue_22 : decode b_Rc_hasCheckDue 22 = .ok (.invokestatic 77, 3) := by decide +kernel
theorem d_Rc_hasCheckDue_25 : decode b_Rc_hasCheckDue 25 = .ok (.ior, 1) := by decide +kernel
theorem d_Rc_hasCheckDue_26 : decode b_Rc_hasCheckDue 26 = .ok (.istore_n 3, 1) := by decide +kernel
theorem d_Rc_hasCheckDue_27 : decode b_Rc_hasCheckDue 27 = .ok (.iload_n 3, 1) := by decide +kernel
theorem d_Rc_hasCheckDue_28 : decode b_Rc_hasCheckDue 28 = .ok (.aload_n 0, 1) := by decide +kernel
theorem d_Rc_hasCheckDue_29 : decode b_Rc_hasCheckDue 29 = .ok (.getfield 22, 3) := by decide +kernel
theorem d_Rc_hasCheckDue_32 : decode b_Rc_hasCheckDue 32 = .ok (.iconst 0, 1) := by decide +kernel
theorem d_Rc_hasCheckDue_33 : decode b_Rc_hasCheckDue 33 = .ok (.iload_n 2, 1) := by decide +kernel
theorem d_Rc_hasCheckDue_34 : decode b_Rc_hasCheckDue 34 = .ok (.invokestatic 81, 3) := by decide +kernel
theorem d_Rc_hasCheckDue_37 : decode b_Rc_hasCheckDue 37 = .ok (.if_icmp .ne 7, 3) := by decide +kernel
theorem d_Rc_hasCheckDue_40 : decode b_Rc_hasCheckDue 40 = .ok (.iconst 1, 1) := by decide +kernel
theorem d_Rc_hasCheckDue_41 : decode b_Rc_hasCheckDue 41 = .ok (.goto 4, 3) := by decide +kernel
theorem d_Rc_hasCheckDue_44 : decode b_Rc_hasCheckDue 44 = .ok (.iconst 0, 1) := by decide +kernel
theorem d_Rc_hasCheckDue_45 : decode b_Rc_hasCheckDue 45 = .ok (.ireturn, 1) := by decide +kernel
theorem d_Rc_isList_0 : decode b_Rc_isList 0 = .ok (.aload_n 0, 1) := by decide +kernel
theorem d_Rc_isList_1 : decode b_Rc_isList 1 = .ok (.getfield 22, 3) := by decide +kernel
theorem d_Rc_isList_4 : decode b_Rc_isList 4 = .ok (.iconst 0, 1) := by decide +kernel
theorem d_Rc_isList_5 : decode b_Rc_isList 5 = .ok (.iaload, 1) := by decide +kernel
theorem d_Rc_isList_6 : decode b_Rc_isList 6 = .ok (.bipush 59, 2) := by decide +kernel
theorem d_Rc_isList_8 : decode b_Rc_isList 8 = .ok (.if_icmp .ne 9, 3) := by decide +kernel
theorem d_Rc_isList_11 : decode b_Rc_isList 11 = .ok (.iload_n 1, 1) := by decide +kernel
theorem d_Rc_isList_12 : decode b_Rc_isList 12 = .ok (.bipush 9, 2) := by decide +kernel
theorem d_Rc_isList_14 : decode b_Rc_isList 14 = .ok (.if_icmp .ge 5, 3) := by decide +kernel
theorem d_Rc_isList_17 : decode b_Rc_isList 17 = .ok (.iconst 0, 1) := by decide +kernel
theorem d_Rc_isList_18 : decode b_Rc_isList 18 = .ok (.ireturn, 1) := by decide +kernel
theorem d_Rc_isList_19 : decode b_Rc_isList 19 = .ok (.aload_n 0, 1) := by decide +kernel
theorem d_Rc_isList_20 : decode b_Rc_isList 20 = .ok (.getfield 22, 3) := by decide +kernel
theorem d_Rc_isList_23 : decode b_Rc_isList 23 = .ok (.iconst 4, 1) := by decide +kernel
theorem d_Rc_isList_24 : decode b_Rc_isList 24 = .ok (.iaload, 1) := by decide +kernel
theorem d_Rc_isList_25 : decode b_Rc_isList 25 = .ok (.istore_n 2, 1) := by decide +kernel
theorem d_Rc_isList_26 : decode b_Rc_isList 26 = .ok (.iload_n 2, 1) := by decide +kernel
theorem d_Rc_isList_27 : decode b_Rc_isList 27 = .ok (.iconst 1, 1) := by decide +kernel
theorem d_Rc_isList_28 : decode b_Rc_isList 28 = .ok (.if_icmp .lt 9, 3) := by decide +kernel
theorem d_Rc_isList_31 : decode b_Rc_isList 31 = .ok (.iload_n 2, 1) := by decide +kernel
theorem d_Rc_isList_32 : decode b_Rc_isList 32 = .ok (.bipush 12, 2) := by decide +kernel
theorem d_Rc_isList_34 : decode b_Rc_isList 34 = .ok (.if_icmp .le 5, 3) := by decide +kernel
theorem d_Rc_isList_37 : decode b_Rc_isList 37 = .ok (.iconst 0, 1) := by decide +kernel
theorem d_Rc_isList_38 : decode b_Rc_isList 38 = .ok (.ireturn, 1) := by decide +kernel
theorem d_Rc_isList_39 : decode b_Rc_isList 39 = .ok (.iload_n 1, 1) := by decide +kernel
theorem d_Rc_isList_40 : decode b_Rc_isList 40 = .ok (.iconst 5, 1) := by decide +kernel
theorem d_Rc_isList_41 : decode b_Rc_isList 41 = .ok (.iconst 3, 1) := by decide +kernel
theorem d_Rc_isList_42 : decode b_Rc_isList 42 = .ok (.iload_n 2, 1) := by decide +kernel
theorem d_Rc_isList_43 : decode b_Rc_isList 43 = .ok (.imul, 1) := by decide +kernel
theorem d_Rc_isList_44 : decode b_Rc_isList 44 = .ok (.iadd, 1) := by decide +kernel
theorem d_Rc_isList_45 : decode b_Rc_isList 45 = .ok (.iconst 4, 1) := by decide +kernel
theorem d_Rc_isList_46 : decode b_Rc_isList 46 = .ok (.iadd, 1) := by decide +kernel
theorem d_Rc_isList_47 : decode b_Rc_isList 47 = .ok (.if_icmp .eq 5, 3) := by decide +kernel
theorem d_Rc_isList_50 : decode b_Rc_isList 50 = .ok (.iconst 0, 1) := by decide +kernel
theorem d_Rc_isList_51 : decode b_Rc_isList 51 = .ok (.ireturn, 1) := by decide +kernel
theorem d_Rc_isList_52 : decode b_Rc_isList 52 = .ok (.iconst 0, 1) := by decide +kernel
theorem d_Rc_isList_53 : decode b_Rc_isList 53 = .ok (.istore_n 3, 1) := by decide +kernel
theorem d_Rc_isList_54 : decode b_Rc_isList 54 = .ok (.iload_n 3, 1) := by decide +kernel
theorem d_Rc_isList_55 : decode b_Rc_isList 55 = .ok (.iload_n 2, 1) := by decide +kernel
theorem d_Rc_isList_56 : decode b_Rc_isList 56 = .ok (.if_icmp .ge 36, 3) := by decide +kernel
theorem d_Rc_isList_59 : decode b_Rc_isList 59 = .ok (.aload_n 0, 1) := by decide +kernel
theorem d_Rc_isList_60 : decode b_Rc_isList 60 = .ok (.getfield 22, 3) := by decide +kernel
theorem d_Rc_isList_63 : decode b_Rc_isList 63 = .ok (.iconst 5, 1) := by decide +kernel
theorem d_Rc_isList_64 : decode b_Rc_isList 64 = .ok (.iconst 3, 1) := by decide +kernel
theorem d_Rc_isList_65 : decode b_Rc_isList 65 = .ok (.iload_n 3, 1) := by decide +kernel
theorem d_Rc_isList_66 : decode b_Rc_isList 66 = .ok (.imul, 1) := by decide +kernel
theorem d_Rc_isList_67 : decode b_Rc_isList 67 = .ok (.iadd, 1) := by decide +kernel
theorem d_Rc_isList_68 : decode b_Rc_isList 68 = .ok (.iaload, 1) := by decide +kernel
theorem d_Rc_isList_69 : decode b_Rc_isList 69 = .ok (.istore 4, 2) := by decide +kernel
theorem d_Rc_isList_71 : decode b_Rc_isList 71 = .ok (.iload 4, 2) := by decide +kernel
theorem d_Rc_isList_73 : decode b_Rc_isList 73 = .ok (.iconst 1, 1) := by decide +kernel
theorem d_Rc_isList_74 : decode b_Rc_isList 74 = .ok (.if_icmp .lt 10, 3) := by decide +kernel
theorem d_Rc_isList_77 : decode b_Rc_isList 77 = .ok (.iload 4, 2) := by decide +kernel
theorem d_Rc_isList_79 : decode b_Rc_isList 79 = .ok (.bipush 48, 2) := by decide +kernel
theorem d_Rc_isList_81 : decode b_Rc_isList 81 = .ok (.if_icmp .le 5, 3) := by decide +kernel
theorem d_Rc_isList_84 : decode b_Rc_isList 84 = .ok (.iconst 0, 1) := by decide +kernel
theorem d_Rc_isList_85 : decode b_Rc_isList 85 = .ok (.ireturn, 1) := by decide +kernel
theorem d_Rc_isList_86 : decode b_Rc_isList 86 = .ok (.iinc 3 1, 3) := by decide +kernel
theorem d_Rc_isList_89 : decode b_Rc_isList 89 = .ok (.goto (-35), 3) := by decide +kernel
theorem d_Rc_isList_92 : decode b_Rc_isList 92 = .ok (.iconst 1, 1) := by decide +kernel
theorem d_Rc_isList_93 : decode b_Rc_isList 93 = .ok (.ireturn, 1) := by decide +kernel
theorem d_Rc_isBlock_0 : decode b_Rc_isBlock 0 = .ok (.iload_n 1, 1) := by decide +kernel
theorem d_Rc_isBlock_1 : decode b_Rc_isBlock 1 = .ok (.bipush 6, 2) := by decide +kernel
theorem d_Rc_isBlock_3 : decode b_Rc_isBlock 3 = .ok (.isub, 1) := by decide +kernel
theorem d_Rc_isBlock_4 : decode b_Rc_isBlock 4 = .ok (.iconst 4, 1) := by decide +kernel
theorem d_Rc_isBlock_5 : decode b_Rc_isBlock 5 = .ok (.isub, 1) := by decide +kernel
theorem d_Rc_isBlock_6 : decode b_Rc_isBlock 6 = .ok (.istore_n 2, 1) := by decide +kernel
theorem d_Rc_isBlock_7 : decode b_Rc_isBlock 7 = .ok (.aload_n 0, 1) := by decide +kernel
theorem d_Rc_isBlock_8 : decode b_Rc_isBlock 8 = .ok (.getfield 22, 3) := by decide +kernel
theorem d_Rc_isBlock_11 : decode b_Rc_isBlock 11 = .ok (.iconst 0, 1) := by decide +kernel
theorem d_Rc_isBlock_12 : decode b_Rc_isBlock 12 = .ok (.iaload, 1) := by decide +kernel
theorem d_Rc_isBlock_13 : decode b_Rc_isBlock 13 = .ok (.bipush 60, 2) := by decide +kernel
theorem d_Rc_isBlock_15 : decode b_Rc_isBlock 15 = .ok (.if_icmp .ne 18, 3) := by decide +kernel
theorem d_Rc_isBlock_18 : decode b_Rc_isBlock 18 = .ok (.iload_n 2, 1) := by decide +kernel
theorem d_Rc_isBlock_19 : decode b_Rc_isBlock 19 = .ok (.iconst 1, 1) := by decide +kernel
theorem d_Rc_isBlock_20 : decode b_Rc_isBlock 20 = .ok (.if_icmp .lt 13, 3) := by decide +kernel
theorem d_Rc_isBlock_23 : decode b_Rc_isBlock 23 = .ok (.iload_n 2, 1) := by decide +kernel
theorem d_Rc_isBlock_24 : decode b_Rc_isBlock 24 = .ok (.bipush 8, 2) := by decide +kernel
theorem d_Rc_isBlock_26 : decode b_Rc_isBlock 26 = .ok (.if_icmp .gt 7, 3) := by decide +kernel
theorem d_Rc_isBlock_29 : decode b_Rc_isBlock 29 = .ok (.iconst 1, 1) := by decide +kernel
theorem d_Rc_isBlock_30 : decode b_Rc_isBlock 30 = .ok (.goto 4, 3) := by decide +kernel
theorem d_Rc_isBlock_33 : decode b_Rc_isBlock 33 = .ok (.iconst 0, 1) := by decide +kernel
theorem d_Rc_isBlock_34 : decode b_Rc_isBlock 34 = .ok (.ireturn, 1) := by decide +kernel
theorem d_Sn_init_0 : decode b_Sn_init 0 = .ok (.aload_n 0, 1) := by decide +kernel
theorem d_Sn_init_1 : decode b_Sn_init 1 = .ok (.invokespecial 3, 3) := by decide +kernel
theorem d_Sn_init_4 : decode b_Sn_init 4 = .ok (.aload_n 0, 1) := by decide +kernel
theorem d_Sn_init_5 : decode b_Sn_init 5 = .ok (.bipush 16, 2) := by decide +kernel
theorem d_Sn_init_7 : decode b_Sn_init 7 = .ok (.newarray .int, 2) := by decide +kernel
theorem d_Sn_init_9 : decode b_Sn_init 9 = .ok (.putfield 9, 3) := by decide +kernel
theorem d_Sn_init_12 : decode b_Sn_init 12 = .ok (.aload_n 0, 1) := by decide +kernel
theorem d_Sn_init_13 : decode b_Sn_init 13 = .ok (.new 15, 3) := by decide +kernel
theorem d_Sn_init_16 : decode b_Sn_init 16 = .ok (.dup, 1) := by decide +kernel
theorem d_Sn_init_17 : decode b_Sn_init 17 = .ok (.invokespecial 17, 3) := by decide +kernel
theorem d_Sn_init_20 : decode b_Sn_init 20 = .ok (.putfield 18, 3) := by decide +kernel
theorem d_Sn_init_23 : decode b_Sn_init 23 = .ok (.aload_n 0, 1) := by decide +kernel
theorem d_Sn_init_24 : decode b_Sn_init 24 = .ok (.iconst 0, 1) := by decide +kernel
theorem d_Sn_init_25 : decode b_Sn_init 25 = .ok (.putfield 22, 3) := by decide +kernel
theorem d_Sn_init_28 : decode b_Sn_init 28 = .ok (.aload_n 0, 1) := by decide +kernel
theorem d_Sn_init_29 : decode b_Sn_init 29 = .ok (.iconst 0, 1) := by decide +kernel
theorem d_Sn_init_30 : decode b_Sn_init 30 = .ok (.putfield 26, 3) := by decide +kernel
theorem d_Sn_init_33 : decode b_Sn_init 33 = .ok (.aload_n 0, 1) := by decide +kernel
theorem d_Sn_init_34 : decode b_Sn_init 34 = .ok (.iconst 0, 1) := by decide +kernel
theorem d_Sn_init_35 : decode b_Sn_init 35 = .ok (.putfield 29, 3) := by decide +kernel
theorem d_Sn_init_38 : decode b_Sn_init 38 = .ok (.return_, 1) := by decide +kernel
theorem d_Sn_isOnAir_0 : decode b_Sn_isOnAir 0 = .ok (.aload_n 0, 1) := by decide +kernel
theorem d_Sn_isOnAir_1 : decode b_Sn_isOnAir 1 = .ok (.getfield 18, 3) := by decide +kernel
theorem d_Sn_isOnAir_4 : decode b_Sn_isOnAir 4 = .ok (.getfield 32, 3) := by decide +kernel
theorem d_Sn_isOnAir_7 : decode b_Sn_isOnAir 7 = .ok (.ifCond .le 7, 3) := by decide +kernel
theorem d_Sn_isOnAir_10 : decode b_Sn_isOnAir 10 = .ok (.iconst 1, 1) := by decide +kernel
theorem d_Sn_isOnAir_11 : decode b_Sn_isOnAir 11 = .ok (.goto 4, 3) := by decide +kernel
theorem d_Sn_isOnAir_14 : decode b_Sn_isOnAir 14 = .ok (.iconst 0, 1) := by decide +kernel
theorem d_Sn_isOnAir_15 : decode b_Sn_isOnAir 15 = .ok (.ireturn, 1) := by decide +kernel
theorem d_Sn_beginCycleOf_0 : decode b_Sn_beginCycleOf 0 = .ok (.aload_n 0, 1) := by decide +kernel
theorem d_Sn_beginCycleOf_1 : decode b_Sn_beginCycleOf 1 = .ok (.getfield 18, 3) := by decide +kernel
theorem d_Sn_beginCycleOf_4 : decode b_Sn_beginCycleOf 4 = .ok (.aload_n 1, 1) := by decide +kernel
theorem d_Sn_beginCycleOf_5 : decode b_Sn_beginCycleOf 5 = .ok (.invokevirtual 35, 3) := by decide +kernel
theorem d_Sn_beginCycleOf_8 : decode b_Sn_beginCycleOf 8 = .ok (.aload_n 0, 1) := by decide +kernel
theorem d_Sn_beginCycleOf_9 : decode b_Sn_beginCycleOf 9 = .ok (.iconst 0, 1) := by decide +kernel
theorem d_Sn_beginCycleOf_10 : decode b_Sn_beginCycleOf 10 = .ok (.putfield 26, 3) := by decide +kernel
theorem d_Sn_beginCycleOf_13 : decode b_Sn_beginCycleOf 13 = .ok (.aload_n 0, 1) := by decide +kernel
theorem d_Sn_beginCycleOf_14 : decode b_Sn_beginCycleOf 14 = .ok (.invokevirtual 39, 3) := by decide +kernel
theorem d_Sn_beginCycleOf_17 : decode b_Sn_beginCycleOf 17 = .ok (.return_, 1) := by decide +kernel
theorem d_Sn_advance_0 : decode b_Sn_advance 0 = .ok (.aload_n 0, 1) := by decide +kernel
theorem d_Sn_advance_1 : decode b_Sn_advance 1 = .ok (.aload_n 0, 1) := by decide +kernel
theorem d_Sn_advance_2 : decode b_Sn_advance 2 = .ok (.getfield 22, 3) := by decide +kernel
theorem d_Sn_advance_5 : decode b_Sn_advance 5 = .ok (.iconst 1, 1) := by decide +kernel
theorem d_Sn_advance_6 : decode b_Sn_advance 6 = .ok (.iadd, 1) := by decide +kernel
theorem d_Sn_advance_7 : decode b_Sn_advance 7 = .ok (.bipush 15, 2) := by decide +kernel
theorem d_Sn_advance_9 : decode b_Sn_advance 9 = .ok (.iand, 1) := by decide +kernel
theorem d_Sn_advance_10 : decode b_Sn_advance 10 = .ok (.putfield 22, 3) := by decide +kernel
theorem d_Sn_advance_13 : decode b_Sn_advance 13 = .ok (.aload_n 0, 1) := by decide +kernel
theorem d_Sn_advance_14 : decode b_Sn_advance 14 = .ok (.aload_n 0, 1) := by decide +kernel
theorem d_Sn_advance_15 : decode b_Sn_advance 15 = .ok (.getfield 29, 3) := by decide +kernel
theorem d_Sn_advance_18 : decode b_Sn_advance 18 = .ok (.aload_n 0, 1) := by decide +kernel
theorem d_Sn_advance_19 : decode b_Sn_advance 19 = .ok (.getfield 18, 3) := by decide +kernel
theorem d_Sn_advance_22 : decode b_Sn_advance 22 = .ok (.getfield 32, 3) := by decide +kernel
theorem d_Sn_advance_25 : decode b_Sn_advance 25 = .ok (.if_icmp .ge 10, 3) := by decide +kernel
theorem d_Sn_advance_28 : decode b_Sn_advance 28 = .ok (.aload_n 0, 1) := by decide +kernel
theorem d_Sn_advance_29 : decode b_Sn_advance 29 = .ok (.getfield 29, 3) := by decide +kernel
theorem d_Sn_advance_32 : decode b_Sn_advance 32 = .ok (.goto 4, 3) := by decide +kernel
theorem d_Sn_advance_35 : decode b_Sn_advance 35 = .ok (.iconst 0, 1) := by decide +kernel
theorem d_Sn_advance_36 : decode b_Sn_advance 36 = .ok (.putfield 26, 3) := by decide +kernel
theorem d_Sn_advance_39 : decode b_Sn_advance 39 = .ok (.aload_n 0, 1) := by decide +kernel
theorem d_Sn_advance_40 : decode b_Sn_advance 40 = .ok (.invokevirtual 39, 3) := by decide +kernel
theorem d_Sn_advance_43 : decode b_Sn_advance 43 = .ok (.return_, 1) := by decide +kernel
theorem d_Sn_prepare_0 : decode b_Sn_prepare 0 = .ok (.aload_n 0, 1) := by decide +kernel
theorem d_Sn_prepare_1 : decode b_Sn_prepare 1 = .ok (.getfield 18, 3) := by decide +kernel
theorem d_Sn_prepare_4 : decode b_Sn_prepare 4 = .ok (.aload_n 0, 1) := by decide +kernel
theorem d_Sn_prepare_5 : decode b_Sn_prepare 5 = .ok (.getfield 26, 3) := by decide +kernel
theorem d_Sn_prepare_8 : decode b_Sn_prepare 8 = .ok (.invokevirtual 42, 3) := by decide +kernel
theorem d_Sn_prepare_11 : decode b_Sn_prepare 11 = .ok (.istore_n 1, 1) := by decide +kernel
theorem d_Sn_prepare_12 : decode b_Sn_prepare 12 = .ok (.iload_n 1, 1) := by decide +kernel
theorem d_Sn_prepare_13 : decode b_Sn_prepare 13 = .ok (.aload_n 0, 1) := by decide +kernel
theorem d_Sn_prepare_14 : decode b_Sn_prepare 14 = .ok (.getfield 26, 3) := by decide +kernel
theorem d_Sn_prepare_17 : decode b_Sn_prepare 17 = .ok (.isub, 1) := by decide +kernel
theorem d_Sn_prepare_18 : decode b_Sn_prepare 18 = .ok (.istore_n 2, 1) := by decide +kernel
theorem d_Sn_prepare_19 : decode b_Sn_prepare 19 = .ok (.iload_n 2, 1) := by decide +kernel
theorem d_Sn_prepare_20 : decode b_Sn_prepare 20 = .ok (.bipush 12, 2) := by decide +kernel
theorem d_Sn_prepare_22 : decode b_Sn_prepare 22 = .ok (.if_icmp .gt 18, 3) := by decide +kernel
theorem d_Sn_prepare_25 : decode b_Sn_prepare 25 = .ok (.iload_n 1, 1) := by decide +kernel
theorem d_Sn_prepare_26 : decode b_Sn_prepare 26 = .ok (.aload_n 0, 1) := by decide +kernel
theorem d_Sn_prepare_27 : decode b_Sn_prepare 27 = .ok (.getfield 18, 3) := by decide +kernel
theorem d_Sn_prepare_30 : decode b_Sn_prepare 30 = .ok (.getfield 32, 3) := by decide +kernel
theorem d_Sn_prepare_33 : decode b_Sn_prepare 33 = .ok (.if_icmp .ge 7, 3) := by decide +kernel
theorem d_Sn_prepare_36 : decode b_Sn_prepare 36 = .ok (.iconst 1, 1) := by decide +kernel
theorem d_Sn_prepare_37 : decode b_Sn_prepare 37 = .ok (.goto 4, 3) := by decide +kernel
theorem d_Sn_prepare_40 : decode b_Sn_prepare 40 = .ok (.iconst 0, 1) := by decide +kernel
theorem d_Sn_prepare_41 : decode b_Sn_prepare 41 = .ok (.istore_n 3, 1) := by decide +kernel
theorem d_Sn_prepare_42 : decode b_Sn_prepare 42 = .ok (.aload_n 0, 1) := by decide +kernel
theorem d_Sn_prepare_43 : decode b_Sn_prepare 43 = .ok (.getfield 9, 3) := by decide +kernel
theorem d_Sn_prepare_46 : decode b_Sn_prepare 46 = .ok (.iconst 0, 1) := by decide +kernel
theorem d_Sn_prepare_47 : decode b_Sn_prepare 47 = .ok (.bipush 71, 2) := by decide +kernel
theorem d_Sn_prepare_49 : decode b_Sn_prepare 49 = .ok (.iastore, 1) := by decide +kernel
theorem d_Sn_prepare_50 : decode b_Sn_prepare 50 = .ok (.aload_n 0, 1) := by decide +kernel
theorem d_Sn_prepare_51 : decode b_Sn_prepare 51 = .ok (.getfield 9, 3) := by decide +kernel
theorem d_Sn_prepare_54 : decode b_Sn_prepare 54 = .ok (.iconst 1, 1) := by decide +kernel
theorem d_Sn_prepare_55 : decode b_Sn_prepare 55 = .ok (.iload_n 3, 1) := by decide +kernel
theorem d_Sn_prepare_56 : decode b_Sn_prepare 56 = .ok (.ifCond .eq 13, 3) := by decide +kernel
theorem d_Sn_prepare_59 : decode b_Sn_prepare 59 = .ok (.bipush 64, 2) := by decide +kernel
theorem d_Sn_prepare_61 : decode b_Sn_prepare 61 = .ok (.aload_n 0, 1) := by decide +kernel
theorem d_Sn_prepare_62 : decode b_Sn_prepare 62 = .ok (.getfield 22, 3) := by decide +kernel
theorem d_Sn_prepare_65 : decode b_Sn_prepare 65 = .ok (.ior, 1) := by decide +kernel
theorem d_Sn_prepare_66 : decode b_Sn_prepare 66 = .ok (.goto 7, 3) := by decide +kernel
theorem d_Sn_prepare_69 : decode b_Sn_prepare 69 = .ok (.aload_n 0, 1) := by decide +kernel
theorem d_Sn_prepare_70 : decode b_Sn_prepare 70 = .ok (.getfield 22, 3) := by decide +kernel
theorem d_Sn_prepare_73 : decode b_Sn_prepare 73 = .ok (.iastore, 1) := by decide +kernel
theorem d_Sn_prepare_74 : decode b_Sn_prepare 74 = .ok (.iload_n 3, 1) := by decide +kernel
theorem d_Sn_prepare_75 : decode b_Sn_prepare 75 = .ok (.ifCond .eq 25, 3) := by decide +kernel
theorem d_Sn_prepare_78 : decode b_Sn_prepare 78 = .ok (.aload_n 0, 1) := by decide +kernel
theorem d_Sn_prepare_79 : decode b_Sn_prepare 79 = .ok (.getfield 9, 3) := by decide +kernel
theorem d_Sn_prepare_82 : decode b_Sn_prepare 82 = .ok (.iconst 2, 1) := by decide +kernel
theorem d_Sn_prepare_83 : decode b_Sn_prepare 83 = .ok (.iload_n 2, 1) := by decide +kernel
theorem d_Sn_prepare_84 : decode b_Sn_prepare 84 = .ok (.iastore, 1) := by decide +kernel
theorem d_Sn_prepare_85 : decode b_Sn_prepare 85 = .ok (.aload_n 0, 1) := by decide +kernel
theorem d_Sn_prepare_86 : decode b_Sn_prepare 86 = .ok (.iconst 3, 1) := by decide +kernel
theorem d_Sn_prepare_87 : decode b_Sn_prepare 87 = .ok (.aload_n 0, 1) := by decide +kernel
theorem d_Sn_prepare_88 : decode b_Sn_prepare 88 = .ok (.getfield 18, 3) := by decide +kernel
theorem d_Sn_prepare_91 : decode b_Sn_prepare 91 = .ok (.getfield 32, 3) := by decide +kernel
theorem d_Sn_prepare_94 : decode b_Sn_prepare 94 = .ok (.invokevirtual 46, 3) := by decide +kernel
theorem d_Sn_prepare_97 : decode b_Sn_prepare 97 = .ok (.goto 9, 3) := by decide +kernel
theorem d_Sn_prepare_100 : decode b_Sn_prepare 100 = .ok (.aload_n 0, 1) := by decide +kernel
theorem d_Sn_prepare_101 : decode b_Sn_prepare 101 = .ok (.iconst 2, 1) := by decide +kernel
theorem d_Sn_prepare_102 : decode b_Sn_prepare 102 = .ok (.iload_n 1, 1) := by decide +kernel
theorem d_Sn_prepare_103 : decode b_Sn_prepare 103 = .ok (.invokevirtual 46, 3) := by decide +kernel
theorem d_Sn_prepare_106 : decode b_Sn_prepare 106 = .ok (.return_, 1) := by decide +kernel
theorem d_Sn_load_0 : decode b_Sn_load 0 = .ok (.aload_n 0, 1) := by decide +kernel
theorem d_Sn_load_1 : decode b_Sn_load 1 = .ok (.getfield 26, 3) := by decide +kernel
theorem d_Sn_load_4 : decode b_Sn_load 4 = .ok (.istore_n 3, 1) := by decide +kernel
theorem d_Sn_load_5 : decode b_Sn_load 5 = .ok (.iload_n 1, 1) := by decide +kernel
theorem d_Sn_load_6 : decode b_Sn_load 6 = .ok (.istore 4, 2) := by decide +kernel
theorem d_Sn_load_8 : decode b_Sn_load 8 = .ok (.iload 4, 2) := by decide +kernel
theorem d_Sn_load_10 : decode b_Sn_load 10 = .ok (.bipush 16, 2) := by decide +kernel
theorem d_Sn_load_12 : decode b_Sn_load 12 = .ok (.if_icmp .ge 46, 3) := by decide +kernel
theorem d_Sn_load_15 : decode b_Sn_load 15 = .ok (.iload_n 3, 1) := by decide +kernel
theorem d_Sn_load_16 : decode b_Sn_load 16 = .ok (.iload_n 2, 1) := by decide +kernel
theorem d_Sn_load_17 : decode b_Sn_load 17 = .ok (.if_icmp .ge 25, 3) := by decide +kernel
theorem d_Sn_load_20 : decode b_Sn_load 20 = .ok (.aload_n 0, 1) := by decide +kernel
theorem d_Sn_load_21 : decode b_Sn_load 21 = .ok (.getfield 9, 3) := by decide +kernel
theorem d_Sn_load_24 : decode b_Sn_load 24 = .ok (.iload 4, 2) := by decide +kernel
theorem d_Sn_load_26 : decode b_Sn_load 26 = .ok (.aload_n 0, 1) := by decide +kernel
theorem d_Sn_load_27 : decode b_Sn_load 27 = .ok (.getfield 18, 3) := by decide +kernel
theorem d_Sn_load_30 : decode b_Sn_load 30 = .ok (.getfield 50, 3) := by decide +kernel
theorem d_Sn_load_33 : decode b_Sn_load 33 = .ok (.iload_n 3, 1) := by decide +kernel
theorem d_Sn_load_34 : decode b_Sn_load 34 = .ok (.iaload, 1) := by decide +kernel
theorem d_Sn_load_35 : decode b_Sn_load 35 = .ok (.iastore, 1) := by decide +kernel
theorem d_Sn_load_36 : decode b_Sn_load 36 = .ok (.iinc 3 1, 3) := by decide +kernel
theorem d_Sn_load_39 : decode b_Sn_load 39 = .ok (.goto 13, 3) := by decide +kernel
theorem d_Sn_load_42 : decode b_Sn_load 42 = .ok (.aload_n 0, 1) := by decide +kernel
theorem d_Sn_load_43 : decode b_Sn_load 43 = .ok (.getfield 9, 3) := by decide +kernel
theorem d_Sn_load_46 : decode b_Sn_load 46 = .ok (.iload 4, 2) := by decide +kernel
theorem d_Sn_load_48 : decode b_Sn_load 48 = .ok (.sipush 255, 3) := by decide +kernel
theorem d_Sn_load_51 : decode b_Sn_load 51 = .ok (.iastore, 1) := by decide +kernel
theorem d_Sn_load_52 : decode b_Sn_load 52 = .ok (.iinc 4 1, 3) := by decide +kernel
theorem d_Sn_load_55 : decode b_Sn_load 55 = .ok (.goto (-47), 3) := by decide +kernel
theorem d_Sn_load_58 : decode b_Sn_load 58 = .ok (.aload_n 0, 1) := by decide +kernel
theorem d_Sn_load_59 : decode b_Sn_load 59 = .ok (.iload_n 3, 1) := by decide +kernel
theorem d_Sn_load_60 : decode b_Sn_load 60 = .ok (.putfield 29, 3) := by decide +kernel
theorem d_Sn_load_63 : decode b_Sn_load 63 = .ok (.return_, 1) := by decide +kernel
