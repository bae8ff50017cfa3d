theorem nd_M_init_0 : decode nb_M_init 0 = .ok (.aload_n 0, 1) := by decide +kernel
theorem nd_M_init_1 : decode nb_M_init 1 = .ok (.invokespecial 1, 3) := by decide +kernel
theorem nd_M_init_4 : decode nb_M_init 4 = .ok (.aload_n 0, 1) := by decide +kernel
theorem nd_M_init_5 : decode nb_M_init 5 = .ok (.bipush 64, 2) := by decide +kernel
theorem nd_M_init_7 : decode nb_M_init 7 = .ok (.newarray .int, 2) := by decide +kernel
theorem nd_M_init_9 : decode nb_M_init 9 = .ok (.putfield 7, 3) := by decide +kernel
theorem nd_M_init_12 : decode nb_M_init 12 = .ok (.aload_n 0, 1) := by decide +kernel
theorem nd_M_init_13 : decode nb_M_init 13 = .ok (.sipush 1024, 3) := by decide +kernel
theorem nd_M_init_16 : decode nb_M_init 16 = .ok (.newarray .int, 2) := by decide +kernel
theorem nd_M_init_18 : decode nb_M_init 18 = .ok (.putfield 13, 3) := by decide +kernel
theorem nd_M_init_21 : decode nb_M_init 21 = .ok (.aload_n 0, 1) := by decide +kernel
theorem nd_M_init_22 : decode nb_M_init 22 = .ok (.bipush 64, 2) := by decide +kernel
theorem nd_M_init_24 : decode nb_M_init 24 = .ok (.newarray .int, 2) := by decide +kernel
theorem nd_M_init_26 : decode nb_M_init 26 = .ok (.putfield 16, 3) := by decide +kernel
theorem nd_M_init_29 : decode nb_M_init 29 = .ok (.aload_n 0, 1) := by decide +kernel
theorem nd_M_init_30 : decode nb_M_init 30 = .ok (.bipush 64, 2) := by decide +kernel
theorem nd_M_init_32 : decode nb_M_init 32 = .ok (.newarray .int, 2) := by decide +kernel
theorem nd_M_init_34 : decode nb_M_init 34 = .ok (.putfield 19, 3) := by decide +kernel
theorem nd_M_init_37 : decode nb_M_init 37 = .ok (.aload_n 0, 1) := by decide +kernel
theorem nd_M_init_38 : decode nb_M_init 38 = .ok (.bipush 64, 2) := by decide +kernel
theorem nd_M_init_40 : decode nb_M_init 40 = .ok (.newarray .int, 2) := by decide +kernel
theorem nd_M_init_42 : decode nb_M_init 42 = .ok (.putfield 22, 3) := by decide +kernel
theorem nd_M_init_45 : decode nb_M_init 45 = .ok (.aload_n 0, 1) := by decide +kernel
theorem nd_M_init_46 : decode nb_M_init 46 = .ok (.bipush 64, 2) := by decide +kernel
theorem nd_M_init_48 : decode nb_M_init 48 = .ok (.newarray .int, 2) := by decide +kernel
theorem nd_M_init_50 : decode nb_M_init 50 = .ok (.putfield 25, 3) := by decide +kernel
theorem nd_M_init_53 : decode nb_M_init 53 = .ok (.aload_n 0, 1) := by decide +kernel
theorem nd_M_init_54 : decode nb_M_init 54 = .ok (.bipush 64, 2) := by decide +kernel
theorem nd_M_init_56 : decode nb_M_init 56 = .ok (.newarray .int, 2) := by decide +kernel
theorem nd_M_init_58 : decode nb_M_init 58 = .ok (.putfield 28, 3) := by decide +kernel
theorem nd_M_init_61 : decode nb_M_init 61 = .ok (.aload_n 0, 1) := by decide +kernel
theorem nd_M_init_62 : decode nb_M_init 62 = .ok (.iconst 4, 1) := by decide +kernel
theorem nd_M_init_63 : decode nb_M_init 63 = .ok (.newarray .int, 2) := by decide +kernel
theorem nd_M_init_65 : decode nb_M_init 65 = .ok (.putfield 31, 3) := by decide +kernel
theorem nd_M_init_68 : decode nb_M_init 68 = .ok (.aload_n 0, 1) := by decide +kernel
theorem nd_M_init_69 : decode nb_M_init 69 = .ok (.sipush 1024, 3) := by decide +kernel
theorem nd_M_init_72 : decode nb_M_init 72 = .ok (.newarray .boolean, 2) := by decide +kernel
theorem nd_M_init_74 : decode nb_M_init 74 = .ok (.putfield 34, 3) := by decide +kernel
theorem nd_M_init_77 : decode nb_M_init 77 = .ok (.return_, 1) := by decide +kernel
theorem nd_M_thrown_0 : decode nb_M_thrown 0 = .ok (.aload_n 0, 1) := by decide +kernel
theorem nd_M_thrown_1 : decode nb_M_thrown 1 = .ok (.getfield 38, 3) := by decide +kernel
theorem nd_M_thrown_4 : decode nb_M_thrown 4 = .ok (.ireturn, 1) := by decide +kernel
theorem nd_M_throwsBy_0 : decode nb_M_throwsBy 0 = .ok (.aload_n 0, 1) := by decide +kernel
theorem nd_M_throwsBy_1 : decode nb_M_throwsBy 1 = .ok (.iload_n 1, 1) := by decide +kernel
theorem nd_M_throwsBy_2 : decode nb_M_throwsBy 2 = .ok (.putfield 38, 3) := by decide +kernel
theorem nd_M_throwsBy_5 : decode nb_M_throwsBy 5 = .ok (.iload_n 1, 1) := by decide +kernel
theorem nd_M_throwsBy_6 : decode nb_M_throwsBy 6 = .ok (.ifCond .le 7, 3) := by decide +kernel
theorem nd_M_throwsBy_9 : decode nb_M_throwsBy 9 = .ok (.iconst 1, 1) := by decide +kernel
theorem nd_M_throwsBy_10 : decode nb_M_throwsBy 10 = .ok (.goto 4, 3) := by decide +kernel
theorem nd_M_throwsBy_13 : decode nb_M_throwsBy 13 = .ok (.iconst 0, 1) := by decide +kernel
theorem nd_M_throwsBy_14 : decode nb_M_throwsBy 14 = .ok (.ireturn, 1) := by decide +kernel
theorem nd_M_in_0 : decode nb_M_in 0 = .ok (.iload_n 0, 1) := by decide +kernel
theorem nd_M_in_1 : decode nb_M_in 1 = .ok (.iload_n 1, 1) := by decide +kernel
theorem nd_M_in_2 : decode nb_M_in 2 = .ok (.if_icmp .lt 12, 3) := by decide +kernel
theorem nd_M_in_5 : decode nb_M_in 5 = .ok (.iload_n 0, 1) := by decide +kernel
theorem nd_M_in_6 : decode nb_M_in 6 = .ok (.iload_n 2, 1) := by decide +kernel
theorem nd_M_in_7 : decode nb_M_in 7 = .ok (.if_icmp .gt 7, 3) := by decide +kernel
theorem nd_M_in_10 : decode nb_M_in 10 = .ok (.iconst 1, 1) := by decide +kernel
theorem nd_M_in_11 : decode nb_M_in 11 = .ok (.goto 4, 3) := by decide +kernel
theorem nd_M_in_14 : decode nb_M_in 14 = .ok (.iconst 0, 1) := by decide +kernel
theorem nd_M_in_15 : decode nb_M_in 15 = .ok (.ireturn, 1) := by decide +kernel
theorem nd_M_countFree_0 : decode nb_M_countFree 0 = .ok (.iconst 0, 1) := by decide +kernel
theorem nd_M_countFree_1 : decode nb_M_countFree 1 = .ok (.istore_n 1, 1) := by decide +kernel
theorem nd_M_countFree_2 : decode nb_M_countFree 2 = .ok (.iconst 0, 1) := by decide +kernel
theorem nd_M_countFree_3 : decode nb_M_countFree 3 = .ok (.istore_n 2, 1) := by decide +kernel
theorem nd_M_countFree_4 : decode nb_M_countFree 4 = .ok (.iload_n 2, 1) := by decide +kernel
theorem nd_M_countFree_5 : decode nb_M_countFree 5 = .ok (.bipush 64, 2) := by decide +kernel
theorem nd_M_countFree_7 : decode nb_M_countFree 7 = .ok (.if_icmp .ge 26, 3) := by decide +kernel
theorem nd_M_countFree_10 : decode nb_M_countFree 10 = .ok (.aload_n 0, 1) := by decide +kernel
theorem nd_M_countFree_11 : decode nb_M_countFree 11 = .ok (.getfield 7, 3) := by decide +kernel
theorem nd_M_countFree_14 : decode nb_M_countFree 14 = .ok (.iload_n 2, 1) := by decide +kernel
theorem nd_M_countFree_15 : decode nb_M_countFree 15 = .ok (.iaload, 1) := by decide +kernel
theorem nd_M_countFree_16 : decode nb_M_countFree 16 = .ok (.ifCond .ne 9, 3) := by decide +kernel
theorem nd_M_countFree_19 : decode nb_M_countFree 19 = .ok (.iload_n 1, 1) := by decide +kernel
theorem nd_M_countFree_20 : decode nb_M_countFree 20 = .ok (.iconst 1, 1) := by decide +kernel
theorem nd_M_countFree_21 : decode nb_M_countFree 21 = .ok (.iadd, 1) := by decide +kernel
theorem nd_M_countFree_22 : decode nb_M_countFree 22 = .ok (.goto 4, 3) := by decide +kernel
theorem nd_M_countFree_25 : decode nb_M_countFree 25 = .ok (.iload_n 1, 1) := by decide +kernel
theorem nd_M_countFree_26 : decode nb_M_countFree 26 = .ok (.istore_n 1, 1) := by decide +kernel
theorem nd_M_countFree_27 : decode nb_M_countFree 27 = .ok (.iinc 2 1, 3) := by decide +kernel
theorem nd_M_countFree_30 : decode nb_M_countFree 30 = .ok (.goto (-26), 3) := by decide +kernel
theorem nd_M_countFree_33 : decode nb_M_countFree 33 = .ok (.iload_n 1, 1) := by decide +kernel
theorem nd_M_countFree_34 : decode nb_M_countFree 34 = .ok (.ireturn, 1) := by decide +kernel
theorem nd_M_isOpen_0 : decode nb_M_isOpen 0 = .ok (.iconst 1, 1) := by decide +kernel
theorem nd_M_isOpen_1 : decode nb_M_isOpen 1 = .ok (.istore_n 3, 1) := by decide +kernel
theorem nd_M_isOpen_2 : decode nb_M_isOpen 2 = .ok (.iload_n 1, 1) := by decide +kernel
theorem nd_M_isOpen_3 : decode nb_M_isOpen 3 = .ok (.istore 4, 2) := by decide +kernel
theorem nd_M_isOpen_5 : decode nb_M_isOpen 5 = .ok (.iload 4, 2) := by decide +kernel
theorem nd_M_isOpen_7 : decode nb_M_isOpen 7 = .ok (.iload_n 1, 1) := by decide +kernel
theorem nd_M_isOpen_8 : decode nb_M_isOpen 8 = .ok (.iload_n 2, 1) := by decide +kernel
theorem nd_M_isOpen_9 : decode nb_M_isOpen 9 = .ok (.iadd, 1) := by decide +kernel
theorem nd_M_isOpen_10 : decode nb_M_isOpen 10 = .ok (.if_icmp .ge 29, 3) := by decide +kernel
theorem nd_M_isOpen_13 : decode nb_M_isOpen 13 = .ok (.iload_n 3, 1) := by decide +kernel
theorem nd_M_isOpen_14 : decode nb_M_isOpen 14 = .ok (.ifCond .eq 17, 3) := by decide +kernel
theorem nd_M_isOpen_17 : decode nb_M_isOpen 17 = .ok (.aload_n 0, 1) := by decide +kernel
theorem nd_M_isOpen_18 : decode nb_M_isOpen 18 = .ok (.getfield 7, 3) := by decide +kernel
theorem nd_M_isOpen_21 : decode nb_M_isOpen 21 = .ok (.iload 4, 2) := by decide +kernel
theorem nd_M_isOpen_23 : decode nb_M_isOpen 23 = .ok (.iaload, 1) := by decide +kernel
theorem nd_M_isOpen_24 : decode nb_M_isOpen 24 = .ok (.ifCond .ne 7, 3) := by decide +kernel
theorem nd_M_isOpen_27 : decode nb_M_isOpen 27 = .ok (.iconst 1, 1) := by decide +kernel
theorem nd_M_isOpen_28 : decode nb_M_isOpen 28 = .ok (.goto 4, 3) := by decide +kernel
theorem nd_M_isOpen_31 : decode nb_M_isOpen 31 = .ok (.iconst 0, 1) := by decide +kernel
theorem nd_M_isOpen_32 : decode nb_M_isOpen 32 = .ok (.istore_n 3, 1) := by decide +kernel
theorem nd_M_isOpen_33 : decode nb_M_isOpen 33 = .ok (.iinc 4 1, 3) := by decide +kernel
theorem nd_M_isOpen_36 : decode nb_M_isOpen 36 = .ok (.goto (-31), 3) := by decide +kernel
theorem nd_M_isOpen_39 : decode nb_M_isOpen 39 = .ok (.iload_n 3, 1) := by decide +kernel
theorem nd_M_isOpen_40 : decode nb_M_isOpen 40 = .ok (.ireturn, 1) := by decide +kernel
theorem nd_M_isBlock_0 : decode nb_M_isBlock 0 = .ok (.aload_n 0, 1) := by decide +kernel
theorem nd_M_isBlock_1 : decode nb_M_isBlock 1 = .ok (.iload_n 1, 1) := by decide +kernel
theorem nd_M_isBlock_2 : decode nb_M_isBlock 2 = .ok (.iload_n 2, 1) := by decide +kernel
theorem nd_M_isBlock_3 : decode nb_M_isBlock 3 = .ok (.invokevirtual 42, 3) := by decide +kernel
theorem nd_M_isBlock_6 : decode nb_M_isBlock 6 = .ok (.ifCond .eq 30, 3) := by decide +kernel
theorem nd_M_isBlock_9 : decode nb_M_isBlock 9 = .ok (.iload_n 2, 1) := by decide +kernel
theorem nd_M_isBlock_10 : decode nb_M_isBlock 10 = .ok (.bipush 64, 2) := by decide +kernel
theorem nd_M_isBlock_12 : decode nb_M_isBlock 12 = .ok (.if_icmp .eq 20, 3) := by decide +kernel
theorem nd_M_isBlock_15 : decode nb_M_isBlock 15 = .ok (.aload_n 0, 1) := by decide +kernel
theorem nd_M_isBlock_16 : decode nb_M_isBlock 16 = .ok (.iload_n 1, 1) := by decide +kernel
theorem nd_M_isBlock_17 : decode nb_M_isBlock 17 = .ok (.iload_n 1, 1) := by decide +kernel
theorem nd_M_isBlock_18 : decode nb_M_isBlock 18 = .ok (.iconst 2, 1) := by decide +kernel
theorem nd_M_isBlock_19 : decode nb_M_isBlock 19 = .ok (.iload_n 2, 1) := by decide +kernel
theorem nd_M_isBlock_20 : decode nb_M_isBlock 20 = .ok (.imul, 1) := by decide +kernel
theorem nd_M_isBlock_21 : decode nb_M_isBlock 21 = .ok (.irem, 1) := by decide +kernel
theorem nd_M_isBlock_22 : decode nb_M_isBlock 22 = .ok (.isub, 1) := by decide +kernel
theorem nd_M_isBlock_23 : decode nb_M_isBlock 23 = .ok (.iconst 2, 1) := by decide +kernel
theorem nd_M_isBlock_24 : decode nb_M_isBlock 24 = .ok (.iload_n 2, 1) := by decide +kernel
theorem nd_M_isBlock_25 : decode nb_M_isBlock 25 = .ok (.imul, 1) := by decide +kernel
theorem nd_M_isBlock_26 : decode nb_M_isBlock 26 = .ok (.invokevirtual 42, 3) := by decide +kernel
theorem nd_M_isBlock_29 : decode nb_M_isBlock 29 = .ok (.ifCond .ne 7, 3) := by decide +kernel
theorem nd_M_isBlock_32 : decode nb_M_isBlock 32 = .ok (.iconst 1, 1) := by decide +kernel
theorem nd_M_isBlock_33 : decode nb_M_isBlock 33 = .ok (.goto 4, 3) := by decide +kernel
theorem nd_M_isBlock_36 : decode nb_M_isBlock 36 = .ok (.iconst 0, 1) := by decide +kernel
theorem nd_M_isBlock_37 : decode nb_M_isBlock 37 = .ok (.ireturn, 1) := by decide +kernel
theorem nd_M_lowest_0 : decode nb_M_lowest 0 = .ok (.iconst (-1), 1) := by decide +kernel
theorem nd_M_lowest_1 : decode nb_M_lowest 1 = .ok (.istore_n 1, 1) := by decide +kernel
theorem nd_M_lowest_2 : decode nb_M_lowest 2 = .ok (.iconst 1, 1) := by decide +kernel
theorem nd_M_lowest_3 : decode nb_M_lowest 3 = .ok (.istore_n 2, 1) := by decide +kernel
theorem nd_M_lowest_4 : decode nb_M_lowest 4 = .ok (.iload_n 2, 1) := by decide +kernel
theorem nd_M_lowest_5 : decode nb_M_lowest 5 = .ok (.bipush 64, 2) := by decide +kernel
theorem nd_M_lowest_7 : decode nb_M_lowest 7 = .ok (.if_icmp .gt 45, 3) := by decide +kernel
theorem nd_M_lowest_10 : decode nb_M_lowest 10 = .ok (.iload_n 1, 1) := by decide +kernel
theorem nd_M_lowest_11 : decode nb_M_lowest 11 = .ok (.ifCond .ge 41, 3) := by decide +kernel
theorem nd_M_lowest_14 : decode nb_M_lowest 14 = .ok (.bipush 64, 2) := by decide +kernel
theorem nd_M_lowest_16 : decode nb_M_lowest 16 = .ok (.iload_n 2, 1) := by decide +kernel
theorem nd_M_lowest_17 : decode nb_M_lowest 17 = .ok (.isub, 1) := by decide +kernel
theorem nd_M_lowest_18 : decode nb_M_lowest 18 = .ok (.istore_n 3, 1) := by decide +kernel
theorem nd_M_lowest_19 : decode nb_M_lowest 19 = .ok (.iload_n 3, 1) := by decide +kernel
theorem nd_M_lowest_20 : decode nb_M_lowest 20 = .ok (.ifCond .lt 25, 3) := by decide +kernel
theorem nd_M_lowest_23 : decode nb_M_lowest 23 = .ok (.aload_n 0, 1) := by decide +kernel
theorem nd_M_lowest_24 : decode nb_M_lowest 24 = .ok (.iload_n 3, 1) := by decide +kernel
theorem nd_M_lowest_25 : decode nb_M_lowest 25 = .ok (.iload_n 2, 1) := by decide +kernel
theorem nd_M_lowest_26 : decode nb_M_lowest 26 = .ok (.invokevirtual 46, 3) := by decide +kernel
theorem nd_M_lowest_29 : decode nb_M_lowest 29 = .ok (.ifCond .eq 7, 3) := by decide +kernel
theorem nd_M_lowest_32 : decode nb_M_lowest 32 = .ok (.iload_n 3, 1) := by decide +kernel
theorem nd_M_lowest_33 : decode nb_M_lowest 33 = .ok (.goto 4, 3) := by decide +kernel
theorem nd_M_lowest_36 : decode nb_M_lowest 36 = .ok (.iload_n 1, 1) := by decide +kernel
theorem nd_M_lowest_37 : decode nb_M_lowest 37 = .ok (.istore_n 1, 1) := by decide +kernel
theorem nd_M_lowest_38 : decode nb_M_lowest 38 = .ok (.iload_n 3, 1) := by decide +kernel
theorem nd_M_lowest_39 : decode nb_M_lowest 39 = .ok (.iload_n 2, 1) := by decide +kernel
theorem nd_M_lowest_40 : decode nb_M_lowest 40 = .ok (.isub, 1) := by decide +kernel
theorem nd_M_lowest_41 : decode nb_M_lowest 41 = .ok (.istore_n 3, 1) := by decide +kernel
theorem nd_M_lowest_42 : decode nb_M_lowest 42 = .ok (.goto (-23), 3) := by decide +kernel
theorem nd_M_lowest_45 : decode nb_M_lowest 45 = .ok (.iconst 2, 1) := by decide +kernel
theorem nd_M_lowest_46 : decode nb_M_lowest 46 = .ok (.iload_n 2, 1) := by decide +kernel
theorem nd_M_lowest_47 : decode nb_M_lowest 47 = .ok (.imul, 1) := by decide +kernel
theorem nd_M_lowest_48 : decode nb_M_lowest 48 = .ok (.istore_n 2, 1) := by decide +kernel
theorem nd_M_lowest_49 : decode nb_M_lowest 49 = .ok (.goto (-45), 3) := by decide +kernel
theorem nd_M_lowest_52 : decode nb_M_lowest 52 = .ok (.iload_n 1, 1) := by decide +kernel
theorem nd_M_lowest_53 : decode nb_M_lowest 53 = .ok (.ireturn, 1) := by decide +kernel
theorem nd_M_own_0 : decode nb_M_own 0 = .ok (.aload_n 0, 1) := by decide +kernel
theorem nd_M_own_1 : decode nb_M_own 1 = .ok (.getfield 7, 3) := by decide +kernel
theorem nd_M_own_4 : decode nb_M_own 4 = .ok (.iload_n 1, 1) := by decide +kernel
theorem nd_M_own_5 : decode nb_M_own 5 = .ok (.iload_n 2, 1) := by decide +kernel
theorem nd_M_own_6 : decode nb_M_own 6 = .ok (.iastore, 1) := by decide +kernel
theorem nd_M_own_7 : decode nb_M_own 7 = .ok (.iconst 0, 1) := by decide +kernel
theorem nd_M_own_8 : decode nb_M_own 8 = .ok (.istore_n 3, 1) := by decide +kernel
theorem nd_M_own_9 : decode nb_M_own 9 = .ok (.iload_n 3, 1) := by decide +kernel
theorem nd_M_own_10 : decode nb_M_own 10 = .ok (.bipush 16, 2) := by decide +kernel
theorem nd_M_own_12 : decode nb_M_own 12 = .ok (.if_icmp .ge 21, 3) := by decide +kernel
theorem nd_M_own_15 : decode nb_M_own 15 = .ok (.aload_n 0, 1) := by decide +kernel
theorem nd_M_own_16 : decode nb_M_own 16 = .ok (.getfield 13, 3) := by decide +kernel
theorem nd_M_own_19 : decode nb_M_own 19 = .ok (.bipush 16, 2) := by decide +kernel
theorem nd_M_own_21 : decode nb_M_own 21 = .ok (.iload_n 1, 1) := by decide +kernel
theorem nd_M_own_22 : decode nb_M_own 22 = .ok (.imul, 1) := by decide +kernel
theorem nd_M_own_23 : decode nb_M_own 23 = .ok (.iload_n 3, 1) := by decide +kernel
theorem nd_M_own_24 : decode nb_M_own 24 = .ok (.iadd, 1) := by decide +kernel
theorem nd_M_own_25 : decode nb_M_own 25 = .ok (.iconst 0, 1) := by decide +kernel
theorem nd_M_own_26 : decode nb_M_own 26 = .ok (.iastore, 1) := by decide +kernel
theorem nd_M_own_27 : decode nb_M_own 27 = .ok (.iinc 3 1, 3) := by decide +kernel
theorem nd_M_own_30 : decode nb_M_own 30 = .ok (.goto (-21), 3) := by decide +kernel
theorem nd_M_own_33 : decode nb_M_own 33 = .ok (.return_, 1) := by decide +kernel
theorem nd_M_give_0 : decode nb_M_give 0 = .ok (.aload_n 0, 1) := by decide +kernel
theorem nd_M_give_1 : decode nb_M_give 1 = .ok (.invokevirtual 49, 3) := by decide +kernel
theorem nd_M_give_4 : decode nb_M_give 4 = .ok (.istore_n 2, 1) := by decide +kernel
theorem nd_M_give_5 : decode nb_M_give 5 = .ok (.aload_n 0, 1) := by decide +kernel
theorem nd_M_give_6 : decode nb_M_give 6 = .ok (.iload_n 2, 1) := by decide +kernel
theorem nd_M_give_7 : decode nb_M_give 7 = .ok (.iload_n 1, 1) := by decide +kernel
theorem nd_M_give_8 : decode nb_M_give 8 = .ok (.invokevirtual 53, 3) := by decide +kernel
theorem nd_M_give_11 : decode nb_M_give 11 = .ok (.iload_n 2, 1) := by decide +kernel
theorem nd_M_give_12 : decode nb_M_give 12 = .ok (.ireturn, 1) := by decide +kernel
theorem nd_M_kmalloc_0 : decode nb_M_kmalloc 0 = .ok (.iload_n 1, 1) := by decide +kernel
theorem nd_M_kmalloc_1 : decode nb_M_kmalloc 1 = .ok (.iconst 2, 1) := by decide +kernel
theorem nd_M_kmalloc_2 : decode nb_M_kmalloc 2 = .ok (.if_icmp .gt 7, 3) := by decide +kernel
theorem nd_M_kmalloc_5 : decode nb_M_kmalloc 5 = .ok (.iconst 2, 1) := by decide +kernel
theorem nd_M_kmalloc_6 : decode nb_M_kmalloc 6 = .ok (.goto 14, 3) := by decide +kernel
theorem nd_M_kmalloc_9 : decode nb_M_kmalloc 9 = .ok (.iload_n 1, 1) := by decide +kernel
theorem nd_M_kmalloc_10 : decode nb_M_kmalloc 10 = .ok (.iconst 4, 1) := by decide +kernel
theorem nd_M_kmalloc_11 : decode nb_M_kmalloc 11 = .ok (.if_icmp .gt 7, 3) := by decide +kernel
theorem nd_M_kmalloc_14 : decode nb_M_kmalloc 14 = .ok (.iconst 4, 1) := by decide +kernel
theorem nd_M_kmalloc_15 : decode nb_M_kmalloc 15 = .ok (.goto 5, 3) := by decide +kernel
theorem nd_M_kmalloc_18 : decode nb_M_kmalloc 18 = .ok (.bipush 8, 2) := by decide +kernel
theorem nd_M_kmalloc_20 : decode nb_M_kmalloc 20 = .ok (.istore_n 2, 1) := by decide +kernel
theorem nd_M_kmalloc_21 : decode nb_M_kmalloc 21 = .ok (.iconst (-1), 1) := by decide +kernel
theorem nd_M_kmalloc_22 : decode nb_M_kmalloc 22 = .ok (.istore_n 3, 1) := by decide +kernel
theorem nd_M_kmalloc_23 : decode nb_M_kmalloc 23 = .ok (.bipush 63, 2) := by decide +kernel
theorem nd_M_kmalloc_25 : decode nb_M_kmalloc 25 = .ok (.istore 4, 2) := by decide +kernel
theorem nd_M_kmalloc_27 : decode nb_M_kmalloc 27 = .ok (.iload 4, 2) := by decide +kernel
theorem nd_M_kmalloc_29 : decode nb_M_kmalloc 29 = .ok (.ifCond .lt 56, 3) := by decide +kernel
theorem nd_M_kmalloc_32 : decode nb_M_kmalloc 32 = .ok (.aload_n 0, 1) := by decide +kernel
theorem nd_M_kmalloc_33 : decode nb_M_kmalloc 33 = .ok (.getfield 7, 3) := by decide +kernel
theorem nd_M_kmalloc_36 : decode nb_M_kmalloc 36 = .ok (.iload 4, 2) := by decide +kernel
theorem nd_M_kmalloc_38 : decode nb_M_kmalloc 38 = .ok (.iaload, 1) := by decide +kernel
theorem nd_M_kmalloc_39 : decode nb_M_kmalloc 39 = .ok (.iconst 2, 1) := by decide +kernel
theorem nd_M_kmalloc_40 : decode nb_M_kmalloc 40 = .ok (.if_icmp .ne 37, 3) := by decide +kernel
theorem nd_M_kmalloc_43 : decode nb_M_kmalloc 43 = .ok (.aload_n 0, 1) := by decide +kernel
theorem nd_M_kmalloc_44 : decode nb_M_kmalloc 44 = .ok (.getfield 16, 3) := by decide +kernel
theorem nd_M_kmalloc_47 : decode nb_M_kmalloc 47 = .ok (.iload 4, 2) := by decide +kernel
theorem nd_M_kmalloc_49 : decode nb_M_kmalloc 49 = .ok (.iaload, 1) := by decide +kernel
theorem nd_M_kmalloc_50 : decode nb_M_kmalloc 50 = .ok (.iload_n 2, 1) := by decide +kernel
theorem nd_M_kmalloc_51 : decode nb_M_kmalloc 51 = .ok (.if_icmp .ne 26, 3) := by decide +kernel
theorem nd_M_kmalloc_54 : decode nb_M_kmalloc 54 = .ok (.aload_n 0, 1) := by decide +kernel
theorem nd_M_kmalloc_55 : decode nb_M_kmalloc 55 = .ok (.getfield 19, 3) := by decide +kernel
theorem nd_M_kmalloc_58 : decode nb_M_kmalloc 58 = .ok (.iload 4, 2) := by decide +kernel
theorem nd_M_kmalloc_60 : decode nb_M_kmalloc 60 = .ok (.iaload, 1) := by decide +kernel
theorem nd_M_kmalloc_61 : decode nb_M_kmalloc 61 = .ok (.iconst 1, 1) := by decide +kernel
theorem nd_M_kmalloc_62 : decode nb_M_kmalloc 62 = .ok (.bipush 16, 2) := by decide +kernel
theorem nd_M_kmalloc_64 : decode nb_M_kmalloc 64 = .ok (.iload_n 2, 1) := by decide +kernel
theorem nd_M_kmalloc_65 : decode nb_M_kmalloc 65 = .ok (.idiv, 1) := by decide +kernel
theorem nd_M_kmalloc_66 : decode nb_M_kmalloc 66 = .ok (.ishl, 1) := by decide +kernel
theorem nd_M_kmalloc_67 : decode nb_M_kmalloc 67 = .ok (.iconst 1, 1) := by decide +kernel
theorem nd_M_kmalloc_68 : decode nb_M_kmalloc 68 = .ok (.isub, 1) := by decide +kernel
theorem nd_M_kmalloc_69 : decode nb_M_kmalloc 69 = .ok (.if_icmp .eq 8, 3) := by decide +kernel
theorem nd_M_kmalloc_72 : decode nb_M_kmalloc 72 = .ok (.iload 4, 2) := by decide +kernel
theorem nd_M_kmalloc_74 : decode nb_M_kmalloc 74 = .ok (.goto 4, 3) := by decide +kernel
theorem nd_M_kmalloc_77 : decode nb_M_kmalloc 77 = .ok (.iload_n 3, 1) := by decide +kernel
theorem nd_M_kmalloc_78 : decode nb_M_kmalloc 78 = .ok (.istore_n 3, 1) := by decide +kernel
theorem nd_M_kmalloc_79 : decode nb_M_kmalloc 79 = .ok (.iinc 4 (-1), 3) := by decide +kernel
theorem nd_M_kmalloc_82 : decode nb_M_kmalloc 82 = .ok (.goto (-55), 3) := by decide +kernel
theorem nd_M_kmalloc_85 : decode nb_M_kmalloc 85 = .ok (.aload_n 0, 1) := by decide +kernel
theorem nd_M_kmalloc_86 : decode nb_M_kmalloc 86 = .ok (.iload_n 1, 1) := by decide +kernel
theorem nd_M_kmalloc_87 : decode nb_M_kmalloc 87 = .ok (.iconst 1, 1) := by decide +kernel
theorem nd_M_kmalloc_88 : decode nb_M_kmalloc 88 = .ok (.bipush 8, 2) := by decide +kernel
theorem nd_M_kmalloc_90 : decode nb_M_kmalloc 90 = .ok (.invokestatic 57, 3) := by decide +kernel
theorem nd_M_kmalloc_93 : decode nb_M_kmalloc 93 = .ok (.ifCond .ne 7, 3) := by decide +kernel
theorem nd_M_kmalloc_96 : decode nb_M_kmalloc 96 = .ok (.iconst 1, 1) := by decide +kernel
theorem nd_M_kmalloc_97 : decode nb_M_kmalloc 97 = .ok (.goto 19, 3) := by decide +kernel
theorem nd_M_kmalloc_100 : decode nb_M_kmalloc 100 = .ok (.iload_n 3, 1) := by decide +kernel
theorem nd_M_kmalloc_101 : decode nb_M_kmalloc 101 = .ok (.ifCond .ge 14, 3) := by decide +kernel
theorem nd_M_kmalloc_104 : decode nb_M_kmalloc 104 = .ok (.aload_n 0, 1) := by decide +kernel
theorem nd_M_kmalloc_105 : decode nb_M_kmalloc 105 = .ok (.invokevirtual 61, 3) := by decide +kernel
theorem nd_M_kmalloc_108 : decode nb_M_kmalloc 108 = .ok (.ifCond .ne 7, 3) := by decide +kernel
theorem nd_M_kmalloc_111 : decode nb_M_kmalloc 111 = .ok (.iconst 2, 1) := by decide +kernel
theorem nd_M_kmalloc_112 : decode nb_M_kmalloc 112 = .ok (.goto 4, 3) := by decide +kernel
theorem nd_M_kmalloc_115 : decode nb_M_kmalloc 115 = .ok (.iconst 0, 1) := by decide +kernel
theorem nd_M_kmalloc_116 : decode nb_M_kmalloc 116 = .ok (.invokevirtual 64, 3) := by decide +kernel
theorem nd_M_kmalloc_119 : decode nb_M_kmalloc 119 = .ok (.ifCond .eq 5, 3) := by decide +kernel
theorem nd_M_kmalloc_122 : decode nb_M_kmalloc 122 = .ok (.iconst 0, 1) := by decide +kernel
theorem nd_M_kmalloc_123 : decode nb_M_kmalloc 123 = .ok (.ireturn, 1) := by decide +kernel
theorem nd_M_kmalloc_124 : decode nb_M_kmalloc 124 = .ok (.iload_n 3, 1) := by decide +kernel
theorem nd_M_kmalloc_125 : decode nb_M_kmalloc 125 = .ok (.ifCond .ge 23, 3) := by decide +kernel
theorem nd_M_kmalloc_128 : decode nb_M_kmalloc 128 = .ok (.aload_n 0, 1) := by decide +kernel
theorem nd_M_kmalloc_129 : decode nb_M_kmalloc 129 = .ok (.iconst 2, 1) := by decide +kernel
theorem nd_M_kmalloc_130 : decode nb_M_kmalloc 130 = .ok (.invokevirtual 68, 3) := by decide +kernel
theorem nd_M_kmalloc_133 : decode nb_M_kmalloc 133 = .ok (.istore_n 3, 1) := by decide +kernel
theorem nd_M_kmalloc_134 : decode nb_M_kmalloc 134 = .ok (.aload_n 0, 1) := by decide +kernel
theorem nd_M_kmalloc_135 : decode nb_M_kmalloc 135 = .ok (.getfield 16, 3) := by decide +kernel
theorem nd_M_kmalloc_138 : decode nb_M_kmalloc 138 = .ok (.iload_n 3, 1) := by decide +kernel
theorem nd_M_kmalloc_139 : decode nb_M_kmalloc 139 = .ok (.iload_n 2, 1) := by decide +kernel
theorem nd_M_kmalloc_140 : decode nb_M_kmalloc 140 = .ok (.iastore, 1) := by decide +kernel
theorem nd_M_kmalloc_141 : decode nb_M_kmalloc 141 = .ok (.aload_n 0, 1) := by decide +kernel
theorem nd_M_kmalloc_142 : decode nb_M_kmalloc 142 = .ok (.getfield 19, 3) := by decide +kernel
theorem nd_M_kmalloc_145 : decode nb_M_kmalloc 145 = .ok (.iload_n 3, 1) := by decide +kernel
theorem nd_M_kmalloc_146 : decode nb_M_kmalloc 146 = .ok (.iconst 0, 1) := by decide +kernel
theorem nd_M_kmalloc_147 : decode nb_M_kmalloc 147 = .ok (.iastore, 1) := by decide +kernel
theorem nd_M_kmalloc_148 : decode nb_M_kmalloc 148 = .ok (.iconst 0, 1) := by decide +kernel
theorem nd_M_kmalloc_149 : decode nb_M_kmalloc 149 = .ok (.istore 4, 2) := by decide +kernel
theorem nd_M_kmalloc_151 : decode nb_M_kmalloc 151 = .ok (.aload_n 0, 1) := by decide +kernel
theorem nd_M_kmalloc_152 : decode nb_M_kmalloc 152 = .ok (.getfield 19, 3) := by decide +kernel
theorem nd_M_kmalloc_155 : decode nb_M_kmalloc 155 = .ok (.iload_n 3, 1) := by decide +kernel
theorem nd_M_kmalloc_156 : decode nb_M_kmalloc 156 = .ok (.iaload, 1) := by decide +kernel
theorem nd_M_kmalloc_157 : decode nb_M_kmalloc 157 = .ok (.iload 4, 2) := by decide +kernel
theorem nd_M_kmalloc_159 : decode nb_M_kmalloc 159 = .ok (.ishr, 1) := by decide +kernel
theorem nd_M_kmalloc_160 : decode nb_M_kmalloc 160 = .ok (.iconst 1, 1) := by decide +kernel
theorem nd_M_kmalloc_161 : decode nb_M_kmalloc 161 = .ok (.iand, 1) := by decide +kernel
theorem nd_M_kmalloc_162 : decode nb_M_kmalloc 162 = .ok (.iconst 1, 1) := by decide +kernel
theorem nd_M_kmalloc_163 : decode nb_M_kmalloc 163 = .ok (.if_icmp .ne 12, 3) := by decide +kernel
theorem nd_M_kmalloc_166 : decode nb_M_kmalloc 166 = .ok (.iload 4, 2) := by decide +kernel
theorem nd_M_kmalloc_168 : decode nb_M_kmalloc 168 = .ok (.iconst 1, 1) := by decide +kernel
theorem nd_M_kmalloc_169 : decode nb_M_kmalloc 169 = .ok (.iadd, 1) := by decide +kernel
theorem nd_M_kmalloc_170 : decode nb_M_kmalloc 170 = .ok (.istore 4, 2) := by decide +kernel
theorem nd_M_kmalloc_172 : decode nb_M_kmalloc 172 = .ok (.goto (-21), 3) := by decide +kernel
theorem nd_M_kmalloc_175 : decode nb_M_kmalloc 175 = .ok (.aload_n 0, 1) := by decide +kernel
theorem nd_M_kmalloc_176 : decode nb_M_kmalloc 176 = .ok (.getfield 19, 3) := by decide +kernel
theorem nd_M_kmalloc_179 : decode nb_M_kmalloc 179 = .ok (.iload_n 3, 1) := by decide +kernel
theorem nd_M_kmalloc_180 : decode nb_M_kmalloc 180 = .ok (.aload_n 0, 1) := by decide +kernel
theorem nd_M_kmalloc_181 : decode nb_M_kmalloc 181 = .ok (.getfield 19, 3) := by decide +kernel
theorem nd_M_kmalloc_184 : decode nb_M_kmalloc 184 = .ok (.iload_n 3, 1) := by decide +kernel
theorem nd_M_kmalloc_185 : decode nb_M_kmalloc 185 = .ok (.iaload, 1) := by decide +kernel
theorem nd_M_kmalloc_186 : decode nb_M_kmalloc 186 = .ok (.iconst 1, 1) := by decide +kernel
theorem nd_M_kmalloc_187 : decode nb_M_kmalloc 187 = .ok (.iload 4, 2) := by decide +kernel
theorem nd_M_kmalloc_189 : decode nb_M_kmalloc 189 = .ok (.ishl, 1) := by decide +kernel
theorem nd_M_kmalloc_190 : decode nb_M_kmalloc 190 = .ok (.ior, 1) := by decide +kernel
theorem nd_M_kmalloc_191 : decode nb_M_kmalloc 191 = .ok (.iastore, 1) := by decide +kernel
theorem nd_M_kmalloc_192 : decode nb_M_kmalloc 192 = .ok (.bipush 16, 2) := by decide +kernel
theorem nd_M_kmalloc_194 : decode nb_M_kmalloc 194 = .ok (.iload_n 3, 1) := by decide +kernel
theorem nd_M_kmalloc_195 : decode nb_M_kmalloc 195 = .ok (.imul, 1) := by decide +kernel
theorem nd_M_kmalloc_196 : decode nb_M_kmalloc 196 = .ok (.iload_n 2, 1) := by decide +kernel
theorem nd_M_kmalloc_197 : decode nb_M_kmalloc 197 = .ok (.iload 4, 2) := by decide +kernel
theorem nd_M_kmalloc_199 : decode nb_M_kmalloc 199 = .ok (.imul, 1) := by decide +kernel
theorem nd_M_kmalloc_200 : decode nb_M_kmalloc 200 = .ok (.iadd, 1) := by decide +kernel
theorem nd_M_kmalloc_201 : decode nb_M_kmalloc 201 = .ok (.istore 5, 2) := by decide +kernel
theorem nd_M_kmalloc_203 : decode nb_M_kmalloc 203 = .ok (.iconst 0, 1) := by decide +kernel
theorem nd_M_kmalloc_204 : decode nb_M_kmalloc 204 = .ok (.istore 6, 2) := by decide +kernel
theorem nd_M_kmalloc_206 : decode nb_M_kmalloc 206 = .ok (.iload 6, 2) := by decide +kernel
theorem nd_M_kmalloc_208 : decode nb_M_kmalloc 208 = .ok (.iload_n 2, 1) := by decide +kernel
theorem nd_M_kmalloc_209 : decode nb_M_kmalloc 209 = .ok (.if_icmp .ge 20, 3) := by decide +kernel
theorem nd_M_kmalloc_212 : decode nb_M_kmalloc 212 = .ok (.aload_n 0, 1) := by decide +kernel
theorem nd_M_kmalloc_213 : decode nb_M_kmalloc 213 = .ok (.getfield 13, 3) := by decide +kernel
theorem nd_M_kmalloc_216 : decode nb_M_kmalloc 216 = .ok (.iload 5, 2) := by decide +kernel
theorem nd_M_kmalloc_218 : decode nb_M_kmalloc 218 = .ok (.iload 6, 2) := by decide +kernel
theorem nd_M_kmalloc_220 : decode nb_M_kmalloc 220 = .ok (.iadd, 1) := by decide +kernel
theorem nd_M_kmalloc_221 : decode nb_M_kmalloc 221 = .ok (.iconst 0, 1) := by decide +kernel
theorem nd_M_kmalloc_222 : decode nb_M_kmalloc 222 = .ok (.iastore, 1) := by decide +kernel
theorem nd_M_kmalloc_223 : decode nb_M_kmalloc 223 = .ok (.iinc 6 1, 3) := by decide +kernel
theorem nd_M_kmalloc_226 : decode nb_M_kmalloc 226 = .ok (.goto (-20), 3) := by decide +kernel
theorem nd_M_kmalloc_229 : decode nb_M_kmalloc 229 = .ok (.iload 5, 2) := by decide +kernel
theorem nd_M_kmalloc_231 : decode nb_M_kmalloc 231 = .ok (.ireturn, 1) := by decide +kernel
theorem nd_M_isObject_0 : decode nb_M_isObject 0 = .ok (.iload_n 1, 1) := by decide +kernel
theorem nd_M_isObject_1 : decode nb_M_isObject 1 = .ok (.iconst 0, 1) := by decide +kernel
theorem nd_M_isObject_2 : decode nb_M_isObject 2 = .ok (.sipush 1023, 3) := by decide +kernel
theorem nd_M_isObject_5 : decode nb_M_isObject 5 = .ok (.invokestatic 57, 3) := by decide +kernel
theorem nd_M_isObject_8 : decode nb_M_isObject 8 = .ok (.ifCond .eq 16, 3) := by decide +kernel
theorem nd_M_isObject_11 : decode nb_M_isObject 11 = .ok (.aload_n 0, 1) := by decide +kernel
theorem nd_M_isObject_12 : decode nb_M_isObject 12 = .ok (.getfield 7, 3) := by decide +kernel
theorem nd_M_isObject_15 : decode nb_M_isObject 15 = .ok (.iload_n 1, 1) := by decide +kernel
theorem nd_M_isObject_16 : decode nb_M_isObject 16 = .ok (.bipush 16, 2) := by decide +kernel
theorem nd_M_isObject_18 : decode nb_M_isObject 18 = .ok (.idiv, 1) := by decide +kernel
theorem nd_M_isObject_19 : decode nb_M_isObject 19 = .ok (.iaload, 1) := by decide +kernel
theorem nd_M_isObject_20 : decode nb_M_isObject 20 = .ok (.iconst 2, 1) := by decide +kernel
theorem nd_M_isObject_21 : decode nb_M_isObject 21 = .ok (.if_icmp .eq 5, 3) := by decide +kernel
theorem nd_M_isObject_24 : decode nb_M_isObject 24 = .ok (.iconst 0, 1) := by decide +kernel
theorem nd_M_isObject_25 : decode nb_M_isObject 25 = .ok (.ireturn, 1) := by decide +kernel
theorem nd_M_isObject_26 : decode nb_M_isObject 26 = .ok (.aload_n 0, 1) := by decide +kernel
theorem nd_M_isObject_27 : decode nb_M_isObject 27 = .ok (.getfield 19, 3) := by decide +kernel
theorem nd_M_isObject_30 : decode nb_M_isObject 30 = .ok (.iload_n 1, 1) := by decide +kernel
theorem nd_M_isObject_31 : decode nb_M_isObject 31 = .ok (.bipush 16, 2) := by decide +kernel
theorem nd_M_isObject_33 : decode nb_M_isObject 33 = .ok (.idiv, 1) := by decide +kernel
theorem nd_M_isObject_34 : decode nb_M_isObject 34 = .ok (.iaload, 1) := by decide +kernel
theorem nd_M_isObject_35 : decode nb_M_isObject 35 = .ok (.iload_n 1, 1) := by decide +kernel
theorem nd_M_isObject_36 : decode nb_M_isObject 36 = .ok (.bipush 16, 2) := by decide +kernel
theorem nd_M_isObject_38 : decode nb_M_isObject 38 = .ok (.irem, 1) := by decide +kernel
theorem nd_M_isObject_39 : decode nb_M_isObject 39 = .ok (.aload_n 0, 1) := by decide +kernel
theorem nd_M_isObject_40 : decode nb_M_isObject 40 = .ok (.getfield 16, 3) := by decide +kernel
theorem nd_M_isObject_43 : decode nb_M_isObject 43 = .ok (.iload_n 1, 1) := by decide +kernel
theorem nd_M_isObject_44 : decode nb_M_isObject 44 = .ok (.bipush 16, 2) := by decide +kernel
theorem nd_M_isObject_46 : decode nb_M_isObject 46 = .ok (.idiv, 1) := by decide +kernel
theorem nd_M_isObject_47 : decode nb_M_isObject 47 = .ok (.iaload, 1) := by decide +kernel
theorem nd_M_isObject_48 : decode nb_M_isObject 48 = .ok (.idiv, 1) := by decide +kernel
theorem nd_M_isObject_49 : decode nb_M_isObject 49 = .ok (.ishr, 1) := by decide +kernel
theorem nd_M_isObject_50 : decode nb_M_isObject 50 = .ok (.iconst 1, 1) := by decide +kernel
theorem nd_M_isObject_51 : decode nb_M_isObject 51 = .ok (.iand, 1) := by decide +kernel
theorem nd_M_isObject_52 : decode nb_M_isObject 52 = .ok (.iconst 1, 1) := by decide +kernel
theorem nd_M_isObject_53 : decode nb_M_isObject 53 = .ok (.if_icmp .ne 7, 3) := by decide +kernel
theorem nd_M_isObject_56 : decode nb_M_isObject 56 = .ok (.iconst 1, 1) := by decide +kernel
theorem nd_M_isObject_57 : decode nb_M_isObject 57 = .ok (.goto 4, 3) := by decide +kernel
theorem nd_M_isObject_60 : decode nb_M_isObject 60 = .ok (.iconst 0, 1) := by decide +kernel
theorem nd_M_isObject_61 : decode nb_M_isObject 61 = .ok (.ireturn, 1) := by decide +kernel
theorem nd_M_kfree_0 : decode nb_M_kfree 0 = .ok (.aload_n 0, 1) := by decide +kernel
theorem nd_M_kfree_1 : decode nb_M_kfree 1 = .ok (.aload_n 0, 1) := by decide +kernel
theorem nd_M_kfree_2 : decode nb_M_kfree 2 = .ok (.iload_n 1, 1) := by decide +kernel
theorem nd_M_kfree_3 : decode nb_M_kfree 3 = .ok (.invokevirtual 72, 3) := by decide +kernel
theorem nd_M_kfree_6 : decode nb_M_kfree 6 = .ok (.ifCond .eq 24, 3) := by decide +kernel
theorem nd_M_kfree_9 : decode nb_M_kfree 9 = .ok (.iload_n 1, 1) := by decide +kernel
theorem nd_M_kfree_10 : decode nb_M_kfree 10 = .ok (.bipush 16, 2) := by decide +kernel
theorem nd_M_kfree_12 : decode nb_M_kfree 12 = .ok (.irem, 1) := by decide +kernel
theorem nd_M_kfree_13 : decode nb_M_kfree 13 = .ok (.aload_n 0, 1) := by decide +kernel
theorem nd_M_kfree_14 : decode nb_M_kfree 14 = .ok (.getfield 16, 3) := by decide +kernel
theorem nd_M_kfree_17 : decode nb_M_kfree 17 = .ok (.iload_n 1, 1) := by decide +kernel
theorem nd_M_kfree_18 : decode nb_M_kfree 18 = .ok (.bipush 16, 2) := by decide +kernel
theorem nd_M_kfree_20 : decode nb_M_kfree 20 = .ok (.idiv, 1) := by decide +kernel
theorem nd_M_kfree_21 : decode nb_M_kfree 21 = .ok (.iaload, 1) := by decide +kernel
theorem nd_M_kfree_22 : decode nb_M_kfree 22 = .ok (.irem, 1) := by decide +kernel
theorem nd_M_kfree_23 : decode nb_M_kfree 23 = .ok (.ifCond .ne 7, 3) := by decide +kernel
theorem nd_M_kfree_26 : decode nb_M_kfree 26 = .ok (.iconst 0, 1) := by decide +kernel
theorem nd_M_kfree_27 : decode nb_M_kfree 27 = .ok (.goto 4, 3) := by decide +kernel
theorem nd_M_kfree_30 : decode nb_M_kfree 30 = .ok (.iconst 1, 1) := by decide +kernel
theorem nd_M_kfree_31 : decode nb_M_kfree 31 = .ok (.invokevirtual 64, 3) := by decide +kernel
theorem nd_M_kfree_34 : decode nb_M_kfree 34 = .ok (.ifCond .eq 4, 3) := by decide +kernel
theorem nd_M_kfree_37 : decode nb_M_kfree 37 = .ok (.return_, 1) := by decide +kernel
theorem nd_M_kfree_38 : decode nb_M_kfree 38 = .ok (.iload_n 1, 1) := by decide +kernel
theorem nd_M_kfree_39 : decode nb_M_kfree 39 = .ok (.bipush 16, 2) := by decide +kernel
theorem nd_M_kfree_41 : decode nb_M_kfree 41 = .ok (.idiv, 1) := by decide +kernel
theorem nd_M_kfree_42 : decode nb_M_kfree 42 = .ok (.istore_n 2, 1) := by decide +kernel
theorem nd_M_kfree_43 : decode nb_M_kfree 43 = .ok (.aload_n 0, 1) := by decide +kernel
theorem nd_M_kfree_44 : decode nb_M_kfree 44 = .ok (.getfield 19, 3) := by decide +kernel
theorem nd_M_kfree_47 : decode nb_M_kfree 47 = .ok (.iload_n 2, 1) := by decide +kernel
theorem nd_M_kfree_48 : decode nb_M_kfree 48 = .ok (.aload_n 0, 1) := by decide +kernel
theorem nd_M_kfree_49 : decode nb_M_kfree 49 = .ok (.getfield 19, 3) := by decide +kernel
theorem nd_M_kfree_52 : decode nb_M_kfree 52 = .ok (.iload_n 2, 1) := by decide +kernel
theorem nd_M_kfree_53 : decode nb_M_kfree 53 = .ok (.iaload, 1) := by decide +kernel
theorem nd_M_kfree_54 : decode nb_M_kfree 54 = .ok (.iconst 1, 1) := by decide +kernel
theorem nd_M_kfree_55 : decode nb_M_kfree 55 = .ok (.iload_n 1, 1) := by decide +kernel
theorem nd_M_kfree_56 : decode nb_M_kfree 56 = .ok (.bipush 16, 2) := by decide +kernel
theorem nd_M_kfree_58 : decode nb_M_kfree 58 = .ok (.irem, 1) := by decide +kernel
theorem nd_M_kfree_59 : decode nb_M_kfree 59 = .ok (.aload_n 0, 1) := by decide +kernel
theorem nd_M_kfree_60 : decode nb_M_kfree 60 = .ok (.getfield 16, 3) := by decide +kernel
theorem nd_M_kfree_63 : decode nb_M_kfree 63 = .ok (.iload_n 2, 1) := by decide +kernel
theorem nd_M_kfree_64 : decode nb_M_kfree 64 = .ok (.iaload, 1) := by decide +kernel
theorem nd_M_kfree_65 : decode nb_M_kfree 65 = .ok (.idiv, 1) := by decide +kernel
theorem nd_M_kfree_66 : decode nb_M_kfree 66 = .ok (.ishl, 1) := by decide +kernel
theorem nd_M_kfree_67 : decode nb_M_kfree 67 = .ok (.iconst (-1), 1) := by decide +kernel
theorem nd_M_kfree_68 : decode nb_M_kfree 68 = .ok (.ixor, 1) := by decide +kernel
theorem nd_M_kfree_69 : decode nb_M_kfree 69 = .ok (.iand, 1) := by decide +kernel
theorem nd_M_kfree_70 : decode nb_M_kfree 70 = .ok (.iastore, 1) := by decide +kernel
theorem nd_M_kfree_71 : decode nb_M_kfree 71 = .ok (.aload_n 0, 1) := by decide +kernel
theorem nd_M_kfree_72 : decode nb_M_kfree 72 = .ok (.getfield 7, 3) := by decide +kernel
theorem nd_M_kfree_75 : decode nb_M_kfree 75 = .ok (.iload_n 2, 1) := by decide +kernel
theorem nd_M_kfree_76 : decode nb_M_kfree 76 = .ok (.aload_n 0, 1) := by decide +kernel
theorem nd_M_kfree_77 : decode nb_M_kfree 77 = .ok (.getfield 19, 3) := by decide +kernel
theorem nd_M_kfree_80 : decode nb_M_kfree 80 = .ok (.iload_n 2, 1) := by decide +kernel
theorem nd_M_kfree_81 : decode nb_M_kfree 81 = .ok (.iaload, 1) := by decide +kernel
theorem nd_M_kfree_82 : decode nb_M_kfree 82 = .ok (.ifCond .ne 7, 3) := by decide +kernel
theorem nd_M_kfree_85 : decode nb_M_kfree 85 = .ok (.iconst 0, 1) := by decide +kernel
theorem nd_M_kfree_86 : decode nb_M_kfree 86 = .ok (.goto 4, 3) := by decide +kernel
theorem nd_M_kfree_89 : decode nb_M_kfree 89 = .ok (.iconst 2, 1) := by decide +kernel
theorem nd_M_kfree_90 : decode nb_M_kfree 90 = .ok (.iastore, 1) := by decide +kernel
theorem nd_M_kfree_91 : decode nb_M_kfree 91 = .ok (.return_, 1) := by decide +kernel
theorem nd_M_rowOf_0 : decode nb_M_rowOf 0 = .ok (.iconst (-1), 1) := by decide +kernel
theorem nd_M_rowOf_1 : decode nb_M_rowOf 1 = .ok (.istore_n 2, 1) := by decide +kernel
theorem nd_M_rowOf_2 : decode nb_M_rowOf 2 = .ok (.bipush 64, 2) := by decide +kernel
theorem nd_M_rowOf_4 : decode nb_M_rowOf 4 = .ok (.iload_n 1, 1) := by decide +kernel
theorem nd_M_rowOf_5 : decode nb_M_rowOf 5 = .ok (.isub, 1) := by decide +kernel
theorem nd_M_rowOf_6 : decode nb_M_rowOf 6 = .ok (.istore_n 3, 1) := by decide +kernel
theorem nd_M_rowOf_7 : decode nb_M_rowOf 7 = .ok (.iload_n 3, 1) := by decide +kernel
theorem nd_M_rowOf_8 : decode nb_M_rowOf 8 = .ok (.ifCond .lt 62, 3) := by decide +kernel
theorem nd_M_rowOf_11 : decode nb_M_rowOf 11 = .ok (.iconst 1, 1) := by decide +kernel
theorem nd_M_rowOf_12 : decode nb_M_rowOf 12 = .ok (.istore 4, 2) := by decide +kernel
theorem nd_M_rowOf_14 : decode nb_M_rowOf 14 = .ok (.iload_n 3, 1) := by decide +kernel
theorem nd_M_rowOf_15 : decode nb_M_rowOf 15 = .ok (.istore 5, 2) := by decide +kernel
theorem nd_M_rowOf_17 : decode nb_M_rowOf 17 = .ok (.iload 5, 2) := by decide +kernel
theorem nd_M_rowOf_19 : decode nb_M_rowOf 19 = .ok (.iload_n 3, 1) := by decide +kernel
theorem nd_M_rowOf_20 : decode nb_M_rowOf 20 = .ok (.iload_n 1, 1) := by decide +kernel
theorem nd_M_rowOf_21 : decode nb_M_rowOf 21 = .ok (.iadd, 1) := by decide +kernel
theorem nd_M_rowOf_22 : decode nb_M_rowOf 22 = .ok (.if_icmp .ge 31, 3) := by decide +kernel
theorem nd_M_rowOf_25 : decode nb_M_rowOf 25 = .ok (.iload 4, 2) := by decide +kernel
theorem nd_M_rowOf_27 : decode nb_M_rowOf 27 = .ok (.ifCond .eq 17, 3) := by decide +kernel
theorem nd_M_rowOf_30 : decode nb_M_rowOf 30 = .ok (.aload_n 0, 1) := by decide +kernel
theorem nd_M_rowOf_31 : decode nb_M_rowOf 31 = .ok (.getfield 25, 3) := by decide +kernel
theorem nd_M_rowOf_34 : decode nb_M_rowOf 34 = .ok (.iload 5, 2) := by decide +kernel
theorem nd_M_rowOf_36 : decode nb_M_rowOf 36 = .ok (.iaload, 1) := by decide +kernel
theorem nd_M_rowOf_37 : decode nb_M_rowOf 37 = .ok (.ifCond .ne 7, 3) := by decide +kernel
theorem nd_M_rowOf_40 : decode nb_M_rowOf 40 = .ok (.iconst 1, 1) := by decide +kernel
theorem nd_M_rowOf_41 : decode nb_M_rowOf 41 = .ok (.goto 4, 3) := by decide +kernel
theorem nd_M_rowOf_44 : decode nb_M_rowOf 44 = .ok (.iconst 0, 1) := by decide +kernel
theorem nd_M_rowOf_45 : decode nb_M_rowOf 45 = .ok (.istore 4, 2) := by decide +kernel
theorem nd_M_rowOf_47 : decode nb_M_rowOf 47 = .ok (.iinc 5 1, 3) := by decide +kernel
theorem nd_M_rowOf_50 : decode nb_M_rowOf 50 = .ok (.goto (-33), 3) := by decide +kernel
theorem nd_M_rowOf_53 : decode nb_M_rowOf 53 = .ok (.iload 4, 2) := by decide +kernel
theorem nd_M_rowOf_55 : decode nb_M_rowOf 55 = .ok (.ifCond .eq 7, 3) := by decide +kernel
theorem nd_M_rowOf_58 : decode nb_M_rowOf 58 = .ok (.iload_n 3, 1) := by decide +kernel
theorem nd_M_rowOf_59 : decode nb_M_rowOf 59 = .ok (.goto 4, 3) := by decide +kernel
theorem nd_M_rowOf_62 : decode nb_M_rowOf 62 = .ok (.iload_n 2, 1) := by decide +kernel
theorem nd_M_rowOf_63 : decode nb_M_rowOf 63 = .ok (.istore_n 2, 1) := by decide +kernel
theorem nd_M_rowOf_64 : decode nb_M_rowOf 64 = .ok (.iinc 3 (-1), 3) := by decide +kernel
theorem nd_M_rowOf_67 : decode nb_M_rowOf 67 = .ok (.goto (-60), 3) := by decide +kernel
theorem nd_M_rowOf_70 : decode nb_M_rowOf 70 = .ok (.iload_n 2, 1) := by decide +kernel
theorem nd_M_rowOf_71 : decode nb_M_rowOf 71 = .ok (.ireturn, 1) := by decide +kernel
theorem nd_M_vmalloc_0 : decode nb_M_vmalloc 0 = .ok (.iload_n 1, 1) := by decide +kernel
theorem nd_M_vmalloc_1 : decode nb_M_vmalloc 1 = .ok (.iconst 1, 1) := by decide +kernel
theorem nd_M_vmalloc_2 : decode nb_M_vmalloc 2 = .ok (.bipush 8, 2) := by decide +kernel
theorem nd_M_vmalloc_4 : decode nb_M_vmalloc 4 = .ok (.invokestatic 57, 3) := by decide +kernel
theorem nd_M_vmalloc_7 : decode nb_M_vmalloc 7 = .ok (.istore_n 2, 1) := by decide +kernel
theorem nd_M_vmalloc_8 : decode nb_M_vmalloc 8 = .ok (.iload_n 2, 1) := by decide +kernel
theorem nd_M_vmalloc_9 : decode nb_M_vmalloc 9 = .ok (.ifCond .eq 11, 3) := by decide +kernel
theorem nd_M_vmalloc_12 : decode nb_M_vmalloc 12 = .ok (.aload_n 0, 1) := by decide +kernel
theorem nd_M_vmalloc_13 : decode nb_M_vmalloc 13 = .ok (.iload_n 1, 1) := by decide +kernel
theorem nd_M_vmalloc_14 : decode nb_M_vmalloc 14 = .ok (.invokevirtual 75, 3) := by decide +kernel
theorem nd_M_vmalloc_17 : decode nb_M_vmalloc 17 = .ok (.goto 4, 3) := by decide +kernel
theorem nd_M_vmalloc_20 : decode nb_M_vmalloc 20 = .ok (.iconst (-1), 1) := by decide +kernel
theorem nd_M_vmalloc_21 : decode nb_M_vmalloc 21 = .ok (.istore_n 3, 1) := by decide +kernel
theorem nd_M_vmalloc_22 : decode nb_M_vmalloc 22 = .ok (.aload_n 0, 1) := by decide +kernel
theorem nd_M_vmalloc_23 : decode nb_M_vmalloc 23 = .ok (.iload_n 2, 1) := by decide +kernel
theorem nd_M_vmalloc_24 : decode nb_M_vmalloc 24 = .ok (.ifCond .ne 7, 3) := by decide +kernel
theorem nd_M_vmalloc_27 : decode nb_M_vmalloc 27 = .ok (.iconst 1, 1) := by decide +kernel
theorem nd_M_vmalloc_28 : decode nb_M_vmalloc 28 = .ok (.goto 20, 3) := by decide +kernel
theorem nd_M_vmalloc_31 : decode nb_M_vmalloc 31 = .ok (.iload_n 3, 1) := by decide +kernel
theorem nd_M_vmalloc_32 : decode nb_M_vmalloc 32 = .ok (.ifCond .lt 11, 3) := by decide +kernel
theorem nd_M_vmalloc_35 : decode nb_M_vmalloc 35 = .ok (.aload_n 0, 1) := by decide +kernel
theorem nd_M_vmalloc_36 : decode nb_M_vmalloc 36 = .ok (.invokevirtual 61, 3) := by decide +kernel
theorem nd_M_vmalloc_39 : decode nb_M_vmalloc 39 = .ok (.iload_n 1, 1) := by decide +kernel
theorem nd_M_vmalloc_40 : decode nb_M_vmalloc 40 = .ok (.if_icmp .ge 7, 3) := by decide +kernel
theorem nd_M_vmalloc_43 : decode nb_M_vmalloc 43 = .ok (.iconst 2, 1) := by decide +kernel
theorem nd_M_vmalloc_44 : decode nb_M_vmalloc 44 = .ok (.goto 4, 3) := by decide +kernel
theorem nd_M_vmalloc_47 : decode nb_M_vmalloc 47 = .ok (.iconst 0, 1) := by decide +kernel
theorem nd_M_vmalloc_48 : decode nb_M_vmalloc 48 = .ok (.invokevirtual 64, 3) := by decide +kernel
theorem nd_M_vmalloc_51 : decode nb_M_vmalloc 51 = .ok (.ifCond .eq 5, 3) := by decide +kernel
theorem nd_M_vmalloc_54 : decode nb_M_vmalloc 54 = .ok (.iconst 0, 1) := by decide +kernel
theorem nd_M_vmalloc_55 : decode nb_M_vmalloc 55 = .ok (.ireturn, 1) := by decide +kernel
theorem nd_M_vmalloc_56 : decode nb_M_vmalloc 56 = .ok (.iload_n 3, 1) := by decide +kernel
theorem nd_M_vmalloc_57 : decode nb_M_vmalloc 57 = .ok (.istore 4, 2) := by decide +kernel
theorem nd_M_vmalloc_59 : decode nb_M_vmalloc 59 = .ok (.iload 4, 2) := by decide +kernel
theorem nd_M_vmalloc_61 : decode nb_M_vmalloc 61 = .ok (.iload_n 3, 1) := by decide +kernel
theorem nd_M_vmalloc_62 : decode nb_M_vmalloc 62 = .ok (.iload_n 1, 1) := by decide +kernel
theorem nd_M_vmalloc_63 : decode nb_M_vmalloc 63 = .ok (.iadd, 1) := by decide +kernel
theorem nd_M_vmalloc_64 : decode nb_M_vmalloc 64 = .ok (.if_icmp .ge 23, 3) := by decide +kernel
theorem nd_M_vmalloc_67 : decode nb_M_vmalloc 67 = .ok (.aload_n 0, 1) := by decide +kernel
theorem nd_M_vmalloc_68 : decode nb_M_vmalloc 68 = .ok (.getfield 25, 3) := by decide +kernel
theorem nd_M_vmalloc_71 : decode nb_M_vmalloc 71 = .ok (.iload 4, 2) := by decide +kernel
theorem nd_M_vmalloc_73 : decode nb_M_vmalloc 73 = .ok (.iconst 1, 1) := by decide +kernel
theorem nd_M_vmalloc_74 : decode nb_M_vmalloc 74 = .ok (.aload_n 0, 1) := by decide +kernel
theorem nd_M_vmalloc_75 : decode nb_M_vmalloc 75 = .ok (.iconst 3, 1) := by decide +kernel
theorem nd_M_vmalloc_76 : decode nb_M_vmalloc 76 = .ok (.invokevirtual 68, 3) := by decide +kernel
theorem nd_M_vmalloc_79 : decode nb_M_vmalloc 79 = .ok (.iadd, 1) := by decide +kernel
theorem nd_M_vmalloc_80 : decode nb_M_vmalloc 80 = .ok (.iastore, 1) := by decide +kernel
theorem nd_M_vmalloc_81 : decode nb_M_vmalloc 81 = .ok (.iinc 4 1, 3) := by decide +kernel
theorem nd_M_vmalloc_84 : decode nb_M_vmalloc 84 = .ok (.goto (-25), 3) := by decide +kernel
theorem nd_M_vmalloc_87 : decode nb_M_vmalloc 87 = .ok (.aload_n 0, 1) := by decide +kernel
theorem nd_M_vmalloc_88 : decode nb_M_vmalloc 88 = .ok (.getfield 28, 3) := by decide +kernel
theorem nd_M_vmalloc_91 : decode nb_M_vmalloc 91 = .ok (.iload_n 3, 1) := by decide +kernel
theorem nd_M_vmalloc_92 : decode nb_M_vmalloc 92 = .ok (.iload_n 1, 1) := by decide +kernel
theorem nd_M_vmalloc_93 : decode nb_M_vmalloc 93 = .ok (.iastore, 1) := by decide +kernel
theorem nd_M_vmalloc_94 : decode nb_M_vmalloc 94 = .ok (.bipush 16, 2) := by decide +kernel
theorem nd_M_vmalloc_96 : decode nb_M_vmalloc 96 = .ok (.iload_n 3, 1) := by decide +kernel
theorem nd_M_vmalloc_97 : decode nb_M_vmalloc 97 = .ok (.imul, 1) := by decide +kernel
theorem nd_M_vmalloc_98 : decode nb_M_vmalloc 98 = .ok (.ireturn, 1) := by decide +kernel
theorem nd_M_vfree_0 : decode nb_M_vfree 0 = .ok (.iload_n 1, 1) := by decide +kernel
theorem nd_M_vfree_1 : decode nb_M_vfree 1 = .ok (.iconst 0, 1) := by decide +kernel
theorem nd_M_vfree_2 : decode nb_M_vfree 2 = .ok (.sipush 1023, 3) := by decide +kernel
theorem nd_M_vfree_5 : decode nb_M_vfree 5 = .ok (.invokestatic 57, 3) := by decide +kernel
theorem nd_M_vfree_8 : decode nb_M_vfree 8 = .ok (.ifCond .eq 26, 3) := by decide +kernel
theorem nd_M_vfree_11 : decode nb_M_vfree 11 = .ok (.iload_n 1, 1) := by decide +kernel
theorem nd_M_vfree_12 : decode nb_M_vfree 12 = .ok (.bipush 16, 2) := by decide +kernel
theorem nd_M_vfree_14 : decode nb_M_vfree 14 = .ok (.irem, 1) := by decide +kernel
theorem nd_M_vfree_15 : decode nb_M_vfree 15 = .ok (.ifCond .ne 19, 3) := by decide +kernel
theorem nd_M_vfree_18 : decode nb_M_vfree 18 = .ok (.aload_n 0, 1) := by decide +kernel
theorem nd_M_vfree_19 : decode nb_M_vfree 19 = .ok (.getfield 28, 3) := by decide +kernel
theorem nd_M_vfree_22 : decode nb_M_vfree 22 = .ok (.iload_n 1, 1) := by decide +kernel
theorem nd_M_vfree_23 : decode nb_M_vfree 23 = .ok (.bipush 16, 2) := by decide +kernel
theorem nd_M_vfree_25 : decode nb_M_vfree 25 = .ok (.idiv, 1) := by decide +kernel
theorem nd_M_vfree_26 : decode nb_M_vfree 26 = .ok (.iaload, 1) := by decide +kernel
theorem nd_M_vfree_27 : decode nb_M_vfree 27 = .ok (.ifCond .le 7, 3) := by decide +kernel
theorem nd_M_vfree_30 : decode nb_M_vfree 30 = .ok (.iconst 1, 1) := by decide +kernel
theorem nd_M_vfree_31 : decode nb_M_vfree 31 = .ok (.goto 4, 3) := by decide +kernel
theorem nd_M_vfree_34 : decode nb_M_vfree 34 = .ok (.iconst 0, 1) := by decide +kernel
theorem nd_M_vfree_35 : decode nb_M_vfree 35 = .ok (.istore_n 2, 1) := by decide +kernel
theorem nd_M_vfree_36 : decode nb_M_vfree 36 = .ok (.aload_n 0, 1) := by decide +kernel
theorem nd_M_vfree_37 : decode nb_M_vfree 37 = .ok (.iload_n 2, 1) := by decide +kernel
theorem nd_M_vfree_38 : decode nb_M_vfree 38 = .ok (.ifCond .eq 7, 3) := by decide +kernel
theorem nd_M_vfree_41 : decode nb_M_vfree 41 = .ok (.iconst 0, 1) := by decide +kernel
theorem nd_M_vfree_42 : decode nb_M_vfree 42 = .ok (.goto 4, 3) := by decide +kernel
theorem nd_M_vfree_45 : decode nb_M_vfree 45 = .ok (.iconst 1, 1) := by decide +kernel
theorem nd_M_vfree_46 : decode nb_M_vfree 46 = .ok (.invokevirtual 64, 3) := by decide +kernel
theorem nd_M_vfree_49 : decode nb_M_vfree 49 = .ok (.ifCond .eq 5, 3) := by decide +kernel
theorem nd_M_vfree_52 : decode nb_M_vfree 52 = .ok (.iconst 0, 1) := by decide +kernel
theorem nd_M_vfree_53 : decode nb_M_vfree 53 = .ok (.ireturn, 1) := by decide +kernel
theorem nd_M_vfree_54 : decode nb_M_vfree 54 = .ok (.iload_n 1, 1) := by decide +kernel
theorem nd_M_vfree_55 : decode nb_M_vfree 55 = .ok (.bipush 16, 2) := by decide +kernel
theorem nd_M_vfree_57 : decode nb_M_vfree 57 = .ok (.idiv, 1) := by decide +kernel
theorem nd_M_vfree_58 : decode nb_M_vfree 58 = .ok (.istore_n 3, 1) := by decide +kernel
theorem nd_M_vfree_59 : decode nb_M_vfree 59 = .ok (.aload_n 0, 1) := by decide +kernel
theorem nd_M_vfree_60 : decode nb_M_vfree 60 = .ok (.getfield 28, 3) := by decide +kernel
theorem nd_M_vfree_63 : decode nb_M_vfree 63 = .ok (.iload_n 3, 1) := by decide +kernel
theorem nd_M_vfree_64 : decode nb_M_vfree 64 = .ok (.iaload, 1) := by decide +kernel
theorem nd_M_vfree_65 : decode nb_M_vfree 65 = .ok (.istore 4, 2) := by decide +kernel
theorem nd_M_vfree_67 : decode nb_M_vfree 67 = .ok (.iload_n 3, 1) := by decide +kernel
theorem nd_M_vfree_68 : decode nb_M_vfree 68 = .ok (.istore 5, 2) := by decide +kernel
theorem nd_M_vfree_70 : decode nb_M_vfree 70 = .ok (.iload 5, 2) := by decide +kernel
theorem nd_M_vfree_72 : decode nb_M_vfree 72 = .ok (.iload_n 3, 1) := by decide +kernel
theorem nd_M_vfree_73 : decode nb_M_vfree 73 = .ok (.iload 4, 2) := by decide +kernel
theorem nd_M_vfree_75 : decode nb_M_vfree 75 = .ok (.iadd, 1) := by decide +kernel
theorem nd_M_vfree_76 : decode nb_M_vfree 76 = .ok (.if_icmp .ge 32, 3) := by decide +kernel
theorem nd_M_vfree_79 : decode nb_M_vfree 79 = .ok (.aload_n 0, 1) := by decide +kernel
theorem nd_M_vfree_80 : decode nb_M_vfree 80 = .ok (.getfield 7, 3) := by decide +kernel
theorem nd_M_vfree_83 : decode nb_M_vfree 83 = .ok (.aload_n 0, 1) := by decide +kernel
theorem nd_M_vfree_84 : decode nb_M_vfree 84 = .ok (.getfield 25, 3) := by decide +kernel
theorem nd_M_vfree_87 : decode nb_M_vfree 87 = .ok (.iload 5, 2) := by decide +kernel
theorem nd_M_vfree_89 : decode nb_M_vfree 89 = .ok (.iaload, 1) := by decide +kernel
theorem nd_M_vfree_90 : decode nb_M_vfree 90 = .ok (.iconst 1, 1) := by decide +kernel
theorem nd_M_vfree_91 : decode nb_M_vfree 91 = .ok (.isub, 1) := by decide +kernel
theorem nd_M_vfree_92 : decode nb_M_vfree 92 = .ok (.iconst 0, 1) := by decide +kernel
theorem nd_M_vfree_93 : decode nb_M_vfree 93 = .ok (.iastore, 1) := by decide +kernel
theorem nd_M_vfree_94 : decode nb_M_vfree 94 = .ok (.aload_n 0, 1) := by decide +kernel
theorem nd_M_vfree_95 : decode nb_M_vfree 95 = .ok (.getfield 25, 3) := by decide +kernel
theorem nd_M_vfree_98 : decode nb_M_vfree 98 = .ok (.iload 5, 2) := by decide +kernel
theorem nd_M_vfree_100 : decode nb_M_vfree 100 = .ok (.iconst 0, 1) := by decide +kernel
theorem nd_M_vfree_101 : decode nb_M_vfree 101 = .ok (.iastore, 1) := by decide +kernel
theorem nd_M_vfree_102 : decode nb_M_vfree 102 = .ok (.iinc 5 1, 3) := by decide +kernel
theorem nd_M_vfree_105 : decode nb_M_vfree 105 = .ok (.goto (-35), 3) := by decide +kernel
theorem nd_M_vfree_108 : decode nb_M_vfree 108 = .ok (.aload_n 0, 1) := by decide +kernel
theorem nd_M_vfree_109 : decode nb_M_vfree 109 = .ok (.getfield 28, 3) := by decide +kernel
theorem nd_M_vfree_112 : decode nb_M_vfree 112 = .ok (.iload_n 3, 1) := by decide +kernel
theorem nd_M_vfree_113 : decode nb_M_vfree 113 = .ok (.iconst 0, 1) := by decide +kernel
theorem nd_M_vfree_114 : decode nb_M_vfree 114 = .ok (.iastore, 1) := by decide +kernel
theorem nd_M_vfree_115 : decode nb_M_vfree 115 = .ok (.iload 4, 2) := by decide +kernel
theorem nd_M_vfree_117 : decode nb_M_vfree 117 = .ok (.ireturn, 1) := by decide +kernel
theorem nd_M_isSpace_0 : decode nb_M_isSpace 0 = .ok (.iload_n 1, 1) := by decide +kernel
theorem nd_M_isSpace_1 : decode nb_M_isSpace 1 = .ok (.iconst 0, 1) := by decide +kernel
theorem nd_M_isSpace_2 : decode nb_M_isSpace 2 = .ok (.iconst 3, 1) := by decide +kernel
theorem nd_M_isSpace_3 : decode nb_M_isSpace 3 = .ok (.invokestatic 57, 3) := by decide +kernel
theorem nd_M_isSpace_6 : decode nb_M_isSpace 6 = .ok (.ifCond .eq 16, 3) := by decide +kernel
theorem nd_M_isSpace_9 : decode nb_M_isSpace 9 = .ok (.aload_n 0, 1) := by decide +kernel
theorem nd_M_isSpace_10 : decode nb_M_isSpace 10 = .ok (.getfield 31, 3) := by decide +kernel
theorem nd_M_isSpace_13 : decode nb_M_isSpace 13 = .ok (.iload_n 1, 1) := by decide +kernel
theorem nd_M_isSpace_14 : decode nb_M_isSpace 14 = .ok (.iaload, 1) := by decide +kernel
theorem nd_M_isSpace_15 : decode nb_M_isSpace 15 = .ok (.ifCond .le 7, 3) := by decide +kernel
theorem nd_M_isSpace_18 : decode nb_M_isSpace 18 = .ok (.iconst 1, 1) := by decide +kernel
theorem nd_M_isSpace_19 : decode nb_M_isSpace 19 = .ok (.goto 4, 3) := by decide +kernel
theorem nd_M_isSpace_22 : decode nb_M_isSpace 22 = .ok (.iconst 0, 1) := by decide +kernel
theorem nd_M_isSpace_23 : decode nb_M_isSpace 23 = .ok (.ireturn, 1) := by decide +kernel
theorem nd_M_create_0 : decode nb_M_create 0 = .ok (.iconst 3, 1) := by decide +kernel
theorem nd_M_create_1 : decode nb_M_create 1 = .ok (.istore_n 1, 1) := by decide +kernel
theorem nd_M_create_2 : decode nb_M_create 2 = .ok (.iconst 3, 1) := by decide +kernel
theorem nd_M_create_3 : decode nb_M_create 3 = .ok (.istore_n 2, 1) := by decide +kernel
theorem nd_M_create_4 : decode nb_M_create 4 = .ok (.iload_n 2, 1) := by decide +kernel
theorem nd_M_create_5 : decode nb_M_create 5 = .ok (.ifCond .lt 24, 3) := by decide +kernel
theorem nd_M_create_8 : decode nb_M_create 8 = .ok (.aload_n 0, 1) := by decide +kernel
theorem nd_M_create_9 : decode nb_M_create 9 = .ok (.getfield 31, 3) := by decide +kernel
theorem nd_M_create_12 : decode nb_M_create 12 = .ok (.iload_n 2, 1) := by decide +kernel
theorem nd_M_create_13 : decode nb_M_create 13 = .ok (.iaload, 1) := by decide +kernel
theorem nd_M_create_14 : decode nb_M_create 14 = .ok (.ifCond .ne 7, 3) := by decide +kernel
theorem nd_M_create_17 : decode nb_M_create 17 = .ok (.iload_n 2, 1) := by decide +kernel
theorem nd_M_create_18 : decode nb_M_create 18 = .ok (.goto 4, 3) := by decide +kernel
theorem nd_M_create_21 : decode nb_M_create 21 = .ok (.iload_n 1, 1) := by decide +kernel
theorem nd_M_create_22 : decode nb_M_create 22 = .ok (.istore_n 1, 1) := by decide +kernel
theorem nd_M_create_23 : decode nb_M_create 23 = .ok (.iinc 2 (-1), 3) := by decide +kernel
theorem nd_M_create_26 : decode nb_M_create 26 = .ok (.goto (-22), 3) := by decide +kernel
theorem nd_M_create_29 : decode nb_M_create 29 = .ok (.aload_n 0, 1) := by decide +kernel
theorem nd_M_create_30 : decode nb_M_create 30 = .ok (.aload_n 0, 1) := by decide +kernel
theorem nd_M_create_31 : decode nb_M_create 31 = .ok (.getfield 31, 3) := by decide +kernel
theorem nd_M_create_34 : decode nb_M_create 34 = .ok (.iload_n 1, 1) := by decide +kernel
theorem nd_M_create_35 : decode nb_M_create 35 = .ok (.iaload, 1) := by decide +kernel
theorem nd_M_create_36 : decode nb_M_create 36 = .ok (.ifCond .gt 10, 3) := by decide +kernel
theorem nd_M_create_39 : decode nb_M_create 39 = .ok (.aload_n 0, 1) := by decide +kernel
theorem nd_M_create_40 : decode nb_M_create 40 = .ok (.invokevirtual 61, 3) := by decide +kernel
theorem nd_M_create_43 : decode nb_M_create 43 = .ok (.ifCond .ne 7, 3) := by decide +kernel
theorem nd_M_create_46 : decode nb_M_create 46 = .ok (.iconst 1, 1) := by decide +kernel
theorem nd_M_create_47 : decode nb_M_create 47 = .ok (.goto 4, 3) := by decide +kernel
theorem nd_M_create_50 : decode nb_M_create 50 = .ok (.iconst 0, 1) := by decide +kernel
theorem nd_M_create_51 : decode nb_M_create 51 = .ok (.invokevirtual 64, 3) := by decide +kernel
theorem nd_M_create_54 : decode nb_M_create 54 = .ok (.ifCond .eq 5, 3) := by decide +kernel
theorem nd_M_create_57 : decode nb_M_create 57 = .ok (.iconst 0, 1) := by decide +kernel
theorem nd_M_create_58 : decode nb_M_create 58 = .ok (.ireturn, 1) := by decide +kernel
theorem nd_M_create_59 : decode nb_M_create 59 = .ok (.aload_n 0, 1) := by decide +kernel
theorem nd_M_create_60 : decode nb_M_create 60 = .ok (.getfield 31, 3) := by decide +kernel
theorem nd_M_create_63 : decode nb_M_create 63 = .ok (.iload_n 1, 1) := by decide +kernel
theorem nd_M_create_64 : decode nb_M_create 64 = .ok (.iconst 1, 1) := by decide +kernel
theorem nd_M_create_65 : decode nb_M_create 65 = .ok (.aload_n 0, 1) := by decide +kernel
theorem nd_M_create_66 : decode nb_M_create 66 = .ok (.iconst 1, 1) := by decide +kernel
theorem nd_M_create_67 : decode nb_M_create 67 = .ok (.invokevirtual 68, 3) := by decide +kernel
theorem nd_M_create_70 : decode nb_M_create 70 = .ok (.iadd, 1) := by decide +kernel
theorem nd_M_create_71 : decode nb_M_create 71 = .ok (.iastore, 1) := by decide +kernel
theorem nd_M_create_72 : decode nb_M_create 72 = .ok (.iload_n 1, 1) := by decide +kernel
theorem nd_M_create_73 : decode nb_M_create 73 = .ok (.ireturn, 1) := by decide +kernel
theorem nd_M_rootEntry_0 : decode nb_M_rootEntry 0 = .ok (.bipush 16, 2) := by decide +kernel
theorem nd_M_rootEntry_2 : decode nb_M_rootEntry 2 = .ok (.aload_n 0, 1) := by decide +kernel
theorem nd_M_rootEntry_3 : decode nb_M_rootEntry 3 = .ok (.getfield 31, 3) := by decide +kernel
theorem nd_M_rootEntry_6 : decode nb_M_rootEntry 6 = .ok (.iload_n 1, 1) := by decide +kernel
theorem nd_M_rootEntry_7 : decode nb_M_rootEntry 7 = .ok (.iaload, 1) := by decide +kernel
theorem nd_M_rootEntry_8 : decode nb_M_rootEntry 8 = .ok (.iconst 1, 1) := by decide +kernel
theorem nd_M_rootEntry_9 : decode nb_M_rootEntry 9 = .ok (.isub, 1) := by decide +kernel
theorem nd_M_rootEntry_10 : decode nb_M_rootEntry 10 = .ok (.imul, 1) := by decide +kernel
theorem nd_M_rootEntry_11 : decode nb_M_rootEntry 11 = .ok (.iload_n 2, 1) := by decide +kernel
theorem nd_M_rootEntry_12 : decode nb_M_rootEntry 12 = .ok (.bipush 16, 2) := by decide +kernel
theorem nd_M_rootEntry_14 : decode nb_M_rootEntry 14 = .ok (.idiv, 1) := by decide +kernel
theorem nd_M_rootEntry_15 : decode nb_M_rootEntry 15 = .ok (.iadd, 1) := by decide +kernel
theorem nd_M_rootEntry_16 : decode nb_M_rootEntry 16 = .ok (.ireturn, 1) := by decide +kernel
theorem nd_M_hasTable_0 : decode nb_M_hasTable 0 = .ok (.aload_n 0, 1) := by decide +kernel
theorem nd_M_hasTable_1 : decode nb_M_hasTable 1 = .ok (.getfield 13, 3) := by decide +kernel
theorem nd_M_hasTable_4 : decode nb_M_hasTable 4 = .ok (.aload_n 0, 1) := by decide +kernel
theorem nd_M_hasTable_5 : decode nb_M_hasTable 5 = .ok (.iload_n 1, 1) := by decide +kernel
theorem nd_M_hasTable_6 : decode nb_M_hasTable 6 = .ok (.iload_n 2, 1) := by decide +kernel
theorem nd_M_hasTable_7 : decode nb_M_hasTable 7 = .ok (.invokevirtual 78, 3) := by decide +kernel
theorem nd_M_hasTable_10 : decode nb_M_hasTable 10 = .ok (.iaload, 1) := by decide +kernel
theorem nd_M_hasTable_11 : decode nb_M_hasTable 11 = .ok (.ifCond .le 7, 3) := by decide +kernel
theorem nd_M_hasTable_14 : decode nb_M_hasTable 14 = .ok (.iconst 1, 1) := by decide +kernel
theorem nd_M_hasTable_15 : decode nb_M_hasTable 15 = .ok (.goto 4, 3) := by decide +kernel
theorem nd_M_hasTable_18 : decode nb_M_hasTable 18 = .ok (.iconst 0, 1) := by decide +kernel
theorem nd_M_hasTable_19 : decode nb_M_hasTable 19 = .ok (.ireturn, 1) := by decide +kernel
theorem nd_M_entry_0 : decode nb_M_entry 0 = .ok (.bipush 16, 2) := by decide +kernel
theorem nd_M_entry_2 : decode nb_M_entry 2 = .ok (.aload_n 0, 1) := by decide +kernel
theorem nd_M_entry_3 : decode nb_M_entry 3 = .ok (.getfield 13, 3) := by decide +kernel
theorem nd_M_entry_6 : decode nb_M_entry 6 = .ok (.aload_n 0, 1) := by decide +kernel
theorem nd_M_entry_7 : decode nb_M_entry 7 = .ok (.iload_n 1, 1) := by decide +kernel
theorem nd_M_entry_8 : decode nb_M_entry 8 = .ok (.iload_n 2, 1) := by decide +kernel
theorem nd_M_entry_9 : decode nb_M_entry 9 = .ok (.invokevirtual 78, 3) := by decide +kernel
theorem nd_M_entry_12 : decode nb_M_entry 12 = .ok (.iaload, 1) := by decide +kernel
theorem nd_M_entry_13 : decode nb_M_entry 13 = .ok (.iconst 1, 1) := by decide +kernel
theorem nd_M_entry_14 : decode nb_M_entry 14 = .ok (.isub, 1) := by decide +kernel
theorem nd_M_entry_15 : decode nb_M_entry 15 = .ok (.imul, 1) := by decide +kernel
theorem nd_M_entry_16 : decode nb_M_entry 16 = .ok (.iload_n 2, 1) := by decide +kernel
theorem nd_M_entry_17 : decode nb_M_entry 17 = .ok (.bipush 16, 2) := by decide +kernel
theorem nd_M_entry_19 : decode nb_M_entry 19 = .ok (.irem, 1) := by decide +kernel
theorem nd_M_entry_20 : decode nb_M_entry 20 = .ok (.iadd, 1) := by decide +kernel
theorem nd_M_entry_21 : decode nb_M_entry 21 = .ok (.ireturn, 1) := by decide +kernel
theorem nd_M_frameOf_0 : decode nb_M_frameOf 0 = .ok (.aload_n 0, 1) := by decide +kernel
theorem nd_M_frameOf_1 : decode nb_M_frameOf 1 = .ok (.iload_n 1, 1) := by decide +kernel
theorem nd_M_frameOf_2 : decode nb_M_frameOf 2 = .ok (.iload_n 2, 1) := by decide +kernel
theorem nd_M_frameOf_3 : decode nb_M_frameOf 3 = .ok (.invokevirtual 82, 3) := by decide +kernel
theorem nd_M_frameOf_6 : decode nb_M_frameOf 6 = .ok (.ifCond .eq 19, 3) := by decide +kernel
theorem nd_M_frameOf_9 : decode nb_M_frameOf 9 = .ok (.aload_n 0, 1) := by decide +kernel
theorem nd_M_frameOf_10 : decode nb_M_frameOf 10 = .ok (.getfield 13, 3) := by decide +kernel
theorem nd_M_frameOf_13 : decode nb_M_frameOf 13 = .ok (.aload_n 0, 1) := by decide +kernel
theorem nd_M_frameOf_14 : decode nb_M_frameOf 14 = .ok (.iload_n 1, 1) := by decide +kernel
theorem nd_M_frameOf_15 : decode nb_M_frameOf 15 = .ok (.iload_n 2, 1) := by decide +kernel
theorem nd_M_frameOf_16 : decode nb_M_frameOf 16 = .ok (.invokevirtual 85, 3) := by decide +kernel
theorem nd_M_frameOf_19 : decode nb_M_frameOf 19 = .ok (.iaload, 1) := by decide +kernel
theorem nd_M_frameOf_20 : decode nb_M_frameOf 20 = .ok (.iconst 1, 1) := by decide +kernel
theorem nd_M_frameOf_21 : decode nb_M_frameOf 21 = .ok (.isub, 1) := by decide +kernel
theorem nd_M_frameOf_22 : decode nb_M_frameOf 22 = .ok (.goto 4, 3) := by decide +kernel
theorem nd_M_frameOf_25 : decode nb_M_frameOf 25 = .ok (.iconst (-1), 1) := by decide +kernel
theorem nd_M_frameOf_26 : decode nb_M_frameOf 26 = .ok (.ireturn, 1) := by decide +kernel
theorem nd_M_drop_0 : decode nb_M_drop 0 = .ok (.aload_n 0, 1) := by decide +kernel
theorem nd_M_drop_1 : decode nb_M_drop 1 = .ok (.iload_n 1, 1) := by decide +kernel
theorem nd_M_drop_2 : decode nb_M_drop 2 = .ok (.iload_n 2, 1) := by decide +kernel
theorem nd_M_drop_3 : decode nb_M_drop 3 = .ok (.invokevirtual 88, 3) := by decide +kernel
theorem nd_M_drop_6 : decode nb_M_drop 6 = .ok (.istore_n 3, 1) := by decide +kernel
theorem nd_M_drop_7 : decode nb_M_drop 7 = .ok (.iload_n 3, 1) := by decide +kernel
theorem nd_M_drop_8 : decode nb_M_drop 8 = .ok (.ifCond .ge 5, 3) := by decide +kernel
theorem nd_M_drop_11 : decode nb_M_drop 11 = .ok (.iconst 0, 1) := by decide +kernel
theorem nd_M_drop_12 : decode nb_M_drop 12 = .ok (.ireturn, 1) := by decide +kernel
theorem nd_M_drop_13 : decode nb_M_drop 13 = .ok (.aload_n 0, 1) := by decide +kernel
theorem nd_M_drop_14 : decode nb_M_drop 14 = .ok (.getfield 13, 3) := by decide +kernel
theorem nd_M_drop_17 : decode nb_M_drop 17 = .ok (.aload_n 0, 1) := by decide +kernel
theorem nd_M_drop_18 : decode nb_M_drop 18 = .ok (.iload_n 1, 1) := by decide +kernel
theorem nd_M_drop_19 : decode nb_M_drop 19 = .ok (.iload_n 2, 1) := by decide +kernel
theorem nd_M_drop_20 : decode nb_M_drop 20 = .ok (.invokevirtual 78, 3) := by decide +kernel
theorem nd_M_drop_23 : decode nb_M_drop 23 = .ok (.iaload, 1) := by decide +kernel
theorem nd_M_drop_24 : decode nb_M_drop 24 = .ok (.iconst 1, 1) := by decide +kernel
theorem nd_M_drop_25 : decode nb_M_drop 25 = .ok (.isub, 1) := by decide +kernel
theorem nd_M_drop_26 : decode nb_M_drop 26 = .ok (.istore 4, 2) := by decide +kernel
theorem nd_M_drop_28 : decode nb_M_drop 28 = .ok (.aload_n 0, 1) := by decide +kernel
theorem nd_M_drop_29 : decode nb_M_drop 29 = .ok (.getfield 7, 3) := by decide +kernel
theorem nd_M_drop_32 : decode nb_M_drop 32 = .ok (.iload_n 3, 1) := by decide +kernel
theorem nd_M_drop_33 : decode nb_M_drop 33 = .ok (.iconst 0, 1) := by decide +kernel
theorem nd_M_drop_34 : decode nb_M_drop 34 = .ok (.iastore, 1) := by decide +kernel
theorem nd_M_drop_35 : decode nb_M_drop 35 = .ok (.aload_n 0, 1) := by decide +kernel
theorem nd_M_drop_36 : decode nb_M_drop 36 = .ok (.getfield 13, 3) := by decide +kernel
theorem nd_M_drop_39 : decode nb_M_drop 39 = .ok (.aload_n 0, 1) := by decide +kernel
theorem nd_M_drop_40 : decode nb_M_drop 40 = .ok (.iload_n 1, 1) := by decide +kernel
theorem nd_M_drop_41 : decode nb_M_drop 41 = .ok (.iload_n 2, 1) := by decide +kernel
theorem nd_M_drop_42 : decode nb_M_drop 42 = .ok (.invokevirtual 85, 3) := by decide +kernel
theorem nd_M_drop_45 : decode nb_M_drop 45 = .ok (.iconst 0, 1) := by decide +kernel
theorem nd_M_drop_46 : decode nb_M_drop 46 = .ok (.iastore, 1) := by decide +kernel
theorem nd_M_drop_47 : decode nb_M_drop 47 = .ok (.iconst 1, 1) := by decide +kernel
theorem nd_M_drop_48 : decode nb_M_drop 48 = .ok (.istore 5, 2) := by decide +kernel
theorem nd_M_drop_50 : decode nb_M_drop 50 = .ok (.iconst 0, 1) := by decide +kernel
theorem nd_M_drop_51 : decode nb_M_drop 51 = .ok (.istore 6, 2) := by decide +kernel
theorem nd_M_drop_53 : decode nb_M_drop 53 = .ok (.iload 6, 2) := by decide +kernel
theorem nd_M_drop_55 : decode nb_M_drop 55 = .ok (.bipush 16, 2) := by decide +kernel
theorem nd_M_drop_57 : decode nb_M_drop 57 = .ok (.if_icmp .ge 37, 3) := by decide +kernel
theorem nd_M_drop_60 : decode nb_M_drop 60 = .ok (.iload 5, 2) := by decide +kernel
theorem nd_M_drop_62 : decode nb_M_drop 62 = .ok (.ifCond .eq 23, 3) := by decide +kernel
theorem nd_M_drop_65 : decode nb_M_drop 65 = .ok (.aload_n 0, 1) := by decide +kernel
theorem nd_M_drop_66 : decode nb_M_drop 66 = .ok (.getfield 13, 3) := by decide +kernel
theorem nd_M_drop_69 : decode nb_M_drop 69 = .ok (.bipush 16, 2) := by decide +kernel
theorem nd_M_drop_71 : decode nb_M_drop 71 = .ok (.iload 4, 2) := by decide +kernel
theorem nd_M_drop_73 : decode nb_M_drop 73 = .ok (.imul, 1) := by decide +kernel
theorem nd_M_drop_74 : decode nb_M_drop 74 = .ok (.iload 6, 2) := by decide +kernel
theorem nd_M_drop_76 : decode nb_M_drop 76 = .ok (.iadd, 1) := by decide +kernel
theorem nd_M_drop_77 : decode nb_M_drop 77 = .ok (.iaload, 1) := by decide +kernel
theorem nd_M_drop_78 : decode nb_M_drop 78 = .ok (.ifCond .ne 7, 3) := by decide +kernel
theorem nd_M_drop_81 : decode nb_M_drop 81 = .ok (.iconst 1, 1) := by decide +kernel
theorem nd_M_drop_82 : decode nb_M_drop 82 = .ok (.goto 4, 3) := by decide +kernel
theorem nd_M_drop_85 : decode nb_M_drop 85 = .ok (.iconst 0, 1) := by decide +kernel
theorem nd_M_drop_86 : decode nb_M_drop 86 = .ok (.istore 5, 2) := by decide +kernel
theorem nd_M_drop_88 : decode nb_M_drop 88 = .ok (.iinc 6 1, 3) := by decide +kernel
theorem nd_M_drop_91 : decode nb_M_drop 91 = .ok (.goto (-38), 3) := by decide +kernel
theorem nd_M_drop_94 : decode nb_M_drop 94 = .ok (.iload 5, 2) := by decide +kernel
theorem nd_M_drop_96 : decode nb_M_drop 96 = .ok (.ifCond .ne 5, 3) := by decide +kernel
theorem nd_M_drop_99 : decode nb_M_drop 99 = .ok (.iconst 1, 1) := by decide +kernel
theorem nd_M_drop_100 : decode nb_M_drop 100 = .ok (.ireturn, 1) := by decide +kernel
theorem nd_M_drop_101 : decode nb_M_drop 101 = .ok (.aload_n 0, 1) := by decide +kernel
theorem nd_M_drop_102 : decode nb_M_drop 102 = .ok (.getfield 7, 3) := by decide +kernel
theorem nd_M_drop_105 : decode nb_M_drop 105 = .ok (.iload 4, 2) := by decide +kernel
theorem nd_M_drop_107 : decode nb_M_drop 107 = .ok (.iconst 0, 1) := by decide +kernel
theorem nd_M_drop_108 : decode nb_M_drop 108 = .ok (.iastore, 1) := by decide +kernel
theorem nd_M_drop_109 : decode nb_M_drop 109 = .ok (.aload_n 0, 1) := by decide +kernel
theorem nd_M_drop_110 : decode nb_M_drop 110 = .ok (.getfield 13, 3) := by decide +kernel
theorem nd_M_drop_113 : decode nb_M_drop 113 = .ok (.aload_n 0, 1) := by decide +kernel
theorem nd_M_drop_114 : decode nb_M_drop 114 = .ok (.iload_n 1, 1) := by decide +kernel
theorem nd_M_drop_115 : decode nb_M_drop 115 = .ok (.iload_n 2, 1) := by decide +kernel
theorem nd_M_drop_116 : decode nb_M_drop 116 = .ok (.invokevirtual 78, 3) := by decide +kernel
theorem nd_M_drop_119 : decode nb_M_drop 119 = .ok (.iconst 0, 1) := by decide +kernel
theorem nd_M_drop_120 : decode nb_M_drop 120 = .ok (.iastore, 1) := by decide +kernel
theorem nd_M_drop_121 : decode nb_M_drop 121 = .ok (.iconst 2, 1) := by decide +kernel
theorem nd_M_drop_122 : decode nb_M_drop 122 = .ok (.ireturn, 1) := by decide +kernel
theorem nd_M_destroy_0 : decode nb_M_destroy 0 = .ok (.aload_n 0, 1) := by decide +kernel
theorem nd_M_destroy_1 : decode nb_M_destroy 1 = .ok (.aload_n 0, 1) := by decide +kernel
theorem nd_M_destroy_2 : decode nb_M_destroy 2 = .ok (.iload_n 1, 1) := by decide +kernel
theorem nd_M_destroy_3 : decode nb_M_destroy 3 = .ok (.invokevirtual 91, 3) := by decide +kernel
theorem nd_M_destroy_6 : decode nb_M_destroy 6 = .ok (.ifCond .eq 7, 3) := by decide +kernel
theorem nd_M_destroy_9 : decode nb_M_destroy 9 = .ok (.iconst 0, 1) := by decide +kernel
theorem nd_M_destroy_10 : decode nb_M_destroy 10 = .ok (.goto 4, 3) := by decide +kernel
theorem nd_M_destroy_13 : decode nb_M_destroy 13 = .ok (.iconst 1, 1) := by decide +kernel
theorem nd_M_destroy_14 : decode nb_M_destroy 14 = .ok (.invokevirtual 64, 3) := by decide +kernel
theorem nd_M_destroy_17 : decode nb_M_destroy 17 = .ok (.ifCond .eq 5, 3) := by decide +kernel
theorem nd_M_destroy_20 : decode nb_M_destroy 20 = .ok (.iconst 0, 1) := by decide +kernel
theorem nd_M_destroy_21 : decode nb_M_destroy 21 = .ok (.ireturn, 1) := by decide +kernel
theorem nd_M_destroy_22 : decode nb_M_destroy 22 = .ok (.iconst 1, 1) := by decide +kernel
theorem nd_M_destroy_23 : decode nb_M_destroy 23 = .ok (.istore_n 2, 1) := by decide +kernel
theorem nd_M_destroy_24 : decode nb_M_destroy 24 = .ok (.iconst 0, 1) := by decide +kernel
theorem nd_M_destroy_25 : decode nb_M_destroy 25 = .ok (.istore_n 3, 1) := by decide +kernel
theorem nd_M_destroy_26 : decode nb_M_destroy 26 = .ok (.iload_n 3, 1) := by decide +kernel
theorem nd_M_destroy_27 : decode nb_M_destroy 27 = .ok (.sipush 256, 3) := by decide +kernel
theorem nd_M_destroy_30 : decode nb_M_destroy 30 = .ok (.if_icmp .ge 31, 3) := by decide +kernel
theorem nd_M_destroy_33 : decode nb_M_destroy 33 = .ok (.iload_n 2, 1) := by decide +kernel
theorem nd_M_destroy_34 : decode nb_M_destroy 34 = .ok (.aload_n 0, 1) := by decide +kernel
theorem nd_M_destroy_35 : decode nb_M_destroy 35 = .ok (.iload_n 1, 1) := by decide +kernel
theorem nd_M_destroy_36 : decode nb_M_destroy 36 = .ok (.iload_n 3, 1) := by decide +kernel
theorem nd_M_destroy_37 : decode nb_M_destroy 37 = .ok (.invokevirtual 94, 3) := by decide +kernel
theorem nd_M_destroy_40 : decode nb_M_destroy 40 = .ok (.iadd, 1) := by decide +kernel
theorem nd_M_destroy_41 : decode nb_M_destroy 41 = .ok (.istore_n 2, 1) := by decide +kernel
theorem nd_M_destroy_42 : decode nb_M_destroy 42 = .ok (.aload_n 0, 1) := by decide +kernel
theorem nd_M_destroy_43 : decode nb_M_destroy 43 = .ok (.getfield 34, 3) := by decide +kernel
theorem nd_M_destroy_46 : decode nb_M_destroy 46 = .ok (.sipush 256, 3) := by decide +kernel
theorem nd_M_destroy_49 : decode nb_M_destroy 49 = .ok (.iload_n 1, 1) := by decide +kernel
theorem nd_M_destroy_50 : decode nb_M_destroy 50 = .ok (.imul, 1) := by decide +kernel
theorem nd_M_destroy_51 : decode nb_M_destroy 51 = .ok (.iload_n 3, 1) := by decide +kernel
theorem nd_M_destroy_52 : decode nb_M_destroy 52 = .ok (.iadd, 1) := by decide +kernel
theorem nd_M_destroy_53 : decode nb_M_destroy 53 = .ok (.iconst 0, 1) := by decide +kernel
theorem nd_M_destroy_54 : decode nb_M_destroy 54 = .ok (.bastore, 1) := by decide +kernel
theorem nd_M_destroy_55 : decode nb_M_destroy 55 = .ok (.iinc 3 1, 3) := by decide +kernel
theorem nd_M_destroy_58 : decode nb_M_destroy 58 = .ok (.goto (-32), 3) := by decide +kernel
theorem nd_M_destroy_61 : decode nb_M_destroy 61 = .ok (.aload_n 0, 1) := by decide +kernel
theorem nd_M_destroy_62 : decode nb_M_destroy 62 = .ok (.getfield 7, 3) := by decide +kernel
theorem nd_M_destroy_65 : decode nb_M_destroy 65 = .ok (.aload_n 0, 1) := by decide +kernel
theorem nd_M_destroy_66 : decode nb_M_destroy 66 = .ok (.getfield 31, 3) := by decide +kernel
theorem nd_M_destroy_69 : decode nb_M_destroy 69 = .ok (.iload_n 1, 1) := by decide +kernel
theorem nd_M_destroy_70 : decode nb_M_destroy 70 = .ok (.iaload, 1) := by decide +kernel
theorem nd_M_destroy_71 : decode nb_M_destroy 71 = .ok (.iconst 1, 1) := by decide +kernel
theorem nd_M_destroy_72 : decode nb_M_destroy 72 = .ok (.isub, 1) := by decide +kernel
theorem nd_M_destroy_73 : decode nb_M_destroy 73 = .ok (.iconst 0, 1) := by decide +kernel
theorem nd_M_destroy_74 : decode nb_M_destroy 74 = .ok (.iastore, 1) := by decide +kernel
theorem nd_M_destroy_75 : decode nb_M_destroy 75 = .ok (.aload_n 0, 1) := by decide +kernel
theorem nd_M_destroy_76 : decode nb_M_destroy 76 = .ok (.getfield 31, 3) := by decide +kernel
theorem nd_M_destroy_79 : decode nb_M_destroy 79 = .ok (.iload_n 1, 1) := by decide +kernel
theorem nd_M_destroy_80 : decode nb_M_destroy 80 = .ok (.iconst 0, 1) := by decide +kernel
theorem nd_M_destroy_81 : decode nb_M_destroy 81 = .ok (.iastore, 1) := by decide +kernel
theorem nd_M_destroy_82 : decode nb_M_destroy 82 = .ok (.iload_n 2, 1) := by decide +kernel
theorem nd_M_destroy_83 : decode nb_M_destroy 83 = .ok (.ireturn, 1) := by decide +kernel
theorem nd_M_isRow_0 : decode nb_M_isRow 0 = .ok (.iload_n 1, 1) := by decide +kernel
theorem nd_M_isRow_1 : decode nb_M_isRow 1 = .ok (.iconst 1, 1) := by decide +kernel
theorem nd_M_isRow_2 : decode nb_M_isRow 2 = .ok (.bipush 64, 2) := by decide +kernel
theorem nd_M_isRow_4 : decode nb_M_isRow 4 = .ok (.invokestatic 57, 3) := by decide +kernel
theorem nd_M_isRow_7 : decode nb_M_isRow 7 = .ok (.ifCond .eq 20, 3) := by decide +kernel
theorem nd_M_isRow_10 : decode nb_M_isRow 10 = .ok (.iload_n 0, 1) := by decide +kernel
theorem nd_M_isRow_11 : decode nb_M_isRow 11 = .ok (.iconst 0, 1) := by decide +kernel
theorem nd_M_isRow_12 : decode nb_M_isRow 12 = .ok (.sipush 256, 3) := by decide +kernel
theorem nd_M_isRow_15 : decode nb_M_isRow 15 = .ok (.iload_n 1, 1) := by decide +kernel
theorem nd_M_isRow_16 : decode nb_M_isRow 16 = .ok (.isub, 1) := by decide +kernel
theorem nd_M_isRow_17 : decode nb_M_isRow 17 = .ok (.invokestatic 57, 3) := by decide +kernel
theorem nd_M_isRow_20 : decode nb_M_isRow 20 = .ok (.ifCond .eq 7, 3) := by decide +kernel
theorem nd_M_isRow_23 : decode nb_M_isRow 23 = .ok (.iconst 1, 1) := by decide +kernel
theorem nd_M_isRow_24 : decode nb_M_isRow 24 = .ok (.goto 4, 3) := by decide +kernel
theorem nd_M_isRow_27 : decode nb_M_isRow 27 = .ok (.iconst 0, 1) := by decide +kernel
theorem nd_M_isRow_28 : decode nb_M_isRow 28 = .ok (.ireturn, 1) := by decide +kernel
theorem nd_M_mmap_0 : decode nb_M_mmap 0 = .ok (.aload_n 0, 1) := by decide +kernel
theorem nd_M_mmap_1 : decode nb_M_mmap 1 = .ok (.iload_n 1, 1) := by decide +kernel
theorem nd_M_mmap_2 : decode nb_M_mmap 2 = .ok (.invokevirtual 91, 3) := by decide +kernel
theorem nd_M_mmap_5 : decode nb_M_mmap 5 = .ok (.ifCond .eq 15, 3) := by decide +kernel
theorem nd_M_mmap_8 : decode nb_M_mmap 8 = .ok (.iload_n 2, 1) := by decide +kernel
theorem nd_M_mmap_9 : decode nb_M_mmap 9 = .ok (.iload_n 3, 1) := by decide +kernel
theorem nd_M_mmap_10 : decode nb_M_mmap 10 = .ok (.invokestatic 97, 3) := by decide +kernel
theorem nd_M_mmap_13 : decode nb_M_mmap 13 = .ok (.ifCond .eq 7, 3) := by decide +kernel
theorem nd_M_mmap_16 : decode nb_M_mmap 16 = .ok (.iconst 1, 1) := by decide +kernel
theorem nd_M_mmap_17 : decode nb_M_mmap 17 = .ok (.goto 4, 3) := by decide +kernel
theorem nd_M_mmap_20 : decode nb_M_mmap 20 = .ok (.iconst 0, 1) := by decide +kernel
theorem nd_M_mmap_21 : decode nb_M_mmap 21 = .ok (.istore 4, 2) := by decide +kernel
theorem nd_M_mmap_23 : decode nb_M_mmap 23 = .ok (.iload_n 2, 1) := by decide +kernel
theorem nd_M_mmap_24 : decode nb_M_mmap 24 = .ok (.istore 5, 2) := by decide +kernel
theorem nd_M_mmap_26 : decode nb_M_mmap 26 = .ok (.iload 4, 2) := by decide +kernel
theorem nd_M_mmap_28 : decode nb_M_mmap 28 = .ok (.ifCond .eq 40, 3) := by decide +kernel
theorem nd_M_mmap_31 : decode nb_M_mmap 31 = .ok (.iload 5, 2) := by decide +kernel
theorem nd_M_mmap_33 : decode nb_M_mmap 33 = .ok (.iload_n 2, 1) := by decide +kernel
theorem nd_M_mmap_34 : decode nb_M_mmap 34 = .ok (.iload_n 3, 1) := by decide +kernel
theorem nd_M_mmap_35 : decode nb_M_mmap 35 = .ok (.iadd, 1) := by decide +kernel
theorem nd_M_mmap_36 : decode nb_M_mmap 36 = .ok (.if_icmp .ge 32, 3) := by decide +kernel
theorem nd_M_mmap_39 : decode nb_M_mmap 39 = .ok (.aload_n 0, 1) := by decide +kernel
theorem nd_M_mmap_40 : decode nb_M_mmap 40 = .ok (.getfield 34, 3) := by decide +kernel
theorem nd_M_mmap_43 : decode nb_M_mmap 43 = .ok (.sipush 256, 3) := by decide +kernel
theorem nd_M_mmap_46 : decode nb_M_mmap 46 = .ok (.iload_n 1, 1) := by decide +kernel
theorem nd_M_mmap_47 : decode nb_M_mmap 47 = .ok (.imul, 1) := by decide +kernel
theorem nd_M_mmap_48 : decode nb_M_mmap 48 = .ok (.iload 5, 2) := by decide +kernel
theorem nd_M_mmap_50 : decode nb_M_mmap 50 = .ok (.iadd, 1) := by decide +kernel
theorem nd_M_mmap_51 : decode nb_M_mmap 51 = .ok (.baload, 1) := by decide +kernel
theorem nd_M_mmap_52 : decode nb_M_mmap 52 = .ok (.ifCond .ne 7, 3) := by decide +kernel
theorem nd_M_mmap_55 : decode nb_M_mmap 55 = .ok (.iconst 1, 1) := by decide +kernel
theorem nd_M_mmap_56 : decode nb_M_mmap 56 = .ok (.goto 4, 3) := by decide +kernel
theorem nd_M_mmap_59 : decode nb_M_mmap 59 = .ok (.iconst 0, 1) := by decide +kernel
theorem nd_M_mmap_60 : decode nb_M_mmap 60 = .ok (.istore 4, 2) := by decide +kernel
theorem nd_M_mmap_62 : decode nb_M_mmap 62 = .ok (.iinc 5 1, 3) := by decide +kernel
theorem nd_M_mmap_65 : decode nb_M_mmap 65 = .ok (.goto (-39), 3) := by decide +kernel
theorem nd_M_mmap_68 : decode nb_M_mmap 68 = .ok (.aload_n 0, 1) := by decide +kernel
theorem nd_M_mmap_69 : decode nb_M_mmap 69 = .ok (.iload 4, 2) := by decide +kernel
theorem nd_M_mmap_71 : decode nb_M_mmap 71 = .ok (.ifCond .eq 7, 3) := by decide +kernel
theorem nd_M_mmap_74 : decode nb_M_mmap 74 = .ok (.iconst 0, 1) := by decide +kernel
theorem nd_M_mmap_75 : decode nb_M_mmap 75 = .ok (.goto 4, 3) := by decide +kernel
theorem nd_M_mmap_78 : decode nb_M_mmap 78 = .ok (.iconst 1, 1) := by decide +kernel
theorem nd_M_mmap_79 : decode nb_M_mmap 79 = .ok (.invokevirtual 64, 3) := by decide +kernel
theorem nd_M_mmap_82 : decode nb_M_mmap 82 = .ok (.ifCond .eq 4, 3) := by decide +kernel
theorem nd_M_mmap_85 : decode nb_M_mmap 85 = .ok (.return_, 1) := by decide +kernel
theorem nd_M_mmap_86 : decode nb_M_mmap 86 = .ok (.iload_n 2, 1) := by decide +kernel
theorem nd_M_mmap_87 : decode nb_M_mmap 87 = .ok (.istore 5, 2) := by decide +kernel
theorem nd_M_mmap_89 : decode nb_M_mmap 89 = .ok (.iload 5, 2) := by decide +kernel
theorem nd_M_mmap_91 : decode nb_M_mmap 91 = .ok (.iload_n 2, 1) := by decide +kernel
theorem nd_M_mmap_92 : decode nb_M_mmap 92 = .ok (.iload_n 3, 1) := by decide +kernel
theorem nd_M_mmap_93 : decode nb_M_mmap 93 = .ok (.iadd, 1) := by decide +kernel
theorem nd_M_mmap_94 : decode nb_M_mmap 94 = .ok (.if_icmp .ge 23, 3) := by decide +kernel
theorem nd_M_mmap_97 : decode nb_M_mmap 97 = .ok (.aload_n 0, 1) := by decide +kernel
theorem nd_M_mmap_98 : decode nb_M_mmap 98 = .ok (.getfield 34, 3) := by decide +kernel
theorem nd_M_mmap_101 : decode nb_M_mmap 101 = .ok (.sipush 256, 3) := by decide +kernel
theorem nd_M_mmap_104 : decode nb_M_mmap 104 = .ok (.iload_n 1, 1) := by decide +kernel
theorem nd_M_mmap_105 : decode nb_M_mmap 105 = .ok (.imul, 1) := by decide +kernel
theorem nd_M_mmap_106 : decode nb_M_mmap 106 = .ok (.iload 5, 2) := by decide +kernel
theorem nd_M_mmap_108 : decode nb_M_mmap 108 = .ok (.iadd, 1) := by decide +kernel
theorem nd_M_mmap_109 : decode nb_M_mmap 109 = .ok (.iconst 1, 1) := by decide +kernel
theorem nd_M_mmap_110 : decode nb_M_mmap 110 = .ok (.bastore, 1) := by decide +kernel
theorem nd_M_mmap_111 : decode nb_M_mmap 111 = .ok (.iinc 5 1, 3) := by decide +kernel
theorem nd_M_mmap_114 : decode nb_M_mmap 114 = .ok (.goto (-25), 3) := by decide +kernel
theorem nd_M_mmap_117 : decode nb_M_mmap 117 = .ok (.return_, 1) := by decide +kernel
theorem nd_M_munmap_0 : decode nb_M_munmap 0 = .ok (.aload_n 0, 1) := by decide +kernel
theorem nd_M_munmap_1 : decode nb_M_munmap 1 = .ok (.aload_n 0, 1) := by decide +kernel
theorem nd_M_munmap_2 : decode nb_M_munmap 2 = .ok (.iload_n 1, 1) := by decide +kernel
theorem nd_M_munmap_3 : decode nb_M_munmap 3 = .ok (.invokevirtual 91, 3) := by decide +kernel
theorem nd_M_munmap_6 : decode nb_M_munmap 6 = .ok (.ifCond .eq 15, 3) := by decide +kernel
theorem nd_M_munmap_9 : decode nb_M_munmap 9 = .ok (.iload_n 2, 1) := by decide +kernel
theorem nd_M_munmap_10 : decode nb_M_munmap 10 = .ok (.iload_n 3, 1) := by decide +kernel
theorem nd_M_munmap_11 : decode nb_M_munmap 11 = .ok (.invokestatic 97, 3) := by decide +kernel
theorem nd_M_munmap_14 : decode nb_M_munmap 14 = .ok (.ifCond .eq 7, 3) := by decide +kernel
theorem nd_M_munmap_17 : decode nb_M_munmap 17 = .ok (.iconst 0, 1) := by decide +kernel
theorem nd_M_munmap_18 : decode nb_M_munmap 18 = .ok (.goto 4, 3) := by decide +kernel
theorem nd_M_munmap_21 : decode nb_M_munmap 21 = .ok (.iconst 1, 1) := by decide +kernel
theorem nd_M_munmap_22 : decode nb_M_munmap 22 = .ok (.invokevirtual 64, 3) := by decide +kernel
theorem nd_M_munmap_25 : decode nb_M_munmap 25 = .ok (.ifCond .eq 5, 3) := by decide +kernel
theorem nd_M_munmap_28 : decode nb_M_munmap 28 = .ok (.iconst 0, 1) := by decide +kernel
theorem nd_M_munmap_29 : decode nb_M_munmap 29 = .ok (.ireturn, 1) := by decide +kernel
theorem nd_M_munmap_30 : decode nb_M_munmap 30 = .ok (.iconst 0, 1) := by decide +kernel
theorem nd_M_munmap_31 : decode nb_M_munmap 31 = .ok (.istore 4, 2) := by decide +kernel
theorem nd_M_munmap_33 : decode nb_M_munmap 33 = .ok (.iload_n 2, 1) := by decide +kernel
theorem nd_M_munmap_34 : decode nb_M_munmap 34 = .ok (.istore 5, 2) := by decide +kernel
theorem nd_M_munmap_36 : decode nb_M_munmap 36 = .ok (.iload 5, 2) := by decide +kernel
theorem nd_M_munmap_38 : decode nb_M_munmap 38 = .ok (.iload_n 2, 1) := by decide +kernel
theorem nd_M_munmap_39 : decode nb_M_munmap 39 = .ok (.iload_n 3, 1) := by decide +kernel
theorem nd_M_munmap_40 : decode nb_M_munmap 40 = .ok (.iadd, 1) := by decide +kernel
theorem nd_M_munmap_41 : decode nb_M_munmap 41 = .ok (.if_icmp .ge 44, 3) := by decide +kernel
theorem nd_M_munmap_44 : decode nb_M_munmap 44 = .ok (.aload_n 0, 1) := by decide +kernel
theorem nd_M_munmap_45 : decode nb_M_munmap 45 = .ok (.iload_n 1, 1) := by decide +kernel
theorem nd_M_munmap_46 : decode nb_M_munmap 46 = .ok (.iload 5, 2) := by decide +kernel
theorem nd_M_munmap_48 : decode nb_M_munmap 48 = .ok (.invokevirtual 94, 3) := by decide +kernel
theorem nd_M_munmap_51 : decode nb_M_munmap 51 = .ok (.ifCond .le 10, 3) := by decide +kernel
theorem nd_M_munmap_54 : decode nb_M_munmap 54 = .ok (.iload 4, 2) := by decide +kernel
theorem nd_M_munmap_56 : decode nb_M_munmap 56 = .ok (.iconst 1, 1) := by decide +kernel
theorem nd_M_munmap_57 : decode nb_M_munmap 57 = .ok (.iadd, 1) := by decide +kernel
theorem nd_M_munmap_58 : decode nb_M_munmap 58 = .ok (.goto 5, 3) := by decide +kernel
theorem nd_M_munmap_61 : decode nb_M_munmap 61 = .ok (.iload 4, 2) := by decide +kernel
theorem nd_M_munmap_63 : decode nb_M_munmap 63 = .ok (.istore 4, 2) := by decide +kernel
theorem nd_M_munmap_65 : decode nb_M_munmap 65 = .ok (.aload_n 0, 1) := by decide +kernel
theorem nd_M_munmap_66 : decode nb_M_munmap 66 = .ok (.getfield 34, 3) := by decide +kernel
theorem nd_M_munmap_69 : decode nb_M_munmap 69 = .ok (.sipush 256, 3) := by decide +kernel
theorem nd_M_munmap_72 : decode nb_M_munmap 72 = .ok (.iload_n 1, 1) := by decide +kernel
theorem nd_M_munmap_73 : decode nb_M_munmap 73 = .ok (.imul, 1) := by decide +kernel
theorem nd_M_munmap_74 : decode nb_M_munmap 74 = .ok (.iload 5, 2) := by decide +kernel
theorem nd_M_munmap_76 : decode nb_M_munmap 76 = .ok (.iadd, 1) := by decide +kernel
theorem nd_M_munmap_77 : decode nb_M_munmap 77 = .ok (.iconst 0, 1) := by decide +kernel
theorem nd_M_munmap_78 : decode nb_M_munmap 78 = .ok (.bastore, 1) := by decide +kernel
theorem nd_M_munmap_79 : decode nb_M_munmap 79 = .ok (.iinc 5 1, 3) := by decide +kernel
theorem nd_M_munmap_82 : decode nb_M_munmap 82 = .ok (.goto (-46), 3) := by decide +kernel
theorem nd_M_munmap_85 : decode nb_M_munmap 85 = .ok (.iload 4, 2) := by decide +kernel
theorem nd_M_munmap_87 : decode nb_M_munmap 87 = .ok (.ireturn, 1) := by decide +kernel
theorem nd_M_wrong_0 : decode nb_M_wrong 0 = .ok (.iload_n 1, 1) := by decide +kernel
theorem nd_M_wrong_1 : decode nb_M_wrong 1 = .ok (.iconst (-1), 1) := by decide +kernel
theorem nd_M_wrong_2 : decode nb_M_wrong 2 = .ok (.if_icmp .ne 17, 3) := by decide +kernel
theorem nd_M_wrong_5 : decode nb_M_wrong 5 = .ok (.aload_n 0, 1) := by decide +kernel
theorem nd_M_wrong_6 : decode nb_M_wrong 6 = .ok (.iload_n 2, 1) := by decide +kernel
theorem nd_M_wrong_7 : decode nb_M_wrong 7 = .ok (.invokevirtual 72, 3) := by decide +kernel
theorem nd_M_wrong_10 : decode nb_M_wrong 10 = .ok (.ifCond .eq 7, 3) := by decide +kernel
theorem nd_M_wrong_13 : decode nb_M_wrong 13 = .ok (.iconst 0, 1) := by decide +kernel
theorem nd_M_wrong_14 : decode nb_M_wrong 14 = .ok (.goto 4, 3) := by decide +kernel
theorem nd_M_wrong_17 : decode nb_M_wrong 17 = .ok (.iconst 2, 1) := by decide +kernel
theorem nd_M_wrong_18 : decode nb_M_wrong 18 = .ok (.ireturn, 1) := by decide +kernel
theorem nd_M_wrong_19 : decode nb_M_wrong 19 = .ok (.iload_n 1, 1) := by decide +kernel
theorem nd_M_wrong_20 : decode nb_M_wrong 20 = .ok (.bipush (-2), 2) := by decide +kernel
theorem nd_M_wrong_22 : decode nb_M_wrong 22 = .ok (.if_icmp .ne 32, 3) := by decide +kernel
theorem nd_M_wrong_25 : decode nb_M_wrong 25 = .ok (.iload_n 2, 1) := by decide +kernel
theorem nd_M_wrong_26 : decode nb_M_wrong 26 = .ok (.iconst 0, 1) := by decide +kernel
theorem nd_M_wrong_27 : decode nb_M_wrong 27 = .ok (.sipush 1023, 3) := by decide +kernel
theorem nd_M_wrong_30 : decode nb_M_wrong 30 = .ok (.invokestatic 57, 3) := by decide +kernel
theorem nd_M_wrong_33 : decode nb_M_wrong 33 = .ok (.ifCond .eq 19, 3) := by decide +kernel
theorem nd_M_wrong_36 : decode nb_M_wrong 36 = .ok (.aload_n 0, 1) := by decide +kernel
theorem nd_M_wrong_37 : decode nb_M_wrong 37 = .ok (.getfield 25, 3) := by decide +kernel
theorem nd_M_wrong_40 : decode nb_M_wrong 40 = .ok (.iload_n 2, 1) := by decide +kernel
theorem nd_M_wrong_41 : decode nb_M_wrong 41 = .ok (.bipush 16, 2) := by decide +kernel
theorem nd_M_wrong_43 : decode nb_M_wrong 43 = .ok (.idiv, 1) := by decide +kernel
theorem nd_M_wrong_44 : decode nb_M_wrong 44 = .ok (.iaload, 1) := by decide +kernel
theorem nd_M_wrong_45 : decode nb_M_wrong 45 = .ok (.ifCond .le 7, 3) := by decide +kernel
theorem nd_M_wrong_48 : decode nb_M_wrong 48 = .ok (.iconst 0, 1) := by decide +kernel
theorem nd_M_wrong_49 : decode nb_M_wrong 49 = .ok (.goto 4, 3) := by decide +kernel
theorem nd_M_wrong_52 : decode nb_M_wrong 52 = .ok (.iconst 2, 1) := by decide +kernel
theorem nd_M_wrong_53 : decode nb_M_wrong 53 = .ok (.ireturn, 1) := by decide +kernel
theorem nd_M_wrong_54 : decode nb_M_wrong 54 = .ok (.aload_n 0, 1) := by decide +kernel
theorem nd_M_wrong_55 : decode nb_M_wrong 55 = .ok (.iload_n 1, 1) := by decide +kernel
theorem nd_M_wrong_56 : decode nb_M_wrong 56 = .ok (.invokevirtual 91, 3) := by decide +kernel
theorem nd_M_wrong_59 : decode nb_M_wrong 59 = .ok (.ifCond .ne 5, 3) := by decide +kernel
theorem nd_M_wrong_62 : decode nb_M_wrong 62 = .ok (.iconst 1, 1) := by decide +kernel
theorem nd_M_wrong_63 : decode nb_M_wrong 63 = .ok (.ireturn, 1) := by decide +kernel
theorem nd_M_wrong_64 : decode nb_M_wrong 64 = .ok (.iload_n 2, 1) := by decide +kernel
theorem nd_M_wrong_65 : decode nb_M_wrong 65 = .ok (.iconst 0, 1) := by decide +kernel
theorem nd_M_wrong_66 : decode nb_M_wrong 66 = .ok (.sipush 4095, 3) := by decide +kernel
theorem nd_M_wrong_69 : decode nb_M_wrong 69 = .ok (.invokestatic 57, 3) := by decide +kernel
theorem nd_M_wrong_72 : decode nb_M_wrong 72 = .ok (.ifCond .eq 21, 3) := by decide +kernel
theorem nd_M_wrong_75 : decode nb_M_wrong 75 = .ok (.aload_n 0, 1) := by decide +kernel
theorem nd_M_wrong_76 : decode nb_M_wrong 76 = .ok (.getfield 34, 3) := by decide +kernel
theorem nd_M_wrong_79 : decode nb_M_wrong 79 = .ok (.sipush 256, 3) := by decide +kernel
theorem nd_M_wrong_82 : decode nb_M_wrong 82 = .ok (.iload_n 1, 1) := by decide +kernel
theorem nd_M_wrong_83 : decode nb_M_wrong 83 = .ok (.imul, 1) := by decide +kernel
theorem nd_M_wrong_84 : decode nb_M_wrong 84 = .ok (.iload_n 2, 1) := by decide +kernel
theorem nd_M_wrong_85 : decode nb_M_wrong 85 = .ok (.bipush 16, 2) := by decide +kernel
theorem nd_M_wrong_87 : decode nb_M_wrong 87 = .ok (.idiv, 1) := by decide +kernel
theorem nd_M_wrong_88 : decode nb_M_wrong 88 = .ok (.iadd, 1) := by decide +kernel
theorem nd_M_wrong_89 : decode nb_M_wrong 89 = .ok (.baload, 1) := by decide +kernel
theorem nd_M_wrong_90 : decode nb_M_wrong 90 = .ok (.ifCond .ne 5, 3) := by decide +kernel
theorem nd_M_wrong_93 : decode nb_M_wrong 93 = .ok (.iconst 2, 1) := by decide +kernel
theorem nd_M_wrong_94 : decode nb_M_wrong 94 = .ok (.ireturn, 1) := by decide +kernel
theorem nd_M_wrong_95 : decode nb_M_wrong 95 = .ok (.aload_n 0, 1) := by decide +kernel
theorem nd_M_wrong_96 : decode nb_M_wrong 96 = .ok (.iload_n 1, 1) := by decide +kernel
theorem nd_M_wrong_97 : decode nb_M_wrong 97 = .ok (.iload_n 2, 1) := by decide +kernel
theorem nd_M_wrong_98 : decode nb_M_wrong 98 = .ok (.bipush 16, 2) := by decide +kernel
theorem nd_M_wrong_100 : decode nb_M_wrong 100 = .ok (.idiv, 1) := by decide +kernel
theorem nd_M_wrong_101 : decode nb_M_wrong 101 = .ok (.invokevirtual 88, 3) := by decide +kernel
theorem nd_M_wrong_104 : decode nb_M_wrong 104 = .ok (.ifCond .lt 7, 3) := by decide +kernel
theorem nd_M_wrong_107 : decode nb_M_wrong 107 = .ok (.iconst 0, 1) := by decide +kernel
theorem nd_M_wrong_108 : decode nb_M_wrong 108 = .ok (.goto 20, 3) := by decide +kernel
theorem nd_M_wrong_111 : decode nb_M_wrong 111 = .ok (.aload_n 0, 1) := by decide +kernel
theorem nd_M_wrong_112 : decode nb_M_wrong 112 = .ok (.iload_n 1, 1) := by decide +kernel
theorem nd_M_wrong_113 : decode nb_M_wrong 113 = .ok (.iload_n 2, 1) := by decide +kernel
theorem nd_M_wrong_114 : decode nb_M_wrong 114 = .ok (.bipush 16, 2) := by decide +kernel
theorem nd_M_wrong_116 : decode nb_M_wrong 116 = .ok (.idiv, 1) := by decide +kernel
theorem nd_M_wrong_117 : decode nb_M_wrong 117 = .ok (.invokevirtual 82, 3) := by decide +kernel
theorem nd_M_wrong_120 : decode nb_M_wrong 120 = .ok (.ifCond .eq 7, 3) := by decide +kernel
theorem nd_M_wrong_123 : decode nb_M_wrong 123 = .ok (.iconst 1, 1) := by decide +kernel
theorem nd_M_wrong_124 : decode nb_M_wrong 124 = .ok (.goto 4, 3) := by decide +kernel
theorem nd_M_wrong_127 : decode nb_M_wrong 127 = .ok (.iconst 2, 1) := by decide +kernel
theorem nd_M_wrong_128 : decode nb_M_wrong 128 = .ok (.istore_n 3, 1) := by decide +kernel
theorem nd_M_wrong_129 : decode nb_M_wrong 129 = .ok (.aload_n 0, 1) := by decide +kernel
theorem nd_M_wrong_130 : decode nb_M_wrong 130 = .ok (.invokevirtual 61, 3) := by decide +kernel
theorem nd_M_wrong_133 : decode nb_M_wrong 133 = .ok (.iload_n 3, 1) := by decide +kernel
theorem nd_M_wrong_134 : decode nb_M_wrong 134 = .ok (.if_icmp .ge 7, 3) := by decide +kernel
theorem nd_M_wrong_137 : decode nb_M_wrong 137 = .ok (.iconst 3, 1) := by decide +kernel
theorem nd_M_wrong_138 : decode nb_M_wrong 138 = .ok (.goto 4, 3) := by decide +kernel
theorem nd_M_wrong_141 : decode nb_M_wrong 141 = .ok (.iconst 0, 1) := by decide +kernel
theorem nd_M_wrong_142 : decode nb_M_wrong 142 = .ok (.ireturn, 1) := by decide +kernel
theorem nd_M_placeOf_0 : decode nb_M_placeOf 0 = .ok (.iload_n 1, 1) := by decide +kernel
theorem nd_M_placeOf_1 : decode nb_M_placeOf 1 = .ok (.iconst (-1), 1) := by decide +kernel
theorem nd_M_placeOf_2 : decode nb_M_placeOf 2 = .ok (.if_icmp .ne 5, 3) := by decide +kernel
theorem nd_M_placeOf_5 : decode nb_M_placeOf 5 = .ok (.iload_n 2, 1) := by decide +kernel
theorem nd_M_placeOf_6 : decode nb_M_placeOf 6 = .ok (.ireturn, 1) := by decide +kernel
theorem nd_M_placeOf_7 : decode nb_M_placeOf 7 = .ok (.iload_n 1, 1) := by decide +kernel
theorem nd_M_placeOf_8 : decode nb_M_placeOf 8 = .ok (.bipush (-2), 2) := by decide +kernel
theorem nd_M_placeOf_10 : decode nb_M_placeOf 10 = .ok (.if_icmp .ne 23, 3) := by decide +kernel
theorem nd_M_placeOf_13 : decode nb_M_placeOf 13 = .ok (.bipush 16, 2) := by decide +kernel
theorem nd_M_placeOf_15 : decode nb_M_placeOf 15 = .ok (.aload_n 0, 1) := by decide +kernel
theorem nd_M_placeOf_16 : decode nb_M_placeOf 16 = .ok (.getfield 25, 3) := by decide +kernel
theorem nd_M_placeOf_19 : decode nb_M_placeOf 19 = .ok (.iload_n 2, 1) := by decide +kernel
theorem nd_M_placeOf_20 : decode nb_M_placeOf 20 = .ok (.bipush 16, 2) := by decide +kernel
theorem nd_M_placeOf_22 : decode nb_M_placeOf 22 = .ok (.idiv, 1) := by decide +kernel
theorem nd_M_placeOf_23 : decode nb_M_placeOf 23 = .ok (.iaload, 1) := by decide +kernel
theorem nd_M_placeOf_24 : decode nb_M_placeOf 24 = .ok (.iconst 1, 1) := by decide +kernel
theorem nd_M_placeOf_25 : decode nb_M_placeOf 25 = .ok (.isub, 1) := by decide +kernel
theorem nd_M_placeOf_26 : decode nb_M_placeOf 26 = .ok (.imul, 1) := by decide +kernel
theorem nd_M_placeOf_27 : decode nb_M_placeOf 27 = .ok (.iload_n 2, 1) := by decide +kernel
theorem nd_M_placeOf_28 : decode nb_M_placeOf 28 = .ok (.bipush 16, 2) := by decide +kernel
theorem nd_M_placeOf_30 : decode nb_M_placeOf 30 = .ok (.irem, 1) := by decide +kernel
theorem nd_M_placeOf_31 : decode nb_M_placeOf 31 = .ok (.iadd, 1) := by decide +kernel
theorem nd_M_placeOf_32 : decode nb_M_placeOf 32 = .ok (.ireturn, 1) := by decide +kernel
theorem nd_M_placeOf_33 : decode nb_M_placeOf 33 = .ok (.iload_n 2, 1) := by decide +kernel
theorem nd_M_placeOf_34 : decode nb_M_placeOf 34 = .ok (.bipush 16, 2) := by decide +kernel
theorem nd_M_placeOf_36 : decode nb_M_placeOf 36 = .ok (.idiv, 1) := by decide +kernel
theorem nd_M_placeOf_37 : decode nb_M_placeOf 37 = .ok (.istore_n 3, 1) := by decide +kernel
theorem nd_M_placeOf_38 : decode nb_M_placeOf 38 = .ok (.aload_n 0, 1) := by decide +kernel
theorem nd_M_placeOf_39 : decode nb_M_placeOf 39 = .ok (.iload_n 1, 1) := by decide +kernel
theorem nd_M_placeOf_40 : decode nb_M_placeOf 40 = .ok (.iload_n 3, 1) := by decide +kernel
theorem nd_M_placeOf_41 : decode nb_M_placeOf 41 = .ok (.invokevirtual 82, 3) := by decide +kernel
theorem nd_M_placeOf_44 : decode nb_M_placeOf 44 = .ok (.ifCond .ne 25, 3) := by decide +kernel
theorem nd_M_placeOf_47 : decode nb_M_placeOf 47 = .ok (.aload_n 0, 1) := by decide +kernel
theorem nd_M_placeOf_48 : decode nb_M_placeOf 48 = .ok (.iconst 1, 1) := by decide +kernel
theorem nd_M_placeOf_49 : decode nb_M_placeOf 49 = .ok (.invokevirtual 68, 3) := by decide +kernel
theorem nd_M_placeOf_52 : decode nb_M_placeOf 52 = .ok (.istore 4, 2) := by decide +kernel
theorem nd_M_placeOf_54 : decode nb_M_placeOf 54 = .ok (.aload_n 0, 1) := by decide +kernel
theorem nd_M_placeOf_55 : decode nb_M_placeOf 55 = .ok (.getfield 13, 3) := by decide +kernel
theorem nd_M_placeOf_58 : decode nb_M_placeOf 58 = .ok (.aload_n 0, 1) := by decide +kernel
theorem nd_M_placeOf_59 : decode nb_M_placeOf 59 = .ok (.iload_n 1, 1) := by decide +kernel
theorem nd_M_placeOf_60 : decode nb_M_placeOf 60 = .ok (.iload_n 3, 1) := by decide +kernel
theorem nd_M_placeOf_61 : decode nb_M_placeOf 61 = .ok (.invokevirtual 78, 3) := by decide +kernel
theorem nd_M_placeOf_64 : decode nb_M_placeOf 64 = .ok (.iconst 1, 1) := by decide +kernel
theorem nd_M_placeOf_65 : decode nb_M_placeOf 65 = .ok (.iload 4, 2) := by decide +kernel
theorem nd_M_placeOf_67 : decode nb_M_placeOf 67 = .ok (.iadd, 1) := by decide +kernel
theorem nd_M_placeOf_68 : decode nb_M_placeOf 68 = .ok (.iastore, 1) := by decide +kernel
theorem nd_M_placeOf_69 : decode nb_M_placeOf 69 = .ok (.aload_n 0, 1) := by decide +kernel
theorem nd_M_placeOf_70 : decode nb_M_placeOf 70 = .ok (.getfield 13, 3) := by decide +kernel
theorem nd_M_placeOf_73 : decode nb_M_placeOf 73 = .ok (.aload_n 0, 1) := by decide +kernel
theorem nd_M_placeOf_74 : decode nb_M_placeOf 74 = .ok (.iload_n 1, 1) := by decide +kernel
theorem nd_M_placeOf_75 : decode nb_M_placeOf 75 = .ok (.iload_n 3, 1) := by decide +kernel
theorem nd_M_placeOf_76 : decode nb_M_placeOf 76 = .ok (.invokevirtual 85, 3) := by decide +kernel
theorem nd_M_placeOf_79 : decode nb_M_placeOf 79 = .ok (.iaload, 1) := by decide +kernel
theorem nd_M_placeOf_80 : decode nb_M_placeOf 80 = .ok (.ifCond .ne 25, 3) := by decide +kernel
theorem nd_M_placeOf_83 : decode nb_M_placeOf 83 = .ok (.aload_n 0, 1) := by decide +kernel
theorem nd_M_placeOf_84 : decode nb_M_placeOf 84 = .ok (.iconst 4, 1) := by decide +kernel
theorem nd_M_placeOf_85 : decode nb_M_placeOf 85 = .ok (.invokevirtual 68, 3) := by decide +kernel
theorem nd_M_placeOf_88 : decode nb_M_placeOf 88 = .ok (.istore 4, 2) := by decide +kernel
theorem nd_M_placeOf_90 : decode nb_M_placeOf 90 = .ok (.aload_n 0, 1) := by decide +kernel
theorem nd_M_placeOf_91 : decode nb_M_placeOf 91 = .ok (.getfield 13, 3) := by decide +kernel
theorem nd_M_placeOf_94 : decode nb_M_placeOf 94 = .ok (.aload_n 0, 1) := by decide +kernel
theorem nd_M_placeOf_95 : decode nb_M_placeOf 95 = .ok (.iload_n 1, 1) := by decide +kernel
theorem nd_M_placeOf_96 : decode nb_M_placeOf 96 = .ok (.iload_n 3, 1) := by decide +kernel
theorem nd_M_placeOf_97 : decode nb_M_placeOf 97 = .ok (.invokevirtual 85, 3) := by decide +kernel
theorem nd_M_placeOf_100 : decode nb_M_placeOf 100 = .ok (.iconst 1, 1) := by decide +kernel
theorem nd_M_placeOf_101 : decode nb_M_placeOf 101 = .ok (.iload 4, 2) := by decide +kernel
theorem nd_M_placeOf_103 : decode nb_M_placeOf 103 = .ok (.iadd, 1) := by decide +kernel
theorem nd_M_placeOf_104 : decode nb_M_placeOf 104 = .ok (.iastore, 1) := by decide +kernel
theorem nd_M_placeOf_105 : decode nb_M_placeOf 105 = .ok (.bipush 16, 2) := by decide +kernel
theorem nd_M_placeOf_107 : decode nb_M_placeOf 107 = .ok (.aload_n 0, 1) := by decide +kernel
theorem nd_M_placeOf_108 : decode nb_M_placeOf 108 = .ok (.iload_n 1, 1) := by decide +kernel
theorem nd_M_placeOf_109 : decode nb_M_placeOf 109 = .ok (.iload_n 3, 1) := by decide +kernel
theorem nd_M_placeOf_110 : decode nb_M_placeOf 110 = .ok (.invokevirtual 88, 3) := by decide +kernel
theorem nd_M_placeOf_113 : decode nb_M_placeOf 113 = .ok (.imul, 1) := by decide +kernel
theorem nd_M_placeOf_114 : decode nb_M_placeOf 114 = .ok (.iload_n 2, 1) := by decide +kernel
theorem nd_M_placeOf_115 : decode nb_M_placeOf 115 = .ok (.bipush 16, 2) := by decide +kernel
theorem nd_M_placeOf_117 : decode nb_M_placeOf 117 = .ok (.irem, 1) := by decide +kernel
theorem nd_M_placeOf_118 : decode nb_M_placeOf 118 = .ok (.iadd, 1) := by decide +kernel
theorem nd_M_placeOf_119 : decode nb_M_placeOf 119 = .ok (.ireturn, 1) := by decide +kernel
theorem nd_M_load_0 : decode nb_M_load 0 = .ok (.aload_n 0, 1) := by decide +kernel
theorem nd_M_load_1 : decode nb_M_load 1 = .ok (.aload_n 0, 1) := by decide +kernel
theorem nd_M_load_2 : decode nb_M_load 2 = .ok (.iload_n 1, 1) := by decide +kernel
theorem nd_M_load_3 : decode nb_M_load 3 = .ok (.iload_n 2, 1) := by decide +kernel
theorem nd_M_load_4 : decode nb_M_load 4 = .ok (.invokevirtual 100, 3) := by decide +kernel
theorem nd_M_load_7 : decode nb_M_load 7 = .ok (.invokevirtual 64, 3) := by decide +kernel
theorem nd_M_load_10 : decode nb_M_load 10 = .ok (.ifCond .eq 5, 3) := by decide +kernel
theorem nd_M_load_13 : decode nb_M_load 13 = .ok (.iconst 0, 1) := by decide +kernel
theorem nd_M_load_14 : decode nb_M_load 14 = .ok (.ireturn, 1) := by decide +kernel
theorem nd_M_load_15 : decode nb_M_load 15 = .ok (.aload_n 0, 1) := by decide +kernel
theorem nd_M_load_16 : decode nb_M_load 16 = .ok (.getfield 13, 3) := by decide +kernel
theorem nd_M_load_19 : decode nb_M_load 19 = .ok (.aload_n 0, 1) := by decide +kernel
theorem nd_M_load_20 : decode nb_M_load 20 = .ok (.iload_n 1, 1) := by decide +kernel
theorem nd_M_load_21 : decode nb_M_load 21 = .ok (.iload_n 2, 1) := by decide +kernel
theorem nd_M_load_22 : decode nb_M_load 22 = .ok (.invokevirtual 103, 3) := by decide +kernel
theorem nd_M_load_25 : decode nb_M_load 25 = .ok (.iaload, 1) := by decide +kernel
theorem nd_M_load_26 : decode nb_M_load 26 = .ok (.ireturn, 1) := by decide +kernel
theorem nd_M_store_0 : decode nb_M_store 0 = .ok (.aload_n 0, 1) := by decide +kernel
theorem nd_M_store_1 : decode nb_M_store 1 = .ok (.aload_n 0, 1) := by decide +kernel
theorem nd_M_store_2 : decode nb_M_store 2 = .ok (.iload_n 1, 1) := by decide +kernel
theorem nd_M_store_3 : decode nb_M_store 3 = .ok (.iload_n 2, 1) := by decide +kernel
theorem nd_M_store_4 : decode nb_M_store 4 = .ok (.invokevirtual 100, 3) := by decide +kernel
theorem nd_M_store_7 : decode nb_M_store 7 = .ok (.invokevirtual 64, 3) := by decide +kernel
theorem nd_M_store_10 : decode nb_M_store 10 = .ok (.ifCond .eq 4, 3) := by decide +kernel
theorem nd_M_store_13 : decode nb_M_store 13 = .ok (.return_, 1) := by decide +kernel
theorem nd_M_store_14 : decode nb_M_store 14 = .ok (.aload_n 0, 1) := by decide +kernel
theorem nd_M_store_15 : decode nb_M_store 15 = .ok (.getfield 13, 3) := by decide +kernel
theorem nd_M_store_18 : decode nb_M_store 18 = .ok (.aload_n 0, 1) := by decide +kernel
theorem nd_M_store_19 : decode nb_M_store 19 = .ok (.iload_n 1, 1) := by decide +kernel
theorem nd_M_store_20 : decode nb_M_store 20 = .ok (.iload_n 2, 1) := by decide +kernel
theorem nd_M_store_21 : decode nb_M_store 21 = .ok (.invokevirtual 103, 3) := by decide +kernel
theorem nd_M_store_24 : decode nb_M_store 24 = .ok (.iload_n 3, 1) := by decide +kernel
theorem nd_M_store_25 : decode nb_M_store 25 = .ok (.iastore, 1) := by decide +kernel
theorem nd_M_store_26 : decode nb_M_store 26 = .ok (.return_, 1) := by decide +kernel
theorem nd_M_isAble_0 : decode nb_M_isAble 0 = .ok (.iconst 0, 1) := by decide +kernel
theorem nd_M_isAble_1 : decode nb_M_isAble 1 = .ok (.istore_n 3, 1) := by decide +kernel
theorem nd_M_isAble_2 : decode nb_M_isAble 2 = .ok (.iconst 0, 1) := by decide +kernel
theorem nd_M_isAble_3 : decode nb_M_isAble 3 = .ok (.istore 4, 2) := by decide +kernel
theorem nd_M_isAble_5 : decode nb_M_isAble 5 = .ok (.iconst 1, 1) := by decide +kernel
theorem nd_M_isAble_6 : decode nb_M_isAble 6 = .ok (.istore 5, 2) := by decide +kernel
theorem nd_M_isAble_8 : decode nb_M_isAble 8 = .ok (.iload_n 1, 1) := by decide +kernel
theorem nd_M_isAble_9 : decode nb_M_isAble 9 = .ok (.istore 6, 2) := by decide +kernel
theorem nd_M_isAble_11 : decode nb_M_isAble 11 = .ok (.iload 6, 2) := by decide +kernel
theorem nd_M_isAble_13 : decode nb_M_isAble 13 = .ok (.iload_n 1, 1) := by decide +kernel
theorem nd_M_isAble_14 : decode nb_M_isAble 14 = .ok (.iload_n 2, 1) := by decide +kernel
theorem nd_M_isAble_15 : decode nb_M_isAble 15 = .ok (.iadd, 1) := by decide +kernel
theorem nd_M_isAble_16 : decode nb_M_isAble 16 = .ok (.if_icmp .ge 82, 3) := by decide +kernel
theorem nd_M_isAble_19 : decode nb_M_isAble 19 = .ok (.iload 5, 2) := by decide +kernel
theorem nd_M_isAble_21 : decode nb_M_isAble 21 = .ok (.ifCond .eq 28, 3) := by decide +kernel
theorem nd_M_isAble_24 : decode nb_M_isAble 24 = .ok (.aload_n 0, 1) := by decide +kernel
theorem nd_M_isAble_25 : decode nb_M_isAble 25 = .ok (.getfield 7, 3) := by decide +kernel
theorem nd_M_isAble_28 : decode nb_M_isAble 28 = .ok (.iload 6, 2) := by decide +kernel
theorem nd_M_isAble_30 : decode nb_M_isAble 30 = .ok (.iaload, 1) := by decide +kernel
theorem nd_M_isAble_31 : decode nb_M_isAble 31 = .ok (.ifCond .eq 14, 3) := by decide +kernel
theorem nd_M_isAble_34 : decode nb_M_isAble 34 = .ok (.aload_n 0, 1) := by decide +kernel
theorem nd_M_isAble_35 : decode nb_M_isAble 35 = .ok (.getfield 7, 3) := by decide +kernel
theorem nd_M_isAble_38 : decode nb_M_isAble 38 = .ok (.iload 6, 2) := by decide +kernel
theorem nd_M_isAble_40 : decode nb_M_isAble 40 = .ok (.iaload, 1) := by decide +kernel
theorem nd_M_isAble_41 : decode nb_M_isAble 41 = .ok (.iconst 4, 1) := by decide +kernel
theorem nd_M_isAble_42 : decode nb_M_isAble 42 = .ok (.if_icmp .ne 7, 3) := by decide +kernel
theorem nd_M_isAble_45 : decode nb_M_isAble 45 = .ok (.iconst 1, 1) := by decide +kernel
theorem nd_M_isAble_46 : decode nb_M_isAble 46 = .ok (.goto 4, 3) := by decide +kernel
theorem nd_M_isAble_49 : decode nb_M_isAble 49 = .ok (.iconst 0, 1) := by decide +kernel
theorem nd_M_isAble_50 : decode nb_M_isAble 50 = .ok (.istore 5, 2) := by decide +kernel
theorem nd_M_isAble_52 : decode nb_M_isAble 52 = .ok (.aload_n 0, 1) := by decide +kernel
theorem nd_M_isAble_53 : decode nb_M_isAble 53 = .ok (.getfield 7, 3) := by decide +kernel
theorem nd_M_isAble_56 : decode nb_M_isAble 56 = .ok (.iload 6, 2) := by decide +kernel
theorem nd_M_isAble_58 : decode nb_M_isAble 58 = .ok (.iaload, 1) := by decide +kernel
theorem nd_M_isAble_59 : decode nb_M_isAble 59 = .ok (.iconst 4, 1) := by decide +kernel
theorem nd_M_isAble_60 : decode nb_M_isAble 60 = .ok (.if_icmp .ne 9, 3) := by decide +kernel
theorem nd_M_isAble_63 : decode nb_M_isAble 63 = .ok (.iload_n 3, 1) := by decide +kernel
theorem nd_M_isAble_64 : decode nb_M_isAble 64 = .ok (.iconst 1, 1) := by decide +kernel
theorem nd_M_isAble_65 : decode nb_M_isAble 65 = .ok (.iadd, 1) := by decide +kernel
theorem nd_M_isAble_66 : decode nb_M_isAble 66 = .ok (.goto 4, 3) := by decide +kernel
theorem nd_M_isAble_69 : decode nb_M_isAble 69 = .ok (.iload_n 3, 1) := by decide +kernel
theorem nd_M_isAble_70 : decode nb_M_isAble 70 = .ok (.istore_n 3, 1) := by decide +kernel
theorem nd_M_isAble_71 : decode nb_M_isAble 71 = .ok (.aload_n 0, 1) := by decide +kernel
theorem nd_M_isAble_72 : decode nb_M_isAble 72 = .ok (.getfield 7, 3) := by decide +kernel
theorem nd_M_isAble_75 : decode nb_M_isAble 75 = .ok (.iload 6, 2) := by decide +kernel
theorem nd_M_isAble_77 : decode nb_M_isAble 77 = .ok (.iaload, 1) := by decide +kernel
theorem nd_M_isAble_78 : decode nb_M_isAble 78 = .ok (.ifCond .ne 10, 3) := by decide +kernel
theorem nd_M_isAble_81 : decode nb_M_isAble 81 = .ok (.iload 4, 2) := by decide +kernel
theorem nd_M_isAble_83 : decode nb_M_isAble 83 = .ok (.iconst 1, 1) := by decide +kernel
theorem nd_M_isAble_84 : decode nb_M_isAble 84 = .ok (.iadd, 1) := by decide +kernel
theorem nd_M_isAble_85 : decode nb_M_isAble 85 = .ok (.goto 5, 3) := by decide +kernel
theorem nd_M_isAble_88 : decode nb_M_isAble 88 = .ok (.iload 4, 2) := by decide +kernel
theorem nd_M_isAble_90 : decode nb_M_isAble 90 = .ok (.istore 4, 2) := by decide +kernel
theorem nd_M_isAble_92 : decode nb_M_isAble 92 = .ok (.iinc 6 1, 3) := by decide +kernel
theorem nd_M_isAble_95 : decode nb_M_isAble 95 = .ok (.goto (-84), 3) := by decide +kernel
theorem nd_M_isAble_98 : decode nb_M_isAble 98 = .ok (.iload 5, 2) := by decide +kernel
theorem nd_M_isAble_100 : decode nb_M_isAble 100 = .ok (.ifCond .eq 18, 3) := by decide +kernel
theorem nd_M_isAble_103 : decode nb_M_isAble 103 = .ok (.aload_n 0, 1) := by decide +kernel
theorem nd_M_isAble_104 : decode nb_M_isAble 104 = .ok (.invokevirtual 61, 3) := by decide +kernel
theorem nd_M_isAble_107 : decode nb_M_isAble 107 = .ok (.iload 4, 2) := by decide +kernel
theorem nd_M_isAble_109 : decode nb_M_isAble 109 = .ok (.isub, 1) := by decide +kernel
theorem nd_M_isAble_110 : decode nb_M_isAble 110 = .ok (.iload_n 3, 1) := by decide +kernel
theorem nd_M_isAble_111 : decode nb_M_isAble 111 = .ok (.if_icmp .lt 7, 3) := by decide +kernel
theorem nd_M_isAble_114 : decode nb_M_isAble 114 = .ok (.iconst 1, 1) := by decide +kernel
theorem nd_M_isAble_115 : decode nb_M_isAble 115 = .ok (.goto 4, 3) := by decide +kernel
theorem nd_M_isAble_118 : decode nb_M_isAble 118 = .ok (.iconst 0, 1) := by decide +kernel
theorem nd_M_isAble_119 : decode nb_M_isAble 119 = .ok (.ireturn, 1) := by decide +kernel
theorem nd_M_rename_0 : decode nb_M_rename 0 = .ok (.iconst 0, 1) := by decide +kernel
theorem nd_M_rename_1 : decode nb_M_rename 1 = .ok (.istore_n 3, 1) := by decide +kernel
theorem nd_M_rename_2 : decode nb_M_rename 2 = .ok (.iload_n 3, 1) := by decide +kernel
theorem nd_M_rename_3 : decode nb_M_rename 3 = .ok (.iconst 4, 1) := by decide +kernel
theorem nd_M_rename_4 : decode nb_M_rename 4 = .ok (.if_icmp .ge 61, 3) := by decide +kernel
theorem nd_M_rename_7 : decode nb_M_rename 7 = .ok (.iconst 0, 1) := by decide +kernel
theorem nd_M_rename_8 : decode nb_M_rename 8 = .ok (.istore 4, 2) := by decide +kernel
theorem nd_M_rename_10 : decode nb_M_rename 10 = .ok (.iload 4, 2) := by decide +kernel
theorem nd_M_rename_12 : decode nb_M_rename 12 = .ok (.sipush 256, 3) := by decide +kernel
theorem nd_M_rename_15 : decode nb_M_rename 15 = .ok (.if_icmp .ge 44, 3) := by decide +kernel
theorem nd_M_rename_18 : decode nb_M_rename 18 = .ok (.aload_n 0, 1) := by decide +kernel
theorem nd_M_rename_19 : decode nb_M_rename 19 = .ok (.getfield 31, 3) := by decide +kernel
theorem nd_M_rename_22 : decode nb_M_rename 22 = .ok (.iload_n 3, 1) := by decide +kernel
theorem nd_M_rename_23 : decode nb_M_rename 23 = .ok (.iaload, 1) := by decide +kernel
theorem nd_M_rename_24 : decode nb_M_rename 24 = .ok (.ifCond .le 35, 3) := by decide +kernel
theorem nd_M_rename_27 : decode nb_M_rename 27 = .ok (.aload_n 0, 1) := by decide +kernel
theorem nd_M_rename_28 : decode nb_M_rename 28 = .ok (.iload_n 3, 1) := by decide +kernel
theorem nd_M_rename_29 : decode nb_M_rename 29 = .ok (.iload 4, 2) := by decide +kernel
theorem nd_M_rename_31 : decode nb_M_rename 31 = .ok (.invokevirtual 88, 3) := by decide +kernel
theorem nd_M_rename_34 : decode nb_M_rename 34 = .ok (.iload_n 1, 1) := by decide +kernel
theorem nd_M_rename_35 : decode nb_M_rename 35 = .ok (.if_icmp .ne 18, 3) := by decide +kernel
theorem nd_M_rename_38 : decode nb_M_rename 38 = .ok (.aload_n 0, 1) := by decide +kernel
theorem nd_M_rename_39 : decode nb_M_rename 39 = .ok (.getfield 13, 3) := by decide +kernel
theorem nd_M_rename_42 : decode nb_M_rename 42 = .ok (.aload_n 0, 1) := by decide +kernel
theorem nd_M_rename_43 : decode nb_M_rename 43 = .ok (.iload_n 3, 1) := by decide +kernel
theorem nd_M_rename_44 : decode nb_M_rename 44 = .ok (.iload 4, 2) := by decide +kernel
theorem nd_M_rename_46 : decode nb_M_rename 46 = .ok (.invokevirtual 85, 3) := by decide +kernel
theorem nd_M_rename_49 : decode nb_M_rename 49 = .ok (.iconst 1, 1) := by decide +kernel
theorem nd_M_rename_50 : decode nb_M_rename 50 = .ok (.iload_n 2, 1) := by decide +kernel
theorem nd_M_rename_51 : decode nb_M_rename 51 = .ok (.iadd, 1) := by decide +kernel
theorem nd_M_rename_52 : decode nb_M_rename 52 = .ok (.iastore, 1) := by decide +kernel
theorem nd_M_rename_53 : decode nb_M_rename 53 = .ok (.iinc 4 1, 3) := by decide +kernel
theorem nd_M_rename_56 : decode nb_M_rename 56 = .ok (.goto (-46), 3) := by decide +kernel
theorem nd_M_rename_59 : decode nb_M_rename 59 = .ok (.iinc 3 1, 3) := by decide +kernel
theorem nd_M_rename_62 : decode nb_M_rename 62 = .ok (.goto (-60), 3) := by decide +kernel
theorem nd_M_rename_65 : decode nb_M_rename 65 = .ok (.return_, 1) := by decide +kernel
theorem nd_M_moveOut_0 : decode nb_M_moveOut 0 = .ok (.iconst 0, 1) := by decide +kernel
theorem nd_M_moveOut_1 : decode nb_M_moveOut 1 = .ok (.istore 4, 2) := by decide +kernel
theorem nd_M_moveOut_3 : decode nb_M_moveOut 3 = .ok (.aload_n 0, 1) := by decide +kernel
theorem nd_M_moveOut_4 : decode nb_M_moveOut 4 = .ok (.getfield 7, 3) := by decide +kernel
theorem nd_M_moveOut_7 : decode nb_M_moveOut 7 = .ok (.iload 4, 2) := by decide +kernel
theorem nd_M_moveOut_9 : decode nb_M_moveOut 9 = .ok (.iaload, 1) := by decide +kernel
theorem nd_M_moveOut_10 : decode nb_M_moveOut 10 = .ok (.ifCond .ne 17, 3) := by decide +kernel
theorem nd_M_moveOut_13 : decode nb_M_moveOut 13 = .ok (.iload 4, 2) := by decide +kernel
theorem nd_M_moveOut_15 : decode nb_M_moveOut 15 = .ok (.iload_n 2, 1) := by decide +kernel
theorem nd_M_moveOut_16 : decode nb_M_moveOut 16 = .ok (.if_icmp .lt 20, 3) := by decide +kernel
theorem nd_M_moveOut_19 : decode nb_M_moveOut 19 = .ok (.iload 4, 2) := by decide +kernel
theorem nd_M_moveOut_21 : decode nb_M_moveOut 21 = .ok (.iload_n 2, 1) := by decide +kernel
theorem nd_M_moveOut_22 : decode nb_M_moveOut 22 = .ok (.iload_n 3, 1) := by decide +kernel
theorem nd_M_moveOut_23 : decode nb_M_moveOut 23 = .ok (.iadd, 1) := by decide +kernel
theorem nd_M_moveOut_24 : decode nb_M_moveOut 24 = .ok (.if_icmp .ge 12, 3) := by decide +kernel
theorem nd_M_moveOut_27 : decode nb_M_moveOut 27 = .ok (.iload 4, 2) := by decide +kernel
theorem nd_M_moveOut_29 : decode nb_M_moveOut 29 = .ok (.iconst 1, 1) := by decide +kernel
theorem nd_M_moveOut_30 : decode nb_M_moveOut 30 = .ok (.iadd, 1) := by decide +kernel
theorem nd_M_moveOut_31 : decode nb_M_moveOut 31 = .ok (.istore 4, 2) := by decide +kernel
theorem nd_M_moveOut_33 : decode nb_M_moveOut 33 = .ok (.goto (-30), 3) := by decide +kernel
theorem nd_M_moveOut_36 : decode nb_M_moveOut 36 = .ok (.aload_n 0, 1) := by decide +kernel
theorem nd_M_moveOut_37 : decode nb_M_moveOut 37 = .ok (.getfield 7, 3) := by decide +kernel
theorem nd_M_moveOut_40 : decode nb_M_moveOut 40 = .ok (.iload 4, 2) := by decide +kernel
theorem nd_M_moveOut_42 : decode nb_M_moveOut 42 = .ok (.iconst 4, 1) := by decide +kernel
theorem nd_M_moveOut_43 : decode nb_M_moveOut 43 = .ok (.iastore, 1) := by decide +kernel
theorem nd_M_moveOut_44 : decode nb_M_moveOut 44 = .ok (.iconst 0, 1) := by decide +kernel
theorem nd_M_moveOut_45 : decode nb_M_moveOut 45 = .ok (.istore 5, 2) := by decide +kernel
theorem nd_M_moveOut_47 : decode nb_M_moveOut 47 = .ok (.iload 5, 2) := by decide +kernel
theorem nd_M_moveOut_49 : decode nb_M_moveOut 49 = .ok (.bipush 16, 2) := by decide +kernel
theorem nd_M_moveOut_51 : decode nb_M_moveOut 51 = .ok (.if_icmp .ge 34, 3) := by decide +kernel
theorem nd_M_moveOut_54 : decode nb_M_moveOut 54 = .ok (.aload_n 0, 1) := by decide +kernel
theorem nd_M_moveOut_55 : decode nb_M_moveOut 55 = .ok (.getfield 13, 3) := by decide +kernel
theorem nd_M_moveOut_58 : decode nb_M_moveOut 58 = .ok (.bipush 16, 2) := by decide +kernel
theorem nd_M_moveOut_60 : decode nb_M_moveOut 60 = .ok (.iload 4, 2) := by decide +kernel
theorem nd_M_moveOut_62 : decode nb_M_moveOut 62 = .ok (.imul, 1) := by decide +kernel
theorem nd_M_moveOut_63 : decode nb_M_moveOut 63 = .ok (.iload 5, 2) := by decide +kernel
theorem nd_M_moveOut_65 : decode nb_M_moveOut 65 = .ok (.iadd, 1) := by decide +kernel
theorem nd_M_moveOut_66 : decode nb_M_moveOut 66 = .ok (.aload_n 0, 1) := by decide +kernel
theorem nd_M_moveOut_67 : decode nb_M_moveOut 67 = .ok (.getfield 13, 3) := by decide +kernel
theorem nd_M_moveOut_70 : decode nb_M_moveOut 70 = .ok (.bipush 16, 2) := by decide +kernel
theorem nd_M_moveOut_72 : decode nb_M_moveOut 72 = .ok (.iload_n 1, 1) := by decide +kernel
theorem nd_M_moveOut_73 : decode nb_M_moveOut 73 = .ok (.imul, 1) := by decide +kernel
theorem nd_M_moveOut_74 : decode nb_M_moveOut 74 = .ok (.iload 5, 2) := by decide +kernel
theorem nd_M_moveOut_76 : decode nb_M_moveOut 76 = .ok (.iadd, 1) := by decide +kernel
theorem nd_M_moveOut_77 : decode nb_M_moveOut 77 = .ok (.iaload, 1) := by decide +kernel
theorem nd_M_moveOut_78 : decode nb_M_moveOut 78 = .ok (.iastore, 1) := by decide +kernel
theorem nd_M_moveOut_79 : decode nb_M_moveOut 79 = .ok (.iinc 5 1, 3) := by decide +kernel
theorem nd_M_moveOut_82 : decode nb_M_moveOut 82 = .ok (.goto (-35), 3) := by decide +kernel
theorem nd_M_moveOut_85 : decode nb_M_moveOut 85 = .ok (.aload_n 0, 1) := by decide +kernel
theorem nd_M_moveOut_86 : decode nb_M_moveOut 86 = .ok (.iload_n 1, 1) := by decide +kernel
theorem nd_M_moveOut_87 : decode nb_M_moveOut 87 = .ok (.iload 4, 2) := by decide +kernel
theorem nd_M_moveOut_89 : decode nb_M_moveOut 89 = .ok (.invokevirtual 106, 3) := by decide +kernel
theorem nd_M_moveOut_92 : decode nb_M_moveOut 92 = .ok (.aload_n 0, 1) := by decide +kernel
theorem nd_M_moveOut_93 : decode nb_M_moveOut 93 = .ok (.aload_n 0, 1) := by decide +kernel
theorem nd_M_moveOut_94 : decode nb_M_moveOut 94 = .ok (.getfield 109, 3) := by decide +kernel
theorem nd_M_moveOut_97 : decode nb_M_moveOut 97 = .ok (.iconst 1, 1) := by decide +kernel
theorem nd_M_moveOut_98 : decode nb_M_moveOut 98 = .ok (.iadd, 1) := by decide +kernel
theorem nd_M_moveOut_99 : decode nb_M_moveOut 99 = .ok (.putfield 109, 3) := by decide +kernel
theorem nd_M_moveOut_102 : decode nb_M_moveOut 102 = .ok (.return_, 1) := by decide +kernel
theorem nd_M_contig_0 : decode nb_M_contig 0 = .ok (.iload_n 1, 1) := by decide +kernel
theorem nd_M_contig_1 : decode nb_M_contig 1 = .ok (.iconst 0, 1) := by decide +kernel
theorem nd_M_contig_2 : decode nb_M_contig 2 = .ok (.iconst 5, 1) := by decide +kernel
theorem nd_M_contig_3 : decode nb_M_contig 3 = .ok (.invokestatic 57, 3) := by decide +kernel
theorem nd_M_contig_6 : decode nb_M_contig 6 = .ok (.istore_n 2, 1) := by decide +kernel
theorem nd_M_contig_7 : decode nb_M_contig 7 = .ok (.iload_n 2, 1) := by decide +kernel
theorem nd_M_contig_8 : decode nb_M_contig 8 = .ok (.ifCond .eq 9, 3) := by decide +kernel
theorem nd_M_contig_11 : decode nb_M_contig 11 = .ok (.iconst 1, 1) := by decide +kernel
theorem nd_M_contig_12 : decode nb_M_contig 12 = .ok (.iload_n 1, 1) := by decide +kernel
theorem nd_M_contig_13 : decode nb_M_contig 13 = .ok (.ishl, 1) := by decide +kernel
theorem nd_M_contig_14 : decode nb_M_contig 14 = .ok (.goto 4, 3) := by decide +kernel
theorem nd_M_contig_17 : decode nb_M_contig 17 = .ok (.iconst 1, 1) := by decide +kernel
theorem nd_M_contig_18 : decode nb_M_contig 18 = .ok (.istore_n 3, 1) := by decide +kernel
theorem nd_M_contig_19 : decode nb_M_contig 19 = .ok (.iconst (-1), 1) := by decide +kernel
theorem nd_M_contig_20 : decode nb_M_contig 20 = .ok (.istore 4, 2) := by decide +kernel
theorem nd_M_contig_22 : decode nb_M_contig 22 = .ok (.bipush 64, 2) := by decide +kernel
theorem nd_M_contig_24 : decode nb_M_contig 24 = .ok (.iload_n 3, 1) := by decide +kernel
theorem nd_M_contig_25 : decode nb_M_contig 25 = .ok (.isub, 1) := by decide +kernel
theorem nd_M_contig_26 : decode nb_M_contig 26 = .ok (.istore 5, 2) := by decide +kernel
theorem nd_M_contig_28 : decode nb_M_contig 28 = .ok (.iload 5, 2) := by decide +kernel
theorem nd_M_contig_30 : decode nb_M_contig 30 = .ok (.ifCond .lt 31, 3) := by decide +kernel
theorem nd_M_contig_33 : decode nb_M_contig 33 = .ok (.aload_n 0, 1) := by decide +kernel
theorem nd_M_contig_34 : decode nb_M_contig 34 = .ok (.iload 5, 2) := by decide +kernel
theorem nd_M_contig_36 : decode nb_M_contig 36 = .ok (.iload_n 3, 1) := by decide +kernel
theorem nd_M_contig_37 : decode nb_M_contig 37 = .ok (.invokevirtual 112, 3) := by decide +kernel
theorem nd_M_contig_40 : decode nb_M_contig 40 = .ok (.ifCond .eq 8, 3) := by decide +kernel
theorem nd_M_contig_43 : decode nb_M_contig 43 = .ok (.iload 5, 2) := by decide +kernel
theorem nd_M_contig_45 : decode nb_M_contig 45 = .ok (.goto 5, 3) := by decide +kernel
theorem nd_M_contig_48 : decode nb_M_contig 48 = .ok (.iload 4, 2) := by decide +kernel
theorem nd_M_contig_50 : decode nb_M_contig 50 = .ok (.istore 4, 2) := by decide +kernel
theorem nd_M_contig_52 : decode nb_M_contig 52 = .ok (.iload 5, 2) := by decide +kernel
theorem nd_M_contig_54 : decode nb_M_contig 54 = .ok (.iload_n 3, 1) := by decide +kernel
theorem nd_M_contig_55 : decode nb_M_contig 55 = .ok (.isub, 1) := by decide +kernel
theorem nd_M_contig_56 : decode nb_M_contig 56 = .ok (.istore 5, 2) := by decide +kernel
theorem nd_M_contig_58 : decode nb_M_contig 58 = .ok (.goto (-30), 3) := by decide +kernel
theorem nd_M_contig_61 : decode nb_M_contig 61 = .ok (.aload_n 0, 1) := by decide +kernel
theorem nd_M_contig_62 : decode nb_M_contig 62 = .ok (.iload_n 2, 1) := by decide +kernel
theorem nd_M_contig_63 : decode nb_M_contig 63 = .ok (.ifCond .ne 7, 3) := by decide +kernel
theorem nd_M_contig_66 : decode nb_M_contig 66 = .ok (.iconst 1, 1) := by decide +kernel
theorem nd_M_contig_67 : decode nb_M_contig 67 = .ok (.goto 13, 3) := by decide +kernel
theorem nd_M_contig_70 : decode nb_M_contig 70 = .ok (.iload 4, 2) := by decide +kernel
theorem nd_M_contig_72 : decode nb_M_contig 72 = .ok (.ifCond .ge 7, 3) := by decide +kernel
theorem nd_M_contig_75 : decode nb_M_contig 75 = .ok (.iconst 2, 1) := by decide +kernel
theorem nd_M_contig_76 : decode nb_M_contig 76 = .ok (.goto 4, 3) := by decide +kernel
theorem nd_M_contig_79 : decode nb_M_contig 79 = .ok (.iconst 0, 1) := by decide +kernel
theorem nd_M_contig_80 : decode nb_M_contig 80 = .ok (.invokevirtual 64, 3) := by decide +kernel
theorem nd_M_contig_83 : decode nb_M_contig 83 = .ok (.ifCond .eq 5, 3) := by decide +kernel
theorem nd_M_contig_86 : decode nb_M_contig 86 = .ok (.iconst 0, 1) := by decide +kernel
theorem nd_M_contig_87 : decode nb_M_contig 87 = .ok (.ireturn, 1) := by decide +kernel
theorem nd_M_contig_88 : decode nb_M_contig 88 = .ok (.iload 4, 2) := by decide +kernel
theorem nd_M_contig_90 : decode nb_M_contig 90 = .ok (.istore 5, 2) := by decide +kernel
theorem nd_M_contig_92 : decode nb_M_contig 92 = .ok (.iload 5, 2) := by decide +kernel
theorem nd_M_contig_94 : decode nb_M_contig 94 = .ok (.iload 4, 2) := by decide +kernel
theorem nd_M_contig_96 : decode nb_M_contig 96 = .ok (.iload_n 3, 1) := by decide +kernel
theorem nd_M_contig_97 : decode nb_M_contig 97 = .ok (.iadd, 1) := by decide +kernel
theorem nd_M_contig_98 : decode nb_M_contig 98 = .ok (.if_icmp .ge 36, 3) := by decide +kernel
theorem nd_M_contig_101 : decode nb_M_contig 101 = .ok (.aload_n 0, 1) := by decide +kernel
theorem nd_M_contig_102 : decode nb_M_contig 102 = .ok (.getfield 7, 3) := by decide +kernel
theorem nd_M_contig_105 : decode nb_M_contig 105 = .ok (.iload 5, 2) := by decide +kernel
theorem nd_M_contig_107 : decode nb_M_contig 107 = .ok (.iaload, 1) := by decide +kernel
theorem nd_M_contig_108 : decode nb_M_contig 108 = .ok (.iconst 4, 1) := by decide +kernel
theorem nd_M_contig_109 : decode nb_M_contig 109 = .ok (.if_icmp .ne 12, 3) := by decide +kernel
theorem nd_M_contig_112 : decode nb_M_contig 112 = .ok (.aload_n 0, 1) := by decide +kernel
theorem nd_M_contig_113 : decode nb_M_contig 113 = .ok (.iload 5, 2) := by decide +kernel
theorem nd_M_contig_115 : decode nb_M_contig 115 = .ok (.iload 4, 2) := by decide +kernel
theorem nd_M_contig_117 : decode nb_M_contig 117 = .ok (.iload_n 3, 1) := by decide +kernel
theorem nd_M_contig_118 : decode nb_M_contig 118 = .ok (.invokevirtual 115, 3) := by decide +kernel
theorem nd_M_contig_121 : decode nb_M_contig 121 = .ok (.aload_n 0, 1) := by decide +kernel
theorem nd_M_contig_122 : decode nb_M_contig 122 = .ok (.iload 5, 2) := by decide +kernel
theorem nd_M_contig_124 : decode nb_M_contig 124 = .ok (.iconst 5, 1) := by decide +kernel
theorem nd_M_contig_125 : decode nb_M_contig 125 = .ok (.invokevirtual 53, 3) := by decide +kernel
theorem nd_M_contig_128 : decode nb_M_contig 128 = .ok (.iinc 5 1, 3) := by decide +kernel
theorem nd_M_contig_131 : decode nb_M_contig 131 = .ok (.goto (-39), 3) := by decide +kernel
theorem nd_M_contig_134 : decode nb_M_contig 134 = .ok (.aload_n 0, 1) := by decide +kernel
theorem nd_M_contig_135 : decode nb_M_contig 135 = .ok (.getfield 22, 3) := by decide +kernel
theorem nd_M_contig_138 : decode nb_M_contig 138 = .ok (.iload 4, 2) := by decide +kernel
theorem nd_M_contig_140 : decode nb_M_contig 140 = .ok (.iload_n 3, 1) := by decide +kernel
theorem nd_M_contig_141 : decode nb_M_contig 141 = .ok (.iastore, 1) := by decide +kernel
theorem nd_M_contig_142 : decode nb_M_contig 142 = .ok (.iload 4, 2) := by decide +kernel
theorem nd_M_contig_144 : decode nb_M_contig 144 = .ok (.ireturn, 1) := by decide +kernel
theorem nd_M_release_0 : decode nb_M_release 0 = .ok (.aload_n 0, 1) := by decide +kernel
theorem nd_M_release_1 : decode nb_M_release 1 = .ok (.iload_n 1, 1) := by decide +kernel
theorem nd_M_release_2 : decode nb_M_release 2 = .ok (.iconst 0, 1) := by decide +kernel
theorem nd_M_release_3 : decode nb_M_release 3 = .ok (.bipush 63, 2) := by decide +kernel
theorem nd_M_release_5 : decode nb_M_release 5 = .ok (.invokestatic 57, 3) := by decide +kernel
theorem nd_M_release_8 : decode nb_M_release 8 = .ok (.ifCond .eq 16, 3) := by decide +kernel
theorem nd_M_release_11 : decode nb_M_release 11 = .ok (.aload_n 0, 1) := by decide +kernel
theorem nd_M_release_12 : decode nb_M_release 12 = .ok (.getfield 22, 3) := by decide +kernel
theorem nd_M_release_15 : decode nb_M_release 15 = .ok (.iload_n 1, 1) := by decide +kernel
theorem nd_M_release_16 : decode nb_M_release 16 = .ok (.iaload, 1) := by decide +kernel
theorem nd_M_release_17 : decode nb_M_release 17 = .ok (.ifCond .le 7, 3) := by decide +kernel
theorem nd_M_release_20 : decode nb_M_release 20 = .ok (.iconst 0, 1) := by decide +kernel
theorem nd_M_release_21 : decode nb_M_release 21 = .ok (.goto 4, 3) := by decide +kernel
theorem nd_M_release_24 : decode nb_M_release 24 = .ok (.iconst 1, 1) := by decide +kernel
theorem nd_M_release_25 : decode nb_M_release 25 = .ok (.invokevirtual 64, 3) := by decide +kernel
theorem nd_M_release_28 : decode nb_M_release 28 = .ok (.ifCond .eq 5, 3) := by decide +kernel
theorem nd_M_release_31 : decode nb_M_release 31 = .ok (.iconst 0, 1) := by decide +kernel
theorem nd_M_release_32 : decode nb_M_release 32 = .ok (.ireturn, 1) := by decide +kernel
theorem nd_M_release_33 : decode nb_M_release 33 = .ok (.aload_n 0, 1) := by decide +kernel
theorem nd_M_release_34 : decode nb_M_release 34 = .ok (.getfield 22, 3) := by decide +kernel
theorem nd_M_release_37 : decode nb_M_release 37 = .ok (.iload_n 1, 1) := by decide +kernel
theorem nd_M_release_38 : decode nb_M_release 38 = .ok (.iaload, 1) := by decide +kernel
theorem nd_M_release_39 : decode nb_M_release 39 = .ok (.istore_n 2, 1) := by decide +kernel
theorem nd_M_release_40 : decode nb_M_release 40 = .ok (.aload_n 0, 1) := by decide +kernel
theorem nd_M_release_41 : decode nb_M_release 41 = .ok (.getfield 22, 3) := by decide +kernel
theorem nd_M_release_44 : decode nb_M_release 44 = .ok (.iload_n 1, 1) := by decide +kernel
theorem nd_M_release_45 : decode nb_M_release 45 = .ok (.iconst 0, 1) := by decide +kernel
theorem nd_M_release_46 : decode nb_M_release 46 = .ok (.iastore, 1) := by decide +kernel
theorem nd_M_release_47 : decode nb_M_release 47 = .ok (.iload_n 1, 1) := by decide +kernel
theorem nd_M_release_48 : decode nb_M_release 48 = .ok (.istore_n 3, 1) := by decide +kernel
theorem nd_M_release_49 : decode nb_M_release 49 = .ok (.iload_n 3, 1) := by decide +kernel
theorem nd_M_release_50 : decode nb_M_release 50 = .ok (.iload_n 1, 1) := by decide +kernel
theorem nd_M_release_51 : decode nb_M_release 51 = .ok (.iload_n 2, 1) := by decide +kernel
theorem nd_M_release_52 : decode nb_M_release 52 = .ok (.iadd, 1) := by decide +kernel
theorem nd_M_release_53 : decode nb_M_release 53 = .ok (.if_icmp .ge 16, 3) := by decide +kernel
theorem nd_M_release_56 : decode nb_M_release 56 = .ok (.aload_n 0, 1) := by decide +kernel
theorem nd_M_release_57 : decode nb_M_release 57 = .ok (.getfield 7, 3) := by decide +kernel
theorem nd_M_release_60 : decode nb_M_release 60 = .ok (.iload_n 3, 1) := by decide +kernel
theorem nd_M_release_61 : decode nb_M_release 61 = .ok (.iconst 0, 1) := by decide +kernel
theorem nd_M_release_62 : decode nb_M_release 62 = .ok (.iastore, 1) := by decide +kernel
theorem nd_M_release_63 : decode nb_M_release 63 = .ok (.iinc 3 1, 3) := by decide +kernel
theorem nd_M_release_66 : decode nb_M_release 66 = .ok (.goto (-17), 3) := by decide +kernel
theorem nd_M_release_69 : decode nb_M_release 69 = .ok (.iload_n 2, 1) := by decide +kernel
theorem nd_M_release_70 : decode nb_M_release 70 = .ok (.ireturn, 1) := by decide +kernel
theorem nd_M_owner_0 : decode nb_M_owner 0 = .ok (.aload_n 0, 1) := by decide +kernel
theorem nd_M_owner_1 : decode nb_M_owner 1 = .ok (.iconst 0, 1) := by decide +kernel
theorem nd_M_owner_2 : decode nb_M_owner 2 = .ok (.putfield 38, 3) := by decide +kernel
theorem nd_M_owner_5 : decode nb_M_owner 5 = .ok (.iload_n 1, 1) := by decide +kernel
theorem nd_M_owner_6 : decode nb_M_owner 6 = .ok (.iconst 0, 1) := by decide +kernel
theorem nd_M_owner_7 : decode nb_M_owner 7 = .ok (.bipush 63, 2) := by decide +kernel
theorem nd_M_owner_9 : decode nb_M_owner 9 = .ok (.invokestatic 57, 3) := by decide +kernel
theorem nd_M_owner_12 : decode nb_M_owner 12 = .ok (.ifCond .eq 12, 3) := by decide +kernel
theorem nd_M_owner_15 : decode nb_M_owner 15 = .ok (.aload_n 0, 1) := by decide +kernel
theorem nd_M_owner_16 : decode nb_M_owner 16 = .ok (.getfield 7, 3) := by decide +kernel
theorem nd_M_owner_19 : decode nb_M_owner 19 = .ok (.iload_n 1, 1) := by decide +kernel
theorem nd_M_owner_20 : decode nb_M_owner 20 = .ok (.iaload, 1) := by decide +kernel
theorem nd_M_owner_21 : decode nb_M_owner 21 = .ok (.goto 4, 3) := by decide +kernel
theorem nd_M_owner_24 : decode nb_M_owner 24 = .ok (.iconst (-1), 1) := by decide +kernel
theorem nd_M_owner_25 : decode nb_M_owner 25 = .ok (.ireturn, 1) := by decide +kernel
theorem nd_M_frame_0 : decode nb_M_frame 0 = .ok (.aload_n 0, 1) := by decide +kernel
theorem nd_M_frame_1 : decode nb_M_frame 1 = .ok (.iconst 0, 1) := by decide +kernel
theorem nd_M_frame_2 : decode nb_M_frame 2 = .ok (.putfield 38, 3) := by decide +kernel
theorem nd_M_frame_5 : decode nb_M_frame 5 = .ok (.iload_n 1, 1) := by decide +kernel
theorem nd_M_frame_6 : decode nb_M_frame 6 = .ok (.bipush (-2), 2) := by decide +kernel
theorem nd_M_frame_8 : decode nb_M_frame 8 = .ok (.if_icmp .ne 26, 3) := by decide +kernel
theorem nd_M_frame_11 : decode nb_M_frame 11 = .ok (.iload_n 2, 1) := by decide +kernel
theorem nd_M_frame_12 : decode nb_M_frame 12 = .ok (.iconst 0, 1) := by decide +kernel
theorem nd_M_frame_13 : decode nb_M_frame 13 = .ok (.bipush 63, 2) := by decide +kernel
theorem nd_M_frame_15 : decode nb_M_frame 15 = .ok (.invokestatic 57, 3) := by decide +kernel
theorem nd_M_frame_18 : decode nb_M_frame 18 = .ok (.ifCond .eq 14, 3) := by decide +kernel
theorem nd_M_frame_21 : decode nb_M_frame 21 = .ok (.aload_n 0, 1) := by decide +kernel
theorem nd_M_frame_22 : decode nb_M_frame 22 = .ok (.getfield 25, 3) := by decide +kernel
theorem nd_M_frame_25 : decode nb_M_frame 25 = .ok (.iload_n 2, 1) := by decide +kernel
theorem nd_M_frame_26 : decode nb_M_frame 26 = .ok (.iaload, 1) := by decide +kernel
theorem nd_M_frame_27 : decode nb_M_frame 27 = .ok (.iconst 1, 1) := by decide +kernel
theorem nd_M_frame_28 : decode nb_M_frame 28 = .ok (.isub, 1) := by decide +kernel
theorem nd_M_frame_29 : decode nb_M_frame 29 = .ok (.goto 4, 3) := by decide +kernel
theorem nd_M_frame_32 : decode nb_M_frame 32 = .ok (.iconst (-1), 1) := by decide +kernel
theorem nd_M_frame_33 : decode nb_M_frame 33 = .ok (.ireturn, 1) := by decide +kernel
theorem nd_M_frame_34 : decode nb_M_frame 34 = .ok (.aload_n 0, 1) := by decide +kernel
theorem nd_M_frame_35 : decode nb_M_frame 35 = .ok (.iload_n 1, 1) := by decide +kernel
theorem nd_M_frame_36 : decode nb_M_frame 36 = .ok (.invokevirtual 91, 3) := by decide +kernel
theorem nd_M_frame_39 : decode nb_M_frame 39 = .ok (.ifCond .eq 23, 3) := by decide +kernel
theorem nd_M_frame_42 : decode nb_M_frame 42 = .ok (.iload_n 2, 1) := by decide +kernel
theorem nd_M_frame_43 : decode nb_M_frame 43 = .ok (.iconst 0, 1) := by decide +kernel
theorem nd_M_frame_44 : decode nb_M_frame 44 = .ok (.sipush 255, 3) := by decide +kernel
theorem nd_M_frame_47 : decode nb_M_frame 47 = .ok (.invokestatic 57, 3) := by decide +kernel
theorem nd_M_frame_50 : decode nb_M_frame 50 = .ok (.ifCond .eq 12, 3) := by decide +kernel
theorem nd_M_frame_53 : decode nb_M_frame 53 = .ok (.aload_n 0, 1) := by decide +kernel
theorem nd_M_frame_54 : decode nb_M_frame 54 = .ok (.iload_n 1, 1) := by decide +kernel
theorem nd_M_frame_55 : decode nb_M_frame 55 = .ok (.iload_n 2, 1) := by decide +kernel
theorem nd_M_frame_56 : decode nb_M_frame 56 = .ok (.invokevirtual 88, 3) := by decide +kernel
theorem nd_M_frame_59 : decode nb_M_frame 59 = .ok (.goto 4, 3) := by decide +kernel
theorem nd_M_frame_62 : decode nb_M_frame 62 = .ok (.iconst (-1), 1) := by decide +kernel
theorem nd_M_frame_63 : decode nb_M_frame 63 = .ok (.ireturn, 1) := by decide +kernel
theorem nd_M_word_0 : decode nb_M_word 0 = .ok (.aload_n 0, 1) := by decide +kernel
theorem nd_M_word_1 : decode nb_M_word 1 = .ok (.iconst 0, 1) := by decide +kernel
theorem nd_M_word_2 : decode nb_M_word 2 = .ok (.putfield 38, 3) := by decide +kernel
theorem nd_M_word_5 : decode nb_M_word 5 = .ok (.iload_n 1, 1) := by decide +kernel
theorem nd_M_word_6 : decode nb_M_word 6 = .ok (.iconst 0, 1) := by decide +kernel
theorem nd_M_word_7 : decode nb_M_word 7 = .ok (.bipush 63, 2) := by decide +kernel
theorem nd_M_word_9 : decode nb_M_word 9 = .ok (.invokestatic 57, 3) := by decide +kernel
theorem nd_M_word_12 : decode nb_M_word 12 = .ok (.ifCond .eq 27, 3) := by decide +kernel
theorem nd_M_word_15 : decode nb_M_word 15 = .ok (.iload_n 2, 1) := by decide +kernel
theorem nd_M_word_16 : decode nb_M_word 16 = .ok (.iconst 0, 1) := by decide +kernel
theorem nd_M_word_17 : decode nb_M_word 17 = .ok (.bipush 15, 2) := by decide +kernel
theorem nd_M_word_19 : decode nb_M_word 19 = .ok (.invokestatic 57, 3) := by decide +kernel
theorem nd_M_word_22 : decode nb_M_word 22 = .ok (.ifCond .eq 17, 3) := by decide +kernel
theorem nd_M_word_25 : decode nb_M_word 25 = .ok (.aload_n 0, 1) := by decide +kernel
theorem nd_M_word_26 : decode nb_M_word 26 = .ok (.getfield 13, 3) := by decide +kernel
theorem nd_M_word_29 : decode nb_M_word 29 = .ok (.bipush 16, 2) := by decide +kernel
theorem nd_M_word_31 : decode nb_M_word 31 = .ok (.iload_n 1, 1) := by decide +kernel
theorem nd_M_word_32 : decode nb_M_word 32 = .ok (.imul, 1) := by decide +kernel
theorem nd_M_word_33 : decode nb_M_word 33 = .ok (.iload_n 2, 1) := by decide +kernel
theorem nd_M_word_34 : decode nb_M_word 34 = .ok (.iadd, 1) := by decide +kernel
theorem nd_M_word_35 : decode nb_M_word 35 = .ok (.iaload, 1) := by decide +kernel
theorem nd_M_word_36 : decode nb_M_word 36 = .ok (.goto 4, 3) := by decide +kernel
theorem nd_M_word_39 : decode nb_M_word 39 = .ok (.iconst 0, 1) := by decide +kernel
theorem nd_M_word_40 : decode nb_M_word 40 = .ok (.ireturn, 1) := by decide +kernel
theorem nd_M_blocks_0 : decode nb_M_blocks 0 = .ok (.aload_n 0, 1) := by decide +kernel
theorem nd_M_blocks_1 : decode nb_M_blocks 1 = .ok (.iconst 0, 1) := by decide +kernel
theorem nd_M_blocks_2 : decode nb_M_blocks 2 = .ok (.putfield 38, 3) := by decide +kernel
theorem nd_M_blocks_5 : decode nb_M_blocks 5 = .ok (.iconst 0, 1) := by decide +kernel
theorem nd_M_blocks_6 : decode nb_M_blocks 6 = .ok (.istore_n 2, 1) := by decide +kernel
theorem nd_M_blocks_7 : decode nb_M_blocks 7 = .ok (.iload_n 1, 1) := by decide +kernel
theorem nd_M_blocks_8 : decode nb_M_blocks 8 = .ok (.iconst 0, 1) := by decide +kernel
theorem nd_M_blocks_9 : decode nb_M_blocks 9 = .ok (.bipush 6, 2) := by decide +kernel
theorem nd_M_blocks_11 : decode nb_M_blocks 11 = .ok (.invokestatic 57, 3) := by decide +kernel
theorem nd_M_blocks_14 : decode nb_M_blocks 14 = .ok (.ifCond .eq 9, 3) := by decide +kernel
theorem nd_M_blocks_17 : decode nb_M_blocks 17 = .ok (.iconst 1, 1) := by decide +kernel
theorem nd_M_blocks_18 : decode nb_M_blocks 18 = .ok (.iload_n 1, 1) := by decide +kernel
theorem nd_M_blocks_19 : decode nb_M_blocks 19 = .ok (.ishl, 1) := by decide +kernel
theorem nd_M_blocks_20 : decode nb_M_blocks 20 = .ok (.goto 5, 3) := by decide +kernel
theorem nd_M_blocks_23 : decode nb_M_blocks 23 = .ok (.bipush 64, 2) := by decide +kernel
theorem nd_M_blocks_25 : decode nb_M_blocks 25 = .ok (.istore_n 3, 1) := by decide +kernel
theorem nd_M_blocks_26 : decode nb_M_blocks 26 = .ok (.iconst 0, 1) := by decide +kernel
theorem nd_M_blocks_27 : decode nb_M_blocks 27 = .ok (.istore 4, 2) := by decide +kernel
theorem nd_M_blocks_29 : decode nb_M_blocks 29 = .ok (.iload 4, 2) := by decide +kernel
theorem nd_M_blocks_31 : decode nb_M_blocks 31 = .ok (.bipush 64, 2) := by decide +kernel
theorem nd_M_blocks_33 : decode nb_M_blocks 33 = .ok (.if_icmp .ge 40, 3) := by decide +kernel
theorem nd_M_blocks_36 : decode nb_M_blocks 36 = .ok (.aload_n 0, 1) := by decide +kernel
theorem nd_M_blocks_37 : decode nb_M_blocks 37 = .ok (.iload 4, 2) := by decide +kernel
theorem nd_M_blocks_39 : decode nb_M_blocks 39 = .ok (.iload_n 3, 1) := by decide +kernel
theorem nd_M_blocks_40 : decode nb_M_blocks 40 = .ok (.invokevirtual 46, 3) := by decide +kernel
theorem nd_M_blocks_43 : decode nb_M_blocks 43 = .ok (.ifCond .eq 19, 3) := by decide +kernel
theorem nd_M_blocks_46 : decode nb_M_blocks 46 = .ok (.iload_n 1, 1) := by decide +kernel
theorem nd_M_blocks_47 : decode nb_M_blocks 47 = .ok (.iconst 0, 1) := by decide +kernel
theorem nd_M_blocks_48 : decode nb_M_blocks 48 = .ok (.bipush 6, 2) := by decide +kernel
theorem nd_M_blocks_50 : decode nb_M_blocks 50 = .ok (.invokestatic 57, 3) := by decide +kernel
theorem nd_M_blocks_53 : decode nb_M_blocks 53 = .ok (.ifCond .eq 9, 3) := by decide +kernel
theorem nd_M_blocks_56 : decode nb_M_blocks 56 = .ok (.iload_n 2, 1) := by decide +kernel
theorem nd_M_blocks_57 : decode nb_M_blocks 57 = .ok (.iconst 1, 1) := by decide +kernel
theorem nd_M_blocks_58 : decode nb_M_blocks 58 = .ok (.iadd, 1) := by decide +kernel
theorem nd_M_blocks_59 : decode nb_M_blocks 59 = .ok (.goto 4, 3) := by decide +kernel
theorem nd_M_blocks_62 : decode nb_M_blocks 62 = .ok (.iload_n 2, 1) := by decide +kernel
theorem nd_M_blocks_63 : decode nb_M_blocks 63 = .ok (.istore_n 2, 1) := by decide +kernel
theorem nd_M_blocks_64 : decode nb_M_blocks 64 = .ok (.iload 4, 2) := by decide +kernel
theorem nd_M_blocks_66 : decode nb_M_blocks 66 = .ok (.iload_n 3, 1) := by decide +kernel
theorem nd_M_blocks_67 : decode nb_M_blocks 67 = .ok (.iadd, 1) := by decide +kernel
theorem nd_M_blocks_68 : decode nb_M_blocks 68 = .ok (.istore 4, 2) := by decide +kernel
theorem nd_M_blocks_70 : decode nb_M_blocks 70 = .ok (.goto (-41), 3) := by decide +kernel
theorem nd_M_blocks_73 : decode nb_M_blocks 73 = .ok (.iload_n 2, 1) := by decide +kernel
theorem nd_M_blocks_74 : decode nb_M_blocks 74 = .ok (.ireturn, 1) := by decide +kernel
theorem nd_M_free_0 : decode nb_M_free 0 = .ok (.aload_n 0, 1) := by decide +kernel
theorem nd_M_free_1 : decode nb_M_free 1 = .ok (.iconst 0, 1) := by decide +kernel
theorem nd_M_free_2 : decode nb_M_free 2 = .ok (.putfield 38, 3) := by decide +kernel
theorem nd_M_free_5 : decode nb_M_free 5 = .ok (.aload_n 0, 1) := by decide +kernel
theorem nd_M_free_6 : decode nb_M_free 6 = .ok (.invokevirtual 61, 3) := by decide +kernel
theorem nd_M_free_9 : decode nb_M_free 9 = .ok (.ireturn, 1) := by decide +kernel
theorem nd_M_moved_0 : decode nb_M_moved 0 = .ok (.aload_n 0, 1) := by decide +kernel
theorem nd_M_moved_1 : decode nb_M_moved 1 = .ok (.iconst 0, 1) := by decide +kernel
theorem nd_M_moved_2 : decode nb_M_moved 2 = .ok (.putfield 38, 3) := by decide +kernel
theorem nd_M_moved_5 : decode nb_M_moved 5 = .ok (.aload_n 0, 1) := by decide +kernel
theorem nd_M_moved_6 : decode nb_M_moved 6 = .ok (.getfield 109, 3) := by decide +kernel
theorem nd_M_moved_9 : decode nb_M_moved 9 = .ok (.ireturn, 1) := by decide +kernel
