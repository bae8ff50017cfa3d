theorem nd_F_init_0 : decode nb_F_init 0 = .ok (.aload_n 0, 1) := by decide +kernel
theorem nd_F_init_1 : decode nb_F_init 1 = .ok (.invokespecial 1, 3) := by decide +kernel
theorem nd_F_init_4 : decode nb_F_init 4 = .ok (.aload_n 0, 1) := by decide +kernel
theorem nd_F_init_5 : decode nb_F_init 5 = .ok (.new 7, 3) := by decide +kernel
theorem nd_F_init_8 : decode nb_F_init 8 = .ok (.dup, 1) := by decide +kernel
theorem nd_F_init_9 : decode nb_F_init 9 = .ok (.invokespecial 9, 3) := by decide +kernel
theorem nd_F_init_12 : decode nb_F_init 12 = .ok (.putfield 10, 3) := by decide +kernel
theorem nd_F_init_15 : decode nb_F_init 15 = .ok (.aload_n 0, 1) := by decide +kernel
theorem nd_F_init_16 : decode nb_F_init 16 = .ok (.new 16, 3) := by decide +kernel
theorem nd_F_init_19 : decode nb_F_init 19 = .ok (.dup, 1) := by decide +kernel
theorem nd_F_init_20 : decode nb_F_init 20 = .ok (.aload_n 0, 1) := by decide +kernel
theorem nd_F_init_21 : decode nb_F_init 21 = .ok (.getfield 10, 3) := by decide +kernel
theorem nd_F_init_24 : decode nb_F_init 24 = .ok (.invokespecial 18, 3) := by decide +kernel
theorem nd_F_init_27 : decode nb_F_init 27 = .ok (.putfield 21, 3) := by decide +kernel
theorem nd_F_init_30 : decode nb_F_init 30 = .ok (.aload_n 0, 1) := by decide +kernel
theorem nd_F_init_31 : decode nb_F_init 31 = .ok (.new 25, 3) := by decide +kernel
theorem nd_F_init_34 : decode nb_F_init 34 = .ok (.dup, 1) := by decide +kernel
theorem nd_F_init_35 : decode nb_F_init 35 = .ok (.aload_n 0, 1) := by decide +kernel
theorem nd_F_init_36 : decode nb_F_init 36 = .ok (.getfield 10, 3) := by decide +kernel
theorem nd_F_init_39 : decode nb_F_init 39 = .ok (.invokespecial 27, 3) := by decide +kernel
theorem nd_F_init_42 : decode nb_F_init 42 = .ok (.putfield 28, 3) := by decide +kernel
theorem nd_F_init_45 : decode nb_F_init 45 = .ok (.aload_n 0, 1) := by decide +kernel
theorem nd_F_init_46 : decode nb_F_init 46 = .ok (.new 32, 3) := by decide +kernel
theorem nd_F_init_49 : decode nb_F_init 49 = .ok (.dup, 1) := by decide +kernel
theorem nd_F_init_50 : decode nb_F_init 50 = .ok (.aload_n 0, 1) := by decide +kernel
theorem nd_F_init_51 : decode nb_F_init 51 = .ok (.getfield 10, 3) := by decide +kernel
theorem nd_F_init_54 : decode nb_F_init 54 = .ok (.invokespecial 34, 3) := by decide +kernel
theorem nd_F_init_57 : decode nb_F_init 57 = .ok (.putfield 35, 3) := by decide +kernel
theorem nd_F_init_60 : decode nb_F_init 60 = .ok (.aload_n 0, 1) := by decide +kernel
theorem nd_F_init_61 : decode nb_F_init 61 = .ok (.new 39, 3) := by decide +kernel
theorem nd_F_init_64 : decode nb_F_init 64 = .ok (.dup, 1) := by decide +kernel
theorem nd_F_init_65 : decode nb_F_init 65 = .ok (.aload_n 0, 1) := by decide +kernel
theorem nd_F_init_66 : decode nb_F_init 66 = .ok (.getfield 10, 3) := by decide +kernel
theorem nd_F_init_69 : decode nb_F_init 69 = .ok (.aload_n 0, 1) := by decide +kernel
theorem nd_F_init_70 : decode nb_F_init 70 = .ok (.getfield 35, 3) := by decide +kernel
theorem nd_F_init_73 : decode nb_F_init 73 = .ok (.invokespecial 41, 3) := by decide +kernel
theorem nd_F_init_76 : decode nb_F_init 76 = .ok (.putfield 44, 3) := by decide +kernel
theorem nd_F_init_79 : decode nb_F_init 79 = .ok (.return_, 1) := by decide +kernel
theorem nd_F_kmalloc_0 : decode nb_F_kmalloc 0 = .ok (.iload_n 1, 1) := by decide +kernel
theorem nd_F_kmalloc_1 : decode nb_F_kmalloc 1 = .ok (.iconst 1, 1) := by decide +kernel
theorem nd_F_kmalloc_2 : decode nb_F_kmalloc 2 = .ok (.if_icmp .lt 9, 3) := by decide +kernel
theorem nd_F_kmalloc_5 : decode nb_F_kmalloc 5 = .ok (.iload_n 1, 1) := by decide +kernel
theorem nd_F_kmalloc_6 : decode nb_F_kmalloc 6 = .ok (.bipush 8, 2) := by decide +kernel
theorem nd_F_kmalloc_8 : decode nb_F_kmalloc 8 = .ok (.if_icmp .le 13, 3) := by decide +kernel
theorem nd_F_kmalloc_11 : decode nb_F_kmalloc 11 = .ok (.new 48, 3) := by decide +kernel
theorem nd_F_kmalloc_14 : decode nb_F_kmalloc 14 = .ok (.dup, 1) := by decide +kernel
theorem nd_F_kmalloc_15 : decode nb_F_kmalloc 15 = .ok (.ldc 50, 2) := by decide +kernel
theorem nd_F_kmalloc_17 : decode nb_F_kmalloc 17 = .ok (.invokespecial 52, 3) := by decide +kernel
theorem nd_F_kmalloc_20 : decode nb_F_kmalloc 20 = .ok (.athrow, 1) := by decide +kernel
theorem nd_F_kmalloc_21 : decode nb_F_kmalloc 21 = .ok (.aload_n 0, 1) := by decide +kernel
theorem nd_F_kmalloc_22 : decode nb_F_kmalloc 22 = .ok (.getfield 21, 3) := by decide +kernel
theorem nd_F_kmalloc_25 : decode nb_F_kmalloc 25 = .ok (.iload_n 1, 1) := by decide +kernel
theorem nd_F_kmalloc_26 : decode nb_F_kmalloc 26 = .ok (.invokestatic 55, 3) := by decide +kernel
theorem nd_F_kmalloc_29 : decode nb_F_kmalloc 29 = .ok (.invokevirtual 59, 3) := by decide +kernel
theorem nd_F_kmalloc_32 : decode nb_F_kmalloc 32 = .ok (.invokestatic 62, 3) := by decide +kernel
theorem nd_F_kmalloc_35 : decode nb_F_kmalloc 35 = .ok (.ireturn, 1) := by decide +kernel
theorem nd_F_kfree_0 : decode nb_F_kfree 0 = .ok (.aload_n 0, 1) := by decide +kernel
theorem nd_F_kfree_1 : decode nb_F_kfree 1 = .ok (.getfield 21, 3) := by decide +kernel
theorem nd_F_kfree_4 : decode nb_F_kfree 4 = .ok (.iload_n 1, 1) := by decide +kernel
theorem nd_F_kfree_5 : decode nb_F_kfree 5 = .ok (.invokevirtual 65, 3) := by decide +kernel
theorem nd_F_kfree_8 : decode nb_F_kfree 8 = .ok (.invokestatic 68, 3) := by decide +kernel
theorem nd_F_kfree_11 : decode nb_F_kfree 11 = .ok (.pop, 1) := by decide +kernel
theorem nd_F_kfree_12 : decode nb_F_kfree 12 = .ok (.return_, 1) := by decide +kernel
theorem nd_F_vmalloc_0 : decode nb_F_vmalloc 0 = .ok (.iload_n 1, 1) := by decide +kernel
theorem nd_F_vmalloc_1 : decode nb_F_vmalloc 1 = .ok (.iconst 1, 1) := by decide +kernel
theorem nd_F_vmalloc_2 : decode nb_F_vmalloc 2 = .ok (.if_icmp .lt 9, 3) := by decide +kernel
theorem nd_F_vmalloc_5 : decode nb_F_vmalloc 5 = .ok (.iload_n 1, 1) := by decide +kernel
theorem nd_F_vmalloc_6 : decode nb_F_vmalloc 6 = .ok (.bipush 8, 2) := by decide +kernel
theorem nd_F_vmalloc_8 : decode nb_F_vmalloc 8 = .ok (.if_icmp .le 13, 3) := by decide +kernel
theorem nd_F_vmalloc_11 : decode nb_F_vmalloc 11 = .ok (.new 48, 3) := by decide +kernel
theorem nd_F_vmalloc_14 : decode nb_F_vmalloc 14 = .ok (.dup, 1) := by decide +kernel
theorem nd_F_vmalloc_15 : decode nb_F_vmalloc 15 = .ok (.ldc 71, 2) := by decide +kernel
theorem nd_F_vmalloc_17 : decode nb_F_vmalloc 17 = .ok (.invokespecial 52, 3) := by decide +kernel
theorem nd_F_vmalloc_20 : decode nb_F_vmalloc 20 = .ok (.athrow, 1) := by decide +kernel
theorem nd_F_vmalloc_21 : decode nb_F_vmalloc 21 = .ok (.aload_n 0, 1) := by decide +kernel
theorem nd_F_vmalloc_22 : decode nb_F_vmalloc 22 = .ok (.getfield 28, 3) := by decide +kernel
theorem nd_F_vmalloc_25 : decode nb_F_vmalloc 25 = .ok (.iload_n 1, 1) := by decide +kernel
theorem nd_F_vmalloc_26 : decode nb_F_vmalloc 26 = .ok (.invokevirtual 73, 3) := by decide +kernel
theorem nd_F_vmalloc_29 : decode nb_F_vmalloc 29 = .ok (.invokestatic 62, 3) := by decide +kernel
theorem nd_F_vmalloc_32 : decode nb_F_vmalloc 32 = .ok (.ireturn, 1) := by decide +kernel
theorem nd_F_vfree_0 : decode nb_F_vfree 0 = .ok (.aload_n 0, 1) := by decide +kernel
theorem nd_F_vfree_1 : decode nb_F_vfree 1 = .ok (.getfield 28, 3) := by decide +kernel
theorem nd_F_vfree_4 : decode nb_F_vfree 4 = .ok (.iload_n 1, 1) := by decide +kernel
theorem nd_F_vfree_5 : decode nb_F_vfree 5 = .ok (.invokevirtual 74, 3) := by decide +kernel
theorem nd_F_vfree_8 : decode nb_F_vfree 8 = .ok (.invokestatic 68, 3) := by decide +kernel
theorem nd_F_vfree_11 : decode nb_F_vfree 11 = .ok (.ireturn, 1) := by decide +kernel
theorem nd_F_create_0 : decode nb_F_create 0 = .ok (.aload_n 0, 1) := by decide +kernel
theorem nd_F_create_1 : decode nb_F_create 1 = .ok (.getfield 35, 3) := by decide +kernel
theorem nd_F_create_4 : decode nb_F_create 4 = .ok (.invokevirtual 75, 3) := by decide +kernel
theorem nd_F_create_7 : decode nb_F_create 7 = .ok (.invokestatic 62, 3) := by decide +kernel
theorem nd_F_create_10 : decode nb_F_create 10 = .ok (.ireturn, 1) := by decide +kernel
theorem nd_F_destroy_0 : decode nb_F_destroy 0 = .ok (.aload_n 0, 1) := by decide +kernel
theorem nd_F_destroy_1 : decode nb_F_destroy 1 = .ok (.getfield 35, 3) := by decide +kernel
theorem nd_F_destroy_4 : decode nb_F_destroy 4 = .ok (.iload_n 1, 1) := by decide +kernel
theorem nd_F_destroy_5 : decode nb_F_destroy 5 = .ok (.invokevirtual 78, 3) := by decide +kernel
theorem nd_F_destroy_8 : decode nb_F_destroy 8 = .ok (.invokestatic 68, 3) := by decide +kernel
theorem nd_F_destroy_11 : decode nb_F_destroy 11 = .ok (.ireturn, 1) := by decide +kernel
theorem nd_F_mmap_0 : decode nb_F_mmap 0 = .ok (.aload_n 0, 1) := by decide +kernel
theorem nd_F_mmap_1 : decode nb_F_mmap 1 = .ok (.iload_n 1, 1) := by decide +kernel
theorem nd_F_mmap_2 : decode nb_F_mmap 2 = .ok (.iload_n 2, 1) := by decide +kernel
theorem nd_F_mmap_3 : decode nb_F_mmap 3 = .ok (.iload_n 3, 1) := by decide +kernel
theorem nd_F_mmap_4 : decode nb_F_mmap 4 = .ok (.invokevirtual 79, 3) := by decide +kernel
theorem nd_F_mmap_7 : decode nb_F_mmap 7 = .ok (.aload_n 0, 1) := by decide +kernel
theorem nd_F_mmap_8 : decode nb_F_mmap 8 = .ok (.getfield 35, 3) := by decide +kernel
theorem nd_F_mmap_11 : decode nb_F_mmap 11 = .ok (.iload_n 1, 1) := by decide +kernel
theorem nd_F_mmap_12 : decode nb_F_mmap 12 = .ok (.iload_n 2, 1) := by decide +kernel
theorem nd_F_mmap_13 : decode nb_F_mmap 13 = .ok (.iload_n 3, 1) := by decide +kernel
theorem nd_F_mmap_14 : decode nb_F_mmap 14 = .ok (.invokevirtual 83, 3) := by decide +kernel
theorem nd_F_mmap_17 : decode nb_F_mmap 17 = .ok (.ifCond .eq 13, 3) := by decide +kernel
theorem nd_F_mmap_20 : decode nb_F_mmap 20 = .ok (.new 48, 3) := by decide +kernel
theorem nd_F_mmap_23 : decode nb_F_mmap 23 = .ok (.dup, 1) := by decide +kernel
theorem nd_F_mmap_24 : decode nb_F_mmap 24 = .ok (.ldc 87, 2) := by decide +kernel
theorem nd_F_mmap_26 : decode nb_F_mmap 26 = .ok (.invokespecial 52, 3) := by decide +kernel
theorem nd_F_mmap_29 : decode nb_F_mmap 29 = .ok (.athrow, 1) := by decide +kernel
theorem nd_F_mmap_30 : decode nb_F_mmap 30 = .ok (.aload_n 0, 1) := by decide +kernel
theorem nd_F_mmap_31 : decode nb_F_mmap 31 = .ok (.getfield 35, 3) := by decide +kernel
theorem nd_F_mmap_34 : decode nb_F_mmap 34 = .ok (.iload_n 1, 1) := by decide +kernel
theorem nd_F_mmap_35 : decode nb_F_mmap 35 = .ok (.iload_n 2, 1) := by decide +kernel
theorem nd_F_mmap_36 : decode nb_F_mmap 36 = .ok (.iload_n 3, 1) := by decide +kernel
theorem nd_F_mmap_37 : decode nb_F_mmap 37 = .ok (.invokevirtual 89, 3) := by decide +kernel
theorem nd_F_mmap_40 : decode nb_F_mmap 40 = .ok (.return_, 1) := by decide +kernel
theorem nd_F_munmap_0 : decode nb_F_munmap 0 = .ok (.aload_n 0, 1) := by decide +kernel
theorem nd_F_munmap_1 : decode nb_F_munmap 1 = .ok (.iload_n 1, 1) := by decide +kernel
theorem nd_F_munmap_2 : decode nb_F_munmap 2 = .ok (.iload_n 2, 1) := by decide +kernel
theorem nd_F_munmap_3 : decode nb_F_munmap 3 = .ok (.iload_n 3, 1) := by decide +kernel
theorem nd_F_munmap_4 : decode nb_F_munmap 4 = .ok (.invokevirtual 79, 3) := by decide +kernel
theorem nd_F_munmap_7 : decode nb_F_munmap 7 = .ok (.aload_n 0, 1) := by decide +kernel
theorem nd_F_munmap_8 : decode nb_F_munmap 8 = .ok (.getfield 35, 3) := by decide +kernel
theorem nd_F_munmap_11 : decode nb_F_munmap 11 = .ok (.iload_n 1, 1) := by decide +kernel
theorem nd_F_munmap_12 : decode nb_F_munmap 12 = .ok (.iload_n 2, 1) := by decide +kernel
theorem nd_F_munmap_13 : decode nb_F_munmap 13 = .ok (.iload_n 3, 1) := by decide +kernel
theorem nd_F_munmap_14 : decode nb_F_munmap 14 = .ok (.invokevirtual 92, 3) := by decide +kernel
theorem nd_F_munmap_17 : decode nb_F_munmap 17 = .ok (.ireturn, 1) := by decide +kernel
theorem nd_F_load_0 : decode nb_F_load 0 = .ok (.aload_n 0, 1) := by decide +kernel
theorem nd_F_load_1 : decode nb_F_load 1 = .ok (.getfield 10, 3) := by decide +kernel
theorem nd_F_load_4 : decode nb_F_load 4 = .ok (.aload_n 0, 1) := by decide +kernel
theorem nd_F_load_5 : decode nb_F_load 5 = .ok (.iload_n 1, 1) := by decide +kernel
theorem nd_F_load_6 : decode nb_F_load 6 = .ok (.iload_n 2, 1) := by decide +kernel
theorem nd_F_load_7 : decode nb_F_load 7 = .ok (.invokevirtual 96, 3) := by decide +kernel
theorem nd_F_load_10 : decode nb_F_load 10 = .ok (.invokevirtual 100, 3) := by decide +kernel
theorem nd_F_load_13 : decode nb_F_load 13 = .ok (.ireturn, 1) := by decide +kernel
theorem nd_F_store_0 : decode nb_F_store 0 = .ok (.aload_n 0, 1) := by decide +kernel
theorem nd_F_store_1 : decode nb_F_store 1 = .ok (.getfield 10, 3) := by decide +kernel
theorem nd_F_store_4 : decode nb_F_store 4 = .ok (.aload_n 0, 1) := by decide +kernel
theorem nd_F_store_5 : decode nb_F_store 5 = .ok (.iload_n 1, 1) := by decide +kernel
theorem nd_F_store_6 : decode nb_F_store 6 = .ok (.iload_n 2, 1) := by decide +kernel
theorem nd_F_store_7 : decode nb_F_store 7 = .ok (.invokevirtual 96, 3) := by decide +kernel
theorem nd_F_store_10 : decode nb_F_store 10 = .ok (.iload_n 3, 1) := by decide +kernel
theorem nd_F_store_11 : decode nb_F_store 11 = .ok (.invokevirtual 103, 3) := by decide +kernel
theorem nd_F_store_14 : decode nb_F_store 14 = .ok (.return_, 1) := by decide +kernel
theorem nd_F_contig_0 : decode nb_F_contig 0 = .ok (.iload_n 1, 1) := by decide +kernel
theorem nd_F_contig_1 : decode nb_F_contig 1 = .ok (.ifCond .lt 8, 3) := by decide +kernel
theorem nd_F_contig_4 : decode nb_F_contig 4 = .ok (.iload_n 1, 1) := by decide +kernel
theorem nd_F_contig_5 : decode nb_F_contig 5 = .ok (.iconst 5, 1) := by decide +kernel
theorem nd_F_contig_6 : decode nb_F_contig 6 = .ok (.if_icmp .le 13, 3) := by decide +kernel
theorem nd_F_contig_9 : decode nb_F_contig 9 = .ok (.new 48, 3) := by decide +kernel
theorem nd_F_contig_12 : decode nb_F_contig 12 = .ok (.dup, 1) := by decide +kernel
theorem nd_F_contig_13 : decode nb_F_contig 13 = .ok (.ldc 107, 2) := by decide +kernel
theorem nd_F_contig_15 : decode nb_F_contig 15 = .ok (.invokespecial 52, 3) := by decide +kernel
theorem nd_F_contig_18 : decode nb_F_contig 18 = .ok (.athrow, 1) := by decide +kernel
theorem nd_F_contig_19 : decode nb_F_contig 19 = .ok (.aload_n 0, 1) := by decide +kernel
theorem nd_F_contig_20 : decode nb_F_contig 20 = .ok (.getfield 44, 3) := by decide +kernel
theorem nd_F_contig_23 : decode nb_F_contig 23 = .ok (.iload_n 1, 1) := by decide +kernel
theorem nd_F_contig_24 : decode nb_F_contig 24 = .ok (.invokevirtual 109, 3) := by decide +kernel
theorem nd_F_contig_27 : decode nb_F_contig 27 = .ok (.invokestatic 62, 3) := by decide +kernel
theorem nd_F_contig_30 : decode nb_F_contig 30 = .ok (.ireturn, 1) := by decide +kernel
theorem nd_F_release_0 : decode nb_F_release 0 = .ok (.aload_n 0, 1) := by decide +kernel
theorem nd_F_release_1 : decode nb_F_release 1 = .ok (.getfield 44, 3) := by decide +kernel
theorem nd_F_release_4 : decode nb_F_release 4 = .ok (.iload_n 1, 1) := by decide +kernel
theorem nd_F_release_5 : decode nb_F_release 5 = .ok (.invokevirtual 110, 3) := by decide +kernel
theorem nd_F_release_8 : decode nb_F_release 8 = .ok (.invokestatic 68, 3) := by decide +kernel
theorem nd_F_release_11 : decode nb_F_release 11 = .ok (.ireturn, 1) := by decide +kernel
theorem nd_F_owner_0 : decode nb_F_owner 0 = .ok (.aload_n 0, 1) := by decide +kernel
theorem nd_F_owner_1 : decode nb_F_owner 1 = .ok (.getfield 10, 3) := by decide +kernel
theorem nd_F_owner_4 : decode nb_F_owner 4 = .ok (.iload_n 1, 1) := by decide +kernel
theorem nd_F_owner_5 : decode nb_F_owner 5 = .ok (.invokevirtual 111, 3) := by decide +kernel
theorem nd_F_owner_8 : decode nb_F_owner 8 = .ok (.ireturn, 1) := by decide +kernel
theorem nd_F_frame_0 : decode nb_F_frame 0 = .ok (.iload_n 1, 1) := by decide +kernel
theorem nd_F_frame_1 : decode nb_F_frame 1 = .ok (.bipush (-2), 2) := by decide +kernel
theorem nd_F_frame_3 : decode nb_F_frame 3 = .ok (.if_icmp .ne 14, 3) := by decide +kernel
theorem nd_F_frame_6 : decode nb_F_frame 6 = .ok (.aload_n 0, 1) := by decide +kernel
theorem nd_F_frame_7 : decode nb_F_frame 7 = .ok (.getfield 28, 3) := by decide +kernel
theorem nd_F_frame_10 : decode nb_F_frame 10 = .ok (.iload_n 2, 1) := by decide +kernel
theorem nd_F_frame_11 : decode nb_F_frame 11 = .ok (.invokevirtual 114, 3) := by decide +kernel
theorem nd_F_frame_14 : decode nb_F_frame 14 = .ok (.goto 12, 3) := by decide +kernel
theorem nd_F_frame_17 : decode nb_F_frame 17 = .ok (.aload_n 0, 1) := by decide +kernel
theorem nd_F_frame_18 : decode nb_F_frame 18 = .ok (.getfield 35, 3) := by decide +kernel
theorem nd_F_frame_21 : decode nb_F_frame 21 = .ok (.iload_n 1, 1) := by decide +kernel
theorem nd_F_frame_22 : decode nb_F_frame 22 = .ok (.iload_n 2, 1) := by decide +kernel
theorem nd_F_frame_23 : decode nb_F_frame 23 = .ok (.invokevirtual 117, 3) := by decide +kernel
theorem nd_F_frame_26 : decode nb_F_frame 26 = .ok (.ireturn, 1) := by decide +kernel
theorem nd_F_word_0 : decode nb_F_word 0 = .ok (.iload_n 1, 1) := by decide +kernel
theorem nd_F_word_1 : decode nb_F_word 1 = .ok (.invokestatic 119, 3) := by decide +kernel
theorem nd_F_word_4 : decode nb_F_word 4 = .ok (.ifCond .eq 29, 3) := by decide +kernel
theorem nd_F_word_7 : decode nb_F_word 7 = .ok (.iload_n 2, 1) := by decide +kernel
theorem nd_F_word_8 : decode nb_F_word 8 = .ok (.ifCond .lt 25, 3) := by decide +kernel
theorem nd_F_word_11 : decode nb_F_word 11 = .ok (.iload_n 2, 1) := by decide +kernel
theorem nd_F_word_12 : decode nb_F_word 12 = .ok (.bipush 16, 2) := by decide +kernel
theorem nd_F_word_14 : decode nb_F_word 14 = .ok (.if_icmp .ge 19, 3) := by decide +kernel
theorem nd_F_word_17 : decode nb_F_word 17 = .ok (.aload_n 0, 1) := by decide +kernel
theorem nd_F_word_18 : decode nb_F_word 18 = .ok (.getfield 10, 3) := by decide +kernel
theorem nd_F_word_21 : decode nb_F_word 21 = .ok (.iload_n 1, 1) := by decide +kernel
theorem nd_F_word_22 : decode nb_F_word 22 = .ok (.bipush 16, 2) := by decide +kernel
theorem nd_F_word_24 : decode nb_F_word 24 = .ok (.imul, 1) := by decide +kernel
theorem nd_F_word_25 : decode nb_F_word 25 = .ok (.iload_n 2, 1) := by decide +kernel
theorem nd_F_word_26 : decode nb_F_word 26 = .ok (.iadd, 1) := by decide +kernel
theorem nd_F_word_27 : decode nb_F_word 27 = .ok (.invokevirtual 100, 3) := by decide +kernel
theorem nd_F_word_30 : decode nb_F_word 30 = .ok (.goto 4, 3) := by decide +kernel
theorem nd_F_word_33 : decode nb_F_word 33 = .ok (.iconst 0, 1) := by decide +kernel
theorem nd_F_word_34 : decode nb_F_word 34 = .ok (.ireturn, 1) := by decide +kernel
theorem nd_F_blocks_0 : decode nb_F_blocks 0 = .ok (.iload_n 1, 1) := by decide +kernel
theorem nd_F_blocks_1 : decode nb_F_blocks 1 = .ok (.ifCond .lt 9, 3) := by decide +kernel
theorem nd_F_blocks_4 : decode nb_F_blocks 4 = .ok (.iload_n 1, 1) := by decide +kernel
theorem nd_F_blocks_5 : decode nb_F_blocks 5 = .ok (.bipush 6, 2) := by decide +kernel
theorem nd_F_blocks_7 : decode nb_F_blocks 7 = .ok (.if_icmp .le 7, 3) := by decide +kernel
theorem nd_F_blocks_10 : decode nb_F_blocks 10 = .ok (.iconst 0, 1) := by decide +kernel
theorem nd_F_blocks_11 : decode nb_F_blocks 11 = .ok (.goto 11, 3) := by decide +kernel
theorem nd_F_blocks_14 : decode nb_F_blocks 14 = .ok (.aload_n 0, 1) := by decide +kernel
theorem nd_F_blocks_15 : decode nb_F_blocks 15 = .ok (.getfield 10, 3) := by decide +kernel
theorem nd_F_blocks_18 : decode nb_F_blocks 18 = .ok (.iload_n 1, 1) := by decide +kernel
theorem nd_F_blocks_19 : decode nb_F_blocks 19 = .ok (.invokevirtual 123, 3) := by decide +kernel
theorem nd_F_blocks_22 : decode nb_F_blocks 22 = .ok (.ireturn, 1) := by decide +kernel
theorem nd_F_free_0 : decode nb_F_free 0 = .ok (.aload_n 0, 1) := by decide +kernel
theorem nd_F_free_1 : decode nb_F_free 1 = .ok (.getfield 10, 3) := by decide +kernel
theorem nd_F_free_4 : decode nb_F_free 4 = .ok (.invokevirtual 126, 3) := by decide +kernel
theorem nd_F_free_7 : decode nb_F_free 7 = .ok (.ireturn, 1) := by decide +kernel
theorem nd_F_moved_0 : decode nb_F_moved 0 = .ok (.aload_n 0, 1) := by decide +kernel
theorem nd_F_moved_1 : decode nb_F_moved 1 = .ok (.getfield 44, 3) := by decide +kernel
theorem nd_F_moved_4 : decode nb_F_moved 4 = .ok (.invokevirtual 129, 3) := by decide +kernel
theorem nd_F_moved_7 : decode nb_F_moved 7 = .ok (.ireturn, 1) := by decide +kernel
theorem nd_F_orNotAsTold_0 : decode nb_F_orNotAsTold 0 = .ok (.iload_n 0, 1) := by decide +kernel
theorem nd_F_orNotAsTold_1 : decode nb_F_orNotAsTold 1 = .ok (.iconst (-1), 1) := by decide +kernel
theorem nd_F_orNotAsTold_2 : decode nb_F_orNotAsTold 2 = .ok (.if_icmp .ne 13, 3) := by decide +kernel
theorem nd_F_orNotAsTold_5 : decode nb_F_orNotAsTold 5 = .ok (.new 48, 3) := by decide +kernel
theorem nd_F_orNotAsTold_8 : decode nb_F_orNotAsTold 8 = .ok (.dup, 1) := by decide +kernel
theorem nd_F_orNotAsTold_9 : decode nb_F_orNotAsTold 9 = .ok (.ldc 132, 2) := by decide +kernel
theorem nd_F_orNotAsTold_11 : decode nb_F_orNotAsTold 11 = .ok (.invokespecial 52, 3) := by decide +kernel
theorem nd_F_orNotAsTold_14 : decode nb_F_orNotAsTold 14 = .ok (.athrow, 1) := by decide +kernel
theorem nd_F_orNotAsTold_15 : decode nb_F_orNotAsTold 15 = .ok (.iload_n 0, 1) := by decide +kernel
theorem nd_F_orNotAsTold_16 : decode nb_F_orNotAsTold 16 = .ok (.ireturn, 1) := by decide +kernel
theorem nd_F_orNotEnough_0 : decode nb_F_orNotEnough 0 = .ok (.iload_n 0, 1) := by decide +kernel
theorem nd_F_orNotEnough_1 : decode nb_F_orNotEnough 1 = .ok (.iconst (-1), 1) := by decide +kernel
theorem nd_F_orNotEnough_2 : decode nb_F_orNotEnough 2 = .ok (.if_icmp .ne 13, 3) := by decide +kernel
theorem nd_F_orNotEnough_5 : decode nb_F_orNotEnough 5 = .ok (.new 134, 3) := by decide +kernel
theorem nd_F_orNotEnough_8 : decode nb_F_orNotEnough 8 = .ok (.dup, 1) := by decide +kernel
theorem nd_F_orNotEnough_9 : decode nb_F_orNotEnough 9 = .ok (.ldc 136, 2) := by decide +kernel
theorem nd_F_orNotEnough_11 : decode nb_F_orNotEnough 11 = .ok (.invokespecial 138, 3) := by decide +kernel
theorem nd_F_orNotEnough_14 : decode nb_F_orNotEnough 14 = .ok (.athrow, 1) := by decide +kernel
theorem nd_F_orNotEnough_15 : decode nb_F_orNotEnough 15 = .ok (.iload_n 0, 1) := by decide +kernel
theorem nd_F_orNotEnough_16 : decode nb_F_orNotEnough 16 = .ok (.ireturn, 1) := by decide +kernel
theorem nd_F_sizeFor_0 : decode nb_F_sizeFor 0 = .ok (.iload_n 0, 1) := by decide +kernel
theorem nd_F_sizeFor_1 : decode nb_F_sizeFor 1 = .ok (.iconst 2, 1) := by decide +kernel
theorem nd_F_sizeFor_2 : decode nb_F_sizeFor 2 = .ok (.if_icmp .gt 5, 3) := by decide +kernel
theorem nd_F_sizeFor_5 : decode nb_F_sizeFor 5 = .ok (.iconst 2, 1) := by decide +kernel
theorem nd_F_sizeFor_6 : decode nb_F_sizeFor 6 = .ok (.ireturn, 1) := by decide +kernel
theorem nd_F_sizeFor_7 : decode nb_F_sizeFor 7 = .ok (.iload_n 0, 1) := by decide +kernel
theorem nd_F_sizeFor_8 : decode nb_F_sizeFor 8 = .ok (.iconst 4, 1) := by decide +kernel
theorem nd_F_sizeFor_9 : decode nb_F_sizeFor 9 = .ok (.if_icmp .gt 7, 3) := by decide +kernel
theorem nd_F_sizeFor_12 : decode nb_F_sizeFor 12 = .ok (.iconst 4, 1) := by decide +kernel
theorem nd_F_sizeFor_13 : decode nb_F_sizeFor 13 = .ok (.goto 5, 3) := by decide +kernel
theorem nd_F_sizeFor_16 : decode nb_F_sizeFor 16 = .ok (.bipush 8, 2) := by decide +kernel
theorem nd_F_sizeFor_18 : decode nb_F_sizeFor 18 = .ok (.ireturn, 1) := by decide +kernel
theorem nd_F_checkSpace_0 : decode nb_F_checkSpace 0 = .ok (.aload_n 0, 1) := by decide +kernel
theorem nd_F_checkSpace_1 : decode nb_F_checkSpace 1 = .ok (.getfield 35, 3) := by decide +kernel
theorem nd_F_checkSpace_4 : decode nb_F_checkSpace 4 = .ok (.iload_n 1, 1) := by decide +kernel
theorem nd_F_checkSpace_5 : decode nb_F_checkSpace 5 = .ok (.invokevirtual 139, 3) := by decide +kernel
theorem nd_F_checkSpace_8 : decode nb_F_checkSpace 8 = .ok (.ifCond .ne 13, 3) := by decide +kernel
theorem nd_F_checkSpace_11 : decode nb_F_checkSpace 11 = .ok (.new 48, 3) := by decide +kernel
theorem nd_F_checkSpace_14 : decode nb_F_checkSpace 14 = .ok (.dup, 1) := by decide +kernel
theorem nd_F_checkSpace_15 : decode nb_F_checkSpace 15 = .ok (.ldc 142, 2) := by decide +kernel
theorem nd_F_checkSpace_17 : decode nb_F_checkSpace 17 = .ok (.invokespecial 52, 3) := by decide +kernel
theorem nd_F_checkSpace_20 : decode nb_F_checkSpace 20 = .ok (.athrow, 1) := by decide +kernel
theorem nd_F_checkSpace_21 : decode nb_F_checkSpace 21 = .ok (.return_, 1) := by decide +kernel
theorem nd_F_checkPages_0 : decode nb_F_checkPages 0 = .ok (.aload_n 0, 1) := by decide +kernel
theorem nd_F_checkPages_1 : decode nb_F_checkPages 1 = .ok (.iload_n 1, 1) := by decide +kernel
theorem nd_F_checkPages_2 : decode nb_F_checkPages 2 = .ok (.invokevirtual 144, 3) := by decide +kernel
theorem nd_F_checkPages_5 : decode nb_F_checkPages 5 = .ok (.iload_n 3, 1) := by decide +kernel
theorem nd_F_checkPages_6 : decode nb_F_checkPages 6 = .ok (.iconst 1, 1) := by decide +kernel
theorem nd_F_checkPages_7 : decode nb_F_checkPages 7 = .ok (.if_icmp .lt 9, 3) := by decide +kernel
theorem nd_F_checkPages_10 : decode nb_F_checkPages 10 = .ok (.iload_n 3, 1) := by decide +kernel
theorem nd_F_checkPages_11 : decode nb_F_checkPages 11 = .ok (.bipush 64, 2) := by decide +kernel
theorem nd_F_checkPages_13 : decode nb_F_checkPages 13 = .ok (.if_icmp .le 13, 3) := by decide +kernel
theorem nd_F_checkPages_16 : decode nb_F_checkPages 16 = .ok (.new 48, 3) := by decide +kernel
theorem nd_F_checkPages_19 : decode nb_F_checkPages 19 = .ok (.dup, 1) := by decide +kernel
theorem nd_F_checkPages_20 : decode nb_F_checkPages 20 = .ok (.ldc 71, 2) := by decide +kernel
theorem nd_F_checkPages_22 : decode nb_F_checkPages 22 = .ok (.invokespecial 52, 3) := by decide +kernel
theorem nd_F_checkPages_25 : decode nb_F_checkPages 25 = .ok (.athrow, 1) := by decide +kernel
theorem nd_F_checkPages_26 : decode nb_F_checkPages 26 = .ok (.iload_n 2, 1) := by decide +kernel
theorem nd_F_checkPages_27 : decode nb_F_checkPages 27 = .ok (.ifCond .lt 12, 3) := by decide +kernel
theorem nd_F_checkPages_30 : decode nb_F_checkPages 30 = .ok (.iload_n 2, 1) := by decide +kernel
theorem nd_F_checkPages_31 : decode nb_F_checkPages 31 = .ok (.sipush 256, 3) := by decide +kernel
theorem nd_F_checkPages_34 : decode nb_F_checkPages 34 = .ok (.iload_n 3, 1) := by decide +kernel
theorem nd_F_checkPages_35 : decode nb_F_checkPages 35 = .ok (.isub, 1) := by decide +kernel
theorem nd_F_checkPages_36 : decode nb_F_checkPages 36 = .ok (.if_icmp .le 13, 3) := by decide +kernel
theorem nd_F_checkPages_39 : decode nb_F_checkPages 39 = .ok (.new 48, 3) := by decide +kernel
theorem nd_F_checkPages_42 : decode nb_F_checkPages 42 = .ok (.dup, 1) := by decide +kernel
theorem nd_F_checkPages_43 : decode nb_F_checkPages 43 = .ok (.ldc 148, 2) := by decide +kernel
theorem nd_F_checkPages_45 : decode nb_F_checkPages 45 = .ok (.invokespecial 52, 3) := by decide +kernel
theorem nd_F_checkPages_48 : decode nb_F_checkPages 48 = .ok (.athrow, 1) := by decide +kernel
theorem nd_F_checkPages_49 : decode nb_F_checkPages 49 = .ok (.return_, 1) := by decide +kernel
theorem nd_F_placeOf_0 : decode nb_F_placeOf 0 = .ok (.iload_n 1, 1) := by decide +kernel
theorem nd_F_placeOf_1 : decode nb_F_placeOf 1 = .ok (.iconst (-1), 1) := by decide +kernel
theorem nd_F_placeOf_2 : decode nb_F_placeOf 2 = .ok (.if_icmp .ne 15, 3) := by decide +kernel
theorem nd_F_placeOf_5 : decode nb_F_placeOf 5 = .ok (.aload_n 0, 1) := by decide +kernel
theorem nd_F_placeOf_6 : decode nb_F_placeOf 6 = .ok (.getfield 21, 3) := by decide +kernel
theorem nd_F_placeOf_9 : decode nb_F_placeOf 9 = .ok (.iload_n 2, 1) := by decide +kernel
theorem nd_F_placeOf_10 : decode nb_F_placeOf 10 = .ok (.invokevirtual 150, 3) := by decide +kernel
theorem nd_F_placeOf_13 : decode nb_F_placeOf 13 = .ok (.invokestatic 153, 3) := by decide +kernel
theorem nd_F_placeOf_16 : decode nb_F_placeOf 16 = .ok (.ireturn, 1) := by decide +kernel
theorem nd_F_placeOf_17 : decode nb_F_placeOf 17 = .ok (.iload_n 1, 1) := by decide +kernel
theorem nd_F_placeOf_18 : decode nb_F_placeOf 18 = .ok (.bipush (-2), 2) := by decide +kernel
theorem nd_F_placeOf_20 : decode nb_F_placeOf 20 = .ok (.if_icmp .ne 15, 3) := by decide +kernel
theorem nd_F_placeOf_23 : decode nb_F_placeOf 23 = .ok (.aload_n 0, 1) := by decide +kernel
theorem nd_F_placeOf_24 : decode nb_F_placeOf 24 = .ok (.getfield 28, 3) := by decide +kernel
theorem nd_F_placeOf_27 : decode nb_F_placeOf 27 = .ok (.iload_n 2, 1) := by decide +kernel
theorem nd_F_placeOf_28 : decode nb_F_placeOf 28 = .ok (.invokevirtual 156, 3) := by decide +kernel
theorem nd_F_placeOf_31 : decode nb_F_placeOf 31 = .ok (.invokestatic 153, 3) := by decide +kernel
theorem nd_F_placeOf_34 : decode nb_F_placeOf 34 = .ok (.ireturn, 1) := by decide +kernel
theorem nd_F_placeOf_35 : decode nb_F_placeOf 35 = .ok (.aload_n 0, 1) := by decide +kernel
theorem nd_F_placeOf_36 : decode nb_F_placeOf 36 = .ok (.iload_n 1, 1) := by decide +kernel
theorem nd_F_placeOf_37 : decode nb_F_placeOf 37 = .ok (.invokevirtual 144, 3) := by decide +kernel
theorem nd_F_placeOf_40 : decode nb_F_placeOf 40 = .ok (.aload_n 0, 1) := by decide +kernel
theorem nd_F_placeOf_41 : decode nb_F_placeOf 41 = .ok (.iload_n 1, 1) := by decide +kernel
theorem nd_F_placeOf_42 : decode nb_F_placeOf 42 = .ok (.iload_n 2, 1) := by decide +kernel
theorem nd_F_placeOf_43 : decode nb_F_placeOf 43 = .ok (.invokevirtual 157, 3) := by decide +kernel
theorem nd_F_placeOf_46 : decode nb_F_placeOf 46 = .ok (.ireturn, 1) := by decide +kernel
theorem nd_F_placeInSpace_0 : decode nb_F_placeInSpace 0 = .ok (.iload_n 2, 1) := by decide +kernel
theorem nd_F_placeInSpace_1 : decode nb_F_placeInSpace 1 = .ok (.bipush 16, 2) := by decide +kernel
theorem nd_F_placeInSpace_3 : decode nb_F_placeInSpace 3 = .ok (.invokestatic 160, 3) := by decide +kernel
theorem nd_F_placeInSpace_6 : decode nb_F_placeInSpace 6 = .ok (.istore_n 3, 1) := by decide +kernel
theorem nd_F_placeInSpace_7 : decode nb_F_placeInSpace 7 = .ok (.aload_n 0, 1) := by decide +kernel
theorem nd_F_placeInSpace_8 : decode nb_F_placeInSpace 8 = .ok (.getfield 35, 3) := by decide +kernel
theorem nd_F_placeInSpace_11 : decode nb_F_placeInSpace 11 = .ok (.iload_n 1, 1) := by decide +kernel
theorem nd_F_placeInSpace_12 : decode nb_F_placeInSpace 12 = .ok (.iload_n 3, 1) := by decide +kernel
theorem nd_F_placeInSpace_13 : decode nb_F_placeInSpace 13 = .ok (.invokevirtual 165, 3) := by decide +kernel
theorem nd_F_placeInSpace_16 : decode nb_F_placeInSpace 16 = .ok (.ifCond .ne 13, 3) := by decide +kernel
theorem nd_F_placeInSpace_19 : decode nb_F_placeInSpace 19 = .ok (.new 169, 3) := by decide +kernel
theorem nd_F_placeInSpace_22 : decode nb_F_placeInSpace 22 = .ok (.dup, 1) := by decide +kernel
theorem nd_F_placeInSpace_23 : decode nb_F_placeInSpace 23 = .ok (.ldc 171, 2) := by decide +kernel
theorem nd_F_placeInSpace_25 : decode nb_F_placeInSpace 25 = .ok (.invokespecial 173, 3) := by decide +kernel
theorem nd_F_placeInSpace_28 : decode nb_F_placeInSpace 28 = .ok (.athrow, 1) := by decide +kernel
theorem nd_F_placeInSpace_29 : decode nb_F_placeInSpace 29 = .ok (.aload_n 0, 1) := by decide +kernel
theorem nd_F_placeInSpace_30 : decode nb_F_placeInSpace 30 = .ok (.getfield 35, 3) := by decide +kernel
theorem nd_F_placeInSpace_33 : decode nb_F_placeInSpace 33 = .ok (.iload_n 1, 1) := by decide +kernel
theorem nd_F_placeInSpace_34 : decode nb_F_placeInSpace 34 = .ok (.iload_n 3, 1) := by decide +kernel
theorem nd_F_placeInSpace_35 : decode nb_F_placeInSpace 35 = .ok (.invokevirtual 174, 3) := by decide +kernel
theorem nd_F_placeInSpace_38 : decode nb_F_placeInSpace 38 = .ok (.invokestatic 62, 3) := by decide +kernel
theorem nd_F_placeInSpace_41 : decode nb_F_placeInSpace 41 = .ok (.bipush 16, 2) := by decide +kernel
theorem nd_F_placeInSpace_43 : decode nb_F_placeInSpace 43 = .ok (.imul, 1) := by decide +kernel
theorem nd_F_placeInSpace_44 : decode nb_F_placeInSpace 44 = .ok (.iload_n 2, 1) := by decide +kernel
theorem nd_F_placeInSpace_45 : decode nb_F_placeInSpace 45 = .ok (.bipush 16, 2) := by decide +kernel
theorem nd_F_placeInSpace_47 : decode nb_F_placeInSpace 47 = .ok (.invokestatic 177, 3) := by decide +kernel
theorem nd_F_placeInSpace_50 : decode nb_F_placeInSpace 50 = .ok (.iadd, 1) := by decide +kernel
theorem nd_F_placeInSpace_51 : decode nb_F_placeInSpace 51 = .ok (.ireturn, 1) := by decide +kernel
theorem nd_F_orFault_0 : decode nb_F_orFault 0 = .ok (.iload_n 0, 1) := by decide +kernel
theorem nd_F_orFault_1 : decode nb_F_orFault 1 = .ok (.iconst (-1), 1) := by decide +kernel
theorem nd_F_orFault_2 : decode nb_F_orFault 2 = .ok (.if_icmp .ne 13, 3) := by decide +kernel
theorem nd_F_orFault_5 : decode nb_F_orFault 5 = .ok (.new 169, 3) := by decide +kernel
theorem nd_F_orFault_8 : decode nb_F_orFault 8 = .ok (.dup, 1) := by decide +kernel
theorem nd_F_orFault_9 : decode nb_F_orFault 9 = .ok (.ldc 180, 2) := by decide +kernel
theorem nd_F_orFault_11 : decode nb_F_orFault 11 = .ok (.invokespecial 173, 3) := by decide +kernel
theorem nd_F_orFault_14 : decode nb_F_orFault 14 = .ok (.athrow, 1) := by decide +kernel
theorem nd_F_orFault_15 : decode nb_F_orFault 15 = .ok (.iload_n 0, 1) := by decide +kernel
theorem nd_F_orFault_16 : decode nb_F_orFault 16 = .ok (.ireturn, 1) := by decide +kernel
theorem nd_F_isFrame_0 : decode nb_F_isFrame 0 = .ok (.iload_n 0, 1) := by decide +kernel
theorem nd_F_isFrame_1 : decode nb_F_isFrame 1 = .ok (.ifCond .lt 13, 3) := by decide +kernel
theorem nd_F_isFrame_4 : decode nb_F_isFrame 4 = .ok (.iload_n 0, 1) := by decide +kernel
theorem nd_F_isFrame_5 : decode nb_F_isFrame 5 = .ok (.bipush 64, 2) := by decide +kernel
theorem nd_F_isFrame_7 : decode nb_F_isFrame 7 = .ok (.if_icmp .ge 7, 3) := by decide +kernel
theorem nd_F_isFrame_10 : decode nb_F_isFrame 10 = .ok (.iconst 1, 1) := by decide +kernel
theorem nd_F_isFrame_11 : decode nb_F_isFrame 11 = .ok (.goto 4, 3) := by decide +kernel
theorem nd_F_isFrame_14 : decode nb_F_isFrame 14 = .ok (.iconst 0, 1) := by decide +kernel
theorem nd_F_isFrame_15 : decode nb_F_isFrame 15 = .ok (.ireturn, 1) := by decide +kernel
theorem nd_Frames_init_0 : decode nb_Frames_init 0 = .ok (.aload_n 0, 1) := by decide +kernel
theorem nd_Frames_init_1 : decode nb_Frames_init 1 = .ok (.invokespecial 3, 3) := by decide +kernel
theorem nd_Frames_init_4 : decode nb_Frames_init 4 = .ok (.aload_n 0, 1) := by decide +kernel
theorem nd_Frames_init_5 : decode nb_Frames_init 5 = .ok (.bipush 64, 2) := by decide +kernel
theorem nd_Frames_init_7 : decode nb_Frames_init 7 = .ok (.newarray .int, 2) := by decide +kernel
theorem nd_Frames_init_9 : decode nb_Frames_init 9 = .ok (.putfield 9, 3) := by decide +kernel
theorem nd_Frames_init_12 : decode nb_Frames_init 12 = .ok (.aload_n 0, 1) := by decide +kernel
theorem nd_Frames_init_13 : decode nb_Frames_init 13 = .ok (.sipush 1024, 3) := by decide +kernel
theorem nd_Frames_init_16 : decode nb_Frames_init 16 = .ok (.newarray .int, 2) := by decide +kernel
theorem nd_Frames_init_18 : decode nb_Frames_init 18 = .ok (.putfield 15, 3) := by decide +kernel
theorem nd_Frames_init_21 : decode nb_Frames_init 21 = .ok (.aload_n 0, 1) := by decide +kernel
theorem nd_Frames_init_22 : decode nb_Frames_init 22 = .ok (.ldc2_w 18, 3) := by decide +kernel
theorem nd_Frames_init_25 : decode nb_Frames_init 25 = .ok (.putfield 20, 3) := by decide +kernel
theorem nd_Frames_init_28 : decode nb_Frames_init 28 = .ok (.return_, 1) := by decide +kernel
theorem nd_Frames_ownerOf_0 : decode nb_Frames_ownerOf 0 = .ok (.iload_n 1, 1) := by decide +kernel
theorem nd_Frames_ownerOf_1 : decode nb_Frames_ownerOf 1 = .ok (.invokestatic 24, 3) := by decide +kernel
theorem nd_Frames_ownerOf_4 : decode nb_Frames_ownerOf 4 = .ok (.ifCond .eq 12, 3) := by decide +kernel
theorem nd_Frames_ownerOf_7 : decode nb_Frames_ownerOf 7 = .ok (.aload_n 0, 1) := by decide +kernel
theorem nd_Frames_ownerOf_8 : decode nb_Frames_ownerOf 8 = .ok (.getfield 9, 3) := by decide +kernel
theorem nd_Frames_ownerOf_11 : decode nb_Frames_ownerOf 11 = .ok (.iload_n 1, 1) := by decide +kernel
theorem nd_Frames_ownerOf_12 : decode nb_Frames_ownerOf 12 = .ok (.iaload, 1) := by decide +kernel
theorem nd_Frames_ownerOf_13 : decode nb_Frames_ownerOf 13 = .ok (.goto 4, 3) := by decide +kernel
theorem nd_Frames_ownerOf_16 : decode nb_Frames_ownerOf 16 = .ok (.iconst (-1), 1) := by decide +kernel
theorem nd_Frames_ownerOf_17 : decode nb_Frames_ownerOf 17 = .ok (.ireturn, 1) := by decide +kernel
theorem nd_Frames_read_0 : decode nb_Frames_read 0 = .ok (.iload_n 1, 1) := by decide +kernel
theorem nd_Frames_read_1 : decode nb_Frames_read 1 = .ok (.ifCond .lt 21, 3) := by decide +kernel
theorem nd_Frames_read_4 : decode nb_Frames_read 4 = .ok (.iload_n 1, 1) := by decide +kernel
theorem nd_Frames_read_5 : decode nb_Frames_read 5 = .ok (.aload_n 0, 1) := by decide +kernel
theorem nd_Frames_read_6 : decode nb_Frames_read 6 = .ok (.getfield 15, 3) := by decide +kernel
theorem nd_Frames_read_9 : decode nb_Frames_read 9 = .ok (.arraylength, 1) := by decide +kernel
theorem nd_Frames_read_10 : decode nb_Frames_read 10 = .ok (.if_icmp .ge 12, 3) := by decide +kernel
theorem nd_Frames_read_13 : decode nb_Frames_read 13 = .ok (.aload_n 0, 1) := by decide +kernel
theorem nd_Frames_read_14 : decode nb_Frames_read 14 = .ok (.getfield 15, 3) := by decide +kernel
theorem nd_Frames_read_17 : decode nb_Frames_read 17 = .ok (.iload_n 1, 1) := by decide +kernel
theorem nd_Frames_read_18 : decode nb_Frames_read 18 = .ok (.iaload, 1) := by decide +kernel
theorem nd_Frames_read_19 : decode nb_Frames_read 19 = .ok (.goto 4, 3) := by decide +kernel
theorem nd_Frames_read_22 : decode nb_Frames_read 22 = .ok (.iconst 0, 1) := by decide +kernel
theorem nd_Frames_read_23 : decode nb_Frames_read 23 = .ok (.ireturn, 1) := by decide +kernel
theorem nd_Frames_write_0 : decode nb_Frames_write 0 = .ok (.iload_n 1, 1) := by decide +kernel
theorem nd_Frames_write_1 : decode nb_Frames_write 1 = .ok (.ifCond .lt 19, 3) := by decide +kernel
theorem nd_Frames_write_4 : decode nb_Frames_write 4 = .ok (.iload_n 1, 1) := by decide +kernel
theorem nd_Frames_write_5 : decode nb_Frames_write 5 = .ok (.aload_n 0, 1) := by decide +kernel
theorem nd_Frames_write_6 : decode nb_Frames_write 6 = .ok (.getfield 15, 3) := by decide +kernel
theorem nd_Frames_write_9 : decode nb_Frames_write 9 = .ok (.arraylength, 1) := by decide +kernel
theorem nd_Frames_write_10 : decode nb_Frames_write 10 = .ok (.if_icmp .ge 10, 3) := by decide +kernel
theorem nd_Frames_write_13 : decode nb_Frames_write 13 = .ok (.aload_n 0, 1) := by decide +kernel
theorem nd_Frames_write_14 : decode nb_Frames_write 14 = .ok (.getfield 15, 3) := by decide +kernel
theorem nd_Frames_write_17 : decode nb_Frames_write 17 = .ok (.iload_n 1, 1) := by decide +kernel
theorem nd_Frames_write_18 : decode nb_Frames_write 18 = .ok (.iload_n 2, 1) := by decide +kernel
theorem nd_Frames_write_19 : decode nb_Frames_write 19 = .ok (.iastore, 1) := by decide +kernel
theorem nd_Frames_write_20 : decode nb_Frames_write 20 = .ok (.return_, 1) := by decide +kernel
theorem nd_Frames_clear_0 : decode nb_Frames_clear 0 = .ok (.iconst 0, 1) := by decide +kernel
theorem nd_Frames_clear_1 : decode nb_Frames_clear 1 = .ok (.istore_n 3, 1) := by decide +kernel
theorem nd_Frames_clear_2 : decode nb_Frames_clear 2 = .ok (.iload_n 3, 1) := by decide +kernel
theorem nd_Frames_clear_3 : decode nb_Frames_clear 3 = .ok (.iload_n 2, 1) := by decide +kernel
theorem nd_Frames_clear_4 : decode nb_Frames_clear 4 = .ok (.if_icmp .ge 17, 3) := by decide +kernel
theorem nd_Frames_clear_7 : decode nb_Frames_clear 7 = .ok (.aload_n 0, 1) := by decide +kernel
theorem nd_Frames_clear_8 : decode nb_Frames_clear 8 = .ok (.iload_n 1, 1) := by decide +kernel
theorem nd_Frames_clear_9 : decode nb_Frames_clear 9 = .ok (.iload_n 3, 1) := by decide +kernel
theorem nd_Frames_clear_10 : decode nb_Frames_clear 10 = .ok (.iadd, 1) := by decide +kernel
theorem nd_Frames_clear_11 : decode nb_Frames_clear 11 = .ok (.iconst 0, 1) := by decide +kernel
theorem nd_Frames_clear_12 : decode nb_Frames_clear 12 = .ok (.invokevirtual 28, 3) := by decide +kernel
theorem nd_Frames_clear_15 : decode nb_Frames_clear 15 = .ok (.iinc 3 1, 3) := by decide +kernel
theorem nd_Frames_clear_18 : decode nb_Frames_clear 18 = .ok (.goto (-16), 3) := by decide +kernel
theorem nd_Frames_clear_21 : decode nb_Frames_clear 21 = .ok (.return_, 1) := by decide +kernel
theorem nd_Frames_copyWords_0 : decode nb_Frames_copyWords 0 = .ok (.iconst 0, 1) := by decide +kernel
theorem nd_Frames_copyWords_1 : decode nb_Frames_copyWords 1 = .ok (.istore_n 3, 1) := by decide +kernel
theorem nd_Frames_copyWords_2 : decode nb_Frames_copyWords 2 = .ok (.iload_n 3, 1) := by decide +kernel
theorem nd_Frames_copyWords_3 : decode nb_Frames_copyWords 3 = .ok (.bipush 16, 2) := by decide +kernel
theorem nd_Frames_copyWords_5 : decode nb_Frames_copyWords 5 = .ok (.if_icmp .ge 29, 3) := by decide +kernel
theorem nd_Frames_copyWords_8 : decode nb_Frames_copyWords 8 = .ok (.aload_n 0, 1) := by decide +kernel
theorem nd_Frames_copyWords_9 : decode nb_Frames_copyWords 9 = .ok (.iload_n 2, 1) := by decide +kernel
theorem nd_Frames_copyWords_10 : decode nb_Frames_copyWords 10 = .ok (.bipush 16, 2) := by decide +kernel
theorem nd_Frames_copyWords_12 : decode nb_Frames_copyWords 12 = .ok (.imul, 1) := by decide +kernel
theorem nd_Frames_copyWords_13 : decode nb_Frames_copyWords 13 = .ok (.iload_n 3, 1) := by decide +kernel
theorem nd_Frames_copyWords_14 : decode nb_Frames_copyWords 14 = .ok (.iadd, 1) := by decide +kernel
theorem nd_Frames_copyWords_15 : decode nb_Frames_copyWords 15 = .ok (.aload_n 0, 1) := by decide +kernel
theorem nd_Frames_copyWords_16 : decode nb_Frames_copyWords 16 = .ok (.iload_n 1, 1) := by decide +kernel
theorem nd_Frames_copyWords_17 : decode nb_Frames_copyWords 17 = .ok (.bipush 16, 2) := by decide +kernel
theorem nd_Frames_copyWords_19 : decode nb_Frames_copyWords 19 = .ok (.imul, 1) := by decide +kernel
theorem nd_Frames_copyWords_20 : decode nb_Frames_copyWords 20 = .ok (.iload_n 3, 1) := by decide +kernel
theorem nd_Frames_copyWords_21 : decode nb_Frames_copyWords 21 = .ok (.iadd, 1) := by decide +kernel
theorem nd_Frames_copyWords_22 : decode nb_Frames_copyWords 22 = .ok (.invokevirtual 32, 3) := by decide +kernel
theorem nd_Frames_copyWords_25 : decode nb_Frames_copyWords 25 = .ok (.invokevirtual 28, 3) := by decide +kernel
theorem nd_Frames_copyWords_28 : decode nb_Frames_copyWords 28 = .ok (.iinc 3 1, 3) := by decide +kernel
theorem nd_Frames_copyWords_31 : decode nb_Frames_copyWords 31 = .ok (.goto (-29), 3) := by decide +kernel
theorem nd_Frames_copyWords_34 : decode nb_Frames_copyWords 34 = .ok (.return_, 1) := by decide +kernel
theorem nd_Frames_giveOne_0 : decode nb_Frames_giveOne 0 = .ok (.iconst 0, 1) := by decide +kernel
theorem nd_Frames_giveOne_1 : decode nb_Frames_giveOne 1 = .ok (.istore_n 2, 1) := by decide +kernel
theorem nd_Frames_giveOne_2 : decode nb_Frames_giveOne 2 = .ok (.iload_n 2, 1) := by decide +kernel
theorem nd_Frames_giveOne_3 : decode nb_Frames_giveOne 3 = .ok (.bipush 6, 2) := by decide +kernel
theorem nd_Frames_giveOne_5 : decode nb_Frames_giveOne 5 = .ok (.if_icmp .gt 50, 3) := by decide +kernel
theorem nd_Frames_giveOne_8 : decode nb_Frames_giveOne 8 = .ok (.iconst 0, 1) := by decide +kernel
theorem nd_Frames_giveOne_9 : decode nb_Frames_giveOne 9 = .ok (.istore_n 3, 1) := by decide +kernel
theorem nd_Frames_giveOne_10 : decode nb_Frames_giveOne 10 = .ok (.iload_n 3, 1) := by decide +kernel
theorem nd_Frames_giveOne_11 : decode nb_Frames_giveOne 11 = .ok (.bipush 64, 2) := by decide +kernel
theorem nd_Frames_giveOne_13 : decode nb_Frames_giveOne 13 = .ok (.iload_n 2, 1) := by decide +kernel
theorem nd_Frames_giveOne_14 : decode nb_Frames_giveOne 14 = .ok (.ishr, 1) := by decide +kernel
theorem nd_Frames_giveOne_15 : decode nb_Frames_giveOne 15 = .ok (.if_icmp .ge 34, 3) := by decide +kernel
theorem nd_Frames_giveOne_18 : decode nb_Frames_giveOne 18 = .ok (.iload_n 3, 1) := by decide +kernel
theorem nd_Frames_giveOne_19 : decode nb_Frames_giveOne 19 = .ok (.iload_n 2, 1) := by decide +kernel
theorem nd_Frames_giveOne_20 : decode nb_Frames_giveOne 20 = .ok (.ishl, 1) := by decide +kernel
theorem nd_Frames_giveOne_21 : decode nb_Frames_giveOne 21 = .ok (.istore 4, 2) := by decide +kernel
theorem nd_Frames_giveOne_23 : decode nb_Frames_giveOne 23 = .ok (.aload_n 0, 1) := by decide +kernel
theorem nd_Frames_giveOne_24 : decode nb_Frames_giveOne 24 = .ok (.iload 4, 2) := by decide +kernel
theorem nd_Frames_giveOne_26 : decode nb_Frames_giveOne 26 = .ok (.iload_n 2, 1) := by decide +kernel
theorem nd_Frames_giveOne_27 : decode nb_Frames_giveOne 27 = .ok (.invokevirtual 36, 3) := by decide +kernel
theorem nd_Frames_giveOne_30 : decode nb_Frames_giveOne 30 = .ok (.ifCond .eq 13, 3) := by decide +kernel
theorem nd_Frames_giveOne_33 : decode nb_Frames_giveOne 33 = .ok (.aload_n 0, 1) := by decide +kernel
theorem nd_Frames_giveOne_34 : decode nb_Frames_giveOne 34 = .ok (.iload 4, 2) := by decide +kernel
theorem nd_Frames_giveOne_36 : decode nb_Frames_giveOne 36 = .ok (.iload_n 1, 1) := by decide +kernel
theorem nd_Frames_giveOne_37 : decode nb_Frames_giveOne 37 = .ok (.invokevirtual 40, 3) := by decide +kernel
theorem nd_Frames_giveOne_40 : decode nb_Frames_giveOne 40 = .ok (.iload 4, 2) := by decide +kernel
theorem nd_Frames_giveOne_42 : decode nb_Frames_giveOne 42 = .ok (.ireturn, 1) := by decide +kernel
theorem nd_Frames_giveOne_43 : decode nb_Frames_giveOne 43 = .ok (.iinc 3 1, 3) := by decide +kernel
theorem nd_Frames_giveOne_46 : decode nb_Frames_giveOne 46 = .ok (.goto (-36), 3) := by decide +kernel
theorem nd_Frames_giveOne_49 : decode nb_Frames_giveOne 49 = .ok (.iinc 2 1, 3) := by decide +kernel
theorem nd_Frames_giveOne_52 : decode nb_Frames_giveOne 52 = .ok (.goto (-50), 3) := by decide +kernel
theorem nd_Frames_giveOne_55 : decode nb_Frames_giveOne 55 = .ok (.iconst (-1), 1) := by decide +kernel
theorem nd_Frames_giveOne_56 : decode nb_Frames_giveOne 56 = .ok (.ireturn, 1) := by decide +kernel
theorem nd_Frames_giveTo_0 : decode nb_Frames_giveTo 0 = .ok (.iload_n 1, 1) := by decide +kernel
theorem nd_Frames_giveTo_1 : decode nb_Frames_giveTo 1 = .ok (.invokestatic 24, 3) := by decide +kernel
theorem nd_Frames_giveTo_4 : decode nb_Frames_giveTo 4 = .ok (.ifCond .eq 52, 3) := by decide +kernel
theorem nd_Frames_giveTo_7 : decode nb_Frames_giveTo 7 = .ok (.aload_n 0, 1) := by decide +kernel
theorem nd_Frames_giveTo_8 : decode nb_Frames_giveTo 8 = .ok (.getfield 9, 3) := by decide +kernel
theorem nd_Frames_giveTo_11 : decode nb_Frames_giveTo 11 = .ok (.iload_n 1, 1) := by decide +kernel
theorem nd_Frames_giveTo_12 : decode nb_Frames_giveTo 12 = .ok (.iload_n 2, 1) := by decide +kernel
theorem nd_Frames_giveTo_13 : decode nb_Frames_giveTo 13 = .ok (.iastore, 1) := by decide +kernel
theorem nd_Frames_giveTo_14 : decode nb_Frames_giveTo 14 = .ok (.aload_n 0, 1) := by decide +kernel
theorem nd_Frames_giveTo_15 : decode nb_Frames_giveTo 15 = .ok (.dup, 1) := by decide +kernel
theorem nd_Frames_giveTo_16 : decode nb_Frames_giveTo 16 = .ok (.getfield 20, 3) := by decide +kernel
theorem nd_Frames_giveTo_19 : decode nb_Frames_giveTo 19 = .ok (.lconst 1, 1) := by decide +kernel
theorem nd_Frames_giveTo_20 : decode nb_Frames_giveTo 20 = .ok (.iload_n 1, 1) := by decide +kernel
theorem nd_Frames_giveTo_21 : decode nb_Frames_giveTo 21 = .ok (.lshl, 1) := by decide +kernel
theorem nd_Frames_giveTo_22 : decode nb_Frames_giveTo 22 = .ok (.ldc2_w 18, 3) := by decide +kernel
theorem nd_Frames_giveTo_25 : decode nb_Frames_giveTo 25 = .ok (.lxor, 1) := by decide +kernel
theorem nd_Frames_giveTo_26 : decode nb_Frames_giveTo 26 = .ok (.land, 1) := by decide +kernel
theorem nd_Frames_giveTo_27 : decode nb_Frames_giveTo 27 = .ok (.putfield 20, 3) := by decide +kernel
theorem nd_Frames_giveTo_30 : decode nb_Frames_giveTo 30 = .ok (.iconst 0, 1) := by decide +kernel
theorem nd_Frames_giveTo_31 : decode nb_Frames_giveTo 31 = .ok (.istore_n 3, 1) := by decide +kernel
theorem nd_Frames_giveTo_32 : decode nb_Frames_giveTo 32 = .ok (.iload_n 3, 1) := by decide +kernel
theorem nd_Frames_giveTo_33 : decode nb_Frames_giveTo 33 = .ok (.bipush 16, 2) := by decide +kernel
theorem nd_Frames_giveTo_35 : decode nb_Frames_giveTo 35 = .ok (.if_icmp .ge 21, 3) := by decide +kernel
theorem nd_Frames_giveTo_38 : decode nb_Frames_giveTo 38 = .ok (.aload_n 0, 1) := by decide +kernel
theorem nd_Frames_giveTo_39 : decode nb_Frames_giveTo 39 = .ok (.getfield 15, 3) := by decide +kernel
theorem nd_Frames_giveTo_42 : decode nb_Frames_giveTo 42 = .ok (.iload_n 1, 1) := by decide +kernel
theorem nd_Frames_giveTo_43 : decode nb_Frames_giveTo 43 = .ok (.bipush 16, 2) := by decide +kernel
theorem nd_Frames_giveTo_45 : decode nb_Frames_giveTo 45 = .ok (.imul, 1) := by decide +kernel
theorem nd_Frames_giveTo_46 : decode nb_Frames_giveTo 46 = .ok (.iload_n 3, 1) := by decide +kernel
theorem nd_Frames_giveTo_47 : decode nb_Frames_giveTo 47 = .ok (.iadd, 1) := by decide +kernel
theorem nd_Frames_giveTo_48 : decode nb_Frames_giveTo 48 = .ok (.iconst 0, 1) := by decide +kernel
theorem nd_Frames_giveTo_49 : decode nb_Frames_giveTo 49 = .ok (.iastore, 1) := by decide +kernel
theorem nd_Frames_giveTo_50 : decode nb_Frames_giveTo 50 = .ok (.iinc 3 1, 3) := by decide +kernel
theorem nd_Frames_giveTo_53 : decode nb_Frames_giveTo 53 = .ok (.goto (-21), 3) := by decide +kernel
theorem nd_Frames_giveTo_56 : decode nb_Frames_giveTo 56 = .ok (.return_, 1) := by decide +kernel
theorem nd_Frames_makeFree_0 : decode nb_Frames_makeFree 0 = .ok (.iload_n 1, 1) := by decide +kernel
theorem nd_Frames_makeFree_1 : decode nb_Frames_makeFree 1 = .ok (.invokestatic 24, 3) := by decide +kernel
theorem nd_Frames_makeFree_4 : decode nb_Frames_makeFree 4 = .ok (.ifCond .eq 22, 3) := by decide +kernel
theorem nd_Frames_makeFree_7 : decode nb_Frames_makeFree 7 = .ok (.aload_n 0, 1) := by decide +kernel
theorem nd_Frames_makeFree_8 : decode nb_Frames_makeFree 8 = .ok (.getfield 9, 3) := by decide +kernel
theorem nd_Frames_makeFree_11 : decode nb_Frames_makeFree 11 = .ok (.iload_n 1, 1) := by decide +kernel
theorem nd_Frames_makeFree_12 : decode nb_Frames_makeFree 12 = .ok (.iconst 0, 1) := by decide +kernel
theorem nd_Frames_makeFree_13 : decode nb_Frames_makeFree 13 = .ok (.iastore, 1) := by decide +kernel
theorem nd_Frames_makeFree_14 : decode nb_Frames_makeFree 14 = .ok (.aload_n 0, 1) := by decide +kernel
theorem nd_Frames_makeFree_15 : decode nb_Frames_makeFree 15 = .ok (.dup, 1) := by decide +kernel
theorem nd_Frames_makeFree_16 : decode nb_Frames_makeFree 16 = .ok (.getfield 20, 3) := by decide +kernel
theorem nd_Frames_makeFree_19 : decode nb_Frames_makeFree 19 = .ok (.lconst 1, 1) := by decide +kernel
theorem nd_Frames_makeFree_20 : decode nb_Frames_makeFree 20 = .ok (.iload_n 1, 1) := by decide +kernel
theorem nd_Frames_makeFree_21 : decode nb_Frames_makeFree 21 = .ok (.lshl, 1) := by decide +kernel
theorem nd_Frames_makeFree_22 : decode nb_Frames_makeFree 22 = .ok (.lor, 1) := by decide +kernel
theorem nd_Frames_makeFree_23 : decode nb_Frames_makeFree 23 = .ok (.putfield 20, 3) := by decide +kernel
theorem nd_Frames_makeFree_26 : decode nb_Frames_makeFree 26 = .ok (.return_, 1) := by decide +kernel
theorem nd_Frames_countFree_0 : decode nb_Frames_countFree 0 = .ok (.aload_n 0, 1) := by decide +kernel
theorem nd_Frames_countFree_1 : decode nb_Frames_countFree 1 = .ok (.getfield 20, 3) := by decide +kernel
theorem nd_Frames_countFree_4 : decode nb_Frames_countFree 4 = .ok (.invokestatic 43, 3) := by decide +kernel
theorem nd_Frames_countFree_7 : decode nb_Frames_countFree 7 = .ok (.ireturn, 1) := by decide +kernel
theorem nd_Frames_countOwned_0 : decode nb_Frames_countOwned 0 = .ok (.iconst 0, 1) := by decide +kernel
theorem nd_Frames_countOwned_1 : decode nb_Frames_countOwned 1 = .ok (.istore 4, 2) := by decide +kernel
theorem nd_Frames_countOwned_3 : decode nb_Frames_countOwned 3 = .ok (.iload_n 2, 1) := by decide +kernel
theorem nd_Frames_countOwned_4 : decode nb_Frames_countOwned 4 = .ok (.istore 5, 2) := by decide +kernel
theorem nd_Frames_countOwned_6 : decode nb_Frames_countOwned 6 = .ok (.iload 5, 2) := by decide +kernel
theorem nd_Frames_countOwned_8 : decode nb_Frames_countOwned 8 = .ok (.iload_n 2, 1) := by decide +kernel
theorem nd_Frames_countOwned_9 : decode nb_Frames_countOwned 9 = .ok (.iload_n 3, 1) := by decide +kernel
theorem nd_Frames_countOwned_10 : decode nb_Frames_countOwned 10 = .ok (.iadd, 1) := by decide +kernel
theorem nd_Frames_countOwned_11 : decode nb_Frames_countOwned 11 = .ok (.if_icmp .ge 22, 3) := by decide +kernel
theorem nd_Frames_countOwned_14 : decode nb_Frames_countOwned 14 = .ok (.aload_n 0, 1) := by decide +kernel
theorem nd_Frames_countOwned_15 : decode nb_Frames_countOwned 15 = .ok (.iload 5, 2) := by decide +kernel
theorem nd_Frames_countOwned_17 : decode nb_Frames_countOwned 17 = .ok (.invokevirtual 49, 3) := by decide +kernel
theorem nd_Frames_countOwned_20 : decode nb_Frames_countOwned 20 = .ok (.iload_n 1, 1) := by decide +kernel
theorem nd_Frames_countOwned_21 : decode nb_Frames_countOwned 21 = .ok (.if_icmp .ne 6, 3) := by decide +kernel
theorem nd_Frames_countOwned_24 : decode nb_Frames_countOwned 24 = .ok (.iinc 4 1, 3) := by decide +kernel
theorem nd_Frames_countOwned_27 : decode nb_Frames_countOwned 27 = .ok (.iinc 5 1, 3) := by decide +kernel
theorem nd_Frames_countOwned_30 : decode nb_Frames_countOwned 30 = .ok (.goto (-24), 3) := by decide +kernel
theorem nd_Frames_countOwned_33 : decode nb_Frames_countOwned 33 = .ok (.iload 4, 2) := by decide +kernel
theorem nd_Frames_countOwned_35 : decode nb_Frames_countOwned 35 = .ok (.ireturn, 1) := by decide +kernel
theorem nd_Frames_countFreeBlocks_0 : decode nb_Frames_countFreeBlocks 0 = .ok (.iconst 0, 1) := by decide +kernel
theorem nd_Frames_countFreeBlocks_1 : decode nb_Frames_countFreeBlocks 1 = .ok (.istore_n 2, 1) := by decide +kernel
theorem nd_Frames_countFreeBlocks_2 : decode nb_Frames_countFreeBlocks 2 = .ok (.iconst 0, 1) := by decide +kernel
theorem nd_Frames_countFreeBlocks_3 : decode nb_Frames_countFreeBlocks 3 = .ok (.istore_n 3, 1) := by decide +kernel
theorem nd_Frames_countFreeBlocks_4 : decode nb_Frames_countFreeBlocks 4 = .ok (.iload_n 3, 1) := by decide +kernel
theorem nd_Frames_countFreeBlocks_5 : decode nb_Frames_countFreeBlocks 5 = .ok (.bipush 64, 2) := by decide +kernel
theorem nd_Frames_countFreeBlocks_7 : decode nb_Frames_countFreeBlocks 7 = .ok (.iload_n 1, 1) := by decide +kernel
theorem nd_Frames_countFreeBlocks_8 : decode nb_Frames_countFreeBlocks 8 = .ok (.ishr, 1) := by decide +kernel
theorem nd_Frames_countFreeBlocks_9 : decode nb_Frames_countFreeBlocks 9 = .ok (.if_icmp .ge 23, 3) := by decide +kernel
theorem nd_Frames_countFreeBlocks_12 : decode nb_Frames_countFreeBlocks 12 = .ok (.aload_n 0, 1) := by decide +kernel
theorem nd_Frames_countFreeBlocks_13 : decode nb_Frames_countFreeBlocks 13 = .ok (.iload_n 3, 1) := by decide +kernel
theorem nd_Frames_countFreeBlocks_14 : decode nb_Frames_countFreeBlocks 14 = .ok (.iload_n 1, 1) := by decide +kernel
theorem nd_Frames_countFreeBlocks_15 : decode nb_Frames_countFreeBlocks 15 = .ok (.ishl, 1) := by decide +kernel
theorem nd_Frames_countFreeBlocks_16 : decode nb_Frames_countFreeBlocks 16 = .ok (.iload_n 1, 1) := by decide +kernel
theorem nd_Frames_countFreeBlocks_17 : decode nb_Frames_countFreeBlocks 17 = .ok (.invokevirtual 36, 3) := by decide +kernel
theorem nd_Frames_countFreeBlocks_20 : decode nb_Frames_countFreeBlocks 20 = .ok (.ifCond .eq 6, 3) := by decide +kernel
theorem nd_Frames_countFreeBlocks_23 : decode nb_Frames_countFreeBlocks 23 = .ok (.iinc 2 1, 3) := by decide +kernel
theorem nd_Frames_countFreeBlocks_26 : decode nb_Frames_countFreeBlocks 26 = .ok (.iinc 3 1, 3) := by decide +kernel
theorem nd_Frames_countFreeBlocks_29 : decode nb_Frames_countFreeBlocks 29 = .ok (.goto (-25), 3) := by decide +kernel
theorem nd_Frames_countFreeBlocks_32 : decode nb_Frames_countFreeBlocks 32 = .ok (.iload_n 2, 1) := by decide +kernel
theorem nd_Frames_countFreeBlocks_33 : decode nb_Frames_countFreeBlocks 33 = .ok (.ireturn, 1) := by decide +kernel
theorem nd_Frames_isFreeBlock_0 : decode nb_Frames_isFreeBlock 0 = .ok (.aload_n 0, 1) := by decide +kernel
theorem nd_Frames_isFreeBlock_1 : decode nb_Frames_isFreeBlock 1 = .ok (.iload_n 1, 1) := by decide +kernel
theorem nd_Frames_isFreeBlock_2 : decode nb_Frames_isFreeBlock 2 = .ok (.iload_n 2, 1) := by decide +kernel
theorem nd_Frames_isFreeBlock_3 : decode nb_Frames_isFreeBlock 3 = .ok (.invokevirtual 52, 3) := by decide +kernel
theorem nd_Frames_isFreeBlock_6 : decode nb_Frames_isFreeBlock 6 = .ok (.ifCond .ne 5, 3) := by decide +kernel
theorem nd_Frames_isFreeBlock_9 : decode nb_Frames_isFreeBlock 9 = .ok (.iconst 0, 1) := by decide +kernel
theorem nd_Frames_isFreeBlock_10 : decode nb_Frames_isFreeBlock 10 = .ok (.ireturn, 1) := by decide +kernel
theorem nd_Frames_isFreeBlock_11 : decode nb_Frames_isFreeBlock 11 = .ok (.iload_n 2, 1) := by decide +kernel
theorem nd_Frames_isFreeBlock_12 : decode nb_Frames_isFreeBlock 12 = .ok (.iconst 1, 1) := by decide +kernel
theorem nd_Frames_isFreeBlock_13 : decode nb_Frames_isFreeBlock 13 = .ok (.iadd, 1) := by decide +kernel
theorem nd_Frames_isFreeBlock_14 : decode nb_Frames_isFreeBlock 14 = .ok (.istore_n 3, 1) := by decide +kernel
theorem nd_Frames_isFreeBlock_15 : decode nb_Frames_isFreeBlock 15 = .ok (.iload_n 2, 1) := by decide +kernel
theorem nd_Frames_isFreeBlock_16 : decode nb_Frames_isFreeBlock 16 = .ok (.bipush 6, 2) := by decide +kernel
theorem nd_Frames_isFreeBlock_18 : decode nb_Frames_isFreeBlock 18 = .ok (.if_icmp .eq 16, 3) := by decide +kernel
theorem nd_Frames_isFreeBlock_21 : decode nb_Frames_isFreeBlock 21 = .ok (.aload_n 0, 1) := by decide +kernel
theorem nd_Frames_isFreeBlock_22 : decode nb_Frames_isFreeBlock 22 = .ok (.iload_n 1, 1) := by decide +kernel
theorem nd_Frames_isFreeBlock_23 : decode nb_Frames_isFreeBlock 23 = .ok (.iload_n 3, 1) := by decide +kernel
theorem nd_Frames_isFreeBlock_24 : decode nb_Frames_isFreeBlock 24 = .ok (.ishr, 1) := by decide +kernel
theorem nd_Frames_isFreeBlock_25 : decode nb_Frames_isFreeBlock 25 = .ok (.iload_n 3, 1) := by decide +kernel
theorem nd_Frames_isFreeBlock_26 : decode nb_Frames_isFreeBlock 26 = .ok (.ishl, 1) := by decide +kernel
theorem nd_Frames_isFreeBlock_27 : decode nb_Frames_isFreeBlock 27 = .ok (.iload_n 3, 1) := by decide +kernel
theorem nd_Frames_isFreeBlock_28 : decode nb_Frames_isFreeBlock 28 = .ok (.invokevirtual 52, 3) := by decide +kernel
theorem nd_Frames_isFreeBlock_31 : decode nb_Frames_isFreeBlock 31 = .ok (.ifCond .ne 7, 3) := by decide +kernel
theorem nd_Frames_isFreeBlock_34 : decode nb_Frames_isFreeBlock 34 = .ok (.iconst 1, 1) := by decide +kernel
theorem nd_Frames_isFreeBlock_35 : decode nb_Frames_isFreeBlock 35 = .ok (.goto 4, 3) := by decide +kernel
theorem nd_Frames_isFreeBlock_38 : decode nb_Frames_isFreeBlock 38 = .ok (.iconst 0, 1) := by decide +kernel
theorem nd_Frames_isFreeBlock_39 : decode nb_Frames_isFreeBlock 39 = .ok (.ireturn, 1) := by decide +kernel
theorem nd_Frames_isAllFree_0 : decode nb_Frames_isAllFree 0 = .ok (.ldc2_w 18, 3) := by decide +kernel
theorem nd_Frames_isAllFree_3 : decode nb_Frames_isAllFree 3 = .ok (.bipush 64, 2) := by decide +kernel
theorem nd_Frames_isAllFree_5 : decode nb_Frames_isAllFree 5 = .ok (.iconst 1, 1) := by decide +kernel
theorem nd_Frames_isAllFree_6 : decode nb_Frames_isAllFree 6 = .ok (.iload_n 2, 1) := by decide +kernel
theorem nd_Frames_isAllFree_7 : decode nb_Frames_isAllFree 7 = .ok (.ishl, 1) := by decide +kernel
theorem nd_Frames_isAllFree_8 : decode nb_Frames_isAllFree 8 = .ok (.isub, 1) := by decide +kernel
theorem nd_Frames_isAllFree_9 : decode nb_Frames_isAllFree 9 = .ok (.lushr, 1) := by decide +kernel
theorem nd_Frames_isAllFree_10 : decode nb_Frames_isAllFree 10 = .ok (.iload_n 1, 1) := by decide +kernel
theorem nd_Frames_isAllFree_11 : decode nb_Frames_isAllFree 11 = .ok (.lshl, 1) := by decide +kernel
theorem nd_Frames_isAllFree_12 : decode nb_Frames_isAllFree 12 = .ok (.lstore_n 3, 1) := by decide +kernel
theorem nd_Frames_isAllFree_13 : decode nb_Frames_isAllFree 13 = .ok (.aload_n 0, 1) := by decide +kernel
theorem nd_Frames_isAllFree_14 : decode nb_Frames_isAllFree 14 = .ok (.getfield 20, 3) := by decide +kernel
theorem nd_Frames_isAllFree_17 : decode nb_Frames_isAllFree 17 = .ok (.lload_n 3, 1) := by decide +kernel
theorem nd_Frames_isAllFree_18 : decode nb_Frames_isAllFree 18 = .ok (.land, 1) := by decide +kernel
theorem nd_Frames_isAllFree_19 : decode nb_Frames_isAllFree 19 = .ok (.lload_n 3, 1) := by decide +kernel
theorem nd_Frames_isAllFree_20 : decode nb_Frames_isAllFree 20 = .ok (.lcmp, 1) := by decide +kernel
theorem nd_Frames_isAllFree_21 : decode nb_Frames_isAllFree 21 = .ok (.ifCond .ne 7, 3) := by decide +kernel
theorem nd_Frames_isAllFree_24 : decode nb_Frames_isAllFree 24 = .ok (.iconst 1, 1) := by decide +kernel
theorem nd_Frames_isAllFree_25 : decode nb_Frames_isAllFree 25 = .ok (.goto 4, 3) := by decide +kernel
theorem nd_Frames_isAllFree_28 : decode nb_Frames_isAllFree 28 = .ok (.iconst 0, 1) := by decide +kernel
theorem nd_Frames_isAllFree_29 : decode nb_Frames_isAllFree 29 = .ok (.ireturn, 1) := by decide +kernel
theorem nd_Ranges_init_0 : decode nb_Ranges_init 0 = .ok (.aload_n 0, 1) := by decide +kernel
theorem nd_Ranges_init_1 : decode nb_Ranges_init 1 = .ok (.invokespecial 3, 3) := by decide +kernel
theorem nd_Ranges_init_4 : decode nb_Ranges_init 4 = .ok (.aload_n 0, 1) := by decide +kernel
theorem nd_Ranges_init_5 : decode nb_Ranges_init 5 = .ok (.bipush 64, 2) := by decide +kernel
theorem nd_Ranges_init_7 : decode nb_Ranges_init 7 = .ok (.newarray .int, 2) := by decide +kernel
theorem nd_Ranges_init_9 : decode nb_Ranges_init 9 = .ok (.putfield 9, 3) := by decide +kernel
theorem nd_Ranges_init_12 : decode nb_Ranges_init 12 = .ok (.aload_n 0, 1) := by decide +kernel
theorem nd_Ranges_init_13 : decode nb_Ranges_init 13 = .ok (.bipush 64, 2) := by decide +kernel
theorem nd_Ranges_init_15 : decode nb_Ranges_init 15 = .ok (.newarray .int, 2) := by decide +kernel
theorem nd_Ranges_init_17 : decode nb_Ranges_init 17 = .ok (.putfield 15, 3) := by decide +kernel
theorem nd_Ranges_init_20 : decode nb_Ranges_init 20 = .ok (.aload_n 0, 1) := by decide +kernel
theorem nd_Ranges_init_21 : decode nb_Ranges_init 21 = .ok (.aload_n 1, 1) := by decide +kernel
theorem nd_Ranges_init_22 : decode nb_Ranges_init 22 = .ok (.putfield 18, 3) := by decide +kernel
theorem nd_Ranges_init_25 : decode nb_Ranges_init 25 = .ok (.return_, 1) := by decide +kernel
theorem nd_Ranges_add_0 : decode nb_Ranges_add 0 = .ok (.aload_n 0, 1) := by decide +kernel
theorem nd_Ranges_add_1 : decode nb_Ranges_add 1 = .ok (.iload_n 1, 1) := by decide +kernel
theorem nd_Ranges_add_2 : decode nb_Ranges_add 2 = .ok (.invokevirtual 22, 3) := by decide +kernel
theorem nd_Ranges_add_5 : decode nb_Ranges_add 5 = .ok (.istore_n 2, 1) := by decide +kernel
theorem nd_Ranges_add_6 : decode nb_Ranges_add 6 = .ok (.iload_n 2, 1) := by decide +kernel
theorem nd_Ranges_add_7 : decode nb_Ranges_add 7 = .ok (.iconst (-1), 1) := by decide +kernel
theorem nd_Ranges_add_8 : decode nb_Ranges_add 8 = .ok (.if_icmp .eq 14, 3) := by decide +kernel
theorem nd_Ranges_add_11 : decode nb_Ranges_add 11 = .ok (.aload_n 0, 1) := by decide +kernel
theorem nd_Ranges_add_12 : decode nb_Ranges_add 12 = .ok (.getfield 18, 3) := by decide +kernel
theorem nd_Ranges_add_15 : decode nb_Ranges_add 15 = .ok (.invokevirtual 26, 3) := by decide +kernel
theorem nd_Ranges_add_18 : decode nb_Ranges_add 18 = .ok (.iload_n 1, 1) := by decide +kernel
theorem nd_Ranges_add_19 : decode nb_Ranges_add 19 = .ok (.if_icmp .ge 5, 3) := by decide +kernel
theorem nd_Ranges_add_22 : decode nb_Ranges_add 22 = .ok (.iconst (-1), 1) := by decide +kernel
theorem nd_Ranges_add_23 : decode nb_Ranges_add 23 = .ok (.ireturn, 1) := by decide +kernel
theorem nd_Ranges_add_24 : decode nb_Ranges_add 24 = .ok (.iload_n 2, 1) := by decide +kernel
theorem nd_Ranges_add_25 : decode nb_Ranges_add 25 = .ok (.istore_n 3, 1) := by decide +kernel
theorem nd_Ranges_add_26 : decode nb_Ranges_add 26 = .ok (.iload_n 3, 1) := by decide +kernel
theorem nd_Ranges_add_27 : decode nb_Ranges_add 27 = .ok (.iload_n 2, 1) := by decide +kernel
theorem nd_Ranges_add_28 : decode nb_Ranges_add 28 = .ok (.iload_n 1, 1) := by decide +kernel
theorem nd_Ranges_add_29 : decode nb_Ranges_add 29 = .ok (.iadd, 1) := by decide +kernel
theorem nd_Ranges_add_30 : decode nb_Ranges_add 30 = .ok (.if_icmp .ge 25, 3) := by decide +kernel
theorem nd_Ranges_add_33 : decode nb_Ranges_add 33 = .ok (.aload_n 0, 1) := by decide +kernel
theorem nd_Ranges_add_34 : decode nb_Ranges_add 34 = .ok (.getfield 9, 3) := by decide +kernel
theorem nd_Ranges_add_37 : decode nb_Ranges_add 37 = .ok (.iload_n 3, 1) := by decide +kernel
theorem nd_Ranges_add_38 : decode nb_Ranges_add 38 = .ok (.iconst 1, 1) := by decide +kernel
theorem nd_Ranges_add_39 : decode nb_Ranges_add 39 = .ok (.aload_n 0, 1) := by decide +kernel
theorem nd_Ranges_add_40 : decode nb_Ranges_add 40 = .ok (.getfield 18, 3) := by decide +kernel
theorem nd_Ranges_add_43 : decode nb_Ranges_add 43 = .ok (.iconst 3, 1) := by decide +kernel
theorem nd_Ranges_add_44 : decode nb_Ranges_add 44 = .ok (.invokevirtual 32, 3) := by decide +kernel
theorem nd_Ranges_add_47 : decode nb_Ranges_add 47 = .ok (.iadd, 1) := by decide +kernel
theorem nd_Ranges_add_48 : decode nb_Ranges_add 48 = .ok (.iastore, 1) := by decide +kernel
theorem nd_Ranges_add_49 : decode nb_Ranges_add 49 = .ok (.iinc 3 1, 3) := by decide +kernel
theorem nd_Ranges_add_52 : decode nb_Ranges_add 52 = .ok (.goto (-26), 3) := by decide +kernel
theorem nd_Ranges_add_55 : decode nb_Ranges_add 55 = .ok (.aload_n 0, 1) := by decide +kernel
theorem nd_Ranges_add_56 : decode nb_Ranges_add 56 = .ok (.getfield 15, 3) := by decide +kernel
theorem nd_Ranges_add_59 : decode nb_Ranges_add 59 = .ok (.iload_n 2, 1) := by decide +kernel
theorem nd_Ranges_add_60 : decode nb_Ranges_add 60 = .ok (.iload_n 1, 1) := by decide +kernel
theorem nd_Ranges_add_61 : decode nb_Ranges_add 61 = .ok (.iastore, 1) := by decide +kernel
theorem nd_Ranges_add_62 : decode nb_Ranges_add 62 = .ok (.iload_n 2, 1) := by decide +kernel
theorem nd_Ranges_add_63 : decode nb_Ranges_add 63 = .ok (.bipush 16, 2) := by decide +kernel
theorem nd_Ranges_add_65 : decode nb_Ranges_add 65 = .ok (.imul, 1) := by decide +kernel
theorem nd_Ranges_add_66 : decode nb_Ranges_add 66 = .ok (.ireturn, 1) := by decide +kernel
theorem nd_Ranges_remove_0 : decode nb_Ranges_remove 0 = .ok (.iload_n 1, 1) := by decide +kernel
theorem nd_Ranges_remove_1 : decode nb_Ranges_remove 1 = .ok (.ifCond .lt 17, 3) := by decide +kernel
theorem nd_Ranges_remove_4 : decode nb_Ranges_remove 4 = .ok (.iload_n 1, 1) := by decide +kernel
theorem nd_Ranges_remove_5 : decode nb_Ranges_remove 5 = .ok (.sipush 1024, 3) := by decide +kernel
theorem nd_Ranges_remove_8 : decode nb_Ranges_remove 8 = .ok (.if_icmp .ge 10, 3) := by decide +kernel
theorem nd_Ranges_remove_11 : decode nb_Ranges_remove 11 = .ok (.iload_n 1, 1) := by decide +kernel
theorem nd_Ranges_remove_12 : decode nb_Ranges_remove 12 = .ok (.bipush 16, 2) := by decide +kernel
theorem nd_Ranges_remove_14 : decode nb_Ranges_remove 14 = .ok (.irem, 1) := by decide +kernel
theorem nd_Ranges_remove_15 : decode nb_Ranges_remove 15 = .ok (.ifCond .eq 5, 3) := by decide +kernel
theorem nd_Ranges_remove_18 : decode nb_Ranges_remove 18 = .ok (.iconst (-1), 1) := by decide +kernel
theorem nd_Ranges_remove_19 : decode nb_Ranges_remove 19 = .ok (.ireturn, 1) := by decide +kernel
theorem nd_Ranges_remove_20 : decode nb_Ranges_remove 20 = .ok (.iload_n 1, 1) := by decide +kernel
theorem nd_Ranges_remove_21 : decode nb_Ranges_remove 21 = .ok (.bipush 16, 2) := by decide +kernel
theorem nd_Ranges_remove_23 : decode nb_Ranges_remove 23 = .ok (.idiv, 1) := by decide +kernel
theorem nd_Ranges_remove_24 : decode nb_Ranges_remove 24 = .ok (.istore_n 2, 1) := by decide +kernel
theorem nd_Ranges_remove_25 : decode nb_Ranges_remove 25 = .ok (.aload_n 0, 1) := by decide +kernel
theorem nd_Ranges_remove_26 : decode nb_Ranges_remove 26 = .ok (.getfield 15, 3) := by decide +kernel
theorem nd_Ranges_remove_29 : decode nb_Ranges_remove 29 = .ok (.iload_n 2, 1) := by decide +kernel
theorem nd_Ranges_remove_30 : decode nb_Ranges_remove 30 = .ok (.iaload, 1) := by decide +kernel
theorem nd_Ranges_remove_31 : decode nb_Ranges_remove 31 = .ok (.istore_n 3, 1) := by decide +kernel
theorem nd_Ranges_remove_32 : decode nb_Ranges_remove 32 = .ok (.iload_n 3, 1) := by decide +kernel
theorem nd_Ranges_remove_33 : decode nb_Ranges_remove 33 = .ok (.ifCond .ne 5, 3) := by decide +kernel
theorem nd_Ranges_remove_36 : decode nb_Ranges_remove 36 = .ok (.iconst (-1), 1) := by decide +kernel
theorem nd_Ranges_remove_37 : decode nb_Ranges_remove 37 = .ok (.ireturn, 1) := by decide +kernel
theorem nd_Ranges_remove_38 : decode nb_Ranges_remove 38 = .ok (.iload_n 2, 1) := by decide +kernel
theorem nd_Ranges_remove_39 : decode nb_Ranges_remove 39 = .ok (.istore 4, 2) := by decide +kernel
theorem nd_Ranges_remove_41 : decode nb_Ranges_remove 41 = .ok (.iload 4, 2) := by decide +kernel
theorem nd_Ranges_remove_43 : decode nb_Ranges_remove 43 = .ok (.iload_n 2, 1) := by decide +kernel
theorem nd_Ranges_remove_44 : decode nb_Ranges_remove 44 = .ok (.iload_n 3, 1) := by decide +kernel
theorem nd_Ranges_remove_45 : decode nb_Ranges_remove 45 = .ok (.iadd, 1) := by decide +kernel
theorem nd_Ranges_remove_46 : decode nb_Ranges_remove 46 = .ok (.if_icmp .ge 33, 3) := by decide +kernel
theorem nd_Ranges_remove_49 : decode nb_Ranges_remove 49 = .ok (.aload_n 0, 1) := by decide +kernel
theorem nd_Ranges_remove_50 : decode nb_Ranges_remove 50 = .ok (.getfield 18, 3) := by decide +kernel
theorem nd_Ranges_remove_53 : decode nb_Ranges_remove 53 = .ok (.aload_n 0, 1) := by decide +kernel
theorem nd_Ranges_remove_54 : decode nb_Ranges_remove 54 = .ok (.getfield 9, 3) := by decide +kernel
theorem nd_Ranges_remove_57 : decode nb_Ranges_remove 57 = .ok (.iload 4, 2) := by decide +kernel
theorem nd_Ranges_remove_59 : decode nb_Ranges_remove 59 = .ok (.iaload, 1) := by decide +kernel
theorem nd_Ranges_remove_60 : decode nb_Ranges_remove 60 = .ok (.iconst 1, 1) := by decide +kernel
theorem nd_Ranges_remove_61 : decode nb_Ranges_remove 61 = .ok (.isub, 1) := by decide +kernel
theorem nd_Ranges_remove_62 : decode nb_Ranges_remove 62 = .ok (.invokevirtual 35, 3) := by decide +kernel
theorem nd_Ranges_remove_65 : decode nb_Ranges_remove 65 = .ok (.aload_n 0, 1) := by decide +kernel
theorem nd_Ranges_remove_66 : decode nb_Ranges_remove 66 = .ok (.getfield 9, 3) := by decide +kernel
theorem nd_Ranges_remove_69 : decode nb_Ranges_remove 69 = .ok (.iload 4, 2) := by decide +kernel
theorem nd_Ranges_remove_71 : decode nb_Ranges_remove 71 = .ok (.iconst 0, 1) := by decide +kernel
theorem nd_Ranges_remove_72 : decode nb_Ranges_remove 72 = .ok (.iastore, 1) := by decide +kernel
theorem nd_Ranges_remove_73 : decode nb_Ranges_remove 73 = .ok (.iinc 4 1, 3) := by decide +kernel
theorem nd_Ranges_remove_76 : decode nb_Ranges_remove 76 = .ok (.goto (-35), 3) := by decide +kernel
theorem nd_Ranges_remove_79 : decode nb_Ranges_remove 79 = .ok (.aload_n 0, 1) := by decide +kernel
theorem nd_Ranges_remove_80 : decode nb_Ranges_remove 80 = .ok (.getfield 15, 3) := by decide +kernel
theorem nd_Ranges_remove_83 : decode nb_Ranges_remove 83 = .ok (.iload_n 2, 1) := by decide +kernel
theorem nd_Ranges_remove_84 : decode nb_Ranges_remove 84 = .ok (.iconst 0, 1) := by decide +kernel
theorem nd_Ranges_remove_85 : decode nb_Ranges_remove 85 = .ok (.iastore, 1) := by decide +kernel
theorem nd_Ranges_remove_86 : decode nb_Ranges_remove 86 = .ok (.iload_n 3, 1) := by decide +kernel
theorem nd_Ranges_remove_87 : decode nb_Ranges_remove 87 = .ok (.ireturn, 1) := by decide +kernel
theorem nd_Ranges_frameOf_0 : decode nb_Ranges_frameOf 0 = .ok (.iload_n 1, 1) := by decide +kernel
theorem nd_Ranges_frameOf_1 : decode nb_Ranges_frameOf 1 = .ok (.ifCond .lt 20, 3) := by decide +kernel
theorem nd_Ranges_frameOf_4 : decode nb_Ranges_frameOf 4 = .ok (.iload_n 1, 1) := by decide +kernel
theorem nd_Ranges_frameOf_5 : decode nb_Ranges_frameOf 5 = .ok (.bipush 64, 2) := by decide +kernel
theorem nd_Ranges_frameOf_7 : decode nb_Ranges_frameOf 7 = .ok (.if_icmp .ge 14, 3) := by decide +kernel
theorem nd_Ranges_frameOf_10 : decode nb_Ranges_frameOf 10 = .ok (.aload_n 0, 1) := by decide +kernel
theorem nd_Ranges_frameOf_11 : decode nb_Ranges_frameOf 11 = .ok (.getfield 9, 3) := by decide +kernel
theorem nd_Ranges_frameOf_14 : decode nb_Ranges_frameOf 14 = .ok (.iload_n 1, 1) := by decide +kernel
theorem nd_Ranges_frameOf_15 : decode nb_Ranges_frameOf 15 = .ok (.iaload, 1) := by decide +kernel
theorem nd_Ranges_frameOf_16 : decode nb_Ranges_frameOf 16 = .ok (.iconst 1, 1) := by decide +kernel
theorem nd_Ranges_frameOf_17 : decode nb_Ranges_frameOf 17 = .ok (.isub, 1) := by decide +kernel
theorem nd_Ranges_frameOf_18 : decode nb_Ranges_frameOf 18 = .ok (.goto 4, 3) := by decide +kernel
theorem nd_Ranges_frameOf_21 : decode nb_Ranges_frameOf 21 = .ok (.iconst (-1), 1) := by decide +kernel
theorem nd_Ranges_frameOf_22 : decode nb_Ranges_frameOf 22 = .ok (.ireturn, 1) := by decide +kernel
theorem nd_Ranges_placeAt_0 : decode nb_Ranges_placeAt 0 = .ok (.aload_n 0, 1) := by decide +kernel
theorem nd_Ranges_placeAt_1 : decode nb_Ranges_placeAt 1 = .ok (.iload_n 1, 1) := by decide +kernel
theorem nd_Ranges_placeAt_2 : decode nb_Ranges_placeAt 2 = .ok (.bipush 16, 2) := by decide +kernel
theorem nd_Ranges_placeAt_4 : decode nb_Ranges_placeAt 4 = .ok (.invokestatic 39, 3) := by decide +kernel
theorem nd_Ranges_placeAt_7 : decode nb_Ranges_placeAt 7 = .ok (.invokevirtual 45, 3) := by decide +kernel
theorem nd_Ranges_placeAt_10 : decode nb_Ranges_placeAt 10 = .ok (.istore_n 2, 1) := by decide +kernel
theorem nd_Ranges_placeAt_11 : decode nb_Ranges_placeAt 11 = .ok (.iload_n 2, 1) := by decide +kernel
theorem nd_Ranges_placeAt_12 : decode nb_Ranges_placeAt 12 = .ok (.iconst (-1), 1) := by decide +kernel
theorem nd_Ranges_placeAt_13 : decode nb_Ranges_placeAt 13 = .ok (.if_icmp .ne 7, 3) := by decide +kernel
theorem nd_Ranges_placeAt_16 : decode nb_Ranges_placeAt 16 = .ok (.iconst (-1), 1) := by decide +kernel
theorem nd_Ranges_placeAt_17 : decode nb_Ranges_placeAt 17 = .ok (.goto 14, 3) := by decide +kernel
theorem nd_Ranges_placeAt_20 : decode nb_Ranges_placeAt 20 = .ok (.iload_n 2, 1) := by decide +kernel
theorem nd_Ranges_placeAt_21 : decode nb_Ranges_placeAt 21 = .ok (.bipush 16, 2) := by decide +kernel
theorem nd_Ranges_placeAt_23 : decode nb_Ranges_placeAt 23 = .ok (.imul, 1) := by decide +kernel
theorem nd_Ranges_placeAt_24 : decode nb_Ranges_placeAt 24 = .ok (.iload_n 1, 1) := by decide +kernel
theorem nd_Ranges_placeAt_25 : decode nb_Ranges_placeAt 25 = .ok (.bipush 16, 2) := by decide +kernel
theorem nd_Ranges_placeAt_27 : decode nb_Ranges_placeAt 27 = .ok (.invokestatic 48, 3) := by decide +kernel
theorem nd_Ranges_placeAt_30 : decode nb_Ranges_placeAt 30 = .ok (.iadd, 1) := by decide +kernel
theorem nd_Ranges_placeAt_31 : decode nb_Ranges_placeAt 31 = .ok (.ireturn, 1) := by decide +kernel
theorem nd_Ranges_lowestRoom_0 : decode nb_Ranges_lowestRoom 0 = .ok (.iconst 0, 1) := by decide +kernel
theorem nd_Ranges_lowestRoom_1 : decode nb_Ranges_lowestRoom 1 = .ok (.istore_n 2, 1) := by decide +kernel
theorem nd_Ranges_lowestRoom_2 : decode nb_Ranges_lowestRoom 2 = .ok (.iconst 0, 1) := by decide +kernel
theorem nd_Ranges_lowestRoom_3 : decode nb_Ranges_lowestRoom 3 = .ok (.istore_n 3, 1) := by decide +kernel
theorem nd_Ranges_lowestRoom_4 : decode nb_Ranges_lowestRoom 4 = .ok (.iload_n 3, 1) := by decide +kernel
theorem nd_Ranges_lowestRoom_5 : decode nb_Ranges_lowestRoom 5 = .ok (.bipush 64, 2) := by decide +kernel
theorem nd_Ranges_lowestRoom_7 : decode nb_Ranges_lowestRoom 7 = .ok (.if_icmp .ge 37, 3) := by decide +kernel
theorem nd_Ranges_lowestRoom_10 : decode nb_Ranges_lowestRoom 10 = .ok (.aload_n 0, 1) := by decide +kernel
theorem nd_Ranges_lowestRoom_11 : decode nb_Ranges_lowestRoom 11 = .ok (.getfield 9, 3) := by decide +kernel
theorem nd_Ranges_lowestRoom_14 : decode nb_Ranges_lowestRoom 14 = .ok (.iload_n 3, 1) := by decide +kernel
theorem nd_Ranges_lowestRoom_15 : decode nb_Ranges_lowestRoom 15 = .ok (.iaload, 1) := by decide +kernel
theorem nd_Ranges_lowestRoom_16 : decode nb_Ranges_lowestRoom 16 = .ok (.ifCond .ne 9, 3) := by decide +kernel
theorem nd_Ranges_lowestRoom_19 : decode nb_Ranges_lowestRoom 19 = .ok (.iload_n 2, 1) := by decide +kernel
theorem nd_Ranges_lowestRoom_20 : decode nb_Ranges_lowestRoom 20 = .ok (.iconst 1, 1) := by decide +kernel
theorem nd_Ranges_lowestRoom_21 : decode nb_Ranges_lowestRoom 21 = .ok (.iadd, 1) := by decide +kernel
theorem nd_Ranges_lowestRoom_22 : decode nb_Ranges_lowestRoom 22 = .ok (.goto 4, 3) := by decide +kernel
theorem nd_Ranges_lowestRoom_25 : decode nb_Ranges_lowestRoom 25 = .ok (.iconst 0, 1) := by decide +kernel
theorem nd_Ranges_lowestRoom_26 : decode nb_Ranges_lowestRoom 26 = .ok (.istore_n 2, 1) := by decide +kernel
theorem nd_Ranges_lowestRoom_27 : decode nb_Ranges_lowestRoom 27 = .ok (.iload_n 2, 1) := by decide +kernel
theorem nd_Ranges_lowestRoom_28 : decode nb_Ranges_lowestRoom 28 = .ok (.iload_n 1, 1) := by decide +kernel
theorem nd_Ranges_lowestRoom_29 : decode nb_Ranges_lowestRoom 29 = .ok (.if_icmp .ne 9, 3) := by decide +kernel
theorem nd_Ranges_lowestRoom_32 : decode nb_Ranges_lowestRoom 32 = .ok (.iload_n 3, 1) := by decide +kernel
theorem nd_Ranges_lowestRoom_33 : decode nb_Ranges_lowestRoom 33 = .ok (.iload_n 1, 1) := by decide +kernel
theorem nd_Ranges_lowestRoom_34 : decode nb_Ranges_lowestRoom 34 = .ok (.isub, 1) := by decide +kernel
theorem nd_Ranges_lowestRoom_35 : decode nb_Ranges_lowestRoom 35 = .ok (.iconst 1, 1) := by decide +kernel
theorem nd_Ranges_lowestRoom_36 : decode nb_Ranges_lowestRoom 36 = .ok (.iadd, 1) := by decide +kernel
theorem nd_Ranges_lowestRoom_37 : decode nb_Ranges_lowestRoom 37 = .ok (.ireturn, 1) := by decide +kernel
theorem nd_Ranges_lowestRoom_38 : decode nb_Ranges_lowestRoom 38 = .ok (.iinc 3 1, 3) := by decide +kernel
theorem nd_Ranges_lowestRoom_41 : decode nb_Ranges_lowestRoom 41 = .ok (.goto (-37), 3) := by decide +kernel
theorem nd_Ranges_lowestRoom_44 : decode nb_Ranges_lowestRoom 44 = .ok (.iconst (-1), 1) := by decide +kernel
theorem nd_Ranges_lowestRoom_45 : decode nb_Ranges_lowestRoom 45 = .ok (.ireturn, 1) := by decide +kernel
theorem nd_Runs_init_0 : decode nb_Runs_init 0 = .ok (.aload_n 0, 1) := by decide +kernel
theorem nd_Runs_init_1 : decode nb_Runs_init 1 = .ok (.invokespecial 3, 3) := by decide +kernel
theorem nd_Runs_init_4 : decode nb_Runs_init 4 = .ok (.aload_n 0, 1) := by decide +kernel
theorem nd_Runs_init_5 : decode nb_Runs_init 5 = .ok (.bipush 64, 2) := by decide +kernel
theorem nd_Runs_init_7 : decode nb_Runs_init 7 = .ok (.newarray .int, 2) := by decide +kernel
theorem nd_Runs_init_9 : decode nb_Runs_init 9 = .ok (.putfield 9, 3) := by decide +kernel
theorem nd_Runs_init_12 : decode nb_Runs_init 12 = .ok (.aload_n 0, 1) := by decide +kernel
theorem nd_Runs_init_13 : decode nb_Runs_init 13 = .ok (.aload_n 1, 1) := by decide +kernel
theorem nd_Runs_init_14 : decode nb_Runs_init 14 = .ok (.putfield 15, 3) := by decide +kernel
theorem nd_Runs_init_17 : decode nb_Runs_init 17 = .ok (.aload_n 0, 1) := by decide +kernel
theorem nd_Runs_init_18 : decode nb_Runs_init 18 = .ok (.aload_n 2, 1) := by decide +kernel
theorem nd_Runs_init_19 : decode nb_Runs_init 19 = .ok (.putfield 19, 3) := by decide +kernel
theorem nd_Runs_init_22 : decode nb_Runs_init 22 = .ok (.return_, 1) := by decide +kernel
theorem nd_Runs_add_0 : decode nb_Runs_add 0 = .ok (.iconst 1, 1) := by decide +kernel
theorem nd_Runs_add_1 : decode nb_Runs_add 1 = .ok (.iload_n 1, 1) := by decide +kernel
theorem nd_Runs_add_2 : decode nb_Runs_add 2 = .ok (.ishl, 1) := by decide +kernel
theorem nd_Runs_add_3 : decode nb_Runs_add 3 = .ok (.istore_n 2, 1) := by decide +kernel
theorem nd_Runs_add_4 : decode nb_Runs_add 4 = .ok (.aload_n 0, 1) := by decide +kernel
theorem nd_Runs_add_5 : decode nb_Runs_add 5 = .ok (.iload_n 1, 1) := by decide +kernel
theorem nd_Runs_add_6 : decode nb_Runs_add 6 = .ok (.invokevirtual 23, 3) := by decide +kernel
theorem nd_Runs_add_9 : decode nb_Runs_add 9 = .ok (.istore_n 3, 1) := by decide +kernel
theorem nd_Runs_add_10 : decode nb_Runs_add 10 = .ok (.iload_n 3, 1) := by decide +kernel
theorem nd_Runs_add_11 : decode nb_Runs_add 11 = .ok (.iconst (-1), 1) := by decide +kernel
theorem nd_Runs_add_12 : decode nb_Runs_add 12 = .ok (.if_icmp .ne 5, 3) := by decide +kernel
theorem nd_Runs_add_15 : decode nb_Runs_add 15 = .ok (.iconst (-1), 1) := by decide +kernel
theorem nd_Runs_add_16 : decode nb_Runs_add 16 = .ok (.ireturn, 1) := by decide +kernel
theorem nd_Runs_add_17 : decode nb_Runs_add 17 = .ok (.aload_n 0, 1) := by decide +kernel
theorem nd_Runs_add_18 : decode nb_Runs_add 18 = .ok (.iload_n 3, 1) := by decide +kernel
theorem nd_Runs_add_19 : decode nb_Runs_add 19 = .ok (.iload_n 2, 1) := by decide +kernel
theorem nd_Runs_add_20 : decode nb_Runs_add 20 = .ok (.invokevirtual 27, 3) := by decide +kernel
theorem nd_Runs_add_23 : decode nb_Runs_add 23 = .ok (.iload_n 3, 1) := by decide +kernel
theorem nd_Runs_add_24 : decode nb_Runs_add 24 = .ok (.istore 4, 2) := by decide +kernel
theorem nd_Runs_add_26 : decode nb_Runs_add 26 = .ok (.iload 4, 2) := by decide +kernel
theorem nd_Runs_add_28 : decode nb_Runs_add 28 = .ok (.iload_n 3, 1) := by decide +kernel
theorem nd_Runs_add_29 : decode nb_Runs_add 29 = .ok (.iload_n 2, 1) := by decide +kernel
theorem nd_Runs_add_30 : decode nb_Runs_add 30 = .ok (.iadd, 1) := by decide +kernel
theorem nd_Runs_add_31 : decode nb_Runs_add 31 = .ok (.if_icmp .ge 19, 3) := by decide +kernel
theorem nd_Runs_add_34 : decode nb_Runs_add 34 = .ok (.aload_n 0, 1) := by decide +kernel
theorem nd_Runs_add_35 : decode nb_Runs_add 35 = .ok (.getfield 15, 3) := by decide +kernel
theorem nd_Runs_add_38 : decode nb_Runs_add 38 = .ok (.iload 4, 2) := by decide +kernel
theorem nd_Runs_add_40 : decode nb_Runs_add 40 = .ok (.iconst 5, 1) := by decide +kernel
theorem nd_Runs_add_41 : decode nb_Runs_add 41 = .ok (.invokevirtual 31, 3) := by decide +kernel
theorem nd_Runs_add_44 : decode nb_Runs_add 44 = .ok (.iinc 4 1, 3) := by decide +kernel
theorem nd_Runs_add_47 : decode nb_Runs_add 47 = .ok (.goto (-21), 3) := by decide +kernel
theorem nd_Runs_add_50 : decode nb_Runs_add 50 = .ok (.aload_n 0, 1) := by decide +kernel
theorem nd_Runs_add_51 : decode nb_Runs_add 51 = .ok (.getfield 9, 3) := by decide +kernel
theorem nd_Runs_add_54 : decode nb_Runs_add 54 = .ok (.iload_n 3, 1) := by decide +kernel
theorem nd_Runs_add_55 : decode nb_Runs_add 55 = .ok (.iload_n 2, 1) := by decide +kernel
theorem nd_Runs_add_56 : decode nb_Runs_add 56 = .ok (.iastore, 1) := by decide +kernel
theorem nd_Runs_add_57 : decode nb_Runs_add 57 = .ok (.iload_n 3, 1) := by decide +kernel
theorem nd_Runs_add_58 : decode nb_Runs_add 58 = .ok (.ireturn, 1) := by decide +kernel
theorem nd_Runs_remove_0 : decode nb_Runs_remove 0 = .ok (.iload_n 1, 1) := by decide +kernel
theorem nd_Runs_remove_1 : decode nb_Runs_remove 1 = .ok (.invokestatic 36, 3) := by decide +kernel
theorem nd_Runs_remove_4 : decode nb_Runs_remove 4 = .ok (.ifCond .eq 12, 3) := by decide +kernel
theorem nd_Runs_remove_7 : decode nb_Runs_remove 7 = .ok (.aload_n 0, 1) := by decide +kernel
theorem nd_Runs_remove_8 : decode nb_Runs_remove 8 = .ok (.getfield 9, 3) := by decide +kernel
theorem nd_Runs_remove_11 : decode nb_Runs_remove 11 = .ok (.iload_n 1, 1) := by decide +kernel
theorem nd_Runs_remove_12 : decode nb_Runs_remove 12 = .ok (.iaload, 1) := by decide +kernel
theorem nd_Runs_remove_13 : decode nb_Runs_remove 13 = .ok (.ifCond .ne 5, 3) := by decide +kernel
theorem nd_Runs_remove_16 : decode nb_Runs_remove 16 = .ok (.iconst (-1), 1) := by decide +kernel
theorem nd_Runs_remove_17 : decode nb_Runs_remove 17 = .ok (.ireturn, 1) := by decide +kernel
theorem nd_Runs_remove_18 : decode nb_Runs_remove 18 = .ok (.aload_n 0, 1) := by decide +kernel
theorem nd_Runs_remove_19 : decode nb_Runs_remove 19 = .ok (.getfield 9, 3) := by decide +kernel
theorem nd_Runs_remove_22 : decode nb_Runs_remove 22 = .ok (.iload_n 1, 1) := by decide +kernel
theorem nd_Runs_remove_23 : decode nb_Runs_remove 23 = .ok (.iaload, 1) := by decide +kernel
theorem nd_Runs_remove_24 : decode nb_Runs_remove 24 = .ok (.istore_n 2, 1) := by decide +kernel
theorem nd_Runs_remove_25 : decode nb_Runs_remove 25 = .ok (.iload_n 1, 1) := by decide +kernel
theorem nd_Runs_remove_26 : decode nb_Runs_remove 26 = .ok (.istore_n 3, 1) := by decide +kernel
theorem nd_Runs_remove_27 : decode nb_Runs_remove 27 = .ok (.iload_n 3, 1) := by decide +kernel
theorem nd_Runs_remove_28 : decode nb_Runs_remove 28 = .ok (.iload_n 1, 1) := by decide +kernel
theorem nd_Runs_remove_29 : decode nb_Runs_remove 29 = .ok (.iload_n 2, 1) := by decide +kernel
theorem nd_Runs_remove_30 : decode nb_Runs_remove 30 = .ok (.iadd, 1) := by decide +kernel
theorem nd_Runs_remove_31 : decode nb_Runs_remove 31 = .ok (.if_icmp .ge 17, 3) := by decide +kernel
theorem nd_Runs_remove_34 : decode nb_Runs_remove 34 = .ok (.aload_n 0, 1) := by decide +kernel
theorem nd_Runs_remove_35 : decode nb_Runs_remove 35 = .ok (.getfield 15, 3) := by decide +kernel
theorem nd_Runs_remove_38 : decode nb_Runs_remove 38 = .ok (.iload_n 3, 1) := by decide +kernel
theorem nd_Runs_remove_39 : decode nb_Runs_remove 39 = .ok (.invokevirtual 40, 3) := by decide +kernel
theorem nd_Runs_remove_42 : decode nb_Runs_remove 42 = .ok (.iinc 3 1, 3) := by decide +kernel
theorem nd_Runs_remove_45 : decode nb_Runs_remove 45 = .ok (.goto (-18), 3) := by decide +kernel
theorem nd_Runs_remove_48 : decode nb_Runs_remove 48 = .ok (.aload_n 0, 1) := by decide +kernel
theorem nd_Runs_remove_49 : decode nb_Runs_remove 49 = .ok (.getfield 9, 3) := by decide +kernel
theorem nd_Runs_remove_52 : decode nb_Runs_remove 52 = .ok (.iload_n 1, 1) := by decide +kernel
theorem nd_Runs_remove_53 : decode nb_Runs_remove 53 = .ok (.iconst 0, 1) := by decide +kernel
theorem nd_Runs_remove_54 : decode nb_Runs_remove 54 = .ok (.iastore, 1) := by decide +kernel
theorem nd_Runs_remove_55 : decode nb_Runs_remove 55 = .ok (.iload_n 2, 1) := by decide +kernel
theorem nd_Runs_remove_56 : decode nb_Runs_remove 56 = .ok (.ireturn, 1) := by decide +kernel
theorem nd_Runs_movedSoFar_0 : decode nb_Runs_movedSoFar 0 = .ok (.aload_n 0, 1) := by decide +kernel
theorem nd_Runs_movedSoFar_1 : decode nb_Runs_movedSoFar 1 = .ok (.getfield 44, 3) := by decide +kernel
theorem nd_Runs_movedSoFar_4 : decode nb_Runs_movedSoFar 4 = .ok (.ireturn, 1) := by decide +kernel
theorem nd_Runs_lowestAble_0 : decode nb_Runs_lowestAble 0 = .ok (.iconst 0, 1) := by decide +kernel
theorem nd_Runs_lowestAble_1 : decode nb_Runs_lowestAble 1 = .ok (.istore_n 2, 1) := by decide +kernel
theorem nd_Runs_lowestAble_2 : decode nb_Runs_lowestAble 2 = .ok (.iload_n 2, 1) := by decide +kernel
theorem nd_Runs_lowestAble_3 : decode nb_Runs_lowestAble 3 = .ok (.bipush 64, 2) := by decide +kernel
theorem nd_Runs_lowestAble_5 : decode nb_Runs_lowestAble 5 = .ok (.iload_n 1, 1) := by decide +kernel
theorem nd_Runs_lowestAble_6 : decode nb_Runs_lowestAble 6 = .ok (.ishr, 1) := by decide +kernel
theorem nd_Runs_lowestAble_7 : decode nb_Runs_lowestAble 7 = .ok (.if_icmp .ge 26, 3) := by decide +kernel
theorem nd_Runs_lowestAble_10 : decode nb_Runs_lowestAble 10 = .ok (.aload_n 0, 1) := by decide +kernel
theorem nd_Runs_lowestAble_11 : decode nb_Runs_lowestAble 11 = .ok (.iload_n 2, 1) := by decide +kernel
theorem nd_Runs_lowestAble_12 : decode nb_Runs_lowestAble 12 = .ok (.iload_n 1, 1) := by decide +kernel
theorem nd_Runs_lowestAble_13 : decode nb_Runs_lowestAble 13 = .ok (.ishl, 1) := by decide +kernel
theorem nd_Runs_lowestAble_14 : decode nb_Runs_lowestAble 14 = .ok (.iconst 1, 1) := by decide +kernel
theorem nd_Runs_lowestAble_15 : decode nb_Runs_lowestAble 15 = .ok (.iload_n 1, 1) := by decide +kernel
theorem nd_Runs_lowestAble_16 : decode nb_Runs_lowestAble 16 = .ok (.ishl, 1) := by decide +kernel
theorem nd_Runs_lowestAble_17 : decode nb_Runs_lowestAble 17 = .ok (.invokevirtual 48, 3) := by decide +kernel
theorem nd_Runs_lowestAble_20 : decode nb_Runs_lowestAble 20 = .ok (.ifCond .eq 7, 3) := by decide +kernel
theorem nd_Runs_lowestAble_23 : decode nb_Runs_lowestAble 23 = .ok (.iload_n 2, 1) := by decide +kernel
theorem nd_Runs_lowestAble_24 : decode nb_Runs_lowestAble 24 = .ok (.iload_n 1, 1) := by decide +kernel
theorem nd_Runs_lowestAble_25 : decode nb_Runs_lowestAble 25 = .ok (.ishl, 1) := by decide +kernel
theorem nd_Runs_lowestAble_26 : decode nb_Runs_lowestAble 26 = .ok (.ireturn, 1) := by decide +kernel
theorem nd_Runs_lowestAble_27 : decode nb_Runs_lowestAble 27 = .ok (.iinc 2 1, 3) := by decide +kernel
theorem nd_Runs_lowestAble_30 : decode nb_Runs_lowestAble 30 = .ok (.goto (-28), 3) := by decide +kernel
theorem nd_Runs_lowestAble_33 : decode nb_Runs_lowestAble 33 = .ok (.iconst (-1), 1) := by decide +kernel
theorem nd_Runs_lowestAble_34 : decode nb_Runs_lowestAble 34 = .ok (.ireturn, 1) := by decide +kernel
theorem nd_Runs_isAble_0 : decode nb_Runs_isAble 0 = .ok (.aload_n 0, 1) := by decide +kernel
theorem nd_Runs_isAble_1 : decode nb_Runs_isAble 1 = .ok (.getfield 15, 3) := by decide +kernel
theorem nd_Runs_isAble_4 : decode nb_Runs_isAble 4 = .ok (.iconst 0, 1) := by decide +kernel
theorem nd_Runs_isAble_5 : decode nb_Runs_isAble 5 = .ok (.iload_n 1, 1) := by decide +kernel
theorem nd_Runs_isAble_6 : decode nb_Runs_isAble 6 = .ok (.iload_n 2, 1) := by decide +kernel
theorem nd_Runs_isAble_7 : decode nb_Runs_isAble 7 = .ok (.invokevirtual 52, 3) := by decide +kernel
theorem nd_Runs_isAble_10 : decode nb_Runs_isAble 10 = .ok (.istore_n 3, 1) := by decide +kernel
theorem nd_Runs_isAble_11 : decode nb_Runs_isAble 11 = .ok (.aload_n 0, 1) := by decide +kernel
theorem nd_Runs_isAble_12 : decode nb_Runs_isAble 12 = .ok (.getfield 15, 3) := by decide +kernel
theorem nd_Runs_isAble_15 : decode nb_Runs_isAble 15 = .ok (.iconst 4, 1) := by decide +kernel
theorem nd_Runs_isAble_16 : decode nb_Runs_isAble 16 = .ok (.iload_n 1, 1) := by decide +kernel
theorem nd_Runs_isAble_17 : decode nb_Runs_isAble 17 = .ok (.iload_n 2, 1) := by decide +kernel
theorem nd_Runs_isAble_18 : decode nb_Runs_isAble 18 = .ok (.invokevirtual 52, 3) := by decide +kernel
theorem nd_Runs_isAble_21 : decode nb_Runs_isAble 21 = .ok (.istore 4, 2) := by decide +kernel
theorem nd_Runs_isAble_23 : decode nb_Runs_isAble 23 = .ok (.iload_n 3, 1) := by decide +kernel
theorem nd_Runs_isAble_24 : decode nb_Runs_isAble 24 = .ok (.iload 4, 2) := by decide +kernel
theorem nd_Runs_isAble_26 : decode nb_Runs_isAble 26 = .ok (.iadd, 1) := by decide +kernel
theorem nd_Runs_isAble_27 : decode nb_Runs_isAble 27 = .ok (.iload_n 2, 1) := by decide +kernel
theorem nd_Runs_isAble_28 : decode nb_Runs_isAble 28 = .ok (.if_icmp .ne 21, 3) := by decide +kernel
theorem nd_Runs_isAble_31 : decode nb_Runs_isAble 31 = .ok (.aload_n 0, 1) := by decide +kernel
theorem nd_Runs_isAble_32 : decode nb_Runs_isAble 32 = .ok (.getfield 15, 3) := by decide +kernel
theorem nd_Runs_isAble_35 : decode nb_Runs_isAble 35 = .ok (.invokevirtual 56, 3) := by decide +kernel
theorem nd_Runs_isAble_38 : decode nb_Runs_isAble 38 = .ok (.iload_n 3, 1) := by decide +kernel
theorem nd_Runs_isAble_39 : decode nb_Runs_isAble 39 = .ok (.isub, 1) := by decide +kernel
theorem nd_Runs_isAble_40 : decode nb_Runs_isAble 40 = .ok (.iload 4, 2) := by decide +kernel
theorem nd_Runs_isAble_42 : decode nb_Runs_isAble 42 = .ok (.if_icmp .lt 7, 3) := by decide +kernel
theorem nd_Runs_isAble_45 : decode nb_Runs_isAble 45 = .ok (.iconst 1, 1) := by decide +kernel
theorem nd_Runs_isAble_46 : decode nb_Runs_isAble 46 = .ok (.goto 4, 3) := by decide +kernel
theorem nd_Runs_isAble_49 : decode nb_Runs_isAble 49 = .ok (.iconst 0, 1) := by decide +kernel
theorem nd_Runs_isAble_50 : decode nb_Runs_isAble 50 = .ok (.ireturn, 1) := by decide +kernel
theorem nd_Runs_movePagesOut_0 : decode nb_Runs_movePagesOut 0 = .ok (.iload_n 1, 1) := by decide +kernel
theorem nd_Runs_movePagesOut_1 : decode nb_Runs_movePagesOut 1 = .ok (.istore_n 3, 1) := by decide +kernel
theorem nd_Runs_movePagesOut_2 : decode nb_Runs_movePagesOut 2 = .ok (.iload_n 3, 1) := by decide +kernel
theorem nd_Runs_movePagesOut_3 : decode nb_Runs_movePagesOut 3 = .ok (.iload_n 1, 1) := by decide +kernel
theorem nd_Runs_movePagesOut_4 : decode nb_Runs_movePagesOut 4 = .ok (.iload_n 2, 1) := by decide +kernel
theorem nd_Runs_movePagesOut_5 : decode nb_Runs_movePagesOut 5 = .ok (.iadd, 1) := by decide +kernel
theorem nd_Runs_movePagesOut_6 : decode nb_Runs_movePagesOut 6 = .ok (.if_icmp .ge 45, 3) := by decide +kernel
theorem nd_Runs_movePagesOut_9 : decode nb_Runs_movePagesOut 9 = .ok (.aload_n 0, 1) := by decide +kernel
theorem nd_Runs_movePagesOut_10 : decode nb_Runs_movePagesOut 10 = .ok (.getfield 15, 3) := by decide +kernel
theorem nd_Runs_movePagesOut_13 : decode nb_Runs_movePagesOut 13 = .ok (.iload_n 3, 1) := by decide +kernel
theorem nd_Runs_movePagesOut_14 : decode nb_Runs_movePagesOut 14 = .ok (.invokevirtual 60, 3) := by decide +kernel
theorem nd_Runs_movePagesOut_17 : decode nb_Runs_movePagesOut 17 = .ok (.iconst 4, 1) := by decide +kernel
theorem nd_Runs_movePagesOut_18 : decode nb_Runs_movePagesOut 18 = .ok (.if_icmp .ne 27, 3) := by decide +kernel
theorem nd_Runs_movePagesOut_21 : decode nb_Runs_movePagesOut 21 = .ok (.aload_n 0, 1) := by decide +kernel
theorem nd_Runs_movePagesOut_22 : decode nb_Runs_movePagesOut 22 = .ok (.getfield 19, 3) := by decide +kernel
theorem nd_Runs_movePagesOut_25 : decode nb_Runs_movePagesOut 25 = .ok (.iload_n 3, 1) := by decide +kernel
theorem nd_Runs_movePagesOut_26 : decode nb_Runs_movePagesOut 26 = .ok (.aload_n 0, 1) := by decide +kernel
theorem nd_Runs_movePagesOut_27 : decode nb_Runs_movePagesOut 27 = .ok (.iload_n 1, 1) := by decide +kernel
theorem nd_Runs_movePagesOut_28 : decode nb_Runs_movePagesOut 28 = .ok (.iload_n 2, 1) := by decide +kernel
theorem nd_Runs_movePagesOut_29 : decode nb_Runs_movePagesOut 29 = .ok (.invokevirtual 63, 3) := by decide +kernel
theorem nd_Runs_movePagesOut_32 : decode nb_Runs_movePagesOut 32 = .ok (.invokevirtual 67, 3) := by decide +kernel
theorem nd_Runs_movePagesOut_35 : decode nb_Runs_movePagesOut 35 = .ok (.aload_n 0, 1) := by decide +kernel
theorem nd_Runs_movePagesOut_36 : decode nb_Runs_movePagesOut 36 = .ok (.dup, 1) := by decide +kernel
theorem nd_Runs_movePagesOut_37 : decode nb_Runs_movePagesOut 37 = .ok (.getfield 44, 3) := by decide +kernel
theorem nd_Runs_movePagesOut_40 : decode nb_Runs_movePagesOut 40 = .ok (.iconst 1, 1) := by decide +kernel
theorem nd_Runs_movePagesOut_41 : decode nb_Runs_movePagesOut 41 = .ok (.iadd, 1) := by decide +kernel
theorem nd_Runs_movePagesOut_42 : decode nb_Runs_movePagesOut 42 = .ok (.putfield 44, 3) := by decide +kernel
theorem nd_Runs_movePagesOut_45 : decode nb_Runs_movePagesOut 45 = .ok (.iinc 3 1, 3) := by decide +kernel
theorem nd_Runs_movePagesOut_48 : decode nb_Runs_movePagesOut 48 = .ok (.goto (-46), 3) := by decide +kernel
theorem nd_Runs_movePagesOut_51 : decode nb_Runs_movePagesOut 51 = .ok (.return_, 1) := by decide +kernel
theorem nd_Runs_lowestFreeOutside_0 : decode nb_Runs_lowestFreeOutside 0 = .ok (.iconst 0, 1) := by decide +kernel
theorem nd_Runs_lowestFreeOutside_1 : decode nb_Runs_lowestFreeOutside 1 = .ok (.istore_n 3, 1) := by decide +kernel
theorem nd_Runs_lowestFreeOutside_2 : decode nb_Runs_lowestFreeOutside 2 = .ok (.iload_n 3, 1) := by decide +kernel
theorem nd_Runs_lowestFreeOutside_3 : decode nb_Runs_lowestFreeOutside 3 = .ok (.bipush 64, 2) := by decide +kernel
theorem nd_Runs_lowestFreeOutside_5 : decode nb_Runs_lowestFreeOutside 5 = .ok (.if_icmp .ge 46, 3) := by decide +kernel
theorem nd_Runs_lowestFreeOutside_8 : decode nb_Runs_lowestFreeOutside 8 = .ok (.iload_n 3, 1) := by decide +kernel
theorem nd_Runs_lowestFreeOutside_9 : decode nb_Runs_lowestFreeOutside 9 = .ok (.iload_n 1, 1) := by decide +kernel
theorem nd_Runs_lowestFreeOutside_10 : decode nb_Runs_lowestFreeOutside 10 = .ok (.if_icmp .lt 14, 3) := by decide +kernel
theorem nd_Runs_lowestFreeOutside_13 : decode nb_Runs_lowestFreeOutside 13 = .ok (.iload_n 3, 1) := by decide +kernel
theorem nd_Runs_lowestFreeOutside_14 : decode nb_Runs_lowestFreeOutside 14 = .ok (.iload_n 1, 1) := by decide +kernel
theorem nd_Runs_lowestFreeOutside_15 : decode nb_Runs_lowestFreeOutside 15 = .ok (.iload_n 2, 1) := by decide +kernel
theorem nd_Runs_lowestFreeOutside_16 : decode nb_Runs_lowestFreeOutside 16 = .ok (.iadd, 1) := by decide +kernel
theorem nd_Runs_lowestFreeOutside_17 : decode nb_Runs_lowestFreeOutside 17 = .ok (.if_icmp .ge 7, 3) := by decide +kernel
theorem nd_Runs_lowestFreeOutside_20 : decode nb_Runs_lowestFreeOutside 20 = .ok (.iconst 1, 1) := by decide +kernel
theorem nd_Runs_lowestFreeOutside_21 : decode nb_Runs_lowestFreeOutside 21 = .ok (.goto 4, 3) := by decide +kernel
theorem nd_Runs_lowestFreeOutside_24 : decode nb_Runs_lowestFreeOutside 24 = .ok (.iconst 0, 1) := by decide +kernel
theorem nd_Runs_lowestFreeOutside_25 : decode nb_Runs_lowestFreeOutside 25 = .ok (.istore 4, 2) := by decide +kernel
theorem nd_Runs_lowestFreeOutside_27 : decode nb_Runs_lowestFreeOutside 27 = .ok (.iload 4, 2) := by decide +kernel
theorem nd_Runs_lowestFreeOutside_29 : decode nb_Runs_lowestFreeOutside 29 = .ok (.ifCond .ne 16, 3) := by decide +kernel
theorem nd_Runs_lowestFreeOutside_32 : decode nb_Runs_lowestFreeOutside 32 = .ok (.aload_n 0, 1) := by decide +kernel
theorem nd_Runs_lowestFreeOutside_33 : decode nb_Runs_lowestFreeOutside 33 = .ok (.getfield 15, 3) := by decide +kernel
theorem nd_Runs_lowestFreeOutside_36 : decode nb_Runs_lowestFreeOutside 36 = .ok (.iload_n 3, 1) := by decide +kernel
theorem nd_Runs_lowestFreeOutside_37 : decode nb_Runs_lowestFreeOutside 37 = .ok (.invokevirtual 60, 3) := by decide +kernel
theorem nd_Runs_lowestFreeOutside_40 : decode nb_Runs_lowestFreeOutside 40 = .ok (.ifCond .ne 5, 3) := by decide +kernel
theorem nd_Runs_lowestFreeOutside_43 : decode nb_Runs_lowestFreeOutside 43 = .ok (.iload_n 3, 1) := by decide +kernel
theorem nd_Runs_lowestFreeOutside_44 : decode nb_Runs_lowestFreeOutside 44 = .ok (.ireturn, 1) := by decide +kernel
theorem nd_Runs_lowestFreeOutside_45 : decode nb_Runs_lowestFreeOutside 45 = .ok (.iinc 3 1, 3) := by decide +kernel
theorem nd_Runs_lowestFreeOutside_48 : decode nb_Runs_lowestFreeOutside 48 = .ok (.goto (-46), 3) := by decide +kernel
theorem nd_Runs_lowestFreeOutside_51 : decode nb_Runs_lowestFreeOutside 51 = .ok (.iconst (-1), 1) := by decide +kernel
theorem nd_Runs_lowestFreeOutside_52 : decode nb_Runs_lowestFreeOutside 52 = .ok (.ireturn, 1) := by decide +kernel
theorem nd_Slabs_init_0 : decode nb_Slabs_init 0 = .ok (.aload_n 0, 1) := by decide +kernel
theorem nd_Slabs_init_1 : decode nb_Slabs_init 1 = .ok (.invokespecial 3, 3) := by decide +kernel
theorem nd_Slabs_init_4 : decode nb_Slabs_init 4 = .ok (.aload_n 0, 1) := by decide +kernel
theorem nd_Slabs_init_5 : decode nb_Slabs_init 5 = .ok (.bipush 64, 2) := by decide +kernel
theorem nd_Slabs_init_7 : decode nb_Slabs_init 7 = .ok (.newarray .int, 2) := by decide +kernel
theorem nd_Slabs_init_9 : decode nb_Slabs_init 9 = .ok (.putfield 9, 3) := by decide +kernel
theorem nd_Slabs_init_12 : decode nb_Slabs_init 12 = .ok (.aload_n 0, 1) := by decide +kernel
theorem nd_Slabs_init_13 : decode nb_Slabs_init 13 = .ok (.bipush 64, 2) := by decide +kernel
theorem nd_Slabs_init_15 : decode nb_Slabs_init 15 = .ok (.newarray .int, 2) := by decide +kernel
theorem nd_Slabs_init_17 : decode nb_Slabs_init 17 = .ok (.putfield 15, 3) := by decide +kernel
theorem nd_Slabs_init_20 : decode nb_Slabs_init 20 = .ok (.aload_n 0, 1) := by decide +kernel
theorem nd_Slabs_init_21 : decode nb_Slabs_init 21 = .ok (.aload_n 1, 1) := by decide +kernel
theorem nd_Slabs_init_22 : decode nb_Slabs_init 22 = .ok (.putfield 18, 3) := by decide +kernel
theorem nd_Slabs_init_25 : decode nb_Slabs_init 25 = .ok (.return_, 1) := by decide +kernel
theorem nd_Slabs_add_0 : decode nb_Slabs_add 0 = .ok (.aload_n 0, 1) := by decide +kernel
theorem nd_Slabs_add_1 : decode nb_Slabs_add 1 = .ok (.iload_n 1, 1) := by decide +kernel
theorem nd_Slabs_add_2 : decode nb_Slabs_add 2 = .ok (.invokevirtual 22, 3) := by decide +kernel
theorem nd_Slabs_add_5 : decode nb_Slabs_add 5 = .ok (.istore_n 2, 1) := by decide +kernel
theorem nd_Slabs_add_6 : decode nb_Slabs_add 6 = .ok (.iload_n 2, 1) := by decide +kernel
theorem nd_Slabs_add_7 : decode nb_Slabs_add 7 = .ok (.iconst (-1), 1) := by decide +kernel
theorem nd_Slabs_add_8 : decode nb_Slabs_add 8 = .ok (.if_icmp .ne 9, 3) := by decide +kernel
theorem nd_Slabs_add_11 : decode nb_Slabs_add 11 = .ok (.aload_n 0, 1) := by decide +kernel
theorem nd_Slabs_add_12 : decode nb_Slabs_add 12 = .ok (.iload_n 1, 1) := by decide +kernel
theorem nd_Slabs_add_13 : decode nb_Slabs_add 13 = .ok (.invokevirtual 26, 3) := by decide +kernel
theorem nd_Slabs_add_16 : decode nb_Slabs_add 16 = .ok (.istore_n 2, 1) := by decide +kernel
theorem nd_Slabs_add_17 : decode nb_Slabs_add 17 = .ok (.iload_n 2, 1) := by decide +kernel
theorem nd_Slabs_add_18 : decode nb_Slabs_add 18 = .ok (.iconst (-1), 1) := by decide +kernel
theorem nd_Slabs_add_19 : decode nb_Slabs_add 19 = .ok (.if_icmp .ne 7, 3) := by decide +kernel
theorem nd_Slabs_add_22 : decode nb_Slabs_add 22 = .ok (.iconst (-1), 1) := by decide +kernel
theorem nd_Slabs_add_23 : decode nb_Slabs_add 23 = .ok (.goto 9, 3) := by decide +kernel
theorem nd_Slabs_add_26 : decode nb_Slabs_add 26 = .ok (.aload_n 0, 1) := by decide +kernel
theorem nd_Slabs_add_27 : decode nb_Slabs_add 27 = .ok (.iload_n 2, 1) := by decide +kernel
theorem nd_Slabs_add_28 : decode nb_Slabs_add 28 = .ok (.iload_n 1, 1) := by decide +kernel
theorem nd_Slabs_add_29 : decode nb_Slabs_add 29 = .ok (.invokevirtual 29, 3) := by decide +kernel
theorem nd_Slabs_add_32 : decode nb_Slabs_add 32 = .ok (.ireturn, 1) := by decide +kernel
theorem nd_Slabs_remove_0 : decode nb_Slabs_remove 0 = .ok (.aload_n 0, 1) := by decide +kernel
theorem nd_Slabs_remove_1 : decode nb_Slabs_remove 1 = .ok (.iload_n 1, 1) := by decide +kernel
theorem nd_Slabs_remove_2 : decode nb_Slabs_remove 2 = .ok (.invokevirtual 33, 3) := by decide +kernel
theorem nd_Slabs_remove_5 : decode nb_Slabs_remove 5 = .ok (.iconst (-1), 1) := by decide +kernel
theorem nd_Slabs_remove_6 : decode nb_Slabs_remove 6 = .ok (.if_icmp .ne 5, 3) := by decide +kernel
theorem nd_Slabs_remove_9 : decode nb_Slabs_remove 9 = .ok (.iconst (-1), 1) := by decide +kernel
theorem nd_Slabs_remove_10 : decode nb_Slabs_remove 10 = .ok (.ireturn, 1) := by decide +kernel
theorem nd_Slabs_remove_11 : decode nb_Slabs_remove 11 = .ok (.iload_n 1, 1) := by decide +kernel
theorem nd_Slabs_remove_12 : decode nb_Slabs_remove 12 = .ok (.bipush 16, 2) := by decide +kernel
theorem nd_Slabs_remove_14 : decode nb_Slabs_remove 14 = .ok (.idiv, 1) := by decide +kernel
theorem nd_Slabs_remove_15 : decode nb_Slabs_remove 15 = .ok (.istore_n 2, 1) := by decide +kernel
theorem nd_Slabs_remove_16 : decode nb_Slabs_remove 16 = .ok (.aload_n 0, 1) := by decide +kernel
theorem nd_Slabs_remove_17 : decode nb_Slabs_remove 17 = .ok (.getfield 9, 3) := by decide +kernel
theorem nd_Slabs_remove_20 : decode nb_Slabs_remove 20 = .ok (.iload_n 2, 1) := by decide +kernel
theorem nd_Slabs_remove_21 : decode nb_Slabs_remove 21 = .ok (.iaload, 1) := by decide +kernel
theorem nd_Slabs_remove_22 : decode nb_Slabs_remove 22 = .ok (.istore_n 3, 1) := by decide +kernel
theorem nd_Slabs_remove_23 : decode nb_Slabs_remove 23 = .ok (.iload_n 3, 1) := by decide +kernel
theorem nd_Slabs_remove_24 : decode nb_Slabs_remove 24 = .ok (.ifCond .eq 9, 3) := by decide +kernel
theorem nd_Slabs_remove_27 : decode nb_Slabs_remove 27 = .ok (.iload_n 1, 1) := by decide +kernel
theorem nd_Slabs_remove_28 : decode nb_Slabs_remove 28 = .ok (.iload_n 3, 1) := by decide +kernel
theorem nd_Slabs_remove_29 : decode nb_Slabs_remove 29 = .ok (.irem, 1) := by decide +kernel
theorem nd_Slabs_remove_30 : decode nb_Slabs_remove 30 = .ok (.ifCond .eq 5, 3) := by decide +kernel
theorem nd_Slabs_remove_33 : decode nb_Slabs_remove 33 = .ok (.iconst (-1), 1) := by decide +kernel
theorem nd_Slabs_remove_34 : decode nb_Slabs_remove 34 = .ok (.ireturn, 1) := by decide +kernel
theorem nd_Slabs_remove_35 : decode nb_Slabs_remove 35 = .ok (.aload_n 0, 1) := by decide +kernel
theorem nd_Slabs_remove_36 : decode nb_Slabs_remove 36 = .ok (.getfield 15, 3) := by decide +kernel
theorem nd_Slabs_remove_39 : decode nb_Slabs_remove 39 = .ok (.iload_n 2, 1) := by decide +kernel
theorem nd_Slabs_remove_40 : decode nb_Slabs_remove 40 = .ok (.dup2, 1) := by decide +kernel
theorem nd_Slabs_remove_41 : decode nb_Slabs_remove 41 = .ok (.iaload, 1) := by decide +kernel
theorem nd_Slabs_remove_42 : decode nb_Slabs_remove 42 = .ok (.aload_n 0, 1) := by decide +kernel
theorem nd_Slabs_remove_43 : decode nb_Slabs_remove 43 = .ok (.iload_n 1, 1) := by decide +kernel
theorem nd_Slabs_remove_44 : decode nb_Slabs_remove 44 = .ok (.invokevirtual 36, 3) := by decide +kernel
theorem nd_Slabs_remove_47 : decode nb_Slabs_remove 47 = .ok (.iconst (-1), 1) := by decide +kernel
theorem nd_Slabs_remove_48 : decode nb_Slabs_remove 48 = .ok (.ixor, 1) := by decide +kernel
theorem nd_Slabs_remove_49 : decode nb_Slabs_remove 49 = .ok (.iand, 1) := by decide +kernel
theorem nd_Slabs_remove_50 : decode nb_Slabs_remove 50 = .ok (.iastore, 1) := by decide +kernel
theorem nd_Slabs_remove_51 : decode nb_Slabs_remove 51 = .ok (.aload_n 0, 1) := by decide +kernel
theorem nd_Slabs_remove_52 : decode nb_Slabs_remove 52 = .ok (.getfield 15, 3) := by decide +kernel
theorem nd_Slabs_remove_55 : decode nb_Slabs_remove 55 = .ok (.iload_n 2, 1) := by decide +kernel
theorem nd_Slabs_remove_56 : decode nb_Slabs_remove 56 = .ok (.iaload, 1) := by decide +kernel
theorem nd_Slabs_remove_57 : decode nb_Slabs_remove 57 = .ok (.ifCond .ne 18, 3) := by decide +kernel
theorem nd_Slabs_remove_60 : decode nb_Slabs_remove 60 = .ok (.aload_n 0, 1) := by decide +kernel
theorem nd_Slabs_remove_61 : decode nb_Slabs_remove 61 = .ok (.getfield 9, 3) := by decide +kernel
theorem nd_Slabs_remove_64 : decode nb_Slabs_remove 64 = .ok (.iload_n 2, 1) := by decide +kernel
theorem nd_Slabs_remove_65 : decode nb_Slabs_remove 65 = .ok (.iconst 0, 1) := by decide +kernel
theorem nd_Slabs_remove_66 : decode nb_Slabs_remove 66 = .ok (.iastore, 1) := by decide +kernel
theorem nd_Slabs_remove_67 : decode nb_Slabs_remove 67 = .ok (.aload_n 0, 1) := by decide +kernel
theorem nd_Slabs_remove_68 : decode nb_Slabs_remove 68 = .ok (.getfield 18, 3) := by decide +kernel
theorem nd_Slabs_remove_71 : decode nb_Slabs_remove 71 = .ok (.iload_n 2, 1) := by decide +kernel
theorem nd_Slabs_remove_72 : decode nb_Slabs_remove 72 = .ok (.invokevirtual 39, 3) := by decide +kernel
theorem nd_Slabs_remove_75 : decode nb_Slabs_remove 75 = .ok (.iload_n 3, 1) := by decide +kernel
theorem nd_Slabs_remove_76 : decode nb_Slabs_remove 76 = .ok (.ireturn, 1) := by decide +kernel
theorem nd_Slabs_placeAt_0 : decode nb_Slabs_placeAt 0 = .ok (.iload_n 1, 1) := by decide +kernel
theorem nd_Slabs_placeAt_1 : decode nb_Slabs_placeAt 1 = .ok (.ifCond .lt 22, 3) := by decide +kernel
theorem nd_Slabs_placeAt_4 : decode nb_Slabs_placeAt 4 = .ok (.iload_n 1, 1) := by decide +kernel
theorem nd_Slabs_placeAt_5 : decode nb_Slabs_placeAt 5 = .ok (.sipush 1024, 3) := by decide +kernel
theorem nd_Slabs_placeAt_8 : decode nb_Slabs_placeAt 8 = .ok (.if_icmp .ge 15, 3) := by decide +kernel
theorem nd_Slabs_placeAt_11 : decode nb_Slabs_placeAt 11 = .ok (.aload_n 0, 1) := by decide +kernel
theorem nd_Slabs_placeAt_12 : decode nb_Slabs_placeAt 12 = .ok (.getfield 9, 3) := by decide +kernel
theorem nd_Slabs_placeAt_15 : decode nb_Slabs_placeAt 15 = .ok (.iload_n 1, 1) := by decide +kernel
theorem nd_Slabs_placeAt_16 : decode nb_Slabs_placeAt 16 = .ok (.bipush 16, 2) := by decide +kernel
theorem nd_Slabs_placeAt_18 : decode nb_Slabs_placeAt 18 = .ok (.idiv, 1) := by decide +kernel
theorem nd_Slabs_placeAt_19 : decode nb_Slabs_placeAt 19 = .ok (.iaload, 1) := by decide +kernel
theorem nd_Slabs_placeAt_20 : decode nb_Slabs_placeAt 20 = .ok (.ifCond .ne 5, 3) := by decide +kernel
theorem nd_Slabs_placeAt_23 : decode nb_Slabs_placeAt 23 = .ok (.iconst (-1), 1) := by decide +kernel
theorem nd_Slabs_placeAt_24 : decode nb_Slabs_placeAt 24 = .ok (.ireturn, 1) := by decide +kernel
theorem nd_Slabs_placeAt_25 : decode nb_Slabs_placeAt 25 = .ok (.aload_n 0, 1) := by decide +kernel
theorem nd_Slabs_placeAt_26 : decode nb_Slabs_placeAt 26 = .ok (.getfield 15, 3) := by decide +kernel
theorem nd_Slabs_placeAt_29 : decode nb_Slabs_placeAt 29 = .ok (.iload_n 1, 1) := by decide +kernel
theorem nd_Slabs_placeAt_30 : decode nb_Slabs_placeAt 30 = .ok (.bipush 16, 2) := by decide +kernel
theorem nd_Slabs_placeAt_32 : decode nb_Slabs_placeAt 32 = .ok (.idiv, 1) := by decide +kernel
theorem nd_Slabs_placeAt_33 : decode nb_Slabs_placeAt 33 = .ok (.iaload, 1) := by decide +kernel
theorem nd_Slabs_placeAt_34 : decode nb_Slabs_placeAt 34 = .ok (.aload_n 0, 1) := by decide +kernel
theorem nd_Slabs_placeAt_35 : decode nb_Slabs_placeAt 35 = .ok (.iload_n 1, 1) := by decide +kernel
theorem nd_Slabs_placeAt_36 : decode nb_Slabs_placeAt 36 = .ok (.invokevirtual 36, 3) := by decide +kernel
theorem nd_Slabs_placeAt_39 : decode nb_Slabs_placeAt 39 = .ok (.iand, 1) := by decide +kernel
theorem nd_Slabs_placeAt_40 : decode nb_Slabs_placeAt 40 = .ok (.ifCond .eq 7, 3) := by decide +kernel
theorem nd_Slabs_placeAt_43 : decode nb_Slabs_placeAt 43 = .ok (.iload_n 1, 1) := by decide +kernel
theorem nd_Slabs_placeAt_44 : decode nb_Slabs_placeAt 44 = .ok (.goto 4, 3) := by decide +kernel
theorem nd_Slabs_placeAt_47 : decode nb_Slabs_placeAt 47 = .ok (.iconst (-1), 1) := by decide +kernel
theorem nd_Slabs_placeAt_48 : decode nb_Slabs_placeAt 48 = .ok (.ireturn, 1) := by decide +kernel
theorem nd_Slabs_bitOf_0 : decode nb_Slabs_bitOf 0 = .ok (.aload_n 0, 1) := by decide +kernel
theorem nd_Slabs_bitOf_1 : decode nb_Slabs_bitOf 1 = .ok (.getfield 9, 3) := by decide +kernel
theorem nd_Slabs_bitOf_4 : decode nb_Slabs_bitOf 4 = .ok (.iload_n 1, 1) := by decide +kernel
theorem nd_Slabs_bitOf_5 : decode nb_Slabs_bitOf 5 = .ok (.bipush 16, 2) := by decide +kernel
theorem nd_Slabs_bitOf_7 : decode nb_Slabs_bitOf 7 = .ok (.idiv, 1) := by decide +kernel
theorem nd_Slabs_bitOf_8 : decode nb_Slabs_bitOf 8 = .ok (.iaload, 1) := by decide +kernel
theorem nd_Slabs_bitOf_9 : decode nb_Slabs_bitOf 9 = .ok (.istore_n 2, 1) := by decide +kernel
theorem nd_Slabs_bitOf_10 : decode nb_Slabs_bitOf 10 = .ok (.iload_n 2, 1) := by decide +kernel
theorem nd_Slabs_bitOf_11 : decode nb_Slabs_bitOf 11 = .ok (.ifCond .ne 7, 3) := by decide +kernel
theorem nd_Slabs_bitOf_14 : decode nb_Slabs_bitOf 14 = .ok (.iconst 0, 1) := by decide +kernel
theorem nd_Slabs_bitOf_15 : decode nb_Slabs_bitOf 15 = .ok (.goto 11, 3) := by decide +kernel
theorem nd_Slabs_bitOf_18 : decode nb_Slabs_bitOf 18 = .ok (.iconst 1, 1) := by decide +kernel
theorem nd_Slabs_bitOf_19 : decode nb_Slabs_bitOf 19 = .ok (.iload_n 1, 1) := by decide +kernel
theorem nd_Slabs_bitOf_20 : decode nb_Slabs_bitOf 20 = .ok (.bipush 16, 2) := by decide +kernel
theorem nd_Slabs_bitOf_22 : decode nb_Slabs_bitOf 22 = .ok (.irem, 1) := by decide +kernel
theorem nd_Slabs_bitOf_23 : decode nb_Slabs_bitOf 23 = .ok (.iload_n 2, 1) := by decide +kernel
theorem nd_Slabs_bitOf_24 : decode nb_Slabs_bitOf 24 = .ok (.idiv, 1) := by decide +kernel
theorem nd_Slabs_bitOf_25 : decode nb_Slabs_bitOf 25 = .ok (.ishl, 1) := by decide +kernel
theorem nd_Slabs_bitOf_26 : decode nb_Slabs_bitOf 26 = .ok (.ireturn, 1) := by decide +kernel
theorem nd_Slabs_lowestSlabWithRoom_0 : decode nb_Slabs_lowestSlabWithRoom 0 = .ok (.iconst 0, 1) := by decide +kernel
theorem nd_Slabs_lowestSlabWithRoom_1 : decode nb_Slabs_lowestSlabWithRoom 1 = .ok (.istore_n 2, 1) := by decide +kernel
theorem nd_Slabs_lowestSlabWithRoom_2 : decode nb_Slabs_lowestSlabWithRoom 2 = .ok (.iload_n 2, 1) := by decide +kernel
theorem nd_Slabs_lowestSlabWithRoom_3 : decode nb_Slabs_lowestSlabWithRoom 3 = .ok (.bipush 64, 2) := by decide +kernel
theorem nd_Slabs_lowestSlabWithRoom_5 : decode nb_Slabs_lowestSlabWithRoom 5 = .ok (.if_icmp .ge 30, 3) := by decide +kernel
theorem nd_Slabs_lowestSlabWithRoom_8 : decode nb_Slabs_lowestSlabWithRoom 8 = .ok (.aload_n 0, 1) := by decide +kernel
theorem nd_Slabs_lowestSlabWithRoom_9 : decode nb_Slabs_lowestSlabWithRoom 9 = .ok (.getfield 9, 3) := by decide +kernel
theorem nd_Slabs_lowestSlabWithRoom_12 : decode nb_Slabs_lowestSlabWithRoom 12 = .ok (.iload_n 2, 1) := by decide +kernel
theorem nd_Slabs_lowestSlabWithRoom_13 : decode nb_Slabs_lowestSlabWithRoom 13 = .ok (.iaload, 1) := by decide +kernel
theorem nd_Slabs_lowestSlabWithRoom_14 : decode nb_Slabs_lowestSlabWithRoom 14 = .ok (.iload_n 1, 1) := by decide +kernel
theorem nd_Slabs_lowestSlabWithRoom_15 : decode nb_Slabs_lowestSlabWithRoom 15 = .ok (.if_icmp .ne 14, 3) := by decide +kernel
theorem nd_Slabs_lowestSlabWithRoom_18 : decode nb_Slabs_lowestSlabWithRoom 18 = .ok (.aload_n 0, 1) := by decide +kernel
theorem nd_Slabs_lowestSlabWithRoom_19 : decode nb_Slabs_lowestSlabWithRoom 19 = .ok (.iload_n 2, 1) := by decide +kernel
theorem nd_Slabs_lowestSlabWithRoom_20 : decode nb_Slabs_lowestSlabWithRoom 20 = .ok (.invokevirtual 45, 3) := by decide +kernel
theorem nd_Slabs_lowestSlabWithRoom_23 : decode nb_Slabs_lowestSlabWithRoom 23 = .ok (.iconst (-1), 1) := by decide +kernel
theorem nd_Slabs_lowestSlabWithRoom_24 : decode nb_Slabs_lowestSlabWithRoom 24 = .ok (.if_icmp .eq 5, 3) := by decide +kernel
theorem nd_Slabs_lowestSlabWithRoom_27 : decode nb_Slabs_lowestSlabWithRoom 27 = .ok (.iload_n 2, 1) := by decide +kernel
theorem nd_Slabs_lowestSlabWithRoom_28 : decode nb_Slabs_lowestSlabWithRoom 28 = .ok (.ireturn, 1) := by decide +kernel
theorem nd_Slabs_lowestSlabWithRoom_29 : decode nb_Slabs_lowestSlabWithRoom 29 = .ok (.iinc 2 1, 3) := by decide +kernel
theorem nd_Slabs_lowestSlabWithRoom_32 : decode nb_Slabs_lowestSlabWithRoom 32 = .ok (.goto (-30), 3) := by decide +kernel
theorem nd_Slabs_lowestSlabWithRoom_35 : decode nb_Slabs_lowestSlabWithRoom 35 = .ok (.iconst (-1), 1) := by decide +kernel
theorem nd_Slabs_lowestSlabWithRoom_36 : decode nb_Slabs_lowestSlabWithRoom 36 = .ok (.ireturn, 1) := by decide +kernel
theorem nd_Slabs_lowestRoom_0 : decode nb_Slabs_lowestRoom 0 = .ok (.iconst 0, 1) := by decide +kernel
theorem nd_Slabs_lowestRoom_1 : decode nb_Slabs_lowestRoom 1 = .ok (.istore_n 2, 1) := by decide +kernel
theorem nd_Slabs_lowestRoom_2 : decode nb_Slabs_lowestRoom 2 = .ok (.iload_n 2, 1) := by decide +kernel
theorem nd_Slabs_lowestRoom_3 : decode nb_Slabs_lowestRoom 3 = .ok (.bipush 16, 2) := by decide +kernel
theorem nd_Slabs_lowestRoom_5 : decode nb_Slabs_lowestRoom 5 = .ok (.if_icmp .ge 30, 3) := by decide +kernel
theorem nd_Slabs_lowestRoom_8 : decode nb_Slabs_lowestRoom 8 = .ok (.aload_n 0, 1) := by decide +kernel
theorem nd_Slabs_lowestRoom_9 : decode nb_Slabs_lowestRoom 9 = .ok (.iload_n 1, 1) := by decide +kernel
theorem nd_Slabs_lowestRoom_10 : decode nb_Slabs_lowestRoom 10 = .ok (.bipush 16, 2) := by decide +kernel
theorem nd_Slabs_lowestRoom_12 : decode nb_Slabs_lowestRoom 12 = .ok (.imul, 1) := by decide +kernel
theorem nd_Slabs_lowestRoom_13 : decode nb_Slabs_lowestRoom 13 = .ok (.iload_n 2, 1) := by decide +kernel
theorem nd_Slabs_lowestRoom_14 : decode nb_Slabs_lowestRoom 14 = .ok (.iadd, 1) := by decide +kernel
theorem nd_Slabs_lowestRoom_15 : decode nb_Slabs_lowestRoom 15 = .ok (.invokevirtual 33, 3) := by decide +kernel
theorem nd_Slabs_lowestRoom_18 : decode nb_Slabs_lowestRoom 18 = .ok (.iconst (-1), 1) := by decide +kernel
theorem nd_Slabs_lowestRoom_19 : decode nb_Slabs_lowestRoom 19 = .ok (.if_icmp .ne 10, 3) := by decide +kernel
theorem nd_Slabs_lowestRoom_22 : decode nb_Slabs_lowestRoom 22 = .ok (.iload_n 1, 1) := by decide +kernel
theorem nd_Slabs_lowestRoom_23 : decode nb_Slabs_lowestRoom 23 = .ok (.bipush 16, 2) := by decide +kernel
theorem nd_Slabs_lowestRoom_25 : decode nb_Slabs_lowestRoom 25 = .ok (.imul, 1) := by decide +kernel
theorem nd_Slabs_lowestRoom_26 : decode nb_Slabs_lowestRoom 26 = .ok (.iload_n 2, 1) := by decide +kernel
theorem nd_Slabs_lowestRoom_27 : decode nb_Slabs_lowestRoom 27 = .ok (.iadd, 1) := by decide +kernel
theorem nd_Slabs_lowestRoom_28 : decode nb_Slabs_lowestRoom 28 = .ok (.ireturn, 1) := by decide +kernel
theorem nd_Slabs_lowestRoom_29 : decode nb_Slabs_lowestRoom 29 = .ok (.iinc 2 1, 3) := by decide +kernel
theorem nd_Slabs_lowestRoom_32 : decode nb_Slabs_lowestRoom 32 = .ok (.goto (-30), 3) := by decide +kernel
theorem nd_Slabs_lowestRoom_35 : decode nb_Slabs_lowestRoom 35 = .ok (.iconst (-1), 1) := by decide +kernel
theorem nd_Slabs_lowestRoom_36 : decode nb_Slabs_lowestRoom 36 = .ok (.ireturn, 1) := by decide +kernel
theorem nd_Slabs_newSlab_0 : decode nb_Slabs_newSlab 0 = .ok (.aload_n 0, 1) := by decide +kernel
theorem nd_Slabs_newSlab_1 : decode nb_Slabs_newSlab 1 = .ok (.getfield 18, 3) := by decide +kernel
theorem nd_Slabs_newSlab_4 : decode nb_Slabs_newSlab 4 = .ok (.iconst 2, 1) := by decide +kernel
theorem nd_Slabs_newSlab_5 : decode nb_Slabs_newSlab 5 = .ok (.invokevirtual 48, 3) := by decide +kernel
theorem nd_Slabs_newSlab_8 : decode nb_Slabs_newSlab 8 = .ok (.istore_n 2, 1) := by decide +kernel
theorem nd_Slabs_newSlab_9 : decode nb_Slabs_newSlab 9 = .ok (.iload_n 2, 1) := by decide +kernel
theorem nd_Slabs_newSlab_10 : decode nb_Slabs_newSlab 10 = .ok (.iconst (-1), 1) := by decide +kernel
theorem nd_Slabs_newSlab_11 : decode nb_Slabs_newSlab 11 = .ok (.if_icmp .eq 10, 3) := by decide +kernel
theorem nd_Slabs_newSlab_14 : decode nb_Slabs_newSlab 14 = .ok (.aload_n 0, 1) := by decide +kernel
theorem nd_Slabs_newSlab_15 : decode nb_Slabs_newSlab 15 = .ok (.getfield 9, 3) := by decide +kernel
theorem nd_Slabs_newSlab_18 : decode nb_Slabs_newSlab 18 = .ok (.iload_n 2, 1) := by decide +kernel
theorem nd_Slabs_newSlab_19 : decode nb_Slabs_newSlab 19 = .ok (.iload_n 1, 1) := by decide +kernel
theorem nd_Slabs_newSlab_20 : decode nb_Slabs_newSlab 20 = .ok (.iastore, 1) := by decide +kernel
theorem nd_Slabs_newSlab_21 : decode nb_Slabs_newSlab 21 = .ok (.iload_n 2, 1) := by decide +kernel
theorem nd_Slabs_newSlab_22 : decode nb_Slabs_newSlab 22 = .ok (.ireturn, 1) := by decide +kernel
theorem nd_Slabs_takeLowest_0 : decode nb_Slabs_takeLowest 0 = .ok (.aload_n 0, 1) := by decide +kernel
theorem nd_Slabs_takeLowest_1 : decode nb_Slabs_takeLowest 1 = .ok (.iload_n 1, 1) := by decide +kernel
theorem nd_Slabs_takeLowest_2 : decode nb_Slabs_takeLowest 2 = .ok (.invokevirtual 45, 3) := by decide +kernel
theorem nd_Slabs_takeLowest_5 : decode nb_Slabs_takeLowest 5 = .ok (.istore_n 3, 1) := by decide +kernel
theorem nd_Slabs_takeLowest_6 : decode nb_Slabs_takeLowest 6 = .ok (.iload_n 3, 1) := by decide +kernel
theorem nd_Slabs_takeLowest_7 : decode nb_Slabs_takeLowest 7 = .ok (.iconst (-1), 1) := by decide +kernel
theorem nd_Slabs_takeLowest_8 : decode nb_Slabs_takeLowest 8 = .ok (.if_icmp .eq 26, 3) := by decide +kernel
theorem nd_Slabs_takeLowest_11 : decode nb_Slabs_takeLowest 11 = .ok (.aload_n 0, 1) := by decide +kernel
theorem nd_Slabs_takeLowest_12 : decode nb_Slabs_takeLowest 12 = .ok (.getfield 15, 3) := by decide +kernel
theorem nd_Slabs_takeLowest_15 : decode nb_Slabs_takeLowest 15 = .ok (.iload_n 1, 1) := by decide +kernel
theorem nd_Slabs_takeLowest_16 : decode nb_Slabs_takeLowest 16 = .ok (.dup2, 1) := by decide +kernel
theorem nd_Slabs_takeLowest_17 : decode nb_Slabs_takeLowest 17 = .ok (.iaload, 1) := by decide +kernel
theorem nd_Slabs_takeLowest_18 : decode nb_Slabs_takeLowest 18 = .ok (.aload_n 0, 1) := by decide +kernel
theorem nd_Slabs_takeLowest_19 : decode nb_Slabs_takeLowest 19 = .ok (.iload_n 3, 1) := by decide +kernel
theorem nd_Slabs_takeLowest_20 : decode nb_Slabs_takeLowest 20 = .ok (.invokevirtual 36, 3) := by decide +kernel
theorem nd_Slabs_takeLowest_23 : decode nb_Slabs_takeLowest 23 = .ok (.ior, 1) := by decide +kernel
theorem nd_Slabs_takeLowest_24 : decode nb_Slabs_takeLowest 24 = .ok (.iastore, 1) := by decide +kernel
theorem nd_Slabs_takeLowest_25 : decode nb_Slabs_takeLowest 25 = .ok (.aload_n 0, 1) := by decide +kernel
theorem nd_Slabs_takeLowest_26 : decode nb_Slabs_takeLowest 26 = .ok (.getfield 18, 3) := by decide +kernel
theorem nd_Slabs_takeLowest_29 : decode nb_Slabs_takeLowest 29 = .ok (.iload_n 3, 1) := by decide +kernel
theorem nd_Slabs_takeLowest_30 : decode nb_Slabs_takeLowest 30 = .ok (.iload_n 2, 1) := by decide +kernel
theorem nd_Slabs_takeLowest_31 : decode nb_Slabs_takeLowest 31 = .ok (.invokevirtual 51, 3) := by decide +kernel
theorem nd_Slabs_takeLowest_34 : decode nb_Slabs_takeLowest 34 = .ok (.iload_n 3, 1) := by decide +kernel
theorem nd_Slabs_takeLowest_35 : decode nb_Slabs_takeLowest 35 = .ok (.ireturn, 1) := by decide +kernel
theorem nd_Spaces_init_0 : decode nb_Spaces_init 0 = .ok (.aload_n 0, 1) := by decide +kernel
theorem nd_Spaces_init_1 : decode nb_Spaces_init 1 = .ok (.invokespecial 3, 3) := by decide +kernel
theorem nd_Spaces_init_4 : decode nb_Spaces_init 4 = .ok (.aload_n 0, 1) := by decide +kernel
theorem nd_Spaces_init_5 : decode nb_Spaces_init 5 = .ok (.iconst 4, 1) := by decide +kernel
theorem nd_Spaces_init_6 : decode nb_Spaces_init 6 = .ok (.newarray .int, 2) := by decide +kernel
theorem nd_Spaces_init_8 : decode nb_Spaces_init 8 = .ok (.putfield 9, 3) := by decide +kernel
theorem nd_Spaces_init_11 : decode nb_Spaces_init 11 = .ok (.aload_n 0, 1) := by decide +kernel
theorem nd_Spaces_init_12 : decode nb_Spaces_init 12 = .ok (.sipush 1024, 3) := by decide +kernel
theorem nd_Spaces_init_15 : decode nb_Spaces_init 15 = .ok (.newarray .boolean, 2) := by decide +kernel
theorem nd_Spaces_init_17 : decode nb_Spaces_init 17 = .ok (.putfield 15, 3) := by decide +kernel
theorem nd_Spaces_init_20 : decode nb_Spaces_init 20 = .ok (.aload_n 0, 1) := by decide +kernel
theorem nd_Spaces_init_21 : decode nb_Spaces_init 21 = .ok (.bipush 64, 2) := by decide +kernel
theorem nd_Spaces_init_23 : decode nb_Spaces_init 23 = .ok (.newarray .int, 2) := by decide +kernel
theorem nd_Spaces_init_25 : decode nb_Spaces_init 25 = .ok (.putfield 19, 3) := by decide +kernel
theorem nd_Spaces_init_28 : decode nb_Spaces_init 28 = .ok (.aload_n 0, 1) := by decide +kernel
theorem nd_Spaces_init_29 : decode nb_Spaces_init 29 = .ok (.aload_n 1, 1) := by decide +kernel
theorem nd_Spaces_init_30 : decode nb_Spaces_init 30 = .ok (.putfield 22, 3) := by decide +kernel
theorem nd_Spaces_init_33 : decode nb_Spaces_init 33 = .ok (.return_, 1) := by decide +kernel
theorem nd_Spaces_isThere_0 : decode nb_Spaces_isThere 0 = .ok (.iload_n 1, 1) := by decide +kernel
theorem nd_Spaces_isThere_1 : decode nb_Spaces_isThere 1 = .ok (.ifCond .lt 21, 3) := by decide +kernel
theorem nd_Spaces_isThere_4 : decode nb_Spaces_isThere 4 = .ok (.iload_n 1, 1) := by decide +kernel
theorem nd_Spaces_isThere_5 : decode nb_Spaces_isThere 5 = .ok (.iconst 4, 1) := by decide +kernel
theorem nd_Spaces_isThere_6 : decode nb_Spaces_isThere 6 = .ok (.if_icmp .ge 16, 3) := by decide +kernel
theorem nd_Spaces_isThere_9 : decode nb_Spaces_isThere 9 = .ok (.aload_n 0, 1) := by decide +kernel
theorem nd_Spaces_isThere_10 : decode nb_Spaces_isThere 10 = .ok (.getfield 9, 3) := by decide +kernel
theorem nd_Spaces_isThere_13 : decode nb_Spaces_isThere 13 = .ok (.iload_n 1, 1) := by decide +kernel
theorem nd_Spaces_isThere_14 : decode nb_Spaces_isThere 14 = .ok (.iaload, 1) := by decide +kernel
theorem nd_Spaces_isThere_15 : decode nb_Spaces_isThere 15 = .ok (.ifCond .eq 7, 3) := by decide +kernel
theorem nd_Spaces_isThere_18 : decode nb_Spaces_isThere 18 = .ok (.iconst 1, 1) := by decide +kernel
theorem nd_Spaces_isThere_19 : decode nb_Spaces_isThere 19 = .ok (.goto 4, 3) := by decide +kernel
theorem nd_Spaces_isThere_22 : decode nb_Spaces_isThere 22 = .ok (.iconst 0, 1) := by decide +kernel
theorem nd_Spaces_isThere_23 : decode nb_Spaces_isThere 23 = .ok (.ireturn, 1) := by decide +kernel
theorem nd_Spaces_add_0 : decode nb_Spaces_add 0 = .ok (.iconst 0, 1) := by decide +kernel
theorem nd_Spaces_add_1 : decode nb_Spaces_add 1 = .ok (.istore_n 1, 1) := by decide +kernel
theorem nd_Spaces_add_2 : decode nb_Spaces_add 2 = .ok (.iload_n 1, 1) := by decide +kernel
theorem nd_Spaces_add_3 : decode nb_Spaces_add 3 = .ok (.iconst 4, 1) := by decide +kernel
theorem nd_Spaces_add_4 : decode nb_Spaces_add 4 = .ok (.if_icmp .ge 49, 3) := by decide +kernel
theorem nd_Spaces_add_7 : decode nb_Spaces_add 7 = .ok (.aload_n 0, 1) := by decide +kernel
theorem nd_Spaces_add_8 : decode nb_Spaces_add 8 = .ok (.getfield 9, 3) := by decide +kernel
theorem nd_Spaces_add_11 : decode nb_Spaces_add 11 = .ok (.iload_n 1, 1) := by decide +kernel
theorem nd_Spaces_add_12 : decode nb_Spaces_add 12 = .ok (.iaload, 1) := by decide +kernel
theorem nd_Spaces_add_13 : decode nb_Spaces_add 13 = .ok (.ifCond .ne 34, 3) := by decide +kernel
theorem nd_Spaces_add_16 : decode nb_Spaces_add 16 = .ok (.aload_n 0, 1) := by decide +kernel
theorem nd_Spaces_add_17 : decode nb_Spaces_add 17 = .ok (.getfield 9, 3) := by decide +kernel
theorem nd_Spaces_add_20 : decode nb_Spaces_add 20 = .ok (.iload_n 1, 1) := by decide +kernel
theorem nd_Spaces_add_21 : decode nb_Spaces_add 21 = .ok (.iconst 1, 1) := by decide +kernel
theorem nd_Spaces_add_22 : decode nb_Spaces_add 22 = .ok (.aload_n 0, 1) := by decide +kernel
theorem nd_Spaces_add_23 : decode nb_Spaces_add 23 = .ok (.getfield 22, 3) := by decide +kernel
theorem nd_Spaces_add_26 : decode nb_Spaces_add 26 = .ok (.iconst 1, 1) := by decide +kernel
theorem nd_Spaces_add_27 : decode nb_Spaces_add 27 = .ok (.invokevirtual 26, 3) := by decide +kernel
theorem nd_Spaces_add_30 : decode nb_Spaces_add 30 = .ok (.iadd, 1) := by decide +kernel
theorem nd_Spaces_add_31 : decode nb_Spaces_add 31 = .ok (.iastore, 1) := by decide +kernel
theorem nd_Spaces_add_32 : decode nb_Spaces_add 32 = .ok (.aload_n 0, 1) := by decide +kernel
theorem nd_Spaces_add_33 : decode nb_Spaces_add 33 = .ok (.getfield 9, 3) := by decide +kernel
theorem nd_Spaces_add_36 : decode nb_Spaces_add 36 = .ok (.iload_n 1, 1) := by decide +kernel
theorem nd_Spaces_add_37 : decode nb_Spaces_add 37 = .ok (.iaload, 1) := by decide +kernel
theorem nd_Spaces_add_38 : decode nb_Spaces_add 38 = .ok (.ifCond .ne 7, 3) := by decide +kernel
theorem nd_Spaces_add_41 : decode nb_Spaces_add 41 = .ok (.iconst (-1), 1) := by decide +kernel
theorem nd_Spaces_add_42 : decode nb_Spaces_add 42 = .ok (.goto 4, 3) := by decide +kernel
theorem nd_Spaces_add_45 : decode nb_Spaces_add 45 = .ok (.iload_n 1, 1) := by decide +kernel
theorem nd_Spaces_add_46 : decode nb_Spaces_add 46 = .ok (.ireturn, 1) := by decide +kernel
theorem nd_Spaces_add_47 : decode nb_Spaces_add 47 = .ok (.iinc 1 1, 3) := by decide +kernel
theorem nd_Spaces_add_50 : decode nb_Spaces_add 50 = .ok (.goto (-48), 3) := by decide +kernel
theorem nd_Spaces_add_53 : decode nb_Spaces_add 53 = .ok (.iconst (-1), 1) := by decide +kernel
theorem nd_Spaces_add_54 : decode nb_Spaces_add 54 = .ok (.ireturn, 1) := by decide +kernel
theorem nd_Spaces_remove_0 : decode nb_Spaces_remove 0 = .ok (.aload_n 0, 1) := by decide +kernel
theorem nd_Spaces_remove_1 : decode nb_Spaces_remove 1 = .ok (.iload_n 1, 1) := by decide +kernel
theorem nd_Spaces_remove_2 : decode nb_Spaces_remove 2 = .ok (.invokevirtual 32, 3) := by decide +kernel
theorem nd_Spaces_remove_5 : decode nb_Spaces_remove 5 = .ok (.ifCond .ne 5, 3) := by decide +kernel
theorem nd_Spaces_remove_8 : decode nb_Spaces_remove 8 = .ok (.iconst (-1), 1) := by decide +kernel
theorem nd_Spaces_remove_9 : decode nb_Spaces_remove 9 = .ok (.ireturn, 1) := by decide +kernel
theorem nd_Spaces_remove_10 : decode nb_Spaces_remove 10 = .ok (.aload_n 0, 1) := by decide +kernel
theorem nd_Spaces_remove_11 : decode nb_Spaces_remove 11 = .ok (.aload_n 0, 1) := by decide +kernel
theorem nd_Spaces_remove_12 : decode nb_Spaces_remove 12 = .ok (.getfield 9, 3) := by decide +kernel
theorem nd_Spaces_remove_15 : decode nb_Spaces_remove 15 = .ok (.iload_n 1, 1) := by decide +kernel
theorem nd_Spaces_remove_16 : decode nb_Spaces_remove 16 = .ok (.iaload, 1) := by decide +kernel
theorem nd_Spaces_remove_17 : decode nb_Spaces_remove 17 = .ok (.iconst 1, 1) := by decide +kernel
theorem nd_Spaces_remove_18 : decode nb_Spaces_remove 18 = .ok (.isub, 1) := by decide +kernel
theorem nd_Spaces_remove_19 : decode nb_Spaces_remove 19 = .ok (.invokevirtual 36, 3) := by decide +kernel
theorem nd_Spaces_remove_22 : decode nb_Spaces_remove 22 = .ok (.istore_n 2, 1) := by decide +kernel
theorem nd_Spaces_remove_23 : decode nb_Spaces_remove 23 = .ok (.aload_n 0, 1) := by decide +kernel
theorem nd_Spaces_remove_24 : decode nb_Spaces_remove 24 = .ok (.getfield 9, 3) := by decide +kernel
theorem nd_Spaces_remove_27 : decode nb_Spaces_remove 27 = .ok (.iload_n 1, 1) := by decide +kernel
theorem nd_Spaces_remove_28 : decode nb_Spaces_remove 28 = .ok (.iconst 0, 1) := by decide +kernel
theorem nd_Spaces_remove_29 : decode nb_Spaces_remove 29 = .ok (.iastore, 1) := by decide +kernel
theorem nd_Spaces_remove_30 : decode nb_Spaces_remove 30 = .ok (.iconst 0, 1) := by decide +kernel
theorem nd_Spaces_remove_31 : decode nb_Spaces_remove 31 = .ok (.istore_n 3, 1) := by decide +kernel
theorem nd_Spaces_remove_32 : decode nb_Spaces_remove 32 = .ok (.iload_n 3, 1) := by decide +kernel
theorem nd_Spaces_remove_33 : decode nb_Spaces_remove 33 = .ok (.sipush 256, 3) := by decide +kernel
theorem nd_Spaces_remove_36 : decode nb_Spaces_remove 36 = .ok (.if_icmp .ge 22, 3) := by decide +kernel
theorem nd_Spaces_remove_39 : decode nb_Spaces_remove 39 = .ok (.aload_n 0, 1) := by decide +kernel
theorem nd_Spaces_remove_40 : decode nb_Spaces_remove 40 = .ok (.getfield 15, 3) := by decide +kernel
theorem nd_Spaces_remove_43 : decode nb_Spaces_remove 43 = .ok (.iload_n 1, 1) := by decide +kernel
theorem nd_Spaces_remove_44 : decode nb_Spaces_remove 44 = .ok (.sipush 256, 3) := by decide +kernel
theorem nd_Spaces_remove_47 : decode nb_Spaces_remove 47 = .ok (.imul, 1) := by decide +kernel
theorem nd_Spaces_remove_48 : decode nb_Spaces_remove 48 = .ok (.iload_n 3, 1) := by decide +kernel
theorem nd_Spaces_remove_49 : decode nb_Spaces_remove 49 = .ok (.iadd, 1) := by decide +kernel
theorem nd_Spaces_remove_50 : decode nb_Spaces_remove 50 = .ok (.iconst 0, 1) := by decide +kernel
theorem nd_Spaces_remove_51 : decode nb_Spaces_remove 51 = .ok (.bastore, 1) := by decide +kernel
theorem nd_Spaces_remove_52 : decode nb_Spaces_remove 52 = .ok (.iinc 3 1, 3) := by decide +kernel
theorem nd_Spaces_remove_55 : decode nb_Spaces_remove 55 = .ok (.goto (-23), 3) := by decide +kernel
theorem nd_Spaces_remove_58 : decode nb_Spaces_remove 58 = .ok (.iload_n 2, 1) := by decide +kernel
theorem nd_Spaces_remove_59 : decode nb_Spaces_remove 59 = .ok (.ireturn, 1) := by decide +kernel
theorem nd_Spaces_isInRegion_0 : decode nb_Spaces_isInRegion 0 = .ok (.aload_n 0, 1) := by decide +kernel
theorem nd_Spaces_isInRegion_1 : decode nb_Spaces_isInRegion 1 = .ok (.iload_n 1, 1) := by decide +kernel
theorem nd_Spaces_isInRegion_2 : decode nb_Spaces_isInRegion 2 = .ok (.invokevirtual 32, 3) := by decide +kernel
theorem nd_Spaces_isInRegion_5 : decode nb_Spaces_isInRegion 5 = .ok (.ifCond .eq 29, 3) := by decide +kernel
theorem nd_Spaces_isInRegion_8 : decode nb_Spaces_isInRegion 8 = .ok (.iload_n 2, 1) := by decide +kernel
theorem nd_Spaces_isInRegion_9 : decode nb_Spaces_isInRegion 9 = .ok (.invokestatic 39, 3) := by decide +kernel
theorem nd_Spaces_isInRegion_12 : decode nb_Spaces_isInRegion 12 = .ok (.ifCond .eq 22, 3) := by decide +kernel
theorem nd_Spaces_isInRegion_15 : decode nb_Spaces_isInRegion 15 = .ok (.aload_n 0, 1) := by decide +kernel
theorem nd_Spaces_isInRegion_16 : decode nb_Spaces_isInRegion 16 = .ok (.getfield 15, 3) := by decide +kernel
theorem nd_Spaces_isInRegion_19 : decode nb_Spaces_isInRegion 19 = .ok (.iload_n 1, 1) := by decide +kernel
theorem nd_Spaces_isInRegion_20 : decode nb_Spaces_isInRegion 20 = .ok (.sipush 256, 3) := by decide +kernel
theorem nd_Spaces_isInRegion_23 : decode nb_Spaces_isInRegion 23 = .ok (.imul, 1) := by decide +kernel
theorem nd_Spaces_isInRegion_24 : decode nb_Spaces_isInRegion 24 = .ok (.iload_n 2, 1) := by decide +kernel
theorem nd_Spaces_isInRegion_25 : decode nb_Spaces_isInRegion 25 = .ok (.iadd, 1) := by decide +kernel
theorem nd_Spaces_isInRegion_26 : decode nb_Spaces_isInRegion 26 = .ok (.baload, 1) := by decide +kernel
theorem nd_Spaces_isInRegion_27 : decode nb_Spaces_isInRegion 27 = .ok (.ifCond .eq 7, 3) := by decide +kernel
theorem nd_Spaces_isInRegion_30 : decode nb_Spaces_isInRegion 30 = .ok (.iconst 1, 1) := by decide +kernel
theorem nd_Spaces_isInRegion_31 : decode nb_Spaces_isInRegion 31 = .ok (.goto 4, 3) := by decide +kernel
theorem nd_Spaces_isInRegion_34 : decode nb_Spaces_isInRegion 34 = .ok (.iconst 0, 1) := by decide +kernel
theorem nd_Spaces_isInRegion_35 : decode nb_Spaces_isInRegion 35 = .ok (.ireturn, 1) := by decide +kernel
theorem nd_Spaces_anyInRegion_0 : decode nb_Spaces_anyInRegion 0 = .ok (.iload_n 2, 1) := by decide +kernel
theorem nd_Spaces_anyInRegion_1 : decode nb_Spaces_anyInRegion 1 = .ok (.istore 4, 2) := by decide +kernel
theorem nd_Spaces_anyInRegion_3 : decode nb_Spaces_anyInRegion 3 = .ok (.iload 4, 2) := by decide +kernel
theorem nd_Spaces_anyInRegion_5 : decode nb_Spaces_anyInRegion 5 = .ok (.iload_n 2, 1) := by decide +kernel
theorem nd_Spaces_anyInRegion_6 : decode nb_Spaces_anyInRegion 6 = .ok (.iload_n 3, 1) := by decide +kernel
theorem nd_Spaces_anyInRegion_7 : decode nb_Spaces_anyInRegion 7 = .ok (.iadd, 1) := by decide +kernel
theorem nd_Spaces_anyInRegion_8 : decode nb_Spaces_anyInRegion 8 = .ok (.if_icmp .ge 21, 3) := by decide +kernel
theorem nd_Spaces_anyInRegion_11 : decode nb_Spaces_anyInRegion 11 = .ok (.aload_n 0, 1) := by decide +kernel
theorem nd_Spaces_anyInRegion_12 : decode nb_Spaces_anyInRegion 12 = .ok (.iload_n 1, 1) := by decide +kernel
theorem nd_Spaces_anyInRegion_13 : decode nb_Spaces_anyInRegion 13 = .ok (.iload 4, 2) := by decide +kernel
theorem nd_Spaces_anyInRegion_15 : decode nb_Spaces_anyInRegion 15 = .ok (.invokevirtual 42, 3) := by decide +kernel
theorem nd_Spaces_anyInRegion_18 : decode nb_Spaces_anyInRegion 18 = .ok (.ifCond .eq 5, 3) := by decide +kernel
theorem nd_Spaces_anyInRegion_21 : decode nb_Spaces_anyInRegion 21 = .ok (.iconst 1, 1) := by decide +kernel
theorem nd_Spaces_anyInRegion_22 : decode nb_Spaces_anyInRegion 22 = .ok (.ireturn, 1) := by decide +kernel
theorem nd_Spaces_anyInRegion_23 : decode nb_Spaces_anyInRegion 23 = .ok (.iinc 4 1, 3) := by decide +kernel
theorem nd_Spaces_anyInRegion_26 : decode nb_Spaces_anyInRegion 26 = .ok (.goto (-23), 3) := by decide +kernel
theorem nd_Spaces_anyInRegion_29 : decode nb_Spaces_anyInRegion 29 = .ok (.iconst 0, 1) := by decide +kernel
theorem nd_Spaces_anyInRegion_30 : decode nb_Spaces_anyInRegion 30 = .ok (.ireturn, 1) := by decide +kernel
theorem nd_Spaces_putInRegion_0 : decode nb_Spaces_putInRegion 0 = .ok (.iload_n 2, 1) := by decide +kernel
theorem nd_Spaces_putInRegion_1 : decode nb_Spaces_putInRegion 1 = .ok (.istore 4, 2) := by decide +kernel
theorem nd_Spaces_putInRegion_3 : decode nb_Spaces_putInRegion 3 = .ok (.iload 4, 2) := by decide +kernel
theorem nd_Spaces_putInRegion_5 : decode nb_Spaces_putInRegion 5 = .ok (.iload_n 2, 1) := by decide +kernel
theorem nd_Spaces_putInRegion_6 : decode nb_Spaces_putInRegion 6 = .ok (.iload_n 3, 1) := by decide +kernel
theorem nd_Spaces_putInRegion_7 : decode nb_Spaces_putInRegion 7 = .ok (.iadd, 1) := by decide +kernel
theorem nd_Spaces_putInRegion_8 : decode nb_Spaces_putInRegion 8 = .ok (.if_icmp .ge 17, 3) := by decide +kernel
theorem nd_Spaces_putInRegion_11 : decode nb_Spaces_putInRegion 11 = .ok (.aload_n 0, 1) := by decide +kernel
theorem nd_Spaces_putInRegion_12 : decode nb_Spaces_putInRegion 12 = .ok (.iload_n 1, 1) := by decide +kernel
theorem nd_Spaces_putInRegion_13 : decode nb_Spaces_putInRegion 13 = .ok (.iload 4, 2) := by decide +kernel
theorem nd_Spaces_putInRegion_15 : decode nb_Spaces_putInRegion 15 = .ok (.iconst 1, 1) := by decide +kernel
theorem nd_Spaces_putInRegion_16 : decode nb_Spaces_putInRegion 16 = .ok (.invokevirtual 46, 3) := by decide +kernel
theorem nd_Spaces_putInRegion_19 : decode nb_Spaces_putInRegion 19 = .ok (.iinc 4 1, 3) := by decide +kernel
theorem nd_Spaces_putInRegion_22 : decode nb_Spaces_putInRegion 22 = .ok (.goto (-19), 3) := by decide +kernel
theorem nd_Spaces_putInRegion_25 : decode nb_Spaces_putInRegion 25 = .ok (.return_, 1) := by decide +kernel
theorem nd_Spaces_takeFromRegion_0 : decode nb_Spaces_takeFromRegion 0 = .ok (.iconst 0, 1) := by decide +kernel
theorem nd_Spaces_takeFromRegion_1 : decode nb_Spaces_takeFromRegion 1 = .ok (.istore 4, 2) := by decide +kernel
theorem nd_Spaces_takeFromRegion_3 : decode nb_Spaces_takeFromRegion 3 = .ok (.iload_n 2, 1) := by decide +kernel
theorem nd_Spaces_takeFromRegion_4 : decode nb_Spaces_takeFromRegion 4 = .ok (.istore 5, 2) := by decide +kernel
theorem nd_Spaces_takeFromRegion_6 : decode nb_Spaces_takeFromRegion 6 = .ok (.iload 5, 2) := by decide +kernel
theorem nd_Spaces_takeFromRegion_8 : decode nb_Spaces_takeFromRegion 8 = .ok (.iload_n 2, 1) := by decide +kernel
theorem nd_Spaces_takeFromRegion_9 : decode nb_Spaces_takeFromRegion 9 = .ok (.iload_n 3, 1) := by decide +kernel
theorem nd_Spaces_takeFromRegion_10 : decode nb_Spaces_takeFromRegion 10 = .ok (.iadd, 1) := by decide +kernel
theorem nd_Spaces_takeFromRegion_11 : decode nb_Spaces_takeFromRegion 11 = .ok (.if_icmp .ge 38, 3) := by decide +kernel
theorem nd_Spaces_takeFromRegion_14 : decode nb_Spaces_takeFromRegion 14 = .ok (.aload_n 0, 1) := by decide +kernel
theorem nd_Spaces_takeFromRegion_15 : decode nb_Spaces_takeFromRegion 15 = .ok (.iload_n 1, 1) := by decide +kernel
theorem nd_Spaces_takeFromRegion_16 : decode nb_Spaces_takeFromRegion 16 = .ok (.iload 5, 2) := by decide +kernel
theorem nd_Spaces_takeFromRegion_18 : decode nb_Spaces_takeFromRegion 18 = .ok (.iconst 0, 1) := by decide +kernel
theorem nd_Spaces_takeFromRegion_19 : decode nb_Spaces_takeFromRegion 19 = .ok (.invokevirtual 46, 3) := by decide +kernel
theorem nd_Spaces_takeFromRegion_22 : decode nb_Spaces_takeFromRegion 22 = .ok (.aload_n 0, 1) := by decide +kernel
theorem nd_Spaces_takeFromRegion_23 : decode nb_Spaces_takeFromRegion 23 = .ok (.iload_n 1, 1) := by decide +kernel
theorem nd_Spaces_takeFromRegion_24 : decode nb_Spaces_takeFromRegion 24 = .ok (.iload 5, 2) := by decide +kernel
theorem nd_Spaces_takeFromRegion_26 : decode nb_Spaces_takeFromRegion 26 = .ok (.invokevirtual 50, 3) := by decide +kernel
theorem nd_Spaces_takeFromRegion_29 : decode nb_Spaces_takeFromRegion 29 = .ok (.iconst (-1), 1) := by decide +kernel
theorem nd_Spaces_takeFromRegion_30 : decode nb_Spaces_takeFromRegion 30 = .ok (.if_icmp .eq 13, 3) := by decide +kernel
theorem nd_Spaces_takeFromRegion_33 : decode nb_Spaces_takeFromRegion 33 = .ok (.aload_n 0, 1) := by decide +kernel
theorem nd_Spaces_takeFromRegion_34 : decode nb_Spaces_takeFromRegion 34 = .ok (.iload_n 1, 1) := by decide +kernel
theorem nd_Spaces_takeFromRegion_35 : decode nb_Spaces_takeFromRegion 35 = .ok (.iload 5, 2) := by decide +kernel
theorem nd_Spaces_takeFromRegion_37 : decode nb_Spaces_takeFromRegion 37 = .ok (.invokevirtual 54, 3) := by decide +kernel
theorem nd_Spaces_takeFromRegion_40 : decode nb_Spaces_takeFromRegion 40 = .ok (.iinc 4 1, 3) := by decide +kernel
theorem nd_Spaces_takeFromRegion_43 : decode nb_Spaces_takeFromRegion 43 = .ok (.iinc 5 1, 3) := by decide +kernel
theorem nd_Spaces_takeFromRegion_46 : decode nb_Spaces_takeFromRegion 46 = .ok (.goto (-40), 3) := by decide +kernel
theorem nd_Spaces_takeFromRegion_49 : decode nb_Spaces_takeFromRegion 49 = .ok (.iload 4, 2) := by decide +kernel
theorem nd_Spaces_takeFromRegion_51 : decode nb_Spaces_takeFromRegion 51 = .ok (.ireturn, 1) := by decide +kernel
theorem nd_Spaces_frameOf_0 : decode nb_Spaces_frameOf 0 = .ok (.aload_n 0, 1) := by decide +kernel
theorem nd_Spaces_frameOf_1 : decode nb_Spaces_frameOf 1 = .ok (.iload_n 1, 1) := by decide +kernel
theorem nd_Spaces_frameOf_2 : decode nb_Spaces_frameOf 2 = .ok (.iload_n 2, 1) := by decide +kernel
theorem nd_Spaces_frameOf_3 : decode nb_Spaces_frameOf 3 = .ok (.invokevirtual 58, 3) := by decide +kernel
theorem nd_Spaces_frameOf_6 : decode nb_Spaces_frameOf 6 = .ok (.istore_n 3, 1) := by decide +kernel
theorem nd_Spaces_frameOf_7 : decode nb_Spaces_frameOf 7 = .ok (.iload_n 3, 1) := by decide +kernel
theorem nd_Spaces_frameOf_8 : decode nb_Spaces_frameOf 8 = .ok (.iconst (-1), 1) := by decide +kernel
theorem nd_Spaces_frameOf_9 : decode nb_Spaces_frameOf 9 = .ok (.if_icmp .ne 7, 3) := by decide +kernel
theorem nd_Spaces_frameOf_12 : decode nb_Spaces_frameOf 12 = .ok (.iconst (-1), 1) := by decide +kernel
theorem nd_Spaces_frameOf_13 : decode nb_Spaces_frameOf 13 = .ok (.goto 21, 3) := by decide +kernel
theorem nd_Spaces_frameOf_16 : decode nb_Spaces_frameOf 16 = .ok (.aload_n 0, 1) := by decide +kernel
theorem nd_Spaces_frameOf_17 : decode nb_Spaces_frameOf 17 = .ok (.getfield 22, 3) := by decide +kernel
theorem nd_Spaces_frameOf_20 : decode nb_Spaces_frameOf 20 = .ok (.iload_n 3, 1) := by decide +kernel
theorem nd_Spaces_frameOf_21 : decode nb_Spaces_frameOf 21 = .ok (.bipush 16, 2) := by decide +kernel
theorem nd_Spaces_frameOf_23 : decode nb_Spaces_frameOf 23 = .ok (.imul, 1) := by decide +kernel
theorem nd_Spaces_frameOf_24 : decode nb_Spaces_frameOf 24 = .ok (.iload_n 2, 1) := by decide +kernel
theorem nd_Spaces_frameOf_25 : decode nb_Spaces_frameOf 25 = .ok (.bipush 16, 2) := by decide +kernel
theorem nd_Spaces_frameOf_27 : decode nb_Spaces_frameOf 27 = .ok (.irem, 1) := by decide +kernel
theorem nd_Spaces_frameOf_28 : decode nb_Spaces_frameOf 28 = .ok (.iadd, 1) := by decide +kernel
theorem nd_Spaces_frameOf_29 : decode nb_Spaces_frameOf 29 = .ok (.invokevirtual 61, 3) := by decide +kernel
theorem nd_Spaces_frameOf_32 : decode nb_Spaces_frameOf 32 = .ok (.iconst 1, 1) := by decide +kernel
theorem nd_Spaces_frameOf_33 : decode nb_Spaces_frameOf 33 = .ok (.isub, 1) := by decide +kernel
theorem nd_Spaces_frameOf_34 : decode nb_Spaces_frameOf 34 = .ok (.ireturn, 1) := by decide +kernel
theorem nd_Spaces_touch_0 : decode nb_Spaces_touch 0 = .ok (.aload_n 0, 1) := by decide +kernel
theorem nd_Spaces_touch_1 : decode nb_Spaces_touch 1 = .ok (.iload_n 1, 1) := by decide +kernel
theorem nd_Spaces_touch_2 : decode nb_Spaces_touch 2 = .ok (.iload_n 2, 1) := by decide +kernel
theorem nd_Spaces_touch_3 : decode nb_Spaces_touch 3 = .ok (.invokevirtual 50, 3) := by decide +kernel
theorem nd_Spaces_touch_6 : decode nb_Spaces_touch 6 = .ok (.istore_n 3, 1) := by decide +kernel
theorem nd_Spaces_touch_7 : decode nb_Spaces_touch 7 = .ok (.iload_n 3, 1) := by decide +kernel
theorem nd_Spaces_touch_8 : decode nb_Spaces_touch 8 = .ok (.iconst (-1), 1) := by decide +kernel
theorem nd_Spaces_touch_9 : decode nb_Spaces_touch 9 = .ok (.if_icmp .ne 12, 3) := by decide +kernel
theorem nd_Spaces_touch_12 : decode nb_Spaces_touch 12 = .ok (.aload_n 0, 1) := by decide +kernel
theorem nd_Spaces_touch_13 : decode nb_Spaces_touch 13 = .ok (.iload_n 1, 1) := by decide +kernel
theorem nd_Spaces_touch_14 : decode nb_Spaces_touch 14 = .ok (.iload_n 2, 1) := by decide +kernel
theorem nd_Spaces_touch_15 : decode nb_Spaces_touch 15 = .ok (.invokevirtual 42, 3) := by decide +kernel
theorem nd_Spaces_touch_18 : decode nb_Spaces_touch 18 = .ok (.ifCond .ne 5, 3) := by decide +kernel
theorem nd_Spaces_touch_21 : decode nb_Spaces_touch 21 = .ok (.iload_n 3, 1) := by decide +kernel
theorem nd_Spaces_touch_22 : decode nb_Spaces_touch 22 = .ok (.ireturn, 1) := by decide +kernel
theorem nd_Spaces_touch_23 : decode nb_Spaces_touch 23 = .ok (.aload_n 0, 1) := by decide +kernel
theorem nd_Spaces_touch_24 : decode nb_Spaces_touch 24 = .ok (.iload_n 1, 1) := by decide +kernel
theorem nd_Spaces_touch_25 : decode nb_Spaces_touch 25 = .ok (.iload_n 2, 1) := by decide +kernel
theorem nd_Spaces_touch_26 : decode nb_Spaces_touch 26 = .ok (.invokevirtual 58, 3) := by decide +kernel
theorem nd_Spaces_touch_29 : decode nb_Spaces_touch 29 = .ok (.istore 4, 2) := by decide +kernel
theorem nd_Spaces_touch_31 : decode nb_Spaces_touch 31 = .ok (.aload_n 0, 1) := by decide +kernel
theorem nd_Spaces_touch_32 : decode nb_Spaces_touch 32 = .ok (.getfield 22, 3) := by decide +kernel
theorem nd_Spaces_touch_35 : decode nb_Spaces_touch 35 = .ok (.invokevirtual 64, 3) := by decide +kernel
theorem nd_Spaces_touch_38 : decode nb_Spaces_touch 38 = .ok (.iload 4, 2) := by decide +kernel
theorem nd_Spaces_touch_40 : decode nb_Spaces_touch 40 = .ok (.iconst (-1), 1) := by decide +kernel
theorem nd_Spaces_touch_41 : decode nb_Spaces_touch 41 = .ok (.if_icmp .ne 7, 3) := by decide +kernel
theorem nd_Spaces_touch_44 : decode nb_Spaces_touch 44 = .ok (.iconst 2, 1) := by decide +kernel
theorem nd_Spaces_touch_45 : decode nb_Spaces_touch 45 = .ok (.goto 4, 3) := by decide +kernel
theorem nd_Spaces_touch_48 : decode nb_Spaces_touch 48 = .ok (.iconst 1, 1) := by decide +kernel
theorem nd_Spaces_touch_49 : decode nb_Spaces_touch 49 = .ok (.if_icmp .ge 5, 3) := by decide +kernel
theorem nd_Spaces_touch_52 : decode nb_Spaces_touch 52 = .ok (.iconst (-1), 1) := by decide +kernel
theorem nd_Spaces_touch_53 : decode nb_Spaces_touch 53 = .ok (.ireturn, 1) := by decide +kernel
theorem nd_Spaces_touch_54 : decode nb_Spaces_touch 54 = .ok (.iload 4, 2) := by decide +kernel
theorem nd_Spaces_touch_56 : decode nb_Spaces_touch 56 = .ok (.iconst (-1), 1) := by decide +kernel
theorem nd_Spaces_touch_57 : decode nb_Spaces_touch 57 = .ok (.if_icmp .ne 30, 3) := by decide +kernel
theorem nd_Spaces_touch_60 : decode nb_Spaces_touch 60 = .ok (.aload_n 0, 1) := by decide +kernel
theorem nd_Spaces_touch_61 : decode nb_Spaces_touch 61 = .ok (.getfield 22, 3) := by decide +kernel
theorem nd_Spaces_touch_64 : decode nb_Spaces_touch 64 = .ok (.iconst 1, 1) := by decide +kernel
theorem nd_Spaces_touch_65 : decode nb_Spaces_touch 65 = .ok (.invokevirtual 26, 3) := by decide +kernel
theorem nd_Spaces_touch_68 : decode nb_Spaces_touch 68 = .ok (.istore 4, 2) := by decide +kernel
theorem nd_Spaces_touch_70 : decode nb_Spaces_touch 70 = .ok (.aload_n 0, 1) := by decide +kernel
theorem nd_Spaces_touch_71 : decode nb_Spaces_touch 71 = .ok (.getfield 22, 3) := by decide +kernel
theorem nd_Spaces_touch_74 : decode nb_Spaces_touch 74 = .ok (.aload_n 0, 1) := by decide +kernel
theorem nd_Spaces_touch_75 : decode nb_Spaces_touch 75 = .ok (.iload_n 1, 1) := by decide +kernel
theorem nd_Spaces_touch_76 : decode nb_Spaces_touch 76 = .ok (.iload_n 2, 1) := by decide +kernel
theorem nd_Spaces_touch_77 : decode nb_Spaces_touch 77 = .ok (.invokevirtual 68, 3) := by decide +kernel
theorem nd_Spaces_touch_80 : decode nb_Spaces_touch 80 = .ok (.iconst 1, 1) := by decide +kernel
theorem nd_Spaces_touch_81 : decode nb_Spaces_touch 81 = .ok (.iload 4, 2) := by decide +kernel
theorem nd_Spaces_touch_83 : decode nb_Spaces_touch 83 = .ok (.iadd, 1) := by decide +kernel
theorem nd_Spaces_touch_84 : decode nb_Spaces_touch 84 = .ok (.invokevirtual 71, 3) := by decide +kernel
theorem nd_Spaces_touch_87 : decode nb_Spaces_touch 87 = .ok (.aload_n 0, 1) := by decide +kernel
theorem nd_Spaces_touch_88 : decode nb_Spaces_touch 88 = .ok (.getfield 22, 3) := by decide +kernel
theorem nd_Spaces_touch_91 : decode nb_Spaces_touch 91 = .ok (.iconst 4, 1) := by decide +kernel
theorem nd_Spaces_touch_92 : decode nb_Spaces_touch 92 = .ok (.invokevirtual 26, 3) := by decide +kernel
theorem nd_Spaces_touch_95 : decode nb_Spaces_touch 95 = .ok (.istore_n 3, 1) := by decide +kernel
theorem nd_Spaces_touch_96 : decode nb_Spaces_touch 96 = .ok (.aload_n 0, 1) := by decide +kernel
theorem nd_Spaces_touch_97 : decode nb_Spaces_touch 97 = .ok (.iload 4, 2) := by decide +kernel
theorem nd_Spaces_touch_99 : decode nb_Spaces_touch 99 = .ok (.bipush 16, 2) := by decide +kernel
theorem nd_Spaces_touch_101 : decode nb_Spaces_touch 101 = .ok (.imul, 1) := by decide +kernel
theorem nd_Spaces_touch_102 : decode nb_Spaces_touch 102 = .ok (.iload_n 2, 1) := by decide +kernel
theorem nd_Spaces_touch_103 : decode nb_Spaces_touch 103 = .ok (.bipush 16, 2) := by decide +kernel
theorem nd_Spaces_touch_105 : decode nb_Spaces_touch 105 = .ok (.irem, 1) := by decide +kernel
theorem nd_Spaces_touch_106 : decode nb_Spaces_touch 106 = .ok (.iadd, 1) := by decide +kernel
theorem nd_Spaces_touch_107 : decode nb_Spaces_touch 107 = .ok (.iload_n 3, 1) := by decide +kernel
theorem nd_Spaces_touch_108 : decode nb_Spaces_touch 108 = .ok (.invokevirtual 74, 3) := by decide +kernel
theorem nd_Spaces_touch_111 : decode nb_Spaces_touch 111 = .ok (.iload_n 3, 1) := by decide +kernel
theorem nd_Spaces_touch_112 : decode nb_Spaces_touch 112 = .ok (.ireturn, 1) := by decide +kernel
theorem nd_Spaces_movePage_0 : decode nb_Spaces_movePage 0 = .ok (.iload_n 1, 1) := by decide +kernel
theorem nd_Spaces_movePage_1 : decode nb_Spaces_movePage 1 = .ok (.invokestatic 77, 3) := by decide +kernel
theorem nd_Spaces_movePage_4 : decode nb_Spaces_movePage 4 = .ok (.ifCond .eq 10, 3) := by decide +kernel
theorem nd_Spaces_movePage_7 : decode nb_Spaces_movePage 7 = .ok (.iload_n 2, 1) := by decide +kernel
theorem nd_Spaces_movePage_8 : decode nb_Spaces_movePage 8 = .ok (.invokestatic 77, 3) := by decide +kernel
theorem nd_Spaces_movePage_11 : decode nb_Spaces_movePage 11 = .ok (.ifCond .ne 4, 3) := by decide +kernel
theorem nd_Spaces_movePage_14 : decode nb_Spaces_movePage 14 = .ok (.return_, 1) := by decide +kernel
theorem nd_Spaces_movePage_15 : decode nb_Spaces_movePage 15 = .ok (.aload_n 0, 1) := by decide +kernel
theorem nd_Spaces_movePage_16 : decode nb_Spaces_movePage 16 = .ok (.getfield 22, 3) := by decide +kernel
theorem nd_Spaces_movePage_19 : decode nb_Spaces_movePage 19 = .ok (.iload_n 2, 1) := by decide +kernel
theorem nd_Spaces_movePage_20 : decode nb_Spaces_movePage 20 = .ok (.iconst 4, 1) := by decide +kernel
theorem nd_Spaces_movePage_21 : decode nb_Spaces_movePage 21 = .ok (.invokevirtual 80, 3) := by decide +kernel
theorem nd_Spaces_movePage_24 : decode nb_Spaces_movePage 24 = .ok (.aload_n 0, 1) := by decide +kernel
theorem nd_Spaces_movePage_25 : decode nb_Spaces_movePage 25 = .ok (.getfield 22, 3) := by decide +kernel
theorem nd_Spaces_movePage_28 : decode nb_Spaces_movePage 28 = .ok (.iload_n 1, 1) := by decide +kernel
theorem nd_Spaces_movePage_29 : decode nb_Spaces_movePage 29 = .ok (.iload_n 2, 1) := by decide +kernel
theorem nd_Spaces_movePage_30 : decode nb_Spaces_movePage 30 = .ok (.invokevirtual 83, 3) := by decide +kernel
theorem nd_Spaces_movePage_33 : decode nb_Spaces_movePage 33 = .ok (.aload_n 0, 1) := by decide +kernel
theorem nd_Spaces_movePage_34 : decode nb_Spaces_movePage 34 = .ok (.getfield 22, 3) := by decide +kernel
theorem nd_Spaces_movePage_37 : decode nb_Spaces_movePage 37 = .ok (.iload_n 1, 1) := by decide +kernel
theorem nd_Spaces_movePage_38 : decode nb_Spaces_movePage 38 = .ok (.invokevirtual 86, 3) := by decide +kernel
theorem nd_Spaces_movePage_41 : decode nb_Spaces_movePage 41 = .ok (.aload_n 0, 1) := by decide +kernel
theorem nd_Spaces_movePage_42 : decode nb_Spaces_movePage 42 = .ok (.aload_n 0, 1) := by decide +kernel
theorem nd_Spaces_movePage_43 : decode nb_Spaces_movePage 43 = .ok (.getfield 19, 3) := by decide +kernel
theorem nd_Spaces_movePage_46 : decode nb_Spaces_movePage 46 = .ok (.iload_n 1, 1) := by decide +kernel
theorem nd_Spaces_movePage_47 : decode nb_Spaces_movePage 47 = .ok (.iaload, 1) := by decide +kernel
theorem nd_Spaces_movePage_48 : decode nb_Spaces_movePage 48 = .ok (.iload_n 2, 1) := by decide +kernel
theorem nd_Spaces_movePage_49 : decode nb_Spaces_movePage 49 = .ok (.invokevirtual 74, 3) := by decide +kernel
theorem nd_Spaces_movePage_52 : decode nb_Spaces_movePage 52 = .ok (.return_, 1) := by decide +kernel
theorem nd_Spaces_isPage_0 : decode nb_Spaces_isPage 0 = .ok (.iload_n 0, 1) := by decide +kernel
theorem nd_Spaces_isPage_1 : decode nb_Spaces_isPage 1 = .ok (.ifCond .lt 14, 3) := by decide +kernel
theorem nd_Spaces_isPage_4 : decode nb_Spaces_isPage 4 = .ok (.iload_n 0, 1) := by decide +kernel
theorem nd_Spaces_isPage_5 : decode nb_Spaces_isPage 5 = .ok (.sipush 256, 3) := by decide +kernel
theorem nd_Spaces_isPage_8 : decode nb_Spaces_isPage 8 = .ok (.if_icmp .ge 7, 3) := by decide +kernel
theorem nd_Spaces_isPage_11 : decode nb_Spaces_isPage 11 = .ok (.iconst 1, 1) := by decide +kernel
theorem nd_Spaces_isPage_12 : decode nb_Spaces_isPage 12 = .ok (.goto 4, 3) := by decide +kernel
theorem nd_Spaces_isPage_15 : decode nb_Spaces_isPage 15 = .ok (.iconst 0, 1) := by decide +kernel
theorem nd_Spaces_isPage_16 : decode nb_Spaces_isPage 16 = .ok (.ireturn, 1) := by decide +kernel
theorem nd_Spaces_setRegion_0 : decode nb_Spaces_setRegion 0 = .ok (.aload_n 0, 1) := by decide +kernel
theorem nd_Spaces_setRegion_1 : decode nb_Spaces_setRegion 1 = .ok (.iload_n 1, 1) := by decide +kernel
theorem nd_Spaces_setRegion_2 : decode nb_Spaces_setRegion 2 = .ok (.invokevirtual 32, 3) := by decide +kernel
theorem nd_Spaces_setRegion_5 : decode nb_Spaces_setRegion 5 = .ok (.ifCond .eq 23, 3) := by decide +kernel
theorem nd_Spaces_setRegion_8 : decode nb_Spaces_setRegion 8 = .ok (.iload_n 2, 1) := by decide +kernel
theorem nd_Spaces_setRegion_9 : decode nb_Spaces_setRegion 9 = .ok (.invokestatic 39, 3) := by decide +kernel
theorem nd_Spaces_setRegion_12 : decode nb_Spaces_setRegion 12 = .ok (.ifCond .eq 16, 3) := by decide +kernel
theorem nd_Spaces_setRegion_15 : decode nb_Spaces_setRegion 15 = .ok (.aload_n 0, 1) := by decide +kernel
theorem nd_Spaces_setRegion_16 : decode nb_Spaces_setRegion 16 = .ok (.getfield 15, 3) := by decide +kernel
theorem nd_Spaces_setRegion_19 : decode nb_Spaces_setRegion 19 = .ok (.iload_n 1, 1) := by decide +kernel
theorem nd_Spaces_setRegion_20 : decode nb_Spaces_setRegion 20 = .ok (.sipush 256, 3) := by decide +kernel
theorem nd_Spaces_setRegion_23 : decode nb_Spaces_setRegion 23 = .ok (.imul, 1) := by decide +kernel
theorem nd_Spaces_setRegion_24 : decode nb_Spaces_setRegion 24 = .ok (.iload_n 2, 1) := by decide +kernel
theorem nd_Spaces_setRegion_25 : decode nb_Spaces_setRegion 25 = .ok (.iadd, 1) := by decide +kernel
theorem nd_Spaces_setRegion_26 : decode nb_Spaces_setRegion 26 = .ok (.iload_n 3, 1) := by decide +kernel
theorem nd_Spaces_setRegion_27 : decode nb_Spaces_setRegion 27 = .ok (.bastore, 1) := by decide +kernel
theorem nd_Spaces_setRegion_28 : decode nb_Spaces_setRegion 28 = .ok (.return_, 1) := by decide +kernel
theorem nd_Spaces_rootEntry_0 : decode nb_Spaces_rootEntry 0 = .ok (.aload_n 0, 1) := by decide +kernel
theorem nd_Spaces_rootEntry_1 : decode nb_Spaces_rootEntry 1 = .ok (.getfield 9, 3) := by decide +kernel
theorem nd_Spaces_rootEntry_4 : decode nb_Spaces_rootEntry 4 = .ok (.iload_n 1, 1) := by decide +kernel
theorem nd_Spaces_rootEntry_5 : decode nb_Spaces_rootEntry 5 = .ok (.iaload, 1) := by decide +kernel
theorem nd_Spaces_rootEntry_6 : decode nb_Spaces_rootEntry 6 = .ok (.iconst 1, 1) := by decide +kernel
theorem nd_Spaces_rootEntry_7 : decode nb_Spaces_rootEntry 7 = .ok (.isub, 1) := by decide +kernel
theorem nd_Spaces_rootEntry_8 : decode nb_Spaces_rootEntry 8 = .ok (.bipush 16, 2) := by decide +kernel
theorem nd_Spaces_rootEntry_10 : decode nb_Spaces_rootEntry 10 = .ok (.imul, 1) := by decide +kernel
theorem nd_Spaces_rootEntry_11 : decode nb_Spaces_rootEntry 11 = .ok (.iload_n 2, 1) := by decide +kernel
theorem nd_Spaces_rootEntry_12 : decode nb_Spaces_rootEntry 12 = .ok (.bipush 16, 2) := by decide +kernel
theorem nd_Spaces_rootEntry_14 : decode nb_Spaces_rootEntry 14 = .ok (.idiv, 1) := by decide +kernel
theorem nd_Spaces_rootEntry_15 : decode nb_Spaces_rootEntry 15 = .ok (.iadd, 1) := by decide +kernel
theorem nd_Spaces_rootEntry_16 : decode nb_Spaces_rootEntry 16 = .ok (.ireturn, 1) := by decide +kernel
theorem nd_Spaces_tableOf_0 : decode nb_Spaces_tableOf 0 = .ok (.aload_n 0, 1) := by decide +kernel
theorem nd_Spaces_tableOf_1 : decode nb_Spaces_tableOf 1 = .ok (.iload_n 1, 1) := by decide +kernel
theorem nd_Spaces_tableOf_2 : decode nb_Spaces_tableOf 2 = .ok (.invokevirtual 32, 3) := by decide +kernel
theorem nd_Spaces_tableOf_5 : decode nb_Spaces_tableOf 5 = .ok (.ifCond .eq 10, 3) := by decide +kernel
theorem nd_Spaces_tableOf_8 : decode nb_Spaces_tableOf 8 = .ok (.iload_n 2, 1) := by decide +kernel
theorem nd_Spaces_tableOf_9 : decode nb_Spaces_tableOf 9 = .ok (.invokestatic 39, 3) := by decide +kernel
theorem nd_Spaces_tableOf_12 : decode nb_Spaces_tableOf 12 = .ok (.ifCond .ne 5, 3) := by decide +kernel
theorem nd_Spaces_tableOf_15 : decode nb_Spaces_tableOf 15 = .ok (.iconst (-1), 1) := by decide +kernel
theorem nd_Spaces_tableOf_16 : decode nb_Spaces_tableOf 16 = .ok (.ireturn, 1) := by decide +kernel
theorem nd_Spaces_tableOf_17 : decode nb_Spaces_tableOf 17 = .ok (.aload_n 0, 1) := by decide +kernel
theorem nd_Spaces_tableOf_18 : decode nb_Spaces_tableOf 18 = .ok (.getfield 22, 3) := by decide +kernel
theorem nd_Spaces_tableOf_21 : decode nb_Spaces_tableOf 21 = .ok (.aload_n 0, 1) := by decide +kernel
theorem nd_Spaces_tableOf_22 : decode nb_Spaces_tableOf 22 = .ok (.iload_n 1, 1) := by decide +kernel
theorem nd_Spaces_tableOf_23 : decode nb_Spaces_tableOf 23 = .ok (.iload_n 2, 1) := by decide +kernel
theorem nd_Spaces_tableOf_24 : decode nb_Spaces_tableOf 24 = .ok (.invokevirtual 68, 3) := by decide +kernel
theorem nd_Spaces_tableOf_27 : decode nb_Spaces_tableOf 27 = .ok (.invokevirtual 61, 3) := by decide +kernel
theorem nd_Spaces_tableOf_30 : decode nb_Spaces_tableOf 30 = .ok (.iconst 1, 1) := by decide +kernel
theorem nd_Spaces_tableOf_31 : decode nb_Spaces_tableOf 31 = .ok (.isub, 1) := by decide +kernel
theorem nd_Spaces_tableOf_32 : decode nb_Spaces_tableOf 32 = .ok (.ireturn, 1) := by decide +kernel
theorem nd_Spaces_link_0 : decode nb_Spaces_link 0 = .ok (.iload_n 2, 1) := by decide +kernel
theorem nd_Spaces_link_1 : decode nb_Spaces_link 1 = .ok (.invokestatic 77, 3) := by decide +kernel
theorem nd_Spaces_link_4 : decode nb_Spaces_link 4 = .ok (.ifCond .eq 21, 3) := by decide +kernel
theorem nd_Spaces_link_7 : decode nb_Spaces_link 7 = .ok (.aload_n 0, 1) := by decide +kernel
theorem nd_Spaces_link_8 : decode nb_Spaces_link 8 = .ok (.getfield 22, 3) := by decide +kernel
theorem nd_Spaces_link_11 : decode nb_Spaces_link 11 = .ok (.iload_n 1, 1) := by decide +kernel
theorem nd_Spaces_link_12 : decode nb_Spaces_link 12 = .ok (.iconst 1, 1) := by decide +kernel
theorem nd_Spaces_link_13 : decode nb_Spaces_link 13 = .ok (.iload_n 2, 1) := by decide +kernel
theorem nd_Spaces_link_14 : decode nb_Spaces_link 14 = .ok (.iadd, 1) := by decide +kernel
theorem nd_Spaces_link_15 : decode nb_Spaces_link 15 = .ok (.invokevirtual 71, 3) := by decide +kernel
theorem nd_Spaces_link_18 : decode nb_Spaces_link 18 = .ok (.aload_n 0, 1) := by decide +kernel
theorem nd_Spaces_link_19 : decode nb_Spaces_link 19 = .ok (.getfield 19, 3) := by decide +kernel
theorem nd_Spaces_link_22 : decode nb_Spaces_link 22 = .ok (.iload_n 2, 1) := by decide +kernel
theorem nd_Spaces_link_23 : decode nb_Spaces_link 23 = .ok (.iload_n 1, 1) := by decide +kernel
theorem nd_Spaces_link_24 : decode nb_Spaces_link 24 = .ok (.iastore, 1) := by decide +kernel
theorem nd_Spaces_link_25 : decode nb_Spaces_link 25 = .ok (.return_, 1) := by decide +kernel
theorem nd_Spaces_removePage_0 : decode nb_Spaces_removePage 0 = .ok (.aload_n 0, 1) := by decide +kernel
theorem nd_Spaces_removePage_1 : decode nb_Spaces_removePage 1 = .ok (.iload_n 1, 1) := by decide +kernel
theorem nd_Spaces_removePage_2 : decode nb_Spaces_removePage 2 = .ok (.iload_n 2, 1) := by decide +kernel
theorem nd_Spaces_removePage_3 : decode nb_Spaces_removePage 3 = .ok (.invokevirtual 58, 3) := by decide +kernel
theorem nd_Spaces_removePage_6 : decode nb_Spaces_removePage 6 = .ok (.istore_n 3, 1) := by decide +kernel
theorem nd_Spaces_removePage_7 : decode nb_Spaces_removePage 7 = .ok (.aload_n 0, 1) := by decide +kernel
theorem nd_Spaces_removePage_8 : decode nb_Spaces_removePage 8 = .ok (.getfield 22, 3) := by decide +kernel
theorem nd_Spaces_removePage_11 : decode nb_Spaces_removePage 11 = .ok (.aload_n 0, 1) := by decide +kernel
theorem nd_Spaces_removePage_12 : decode nb_Spaces_removePage 12 = .ok (.iload_n 1, 1) := by decide +kernel
theorem nd_Spaces_removePage_13 : decode nb_Spaces_removePage 13 = .ok (.iload_n 2, 1) := by decide +kernel
theorem nd_Spaces_removePage_14 : decode nb_Spaces_removePage 14 = .ok (.invokevirtual 50, 3) := by decide +kernel
theorem nd_Spaces_removePage_17 : decode nb_Spaces_removePage 17 = .ok (.invokevirtual 86, 3) := by decide +kernel
theorem nd_Spaces_removePage_20 : decode nb_Spaces_removePage 20 = .ok (.aload_n 0, 1) := by decide +kernel
theorem nd_Spaces_removePage_21 : decode nb_Spaces_removePage 21 = .ok (.getfield 22, 3) := by decide +kernel
theorem nd_Spaces_removePage_24 : decode nb_Spaces_removePage 24 = .ok (.iload_n 3, 1) := by decide +kernel
theorem nd_Spaces_removePage_25 : decode nb_Spaces_removePage 25 = .ok (.bipush 16, 2) := by decide +kernel
theorem nd_Spaces_removePage_27 : decode nb_Spaces_removePage 27 = .ok (.imul, 1) := by decide +kernel
theorem nd_Spaces_removePage_28 : decode nb_Spaces_removePage 28 = .ok (.iload_n 2, 1) := by decide +kernel
theorem nd_Spaces_removePage_29 : decode nb_Spaces_removePage 29 = .ok (.bipush 16, 2) := by decide +kernel
theorem nd_Spaces_removePage_31 : decode nb_Spaces_removePage 31 = .ok (.irem, 1) := by decide +kernel
theorem nd_Spaces_removePage_32 : decode nb_Spaces_removePage 32 = .ok (.iadd, 1) := by decide +kernel
theorem nd_Spaces_removePage_33 : decode nb_Spaces_removePage 33 = .ok (.iconst 0, 1) := by decide +kernel
theorem nd_Spaces_removePage_34 : decode nb_Spaces_removePage 34 = .ok (.invokevirtual 71, 3) := by decide +kernel
theorem nd_Spaces_removePage_37 : decode nb_Spaces_removePage 37 = .ok (.aload_n 0, 1) := by decide +kernel
theorem nd_Spaces_removePage_38 : decode nb_Spaces_removePage 38 = .ok (.iload_n 3, 1) := by decide +kernel
theorem nd_Spaces_removePage_39 : decode nb_Spaces_removePage 39 = .ok (.invokevirtual 90, 3) := by decide +kernel
theorem nd_Spaces_removePage_42 : decode nb_Spaces_removePage 42 = .ok (.ifCond .eq 25, 3) := by decide +kernel
theorem nd_Spaces_removePage_45 : decode nb_Spaces_removePage 45 = .ok (.aload_n 0, 1) := by decide +kernel
theorem nd_Spaces_removePage_46 : decode nb_Spaces_removePage 46 = .ok (.getfield 22, 3) := by decide +kernel
theorem nd_Spaces_removePage_49 : decode nb_Spaces_removePage 49 = .ok (.iload_n 3, 1) := by decide +kernel
theorem nd_Spaces_removePage_50 : decode nb_Spaces_removePage 50 = .ok (.invokevirtual 86, 3) := by decide +kernel
theorem nd_Spaces_removePage_53 : decode nb_Spaces_removePage 53 = .ok (.aload_n 0, 1) := by decide +kernel
theorem nd_Spaces_removePage_54 : decode nb_Spaces_removePage 54 = .ok (.getfield 22, 3) := by decide +kernel
theorem nd_Spaces_removePage_57 : decode nb_Spaces_removePage 57 = .ok (.aload_n 0, 1) := by decide +kernel
theorem nd_Spaces_removePage_58 : decode nb_Spaces_removePage 58 = .ok (.iload_n 1, 1) := by decide +kernel
theorem nd_Spaces_removePage_59 : decode nb_Spaces_removePage 59 = .ok (.iload_n 2, 1) := by decide +kernel
theorem nd_Spaces_removePage_60 : decode nb_Spaces_removePage 60 = .ok (.invokevirtual 68, 3) := by decide +kernel
theorem nd_Spaces_removePage_63 : decode nb_Spaces_removePage 63 = .ok (.iconst 0, 1) := by decide +kernel
theorem nd_Spaces_removePage_64 : decode nb_Spaces_removePage 64 = .ok (.invokevirtual 71, 3) := by decide +kernel
theorem nd_Spaces_removePage_67 : decode nb_Spaces_removePage 67 = .ok (.return_, 1) := by decide +kernel
theorem nd_Spaces_isEmptyTable_0 : decode nb_Spaces_isEmptyTable 0 = .ok (.iconst 0, 1) := by decide +kernel
theorem nd_Spaces_isEmptyTable_1 : decode nb_Spaces_isEmptyTable 1 = .ok (.istore_n 2, 1) := by decide +kernel
theorem nd_Spaces_isEmptyTable_2 : decode nb_Spaces_isEmptyTable 2 = .ok (.iload_n 2, 1) := by decide +kernel
theorem nd_Spaces_isEmptyTable_3 : decode nb_Spaces_isEmptyTable 3 = .ok (.bipush 16, 2) := by decide +kernel
theorem nd_Spaces_isEmptyTable_5 : decode nb_Spaces_isEmptyTable 5 = .ok (.if_icmp .ge 27, 3) := by decide +kernel
theorem nd_Spaces_isEmptyTable_8 : decode nb_Spaces_isEmptyTable 8 = .ok (.aload_n 0, 1) := by decide +kernel
theorem nd_Spaces_isEmptyTable_9 : decode nb_Spaces_isEmptyTable 9 = .ok (.getfield 22, 3) := by decide +kernel
theorem nd_Spaces_isEmptyTable_12 : decode nb_Spaces_isEmptyTable 12 = .ok (.iload_n 1, 1) := by decide +kernel
theorem nd_Spaces_isEmptyTable_13 : decode nb_Spaces_isEmptyTable 13 = .ok (.bipush 16, 2) := by decide +kernel
theorem nd_Spaces_isEmptyTable_15 : decode nb_Spaces_isEmptyTable 15 = .ok (.imul, 1) := by decide +kernel
theorem nd_Spaces_isEmptyTable_16 : decode nb_Spaces_isEmptyTable 16 = .ok (.iload_n 2, 1) := by decide +kernel
theorem nd_Spaces_isEmptyTable_17 : decode nb_Spaces_isEmptyTable 17 = .ok (.iadd, 1) := by decide +kernel
theorem nd_Spaces_isEmptyTable_18 : decode nb_Spaces_isEmptyTable 18 = .ok (.invokevirtual 61, 3) := by decide +kernel
theorem nd_Spaces_isEmptyTable_21 : decode nb_Spaces_isEmptyTable 21 = .ok (.ifCond .eq 5, 3) := by decide +kernel
theorem nd_Spaces_isEmptyTable_24 : decode nb_Spaces_isEmptyTable 24 = .ok (.iconst 0, 1) := by decide +kernel
theorem nd_Spaces_isEmptyTable_25 : decode nb_Spaces_isEmptyTable 25 = .ok (.ireturn, 1) := by decide +kernel
theorem nd_Spaces_isEmptyTable_26 : decode nb_Spaces_isEmptyTable 26 = .ok (.iinc 2 1, 3) := by decide +kernel
theorem nd_Spaces_isEmptyTable_29 : decode nb_Spaces_isEmptyTable 29 = .ok (.goto (-27), 3) := by decide +kernel
theorem nd_Spaces_isEmptyTable_32 : decode nb_Spaces_isEmptyTable 32 = .ok (.iconst 1, 1) := by decide +kernel
theorem nd_Spaces_isEmptyTable_33 : decode nb_Spaces_isEmptyTable 33 = .ok (.ireturn, 1) := by decide +kernel
theorem nd_Spaces_removeTree_0 : decode nb_Spaces_removeTree 0 = .ok (.iconst 1, 1) := by decide +kernel
theorem nd_Spaces_removeTree_1 : decode nb_Spaces_removeTree 1 = .ok (.istore_n 2, 1) := by decide +kernel
theorem nd_Spaces_removeTree_2 : decode nb_Spaces_removeTree 2 = .ok (.iconst 0, 1) := by decide +kernel
theorem nd_Spaces_removeTree_3 : decode nb_Spaces_removeTree 3 = .ok (.istore_n 3, 1) := by decide +kernel
theorem nd_Spaces_removeTree_4 : decode nb_Spaces_removeTree 4 = .ok (.iload_n 3, 1) := by decide +kernel
theorem nd_Spaces_removeTree_5 : decode nb_Spaces_removeTree 5 = .ok (.bipush 16, 2) := by decide +kernel
theorem nd_Spaces_removeTree_7 : decode nb_Spaces_removeTree 7 = .ok (.if_icmp .ge 40, 3) := by decide +kernel
theorem nd_Spaces_removeTree_10 : decode nb_Spaces_removeTree 10 = .ok (.aload_n 0, 1) := by decide +kernel
theorem nd_Spaces_removeTree_11 : decode nb_Spaces_removeTree 11 = .ok (.getfield 22, 3) := by decide +kernel
theorem nd_Spaces_removeTree_14 : decode nb_Spaces_removeTree 14 = .ok (.iload_n 1, 1) := by decide +kernel
theorem nd_Spaces_removeTree_15 : decode nb_Spaces_removeTree 15 = .ok (.bipush 16, 2) := by decide +kernel
theorem nd_Spaces_removeTree_17 : decode nb_Spaces_removeTree 17 = .ok (.imul, 1) := by decide +kernel
theorem nd_Spaces_removeTree_18 : decode nb_Spaces_removeTree 18 = .ok (.iload_n 3, 1) := by decide +kernel
theorem nd_Spaces_removeTree_19 : decode nb_Spaces_removeTree 19 = .ok (.iadd, 1) := by decide +kernel
theorem nd_Spaces_removeTree_20 : decode nb_Spaces_removeTree 20 = .ok (.invokevirtual 61, 3) := by decide +kernel
theorem nd_Spaces_removeTree_23 : decode nb_Spaces_removeTree 23 = .ok (.istore 4, 2) := by decide +kernel
theorem nd_Spaces_removeTree_25 : decode nb_Spaces_removeTree 25 = .ok (.iload 4, 2) := by decide +kernel
theorem nd_Spaces_removeTree_27 : decode nb_Spaces_removeTree 27 = .ok (.ifCond .eq 14, 3) := by decide +kernel
theorem nd_Spaces_removeTree_30 : decode nb_Spaces_removeTree 30 = .ok (.iload_n 2, 1) := by decide +kernel
theorem nd_Spaces_removeTree_31 : decode nb_Spaces_removeTree 31 = .ok (.aload_n 0, 1) := by decide +kernel
theorem nd_Spaces_removeTree_32 : decode nb_Spaces_removeTree 32 = .ok (.iload 4, 2) := by decide +kernel
theorem nd_Spaces_removeTree_34 : decode nb_Spaces_removeTree 34 = .ok (.iconst 1, 1) := by decide +kernel
theorem nd_Spaces_removeTree_35 : decode nb_Spaces_removeTree 35 = .ok (.isub, 1) := by decide +kernel
theorem nd_Spaces_removeTree_36 : decode nb_Spaces_removeTree 36 = .ok (.invokevirtual 93, 3) := by decide +kernel
theorem nd_Spaces_removeTree_39 : decode nb_Spaces_removeTree 39 = .ok (.iadd, 1) := by decide +kernel
theorem nd_Spaces_removeTree_40 : decode nb_Spaces_removeTree 40 = .ok (.istore_n 2, 1) := by decide +kernel
theorem nd_Spaces_removeTree_41 : decode nb_Spaces_removeTree 41 = .ok (.iinc 3 1, 3) := by decide +kernel
theorem nd_Spaces_removeTree_44 : decode nb_Spaces_removeTree 44 = .ok (.goto (-40), 3) := by decide +kernel
theorem nd_Spaces_removeTree_47 : decode nb_Spaces_removeTree 47 = .ok (.aload_n 0, 1) := by decide +kernel
theorem nd_Spaces_removeTree_48 : decode nb_Spaces_removeTree 48 = .ok (.getfield 22, 3) := by decide +kernel
theorem nd_Spaces_removeTree_51 : decode nb_Spaces_removeTree 51 = .ok (.iload_n 1, 1) := by decide +kernel
theorem nd_Spaces_removeTree_52 : decode nb_Spaces_removeTree 52 = .ok (.invokevirtual 86, 3) := by decide +kernel
theorem nd_Spaces_removeTree_55 : decode nb_Spaces_removeTree 55 = .ok (.iload_n 2, 1) := by decide +kernel
theorem nd_Spaces_removeTree_56 : decode nb_Spaces_removeTree 56 = .ok (.ireturn, 1) := by decide +kernel
theorem nd_Spaces_removeTable_0 : decode nb_Spaces_removeTable 0 = .ok (.iconst 1, 1) := by decide +kernel
theorem nd_Spaces_removeTable_1 : decode nb_Spaces_removeTable 1 = .ok (.istore_n 2, 1) := by decide +kernel
theorem nd_Spaces_removeTable_2 : decode nb_Spaces_removeTable 2 = .ok (.iconst 0, 1) := by decide +kernel
theorem nd_Spaces_removeTable_3 : decode nb_Spaces_removeTable 3 = .ok (.istore_n 3, 1) := by decide +kernel
theorem nd_Spaces_removeTable_4 : decode nb_Spaces_removeTable 4 = .ok (.iload_n 3, 1) := by decide +kernel
theorem nd_Spaces_removeTable_5 : decode nb_Spaces_removeTable 5 = .ok (.bipush 16, 2) := by decide +kernel
theorem nd_Spaces_removeTable_7 : decode nb_Spaces_removeTable 7 = .ok (.if_icmp .ge 43, 3) := by decide +kernel
theorem nd_Spaces_removeTable_10 : decode nb_Spaces_removeTable 10 = .ok (.aload_n 0, 1) := by decide +kernel
theorem nd_Spaces_removeTable_11 : decode nb_Spaces_removeTable 11 = .ok (.getfield 22, 3) := by decide +kernel
theorem nd_Spaces_removeTable_14 : decode nb_Spaces_removeTable 14 = .ok (.iload_n 1, 1) := by decide +kernel
theorem nd_Spaces_removeTable_15 : decode nb_Spaces_removeTable 15 = .ok (.bipush 16, 2) := by decide +kernel
theorem nd_Spaces_removeTable_17 : decode nb_Spaces_removeTable 17 = .ok (.imul, 1) := by decide +kernel
theorem nd_Spaces_removeTable_18 : decode nb_Spaces_removeTable 18 = .ok (.iload_n 3, 1) := by decide +kernel
theorem nd_Spaces_removeTable_19 : decode nb_Spaces_removeTable 19 = .ok (.iadd, 1) := by decide +kernel
theorem nd_Spaces_removeTable_20 : decode nb_Spaces_removeTable 20 = .ok (.invokevirtual 61, 3) := by decide +kernel
theorem nd_Spaces_removeTable_23 : decode nb_Spaces_removeTable 23 = .ok (.istore 4, 2) := by decide +kernel
theorem nd_Spaces_removeTable_25 : decode nb_Spaces_removeTable 25 = .ok (.iload 4, 2) := by decide +kernel
theorem nd_Spaces_removeTable_27 : decode nb_Spaces_removeTable 27 = .ok (.ifCond .eq 17, 3) := by decide +kernel
theorem nd_Spaces_removeTable_30 : decode nb_Spaces_removeTable 30 = .ok (.aload_n 0, 1) := by decide +kernel
theorem nd_Spaces_removeTable_31 : decode nb_Spaces_removeTable 31 = .ok (.getfield 22, 3) := by decide +kernel
theorem nd_Spaces_removeTable_34 : decode nb_Spaces_removeTable 34 = .ok (.iload 4, 2) := by decide +kernel
theorem nd_Spaces_removeTable_36 : decode nb_Spaces_removeTable 36 = .ok (.iconst 1, 1) := by decide +kernel
theorem nd_Spaces_removeTable_37 : decode nb_Spaces_removeTable 37 = .ok (.isub, 1) := by decide +kernel
theorem nd_Spaces_removeTable_38 : decode nb_Spaces_removeTable 38 = .ok (.invokevirtual 86, 3) := by decide +kernel
theorem nd_Spaces_removeTable_41 : decode nb_Spaces_removeTable 41 = .ok (.iinc 2 1, 3) := by decide +kernel
theorem nd_Spaces_removeTable_44 : decode nb_Spaces_removeTable 44 = .ok (.iinc 3 1, 3) := by decide +kernel
theorem nd_Spaces_removeTable_47 : decode nb_Spaces_removeTable 47 = .ok (.goto (-43), 3) := by decide +kernel
theorem nd_Spaces_removeTable_50 : decode nb_Spaces_removeTable 50 = .ok (.aload_n 0, 1) := by decide +kernel
theorem nd_Spaces_removeTable_51 : decode nb_Spaces_removeTable 51 = .ok (.getfield 22, 3) := by decide +kernel
theorem nd_Spaces_removeTable_54 : decode nb_Spaces_removeTable 54 = .ok (.iload_n 1, 1) := by decide +kernel
theorem nd_Spaces_removeTable_55 : decode nb_Spaces_removeTable 55 = .ok (.invokevirtual 86, 3) := by decide +kernel
theorem nd_Spaces_removeTable_58 : decode nb_Spaces_removeTable 58 = .ok (.iload_n 2, 1) := by decide +kernel
theorem nd_Spaces_removeTable_59 : decode nb_Spaces_removeTable 59 = .ok (.ireturn, 1) := by decide +kernel
theorem nd_L_kmalloc_0 : decode nb_L_kmalloc 0 = .ok (.aload_n 2, 1) := by decide +kernel
theorem nd_L_kmalloc_1 : decode nb_L_kmalloc 1 = .ok (.iconst 0, 1) := by decide +kernel
theorem nd_L_kmalloc_2 : decode nb_L_kmalloc 2 = .ok (.aload_n 0, 1) := by decide +kernel
theorem nd_L_kmalloc_3 : decode nb_L_kmalloc 3 = .ok (.iload_n 1, 1) := by decide +kernel
theorem nd_L_kmalloc_4 : decode nb_L_kmalloc 4 = .ok (.invokevirtual 7, 3) := by decide +kernel
theorem nd_L_kmalloc_7 : decode nb_L_kmalloc 7 = .ok (.i2l, 1) := by decide +kernel
theorem nd_L_kmalloc_8 : decode nb_L_kmalloc 8 = .ok (.lastore, 1) := by decide +kernel
theorem nd_L_kmalloc_9 : decode nb_L_kmalloc 9 = .ok (.goto 9, 3) := by decide +kernel
theorem nd_L_kmalloc_12 : decode nb_L_kmalloc 12 = .ok (.astore_n 3, 1) := by decide +kernel
theorem nd_L_kmalloc_13 : decode nb_L_kmalloc 13 = .ok (.iconst 1, 1) := by decide +kernel
theorem nd_L_kmalloc_14 : decode nb_L_kmalloc 14 = .ok (.ireturn, 1) := by decide +kernel
theorem nd_L_kmalloc_15 : decode nb_L_kmalloc 15 = .ok (.astore_n 3, 1) := by decide +kernel
theorem nd_L_kmalloc_16 : decode nb_L_kmalloc 16 = .ok (.iconst 2, 1) := by decide +kernel
theorem nd_L_kmalloc_17 : decode nb_L_kmalloc 17 = .ok (.ireturn, 1) := by decide +kernel
theorem nd_L_kmalloc_18 : decode nb_L_kmalloc 18 = .ok (.iconst 0, 1) := by decide +kernel
theorem nd_L_kmalloc_19 : decode nb_L_kmalloc 19 = .ok (.ireturn, 1) := by decide +kernel
theorem nd_L_kfree_0 : decode nb_L_kfree 0 = .ok (.aload_n 0, 1) := by decide +kernel
theorem nd_L_kfree_1 : decode nb_L_kfree 1 = .ok (.iload_n 1, 1) := by decide +kernel
theorem nd_L_kfree_2 : decode nb_L_kfree 2 = .ok (.invokevirtual 17, 3) := by decide +kernel
theorem nd_L_kfree_5 : decode nb_L_kfree 5 = .ok (.goto 6, 3) := by decide +kernel
theorem nd_L_kfree_8 : decode nb_L_kfree 8 = .ok (.astore_n 2, 1) := by decide +kernel
theorem nd_L_kfree_9 : decode nb_L_kfree 9 = .ok (.iconst 1, 1) := by decide +kernel
theorem nd_L_kfree_10 : decode nb_L_kfree 10 = .ok (.ireturn, 1) := by decide +kernel
theorem nd_L_kfree_11 : decode nb_L_kfree 11 = .ok (.iconst 0, 1) := by decide +kernel
theorem nd_L_kfree_12 : decode nb_L_kfree 12 = .ok (.ireturn, 1) := by decide +kernel
theorem nd_L_vmalloc_0 : decode nb_L_vmalloc 0 = .ok (.aload_n 2, 1) := by decide +kernel
theorem nd_L_vmalloc_1 : decode nb_L_vmalloc 1 = .ok (.iconst 0, 1) := by decide +kernel
theorem nd_L_vmalloc_2 : decode nb_L_vmalloc 2 = .ok (.aload_n 0, 1) := by decide +kernel
theorem nd_L_vmalloc_3 : decode nb_L_vmalloc 3 = .ok (.iload_n 1, 1) := by decide +kernel
theorem nd_L_vmalloc_4 : decode nb_L_vmalloc 4 = .ok (.invokevirtual 21, 3) := by decide +kernel
theorem nd_L_vmalloc_7 : decode nb_L_vmalloc 7 = .ok (.i2l, 1) := by decide +kernel
theorem nd_L_vmalloc_8 : decode nb_L_vmalloc 8 = .ok (.lastore, 1) := by decide +kernel
theorem nd_L_vmalloc_9 : decode nb_L_vmalloc 9 = .ok (.goto 9, 3) := by decide +kernel
theorem nd_L_vmalloc_12 : decode nb_L_vmalloc 12 = .ok (.astore_n 3, 1) := by decide +kernel
theorem nd_L_vmalloc_13 : decode nb_L_vmalloc 13 = .ok (.iconst 1, 1) := by decide +kernel
theorem nd_L_vmalloc_14 : decode nb_L_vmalloc 14 = .ok (.ireturn, 1) := by decide +kernel
theorem nd_L_vmalloc_15 : decode nb_L_vmalloc 15 = .ok (.astore_n 3, 1) := by decide +kernel
theorem nd_L_vmalloc_16 : decode nb_L_vmalloc 16 = .ok (.iconst 2, 1) := by decide +kernel
theorem nd_L_vmalloc_17 : decode nb_L_vmalloc 17 = .ok (.ireturn, 1) := by decide +kernel
theorem nd_L_vmalloc_18 : decode nb_L_vmalloc 18 = .ok (.iconst 0, 1) := by decide +kernel
theorem nd_L_vmalloc_19 : decode nb_L_vmalloc 19 = .ok (.ireturn, 1) := by decide +kernel
theorem nd_L_vfree_0 : decode nb_L_vfree 0 = .ok (.aload_n 2, 1) := by decide +kernel
theorem nd_L_vfree_1 : decode nb_L_vfree 1 = .ok (.iconst 0, 1) := by decide +kernel
theorem nd_L_vfree_2 : decode nb_L_vfree 2 = .ok (.aload_n 0, 1) := by decide +kernel
theorem nd_L_vfree_3 : decode nb_L_vfree 3 = .ok (.iload_n 1, 1) := by decide +kernel
theorem nd_L_vfree_4 : decode nb_L_vfree 4 = .ok (.invokevirtual 24, 3) := by decide +kernel
theorem nd_L_vfree_7 : decode nb_L_vfree 7 = .ok (.i2l, 1) := by decide +kernel
theorem nd_L_vfree_8 : decode nb_L_vfree 8 = .ok (.lastore, 1) := by decide +kernel
theorem nd_L_vfree_9 : decode nb_L_vfree 9 = .ok (.goto 6, 3) := by decide +kernel
theorem nd_L_vfree_12 : decode nb_L_vfree 12 = .ok (.astore_n 3, 1) := by decide +kernel
theorem nd_L_vfree_13 : decode nb_L_vfree 13 = .ok (.iconst 1, 1) := by decide +kernel
theorem nd_L_vfree_14 : decode nb_L_vfree 14 = .ok (.ireturn, 1) := by decide +kernel
theorem nd_L_vfree_15 : decode nb_L_vfree 15 = .ok (.iconst 0, 1) := by decide +kernel
theorem nd_L_vfree_16 : decode nb_L_vfree 16 = .ok (.ireturn, 1) := by decide +kernel
theorem nd_L_create_0 : decode nb_L_create 0 = .ok (.aload_n 1, 1) := by decide +kernel
theorem nd_L_create_1 : decode nb_L_create 1 = .ok (.iconst 0, 1) := by decide +kernel
theorem nd_L_create_2 : decode nb_L_create 2 = .ok (.aload_n 0, 1) := by decide +kernel
theorem nd_L_create_3 : decode nb_L_create 3 = .ok (.invokevirtual 27, 3) := by decide +kernel
theorem nd_L_create_6 : decode nb_L_create 6 = .ok (.i2l, 1) := by decide +kernel
theorem nd_L_create_7 : decode nb_L_create 7 = .ok (.lastore, 1) := by decide +kernel
theorem nd_L_create_8 : decode nb_L_create 8 = .ok (.goto 6, 3) := by decide +kernel
theorem nd_L_create_11 : decode nb_L_create 11 = .ok (.astore_n 2, 1) := by decide +kernel
theorem nd_L_create_12 : decode nb_L_create 12 = .ok (.iconst 1, 1) := by decide +kernel
theorem nd_L_create_13 : decode nb_L_create 13 = .ok (.ireturn, 1) := by decide +kernel
theorem nd_L_create_14 : decode nb_L_create 14 = .ok (.iconst 0, 1) := by decide +kernel
theorem nd_L_create_15 : decode nb_L_create 15 = .ok (.ireturn, 1) := by decide +kernel
theorem nd_L_destroy_0 : decode nb_L_destroy 0 = .ok (.aload_n 2, 1) := by decide +kernel
theorem nd_L_destroy_1 : decode nb_L_destroy 1 = .ok (.iconst 0, 1) := by decide +kernel
theorem nd_L_destroy_2 : decode nb_L_destroy 2 = .ok (.aload_n 0, 1) := by decide +kernel
theorem nd_L_destroy_3 : decode nb_L_destroy 3 = .ok (.iload_n 1, 1) := by decide +kernel
theorem nd_L_destroy_4 : decode nb_L_destroy 4 = .ok (.invokevirtual 31, 3) := by decide +kernel
theorem nd_L_destroy_7 : decode nb_L_destroy 7 = .ok (.i2l, 1) := by decide +kernel
theorem nd_L_destroy_8 : decode nb_L_destroy 8 = .ok (.lastore, 1) := by decide +kernel
theorem nd_L_destroy_9 : decode nb_L_destroy 9 = .ok (.goto 6, 3) := by decide +kernel
theorem nd_L_destroy_12 : decode nb_L_destroy 12 = .ok (.astore_n 3, 1) := by decide +kernel
theorem nd_L_destroy_13 : decode nb_L_destroy 13 = .ok (.iconst 1, 1) := by decide +kernel
theorem nd_L_destroy_14 : decode nb_L_destroy 14 = .ok (.ireturn, 1) := by decide +kernel
theorem nd_L_destroy_15 : decode nb_L_destroy 15 = .ok (.iconst 0, 1) := by decide +kernel
theorem nd_L_destroy_16 : decode nb_L_destroy 16 = .ok (.ireturn, 1) := by decide +kernel
theorem nd_L_mmap_0 : decode nb_L_mmap 0 = .ok (.aload_n 0, 1) := by decide +kernel
theorem nd_L_mmap_1 : decode nb_L_mmap 1 = .ok (.iload_n 1, 1) := by decide +kernel
theorem nd_L_mmap_2 : decode nb_L_mmap 2 = .ok (.iload_n 2, 1) := by decide +kernel
theorem nd_L_mmap_3 : decode nb_L_mmap 3 = .ok (.iload_n 3, 1) := by decide +kernel
theorem nd_L_mmap_4 : decode nb_L_mmap 4 = .ok (.invokevirtual 34, 3) := by decide +kernel
theorem nd_L_mmap_7 : decode nb_L_mmap 7 = .ok (.goto 7, 3) := by decide +kernel
theorem nd_L_mmap_10 : decode nb_L_mmap 10 = .ok (.astore 4, 2) := by decide +kernel
theorem nd_L_mmap_12 : decode nb_L_mmap 12 = .ok (.iconst 1, 1) := by decide +kernel
theorem nd_L_mmap_13 : decode nb_L_mmap 13 = .ok (.ireturn, 1) := by decide +kernel
theorem nd_L_mmap_14 : decode nb_L_mmap 14 = .ok (.iconst 0, 1) := by decide +kernel
theorem nd_L_mmap_15 : decode nb_L_mmap 15 = .ok (.ireturn, 1) := by decide +kernel
theorem nd_L_munmap_0 : decode nb_L_munmap 0 = .ok (.aload 4, 2) := by decide +kernel
theorem nd_L_munmap_2 : decode nb_L_munmap 2 = .ok (.iconst 0, 1) := by decide +kernel
theorem nd_L_munmap_3 : decode nb_L_munmap 3 = .ok (.aload_n 0, 1) := by decide +kernel
theorem nd_L_munmap_4 : decode nb_L_munmap 4 = .ok (.iload_n 1, 1) := by decide +kernel
theorem nd_L_munmap_5 : decode nb_L_munmap 5 = .ok (.iload_n 2, 1) := by decide +kernel
theorem nd_L_munmap_6 : decode nb_L_munmap 6 = .ok (.iload_n 3, 1) := by decide +kernel
theorem nd_L_munmap_7 : decode nb_L_munmap 7 = .ok (.invokevirtual 38, 3) := by decide +kernel
theorem nd_L_munmap_10 : decode nb_L_munmap 10 = .ok (.i2l, 1) := by decide +kernel
theorem nd_L_munmap_11 : decode nb_L_munmap 11 = .ok (.lastore, 1) := by decide +kernel
theorem nd_L_munmap_12 : decode nb_L_munmap 12 = .ok (.goto 7, 3) := by decide +kernel
theorem nd_L_munmap_15 : decode nb_L_munmap 15 = .ok (.astore 5, 2) := by decide +kernel
theorem nd_L_munmap_17 : decode nb_L_munmap 17 = .ok (.iconst 1, 1) := by decide +kernel
theorem nd_L_munmap_18 : decode nb_L_munmap 18 = .ok (.ireturn, 1) := by decide +kernel
theorem nd_L_munmap_19 : decode nb_L_munmap 19 = .ok (.iconst 0, 1) := by decide +kernel
theorem nd_L_munmap_20 : decode nb_L_munmap 20 = .ok (.ireturn, 1) := by decide +kernel
theorem nd_L_load_0 : decode nb_L_load 0 = .ok (.aload_n 3, 1) := by decide +kernel
theorem nd_L_load_1 : decode nb_L_load 1 = .ok (.iconst 0, 1) := by decide +kernel
theorem nd_L_load_2 : decode nb_L_load 2 = .ok (.aload_n 0, 1) := by decide +kernel
theorem nd_L_load_3 : decode nb_L_load 3 = .ok (.iload_n 1, 1) := by decide +kernel
theorem nd_L_load_4 : decode nb_L_load 4 = .ok (.iload_n 2, 1) := by decide +kernel
theorem nd_L_load_5 : decode nb_L_load 5 = .ok (.invokevirtual 42, 3) := by decide +kernel
theorem nd_L_load_8 : decode nb_L_load 8 = .ok (.i2l, 1) := by decide +kernel
theorem nd_L_load_9 : decode nb_L_load 9 = .ok (.lastore, 1) := by decide +kernel
theorem nd_L_load_10 : decode nb_L_load 10 = .ok (.goto 15, 3) := by decide +kernel
theorem nd_L_load_13 : decode nb_L_load 13 = .ok (.astore 4, 2) := by decide +kernel
theorem nd_L_load_15 : decode nb_L_load 15 = .ok (.iconst 1, 1) := by decide +kernel
theorem nd_L_load_16 : decode nb_L_load 16 = .ok (.ireturn, 1) := by decide +kernel
theorem nd_L_load_17 : decode nb_L_load 17 = .ok (.astore 4, 2) := by decide +kernel
theorem nd_L_load_19 : decode nb_L_load 19 = .ok (.iconst 2, 1) := by decide +kernel
theorem nd_L_load_20 : decode nb_L_load 20 = .ok (.ireturn, 1) := by decide +kernel
theorem nd_L_load_21 : decode nb_L_load 21 = .ok (.astore 4, 2) := by decide +kernel
theorem nd_L_load_23 : decode nb_L_load 23 = .ok (.iconst 3, 1) := by decide +kernel
theorem nd_L_load_24 : decode nb_L_load 24 = .ok (.ireturn, 1) := by decide +kernel
theorem nd_L_load_25 : decode nb_L_load 25 = .ok (.iconst 0, 1) := by decide +kernel
theorem nd_L_load_26 : decode nb_L_load 26 = .ok (.ireturn, 1) := by decide +kernel
theorem nd_L_store_0 : decode nb_L_store 0 = .ok (.aload_n 0, 1) := by decide +kernel
theorem nd_L_store_1 : decode nb_L_store 1 = .ok (.iload_n 1, 1) := by decide +kernel
theorem nd_L_store_2 : decode nb_L_store 2 = .ok (.iload_n 2, 1) := by decide +kernel
theorem nd_L_store_3 : decode nb_L_store 3 = .ok (.iload_n 3, 1) := by decide +kernel
theorem nd_L_store_4 : decode nb_L_store 4 = .ok (.invokevirtual 48, 3) := by decide +kernel
theorem nd_L_store_7 : decode nb_L_store 7 = .ok (.goto 15, 3) := by decide +kernel
theorem nd_L_store_10 : decode nb_L_store 10 = .ok (.astore 4, 2) := by decide +kernel
theorem nd_L_store_12 : decode nb_L_store 12 = .ok (.iconst 1, 1) := by decide +kernel
theorem nd_L_store_13 : decode nb_L_store 13 = .ok (.ireturn, 1) := by decide +kernel
theorem nd_L_store_14 : decode nb_L_store 14 = .ok (.astore 4, 2) := by decide +kernel
theorem nd_L_store_16 : decode nb_L_store 16 = .ok (.iconst 2, 1) := by decide +kernel
theorem nd_L_store_17 : decode nb_L_store 17 = .ok (.ireturn, 1) := by decide +kernel
theorem nd_L_store_18 : decode nb_L_store 18 = .ok (.astore 4, 2) := by decide +kernel
theorem nd_L_store_20 : decode nb_L_store 20 = .ok (.iconst 3, 1) := by decide +kernel
theorem nd_L_store_21 : decode nb_L_store 21 = .ok (.ireturn, 1) := by decide +kernel
theorem nd_L_store_22 : decode nb_L_store 22 = .ok (.iconst 0, 1) := by decide +kernel
theorem nd_L_store_23 : decode nb_L_store 23 = .ok (.ireturn, 1) := by decide +kernel
theorem nd_L_contig_0 : decode nb_L_contig 0 = .ok (.aload_n 2, 1) := by decide +kernel
theorem nd_L_contig_1 : decode nb_L_contig 1 = .ok (.iconst 0, 1) := by decide +kernel
theorem nd_L_contig_2 : decode nb_L_contig 2 = .ok (.aload_n 0, 1) := by decide +kernel
theorem nd_L_contig_3 : decode nb_L_contig 3 = .ok (.iload_n 1, 1) := by decide +kernel
theorem nd_L_contig_4 : decode nb_L_contig 4 = .ok (.invokevirtual 51, 3) := by decide +kernel
theorem nd_L_contig_7 : decode nb_L_contig 7 = .ok (.i2l, 1) := by decide +kernel
theorem nd_L_contig_8 : decode nb_L_contig 8 = .ok (.lastore, 1) := by decide +kernel
theorem nd_L_contig_9 : decode nb_L_contig 9 = .ok (.goto 9, 3) := by decide +kernel
theorem nd_L_contig_12 : decode nb_L_contig 12 = .ok (.astore_n 3, 1) := by decide +kernel
theorem nd_L_contig_13 : decode nb_L_contig 13 = .ok (.iconst 1, 1) := by decide +kernel
theorem nd_L_contig_14 : decode nb_L_contig 14 = .ok (.ireturn, 1) := by decide +kernel
theorem nd_L_contig_15 : decode nb_L_contig 15 = .ok (.astore_n 3, 1) := by decide +kernel
theorem nd_L_contig_16 : decode nb_L_contig 16 = .ok (.iconst 2, 1) := by decide +kernel
theorem nd_L_contig_17 : decode nb_L_contig 17 = .ok (.ireturn, 1) := by decide +kernel
theorem nd_L_contig_18 : decode nb_L_contig 18 = .ok (.iconst 0, 1) := by decide +kernel
theorem nd_L_contig_19 : decode nb_L_contig 19 = .ok (.ireturn, 1) := by decide +kernel
theorem nd_L_release_0 : decode nb_L_release 0 = .ok (.aload_n 2, 1) := by decide +kernel
theorem nd_L_release_1 : decode nb_L_release 1 = .ok (.iconst 0, 1) := by decide +kernel
theorem nd_L_release_2 : decode nb_L_release 2 = .ok (.aload_n 0, 1) := by decide +kernel
theorem nd_L_release_3 : decode nb_L_release 3 = .ok (.iload_n 1, 1) := by decide +kernel
theorem nd_L_release_4 : decode nb_L_release 4 = .ok (.invokevirtual 54, 3) := by decide +kernel
theorem nd_L_release_7 : decode nb_L_release 7 = .ok (.i2l, 1) := by decide +kernel
theorem nd_L_release_8 : decode nb_L_release 8 = .ok (.lastore, 1) := by decide +kernel
theorem nd_L_release_9 : decode nb_L_release 9 = .ok (.goto 6, 3) := by decide +kernel
theorem nd_L_release_12 : decode nb_L_release 12 = .ok (.astore_n 3, 1) := by decide +kernel
theorem nd_L_release_13 : decode nb_L_release 13 = .ok (.iconst 1, 1) := by decide +kernel
theorem nd_L_release_14 : decode nb_L_release 14 = .ok (.ireturn, 1) := by decide +kernel
theorem nd_L_release_15 : decode nb_L_release 15 = .ok (.iconst 0, 1) := by decide +kernel
theorem nd_L_release_16 : decode nb_L_release 16 = .ok (.ireturn, 1) := by decide +kernel
theorem nd_JL_bitCount_0 : decode nb_JL_bitCount 0 = .ok (.lload_n 0, 1) := by decide +kernel
theorem nd_JL_bitCount_1 : decode nb_JL_bitCount 1 = .ok (.lload_n 0, 1) := by decide +kernel
theorem nd_JL_bitCount_2 : decode nb_JL_bitCount 2 = .ok (.iconst 1, 1) := by decide +kernel
theorem nd_JL_bitCount_3 : decode nb_JL_bitCount 3 = .ok (.lushr, 1) := by decide +kernel
theorem nd_JL_bitCount_4 : decode nb_JL_bitCount 4 = .ok (.ldc2_w 314, 3) := by decide +kernel
theorem nd_JL_bitCount_7 : decode nb_JL_bitCount 7 = .ok (.land, 1) := by decide +kernel
theorem nd_JL_bitCount_8 : decode nb_JL_bitCount 8 = .ok (.lsub, 1) := by decide +kernel
theorem nd_JL_bitCount_9 : decode nb_JL_bitCount 9 = .ok (.lstore_n 0, 1) := by decide +kernel
theorem nd_JL_bitCount_10 : decode nb_JL_bitCount 10 = .ok (.lload_n 0, 1) := by decide +kernel
theorem nd_JL_bitCount_11 : decode nb_JL_bitCount 11 = .ok (.ldc2_w 316, 3) := by decide +kernel
theorem nd_JL_bitCount_14 : decode nb_JL_bitCount 14 = .ok (.land, 1) := by decide +kernel
theorem nd_JL_bitCount_15 : decode nb_JL_bitCount 15 = .ok (.lload_n 0, 1) := by decide +kernel
theorem nd_JL_bitCount_16 : decode nb_JL_bitCount 16 = .ok (.iconst 2, 1) := by decide +kernel
theorem nd_JL_bitCount_17 : decode nb_JL_bitCount 17 = .ok (.lushr, 1) := by decide +kernel
theorem nd_JL_bitCount_18 : decode nb_JL_bitCount 18 = .ok (.ldc2_w 316, 3) := by decide +kernel
theorem nd_JL_bitCount_21 : decode nb_JL_bitCount 21 = .ok (.land, 1) := by decide +kernel
theorem nd_JL_bitCount_22 : decode nb_JL_bitCount 22 = .ok (.ladd, 1) := by decide +kernel
theorem nd_JL_bitCount_23 : decode nb_JL_bitCount 23 = .ok (.lstore_n 0, 1) := by decide +kernel
theorem nd_JL_bitCount_24 : decode nb_JL_bitCount 24 = .ok (.lload_n 0, 1) := by decide +kernel
theorem nd_JL_bitCount_25 : decode nb_JL_bitCount 25 = .ok (.lload_n 0, 1) := by decide +kernel
theorem nd_JL_bitCount_26 : decode nb_JL_bitCount 26 = .ok (.iconst 4, 1) := by decide +kernel
theorem nd_JL_bitCount_27 : decode nb_JL_bitCount 27 = .ok (.lushr, 1) := by decide +kernel
theorem nd_JL_bitCount_28 : decode nb_JL_bitCount 28 = .ok (.ladd, 1) := by decide +kernel
theorem nd_JL_bitCount_29 : decode nb_JL_bitCount 29 = .ok (.ldc2_w 318, 3) := by decide +kernel
theorem nd_JL_bitCount_32 : decode nb_JL_bitCount 32 = .ok (.land, 1) := by decide +kernel
theorem nd_JL_bitCount_33 : decode nb_JL_bitCount 33 = .ok (.lstore_n 0, 1) := by decide +kernel
theorem nd_JL_bitCount_34 : decode nb_JL_bitCount 34 = .ok (.lload_n 0, 1) := by decide +kernel
theorem nd_JL_bitCount_35 : decode nb_JL_bitCount 35 = .ok (.lload_n 0, 1) := by decide +kernel
theorem nd_JL_bitCount_36 : decode nb_JL_bitCount 36 = .ok (.bipush 8, 2) := by decide +kernel
theorem nd_JL_bitCount_38 : decode nb_JL_bitCount 38 = .ok (.lushr, 1) := by decide +kernel
theorem nd_JL_bitCount_39 : decode nb_JL_bitCount 39 = .ok (.ladd, 1) := by decide +kernel
theorem nd_JL_bitCount_40 : decode nb_JL_bitCount 40 = .ok (.lstore_n 0, 1) := by decide +kernel
theorem nd_JL_bitCount_41 : decode nb_JL_bitCount 41 = .ok (.lload_n 0, 1) := by decide +kernel
theorem nd_JL_bitCount_42 : decode nb_JL_bitCount 42 = .ok (.lload_n 0, 1) := by decide +kernel
theorem nd_JL_bitCount_43 : decode nb_JL_bitCount 43 = .ok (.bipush 16, 2) := by decide +kernel
theorem nd_JL_bitCount_45 : decode nb_JL_bitCount 45 = .ok (.lushr, 1) := by decide +kernel
theorem nd_JL_bitCount_46 : decode nb_JL_bitCount 46 = .ok (.ladd, 1) := by decide +kernel
theorem nd_JL_bitCount_47 : decode nb_JL_bitCount 47 = .ok (.lstore_n 0, 1) := by decide +kernel
theorem nd_JL_bitCount_48 : decode nb_JL_bitCount 48 = .ok (.lload_n 0, 1) := by decide +kernel
theorem nd_JL_bitCount_49 : decode nb_JL_bitCount 49 = .ok (.lload_n 0, 1) := by decide +kernel
theorem nd_JL_bitCount_50 : decode nb_JL_bitCount 50 = .ok (.bipush 32, 2) := by decide +kernel
theorem nd_JL_bitCount_52 : decode nb_JL_bitCount 52 = .ok (.lushr, 1) := by decide +kernel
theorem nd_JL_bitCount_53 : decode nb_JL_bitCount 53 = .ok (.ladd, 1) := by decide +kernel
theorem nd_JL_bitCount_54 : decode nb_JL_bitCount 54 = .ok (.lstore_n 0, 1) := by decide +kernel
theorem nd_JL_bitCount_55 : decode nb_JL_bitCount 55 = .ok (.lload_n 0, 1) := by decide +kernel
theorem nd_JL_bitCount_56 : decode nb_JL_bitCount 56 = .ok (.l2i, 1) := by decide +kernel
theorem nd_JL_bitCount_57 : decode nb_JL_bitCount 57 = .ok (.bipush 127, 2) := by decide +kernel
theorem nd_JL_bitCount_59 : decode nb_JL_bitCount 59 = .ok (.iand, 1) := by decide +kernel
theorem nd_JL_bitCount_60 : decode nb_JL_bitCount 60 = .ok (.ireturn, 1) := by decide +kernel
theorem nd_JM_floorDiv_0 : decode nb_JM_floorDiv 0 = .ok (.iload_n 0, 1) := by decide +kernel
theorem nd_JM_floorDiv_1 : decode nb_JM_floorDiv 1 = .ok (.iload_n 1, 1) := by decide +kernel
theorem nd_JM_floorDiv_2 : decode nb_JM_floorDiv 2 = .ok (.idiv, 1) := by decide +kernel
theorem nd_JM_floorDiv_3 : decode nb_JM_floorDiv 3 = .ok (.istore_n 2, 1) := by decide +kernel
theorem nd_JM_floorDiv_4 : decode nb_JM_floorDiv 4 = .ok (.iload_n 0, 1) := by decide +kernel
theorem nd_JM_floorDiv_5 : decode nb_JM_floorDiv 5 = .ok (.iload_n 1, 1) := by decide +kernel
theorem nd_JM_floorDiv_6 : decode nb_JM_floorDiv 6 = .ok (.ixor, 1) := by decide +kernel
theorem nd_JM_floorDiv_7 : decode nb_JM_floorDiv 7 = .ok (.ifCond .ge 14, 3) := by decide +kernel
theorem nd_JM_floorDiv_10 : decode nb_JM_floorDiv 10 = .ok (.iload_n 2, 1) := by decide +kernel
theorem nd_JM_floorDiv_11 : decode nb_JM_floorDiv 11 = .ok (.iload_n 1, 1) := by decide +kernel
theorem nd_JM_floorDiv_12 : decode nb_JM_floorDiv 12 = .ok (.imul, 1) := by decide +kernel
theorem nd_JM_floorDiv_13 : decode nb_JM_floorDiv 13 = .ok (.iload_n 0, 1) := by decide +kernel
theorem nd_JM_floorDiv_14 : decode nb_JM_floorDiv 14 = .ok (.if_icmp .eq 7, 3) := by decide +kernel
theorem nd_JM_floorDiv_17 : decode nb_JM_floorDiv 17 = .ok (.iload_n 2, 1) := by decide +kernel
theorem nd_JM_floorDiv_18 : decode nb_JM_floorDiv 18 = .ok (.iconst 1, 1) := by decide +kernel
theorem nd_JM_floorDiv_19 : decode nb_JM_floorDiv 19 = .ok (.isub, 1) := by decide +kernel
theorem nd_JM_floorDiv_20 : decode nb_JM_floorDiv 20 = .ok (.ireturn, 1) := by decide +kernel
theorem nd_JM_floorDiv_21 : decode nb_JM_floorDiv 21 = .ok (.iload_n 2, 1) := by decide +kernel
theorem nd_JM_floorDiv_22 : decode nb_JM_floorDiv 22 = .ok (.ireturn, 1) := by decide +kernel
theorem nd_JM_floorMod_0 : decode nb_JM_floorMod 0 = .ok (.iload_n 0, 1) := by decide +kernel
theorem nd_JM_floorMod_1 : decode nb_JM_floorMod 1 = .ok (.iload_n 1, 1) := by decide +kernel
theorem nd_JM_floorMod_2 : decode nb_JM_floorMod 2 = .ok (.irem, 1) := by decide +kernel
theorem nd_JM_floorMod_3 : decode nb_JM_floorMod 3 = .ok (.istore_n 2, 1) := by decide +kernel
theorem nd_JM_floorMod_4 : decode nb_JM_floorMod 4 = .ok (.iload_n 0, 1) := by decide +kernel
theorem nd_JM_floorMod_5 : decode nb_JM_floorMod 5 = .ok (.iload_n 1, 1) := by decide +kernel
theorem nd_JM_floorMod_6 : decode nb_JM_floorMod 6 = .ok (.ixor, 1) := by decide +kernel
theorem nd_JM_floorMod_7 : decode nb_JM_floorMod 7 = .ok (.ifCond .ge 11, 3) := by decide +kernel
theorem nd_JM_floorMod_10 : decode nb_JM_floorMod 10 = .ok (.iload_n 2, 1) := by decide +kernel
theorem nd_JM_floorMod_11 : decode nb_JM_floorMod 11 = .ok (.ifCond .eq 7, 3) := by decide +kernel
theorem nd_JM_floorMod_14 : decode nb_JM_floorMod 14 = .ok (.iload_n 2, 1) := by decide +kernel
theorem nd_JM_floorMod_15 : decode nb_JM_floorMod 15 = .ok (.iload_n 1, 1) := by decide +kernel
theorem nd_JM_floorMod_16 : decode nb_JM_floorMod 16 = .ok (.iadd, 1) := by decide +kernel
theorem nd_JM_floorMod_17 : decode nb_JM_floorMod 17 = .ok (.ireturn, 1) := by decide +kernel
theorem nd_JM_floorMod_18 : decode nb_JM_floorMod 18 = .ok (.iload_n 2, 1) := by decide +kernel
theorem nd_JM_floorMod_19 : decode nb_JM_floorMod 19 = .ok (.ireturn, 1) := by decide +kernel
