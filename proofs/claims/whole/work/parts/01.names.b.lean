theorem dX0_init_0 : decode cX0_init 0 = .ok (.aload_n 0, 1) := by decide +kernel
theorem dX0_init_1 : decode cX0_init 1 = .ok (.invokespecial 3, 3) := by decide +kernel
theorem dX0_init_4 : decode cX0_init 4 = .ok (.aload_n 0, 1) := by decide +kernel
theorem dX0_init_5 : decode cX0_init 5 = .ok (.bipush 6, 2) := by decide +kernel
theorem dX0_init_7 : decode cX0_init 7 = .ok (.newarray .int, 2) := by decide +kernel
theorem dX0_init_9 : decode cX0_init 9 = .ok (.putfield 9, 3) := by decide +kernel
theorem dX0_init_12 : decode cX0_init 12 = .ok (.return_, 1) := by decide +kernel
theorem dX0_countFor_0 : decode cX0_countFor 0 = .ok (.aload_n 1, 1) := by decide +kernel
theorem dX0_countFor_1 : decode cX0_countFor 1 = .ok (.aload_n 0, 1) := by decide +kernel
theorem dX0_countFor_2 : decode cX0_countFor 2 = .ok (.getfield 9, 3) := by decide +kernel
theorem dX0_countFor_5 : decode cX0_countFor 5 = .ok (.iconst 0, 1) := by decide +kernel
theorem dX0_countFor_6 : decode cX0_countFor 6 = .ok (.iconst 0, 1) := by decide +kernel
theorem dX0_countFor_7 : decode cX0_countFor 7 = .ok (.invokestatic 15, 3) := by decide +kernel
theorem dX0_countFor_10 : decode cX0_countFor 10 = .ok (.ireturn, 1) := by decide +kernel
theorem dX0_countExtensions_0 : decode cX0_countExtensions 0 = .ok (.iload_n 2, 1) := by decide +kernel
theorem dX0_countExtensions_1 : decode cX0_countExtensions 1 = .ok (.aload_n 0, 1) := by decide +kernel
theorem dX0_countExtensions_2 : decode cX0_countExtensions 2 = .ok (.getfield 19, 3) := by decide +kernel
theorem dX0_countExtensions_5 : decode cX0_countExtensions 5 = .ok (.if_icmp .ge 9, 3) := by decide +kernel
theorem dX0_countExtensions_8 : decode cX0_countExtensions 8 = .ok (.iload_n 2, 1) := by decide +kernel
theorem dX0_countExtensions_9 : decode cX0_countExtensions 9 = .ok (.aload_n 1, 1) := by decide +kernel
theorem dX0_countExtensions_10 : decode cX0_countExtensions 10 = .ok (.arraylength, 1) := by decide +kernel
theorem dX0_countExtensions_11 : decode cX0_countExtensions 11 = .ok (.if_icmp .lt 17, 3) := by decide +kernel
theorem dX0_countExtensions_14 : decode cX0_countExtensions 14 = .ok (.aload_n 0, 1) := by decide +kernel
theorem dX0_countExtensions_15 : decode cX0_countExtensions 15 = .ok (.aload_n 1, 1) := by decide +kernel
theorem dX0_countExtensions_16 : decode cX0_countExtensions 16 = .ok (.invokestatic 25, 3) := by decide +kernel
theorem dX0_countExtensions_19 : decode cX0_countExtensions 19 = .ok (.ifCond .eq 7, 3) := by decide +kernel
theorem dX0_countExtensions_22 : decode cX0_countExtensions 22 = .ok (.iconst 1, 1) := by decide +kernel
theorem dX0_countExtensions_23 : decode cX0_countExtensions 23 = .ok (.goto 4, 3) := by decide +kernel
theorem dX0_countExtensions_26 : decode cX0_countExtensions 26 = .ok (.iconst 0, 1) := by decide +kernel
theorem dX0_countExtensions_27 : decode cX0_countExtensions 27 = .ok (.ireturn, 1) := by decide +kernel
theorem dX0_countExtensions_28 : decode cX0_countExtensions 28 = .ok (.iconst 0, 1) := by decide +kernel
theorem dX0_countExtensions_29 : decode cX0_countExtensions 29 = .ok (.istore 4, 2) := by decide +kernel
theorem dX0_countExtensions_31 : decode cX0_countExtensions 31 = .ok (.iconst 0, 1) := by decide +kernel
theorem dX0_countExtensions_32 : decode cX0_countExtensions 32 = .ok (.istore 5, 2) := by decide +kernel
theorem dX0_countExtensions_34 : decode cX0_countExtensions 34 = .ok (.iload 5, 2) := by decide +kernel
theorem dX0_countExtensions_36 : decode cX0_countExtensions 36 = .ok (.aload_n 0, 1) := by decide +kernel
theorem dX0_countExtensions_37 : decode cX0_countExtensions 37 = .ok (.getfield 19, 3) := by decide +kernel
theorem dX0_countExtensions_40 : decode cX0_countExtensions 40 = .ok (.if_icmp .ge 42, 3) := by decide +kernel
theorem dX0_countExtensions_43 : decode cX0_countExtensions 43 = .ok (.iload_n 3, 1) := by decide +kernel
theorem dX0_countExtensions_44 : decode cX0_countExtensions 44 = .ok (.iconst 1, 1) := by decide +kernel
theorem dX0_countExtensions_45 : decode cX0_countExtensions 45 = .ok (.iload 5, 2) := by decide +kernel
theorem dX0_countExtensions_47 : decode cX0_countExtensions 47 = .ok (.ishl, 1) := by decide +kernel
theorem dX0_countExtensions_48 : decode cX0_countExtensions 48 = .ok (.iand, 1) := by decide +kernel
theorem dX0_countExtensions_49 : decode cX0_countExtensions 49 = .ok (.ifCond .ne 27, 3) := by decide +kernel
theorem dX0_countExtensions_52 : decode cX0_countExtensions 52 = .ok (.aload_n 1, 1) := by decide +kernel
theorem dX0_countExtensions_53 : decode cX0_countExtensions 53 = .ok (.iload_n 2, 1) := by decide +kernel
theorem dX0_countExtensions_54 : decode cX0_countExtensions 54 = .ok (.iload 5, 2) := by decide +kernel
theorem dX0_countExtensions_56 : decode cX0_countExtensions 56 = .ok (.iastore, 1) := by decide +kernel
theorem dX0_countExtensions_57 : decode cX0_countExtensions 57 = .ok (.iload 4, 2) := by decide +kernel
theorem dX0_countExtensions_59 : decode cX0_countExtensions 59 = .ok (.aload_n 0, 1) := by decide +kernel
theorem dX0_countExtensions_60 : decode cX0_countExtensions 60 = .ok (.aload_n 1, 1) := by decide +kernel
theorem dX0_countExtensions_61 : decode cX0_countExtensions 61 = .ok (.iload_n 2, 1) := by decide +kernel
theorem dX0_countExtensions_62 : decode cX0_countExtensions 62 = .ok (.iconst 1, 1) := by decide +kernel
theorem dX0_countExtensions_63 : decode cX0_countExtensions 63 = .ok (.iadd, 1) := by decide +kernel
theorem dX0_countExtensions_64 : decode cX0_countExtensions 64 = .ok (.iload_n 3, 1) := by decide +kernel
theorem dX0_countExtensions_65 : decode cX0_countExtensions 65 = .ok (.iconst 1, 1) := by decide +kernel
theorem dX0_countExtensions_66 : decode cX0_countExtensions 66 = .ok (.iload 5, 2) := by decide +kernel
theorem dX0_countExtensions_68 : decode cX0_countExtensions 68 = .ok (.ishl, 1) := by decide +kernel
theorem dX0_countExtensions_69 : decode cX0_countExtensions 69 = .ok (.ior, 1) := by decide +kernel
theorem dX0_countExtensions_70 : decode cX0_countExtensions 70 = .ok (.invokestatic 15, 3) := by decide +kernel
theorem dX0_countExtensions_73 : decode cX0_countExtensions 73 = .ok (.iadd, 1) := by decide +kernel
theorem dX0_countExtensions_74 : decode cX0_countExtensions 74 = .ok (.istore 4, 2) := by decide +kernel
theorem dX0_countExtensions_76 : decode cX0_countExtensions 76 = .ok (.iinc 5 1, 3) := by decide +kernel
theorem dX0_countExtensions_79 : decode cX0_countExtensions 79 = .ok (.goto (-45), 3) := by decide +kernel
theorem dX0_countExtensions_82 : decode cX0_countExtensions 82 = .ok (.iload 4, 2) := by decide +kernel
theorem dX0_countExtensions_84 : decode cX0_countExtensions 84 = .ok (.ireturn, 1) := by decide +kernel
theorem dX0_isHomomorphism_0 : decode cX0_isHomomorphism 0 = .ok (.iconst 0, 1) := by decide +kernel
theorem dX0_isHomomorphism_1 : decode cX0_isHomomorphism 1 = .ok (.istore_n 2, 1) := by decide +kernel
theorem dX0_isHomomorphism_2 : decode cX0_isHomomorphism 2 = .ok (.iload_n 2, 1) := by decide +kernel
theorem dX0_isHomomorphism_3 : decode cX0_isHomomorphism 3 = .ok (.aload_n 0, 1) := by decide +kernel
theorem dX0_isHomomorphism_4 : decode cX0_isHomomorphism 4 = .ok (.getfield 19, 3) := by decide +kernel
theorem dX0_isHomomorphism_7 : decode cX0_isHomomorphism 7 = .ok (.if_icmp .ge 58, 3) := by decide +kernel
theorem dX0_isHomomorphism_10 : decode cX0_isHomomorphism 10 = .ok (.iconst 0, 1) := by decide +kernel
theorem dX0_isHomomorphism_11 : decode cX0_isHomomorphism 11 = .ok (.istore_n 3, 1) := by decide +kernel
theorem dX0_isHomomorphism_12 : decode cX0_isHomomorphism 12 = .ok (.iload_n 3, 1) := by decide +kernel
theorem dX0_isHomomorphism_13 : decode cX0_isHomomorphism 13 = .ok (.aload_n 0, 1) := by decide +kernel
theorem dX0_isHomomorphism_14 : decode cX0_isHomomorphism 14 = .ok (.getfield 19, 3) := by decide +kernel
theorem dX0_isHomomorphism_17 : decode cX0_isHomomorphism 17 = .ok (.if_icmp .ge 42, 3) := by decide +kernel
theorem dX0_isHomomorphism_20 : decode cX0_isHomomorphism 20 = .ok (.aload_n 1, 1) := by decide +kernel
theorem dX0_isHomomorphism_21 : decode cX0_isHomomorphism 21 = .ok (.aload_n 0, 1) := by decide +kernel
theorem dX0_isHomomorphism_22 : decode cX0_isHomomorphism 22 = .ok (.iload_n 2, 1) := by decide +kernel
theorem dX0_isHomomorphism_23 : decode cX0_isHomomorphism 23 = .ok (.iload_n 3, 1) := by decide +kernel
theorem dX0_isHomomorphism_24 : decode cX0_isHomomorphism 24 = .ok (.invokevirtual 29, 3) := by decide +kernel
theorem dX0_isHomomorphism_27 : decode cX0_isHomomorphism 27 = .ok (.invokestatic 33, 3) := by decide +kernel
theorem dX0_isHomomorphism_30 : decode cX0_isHomomorphism 30 = .ok (.istore 4, 2) := by decide +kernel
theorem dX0_isHomomorphism_32 : decode cX0_isHomomorphism 32 = .ok (.iload 4, 2) := by decide +kernel
theorem dX0_isHomomorphism_34 : decode cX0_isHomomorphism 34 = .ok (.aload_n 0, 1) := by decide +kernel
theorem dX0_isHomomorphism_35 : decode cX0_isHomomorphism 35 = .ok (.aload_n 1, 1) := by decide +kernel
theorem dX0_isHomomorphism_36 : decode cX0_isHomomorphism 36 = .ok (.iload_n 2, 1) := by decide +kernel
theorem dX0_isHomomorphism_37 : decode cX0_isHomomorphism 37 = .ok (.invokestatic 33, 3) := by decide +kernel
theorem dX0_isHomomorphism_40 : decode cX0_isHomomorphism 40 = .ok (.aload_n 1, 1) := by decide +kernel
theorem dX0_isHomomorphism_41 : decode cX0_isHomomorphism 41 = .ok (.iload_n 3, 1) := by decide +kernel
theorem dX0_isHomomorphism_42 : decode cX0_isHomomorphism 42 = .ok (.invokestatic 33, 3) := by decide +kernel
theorem dX0_isHomomorphism_45 : decode cX0_isHomomorphism 45 = .ok (.invokevirtual 29, 3) := by decide +kernel
theorem dX0_isHomomorphism_48 : decode cX0_isHomomorphism 48 = .ok (.if_icmp .eq 5, 3) := by decide +kernel
theorem dX0_isHomomorphism_51 : decode cX0_isHomomorphism 51 = .ok (.iconst 0, 1) := by decide +kernel
theorem dX0_isHomomorphism_52 : decode cX0_isHomomorphism 52 = .ok (.ireturn, 1) := by decide +kernel
theorem dX0_isHomomorphism_53 : decode cX0_isHomomorphism 53 = .ok (.iinc 3 1, 3) := by decide +kernel
theorem dX0_isHomomorphism_56 : decode cX0_isHomomorphism 56 = .ok (.goto (-44), 3) := by decide +kernel
theorem dX0_isHomomorphism_59 : decode cX0_isHomomorphism 59 = .ok (.iinc 2 1, 3) := by decide +kernel
theorem dX0_isHomomorphism_62 : decode cX0_isHomomorphism 62 = .ok (.goto (-60), 3) := by decide +kernel
theorem dX0_isHomomorphism_65 : decode cX0_isHomomorphism 65 = .ok (.iconst 1, 1) := by decide +kernel
theorem dX0_isHomomorphism_66 : decode cX0_isHomomorphism 66 = .ok (.ireturn, 1) := by decide +kernel
theorem dX0_imageOf_0 : decode cX0_imageOf 0 = .ok (.iload_n 1, 1) := by decide +kernel
theorem dX0_imageOf_1 : decode cX0_imageOf 1 = .ok (.ifCond .lt 15, 3) := by decide +kernel
theorem dX0_imageOf_4 : decode cX0_imageOf 4 = .ok (.iload_n 1, 1) := by decide +kernel
theorem dX0_imageOf_5 : decode cX0_imageOf 5 = .ok (.aload_n 0, 1) := by decide +kernel
theorem dX0_imageOf_6 : decode cX0_imageOf 6 = .ok (.arraylength, 1) := by decide +kernel
theorem dX0_imageOf_7 : decode cX0_imageOf 7 = .ok (.if_icmp .ge 9, 3) := by decide +kernel
theorem dX0_imageOf_10 : decode cX0_imageOf 10 = .ok (.aload_n 0, 1) := by decide +kernel
theorem dX0_imageOf_11 : decode cX0_imageOf 11 = .ok (.iload_n 1, 1) := by decide +kernel
theorem dX0_imageOf_12 : decode cX0_imageOf 12 = .ok (.iaload, 1) := by decide +kernel
theorem dX0_imageOf_13 : decode cX0_imageOf 13 = .ok (.goto 4, 3) := by decide +kernel
theorem dX0_imageOf_16 : decode cX0_imageOf 16 = .ok (.iconst 0, 1) := by decide +kernel
theorem dX0_imageOf_17 : decode cX0_imageOf 17 = .ok (.ireturn, 1) := by decide +kernel
theorem dX1_init_0 : decode cX1_init 0 = .ok (.aload_n 0, 1) := by decide +kernel
theorem dX1_init_1 : decode cX1_init 1 = .ok (.invokespecial 3, 3) := by decide +kernel
theorem dX1_init_4 : decode cX1_init 4 = .ok (.aload_n 0, 1) := by decide +kernel
theorem dX1_init_5 : decode cX1_init 5 = .ok (.iconst 2, 1) := by decide +kernel
theorem dX1_init_6 : decode cX1_init 6 = .ok (.putfield 9, 3) := by decide +kernel
theorem dX1_init_9 : decode cX1_init 9 = .ok (.aload_n 0, 1) := by decide +kernel
theorem dX1_init_10 : decode cX1_init 10 = .ok (.iconst 0, 1) := by decide +kernel
theorem dX1_init_11 : decode cX1_init 11 = .ok (.putfield 15, 3) := by decide +kernel
theorem dX1_init_14 : decode cX1_init 14 = .ok (.aload_n 0, 1) := by decide +kernel
theorem dX1_init_15 : decode cX1_init 15 = .ok (.bipush 12, 2) := by decide +kernel
theorem dX1_init_17 : decode cX1_init 17 = .ok (.newarray .int, 2) := by decide +kernel
theorem dX1_init_19 : decode cX1_init 19 = .ok (.putfield 18, 3) := by decide +kernel
theorem dX1_init_22 : decode cX1_init 22 = .ok (.return_, 1) := by decide +kernel
theorem dX1_allows_0 : decode cX1_allows 0 = .ok (.iload_n 1, 1) := by decide +kernel
theorem dX1_allows_1 : decode cX1_allows 1 = .ok (.ifCond .eq 24, 3) := by decide +kernel
theorem dX1_allows_4 : decode cX1_allows 4 = .ok (.iload_n 1, 1) := by decide +kernel
theorem dX1_allows_5 : decode cX1_allows 5 = .ok (.aload_n 0, 1) := by decide +kernel
theorem dX1_allows_6 : decode cX1_allows 6 = .ok (.getfield 9, 3) := by decide +kernel
theorem dX1_allows_9 : decode cX1_allows 9 = .ok (.ineg, 1) := by decide +kernel
theorem dX1_allows_10 : decode cX1_allows 10 = .ok (.if_icmp .le 15, 3) := by decide +kernel
theorem dX1_allows_13 : decode cX1_allows 13 = .ok (.iload_n 1, 1) := by decide +kernel
theorem dX1_allows_14 : decode cX1_allows 14 = .ok (.aload_n 0, 1) := by decide +kernel
theorem dX1_allows_15 : decode cX1_allows 15 = .ok (.getfield 9, 3) := by decide +kernel
theorem dX1_allows_18 : decode cX1_allows 18 = .ok (.if_icmp .ge 7, 3) := by decide +kernel
theorem dX1_allows_21 : decode cX1_allows 21 = .ok (.iconst 1, 1) := by decide +kernel
theorem dX1_allows_22 : decode cX1_allows 22 = .ok (.goto 4, 3) := by decide +kernel
theorem dX1_allows_25 : decode cX1_allows 25 = .ok (.iconst 0, 1) := by decide +kernel
theorem dX1_allows_26 : decode cX1_allows 26 = .ok (.ireturn, 1) := by decide +kernel
theorem dX1_at_0 : decode cX1_at 0 = .ok (.iload_n 1, 1) := by decide +kernel
theorem dX1_at_1 : decode cX1_at 1 = .ok (.ifCond .lt 26, 3) := by decide +kernel
theorem dX1_at_4 : decode cX1_at 4 = .ok (.iload_n 1, 1) := by decide +kernel
theorem dX1_at_5 : decode cX1_at 5 = .ok (.aload_n 0, 1) := by decide +kernel
theorem dX1_at_6 : decode cX1_at 6 = .ok (.getfield 15, 3) := by decide +kernel
theorem dX1_at_9 : decode cX1_at 9 = .ok (.if_icmp .ge 18, 3) := by decide +kernel
theorem dX1_at_12 : decode cX1_at 12 = .ok (.iload_n 1, 1) := by decide +kernel
theorem dX1_at_13 : decode cX1_at 13 = .ok (.bipush 12, 2) := by decide +kernel
theorem dX1_at_15 : decode cX1_at 15 = .ok (.if_icmp .ge 12, 3) := by decide +kernel
theorem dX1_at_18 : decode cX1_at 18 = .ok (.aload_n 0, 1) := by decide +kernel
theorem dX1_at_19 : decode cX1_at 19 = .ok (.getfield 18, 3) := by decide +kernel
theorem dX1_at_22 : decode cX1_at 22 = .ok (.iload_n 1, 1) := by decide +kernel
theorem dX1_at_23 : decode cX1_at 23 = .ok (.iaload, 1) := by decide +kernel
theorem dX1_at_24 : decode cX1_at 24 = .ok (.goto 4, 3) := by decide +kernel
theorem dX1_at_27 : decode cX1_at 27 = .ok (.iconst 0, 1) := by decide +kernel
theorem dX1_at_28 : decode cX1_at 28 = .ok (.ireturn, 1) := by decide +kernel
theorem dX1_restart_0 : decode cX1_restart 0 = .ok (.aload_n 0, 1) := by decide +kernel
theorem dX1_restart_1 : decode cX1_restart 1 = .ok (.iload_n 1, 1) := by decide +kernel
theorem dX1_restart_2 : decode cX1_restart 2 = .ok (.putfield 9, 3) := by decide +kernel
theorem dX1_restart_5 : decode cX1_restart 5 = .ok (.aload_n 0, 1) := by decide +kernel
theorem dX1_restart_6 : decode cX1_restart 6 = .ok (.iconst 0, 1) := by decide +kernel
theorem dX1_restart_7 : decode cX1_restart 7 = .ok (.putfield 15, 3) := by decide +kernel
theorem dX1_restart_10 : decode cX1_restart 10 = .ok (.return_, 1) := by decide +kernel
theorem dX1_append_0 : decode cX1_append 0 = .ok (.aload_n 0, 1) := by decide +kernel
theorem dX1_append_1 : decode cX1_append 1 = .ok (.getfield 15, 3) := by decide +kernel
theorem dX1_append_4 : decode cX1_append 4 = .ok (.ifCond .lt 32, 3) := by decide +kernel
theorem dX1_append_7 : decode cX1_append 7 = .ok (.aload_n 0, 1) := by decide +kernel
theorem dX1_append_8 : decode cX1_append 8 = .ok (.getfield 15, 3) := by decide +kernel
theorem dX1_append_11 : decode cX1_append 11 = .ok (.bipush 12, 2) := by decide +kernel
theorem dX1_append_13 : decode cX1_append 13 = .ok (.if_icmp .ge 23, 3) := by decide +kernel
theorem dX1_append_16 : decode cX1_append 16 = .ok (.aload_n 0, 1) := by decide +kernel
theorem dX1_append_17 : decode cX1_append 17 = .ok (.getfield 18, 3) := by decide +kernel
theorem dX1_append_20 : decode cX1_append 20 = .ok (.aload_n 0, 1) := by decide +kernel
theorem dX1_append_21 : decode cX1_append 21 = .ok (.getfield 15, 3) := by decide +kernel
theorem dX1_append_24 : decode cX1_append 24 = .ok (.iload_n 1, 1) := by decide +kernel
theorem dX1_append_25 : decode cX1_append 25 = .ok (.iastore, 1) := by decide +kernel
theorem dX1_append_26 : decode cX1_append 26 = .ok (.aload_n 0, 1) := by decide +kernel
theorem dX1_append_27 : decode cX1_append 27 = .ok (.dup, 1) := by decide +kernel
theorem dX1_append_28 : decode cX1_append 28 = .ok (.getfield 15, 3) := by decide +kernel
theorem dX1_append_31 : decode cX1_append 31 = .ok (.iconst 1, 1) := by decide +kernel
theorem dX1_append_32 : decode cX1_append 32 = .ok (.iadd, 1) := by decide +kernel
theorem dX1_append_33 : decode cX1_append 33 = .ok (.putfield 15, 3) := by decide +kernel
theorem dX1_append_36 : decode cX1_append 36 = .ok (.return_, 1) := by decide +kernel
theorem dX1_removeLast_0 : decode cX1_removeLast 0 = .ok (.aload_n 0, 1) := by decide +kernel
theorem dX1_removeLast_1 : decode cX1_removeLast 1 = .ok (.aload_n 0, 1) := by decide +kernel
theorem dX1_removeLast_2 : decode cX1_removeLast 2 = .ok (.getfield 15, 3) := by decide +kernel
theorem dX1_removeLast_5 : decode cX1_removeLast 5 = .ok (.iconst 1, 1) := by decide +kernel
theorem dX1_removeLast_6 : decode cX1_removeLast 6 = .ok (.isub, 1) := by decide +kernel
theorem dX1_removeLast_7 : decode cX1_removeLast 7 = .ok (.invokevirtual 22, 3) := by decide +kernel
theorem dX1_removeLast_10 : decode cX1_removeLast 10 = .ok (.istore_n 1, 1) := by decide +kernel
theorem dX1_removeLast_11 : decode cX1_removeLast 11 = .ok (.aload_n 0, 1) := by decide +kernel
theorem dX1_removeLast_12 : decode cX1_removeLast 12 = .ok (.getfield 15, 3) := by decide +kernel
theorem dX1_removeLast_15 : decode cX1_removeLast 15 = .ok (.ifCond .le 13, 3) := by decide +kernel
theorem dX1_removeLast_18 : decode cX1_removeLast 18 = .ok (.aload_n 0, 1) := by decide +kernel
theorem dX1_removeLast_19 : decode cX1_removeLast 19 = .ok (.dup, 1) := by decide +kernel
theorem dX1_removeLast_20 : decode cX1_removeLast 20 = .ok (.getfield 15, 3) := by decide +kernel
theorem dX1_removeLast_23 : decode cX1_removeLast 23 = .ok (.iconst 1, 1) := by decide +kernel
theorem dX1_removeLast_24 : decode cX1_removeLast 24 = .ok (.isub, 1) := by decide +kernel
theorem dX1_removeLast_25 : decode cX1_removeLast 25 = .ok (.putfield 15, 3) := by decide +kernel
theorem dX1_removeLast_28 : decode cX1_removeLast 28 = .ok (.iload_n 1, 1) := by decide +kernel
theorem dX1_removeLast_29 : decode cX1_removeLast 29 = .ok (.ireturn, 1) := by decide +kernel
theorem dX1_copyFrom_0 : decode cX1_copyFrom 0 = .ok (.aload_n 0, 1) := by decide +kernel
theorem dX1_copyFrom_1 : decode cX1_copyFrom 1 = .ok (.aload_n 1, 1) := by decide +kernel
theorem dX1_copyFrom_2 : decode cX1_copyFrom 2 = .ok (.getfield 9, 3) := by decide +kernel
theorem dX1_copyFrom_5 : decode cX1_copyFrom 5 = .ok (.putfield 9, 3) := by decide +kernel
theorem dX1_copyFrom_8 : decode cX1_copyFrom 8 = .ok (.aload_n 0, 1) := by decide +kernel
theorem dX1_copyFrom_9 : decode cX1_copyFrom 9 = .ok (.aload_n 1, 1) := by decide +kernel
theorem dX1_copyFrom_10 : decode cX1_copyFrom 10 = .ok (.getfield 15, 3) := by decide +kernel
theorem dX1_copyFrom_13 : decode cX1_copyFrom 13 = .ok (.putfield 15, 3) := by decide +kernel
theorem dX1_copyFrom_16 : decode cX1_copyFrom 16 = .ok (.iconst 0, 1) := by decide +kernel
theorem dX1_copyFrom_17 : decode cX1_copyFrom 17 = .ok (.istore_n 2, 1) := by decide +kernel
theorem dX1_copyFrom_18 : decode cX1_copyFrom 18 = .ok (.iload_n 2, 1) := by decide +kernel
theorem dX1_copyFrom_19 : decode cX1_copyFrom 19 = .ok (.bipush 12, 2) := by decide +kernel
theorem dX1_copyFrom_21 : decode cX1_copyFrom 21 = .ok (.if_icmp .ge 21, 3) := by decide +kernel
theorem dX1_copyFrom_24 : decode cX1_copyFrom 24 = .ok (.aload_n 0, 1) := by decide +kernel
theorem dX1_copyFrom_25 : decode cX1_copyFrom 25 = .ok (.getfield 18, 3) := by decide +kernel
theorem dX1_copyFrom_28 : decode cX1_copyFrom 28 = .ok (.iload_n 2, 1) := by decide +kernel
theorem dX1_copyFrom_29 : decode cX1_copyFrom 29 = .ok (.aload_n 1, 1) := by decide +kernel
theorem dX1_copyFrom_30 : decode cX1_copyFrom 30 = .ok (.getfield 18, 3) := by decide +kernel
theorem dX1_copyFrom_33 : decode cX1_copyFrom 33 = .ok (.iload_n 2, 1) := by decide +kernel
theorem dX1_copyFrom_34 : decode cX1_copyFrom 34 = .ok (.iaload, 1) := by decide +kernel
theorem dX1_copyFrom_35 : decode cX1_copyFrom 35 = .ok (.iastore, 1) := by decide +kernel
theorem dX1_copyFrom_36 : decode cX1_copyFrom 36 = .ok (.iinc 2 1, 3) := by decide +kernel
theorem dX1_copyFrom_39 : decode cX1_copyFrom 39 = .ok (.goto (-21), 3) := by decide +kernel
theorem dX1_copyFrom_42 : decode cX1_copyFrom 42 = .ok (.return_, 1) := by decide +kernel
theorem dX2_init_0 : decode cX2_init 0 = .ok (.aload_n 0, 1) := by decide +kernel
theorem dX2_init_1 : decode cX2_init 1 = .ok (.invokespecial 3, 3) := by decide +kernel
theorem dX2_init_4 : decode cX2_init 4 = .ok (.aload_n 0, 1) := by decide +kernel
theorem dX2_init_5 : decode cX2_init 5 = .ok (.bipush 36, 2) := by decide +kernel
theorem dX2_init_7 : decode cX2_init 7 = .ok (.newarray .int, 2) := by decide +kernel
theorem dX2_init_9 : decode cX2_init 9 = .ok (.putfield 9, 3) := by decide +kernel
theorem dX2_init_12 : decode cX2_init 12 = .ok (.return_, 1) := by decide +kernel
theorem dX2_holds_0 : decode cX2_holds 0 = .ok (.iload_n 0, 1) := by decide +kernel
theorem dX2_holds_1 : decode cX2_holds 1 = .ok (.ifCond .lt 23, 3) := by decide +kernel
theorem dX2_holds_4 : decode cX2_holds 4 = .ok (.iload_n 0, 1) := by decide +kernel
theorem dX2_holds_5 : decode cX2_holds 5 = .ok (.bipush 6, 2) := by decide +kernel
theorem dX2_holds_7 : decode cX2_holds 7 = .ok (.if_icmp .ge 17, 3) := by decide +kernel
theorem dX2_holds_10 : decode cX2_holds 10 = .ok (.iload_n 1, 1) := by decide +kernel
theorem dX2_holds_11 : decode cX2_holds 11 = .ok (.ifCond .lt 13, 3) := by decide +kernel
theorem dX2_holds_14 : decode cX2_holds 14 = .ok (.iload_n 1, 1) := by decide +kernel
theorem dX2_holds_15 : decode cX2_holds 15 = .ok (.bipush 6, 2) := by decide +kernel
theorem dX2_holds_17 : decode cX2_holds 17 = .ok (.if_icmp .ge 7, 3) := by decide +kernel
theorem dX2_holds_20 : decode cX2_holds 20 = .ok (.iconst 1, 1) := by decide +kernel
theorem dX2_holds_21 : decode cX2_holds 21 = .ok (.goto 4, 3) := by decide +kernel
theorem dX2_holds_24 : decode cX2_holds 24 = .ok (.iconst 0, 1) := by decide +kernel
theorem dX2_holds_25 : decode cX2_holds 25 = .ok (.ireturn, 1) := by decide +kernel
theorem dX2_get_0 : decode cX2_get 0 = .ok (.iload_n 1, 1) := by decide +kernel
theorem dX2_get_1 : decode cX2_get 1 = .ok (.iload_n 2, 1) := by decide +kernel
theorem dX2_get_2 : decode cX2_get 2 = .ok (.invokestatic 15, 3) := by decide +kernel
theorem dX2_get_5 : decode cX2_get 5 = .ok (.ifCond .eq 17, 3) := by decide +kernel
theorem dX2_get_8 : decode cX2_get 8 = .ok (.aload_n 0, 1) := by decide +kernel
theorem dX2_get_9 : decode cX2_get 9 = .ok (.getfield 9, 3) := by decide +kernel
theorem dX2_get_12 : decode cX2_get 12 = .ok (.bipush 6, 2) := by decide +kernel
theorem dX2_get_14 : decode cX2_get 14 = .ok (.iload_n 1, 1) := by decide +kernel
theorem dX2_get_15 : decode cX2_get 15 = .ok (.imul, 1) := by decide +kernel
theorem dX2_get_16 : decode cX2_get 16 = .ok (.iload_n 2, 1) := by decide +kernel
theorem dX2_get_17 : decode cX2_get 17 = .ok (.iadd, 1) := by decide +kernel
theorem dX2_get_18 : decode cX2_get 18 = .ok (.iaload, 1) := by decide +kernel
theorem dX2_get_19 : decode cX2_get 19 = .ok (.goto 4, 3) := by decide +kernel
theorem dX2_get_22 : decode cX2_get 22 = .ok (.iconst 0, 1) := by decide +kernel
theorem dX2_get_23 : decode cX2_get 23 = .ok (.ireturn, 1) := by decide +kernel
theorem dX2_put_0 : decode cX2_put 0 = .ok (.iload_n 1, 1) := by decide +kernel
theorem dX2_put_1 : decode cX2_put 1 = .ok (.iload_n 2, 1) := by decide +kernel
theorem dX2_put_2 : decode cX2_put 2 = .ok (.invokestatic 15, 3) := by decide +kernel
theorem dX2_put_5 : decode cX2_put 5 = .ok (.ifCond .eq 15, 3) := by decide +kernel
theorem dX2_put_8 : decode cX2_put 8 = .ok (.aload_n 0, 1) := by decide +kernel
theorem dX2_put_9 : decode cX2_put 9 = .ok (.getfield 9, 3) := by decide +kernel
theorem dX2_put_12 : decode cX2_put 12 = .ok (.bipush 6, 2) := by decide +kernel
theorem dX2_put_14 : decode cX2_put 14 = .ok (.iload_n 1, 1) := by decide +kernel
theorem dX2_put_15 : decode cX2_put 15 = .ok (.imul, 1) := by decide +kernel
theorem dX2_put_16 : decode cX2_put 16 = .ok (.iload_n 2, 1) := by decide +kernel
theorem dX2_put_17 : decode cX2_put 17 = .ok (.iadd, 1) := by decide +kernel
theorem dX2_put_18 : decode cX2_put 18 = .ok (.iload_n 3, 1) := by decide +kernel
theorem dX2_put_19 : decode cX2_put 19 = .ok (.iastore, 1) := by decide +kernel
theorem dX2_put_20 : decode cX2_put 20 = .ok (.return_, 1) := by decide +kernel
theorem dX2_clear_0 : decode cX2_clear 0 = .ok (.iconst 0, 1) := by decide +kernel
theorem dX2_clear_1 : decode cX2_clear 1 = .ok (.istore_n 1, 1) := by decide +kernel
theorem dX2_clear_2 : decode cX2_clear 2 = .ok (.iload_n 1, 1) := by decide +kernel
theorem dX2_clear_3 : decode cX2_clear 3 = .ok (.bipush 36, 2) := by decide +kernel
theorem dX2_clear_5 : decode cX2_clear 5 = .ok (.if_icmp .ge 16, 3) := by decide +kernel
theorem dX2_clear_8 : decode cX2_clear 8 = .ok (.aload_n 0, 1) := by decide +kernel
theorem dX2_clear_9 : decode cX2_clear 9 = .ok (.getfield 9, 3) := by decide +kernel
theorem dX2_clear_12 : decode cX2_clear 12 = .ok (.iload_n 1, 1) := by decide +kernel
theorem dX2_clear_13 : decode cX2_clear 13 = .ok (.iconst 0, 1) := by decide +kernel
theorem dX2_clear_14 : decode cX2_clear 14 = .ok (.iastore, 1) := by decide +kernel
theorem dX2_clear_15 : decode cX2_clear 15 = .ok (.iinc 1 1, 3) := by decide +kernel
theorem dX2_clear_18 : decode cX2_clear 18 = .ok (.goto (-16), 3) := by decide +kernel
theorem dX2_clear_21 : decode cX2_clear 21 = .ok (.return_, 1) := by decide +kernel
theorem dX2_copyFrom_0 : decode cX2_copyFrom 0 = .ok (.iconst 0, 1) := by decide +kernel
theorem dX2_copyFrom_1 : decode cX2_copyFrom 1 = .ok (.istore_n 2, 1) := by decide +kernel
theorem dX2_copyFrom_2 : decode cX2_copyFrom 2 = .ok (.iload_n 2, 1) := by decide +kernel
theorem dX2_copyFrom_3 : decode cX2_copyFrom 3 = .ok (.bipush 36, 2) := by decide +kernel
theorem dX2_copyFrom_5 : decode cX2_copyFrom 5 = .ok (.if_icmp .ge 21, 3) := by decide +kernel
theorem dX2_copyFrom_8 : decode cX2_copyFrom 8 = .ok (.aload_n 0, 1) := by decide +kernel
theorem dX2_copyFrom_9 : decode cX2_copyFrom 9 = .ok (.getfield 9, 3) := by decide +kernel
theorem dX2_copyFrom_12 : decode cX2_copyFrom 12 = .ok (.iload_n 2, 1) := by decide +kernel
theorem dX2_copyFrom_13 : decode cX2_copyFrom 13 = .ok (.aload_n 1, 1) := by decide +kernel
theorem dX2_copyFrom_14 : decode cX2_copyFrom 14 = .ok (.getfield 9, 3) := by decide +kernel
theorem dX2_copyFrom_17 : decode cX2_copyFrom 17 = .ok (.iload_n 2, 1) := by decide +kernel
theorem dX2_copyFrom_18 : decode cX2_copyFrom 18 = .ok (.iaload, 1) := by decide +kernel
theorem dX2_copyFrom_19 : decode cX2_copyFrom 19 = .ok (.iastore, 1) := by decide +kernel
theorem dX2_copyFrom_20 : decode cX2_copyFrom 20 = .ok (.iinc 2 1, 3) := by decide +kernel
theorem dX2_copyFrom_23 : decode cX2_copyFrom 23 = .ok (.goto (-21), 3) := by decide +kernel
theorem dX2_copyFrom_26 : decode cX2_copyFrom 26 = .ok (.return_, 1) := by decide +kernel
theorem dX3_init_0 : decode cX3_init 0 = .ok (.aload_n 0, 1) := by decide +kernel
theorem dX3_init_1 : decode cX3_init 1 = .ok (.invokespecial 3, 3) := by decide +kernel
theorem dX3_init_4 : decode cX3_init 4 = .ok (.aload_n 0, 1) := by decide +kernel
theorem dX3_init_5 : decode cX3_init 5 = .ok (.iconst 5, 1) := by decide +kernel
theorem dX3_init_6 : decode cX3_init 6 = .ok (.anewarray 9, 3) := by decide +kernel
theorem dX3_init_9 : decode cX3_init 9 = .ok (.putfield 11, 3) := by decide +kernel
theorem dX3_init_12 : decode cX3_init 12 = .ok (.aload_n 0, 1) := by decide +kernel
theorem dX3_init_13 : decode cX3_init 13 = .ok (.iconst 0, 1) := by decide +kernel
theorem dX3_init_14 : decode cX3_init 14 = .ok (.putfield 17, 3) := by decide +kernel
theorem dX3_init_17 : decode cX3_init 17 = .ok (.iconst 0, 1) := by decide +kernel
theorem dX3_init_18 : decode cX3_init 18 = .ok (.istore_n 1, 1) := by decide +kernel
theorem dX3_init_19 : decode cX3_init 19 = .ok (.iload_n 1, 1) := by decide +kernel
theorem dX3_init_20 : decode cX3_init 20 = .ok (.iconst 5, 1) := by decide +kernel
theorem dX3_init_21 : decode cX3_init 21 = .ok (.if_icmp .ge 22, 3) := by decide +kernel
theorem dX3_init_24 : decode cX3_init 24 = .ok (.aload_n 0, 1) := by decide +kernel
theorem dX3_init_25 : decode cX3_init 25 = .ok (.getfield 11, 3) := by decide +kernel
theorem dX3_init_28 : decode cX3_init 28 = .ok (.iload_n 1, 1) := by decide +kernel
theorem dX3_init_29 : decode cX3_init 29 = .ok (.new 9, 3) := by decide +kernel
theorem dX3_init_32 : decode cX3_init 32 = .ok (.dup, 1) := by decide +kernel
theorem dX3_init_33 : decode cX3_init 33 = .ok (.invokespecial 21, 3) := by decide +kernel
theorem dX3_init_36 : decode cX3_init 36 = .ok (.aastore, 1) := by decide +kernel
theorem dX3_init_37 : decode cX3_init 37 = .ok (.iinc 1 1, 3) := by decide +kernel
theorem dX3_init_40 : decode cX3_init 40 = .ok (.goto (-21), 3) := by decide +kernel
theorem dX3_init_43 : decode cX3_init 43 = .ok (.return_, 1) := by decide +kernel
theorem dX3_remember_0 : decode cX3_remember 0 = .ok (.aload_n 0, 1) := by decide +kernel
theorem dX3_remember_1 : decode cX3_remember 1 = .ok (.getfield 17, 3) := by decide +kernel
theorem dX3_remember_4 : decode cX3_remember 4 = .ok (.iconst 5, 1) := by decide +kernel
theorem dX3_remember_5 : decode cX3_remember 5 = .ok (.if_icmp .ne 7, 3) := by decide +kernel
theorem dX3_remember_8 : decode cX3_remember 8 = .ok (.aload_n 0, 1) := by decide +kernel
theorem dX3_remember_9 : decode cX3_remember 9 = .ok (.invokevirtual 22, 3) := by decide +kernel
theorem dX3_remember_12 : decode cX3_remember 12 = .ok (.aload_n 0, 1) := by decide +kernel
theorem dX3_remember_13 : decode cX3_remember 13 = .ok (.getfield 17, 3) := by decide +kernel
theorem dX3_remember_16 : decode cX3_remember 16 = .ok (.ifCond .lt 46, 3) := by decide +kernel
theorem dX3_remember_19 : decode cX3_remember 19 = .ok (.aload_n 0, 1) := by decide +kernel
theorem dX3_remember_20 : decode cX3_remember 20 = .ok (.getfield 17, 3) := by decide +kernel
theorem dX3_remember_23 : decode cX3_remember 23 = .ok (.iconst 5, 1) := by decide +kernel
theorem dX3_remember_24 : decode cX3_remember 24 = .ok (.if_icmp .ge 38, 3) := by decide +kernel
theorem dX3_remember_27 : decode cX3_remember 27 = .ok (.aload_n 0, 1) := by decide +kernel
theorem dX3_remember_28 : decode cX3_remember 28 = .ok (.getfield 11, 3) := by decide +kernel
theorem dX3_remember_31 : decode cX3_remember 31 = .ok (.aload_n 0, 1) := by decide +kernel
theorem dX3_remember_32 : decode cX3_remember 32 = .ok (.getfield 17, 3) := by decide +kernel
theorem dX3_remember_35 : decode cX3_remember 35 = .ok (.aaload, 1) := by decide +kernel
theorem dX3_remember_36 : decode cX3_remember 36 = .ok (.ifnull 26, 3) := by decide +kernel
theorem dX3_remember_39 : decode cX3_remember 39 = .ok (.aload_n 0, 1) := by decide +kernel
theorem dX3_remember_40 : decode cX3_remember 40 = .ok (.getfield 11, 3) := by decide +kernel
theorem dX3_remember_43 : decode cX3_remember 43 = .ok (.aload_n 0, 1) := by decide +kernel
theorem dX3_remember_44 : decode cX3_remember 44 = .ok (.getfield 17, 3) := by decide +kernel
theorem dX3_remember_47 : decode cX3_remember 47 = .ok (.aaload, 1) := by decide +kernel
theorem dX3_remember_48 : decode cX3_remember 48 = .ok (.aload_n 1, 1) := by decide +kernel
theorem dX3_remember_49 : decode cX3_remember 49 = .ok (.invokevirtual 25, 3) := by decide +kernel
theorem dX3_remember_52 : decode cX3_remember 52 = .ok (.aload_n 0, 1) := by decide +kernel
theorem dX3_remember_53 : decode cX3_remember 53 = .ok (.dup, 1) := by decide +kernel
theorem dX3_remember_54 : decode cX3_remember 54 = .ok (.getfield 17, 3) := by decide +kernel
theorem dX3_remember_57 : decode cX3_remember 57 = .ok (.iconst 1, 1) := by decide +kernel
theorem dX3_remember_58 : decode cX3_remember 58 = .ok (.iadd, 1) := by decide +kernel
theorem dX3_remember_59 : decode cX3_remember 59 = .ok (.putfield 17, 3) := by decide +kernel
theorem dX3_remember_62 : decode cX3_remember 62 = .ok (.return_, 1) := by decide +kernel
theorem dX3_restoreLatest_0 : decode cX3_restoreLatest 0 = .ok (.aload_n 0, 1) := by decide +kernel
theorem dX3_restoreLatest_1 : decode cX3_restoreLatest 1 = .ok (.getfield 17, 3) := by decide +kernel
theorem dX3_restoreLatest_4 : decode cX3_restoreLatest 4 = .ok (.iconst 1, 1) := by decide +kernel
theorem dX3_restoreLatest_5 : decode cX3_restoreLatest 5 = .ok (.isub, 1) := by decide +kernel
theorem dX3_restoreLatest_6 : decode cX3_restoreLatest 6 = .ok (.istore_n 2, 1) := by decide +kernel
theorem dX3_restoreLatest_7 : decode cX3_restoreLatest 7 = .ok (.iload_n 2, 1) := by decide +kernel
theorem dX3_restoreLatest_8 : decode cX3_restoreLatest 8 = .ok (.ifCond .lt 32, 3) := by decide +kernel
theorem dX3_restoreLatest_11 : decode cX3_restoreLatest 11 = .ok (.iload_n 2, 1) := by decide +kernel
theorem dX3_restoreLatest_12 : decode cX3_restoreLatest 12 = .ok (.iconst 5, 1) := by decide +kernel
theorem dX3_restoreLatest_13 : decode cX3_restoreLatest 13 = .ok (.if_icmp .ge 27, 3) := by decide +kernel
theorem dX3_restoreLatest_16 : decode cX3_restoreLatest 16 = .ok (.aload_n 0, 1) := by decide +kernel
theorem dX3_restoreLatest_17 : decode cX3_restoreLatest 17 = .ok (.getfield 11, 3) := by decide +kernel
theorem dX3_restoreLatest_20 : decode cX3_restoreLatest 20 = .ok (.iload_n 2, 1) := by decide +kernel
theorem dX3_restoreLatest_21 : decode cX3_restoreLatest 21 = .ok (.aaload, 1) := by decide +kernel
theorem dX3_restoreLatest_22 : decode cX3_restoreLatest 22 = .ok (.ifnull 18, 3) := by decide +kernel
theorem dX3_restoreLatest_25 : decode cX3_restoreLatest 25 = .ok (.aload_n 1, 1) := by decide +kernel
theorem dX3_restoreLatest_26 : decode cX3_restoreLatest 26 = .ok (.aload_n 0, 1) := by decide +kernel
theorem dX3_restoreLatest_27 : decode cX3_restoreLatest 27 = .ok (.getfield 11, 3) := by decide +kernel
theorem dX3_restoreLatest_30 : decode cX3_restoreLatest 30 = .ok (.iload_n 2, 1) := by decide +kernel
theorem dX3_restoreLatest_31 : decode cX3_restoreLatest 31 = .ok (.aaload, 1) := by decide +kernel
theorem dX3_restoreLatest_32 : decode cX3_restoreLatest 32 = .ok (.invokevirtual 25, 3) := by decide +kernel
theorem dX3_restoreLatest_35 : decode cX3_restoreLatest 35 = .ok (.aload_n 0, 1) := by decide +kernel
theorem dX3_restoreLatest_36 : decode cX3_restoreLatest 36 = .ok (.iload_n 2, 1) := by decide +kernel
theorem dX3_restoreLatest_37 : decode cX3_restoreLatest 37 = .ok (.putfield 17, 3) := by decide +kernel
theorem dX3_restoreLatest_40 : decode cX3_restoreLatest 40 = .ok (.return_, 1) := by decide +kernel
theorem dX3_forgetOldest_0 : decode cX3_forgetOldest 0 = .ok (.aload_n 0, 1) := by decide +kernel
theorem dX3_forgetOldest_1 : decode cX3_forgetOldest 1 = .ok (.getfield 11, 3) := by decide +kernel
theorem dX3_forgetOldest_4 : decode cX3_forgetOldest 4 = .ok (.iconst 0, 1) := by decide +kernel
theorem dX3_forgetOldest_5 : decode cX3_forgetOldest 5 = .ok (.aaload, 1) := by decide +kernel
theorem dX3_forgetOldest_6 : decode cX3_forgetOldest 6 = .ok (.astore_n 1, 1) := by decide +kernel
theorem dX3_forgetOldest_7 : decode cX3_forgetOldest 7 = .ok (.iconst 1, 1) := by decide +kernel
theorem dX3_forgetOldest_8 : decode cX3_forgetOldest 8 = .ok (.istore_n 2, 1) := by decide +kernel
theorem dX3_forgetOldest_9 : decode cX3_forgetOldest 9 = .ok (.iload_n 2, 1) := by decide +kernel
theorem dX3_forgetOldest_10 : decode cX3_forgetOldest 10 = .ok (.iconst 5, 1) := by decide +kernel
theorem dX3_forgetOldest_11 : decode cX3_forgetOldest 11 = .ok (.if_icmp .ge 23, 3) := by decide +kernel
theorem dX3_forgetOldest_14 : decode cX3_forgetOldest 14 = .ok (.aload_n 0, 1) := by decide +kernel
theorem dX3_forgetOldest_15 : decode cX3_forgetOldest 15 = .ok (.getfield 11, 3) := by decide +kernel
theorem dX3_forgetOldest_18 : decode cX3_forgetOldest 18 = .ok (.iload_n 2, 1) := by decide +kernel
theorem dX3_forgetOldest_19 : decode cX3_forgetOldest 19 = .ok (.iconst 1, 1) := by decide +kernel
theorem dX3_forgetOldest_20 : decode cX3_forgetOldest 20 = .ok (.isub, 1) := by decide +kernel
theorem dX3_forgetOldest_21 : decode cX3_forgetOldest 21 = .ok (.aload_n 0, 1) := by decide +kernel
theorem dX3_forgetOldest_22 : decode cX3_forgetOldest 22 = .ok (.getfield 11, 3) := by decide +kernel
theorem dX3_forgetOldest_25 : decode cX3_forgetOldest 25 = .ok (.iload_n 2, 1) := by decide +kernel
theorem dX3_forgetOldest_26 : decode cX3_forgetOldest 26 = .ok (.aaload, 1) := by decide +kernel
theorem dX3_forgetOldest_27 : decode cX3_forgetOldest 27 = .ok (.aastore, 1) := by decide +kernel
theorem dX3_forgetOldest_28 : decode cX3_forgetOldest 28 = .ok (.iinc 2 1, 3) := by decide +kernel
theorem dX3_forgetOldest_31 : decode cX3_forgetOldest 31 = .ok (.goto (-22), 3) := by decide +kernel
theorem dX3_forgetOldest_34 : decode cX3_forgetOldest 34 = .ok (.aload_n 0, 1) := by decide +kernel
theorem dX3_forgetOldest_35 : decode cX3_forgetOldest 35 = .ok (.getfield 11, 3) := by decide +kernel
theorem dX3_forgetOldest_38 : decode cX3_forgetOldest 38 = .ok (.iconst 4, 1) := by decide +kernel
theorem dX3_forgetOldest_39 : decode cX3_forgetOldest 39 = .ok (.aload_n 1, 1) := by decide +kernel
theorem dX3_forgetOldest_40 : decode cX3_forgetOldest 40 = .ok (.aastore, 1) := by decide +kernel
theorem dX3_forgetOldest_41 : decode cX3_forgetOldest 41 = .ok (.aload_n 0, 1) := by decide +kernel
theorem dX3_forgetOldest_42 : decode cX3_forgetOldest 42 = .ok (.iconst 4, 1) := by decide +kernel
theorem dX3_forgetOldest_43 : decode cX3_forgetOldest 43 = .ok (.putfield 17, 3) := by decide +kernel
theorem dX3_forgetOldest_46 : decode cX3_forgetOldest 46 = .ok (.return_, 1) := by decide +kernel
theorem dX4_init_0 : decode cX4_init 0 = .ok (.aload_n 0, 1) := by decide +kernel
theorem dX4_init_1 : decode cX4_init 1 = .ok (.invokespecial 3, 3) := by decide +kernel
theorem dX4_init_4 : decode cX4_init 4 = .ok (.aload_n 0, 1) := by decide +kernel
theorem dX4_init_5 : decode cX4_init 5 = .ok (.sipush 720, 3) := by decide +kernel
theorem dX4_init_8 : decode cX4_init 8 = .ok (.newarray .int, 2) := by decide +kernel
theorem dX4_init_10 : decode cX4_init 10 = .ok (.putfield 9, 3) := by decide +kernel
theorem dX4_init_13 : decode cX4_init 13 = .ok (.aload_n 0, 1) := by decide +kernel
theorem dX4_init_14 : decode cX4_init 14 = .ok (.sipush 720, 3) := by decide +kernel
theorem dX4_init_17 : decode cX4_init 17 = .ok (.newarray .boolean, 2) := by decide +kernel
theorem dX4_init_19 : decode cX4_init 19 = .ok (.putfield 15, 3) := by decide +kernel
theorem dX4_init_22 : decode cX4_init 22 = .ok (.aload_n 0, 1) := by decide +kernel
theorem dX4_init_23 : decode cX4_init 23 = .ok (.iconst 0, 1) := by decide +kernel
theorem dX4_init_24 : decode cX4_init 24 = .ok (.putfield 19, 3) := by decide +kernel
theorem dX4_init_27 : decode cX4_init 27 = .ok (.return_, 1) := by decide +kernel
theorem dX4_orderFor_0 : decode cX4_orderFor 0 = .ok (.iconst 0, 1) := by decide +kernel
theorem dX4_orderFor_1 : decode cX4_orderFor 1 = .ok (.istore_n 2, 1) := by decide +kernel
theorem dX4_orderFor_2 : decode cX4_orderFor 2 = .ok (.iload_n 2, 1) := by decide +kernel
theorem dX4_orderFor_3 : decode cX4_orderFor 3 = .ok (.sipush 720, 3) := by decide +kernel
theorem dX4_orderFor_6 : decode cX4_orderFor 6 = .ok (.if_icmp .ge 16, 3) := by decide +kernel
theorem dX4_orderFor_9 : decode cX4_orderFor 9 = .ok (.aload_n 0, 1) := by decide +kernel
theorem dX4_orderFor_10 : decode cX4_orderFor 10 = .ok (.getfield 15, 3) := by decide +kernel
theorem dX4_orderFor_13 : decode cX4_orderFor 13 = .ok (.iload_n 2, 1) := by decide +kernel
theorem dX4_orderFor_14 : decode cX4_orderFor 14 = .ok (.iconst 0, 1) := by decide +kernel
theorem dX4_orderFor_15 : decode cX4_orderFor 15 = .ok (.bastore, 1) := by decide +kernel
theorem dX4_orderFor_16 : decode cX4_orderFor 16 = .ok (.iinc 2 1, 3) := by decide +kernel
theorem dX4_orderFor_19 : decode cX4_orderFor 19 = .ok (.goto (-17), 3) := by decide +kernel
theorem dX4_orderFor_22 : decode cX4_orderFor 22 = .ok (.aload_n 0, 1) := by decide +kernel
theorem dX4_orderFor_23 : decode cX4_orderFor 23 = .ok (.iconst 0, 1) := by decide +kernel
theorem dX4_orderFor_24 : decode cX4_orderFor 24 = .ok (.putfield 19, 3) := by decide +kernel
theorem dX4_orderFor_27 : decode cX4_orderFor 27 = .ok (.aload_n 0, 1) := by decide +kernel
theorem dX4_orderFor_28 : decode cX4_orderFor 28 = .ok (.aload_n 1, 1) := by decide +kernel
theorem dX4_orderFor_29 : decode cX4_orderFor 29 = .ok (.getfield 23, 3) := by decide +kernel
theorem dX4_orderFor_32 : decode cX4_orderFor 32 = .ok (.invokestatic 28, 3) := by decide +kernel
theorem dX4_orderFor_35 : decode cX4_orderFor 35 = .ok (.aload_n 1, 1) := by decide +kernel
theorem dX4_orderFor_36 : decode cX4_orderFor 36 = .ok (.getfield 23, 3) := by decide +kernel
theorem dX4_orderFor_39 : decode cX4_orderFor 39 = .ok (.invokevirtual 32, 3) := by decide +kernel
theorem dX4_orderFor_42 : decode cX4_orderFor 42 = .ok (.iconst 0, 1) := by decide +kernel
theorem dX4_orderFor_43 : decode cX4_orderFor 43 = .ok (.istore_n 2, 1) := by decide +kernel
theorem dX4_orderFor_44 : decode cX4_orderFor 44 = .ok (.iload_n 2, 1) := by decide +kernel
theorem dX4_orderFor_45 : decode cX4_orderFor 45 = .ok (.aload_n 0, 1) := by decide +kernel
theorem dX4_orderFor_46 : decode cX4_orderFor 46 = .ok (.getfield 19, 3) := by decide +kernel
theorem dX4_orderFor_49 : decode cX4_orderFor 49 = .ok (.if_icmp .ge 51, 3) := by decide +kernel
theorem dX4_orderFor_52 : decode cX4_orderFor 52 = .ok (.iload_n 2, 1) := by decide +kernel
theorem dX4_orderFor_53 : decode cX4_orderFor 53 = .ok (.sipush 720, 3) := by decide +kernel
theorem dX4_orderFor_56 : decode cX4_orderFor 56 = .ok (.if_icmp .ge 44, 3) := by decide +kernel
theorem dX4_orderFor_59 : decode cX4_orderFor 59 = .ok (.iconst 0, 1) := by decide +kernel
theorem dX4_orderFor_60 : decode cX4_orderFor 60 = .ok (.istore_n 3, 1) := by decide +kernel
theorem dX4_orderFor_61 : decode cX4_orderFor 61 = .ok (.iload_n 3, 1) := by decide +kernel
theorem dX4_orderFor_62 : decode cX4_orderFor 62 = .ok (.aload_n 1, 1) := by decide +kernel
theorem dX4_orderFor_63 : decode cX4_orderFor 63 = .ok (.getfield 23, 3) := by decide +kernel
theorem dX4_orderFor_66 : decode cX4_orderFor 66 = .ok (.if_icmp .ge 28, 3) := by decide +kernel
theorem dX4_orderFor_69 : decode cX4_orderFor 69 = .ok (.aload_n 0, 1) := by decide +kernel
theorem dX4_orderFor_70 : decode cX4_orderFor 70 = .ok (.aload_n 0, 1) := by decide +kernel
theorem dX4_orderFor_71 : decode cX4_orderFor 71 = .ok (.getfield 9, 3) := by decide +kernel
theorem dX4_orderFor_74 : decode cX4_orderFor 74 = .ok (.iload_n 2, 1) := by decide +kernel
theorem dX4_orderFor_75 : decode cX4_orderFor 75 = .ok (.iaload, 1) := by decide +kernel
theorem dX4_orderFor_76 : decode cX4_orderFor 76 = .ok (.aload_n 1, 1) := by decide +kernel
theorem dX4_orderFor_77 : decode cX4_orderFor 77 = .ok (.iload_n 3, 1) := by decide +kernel
theorem dX4_orderFor_78 : decode cX4_orderFor 78 = .ok (.invokestatic 36, 3) := by decide +kernel
theorem dX4_orderFor_81 : decode cX4_orderFor 81 = .ok (.aload_n 1, 1) := by decide +kernel
theorem dX4_orderFor_82 : decode cX4_orderFor 82 = .ok (.getfield 23, 3) := by decide +kernel
theorem dX4_orderFor_85 : decode cX4_orderFor 85 = .ok (.invokevirtual 32, 3) := by decide +kernel
theorem dX4_orderFor_88 : decode cX4_orderFor 88 = .ok (.iinc 3 1, 3) := by decide +kernel
theorem dX4_orderFor_91 : decode cX4_orderFor 91 = .ok (.goto (-30), 3) := by decide +kernel
theorem dX4_orderFor_94 : decode cX4_orderFor 94 = .ok (.iinc 2 1, 3) := by decide +kernel
theorem dX4_orderFor_97 : decode cX4_orderFor 97 = .ok (.goto (-53), 3) := by decide +kernel
theorem dX4_orderFor_100 : decode cX4_orderFor 100 = .ok (.aload_n 0, 1) := by decide +kernel
theorem dX4_orderFor_101 : decode cX4_orderFor 101 = .ok (.getfield 19, 3) := by decide +kernel
theorem dX4_orderFor_104 : decode cX4_orderFor 104 = .ok (.ireturn, 1) := by decide +kernel
theorem dX4_include_0 : decode cX4_include 0 = .ok (.iload_n 1, 1) := by decide +kernel
theorem dX4_include_1 : decode cX4_include 1 = .ok (.iload_n 2, 1) := by decide +kernel
theorem dX4_include_2 : decode cX4_include 2 = .ok (.invokestatic 40, 3) := by decide +kernel
theorem dX4_include_5 : decode cX4_include 5 = .ok (.istore_n 3, 1) := by decide +kernel
theorem dX4_include_6 : decode cX4_include 6 = .ok (.iload_n 3, 1) := by decide +kernel
theorem dX4_include_7 : decode cX4_include 7 = .ok (.ifCond .lt 56, 3) := by decide +kernel
theorem dX4_include_10 : decode cX4_include 10 = .ok (.iload_n 3, 1) := by decide +kernel
theorem dX4_include_11 : decode cX4_include 11 = .ok (.sipush 720, 3) := by decide +kernel
theorem dX4_include_14 : decode cX4_include 14 = .ok (.if_icmp .ge 49, 3) := by decide +kernel
theorem dX4_include_17 : decode cX4_include 17 = .ok (.aload_n 0, 1) := by decide +kernel
theorem dX4_include_18 : decode cX4_include 18 = .ok (.getfield 15, 3) := by decide +kernel
theorem dX4_include_21 : decode cX4_include 21 = .ok (.iload_n 3, 1) := by decide +kernel
theorem dX4_include_22 : decode cX4_include 22 = .ok (.baload, 1) := by decide +kernel
theorem dX4_include_23 : decode cX4_include 23 = .ok (.ifCond .ne 40, 3) := by decide +kernel
theorem dX4_include_26 : decode cX4_include 26 = .ok (.aload_n 0, 1) := by decide +kernel
theorem dX4_include_27 : decode cX4_include 27 = .ok (.getfield 19, 3) := by decide +kernel
theorem dX4_include_30 : decode cX4_include 30 = .ok (.sipush 720, 3) := by decide +kernel
theorem dX4_include_33 : decode cX4_include 33 = .ok (.if_icmp .ge 30, 3) := by decide +kernel
theorem dX4_include_36 : decode cX4_include 36 = .ok (.aload_n 0, 1) := by decide +kernel
theorem dX4_include_37 : decode cX4_include 37 = .ok (.getfield 15, 3) := by decide +kernel
theorem dX4_include_40 : decode cX4_include 40 = .ok (.iload_n 3, 1) := by decide +kernel
theorem dX4_include_41 : decode cX4_include 41 = .ok (.iconst 1, 1) := by decide +kernel
theorem dX4_include_42 : decode cX4_include 42 = .ok (.bastore, 1) := by decide +kernel
theorem dX4_include_43 : decode cX4_include 43 = .ok (.aload_n 0, 1) := by decide +kernel
theorem dX4_include_44 : decode cX4_include 44 = .ok (.getfield 9, 3) := by decide +kernel
theorem dX4_include_47 : decode cX4_include 47 = .ok (.aload_n 0, 1) := by decide +kernel
theorem dX4_include_48 : decode cX4_include 48 = .ok (.getfield 19, 3) := by decide +kernel
theorem dX4_include_51 : decode cX4_include 51 = .ok (.iload_n 1, 1) := by decide +kernel
theorem dX4_include_52 : decode cX4_include 52 = .ok (.iastore, 1) := by decide +kernel
theorem dX4_include_53 : decode cX4_include 53 = .ok (.aload_n 0, 1) := by decide +kernel
theorem dX4_include_54 : decode cX4_include 54 = .ok (.dup, 1) := by decide +kernel
theorem dX4_include_55 : decode cX4_include 55 = .ok (.getfield 19, 3) := by decide +kernel
theorem dX4_include_58 : decode cX4_include 58 = .ok (.iconst 1, 1) := by decide +kernel
theorem dX4_include_59 : decode cX4_include 59 = .ok (.iadd, 1) := by decide +kernel
theorem dX4_include_60 : decode cX4_include 60 = .ok (.putfield 19, 3) := by decide +kernel
theorem dX4_include_63 : decode cX4_include 63 = .ok (.return_, 1) := by decide +kernel
theorem dX4_identity_0 : decode cX4_identity 0 = .ok (.iconst 0, 1) := by decide +kernel
theorem dX4_identity_1 : decode cX4_identity 1 = .ok (.istore_n 1, 1) := by decide +kernel
theorem dX4_identity_2 : decode cX4_identity 2 = .ok (.iconst 0, 1) := by decide +kernel
theorem dX4_identity_3 : decode cX4_identity 3 = .ok (.istore_n 2, 1) := by decide +kernel
theorem dX4_identity_4 : decode cX4_identity 4 = .ok (.iload_n 2, 1) := by decide +kernel
theorem dX4_identity_5 : decode cX4_identity 5 = .ok (.iload_n 0, 1) := by decide +kernel
theorem dX4_identity_6 : decode cX4_identity 6 = .ok (.if_icmp .ge 17, 3) := by decide +kernel
theorem dX4_identity_9 : decode cX4_identity 9 = .ok (.iload_n 1, 1) := by decide +kernel
theorem dX4_identity_10 : decode cX4_identity 10 = .ok (.iload_n 2, 1) := by decide +kernel
theorem dX4_identity_11 : decode cX4_identity 11 = .ok (.iconst 3, 1) := by decide +kernel
theorem dX4_identity_12 : decode cX4_identity 12 = .ok (.iload_n 2, 1) := by decide +kernel
theorem dX4_identity_13 : decode cX4_identity 13 = .ok (.imul, 1) := by decide +kernel
theorem dX4_identity_14 : decode cX4_identity 14 = .ok (.ishl, 1) := by decide +kernel
theorem dX4_identity_15 : decode cX4_identity 15 = .ok (.ior, 1) := by decide +kernel
theorem dX4_identity_16 : decode cX4_identity 16 = .ok (.istore_n 1, 1) := by decide +kernel
theorem dX4_identity_17 : decode cX4_identity 17 = .ok (.iinc 2 1, 3) := by decide +kernel
theorem dX4_identity_20 : decode cX4_identity 20 = .ok (.goto (-16), 3) := by decide +kernel
theorem dX4_identity_23 : decode cX4_identity 23 = .ok (.iload_n 1, 1) := by decide +kernel
theorem dX4_identity_24 : decode cX4_identity 24 = .ok (.ireturn, 1) := by decide +kernel
theorem dX4_followedByColumn_0 : decode cX4_followedByColumn 0 = .ok (.iconst 0, 1) := by decide +kernel
theorem dX4_followedByColumn_1 : decode cX4_followedByColumn 1 = .ok (.istore_n 3, 1) := by decide +kernel
theorem dX4_followedByColumn_2 : decode cX4_followedByColumn 2 = .ok (.iconst 0, 1) := by decide +kernel
theorem dX4_followedByColumn_3 : decode cX4_followedByColumn 3 = .ok (.istore 4, 2) := by decide +kernel
theorem dX4_followedByColumn_5 : decode cX4_followedByColumn 5 = .ok (.iload 4, 2) := by decide +kernel
theorem dX4_followedByColumn_7 : decode cX4_followedByColumn 7 = .ok (.aload_n 1, 1) := by decide +kernel
theorem dX4_followedByColumn_8 : decode cX4_followedByColumn 8 = .ok (.getfield 23, 3) := by decide +kernel
theorem dX4_followedByColumn_11 : decode cX4_followedByColumn 11 = .ok (.if_icmp .ge 28, 3) := by decide +kernel
theorem dX4_followedByColumn_14 : decode cX4_followedByColumn 14 = .ok (.iload_n 3, 1) := by decide +kernel
theorem dX4_followedByColumn_15 : decode cX4_followedByColumn 15 = .ok (.aload_n 1, 1) := by decide +kernel
theorem dX4_followedByColumn_16 : decode cX4_followedByColumn 16 = .ok (.iload_n 0, 1) := by decide +kernel
theorem dX4_followedByColumn_17 : decode cX4_followedByColumn 17 = .ok (.iload 4, 2) := by decide +kernel
theorem dX4_followedByColumn_19 : decode cX4_followedByColumn 19 = .ok (.invokestatic 44, 3) := by decide +kernel
theorem dX4_followedByColumn_22 : decode cX4_followedByColumn 22 = .ok (.iload_n 2, 1) := by decide +kernel
theorem dX4_followedByColumn_23 : decode cX4_followedByColumn 23 = .ok (.invokevirtual 47, 3) := by decide +kernel
theorem dX4_followedByColumn_26 : decode cX4_followedByColumn 26 = .ok (.iconst 3, 1) := by decide +kernel
theorem dX4_followedByColumn_27 : decode cX4_followedByColumn 27 = .ok (.iload 4, 2) := by decide +kernel
theorem dX4_followedByColumn_29 : decode cX4_followedByColumn 29 = .ok (.imul, 1) := by decide +kernel
theorem dX4_followedByColumn_30 : decode cX4_followedByColumn 30 = .ok (.ishl, 1) := by decide +kernel
theorem dX4_followedByColumn_31 : decode cX4_followedByColumn 31 = .ok (.ior, 1) := by decide +kernel
theorem dX4_followedByColumn_32 : decode cX4_followedByColumn 32 = .ok (.istore_n 3, 1) := by decide +kernel
theorem dX4_followedByColumn_33 : decode cX4_followedByColumn 33 = .ok (.iinc 4 1, 3) := by decide +kernel
theorem dX4_followedByColumn_36 : decode cX4_followedByColumn 36 = .ok (.goto (-31), 3) := by decide +kernel
theorem dX4_followedByColumn_39 : decode cX4_followedByColumn 39 = .ok (.iload_n 3, 1) := by decide +kernel
theorem dX4_followedByColumn_40 : decode cX4_followedByColumn 40 = .ok (.ireturn, 1) := by decide +kernel
theorem dX4_rankOf_0 : decode cX4_rankOf 0 = .ok (.iconst 0, 1) := by decide +kernel
theorem dX4_rankOf_1 : decode cX4_rankOf 1 = .ok (.istore_n 2, 1) := by decide +kernel
theorem dX4_rankOf_2 : decode cX4_rankOf 2 = .ok (.iconst 0, 1) := by decide +kernel
theorem dX4_rankOf_3 : decode cX4_rankOf 3 = .ok (.istore_n 3, 1) := by decide +kernel
theorem dX4_rankOf_4 : decode cX4_rankOf 4 = .ok (.iconst 0, 1) := by decide +kernel
theorem dX4_rankOf_5 : decode cX4_rankOf 5 = .ok (.istore 4, 2) := by decide +kernel
theorem dX4_rankOf_7 : decode cX4_rankOf 7 = .ok (.iload 4, 2) := by decide +kernel
theorem dX4_rankOf_9 : decode cX4_rankOf 9 = .ok (.iload_n 1, 1) := by decide +kernel
theorem dX4_rankOf_10 : decode cX4_rankOf 10 = .ok (.if_icmp .ge 50, 3) := by decide +kernel
theorem dX4_rankOf_13 : decode cX4_rankOf 13 = .ok (.iload_n 0, 1) := by decide +kernel
theorem dX4_rankOf_14 : decode cX4_rankOf 14 = .ok (.iload 4, 2) := by decide +kernel
theorem dX4_rankOf_16 : decode cX4_rankOf 16 = .ok (.invokestatic 44, 3) := by decide +kernel
theorem dX4_rankOf_19 : decode cX4_rankOf 19 = .ok (.istore 5, 2) := by decide +kernel
theorem dX4_rankOf_21 : decode cX4_rankOf 21 = .ok (.iload 5, 2) := by decide +kernel
theorem dX4_rankOf_23 : decode cX4_rankOf 23 = .ok (.iload_n 3, 1) := by decide +kernel
theorem dX4_rankOf_24 : decode cX4_rankOf 24 = .ok (.iconst 1, 1) := by decide +kernel
theorem dX4_rankOf_25 : decode cX4_rankOf 25 = .ok (.iload 5, 2) := by decide +kernel
theorem dX4_rankOf_27 : decode cX4_rankOf 27 = .ok (.ishl, 1) := by decide +kernel
theorem dX4_rankOf_28 : decode cX4_rankOf 28 = .ok (.iconst 1, 1) := by decide +kernel
theorem dX4_rankOf_29 : decode cX4_rankOf 29 = .ok (.isub, 1) := by decide +kernel
theorem dX4_rankOf_30 : decode cX4_rankOf 30 = .ok (.iand, 1) := by decide +kernel
theorem dX4_rankOf_31 : decode cX4_rankOf 31 = .ok (.invokestatic 50, 3) := by decide +kernel
theorem dX4_rankOf_34 : decode cX4_rankOf 34 = .ok (.isub, 1) := by decide +kernel
theorem dX4_rankOf_35 : decode cX4_rankOf 35 = .ok (.istore 6, 2) := by decide +kernel
theorem dX4_rankOf_37 : decode cX4_rankOf 37 = .ok (.iload_n 2, 1) := by decide +kernel
theorem dX4_rankOf_38 : decode cX4_rankOf 38 = .ok (.iload_n 1, 1) := by decide +kernel
theorem dX4_rankOf_39 : decode cX4_rankOf 39 = .ok (.iload 4, 2) := by decide +kernel
theorem dX4_rankOf_41 : decode cX4_rankOf 41 = .ok (.isub, 1) := by decide +kernel
theorem dX4_rankOf_42 : decode cX4_rankOf 42 = .ok (.imul, 1) := by decide +kernel
theorem dX4_rankOf_43 : decode cX4_rankOf 43 = .ok (.iload 6, 2) := by decide +kernel
theorem dX4_rankOf_45 : decode cX4_rankOf 45 = .ok (.iadd, 1) := by decide +kernel
theorem dX4_rankOf_46 : decode cX4_rankOf 46 = .ok (.istore_n 2, 1) := by decide +kernel
theorem dX4_rankOf_47 : decode cX4_rankOf 47 = .ok (.iload_n 3, 1) := by decide +kernel
theorem dX4_rankOf_48 : decode cX4_rankOf 48 = .ok (.iconst 1, 1) := by decide +kernel
theorem dX4_rankOf_49 : decode cX4_rankOf 49 = .ok (.iload 5, 2) := by decide +kernel
theorem dX4_rankOf_51 : decode cX4_rankOf 51 = .ok (.ishl, 1) := by decide +kernel
theorem dX4_rankOf_52 : decode cX4_rankOf 52 = .ok (.ior, 1) := by decide +kernel
theorem dX4_rankOf_53 : decode cX4_rankOf 53 = .ok (.istore_n 3, 1) := by decide +kernel
theorem dX4_rankOf_54 : decode cX4_rankOf 54 = .ok (.iinc 4 1, 3) := by decide +kernel
theorem dX4_rankOf_57 : decode cX4_rankOf 57 = .ok (.goto (-50), 3) := by decide +kernel
theorem dX4_rankOf_60 : decode cX4_rankOf 60 = .ok (.iload_n 2, 1) := by decide +kernel
theorem dX4_rankOf_61 : decode cX4_rankOf 61 = .ok (.ireturn, 1) := by decide +kernel
theorem dX4_imageOf_0 : decode cX4_imageOf 0 = .ok (.iload_n 0, 1) := by decide +kernel
theorem dX4_imageOf_1 : decode cX4_imageOf 1 = .ok (.iconst 3, 1) := by decide +kernel
theorem dX4_imageOf_2 : decode cX4_imageOf 2 = .ok (.iload_n 1, 1) := by decide +kernel
theorem dX4_imageOf_3 : decode cX4_imageOf 3 = .ok (.imul, 1) := by decide +kernel
theorem dX4_imageOf_4 : decode cX4_imageOf 4 = .ok (.ishr, 1) := by decide +kernel
theorem dX4_imageOf_5 : decode cX4_imageOf 5 = .ok (.bipush 7, 2) := by decide +kernel
theorem dX4_imageOf_7 : decode cX4_imageOf 7 = .ok (.iand, 1) := by decide +kernel
theorem dX4_imageOf_8 : decode cX4_imageOf 8 = .ok (.ireturn, 1) := by decide +kernel
theorem dX5_init_0 : decode cX5_init 0 = .ok (.aload_n 0, 1) := by decide +kernel
theorem dX5_init_1 : decode cX5_init 1 = .ok (.invokespecial 3, 3) := by decide +kernel
theorem dX5_init_4 : decode cX5_init 4 = .ok (.aload_n 0, 1) := by decide +kernel
theorem dX5_init_5 : decode cX5_init 5 = .ok (.iconst 0, 1) := by decide +kernel
theorem dX5_init_6 : decode cX5_init 6 = .ok (.putfield 9, 3) := by decide +kernel
theorem dX5_init_9 : decode cX5_init 9 = .ok (.aload_n 0, 1) := by decide +kernel
theorem dX5_init_10 : decode cX5_init 10 = .ok (.new 15, 3) := by decide +kernel
theorem dX5_init_13 : decode cX5_init 13 = .ok (.dup, 1) := by decide +kernel
theorem dX5_init_14 : decode cX5_init 14 = .ok (.invokespecial 17, 3) := by decide +kernel
theorem dX5_init_17 : decode cX5_init 17 = .ok (.putfield 18, 3) := by decide +kernel
theorem dX5_init_20 : decode cX5_init 20 = .ok (.aload_n 0, 1) := by decide +kernel
theorem dX5_init_21 : decode cX5_init 21 = .ok (.new 15, 3) := by decide +kernel
theorem dX5_init_24 : decode cX5_init 24 = .ok (.dup, 1) := by decide +kernel
theorem dX5_init_25 : decode cX5_init 25 = .ok (.invokespecial 17, 3) := by decide +kernel
theorem dX5_init_28 : decode cX5_init 28 = .ok (.putfield 22, 3) := by decide +kernel
theorem dX5_init_31 : decode cX5_init 31 = .ok (.aload_n 0, 1) := by decide +kernel
theorem dX5_init_32 : decode cX5_init 32 = .ok (.bipush (-4), 2) := by decide +kernel
theorem dX5_init_34 : decode cX5_init 34 = .ok (.putfield 25, 3) := by decide +kernel
theorem dX5_init_37 : decode cX5_init 37 = .ok (.return_, 1) := by decide +kernel
theorem dX5_hasElement_0 : decode cX5_hasElement 0 = .ok (.iload_n 1, 1) := by decide +kernel
theorem dX5_hasElement_1 : decode cX5_hasElement 1 = .ok (.ifCond .lt 15, 3) := by decide +kernel
theorem dX5_hasElement_4 : decode cX5_hasElement 4 = .ok (.iload_n 1, 1) := by decide +kernel
theorem dX5_hasElement_5 : decode cX5_hasElement 5 = .ok (.aload_n 0, 1) := by decide +kernel
theorem dX5_hasElement_6 : decode cX5_hasElement 6 = .ok (.getfield 9, 3) := by decide +kernel
theorem dX5_hasElement_9 : decode cX5_hasElement 9 = .ok (.if_icmp .ge 7, 3) := by decide +kernel
theorem dX5_hasElement_12 : decode cX5_hasElement 12 = .ok (.iconst 1, 1) := by decide +kernel
theorem dX5_hasElement_13 : decode cX5_hasElement 13 = .ok (.goto 4, 3) := by decide +kernel
theorem dX5_hasElement_16 : decode cX5_hasElement 16 = .ok (.iconst 0, 1) := by decide +kernel
theorem dX5_hasElement_17 : decode cX5_hasElement 17 = .ok (.ireturn, 1) := by decide +kernel
theorem dX5_hasElements_0 : decode cX5_hasElements 0 = .ok (.aload_n 0, 1) := by decide +kernel
theorem dX5_hasElements_1 : decode cX5_hasElements 1 = .ok (.iload_n 1, 1) := by decide +kernel
theorem dX5_hasElements_2 : decode cX5_hasElements 2 = .ok (.invokevirtual 28, 3) := by decide +kernel
theorem dX5_hasElements_5 : decode cX5_hasElements 5 = .ok (.ifCond .eq 15, 3) := by decide +kernel
theorem dX5_hasElements_8 : decode cX5_hasElements 8 = .ok (.aload_n 0, 1) := by decide +kernel
theorem dX5_hasElements_9 : decode cX5_hasElements 9 = .ok (.iload_n 2, 1) := by decide +kernel
theorem dX5_hasElements_10 : decode cX5_hasElements 10 = .ok (.invokevirtual 28, 3) := by decide +kernel
theorem dX5_hasElements_13 : decode cX5_hasElements 13 = .ok (.ifCond .eq 7, 3) := by decide +kernel
theorem dX5_hasElements_16 : decode cX5_hasElements 16 = .ok (.iconst 1, 1) := by decide +kernel
theorem dX5_hasElements_17 : decode cX5_hasElements 17 = .ok (.goto 4, 3) := by decide +kernel
theorem dX5_hasElements_20 : decode cX5_hasElements 20 = .ok (.iconst 0, 1) := by decide +kernel
theorem dX5_hasElements_21 : decode cX5_hasElements 21 = .ok (.ireturn, 1) := by decide +kernel
theorem dX5_isInvertible_0 : decode cX5_isInvertible 0 = .ok (.aload_n 0, 1) := by decide +kernel
theorem dX5_isInvertible_1 : decode cX5_isInvertible 1 = .ok (.getfield 25, 3) := by decide +kernel
theorem dX5_isInvertible_4 : decode cX5_isInvertible 4 = .ok (.bipush (-4), 2) := by decide +kernel
theorem dX5_isInvertible_6 : decode cX5_isInvertible 6 = .ok (.if_icmp .ne 7, 3) := by decide +kernel
theorem dX5_isInvertible_9 : decode cX5_isInvertible 9 = .ok (.iconst 1, 1) := by decide +kernel
theorem dX5_isInvertible_10 : decode cX5_isInvertible 10 = .ok (.goto 4, 3) := by decide +kernel
theorem dX5_isInvertible_13 : decode cX5_isInvertible 13 = .ok (.iconst 0, 1) := by decide +kernel
theorem dX5_isInvertible_14 : decode cX5_isInvertible 14 = .ok (.ireturn, 1) := by decide +kernel
theorem dX5_product_0 : decode cX5_product 0 = .ok (.aload_n 0, 1) := by decide +kernel
theorem dX5_product_1 : decode cX5_product 1 = .ok (.getfield 18, 3) := by decide +kernel
theorem dX5_product_4 : decode cX5_product 4 = .ok (.iload_n 1, 1) := by decide +kernel
theorem dX5_product_5 : decode cX5_product 5 = .ok (.iload_n 2, 1) := by decide +kernel
theorem dX5_product_6 : decode cX5_product 6 = .ok (.invokevirtual 32, 3) := by decide +kernel
theorem dX5_product_9 : decode cX5_product 9 = .ok (.ireturn, 1) := by decide +kernel
theorem dX5_divide_0 : decode cX5_divide 0 = .ok (.aload_n 0, 1) := by decide +kernel
theorem dX5_divide_1 : decode cX5_divide 1 = .ok (.getfield 22, 3) := by decide +kernel
theorem dX5_divide_4 : decode cX5_divide 4 = .ok (.iload_n 1, 1) := by decide +kernel
theorem dX5_divide_5 : decode cX5_divide 5 = .ok (.iload_n 2, 1) := by decide +kernel
theorem dX5_divide_6 : decode cX5_divide 6 = .ok (.invokevirtual 32, 3) := by decide +kernel
theorem dX5_divide_9 : decode cX5_divide 9 = .ok (.ireturn, 1) := by decide +kernel
theorem dX5_setProduct_0 : decode cX5_setProduct 0 = .ok (.aload_n 0, 1) := by decide +kernel
theorem dX5_setProduct_1 : decode cX5_setProduct 1 = .ok (.getfield 18, 3) := by decide +kernel
theorem dX5_setProduct_4 : decode cX5_setProduct 4 = .ok (.iload_n 1, 1) := by decide +kernel
theorem dX5_setProduct_5 : decode cX5_setProduct 5 = .ok (.iload_n 2, 1) := by decide +kernel
theorem dX5_setProduct_6 : decode cX5_setProduct 6 = .ok (.iload_n 3, 1) := by decide +kernel
theorem dX5_setProduct_7 : decode cX5_setProduct 7 = .ok (.invokevirtual 36, 3) := by decide +kernel
theorem dX5_setProduct_10 : decode cX5_setProduct 10 = .ok (.aload_n 0, 1) := by decide +kernel
theorem dX5_setProduct_11 : decode cX5_setProduct 11 = .ok (.invokevirtual 40, 3) := by decide +kernel
theorem dX5_setProduct_14 : decode cX5_setProduct 14 = .ok (.return_, 1) := by decide +kernel
theorem dX5_becomeLinear_0 : decode cX5_becomeLinear 0 = .ok (.aload_n 0, 1) := by decide +kernel
theorem dX5_becomeLinear_1 : decode cX5_becomeLinear 1 = .ok (.iload_n 1, 1) := by decide +kernel
theorem dX5_becomeLinear_2 : decode cX5_becomeLinear 2 = .ok (.putfield 9, 3) := by decide +kernel
theorem dX5_becomeLinear_5 : decode cX5_becomeLinear 5 = .ok (.iconst 0, 1) := by decide +kernel
theorem dX5_becomeLinear_6 : decode cX5_becomeLinear 6 = .ok (.istore 5, 2) := by decide +kernel
theorem dX5_becomeLinear_8 : decode cX5_becomeLinear 8 = .ok (.iload 5, 2) := by decide +kernel
theorem dX5_becomeLinear_10 : decode cX5_becomeLinear 10 = .ok (.iload_n 1, 1) := by decide +kernel
theorem dX5_becomeLinear_11 : decode cX5_becomeLinear 11 = .ok (.if_icmp .ge 51, 3) := by decide +kernel
theorem dX5_becomeLinear_14 : decode cX5_becomeLinear 14 = .ok (.iconst 0, 1) := by decide +kernel
theorem dX5_becomeLinear_15 : decode cX5_becomeLinear 15 = .ok (.istore 6, 2) := by decide +kernel
theorem dX5_becomeLinear_17 : decode cX5_becomeLinear 17 = .ok (.iload 6, 2) := by decide +kernel
theorem dX5_becomeLinear_19 : decode cX5_becomeLinear 19 = .ok (.iload_n 1, 1) := by decide +kernel
theorem dX5_becomeLinear_20 : decode cX5_becomeLinear 20 = .ok (.if_icmp .ge 36, 3) := by decide +kernel
theorem dX5_becomeLinear_23 : decode cX5_becomeLinear 23 = .ok (.aload_n 0, 1) := by decide +kernel
theorem dX5_becomeLinear_24 : decode cX5_becomeLinear 24 = .ok (.getfield 18, 3) := by decide +kernel
theorem dX5_becomeLinear_27 : decode cX5_becomeLinear 27 = .ok (.iload 5, 2) := by decide +kernel
theorem dX5_becomeLinear_29 : decode cX5_becomeLinear 29 = .ok (.iload 6, 2) := by decide +kernel
theorem dX5_becomeLinear_31 : decode cX5_becomeLinear 31 = .ok (.iload_n 2, 1) := by decide +kernel
theorem dX5_becomeLinear_32 : decode cX5_becomeLinear 32 = .ok (.iload 5, 2) := by decide +kernel
theorem dX5_becomeLinear_34 : decode cX5_becomeLinear 34 = .ok (.imul, 1) := by decide +kernel
theorem dX5_becomeLinear_35 : decode cX5_becomeLinear 35 = .ok (.iload_n 3, 1) := by decide +kernel
theorem dX5_becomeLinear_36 : decode cX5_becomeLinear 36 = .ok (.iload 6, 2) := by decide +kernel
theorem dX5_becomeLinear_38 : decode cX5_becomeLinear 38 = .ok (.imul, 1) := by decide +kernel
theorem dX5_becomeLinear_39 : decode cX5_becomeLinear 39 = .ok (.iadd, 1) := by decide +kernel
theorem dX5_becomeLinear_40 : decode cX5_becomeLinear 40 = .ok (.iload 4, 2) := by decide +kernel
theorem dX5_becomeLinear_42 : decode cX5_becomeLinear 42 = .ok (.iadd, 1) := by decide +kernel
theorem dX5_becomeLinear_43 : decode cX5_becomeLinear 43 = .ok (.iload_n 1, 1) := by decide +kernel
theorem dX5_becomeLinear_44 : decode cX5_becomeLinear 44 = .ok (.invokestatic 43, 3) := by decide +kernel
theorem dX5_becomeLinear_47 : decode cX5_becomeLinear 47 = .ok (.invokevirtual 36, 3) := by decide +kernel
theorem dX5_becomeLinear_50 : decode cX5_becomeLinear 50 = .ok (.iinc 6 1, 3) := by decide +kernel
theorem dX5_becomeLinear_53 : decode cX5_becomeLinear 53 = .ok (.goto (-36), 3) := by decide +kernel
theorem dX5_becomeLinear_56 : decode cX5_becomeLinear 56 = .ok (.iinc 5 1, 3) := by decide +kernel
theorem dX5_becomeLinear_59 : decode cX5_becomeLinear 59 = .ok (.goto (-51), 3) := by decide +kernel
theorem dX5_becomeLinear_62 : decode cX5_becomeLinear 62 = .ok (.aload_n 0, 1) := by decide +kernel
theorem dX5_becomeLinear_63 : decode cX5_becomeLinear 63 = .ok (.invokevirtual 40, 3) := by decide +kernel
theorem dX5_becomeLinear_66 : decode cX5_becomeLinear 66 = .ok (.return_, 1) := by decide +kernel
theorem dX5_becomeConjugation_0 : decode cX5_becomeConjugation 0 = .ok (.aload_n 0, 1) := by decide +kernel
theorem dX5_becomeConjugation_1 : decode cX5_becomeConjugation 1 = .ok (.bipush 6, 2) := by decide +kernel
theorem dX5_becomeConjugation_3 : decode cX5_becomeConjugation 3 = .ok (.putfield 9, 3) := by decide +kernel
theorem dX5_becomeConjugation_6 : decode cX5_becomeConjugation 6 = .ok (.iconst 0, 1) := by decide +kernel
theorem dX5_becomeConjugation_7 : decode cX5_becomeConjugation 7 = .ok (.istore_n 1, 1) := by decide +kernel
theorem dX5_becomeConjugation_8 : decode cX5_becomeConjugation 8 = .ok (.iload_n 1, 1) := by decide +kernel
theorem dX5_becomeConjugation_9 : decode cX5_becomeConjugation 9 = .ok (.bipush 6, 2) := by decide +kernel
theorem dX5_becomeConjugation_11 : decode cX5_becomeConjugation 11 = .ok (.if_icmp .ge 37, 3) := by decide +kernel
theorem dX5_becomeConjugation_14 : decode cX5_becomeConjugation 14 = .ok (.iconst 0, 1) := by decide +kernel
theorem dX5_becomeConjugation_15 : decode cX5_becomeConjugation 15 = .ok (.istore_n 2, 1) := by decide +kernel
theorem dX5_becomeConjugation_16 : decode cX5_becomeConjugation 16 = .ok (.iload_n 2, 1) := by decide +kernel
theorem dX5_becomeConjugation_17 : decode cX5_becomeConjugation 17 = .ok (.bipush 6, 2) := by decide +kernel
theorem dX5_becomeConjugation_19 : decode cX5_becomeConjugation 19 = .ok (.if_icmp .ge 23, 3) := by decide +kernel
theorem dX5_becomeConjugation_22 : decode cX5_becomeConjugation 22 = .ok (.aload_n 0, 1) := by decide +kernel
theorem dX5_becomeConjugation_23 : decode cX5_becomeConjugation 23 = .ok (.getfield 18, 3) := by decide +kernel
theorem dX5_becomeConjugation_26 : decode cX5_becomeConjugation 26 = .ok (.iload_n 1, 1) := by decide +kernel
theorem dX5_becomeConjugation_27 : decode cX5_becomeConjugation 27 = .ok (.iload_n 2, 1) := by decide +kernel
theorem dX5_becomeConjugation_28 : decode cX5_becomeConjugation 28 = .ok (.iload_n 1, 1) := by decide +kernel
theorem dX5_becomeConjugation_29 : decode cX5_becomeConjugation 29 = .ok (.iload_n 2, 1) := by decide +kernel
theorem dX5_becomeConjugation_30 : decode cX5_becomeConjugation 30 = .ok (.invokestatic 48, 3) := by decide +kernel
theorem dX5_becomeConjugation_33 : decode cX5_becomeConjugation 33 = .ok (.invokevirtual 36, 3) := by decide +kernel
theorem dX5_becomeConjugation_36 : decode cX5_becomeConjugation 36 = .ok (.iinc 2 1, 3) := by decide +kernel
theorem dX5_becomeConjugation_39 : decode cX5_becomeConjugation 39 = .ok (.goto (-23), 3) := by decide +kernel
theorem dX5_becomeConjugation_42 : decode cX5_becomeConjugation 42 = .ok (.iinc 1 1, 3) := by decide +kernel
theorem dX5_becomeConjugation_45 : decode cX5_becomeConjugation 45 = .ok (.goto (-37), 3) := by decide +kernel
theorem dX5_becomeConjugation_48 : decode cX5_becomeConjugation 48 = .ok (.aload_n 0, 1) := by decide +kernel
theorem dX5_becomeConjugation_49 : decode cX5_becomeConjugation 49 = .ok (.invokevirtual 40, 3) := by decide +kernel
theorem dX5_becomeConjugation_52 : decode cX5_becomeConjugation 52 = .ok (.return_, 1) := by decide +kernel
theorem dX5_becomeDual_0 : decode cX5_becomeDual 0 = .ok (.aload_n 0, 1) := by decide +kernel
theorem dX5_becomeDual_1 : decode cX5_becomeDual 1 = .ok (.getfield 18, 3) := by decide +kernel
theorem dX5_becomeDual_4 : decode cX5_becomeDual 4 = .ok (.aload_n 0, 1) := by decide +kernel
theorem dX5_becomeDual_5 : decode cX5_becomeDual 5 = .ok (.getfield 22, 3) := by decide +kernel
theorem dX5_becomeDual_8 : decode cX5_becomeDual 8 = .ok (.invokevirtual 51, 3) := by decide +kernel
theorem dX5_becomeDual_11 : decode cX5_becomeDual 11 = .ok (.aload_n 0, 1) := by decide +kernel
theorem dX5_becomeDual_12 : decode cX5_becomeDual 12 = .ok (.invokevirtual 40, 3) := by decide +kernel
theorem dX5_becomeDual_15 : decode cX5_becomeDual 15 = .ok (.return_, 1) := by decide +kernel
theorem dX5_copyFrom_0 : decode cX5_copyFrom 0 = .ok (.aload_n 0, 1) := by decide +kernel
theorem dX5_copyFrom_1 : decode cX5_copyFrom 1 = .ok (.aload_n 1, 1) := by decide +kernel
theorem dX5_copyFrom_2 : decode cX5_copyFrom 2 = .ok (.getfield 9, 3) := by decide +kernel
theorem dX5_copyFrom_5 : decode cX5_copyFrom 5 = .ok (.putfield 9, 3) := by decide +kernel
theorem dX5_copyFrom_8 : decode cX5_copyFrom 8 = .ok (.aload_n 0, 1) := by decide +kernel
theorem dX5_copyFrom_9 : decode cX5_copyFrom 9 = .ok (.aload_n 1, 1) := by decide +kernel
theorem dX5_copyFrom_10 : decode cX5_copyFrom 10 = .ok (.getfield 25, 3) := by decide +kernel
theorem dX5_copyFrom_13 : decode cX5_copyFrom 13 = .ok (.putfield 25, 3) := by decide +kernel
theorem dX5_copyFrom_16 : decode cX5_copyFrom 16 = .ok (.aload_n 0, 1) := by decide +kernel
theorem dX5_copyFrom_17 : decode cX5_copyFrom 17 = .ok (.getfield 18, 3) := by decide +kernel
theorem dX5_copyFrom_20 : decode cX5_copyFrom 20 = .ok (.aload_n 1, 1) := by decide +kernel
theorem dX5_copyFrom_21 : decode cX5_copyFrom 21 = .ok (.getfield 18, 3) := by decide +kernel
theorem dX5_copyFrom_24 : decode cX5_copyFrom 24 = .ok (.invokevirtual 51, 3) := by decide +kernel
theorem dX5_copyFrom_27 : decode cX5_copyFrom 27 = .ok (.aload_n 0, 1) := by decide +kernel
theorem dX5_copyFrom_28 : decode cX5_copyFrom 28 = .ok (.getfield 22, 3) := by decide +kernel
theorem dX5_copyFrom_31 : decode cX5_copyFrom 31 = .ok (.aload_n 1, 1) := by decide +kernel
theorem dX5_copyFrom_32 : decode cX5_copyFrom 32 = .ok (.getfield 22, 3) := by decide +kernel
theorem dX5_copyFrom_35 : decode cX5_copyFrom 35 = .ok (.invokevirtual 51, 3) := by decide +kernel
theorem dX5_copyFrom_38 : decode cX5_copyFrom 38 = .ok (.return_, 1) := by decide +kernel
theorem dX5_firstUndistributive_0 : decode cX5_firstUndistributive 0 = .ok (.iconst 0, 1) := by decide +kernel
theorem dX5_firstUndistributive_1 : decode cX5_firstUndistributive 1 = .ok (.istore_n 1, 1) := by decide +kernel
theorem dX5_firstUndistributive_2 : decode cX5_firstUndistributive 2 = .ok (.iload_n 1, 1) := by decide +kernel
theorem dX5_firstUndistributive_3 : decode cX5_firstUndistributive 3 = .ok (.aload_n 0, 1) := by decide +kernel
theorem dX5_firstUndistributive_4 : decode cX5_firstUndistributive 4 = .ok (.getfield 9, 3) := by decide +kernel
theorem dX5_firstUndistributive_7 : decode cX5_firstUndistributive 7 = .ok (.if_icmp .ge 78, 3) := by decide +kernel
theorem dX5_firstUndistributive_10 : decode cX5_firstUndistributive 10 = .ok (.iconst 0, 1) := by decide +kernel
theorem dX5_firstUndistributive_11 : decode cX5_firstUndistributive 11 = .ok (.istore_n 2, 1) := by decide +kernel
theorem dX5_firstUndistributive_12 : decode cX5_firstUndistributive 12 = .ok (.iload_n 2, 1) := by decide +kernel
theorem dX5_firstUndistributive_13 : decode cX5_firstUndistributive 13 = .ok (.aload_n 0, 1) := by decide +kernel
theorem dX5_firstUndistributive_14 : decode cX5_firstUndistributive 14 = .ok (.getfield 9, 3) := by decide +kernel
theorem dX5_firstUndistributive_17 : decode cX5_firstUndistributive 17 = .ok (.if_icmp .ge 62, 3) := by decide +kernel
theorem dX5_firstUndistributive_20 : decode cX5_firstUndistributive 20 = .ok (.iconst 0, 1) := by decide +kernel
theorem dX5_firstUndistributive_21 : decode cX5_firstUndistributive 21 = .ok (.istore_n 3, 1) := by decide +kernel
theorem dX5_firstUndistributive_22 : decode cX5_firstUndistributive 22 = .ok (.iload_n 3, 1) := by decide +kernel
theorem dX5_firstUndistributive_23 : decode cX5_firstUndistributive 23 = .ok (.aload_n 0, 1) := by decide +kernel
theorem dX5_firstUndistributive_24 : decode cX5_firstUndistributive 24 = .ok (.getfield 9, 3) := by decide +kernel
theorem dX5_firstUndistributive_27 : decode cX5_firstUndistributive 27 = .ok (.if_icmp .ge 46, 3) := by decide +kernel
theorem dX5_firstUndistributive_30 : decode cX5_firstUndistributive 30 = .ok (.aload_n 0, 1) := by decide +kernel
theorem dX5_firstUndistributive_31 : decode cX5_firstUndistributive 31 = .ok (.aload_n 0, 1) := by decide +kernel
theorem dX5_firstUndistributive_32 : decode cX5_firstUndistributive 32 = .ok (.iload_n 1, 1) := by decide +kernel
theorem dX5_firstUndistributive_33 : decode cX5_firstUndistributive 33 = .ok (.iload_n 2, 1) := by decide +kernel
theorem dX5_firstUndistributive_34 : decode cX5_firstUndistributive 34 = .ok (.invokevirtual 55, 3) := by decide +kernel
theorem dX5_firstUndistributive_37 : decode cX5_firstUndistributive 37 = .ok (.iload_n 3, 1) := by decide +kernel
theorem dX5_firstUndistributive_38 : decode cX5_firstUndistributive 38 = .ok (.invokevirtual 55, 3) := by decide +kernel
theorem dX5_firstUndistributive_41 : decode cX5_firstUndistributive 41 = .ok (.aload_n 0, 1) := by decide +kernel
theorem dX5_firstUndistributive_42 : decode cX5_firstUndistributive 42 = .ok (.aload_n 0, 1) := by decide +kernel
theorem dX5_firstUndistributive_43 : decode cX5_firstUndistributive 43 = .ok (.iload_n 1, 1) := by decide +kernel
theorem dX5_firstUndistributive_44 : decode cX5_firstUndistributive 44 = .ok (.iload_n 3, 1) := by decide +kernel
theorem dX5_firstUndistributive_45 : decode cX5_firstUndistributive 45 = .ok (.invokevirtual 55, 3) := by decide +kernel
theorem dX5_firstUndistributive_48 : decode cX5_firstUndistributive 48 = .ok (.aload_n 0, 1) := by decide +kernel
theorem dX5_firstUndistributive_49 : decode cX5_firstUndistributive 49 = .ok (.iload_n 2, 1) := by decide +kernel
theorem dX5_firstUndistributive_50 : decode cX5_firstUndistributive 50 = .ok (.iload_n 3, 1) := by decide +kernel
theorem dX5_firstUndistributive_51 : decode cX5_firstUndistributive 51 = .ok (.invokevirtual 55, 3) := by decide +kernel
theorem dX5_firstUndistributive_54 : decode cX5_firstUndistributive 54 = .ok (.invokevirtual 55, 3) := by decide +kernel
theorem dX5_firstUndistributive_57 : decode cX5_firstUndistributive 57 = .ok (.if_icmp .eq 10, 3) := by decide +kernel
theorem dX5_firstUndistributive_60 : decode cX5_firstUndistributive 60 = .ok (.iload_n 1, 1) := by decide +kernel
theorem dX5_firstUndistributive_61 : decode cX5_firstUndistributive 61 = .ok (.iload_n 2, 1) := by decide +kernel
theorem dX5_firstUndistributive_62 : decode cX5_firstUndistributive 62 = .ok (.iload_n 3, 1) := by decide +kernel
theorem dX5_firstUndistributive_63 : decode cX5_firstUndistributive 63 = .ok (.invokestatic 58, 3) := by decide +kernel
theorem dX5_firstUndistributive_66 : decode cX5_firstUndistributive 66 = .ok (.ireturn, 1) := by decide +kernel
theorem dX5_firstUndistributive_67 : decode cX5_firstUndistributive 67 = .ok (.iinc 3 1, 3) := by decide +kernel
theorem dX5_firstUndistributive_70 : decode cX5_firstUndistributive 70 = .ok (.goto (-48), 3) := by decide +kernel
theorem dX5_firstUndistributive_73 : decode cX5_firstUndistributive 73 = .ok (.iinc 2 1, 3) := by decide +kernel
theorem dX5_firstUndistributive_76 : decode cX5_firstUndistributive 76 = .ok (.goto (-64), 3) := by decide +kernel
theorem dX5_firstUndistributive_79 : decode cX5_firstUndistributive 79 = .ok (.iinc 1 1, 3) := by decide +kernel
theorem dX5_firstUndistributive_82 : decode cX5_firstUndistributive 82 = .ok (.goto (-80), 3) := by decide +kernel
theorem dX5_firstUndistributive_85 : decode cX5_firstUndistributive 85 = .ok (.bipush (-4), 2) := by decide +kernel
theorem dX5_firstUndistributive_87 : decode cX5_firstUndistributive 87 = .ok (.ireturn, 1) := by decide +kernel
theorem dX5_firstUnidempotent_0 : decode cX5_firstUnidempotent 0 = .ok (.iconst 0, 1) := by decide +kernel
theorem dX5_firstUnidempotent_1 : decode cX5_firstUnidempotent 1 = .ok (.istore_n 1, 1) := by decide +kernel
theorem dX5_firstUnidempotent_2 : decode cX5_firstUnidempotent 2 = .ok (.iload_n 1, 1) := by decide +kernel
theorem dX5_firstUnidempotent_3 : decode cX5_firstUnidempotent 3 = .ok (.aload_n 0, 1) := by decide +kernel
theorem dX5_firstUnidempotent_4 : decode cX5_firstUnidempotent 4 = .ok (.getfield 9, 3) := by decide +kernel
theorem dX5_firstUnidempotent_7 : decode cX5_firstUnidempotent 7 = .ok (.if_icmp .ge 21, 3) := by decide +kernel
theorem dX5_firstUnidempotent_10 : decode cX5_firstUnidempotent 10 = .ok (.aload_n 0, 1) := by decide +kernel
theorem dX5_firstUnidempotent_11 : decode cX5_firstUnidempotent 11 = .ok (.iload_n 1, 1) := by decide +kernel
theorem dX5_firstUnidempotent_12 : decode cX5_firstUnidempotent 12 = .ok (.iload_n 1, 1) := by decide +kernel
theorem dX5_firstUnidempotent_13 : decode cX5_firstUnidempotent 13 = .ok (.invokevirtual 55, 3) := by decide +kernel
theorem dX5_firstUnidempotent_16 : decode cX5_firstUnidempotent 16 = .ok (.iload_n 1, 1) := by decide +kernel
theorem dX5_firstUnidempotent_17 : decode cX5_firstUnidempotent 17 = .ok (.if_icmp .eq 5, 3) := by decide +kernel
theorem dX5_firstUnidempotent_20 : decode cX5_firstUnidempotent 20 = .ok (.iload_n 1, 1) := by decide +kernel
theorem dX5_firstUnidempotent_21 : decode cX5_firstUnidempotent 21 = .ok (.ireturn, 1) := by decide +kernel
theorem dX5_firstUnidempotent_22 : decode cX5_firstUnidempotent 22 = .ok (.iinc 1 1, 3) := by decide +kernel
theorem dX5_firstUnidempotent_25 : decode cX5_firstUnidempotent 25 = .ok (.goto (-23), 3) := by decide +kernel
theorem dX5_firstUnidempotent_28 : decode cX5_firstUnidempotent 28 = .ok (.bipush (-4), 2) := by decide +kernel
theorem dX5_firstUnidempotent_30 : decode cX5_firstUnidempotent 30 = .ok (.ireturn, 1) := by decide +kernel
theorem dX5_reachableFrom_0 : decode cX5_reachableFrom 0 = .ok (.iconst 1, 1) := by decide +kernel
theorem dX5_reachableFrom_1 : decode cX5_reachableFrom 1 = .ok (.iload_n 1, 1) := by decide +kernel
theorem dX5_reachableFrom_2 : decode cX5_reachableFrom 2 = .ok (.ishl, 1) := by decide +kernel
theorem dX5_reachableFrom_3 : decode cX5_reachableFrom 3 = .ok (.istore_n 2, 1) := by decide +kernel
theorem dX5_reachableFrom_4 : decode cX5_reachableFrom 4 = .ok (.iconst 0, 1) := by decide +kernel
theorem dX5_reachableFrom_5 : decode cX5_reachableFrom 5 = .ok (.istore_n 3, 1) := by decide +kernel
theorem dX5_reachableFrom_6 : decode cX5_reachableFrom 6 = .ok (.iload_n 3, 1) := by decide +kernel
theorem dX5_reachableFrom_7 : decode cX5_reachableFrom 7 = .ok (.aload_n 0, 1) := by decide +kernel
theorem dX5_reachableFrom_8 : decode cX5_reachableFrom 8 = .ok (.getfield 9, 3) := by decide +kernel
theorem dX5_reachableFrom_11 : decode cX5_reachableFrom 11 = .ok (.if_icmp .ge 27, 3) := by decide +kernel
theorem dX5_reachableFrom_14 : decode cX5_reachableFrom 14 = .ok (.aload_n 0, 1) := by decide +kernel
theorem dX5_reachableFrom_15 : decode cX5_reachableFrom 15 = .ok (.iload_n 2, 1) := by decide +kernel
theorem dX5_reachableFrom_16 : decode cX5_reachableFrom 16 = .ok (.invokevirtual 62, 3) := by decide +kernel
theorem dX5_reachableFrom_19 : decode cX5_reachableFrom 19 = .ok (.istore 4, 2) := by decide +kernel
theorem dX5_reachableFrom_21 : decode cX5_reachableFrom 21 = .ok (.iload 4, 2) := by decide +kernel
theorem dX5_reachableFrom_23 : decode cX5_reachableFrom 23 = .ok (.iload_n 2, 1) := by decide +kernel
theorem dX5_reachableFrom_24 : decode cX5_reachableFrom 24 = .ok (.if_icmp .ne 5, 3) := by decide +kernel
theorem dX5_reachableFrom_27 : decode cX5_reachableFrom 27 = .ok (.iload_n 2, 1) := by decide +kernel
theorem dX5_reachableFrom_28 : decode cX5_reachableFrom 28 = .ok (.ireturn, 1) := by decide +kernel
theorem dX5_reachableFrom_29 : decode cX5_reachableFrom 29 = .ok (.iload 4, 2) := by decide +kernel
theorem dX5_reachableFrom_31 : decode cX5_reachableFrom 31 = .ok (.istore_n 2, 1) := by decide +kernel
theorem dX5_reachableFrom_32 : decode cX5_reachableFrom 32 = .ok (.iinc 3 1, 3) := by decide +kernel
theorem dX5_reachableFrom_35 : decode cX5_reachableFrom 35 = .ok (.goto (-29), 3) := by decide +kernel
theorem dX5_reachableFrom_38 : decode cX5_reachableFrom 38 = .ok (.iload_n 2, 1) := by decide +kernel
theorem dX5_reachableFrom_39 : decode cX5_reachableFrom 39 = .ok (.ireturn, 1) := by decide +kernel
theorem dX5_withNeighbours_0 : decode cX5_withNeighbours 0 = .ok (.iload_n 1, 1) := by decide +kernel
theorem dX5_withNeighbours_1 : decode cX5_withNeighbours 1 = .ok (.istore_n 2, 1) := by decide +kernel
theorem dX5_withNeighbours_2 : decode cX5_withNeighbours 2 = .ok (.iconst 0, 1) := by decide +kernel
theorem dX5_withNeighbours_3 : decode cX5_withNeighbours 3 = .ok (.istore_n 3, 1) := by decide +kernel
theorem dX5_withNeighbours_4 : decode cX5_withNeighbours 4 = .ok (.iload_n 3, 1) := by decide +kernel
theorem dX5_withNeighbours_5 : decode cX5_withNeighbours 5 = .ok (.aload_n 0, 1) := by decide +kernel
theorem dX5_withNeighbours_6 : decode cX5_withNeighbours 6 = .ok (.getfield 9, 3) := by decide +kernel
theorem dX5_withNeighbours_9 : decode cX5_withNeighbours 9 = .ok (.if_icmp .ge 25, 3) := by decide +kernel
theorem dX5_withNeighbours_12 : decode cX5_withNeighbours 12 = .ok (.iload_n 1, 1) := by decide +kernel
theorem dX5_withNeighbours_13 : decode cX5_withNeighbours 13 = .ok (.iconst 1, 1) := by decide +kernel
theorem dX5_withNeighbours_14 : decode cX5_withNeighbours 14 = .ok (.iload_n 3, 1) := by decide +kernel
theorem dX5_withNeighbours_15 : decode cX5_withNeighbours 15 = .ok (.ishl, 1) := by decide +kernel
theorem dX5_withNeighbours_16 : decode cX5_withNeighbours 16 = .ok (.iand, 1) := by decide +kernel
theorem dX5_withNeighbours_17 : decode cX5_withNeighbours 17 = .ok (.ifCond .eq 11, 3) := by decide +kernel
theorem dX5_withNeighbours_20 : decode cX5_withNeighbours 20 = .ok (.iload_n 2, 1) := by decide +kernel
theorem dX5_withNeighbours_21 : decode cX5_withNeighbours 21 = .ok (.aload_n 0, 1) := by decide +kernel
theorem dX5_withNeighbours_22 : decode cX5_withNeighbours 22 = .ok (.iload_n 3, 1) := by decide +kernel
theorem dX5_withNeighbours_23 : decode cX5_withNeighbours 23 = .ok (.invokevirtual 66, 3) := by decide +kernel
theorem dX5_withNeighbours_26 : decode cX5_withNeighbours 26 = .ok (.ior, 1) := by decide +kernel
theorem dX5_withNeighbours_27 : decode cX5_withNeighbours 27 = .ok (.istore_n 2, 1) := by decide +kernel
theorem dX5_withNeighbours_28 : decode cX5_withNeighbours 28 = .ok (.iinc 3 1, 3) := by decide +kernel
theorem dX5_withNeighbours_31 : decode cX5_withNeighbours 31 = .ok (.goto (-27), 3) := by decide +kernel
theorem dX5_withNeighbours_34 : decode cX5_withNeighbours 34 = .ok (.iload_n 2, 1) := by decide +kernel
theorem dX5_withNeighbours_35 : decode cX5_withNeighbours 35 = .ok (.ireturn, 1) := by decide +kernel
theorem dX5_neighbours_0 : decode cX5_neighbours 0 = .ok (.iconst 0, 1) := by decide +kernel
theorem dX5_neighbours_1 : decode cX5_neighbours 1 = .ok (.istore_n 2, 1) := by decide +kernel
theorem dX5_neighbours_2 : decode cX5_neighbours 2 = .ok (.iconst 0, 1) := by decide +kernel
theorem dX5_neighbours_3 : decode cX5_neighbours 3 = .ok (.istore_n 3, 1) := by decide +kernel
theorem dX5_neighbours_4 : decode cX5_neighbours 4 = .ok (.iload_n 3, 1) := by decide +kernel
theorem dX5_neighbours_5 : decode cX5_neighbours 5 = .ok (.aload_n 0, 1) := by decide +kernel
theorem dX5_neighbours_6 : decode cX5_neighbours 6 = .ok (.getfield 9, 3) := by decide +kernel
theorem dX5_neighbours_9 : decode cX5_neighbours 9 = .ok (.if_icmp .ge 38, 3) := by decide +kernel
theorem dX5_neighbours_12 : decode cX5_neighbours 12 = .ok (.iload_n 2, 1) := by decide +kernel
theorem dX5_neighbours_13 : decode cX5_neighbours 13 = .ok (.iconst 1, 1) := by decide +kernel
theorem dX5_neighbours_14 : decode cX5_neighbours 14 = .ok (.aload_n 0, 1) := by decide +kernel
theorem dX5_neighbours_15 : decode cX5_neighbours 15 = .ok (.iload_n 1, 1) := by decide +kernel
theorem dX5_neighbours_16 : decode cX5_neighbours 16 = .ok (.iload_n 3, 1) := by decide +kernel
theorem dX5_neighbours_17 : decode cX5_neighbours 17 = .ok (.invokevirtual 55, 3) := by decide +kernel
theorem dX5_neighbours_20 : decode cX5_neighbours 20 = .ok (.ishl, 1) := by decide +kernel
theorem dX5_neighbours_21 : decode cX5_neighbours 21 = .ok (.ior, 1) := by decide +kernel
theorem dX5_neighbours_22 : decode cX5_neighbours 22 = .ok (.istore_n 2, 1) := by decide +kernel
theorem dX5_neighbours_23 : decode cX5_neighbours 23 = .ok (.aload_n 0, 1) := by decide +kernel
theorem dX5_neighbours_24 : decode cX5_neighbours 24 = .ok (.invokevirtual 69, 3) := by decide +kernel
theorem dX5_neighbours_27 : decode cX5_neighbours 27 = .ok (.ifCond .eq 14, 3) := by decide +kernel
theorem dX5_neighbours_30 : decode cX5_neighbours 30 = .ok (.iload_n 2, 1) := by decide +kernel
theorem dX5_neighbours_31 : decode cX5_neighbours 31 = .ok (.iconst 1, 1) := by decide +kernel
theorem dX5_neighbours_32 : decode cX5_neighbours 32 = .ok (.aload_n 0, 1) := by decide +kernel
theorem dX5_neighbours_33 : decode cX5_neighbours 33 = .ok (.iload_n 1, 1) := by decide +kernel
theorem dX5_neighbours_34 : decode cX5_neighbours 34 = .ok (.iload_n 3, 1) := by decide +kernel
theorem dX5_neighbours_35 : decode cX5_neighbours 35 = .ok (.invokevirtual 73, 3) := by decide +kernel
theorem dX5_neighbours_38 : decode cX5_neighbours 38 = .ok (.ishl, 1) := by decide +kernel
theorem dX5_neighbours_39 : decode cX5_neighbours 39 = .ok (.ior, 1) := by decide +kernel
theorem dX5_neighbours_40 : decode cX5_neighbours 40 = .ok (.istore_n 2, 1) := by decide +kernel
theorem dX5_neighbours_41 : decode cX5_neighbours 41 = .ok (.iinc 3 1, 3) := by decide +kernel
theorem dX5_neighbours_44 : decode cX5_neighbours 44 = .ok (.goto (-40), 3) := by decide +kernel
theorem dX5_neighbours_47 : decode cX5_neighbours 47 = .ok (.iload_n 2, 1) := by decide +kernel
theorem dX5_neighbours_48 : decode cX5_neighbours 48 = .ok (.ireturn, 1) := by decide +kernel
theorem dX5_refreshQuotients_0 : decode cX5_refreshQuotients 0 = .ok (.aload_n 0, 1) := by decide +kernel
theorem dX5_refreshQuotients_1 : decode cX5_refreshQuotients 1 = .ok (.bipush (-4), 2) := by decide +kernel
theorem dX5_refreshQuotients_3 : decode cX5_refreshQuotients 3 = .ok (.putfield 25, 3) := by decide +kernel
theorem dX5_refreshQuotients_6 : decode cX5_refreshQuotients 6 = .ok (.aload_n 0, 1) := by decide +kernel
theorem dX5_refreshQuotients_7 : decode cX5_refreshQuotients 7 = .ok (.getfield 9, 3) := by decide +kernel
theorem dX5_refreshQuotients_10 : decode cX5_refreshQuotients 10 = .ok (.iconst 1, 1) := by decide +kernel
theorem dX5_refreshQuotients_11 : decode cX5_refreshQuotients 11 = .ok (.isub, 1) := by decide +kernel
theorem dX5_refreshQuotients_12 : decode cX5_refreshQuotients 12 = .ok (.istore_n 1, 1) := by decide +kernel
theorem dX5_refreshQuotients_13 : decode cX5_refreshQuotients 13 = .ok (.iload_n 1, 1) := by decide +kernel
theorem dX5_refreshQuotients_14 : decode cX5_refreshQuotients 14 = .ok (.ifCond .lt 22, 3) := by decide +kernel
theorem dX5_refreshQuotients_17 : decode cX5_refreshQuotients 17 = .ok (.aload_n 0, 1) := by decide +kernel
theorem dX5_refreshQuotients_18 : decode cX5_refreshQuotients 18 = .ok (.iload_n 1, 1) := by decide +kernel
theorem dX5_refreshQuotients_19 : decode cX5_refreshQuotients 19 = .ok (.invokevirtual 76, 3) := by decide +kernel
theorem dX5_refreshQuotients_22 : decode cX5_refreshQuotients 22 = .ok (.ifCond .ne 8, 3) := by decide +kernel
theorem dX5_refreshQuotients_25 : decode cX5_refreshQuotients 25 = .ok (.aload_n 0, 1) := by decide +kernel
theorem dX5_refreshQuotients_26 : decode cX5_refreshQuotients 26 = .ok (.iload_n 1, 1) := by decide +kernel
theorem dX5_refreshQuotients_27 : decode cX5_refreshQuotients 27 = .ok (.putfield 25, 3) := by decide +kernel
theorem dX5_refreshQuotients_30 : decode cX5_refreshQuotients 30 = .ok (.iinc 1 (-1), 3) := by decide +kernel
theorem dX5_refreshQuotients_33 : decode cX5_refreshQuotients 33 = .ok (.goto (-20), 3) := by decide +kernel
theorem dX5_refreshQuotients_36 : decode cX5_refreshQuotients 36 = .ok (.return_, 1) := by decide +kernel
theorem dX5_invertColumn_0 : decode cX5_invertColumn 0 = .ok (.iconst 0, 1) := by decide +kernel
theorem dX5_invertColumn_1 : decode cX5_invertColumn 1 = .ok (.istore_n 2, 1) := by decide +kernel
theorem dX5_invertColumn_2 : decode cX5_invertColumn 2 = .ok (.iconst 0, 1) := by decide +kernel
theorem dX5_invertColumn_3 : decode cX5_invertColumn 3 = .ok (.istore_n 3, 1) := by decide +kernel
theorem dX5_invertColumn_4 : decode cX5_invertColumn 4 = .ok (.iload_n 3, 1) := by decide +kernel
theorem dX5_invertColumn_5 : decode cX5_invertColumn 5 = .ok (.aload_n 0, 1) := by decide +kernel
theorem dX5_invertColumn_6 : decode cX5_invertColumn 6 = .ok (.getfield 9, 3) := by decide +kernel
theorem dX5_invertColumn_9 : decode cX5_invertColumn 9 = .ok (.if_icmp .ge 38, 3) := by decide +kernel
theorem dX5_invertColumn_12 : decode cX5_invertColumn 12 = .ok (.aload_n 0, 1) := by decide +kernel
theorem dX5_invertColumn_13 : decode cX5_invertColumn 13 = .ok (.getfield 18, 3) := by decide +kernel
theorem dX5_invertColumn_16 : decode cX5_invertColumn 16 = .ok (.iload_n 3, 1) := by decide +kernel
theorem dX5_invertColumn_17 : decode cX5_invertColumn 17 = .ok (.iload_n 1, 1) := by decide +kernel
theorem dX5_invertColumn_18 : decode cX5_invertColumn 18 = .ok (.invokevirtual 32, 3) := by decide +kernel
theorem dX5_invertColumn_21 : decode cX5_invertColumn 21 = .ok (.istore 4, 2) := by decide +kernel
theorem dX5_invertColumn_23 : decode cX5_invertColumn 23 = .ok (.aload_n 0, 1) := by decide +kernel
theorem dX5_invertColumn_24 : decode cX5_invertColumn 24 = .ok (.getfield 22, 3) := by decide +kernel
theorem dX5_invertColumn_27 : decode cX5_invertColumn 27 = .ok (.iload 4, 2) := by decide +kernel
theorem dX5_invertColumn_29 : decode cX5_invertColumn 29 = .ok (.iload_n 1, 1) := by decide +kernel
theorem dX5_invertColumn_30 : decode cX5_invertColumn 30 = .ok (.iload_n 3, 1) := by decide +kernel
theorem dX5_invertColumn_31 : decode cX5_invertColumn 31 = .ok (.invokevirtual 36, 3) := by decide +kernel
theorem dX5_invertColumn_34 : decode cX5_invertColumn 34 = .ok (.iload_n 2, 1) := by decide +kernel
theorem dX5_invertColumn_35 : decode cX5_invertColumn 35 = .ok (.iconst 1, 1) := by decide +kernel
theorem dX5_invertColumn_36 : decode cX5_invertColumn 36 = .ok (.iload 4, 2) := by decide +kernel
theorem dX5_invertColumn_38 : decode cX5_invertColumn 38 = .ok (.ishl, 1) := by decide +kernel
theorem dX5_invertColumn_39 : decode cX5_invertColumn 39 = .ok (.ior, 1) := by decide +kernel
theorem dX5_invertColumn_40 : decode cX5_invertColumn 40 = .ok (.istore_n 2, 1) := by decide +kernel
theorem dX5_invertColumn_41 : decode cX5_invertColumn 41 = .ok (.iinc 3 1, 3) := by decide +kernel
theorem dX5_invertColumn_44 : decode cX5_invertColumn 44 = .ok (.goto (-40), 3) := by decide +kernel
theorem dX5_invertColumn_47 : decode cX5_invertColumn 47 = .ok (.iload_n 2, 1) := by decide +kernel
theorem dX5_invertColumn_48 : decode cX5_invertColumn 48 = .ok (.iconst 1, 1) := by decide +kernel
theorem dX5_invertColumn_49 : decode cX5_invertColumn 49 = .ok (.aload_n 0, 1) := by decide +kernel
theorem dX5_invertColumn_50 : decode cX5_invertColumn 50 = .ok (.getfield 9, 3) := by decide +kernel
theorem dX5_invertColumn_53 : decode cX5_invertColumn 53 = .ok (.ishl, 1) := by decide +kernel
theorem dX5_invertColumn_54 : decode cX5_invertColumn 54 = .ok (.iconst 1, 1) := by decide +kernel
theorem dX5_invertColumn_55 : decode cX5_invertColumn 55 = .ok (.isub, 1) := by decide +kernel
theorem dX5_invertColumn_56 : decode cX5_invertColumn 56 = .ok (.if_icmp .ne 7, 3) := by decide +kernel
theorem dX5_invertColumn_59 : decode cX5_invertColumn 59 = .ok (.iconst 1, 1) := by decide +kernel
theorem dX5_invertColumn_60 : decode cX5_invertColumn 60 = .ok (.goto 4, 3) := by decide +kernel
theorem dX5_invertColumn_63 : decode cX5_invertColumn 63 = .ok (.iconst 0, 1) := by decide +kernel
theorem dX5_invertColumn_64 : decode cX5_invertColumn 64 = .ok (.ireturn, 1) := by decide +kernel
theorem dX5_conjugate_0 : decode cX5_conjugate 0 = .ok (.iconst 0, 1) := by decide +kernel
theorem dX5_conjugate_1 : decode cX5_conjugate 1 = .ok (.istore_n 2, 1) := by decide +kernel
theorem dX5_conjugate_2 : decode cX5_conjugate 2 = .ok (.iload_n 2, 1) := by decide +kernel
theorem dX5_conjugate_3 : decode cX5_conjugate 3 = .ok (.bipush 6, 2) := by decide +kernel
theorem dX5_conjugate_5 : decode cX5_conjugate 5 = .ok (.if_icmp .ge 21, 3) := by decide +kernel
theorem dX5_conjugate_8 : decode cX5_conjugate 8 = .ok (.iload_n 1, 1) := by decide +kernel
theorem dX5_conjugate_9 : decode cX5_conjugate 9 = .ok (.iload_n 2, 1) := by decide +kernel
theorem dX5_conjugate_10 : decode cX5_conjugate 10 = .ok (.iload_n 0, 1) := by decide +kernel
theorem dX5_conjugate_11 : decode cX5_conjugate 11 = .ok (.iload_n 1, 1) := by decide +kernel
theorem dX5_conjugate_12 : decode cX5_conjugate 12 = .ok (.invokestatic 79, 3) := by decide +kernel
theorem dX5_conjugate_15 : decode cX5_conjugate 15 = .ok (.ifCond .eq 5, 3) := by decide +kernel
theorem dX5_conjugate_18 : decode cX5_conjugate 18 = .ok (.iload_n 2, 1) := by decide +kernel
theorem dX5_conjugate_19 : decode cX5_conjugate 19 = .ok (.ireturn, 1) := by decide +kernel
theorem dX5_conjugate_20 : decode cX5_conjugate 20 = .ok (.iinc 2 1, 3) := by decide +kernel
theorem dX5_conjugate_23 : decode cX5_conjugate 23 = .ok (.goto (-21), 3) := by decide +kernel
theorem dX5_conjugate_26 : decode cX5_conjugate 26 = .ok (.iload_n 0, 1) := by decide +kernel
theorem dX5_conjugate_27 : decode cX5_conjugate 27 = .ok (.ireturn, 1) := by decide +kernel
theorem dX5_sameProducts_0 : decode cX5_sameProducts 0 = .ok (.iconst 0, 1) := by decide +kernel
theorem dX5_sameProducts_1 : decode cX5_sameProducts 1 = .ok (.istore 4, 2) := by decide +kernel
theorem dX5_sameProducts_3 : decode cX5_sameProducts 3 = .ok (.iload 4, 2) := by decide +kernel
theorem dX5_sameProducts_5 : decode cX5_sameProducts 5 = .ok (.iconst 3, 1) := by decide +kernel
theorem dX5_sameProducts_6 : decode cX5_sameProducts 6 = .ok (.if_icmp .ge 34, 3) := by decide +kernel
theorem dX5_sameProducts_9 : decode cX5_sameProducts 9 = .ok (.iload_n 0, 1) := by decide +kernel
theorem dX5_sameProducts_10 : decode cX5_sameProducts 10 = .ok (.iload_n 1, 1) := by decide +kernel
theorem dX5_sameProducts_11 : decode cX5_sameProducts 11 = .ok (.iload 4, 2) := by decide +kernel
theorem dX5_sameProducts_13 : decode cX5_sameProducts 13 = .ok (.invokestatic 83, 3) := by decide +kernel
theorem dX5_sameProducts_16 : decode cX5_sameProducts 16 = .ok (.invokestatic 83, 3) := by decide +kernel
theorem dX5_sameProducts_19 : decode cX5_sameProducts 19 = .ok (.iload_n 2, 1) := by decide +kernel
theorem dX5_sameProducts_20 : decode cX5_sameProducts 20 = .ok (.iload_n 3, 1) := by decide +kernel
theorem dX5_sameProducts_21 : decode cX5_sameProducts 21 = .ok (.iload 4, 2) := by decide +kernel
theorem dX5_sameProducts_23 : decode cX5_sameProducts 23 = .ok (.invokestatic 83, 3) := by decide +kernel
theorem dX5_sameProducts_26 : decode cX5_sameProducts 26 = .ok (.invokestatic 83, 3) := by decide +kernel
theorem dX5_sameProducts_29 : decode cX5_sameProducts 29 = .ok (.if_icmp .eq 5, 3) := by decide +kernel
theorem dX5_sameProducts_32 : decode cX5_sameProducts 32 = .ok (.iconst 0, 1) := by decide +kernel
theorem dX5_sameProducts_33 : decode cX5_sameProducts 33 = .ok (.ireturn, 1) := by decide +kernel
theorem dX5_sameProducts_34 : decode cX5_sameProducts 34 = .ok (.iinc 4 1, 3) := by decide +kernel
theorem dX5_sameProducts_37 : decode cX5_sameProducts 37 = .ok (.goto (-34), 3) := by decide +kernel
theorem dX5_sameProducts_40 : decode cX5_sameProducts 40 = .ok (.iconst 1, 1) := by decide +kernel
theorem dX5_sameProducts_41 : decode cX5_sameProducts 41 = .ok (.ireturn, 1) := by decide +kernel
theorem dX5_image_0 : decode cX5_image 0 = .ok (.iconst 3, 1) := by decide +kernel
theorem dX5_image_1 : decode cX5_image 1 = .ok (.iload_n 0, 1) := by decide +kernel
theorem dX5_image_2 : decode cX5_image 2 = .ok (.imul, 1) := by decide +kernel
theorem dX5_image_3 : decode cX5_image 3 = .ok (.iload_n 1, 1) := by decide +kernel
theorem dX5_image_4 : decode cX5_image 4 = .ok (.iadd, 1) := by decide +kernel
theorem dX5_image_5 : decode cX5_image 5 = .ok (.istore_n 2, 1) := by decide +kernel
theorem dX5_image_6 : decode cX5_image 6 = .ok (.iload_n 2, 1) := by decide +kernel
theorem dX5_image_7 : decode cX5_image 7 = .ok (.ifCond .lt 19, 3) := by decide +kernel
theorem dX5_image_10 : decode cX5_image 10 = .ok (.iload_n 2, 1) := by decide +kernel
theorem dX5_image_11 : decode cX5_image 11 = .ok (.getstatic 86, 3) := by decide +kernel
theorem dX5_image_14 : decode cX5_image 14 = .ok (.arraylength, 1) := by decide +kernel
theorem dX5_image_15 : decode cX5_image 15 = .ok (.if_icmp .ge 11, 3) := by decide +kernel
theorem dX5_image_18 : decode cX5_image 18 = .ok (.getstatic 86, 3) := by decide +kernel
theorem dX5_image_21 : decode cX5_image 21 = .ok (.iload_n 2, 1) := by decide +kernel
theorem dX5_image_22 : decode cX5_image 22 = .ok (.iaload, 1) := by decide +kernel
theorem dX5_image_23 : decode cX5_image 23 = .ok (.goto 4, 3) := by decide +kernel
theorem dX5_image_26 : decode cX5_image 26 = .ok (.iconst 0, 1) := by decide +kernel
theorem dX5_image_27 : decode cX5_image 27 = .ok (.ireturn, 1) := by decide +kernel
theorem dX6_init_0 : decode cX6_init 0 = .ok (.aload_n 0, 1) := by decide +kernel
theorem dX6_init_1 : decode cX6_init 1 = .ok (.invokespecial 1, 3) := by decide +kernel
theorem dX6_init_4 : decode cX6_init 4 = .ok (.aload_n 0, 1) := by decide +kernel
theorem dX6_init_5 : decode cX6_init 5 = .ok (.new 7, 3) := by decide +kernel
theorem dX6_init_8 : decode cX6_init 8 = .ok (.dup, 1) := by decide +kernel
theorem dX6_init_9 : decode cX6_init 9 = .ok (.invokespecial 9, 3) := by decide +kernel
theorem dX6_init_12 : decode cX6_init 12 = .ok (.putfield 10, 3) := by decide +kernel
theorem dX6_init_15 : decode cX6_init 15 = .ok (.aload_n 0, 1) := by decide +kernel
theorem dX6_init_16 : decode cX6_init 16 = .ok (.new 16, 3) := by decide +kernel
theorem dX6_init_19 : decode cX6_init 19 = .ok (.dup, 1) := by decide +kernel
theorem dX6_init_20 : decode cX6_init 20 = .ok (.invokespecial 18, 3) := by decide +kernel
theorem dX6_init_23 : decode cX6_init 23 = .ok (.putfield 19, 3) := by decide +kernel
theorem dX6_init_26 : decode cX6_init 26 = .ok (.aload_n 0, 1) := by decide +kernel
theorem dX6_init_27 : decode cX6_init 27 = .ok (.new 23, 3) := by decide +kernel
theorem dX6_init_30 : decode cX6_init 30 = .ok (.dup, 1) := by decide +kernel
theorem dX6_init_31 : decode cX6_init 31 = .ok (.invokespecial 25, 3) := by decide +kernel
theorem dX6_init_34 : decode cX6_init 34 = .ok (.putfield 26, 3) := by decide +kernel
theorem dX6_init_37 : decode cX6_init 37 = .ok (.return_, 1) := by decide +kernel
theorem dX6_becomeInitial_0 : decode cX6_becomeInitial 0 = .ok (.aload_n 0, 1) := by decide +kernel
theorem dX6_becomeInitial_1 : decode cX6_becomeInitial 1 = .ok (.getfield 10, 3) := by decide +kernel
theorem dX6_becomeInitial_4 : decode cX6_becomeInitial 4 = .ok (.iconst 3, 1) := by decide +kernel
theorem dX6_becomeInitial_5 : decode cX6_becomeInitial 5 = .ok (.iconst (-1), 1) := by decide +kernel
theorem dX6_becomeInitial_6 : decode cX6_becomeInitial 6 = .ok (.iconst 2, 1) := by decide +kernel
theorem dX6_becomeInitial_7 : decode cX6_becomeInitial 7 = .ok (.iconst 0, 1) := by decide +kernel
theorem dX6_becomeInitial_8 : decode cX6_becomeInitial 8 = .ok (.invokevirtual 30, 3) := by decide +kernel
theorem dX6_becomeInitial_11 : decode cX6_becomeInitial 11 = .ok (.aload_n 0, 1) := by decide +kernel
theorem dX6_becomeInitial_12 : decode cX6_becomeInitial 12 = .ok (.getfield 19, 3) := by decide +kernel
theorem dX6_becomeInitial_15 : decode cX6_becomeInitial 15 = .ok (.iconst 2, 1) := by decide +kernel
theorem dX6_becomeInitial_16 : decode cX6_becomeInitial 16 = .ok (.invokevirtual 34, 3) := by decide +kernel
theorem dX6_becomeInitial_19 : decode cX6_becomeInitial 19 = .ok (.aload_n 0, 1) := by decide +kernel
theorem dX6_becomeInitial_20 : decode cX6_becomeInitial 20 = .ok (.getfield 19, 3) := by decide +kernel
theorem dX6_becomeInitial_23 : decode cX6_becomeInitial 23 = .ok (.iconst 1, 1) := by decide +kernel
theorem dX6_becomeInitial_24 : decode cX6_becomeInitial 24 = .ok (.invokevirtual 38, 3) := by decide +kernel
theorem dX6_becomeInitial_27 : decode cX6_becomeInitial 27 = .ok (.aload_n 0, 1) := by decide +kernel
theorem dX6_becomeInitial_28 : decode cX6_becomeInitial 28 = .ok (.getfield 19, 3) := by decide +kernel
theorem dX6_becomeInitial_31 : decode cX6_becomeInitial 31 = .ok (.iconst 1, 1) := by decide +kernel
theorem dX6_becomeInitial_32 : decode cX6_becomeInitial 32 = .ok (.invokevirtual 38, 3) := by decide +kernel
theorem dX6_becomeInitial_35 : decode cX6_becomeInitial 35 = .ok (.aload_n 0, 1) := by decide +kernel
theorem dX6_becomeInitial_36 : decode cX6_becomeInitial 36 = .ok (.getfield 19, 3) := by decide +kernel
theorem dX6_becomeInitial_39 : decode cX6_becomeInitial 39 = .ok (.iconst 1, 1) := by decide +kernel
theorem dX6_becomeInitial_40 : decode cX6_becomeInitial 40 = .ok (.invokevirtual 38, 3) := by decide +kernel
theorem dX6_becomeInitial_43 : decode cX6_becomeInitial 43 = .ok (.aload_n 0, 1) := by decide +kernel
theorem dX6_becomeInitial_44 : decode cX6_becomeInitial 44 = .ok (.getfield 26, 3) := by decide +kernel
theorem dX6_becomeInitial_47 : decode cX6_becomeInitial 47 = .ok (.iconst 3, 1) := by decide +kernel
theorem dX6_becomeInitial_48 : decode cX6_becomeInitial 48 = .ok (.invokevirtual 41, 3) := by decide +kernel
theorem dX6_becomeInitial_51 : decode cX6_becomeInitial 51 = .ok (.return_, 1) := by decide +kernel
theorem dX6_copyFrom_0 : decode cX6_copyFrom 0 = .ok (.aload_n 0, 1) := by decide +kernel
theorem dX6_copyFrom_1 : decode cX6_copyFrom 1 = .ok (.getfield 10, 3) := by decide +kernel
theorem dX6_copyFrom_4 : decode cX6_copyFrom 4 = .ok (.aload_n 1, 1) := by decide +kernel
theorem dX6_copyFrom_5 : decode cX6_copyFrom 5 = .ok (.getfield 10, 3) := by decide +kernel
theorem dX6_copyFrom_8 : decode cX6_copyFrom 8 = .ok (.invokevirtual 42, 3) := by decide +kernel
theorem dX6_copyFrom_11 : decode cX6_copyFrom 11 = .ok (.aload_n 0, 1) := by decide +kernel
theorem dX6_copyFrom_12 : decode cX6_copyFrom 12 = .ok (.getfield 19, 3) := by decide +kernel
theorem dX6_copyFrom_15 : decode cX6_copyFrom 15 = .ok (.aload_n 1, 1) := by decide +kernel
theorem dX6_copyFrom_16 : decode cX6_copyFrom 16 = .ok (.getfield 19, 3) := by decide +kernel
theorem dX6_copyFrom_19 : decode cX6_copyFrom 19 = .ok (.invokevirtual 46, 3) := by decide +kernel
theorem dX6_copyFrom_22 : decode cX6_copyFrom 22 = .ok (.aload_n 0, 1) := by decide +kernel
theorem dX6_copyFrom_23 : decode cX6_copyFrom 23 = .ok (.getfield 26, 3) := by decide +kernel
theorem dX6_copyFrom_26 : decode cX6_copyFrom 26 = .ok (.aload_n 1, 1) := by decide +kernel
theorem dX6_copyFrom_27 : decode cX6_copyFrom 27 = .ok (.getfield 26, 3) := by decide +kernel
theorem dX6_copyFrom_30 : decode cX6_copyFrom 30 = .ok (.invokevirtual 49, 3) := by decide +kernel
theorem dX6_copyFrom_33 : decode cX6_copyFrom 33 = .ok (.return_, 1) := by decide +kernel
theorem dX7_init_0 : decode cX7_init 0 = .ok (.aload_n 0, 1) := by decide +kernel
theorem dX7_init_1 : decode cX7_init 1 = .ok (.invokespecial 3, 3) := by decide +kernel
theorem dX7_init_4 : decode cX7_init 4 = .ok (.aload_n 0, 1) := by decide +kernel
theorem dX7_init_5 : decode cX7_init 5 = .ok (.iconst 4, 1) := by decide +kernel
theorem dX7_init_6 : decode cX7_init 6 = .ok (.newarray .int, 2) := by decide +kernel
theorem dX7_init_8 : decode cX7_init 8 = .ok (.putfield 9, 3) := by decide +kernel
theorem dX7_init_11 : decode cX7_init 11 = .ok (.aload_n 0, 1) := by decide +kernel
theorem dX7_init_12 : decode cX7_init 12 = .ok (.iconst 4, 1) := by decide +kernel
theorem dX7_init_13 : decode cX7_init 13 = .ok (.newarray .int, 2) := by decide +kernel
theorem dX7_init_15 : decode cX7_init 15 = .ok (.putfield 15, 3) := by decide +kernel
theorem dX7_init_18 : decode cX7_init 18 = .ok (.aload_n 0, 1) := by decide +kernel
theorem dX7_init_19 : decode cX7_init 19 = .ok (.iconst 0, 1) := by decide +kernel
theorem dX7_init_20 : decode cX7_init 20 = .ok (.putfield 18, 3) := by decide +kernel
theorem dX7_init_23 : decode cX7_init 23 = .ok (.return_, 1) := by decide +kernel
theorem dX7_countAll_0 : decode cX7_countAll 0 = .ok (.aload_n 0, 1) := by decide +kernel
theorem dX7_countAll_1 : decode cX7_countAll 1 = .ok (.aload_n 1, 1) := by decide +kernel
theorem dX7_countAll_2 : decode cX7_countAll 2 = .ok (.invokevirtual 22, 3) := by decide +kernel
theorem dX7_countAll_5 : decode cX7_countAll 5 = .ok (.istore_n 2, 1) := by decide +kernel
theorem dX7_countAll_6 : decode cX7_countAll 6 = .ok (.iconst 0, 1) := by decide +kernel
theorem dX7_countAll_7 : decode cX7_countAll 7 = .ok (.istore_n 3, 1) := by decide +kernel
theorem dX7_countAll_8 : decode cX7_countAll 8 = .ok (.iconst 0, 1) := by decide +kernel
theorem dX7_countAll_9 : decode cX7_countAll 9 = .ok (.istore 4, 2) := by decide +kernel
theorem dX7_countAll_11 : decode cX7_countAll 11 = .ok (.iload 4, 2) := by decide +kernel
theorem dX7_countAll_13 : decode cX7_countAll 13 = .ok (.iload_n 2, 1) := by decide +kernel
theorem dX7_countAll_14 : decode cX7_countAll 14 = .ok (.if_icmp .ge 25, 3) := by decide +kernel
theorem dX7_countAll_17 : decode cX7_countAll 17 = .ok (.aload_n 0, 1) := by decide +kernel
theorem dX7_countAll_18 : decode cX7_countAll 18 = .ok (.aload_n 1, 1) := by decide +kernel
theorem dX7_countAll_19 : decode cX7_countAll 19 = .ok (.invokevirtual 26, 3) := by decide +kernel
theorem dX7_countAll_22 : decode cX7_countAll 22 = .ok (.ifCond .eq 6, 3) := by decide +kernel
theorem dX7_countAll_25 : decode cX7_countAll 25 = .ok (.iinc 3 1, 3) := by decide +kernel
theorem dX7_countAll_28 : decode cX7_countAll 28 = .ok (.aload_n 0, 1) := by decide +kernel
theorem dX7_countAll_29 : decode cX7_countAll 29 = .ok (.aload_n 1, 1) := by decide +kernel
theorem dX7_countAll_30 : decode cX7_countAll 30 = .ok (.invokevirtual 30, 3) := by decide +kernel
theorem dX7_countAll_33 : decode cX7_countAll 33 = .ok (.iinc 4 1, 3) := by decide +kernel
theorem dX7_countAll_36 : decode cX7_countAll 36 = .ok (.goto (-25), 3) := by decide +kernel
theorem dX7_countAll_39 : decode cX7_countAll 39 = .ok (.iload_n 3, 1) := by decide +kernel
theorem dX7_countAll_40 : decode cX7_countAll 40 = .ok (.ireturn, 1) := by decide +kernel
theorem dX7_countWithTotal_0 : decode cX7_countWithTotal 0 = .ok (.aload_n 0, 1) := by decide +kernel
theorem dX7_countWithTotal_1 : decode cX7_countWithTotal 1 = .ok (.aload_n 1, 1) := by decide +kernel
theorem dX7_countWithTotal_2 : decode cX7_countWithTotal 2 = .ok (.invokevirtual 22, 3) := by decide +kernel
theorem dX7_countWithTotal_5 : decode cX7_countWithTotal 5 = .ok (.istore_n 3, 1) := by decide +kernel
theorem dX7_countWithTotal_6 : decode cX7_countWithTotal 6 = .ok (.iconst 0, 1) := by decide +kernel
theorem dX7_countWithTotal_7 : decode cX7_countWithTotal 7 = .ok (.istore 4, 2) := by decide +kernel
theorem dX7_countWithTotal_9 : decode cX7_countWithTotal 9 = .ok (.iconst 0, 1) := by decide +kernel
theorem dX7_countWithTotal_10 : decode cX7_countWithTotal 10 = .ok (.istore 5, 2) := by decide +kernel
theorem dX7_countWithTotal_12 : decode cX7_countWithTotal 12 = .ok (.iload 5, 2) := by decide +kernel
theorem dX7_countWithTotal_14 : decode cX7_countWithTotal 14 = .ok (.iload_n 3, 1) := by decide +kernel
theorem dX7_countWithTotal_15 : decode cX7_countWithTotal 15 = .ok (.if_icmp .ge 33, 3) := by decide +kernel
theorem dX7_countWithTotal_18 : decode cX7_countWithTotal 18 = .ok (.aload_n 0, 1) := by decide +kernel
theorem dX7_countWithTotal_19 : decode cX7_countWithTotal 19 = .ok (.aload_n 1, 1) := by decide +kernel
theorem dX7_countWithTotal_20 : decode cX7_countWithTotal 20 = .ok (.invokevirtual 26, 3) := by decide +kernel
theorem dX7_countWithTotal_23 : decode cX7_countWithTotal 23 = .ok (.ifCond .eq 14, 3) := by decide +kernel
theorem dX7_countWithTotal_26 : decode cX7_countWithTotal 26 = .ok (.aload_n 0, 1) := by decide +kernel
theorem dX7_countWithTotal_27 : decode cX7_countWithTotal 27 = .ok (.getfield 18, 3) := by decide +kernel
theorem dX7_countWithTotal_30 : decode cX7_countWithTotal 30 = .ok (.iload_n 2, 1) := by decide +kernel
theorem dX7_countWithTotal_31 : decode cX7_countWithTotal 31 = .ok (.if_icmp .ne 6, 3) := by decide +kernel
theorem dX7_countWithTotal_34 : decode cX7_countWithTotal 34 = .ok (.iinc 4 1, 3) := by decide +kernel
theorem dX7_countWithTotal_37 : decode cX7_countWithTotal 37 = .ok (.aload_n 0, 1) := by decide +kernel
theorem dX7_countWithTotal_38 : decode cX7_countWithTotal 38 = .ok (.aload_n 1, 1) := by decide +kernel
theorem dX7_countWithTotal_39 : decode cX7_countWithTotal 39 = .ok (.invokevirtual 30, 3) := by decide +kernel
theorem dX7_countWithTotal_42 : decode cX7_countWithTotal 42 = .ok (.iinc 5 1, 3) := by decide +kernel
theorem dX7_countWithTotal_45 : decode cX7_countWithTotal 45 = .ok (.goto (-33), 3) := by decide +kernel
theorem dX7_countWithTotal_48 : decode cX7_countWithTotal 48 = .ok (.iload 4, 2) := by decide +kernel
theorem dX7_countWithTotal_50 : decode cX7_countWithTotal 50 = .ok (.ireturn, 1) := by decide +kernel
theorem dX7_firstFrom_0 : decode cX7_firstFrom 0 = .ok (.aload_n 0, 1) := by decide +kernel
theorem dX7_firstFrom_1 : decode cX7_firstFrom 1 = .ok (.aload_n 1, 1) := by decide +kernel
theorem dX7_firstFrom_2 : decode cX7_firstFrom 2 = .ok (.invokevirtual 22, 3) := by decide +kernel
theorem dX7_firstFrom_5 : decode cX7_firstFrom 5 = .ok (.istore_n 3, 1) := by decide +kernel
theorem dX7_firstFrom_6 : decode cX7_firstFrom 6 = .ok (.iconst 0, 1) := by decide +kernel
theorem dX7_firstFrom_7 : decode cX7_firstFrom 7 = .ok (.istore 4, 2) := by decide +kernel
theorem dX7_firstFrom_9 : decode cX7_firstFrom 9 = .ok (.iload 4, 2) := by decide +kernel
theorem dX7_firstFrom_11 : decode cX7_firstFrom 11 = .ok (.iload_n 3, 1) := by decide +kernel
theorem dX7_firstFrom_12 : decode cX7_firstFrom 12 = .ok (.if_icmp .ge 31, 3) := by decide +kernel
theorem dX7_firstFrom_15 : decode cX7_firstFrom 15 = .ok (.iload 4, 2) := by decide +kernel
theorem dX7_firstFrom_17 : decode cX7_firstFrom 17 = .ok (.iload_n 2, 1) := by decide +kernel
theorem dX7_firstFrom_18 : decode cX7_firstFrom 18 = .ok (.if_icmp .lt 14, 3) := by decide +kernel
theorem dX7_firstFrom_21 : decode cX7_firstFrom 21 = .ok (.aload_n 0, 1) := by decide +kernel
theorem dX7_firstFrom_22 : decode cX7_firstFrom 22 = .ok (.aload_n 1, 1) := by decide +kernel
theorem dX7_firstFrom_23 : decode cX7_firstFrom 23 = .ok (.invokevirtual 26, 3) := by decide +kernel
theorem dX7_firstFrom_26 : decode cX7_firstFrom 26 = .ok (.ifCond .eq 6, 3) := by decide +kernel
theorem dX7_firstFrom_29 : decode cX7_firstFrom 29 = .ok (.iload 4, 2) := by decide +kernel
theorem dX7_firstFrom_31 : decode cX7_firstFrom 31 = .ok (.ireturn, 1) := by decide +kernel
theorem dX7_firstFrom_32 : decode cX7_firstFrom 32 = .ok (.aload_n 0, 1) := by decide +kernel
theorem dX7_firstFrom_33 : decode cX7_firstFrom 33 = .ok (.aload_n 1, 1) := by decide +kernel
theorem dX7_firstFrom_34 : decode cX7_firstFrom 34 = .ok (.invokevirtual 30, 3) := by decide +kernel
theorem dX7_firstFrom_37 : decode cX7_firstFrom 37 = .ok (.iinc 4 1, 3) := by decide +kernel
theorem dX7_firstFrom_40 : decode cX7_firstFrom 40 = .ok (.goto (-31), 3) := by decide +kernel
theorem dX7_firstFrom_43 : decode cX7_firstFrom 43 = .ok (.bipush (-4), 2) := by decide +kernel
theorem dX7_firstFrom_45 : decode cX7_firstFrom 45 = .ok (.ireturn, 1) := by decide +kernel
theorem dX7_startAtFirst_0 : decode cX7_startAtFirst 0 = .ok (.iconst 1, 1) := by decide +kernel
theorem dX7_startAtFirst_1 : decode cX7_startAtFirst 1 = .ok (.istore_n 2, 1) := by decide +kernel
theorem dX7_startAtFirst_2 : decode cX7_startAtFirst 2 = .ok (.iconst 0, 1) := by decide +kernel
theorem dX7_startAtFirst_3 : decode cX7_startAtFirst 3 = .ok (.istore_n 3, 1) := by decide +kernel
theorem dX7_startAtFirst_4 : decode cX7_startAtFirst 4 = .ok (.iload_n 3, 1) := by decide +kernel
theorem dX7_startAtFirst_5 : decode cX7_startAtFirst 5 = .ok (.iconst 4, 1) := by decide +kernel
theorem dX7_startAtFirst_6 : decode cX7_startAtFirst 6 = .ok (.if_icmp .ge 37, 3) := by decide +kernel
theorem dX7_startAtFirst_9 : decode cX7_startAtFirst 9 = .ok (.aload_n 0, 1) := by decide +kernel
theorem dX7_startAtFirst_10 : decode cX7_startAtFirst 10 = .ok (.getfield 9, 3) := by decide +kernel
theorem dX7_startAtFirst_13 : decode cX7_startAtFirst 13 = .ok (.iload_n 3, 1) := by decide +kernel
theorem dX7_startAtFirst_14 : decode cX7_startAtFirst 14 = .ok (.iconst 0, 1) := by decide +kernel
theorem dX7_startAtFirst_15 : decode cX7_startAtFirst 15 = .ok (.iastore, 1) := by decide +kernel
theorem dX7_startAtFirst_16 : decode cX7_startAtFirst 16 = .ok (.iload_n 3, 1) := by decide +kernel
theorem dX7_startAtFirst_17 : decode cX7_startAtFirst 17 = .ok (.aload_n 1, 1) := by decide +kernel
theorem dX7_startAtFirst_18 : decode cX7_startAtFirst 18 = .ok (.getfield 34, 3) := by decide +kernel
theorem dX7_startAtFirst_21 : decode cX7_startAtFirst 21 = .ok (.getfield 40, 3) := by decide +kernel
theorem dX7_startAtFirst_24 : decode cX7_startAtFirst 24 = .ok (.if_icmp .ge 13, 3) := by decide +kernel
theorem dX7_startAtFirst_27 : decode cX7_startAtFirst 27 = .ok (.iload_n 2, 1) := by decide +kernel
theorem dX7_startAtFirst_28 : decode cX7_startAtFirst 28 = .ok (.aload_n 1, 1) := by decide +kernel
theorem dX7_startAtFirst_29 : decode cX7_startAtFirst 29 = .ok (.getfield 45, 3) := by decide +kernel
theorem dX7_startAtFirst_32 : decode cX7_startAtFirst 32 = .ok (.getfield 49, 3) := by decide +kernel
theorem dX7_startAtFirst_35 : decode cX7_startAtFirst 35 = .ok (.imul, 1) := by decide +kernel
theorem dX7_startAtFirst_36 : decode cX7_startAtFirst 36 = .ok (.istore_n 2, 1) := by decide +kernel
theorem dX7_startAtFirst_37 : decode cX7_startAtFirst 37 = .ok (.iinc 3 1, 3) := by decide +kernel
theorem dX7_startAtFirst_40 : decode cX7_startAtFirst 40 = .ok (.goto (-36), 3) := by decide +kernel
theorem dX7_startAtFirst_43 : decode cX7_startAtFirst 43 = .ok (.iload_n 2, 1) := by decide +kernel
theorem dX7_startAtFirst_44 : decode cX7_startAtFirst 44 = .ok (.ireturn, 1) := by decide +kernel
theorem dX7_advance_0 : decode cX7_advance 0 = .ok (.aload_n 1, 1) := by decide +kernel
theorem dX7_advance_1 : decode cX7_advance 1 = .ok (.getfield 34, 3) := by decide +kernel
theorem dX7_advance_4 : decode cX7_advance 4 = .ok (.getfield 40, 3) := by decide +kernel
theorem dX7_advance_7 : decode cX7_advance 7 = .ok (.iconst 4, 1) := by decide +kernel
theorem dX7_advance_8 : decode cX7_advance 8 = .ok (.invokestatic 54, 3) := by decide +kernel
theorem dX7_advance_11 : decode cX7_advance 11 = .ok (.iconst 1, 1) := by decide +kernel
theorem dX7_advance_12 : decode cX7_advance 12 = .ok (.isub, 1) := by decide +kernel
theorem dX7_advance_13 : decode cX7_advance 13 = .ok (.istore_n 2, 1) := by decide +kernel
theorem dX7_advance_14 : decode cX7_advance 14 = .ok (.iload_n 2, 1) := by decide +kernel
theorem dX7_advance_15 : decode cX7_advance 15 = .ok (.ifCond .lt 43, 3) := by decide +kernel
theorem dX7_advance_18 : decode cX7_advance 18 = .ok (.aload_n 0, 1) := by decide +kernel
theorem dX7_advance_19 : decode cX7_advance 19 = .ok (.getfield 9, 3) := by decide +kernel
theorem dX7_advance_22 : decode cX7_advance 22 = .ok (.iload_n 2, 1) := by decide +kernel
theorem dX7_advance_23 : decode cX7_advance 23 = .ok (.dup2, 1) := by decide +kernel
theorem dX7_advance_24 : decode cX7_advance 24 = .ok (.iaload, 1) := by decide +kernel
theorem dX7_advance_25 : decode cX7_advance 25 = .ok (.iconst 1, 1) := by decide +kernel
theorem dX7_advance_26 : decode cX7_advance 26 = .ok (.iadd, 1) := by decide +kernel
theorem dX7_advance_27 : decode cX7_advance 27 = .ok (.iastore, 1) := by decide +kernel
theorem dX7_advance_28 : decode cX7_advance 28 = .ok (.aload_n 0, 1) := by decide +kernel
theorem dX7_advance_29 : decode cX7_advance 29 = .ok (.getfield 9, 3) := by decide +kernel
theorem dX7_advance_32 : decode cX7_advance 32 = .ok (.iload_n 2, 1) := by decide +kernel
theorem dX7_advance_33 : decode cX7_advance 33 = .ok (.iaload, 1) := by decide +kernel
theorem dX7_advance_34 : decode cX7_advance 34 = .ok (.aload_n 1, 1) := by decide +kernel
theorem dX7_advance_35 : decode cX7_advance 35 = .ok (.getfield 45, 3) := by decide +kernel
theorem dX7_advance_38 : decode cX7_advance 38 = .ok (.getfield 49, 3) := by decide +kernel
theorem dX7_advance_41 : decode cX7_advance 41 = .ok (.if_icmp .ge 4, 3) := by decide +kernel
theorem dX7_advance_44 : decode cX7_advance 44 = .ok (.return_, 1) := by decide +kernel
theorem dX7_advance_45 : decode cX7_advance 45 = .ok (.aload_n 0, 1) := by decide +kernel
theorem dX7_advance_46 : decode cX7_advance 46 = .ok (.getfield 9, 3) := by decide +kernel
theorem dX7_advance_49 : decode cX7_advance 49 = .ok (.iload_n 2, 1) := by decide +kernel
theorem dX7_advance_50 : decode cX7_advance 50 = .ok (.iconst 0, 1) := by decide +kernel
theorem dX7_advance_51 : decode cX7_advance 51 = .ok (.iastore, 1) := by decide +kernel
theorem dX7_advance_52 : decode cX7_advance 52 = .ok (.iinc 2 (-1), 3) := by decide +kernel
theorem dX7_advance_55 : decode cX7_advance 55 = .ok (.goto (-41), 3) := by decide +kernel
theorem dX7_advance_58 : decode cX7_advance 58 = .ok (.return_, 1) := by decide +kernel
theorem dX7_closes_0 : decode cX7_closes 0 = .ok (.iconst 0, 1) := by decide +kernel
theorem dX7_closes_1 : decode cX7_closes 1 = .ok (.istore_n 2, 1) := by decide +kernel
theorem dX7_closes_2 : decode cX7_closes 2 = .ok (.iload_n 2, 1) := by decide +kernel
theorem dX7_closes_3 : decode cX7_closes 3 = .ok (.iconst 4, 1) := by decide +kernel
theorem dX7_closes_4 : decode cX7_closes 4 = .ok (.if_icmp .ge 21, 3) := by decide +kernel
theorem dX7_closes_7 : decode cX7_closes 7 = .ok (.aload_n 0, 1) := by decide +kernel
theorem dX7_closes_8 : decode cX7_closes 8 = .ok (.getfield 15, 3) := by decide +kernel
theorem dX7_closes_11 : decode cX7_closes 11 = .ok (.iload_n 2, 1) := by decide +kernel
theorem dX7_closes_12 : decode cX7_closes 12 = .ok (.aload_n 0, 1) := by decide +kernel
theorem dX7_closes_13 : decode cX7_closes 13 = .ok (.getfield 9, 3) := by decide +kernel
theorem dX7_closes_16 : decode cX7_closes 16 = .ok (.iload_n 2, 1) := by decide +kernel
theorem dX7_closes_17 : decode cX7_closes 17 = .ok (.iaload, 1) := by decide +kernel
theorem dX7_closes_18 : decode cX7_closes 18 = .ok (.iastore, 1) := by decide +kernel
theorem dX7_closes_19 : decode cX7_closes 19 = .ok (.iinc 2 1, 3) := by decide +kernel
theorem dX7_closes_22 : decode cX7_closes 22 = .ok (.goto (-20), 3) := by decide +kernel
theorem dX7_closes_25 : decode cX7_closes 25 = .ok (.aload_n 0, 1) := by decide +kernel
theorem dX7_closes_26 : decode cX7_closes 26 = .ok (.iconst 0, 1) := by decide +kernel
theorem dX7_closes_27 : decode cX7_closes 27 = .ok (.putfield 18, 3) := by decide +kernel
theorem dX7_closes_30 : decode cX7_closes 30 = .ok (.iconst 0, 1) := by decide +kernel
theorem dX7_closes_31 : decode cX7_closes 31 = .ok (.istore_n 2, 1) := by decide +kernel
theorem dX7_closes_32 : decode cX7_closes 32 = .ok (.iload_n 2, 1) := by decide +kernel
theorem dX7_closes_33 : decode cX7_closes 33 = .ok (.aload_n 1, 1) := by decide +kernel
theorem dX7_closes_34 : decode cX7_closes 34 = .ok (.getfield 34, 3) := by decide +kernel
theorem dX7_closes_37 : decode cX7_closes 37 = .ok (.getfield 60, 3) := by decide +kernel
theorem dX7_closes_40 : decode cX7_closes 40 = .ok (.if_icmp .ge 22, 3) := by decide +kernel
theorem dX7_closes_43 : decode cX7_closes 43 = .ok (.aload_n 0, 1) := by decide +kernel
theorem dX7_closes_44 : decode cX7_closes 44 = .ok (.aload_n 1, 1) := by decide +kernel
theorem dX7_closes_45 : decode cX7_closes 45 = .ok (.aload_n 1, 1) := by decide +kernel
theorem dX7_closes_46 : decode cX7_closes 46 = .ok (.getfield 34, 3) := by decide +kernel
theorem dX7_closes_49 : decode cX7_closes 49 = .ok (.iload_n 2, 1) := by decide +kernel
theorem dX7_closes_50 : decode cX7_closes 50 = .ok (.invokevirtual 63, 3) := by decide +kernel
theorem dX7_closes_53 : decode cX7_closes 53 = .ok (.invokevirtual 67, 3) := by decide +kernel
theorem dX7_closes_56 : decode cX7_closes 56 = .ok (.iinc 2 1, 3) := by decide +kernel
theorem dX7_closes_59 : decode cX7_closes 59 = .ok (.goto (-27), 3) := by decide +kernel
theorem dX7_closes_62 : decode cX7_closes 62 = .ok (.iconst 0, 1) := by decide +kernel
theorem dX7_closes_63 : decode cX7_closes 63 = .ok (.istore_n 2, 1) := by decide +kernel
theorem dX7_closes_64 : decode cX7_closes 64 = .ok (.iload_n 2, 1) := by decide +kernel
theorem dX7_closes_65 : decode cX7_closes 65 = .ok (.iconst 4, 1) := by decide +kernel
theorem dX7_closes_66 : decode cX7_closes 66 = .ok (.if_icmp .ge 26, 3) := by decide +kernel
theorem dX7_closes_69 : decode cX7_closes 69 = .ok (.aload_n 0, 1) := by decide +kernel
theorem dX7_closes_70 : decode cX7_closes 70 = .ok (.getfield 15, 3) := by decide +kernel
theorem dX7_closes_73 : decode cX7_closes 73 = .ok (.iload_n 2, 1) := by decide +kernel
theorem dX7_closes_74 : decode cX7_closes 74 = .ok (.iaload, 1) := by decide +kernel
theorem dX7_closes_75 : decode cX7_closes 75 = .ok (.aload_n 0, 1) := by decide +kernel
theorem dX7_closes_76 : decode cX7_closes 76 = .ok (.getfield 9, 3) := by decide +kernel
theorem dX7_closes_79 : decode cX7_closes 79 = .ok (.iload_n 2, 1) := by decide +kernel
theorem dX7_closes_80 : decode cX7_closes 80 = .ok (.iaload, 1) := by decide +kernel
theorem dX7_closes_81 : decode cX7_closes 81 = .ok (.if_icmp .eq 5, 3) := by decide +kernel
theorem dX7_closes_84 : decode cX7_closes 84 = .ok (.iconst 0, 1) := by decide +kernel
theorem dX7_closes_85 : decode cX7_closes 85 = .ok (.ireturn, 1) := by decide +kernel
theorem dX7_closes_86 : decode cX7_closes 86 = .ok (.iinc 2 1, 3) := by decide +kernel
theorem dX7_closes_89 : decode cX7_closes 89 = .ok (.goto (-25), 3) := by decide +kernel
theorem dX7_closes_92 : decode cX7_closes 92 = .ok (.iconst 1, 1) := by decide +kernel
theorem dX7_closes_93 : decode cX7_closes 93 = .ok (.ireturn, 1) := by decide +kernel
theorem dX7_pass_0 : decode cX7_pass 0 = .ok (.iload_n 2, 1) := by decide +kernel
theorem dX7_pass_1 : decode cX7_pass 1 = .ok (.invokestatic 71, 3) := by decide +kernel
theorem dX7_pass_4 : decode cX7_pass 4 = .ok (.istore_n 3, 1) := by decide +kernel
theorem dX7_pass_5 : decode cX7_pass 5 = .ok (.iload_n 3, 1) := by decide +kernel
theorem dX7_pass_6 : decode cX7_pass 6 = .ok (.iconst 1, 1) := by decide +kernel
theorem dX7_pass_7 : decode cX7_pass 7 = .ok (.if_icmp .lt 8, 3) := by decide +kernel
theorem dX7_pass_10 : decode cX7_pass 10 = .ok (.iload_n 3, 1) := by decide +kernel
theorem dX7_pass_11 : decode cX7_pass 11 = .ok (.iconst 4, 1) := by decide +kernel
theorem dX7_pass_12 : decode cX7_pass 12 = .ok (.if_icmp .lt 4, 3) := by decide +kernel
theorem dX7_pass_15 : decode cX7_pass 15 = .ok (.return_, 1) := by decide +kernel
theorem dX7_pass_16 : decode cX7_pass 16 = .ok (.aload_n 0, 1) := by decide +kernel
theorem dX7_pass_17 : decode cX7_pass 17 = .ok (.getfield 15, 3) := by decide +kernel
theorem dX7_pass_20 : decode cX7_pass 20 = .ok (.iload_n 3, 1) := by decide +kernel
theorem dX7_pass_21 : decode cX7_pass 21 = .ok (.iconst 1, 1) := by decide +kernel
theorem dX7_pass_22 : decode cX7_pass 22 = .ok (.isub, 1) := by decide +kernel
theorem dX7_pass_23 : decode cX7_pass 23 = .ok (.iaload, 1) := by decide +kernel
theorem dX7_pass_24 : decode cX7_pass 24 = .ok (.istore 4, 2) := by decide +kernel
theorem dX7_pass_26 : decode cX7_pass 26 = .ok (.aload_n 0, 1) := by decide +kernel
theorem dX7_pass_27 : decode cX7_pass 27 = .ok (.getfield 15, 3) := by decide +kernel
theorem dX7_pass_30 : decode cX7_pass 30 = .ok (.iload_n 3, 1) := by decide +kernel
theorem dX7_pass_31 : decode cX7_pass 31 = .ok (.iaload, 1) := by decide +kernel
theorem dX7_pass_32 : decode cX7_pass 32 = .ok (.istore 5, 2) := by decide +kernel
theorem dX7_pass_34 : decode cX7_pass 34 = .ok (.iload_n 2, 1) := by decide +kernel
theorem dX7_pass_35 : decode cX7_pass 35 = .ok (.ifCond .le 62, 3) := by decide +kernel
theorem dX7_pass_38 : decode cX7_pass 38 = .ok (.aload_n 0, 1) := by decide +kernel
theorem dX7_pass_39 : decode cX7_pass 39 = .ok (.aload_n 1, 1) := by decide +kernel
theorem dX7_pass_40 : decode cX7_pass 40 = .ok (.getfield 74, 3) := by decide +kernel
theorem dX7_pass_43 : decode cX7_pass 43 = .ok (.aload_n 0, 1) := by decide +kernel
theorem dX7_pass_44 : decode cX7_pass 44 = .ok (.getfield 18, 3) := by decide +kernel
theorem dX7_pass_47 : decode cX7_pass 47 = .ok (.aload_n 1, 1) := by decide +kernel
theorem dX7_pass_48 : decode cX7_pass 48 = .ok (.getfield 74, 3) := by decide +kernel
theorem dX7_pass_51 : decode cX7_pass 51 = .ok (.getfield 78, 3) := by decide +kernel
theorem dX7_pass_54 : decode cX7_pass 54 = .ok (.iload 4, 2) := by decide +kernel
theorem dX7_pass_56 : decode cX7_pass 56 = .ok (.iload 5, 2) := by decide +kernel
theorem dX7_pass_58 : decode cX7_pass 58 = .ok (.invokevirtual 84, 3) := by decide +kernel
theorem dX7_pass_61 : decode cX7_pass 61 = .ok (.invokevirtual 89, 3) := by decide +kernel
theorem dX7_pass_64 : decode cX7_pass 64 = .ok (.putfield 18, 3) := by decide +kernel
theorem dX7_pass_67 : decode cX7_pass 67 = .ok (.aload_n 0, 1) := by decide +kernel
theorem dX7_pass_68 : decode cX7_pass 68 = .ok (.getfield 15, 3) := by decide +kernel
theorem dX7_pass_71 : decode cX7_pass 71 = .ok (.iload_n 3, 1) := by decide +kernel
theorem dX7_pass_72 : decode cX7_pass 72 = .ok (.iconst 1, 1) := by decide +kernel
theorem dX7_pass_73 : decode cX7_pass 73 = .ok (.isub, 1) := by decide +kernel
theorem dX7_pass_74 : decode cX7_pass 74 = .ok (.iload 5, 2) := by decide +kernel
theorem dX7_pass_76 : decode cX7_pass 76 = .ok (.iastore, 1) := by decide +kernel
theorem dX7_pass_77 : decode cX7_pass 77 = .ok (.aload_n 0, 1) := by decide +kernel
theorem dX7_pass_78 : decode cX7_pass 78 = .ok (.getfield 15, 3) := by decide +kernel
theorem dX7_pass_81 : decode cX7_pass 81 = .ok (.iload_n 3, 1) := by decide +kernel
theorem dX7_pass_82 : decode cX7_pass 82 = .ok (.aload_n 1, 1) := by decide +kernel
theorem dX7_pass_83 : decode cX7_pass 83 = .ok (.getfield 45, 3) := by decide +kernel
theorem dX7_pass_86 : decode cX7_pass 86 = .ok (.iload 4, 2) := by decide +kernel
theorem dX7_pass_88 : decode cX7_pass 88 = .ok (.iload 5, 2) := by decide +kernel
theorem dX7_pass_90 : decode cX7_pass 90 = .ok (.invokevirtual 92, 3) := by decide +kernel
theorem dX7_pass_93 : decode cX7_pass 93 = .ok (.iastore, 1) := by decide +kernel
theorem dX7_pass_94 : decode cX7_pass 94 = .ok (.goto 63, 3) := by decide +kernel
theorem dX7_pass_97 : decode cX7_pass 97 = .ok (.aload_n 1, 1) := by decide +kernel
theorem dX7_pass_98 : decode cX7_pass 98 = .ok (.getfield 45, 3) := by decide +kernel
theorem dX7_pass_101 : decode cX7_pass 101 = .ok (.iload 5, 2) := by decide +kernel
theorem dX7_pass_103 : decode cX7_pass 103 = .ok (.iload 4, 2) := by decide +kernel
theorem dX7_pass_105 : decode cX7_pass 105 = .ok (.invokevirtual 95, 3) := by decide +kernel
theorem dX7_pass_108 : decode cX7_pass 108 = .ok (.istore 6, 2) := by decide +kernel
theorem dX7_pass_110 : decode cX7_pass 110 = .ok (.aload_n 0, 1) := by decide +kernel
theorem dX7_pass_111 : decode cX7_pass 111 = .ok (.aload_n 1, 1) := by decide +kernel
theorem dX7_pass_112 : decode cX7_pass 112 = .ok (.getfield 74, 3) := by decide +kernel
theorem dX7_pass_115 : decode cX7_pass 115 = .ok (.aload_n 0, 1) := by decide +kernel
theorem dX7_pass_116 : decode cX7_pass 116 = .ok (.getfield 18, 3) := by decide +kernel
theorem dX7_pass_119 : decode cX7_pass 119 = .ok (.aload_n 1, 1) := by decide +kernel
theorem dX7_pass_120 : decode cX7_pass 120 = .ok (.getfield 74, 3) := by decide +kernel
theorem dX7_pass_123 : decode cX7_pass 123 = .ok (.getfield 78, 3) := by decide +kernel
theorem dX7_pass_126 : decode cX7_pass 126 = .ok (.iload 6, 2) := by decide +kernel
theorem dX7_pass_128 : decode cX7_pass 128 = .ok (.iload 4, 2) := by decide +kernel
theorem dX7_pass_130 : decode cX7_pass 130 = .ok (.invokevirtual 84, 3) := by decide +kernel
theorem dX7_pass_133 : decode cX7_pass 133 = .ok (.invokevirtual 98, 3) := by decide +kernel
theorem dX7_pass_136 : decode cX7_pass 136 = .ok (.putfield 18, 3) := by decide +kernel
theorem dX7_pass_139 : decode cX7_pass 139 = .ok (.aload_n 0, 1) := by decide +kernel
theorem dX7_pass_140 : decode cX7_pass 140 = .ok (.getfield 15, 3) := by decide +kernel
theorem dX7_pass_143 : decode cX7_pass 143 = .ok (.iload_n 3, 1) := by decide +kernel
theorem dX7_pass_144 : decode cX7_pass 144 = .ok (.iconst 1, 1) := by decide +kernel
theorem dX7_pass_145 : decode cX7_pass 145 = .ok (.isub, 1) := by decide +kernel
theorem dX7_pass_146 : decode cX7_pass 146 = .ok (.iload 6, 2) := by decide +kernel
theorem dX7_pass_148 : decode cX7_pass 148 = .ok (.iastore, 1) := by decide +kernel
theorem dX7_pass_149 : decode cX7_pass 149 = .ok (.aload_n 0, 1) := by decide +kernel
theorem dX7_pass_150 : decode cX7_pass 150 = .ok (.getfield 15, 3) := by decide +kernel
theorem dX7_pass_153 : decode cX7_pass 153 = .ok (.iload_n 3, 1) := by decide +kernel
theorem dX7_pass_154 : decode cX7_pass 154 = .ok (.iload 4, 2) := by decide +kernel
theorem dX7_pass_156 : decode cX7_pass 156 = .ok (.iastore, 1) := by decide +kernel
theorem dX7_pass_157 : decode cX7_pass 157 = .ok (.return_, 1) := by decide +kernel
theorem dX8_init_0 : decode cX8_init 0 = .ok (.aload_n 0, 1) := by decide +kernel
theorem dX8_init_1 : decode cX8_init 1 = .ok (.invokespecial 3, 3) := by decide +kernel
theorem dX8_init_4 : decode cX8_init 4 = .ok (.aload_n 0, 1) := by decide +kernel
theorem dX8_init_5 : decode cX8_init 5 = .ok (.iconst 2, 1) := by decide +kernel
theorem dX8_init_6 : decode cX8_init 6 = .ok (.putfield 9, 3) := by decide +kernel
theorem dX8_init_9 : decode cX8_init 9 = .ok (.aload_n 0, 1) := by decide +kernel
theorem dX8_init_10 : decode cX8_init 10 = .ok (.new 15, 3) := by decide +kernel
theorem dX8_init_13 : decode cX8_init 13 = .ok (.dup, 1) := by decide +kernel
theorem dX8_init_14 : decode cX8_init 14 = .ok (.invokespecial 17, 3) := by decide +kernel
theorem dX8_init_17 : decode cX8_init 17 = .ok (.putfield 18, 3) := by decide +kernel
theorem dX8_init_20 : decode cX8_init 20 = .ok (.return_, 1) := by decide +kernel
theorem dX8_allows_0 : decode cX8_allows 0 = .ok (.iload_n 1, 1) := by decide +kernel
theorem dX8_allows_1 : decode cX8_allows 1 = .ok (.ifCond .lt 15, 3) := by decide +kernel
theorem dX8_allows_4 : decode cX8_allows 4 = .ok (.iload_n 1, 1) := by decide +kernel
theorem dX8_allows_5 : decode cX8_allows 5 = .ok (.aload_n 0, 1) := by decide +kernel
theorem dX8_allows_6 : decode cX8_allows 6 = .ok (.getfield 9, 3) := by decide +kernel
theorem dX8_allows_9 : decode cX8_allows 9 = .ok (.if_icmp .ge 7, 3) := by decide +kernel
theorem dX8_allows_12 : decode cX8_allows 12 = .ok (.iconst 1, 1) := by decide +kernel
theorem dX8_allows_13 : decode cX8_allows 13 = .ok (.goto 4, 3) := by decide +kernel
theorem dX8_allows_16 : decode cX8_allows 16 = .ok (.iconst 0, 1) := by decide +kernel
theorem dX8_allows_17 : decode cX8_allows 17 = .ok (.ireturn, 1) := by decide +kernel
theorem dX8_plus_0 : decode cX8_plus 0 = .ok (.iload_n 1, 1) := by decide +kernel
theorem dX8_plus_1 : decode cX8_plus 1 = .ok (.iload_n 2, 1) := by decide +kernel
theorem dX8_plus_2 : decode cX8_plus 2 = .ok (.iadd, 1) := by decide +kernel
theorem dX8_plus_3 : decode cX8_plus 3 = .ok (.aload_n 0, 1) := by decide +kernel
theorem dX8_plus_4 : decode cX8_plus 4 = .ok (.getfield 9, 3) := by decide +kernel
theorem dX8_plus_7 : decode cX8_plus 7 = .ok (.if_icmp .lt 14, 3) := by decide +kernel
theorem dX8_plus_10 : decode cX8_plus 10 = .ok (.iload_n 1, 1) := by decide +kernel
theorem dX8_plus_11 : decode cX8_plus 11 = .ok (.iload_n 2, 1) := by decide +kernel
theorem dX8_plus_12 : decode cX8_plus 12 = .ok (.iadd, 1) := by decide +kernel
theorem dX8_plus_13 : decode cX8_plus 13 = .ok (.aload_n 0, 1) := by decide +kernel
theorem dX8_plus_14 : decode cX8_plus 14 = .ok (.getfield 9, 3) := by decide +kernel
theorem dX8_plus_17 : decode cX8_plus 17 = .ok (.isub, 1) := by decide +kernel
theorem dX8_plus_18 : decode cX8_plus 18 = .ok (.goto 6, 3) := by decide +kernel
theorem dX8_plus_21 : decode cX8_plus 21 = .ok (.iload_n 1, 1) := by decide +kernel
theorem dX8_plus_22 : decode cX8_plus 22 = .ok (.iload_n 2, 1) := by decide +kernel
theorem dX8_plus_23 : decode cX8_plus 23 = .ok (.iadd, 1) := by decide +kernel
theorem dX8_plus_24 : decode cX8_plus 24 = .ok (.ireturn, 1) := by decide +kernel
theorem dX8_minus_0 : decode cX8_minus 0 = .ok (.iload_n 1, 1) := by decide +kernel
theorem dX8_minus_1 : decode cX8_minus 1 = .ok (.iload_n 2, 1) := by decide +kernel
theorem dX8_minus_2 : decode cX8_minus 2 = .ok (.if_icmp .ge 14, 3) := by decide +kernel
theorem dX8_minus_5 : decode cX8_minus 5 = .ok (.iload_n 1, 1) := by decide +kernel
theorem dX8_minus_6 : decode cX8_minus 6 = .ok (.iload_n 2, 1) := by decide +kernel
theorem dX8_minus_7 : decode cX8_minus 7 = .ok (.isub, 1) := by decide +kernel
theorem dX8_minus_8 : decode cX8_minus 8 = .ok (.aload_n 0, 1) := by decide +kernel
theorem dX8_minus_9 : decode cX8_minus 9 = .ok (.getfield 9, 3) := by decide +kernel
theorem dX8_minus_12 : decode cX8_minus 12 = .ok (.iadd, 1) := by decide +kernel
theorem dX8_minus_13 : decode cX8_minus 13 = .ok (.goto 6, 3) := by decide +kernel
theorem dX8_minus_16 : decode cX8_minus 16 = .ok (.iload_n 1, 1) := by decide +kernel
theorem dX8_minus_17 : decode cX8_minus 17 = .ok (.iload_n 2, 1) := by decide +kernel
theorem dX8_minus_18 : decode cX8_minus 18 = .ok (.isub, 1) := by decide +kernel
theorem dX8_minus_19 : decode cX8_minus 19 = .ok (.ireturn, 1) := by decide +kernel
theorem dX8_restart_0 : decode cX8_restart 0 = .ok (.aload_n 0, 1) := by decide +kernel
theorem dX8_restart_1 : decode cX8_restart 1 = .ok (.iload_n 1, 1) := by decide +kernel
theorem dX8_restart_2 : decode cX8_restart 2 = .ok (.putfield 9, 3) := by decide +kernel
theorem dX8_restart_5 : decode cX8_restart 5 = .ok (.aload_n 0, 1) := by decide +kernel
theorem dX8_restart_6 : decode cX8_restart 6 = .ok (.getfield 18, 3) := by decide +kernel
theorem dX8_restart_9 : decode cX8_restart 9 = .ok (.invokevirtual 22, 3) := by decide +kernel
theorem dX8_restart_12 : decode cX8_restart 12 = .ok (.return_, 1) := by decide +kernel
theorem dX8_copyFrom_0 : decode cX8_copyFrom 0 = .ok (.aload_n 0, 1) := by decide +kernel
theorem dX8_copyFrom_1 : decode cX8_copyFrom 1 = .ok (.aload_n 1, 1) := by decide +kernel
theorem dX8_copyFrom_2 : decode cX8_copyFrom 2 = .ok (.getfield 9, 3) := by decide +kernel
theorem dX8_copyFrom_5 : decode cX8_copyFrom 5 = .ok (.putfield 9, 3) := by decide +kernel
theorem dX8_copyFrom_8 : decode cX8_copyFrom 8 = .ok (.aload_n 0, 1) := by decide +kernel
theorem dX8_copyFrom_9 : decode cX8_copyFrom 9 = .ok (.getfield 18, 3) := by decide +kernel
theorem dX8_copyFrom_12 : decode cX8_copyFrom 12 = .ok (.aload_n 1, 1) := by decide +kernel
theorem dX8_copyFrom_13 : decode cX8_copyFrom 13 = .ok (.getfield 18, 3) := by decide +kernel
theorem dX8_copyFrom_16 : decode cX8_copyFrom 16 = .ok (.invokevirtual 25, 3) := by decide +kernel
theorem dX8_copyFrom_19 : decode cX8_copyFrom 19 = .ok (.return_, 1) := by decide +kernel
theorem dX8_addBoundary_0 : decode cX8_addBoundary 0 = .ok (.iconst 0, 1) := by decide +kernel
theorem dX8_addBoundary_1 : decode cX8_addBoundary 1 = .ok (.istore 4, 2) := by decide +kernel
theorem dX8_addBoundary_3 : decode cX8_addBoundary 3 = .ok (.iconst 0, 1) := by decide +kernel
theorem dX8_addBoundary_4 : decode cX8_addBoundary 4 = .ok (.istore 5, 2) := by decide +kernel
theorem dX8_addBoundary_6 : decode cX8_addBoundary 6 = .ok (.iload 5, 2) := by decide +kernel
theorem dX8_addBoundary_8 : decode cX8_addBoundary 8 = .ok (.aload_n 1, 1) := by decide +kernel
theorem dX8_addBoundary_9 : decode cX8_addBoundary 9 = .ok (.getfield 29, 3) := by decide +kernel
theorem dX8_addBoundary_12 : decode cX8_addBoundary 12 = .ok (.if_icmp .ge 109, 3) := by decide +kernel
theorem dX8_addBoundary_15 : decode cX8_addBoundary 15 = .ok (.iconst 0, 1) := by decide +kernel
theorem dX8_addBoundary_16 : decode cX8_addBoundary 16 = .ok (.istore 6, 2) := by decide +kernel
theorem dX8_addBoundary_18 : decode cX8_addBoundary 18 = .ok (.iload 6, 2) := by decide +kernel
theorem dX8_addBoundary_20 : decode cX8_addBoundary 20 = .ok (.aload_n 1, 1) := by decide +kernel
theorem dX8_addBoundary_21 : decode cX8_addBoundary 21 = .ok (.getfield 29, 3) := by decide +kernel
theorem dX8_addBoundary_24 : decode cX8_addBoundary 24 = .ok (.if_icmp .ge 91, 3) := by decide +kernel
theorem dX8_addBoundary_27 : decode cX8_addBoundary 27 = .ok (.aload_n 0, 1) := by decide +kernel
theorem dX8_addBoundary_28 : decode cX8_addBoundary 28 = .ok (.getfield 18, 3) := by decide +kernel
theorem dX8_addBoundary_31 : decode cX8_addBoundary 31 = .ok (.iload 5, 2) := by decide +kernel
theorem dX8_addBoundary_33 : decode cX8_addBoundary 33 = .ok (.iload 6, 2) := by decide +kernel
theorem dX8_addBoundary_35 : decode cX8_addBoundary 35 = .ok (.invokevirtual 34, 3) := by decide +kernel
theorem dX8_addBoundary_38 : decode cX8_addBoundary 38 = .ok (.istore 7, 2) := by decide +kernel
theorem dX8_addBoundary_40 : decode cX8_addBoundary 40 = .ok (.iload 5, 2) := by decide +kernel
theorem dX8_addBoundary_42 : decode cX8_addBoundary 42 = .ok (.iload_n 2, 1) := by decide +kernel
theorem dX8_addBoundary_43 : decode cX8_addBoundary 43 = .ok (.if_icmp .ne 13, 3) := by decide +kernel
theorem dX8_addBoundary_46 : decode cX8_addBoundary 46 = .ok (.aload_n 0, 1) := by decide +kernel
theorem dX8_addBoundary_47 : decode cX8_addBoundary 47 = .ok (.iload 7, 2) := by decide +kernel
theorem dX8_addBoundary_49 : decode cX8_addBoundary 49 = .ok (.iload_n 3, 1) := by decide +kernel
theorem dX8_addBoundary_50 : decode cX8_addBoundary 50 = .ok (.invokevirtual 38, 3) := by decide +kernel
theorem dX8_addBoundary_53 : decode cX8_addBoundary 53 = .ok (.goto 5, 3) := by decide +kernel
theorem dX8_addBoundary_56 : decode cX8_addBoundary 56 = .ok (.iload 7, 2) := by decide +kernel
theorem dX8_addBoundary_58 : decode cX8_addBoundary 58 = .ok (.istore 8, 2) := by decide +kernel
theorem dX8_addBoundary_60 : decode cX8_addBoundary 60 = .ok (.aload_n 1, 1) := by decide +kernel
theorem dX8_addBoundary_61 : decode cX8_addBoundary 61 = .ok (.iload 5, 2) := by decide +kernel
theorem dX8_addBoundary_63 : decode cX8_addBoundary 63 = .ok (.iload 6, 2) := by decide +kernel
theorem dX8_addBoundary_65 : decode cX8_addBoundary 65 = .ok (.invokevirtual 41, 3) := by decide +kernel
theorem dX8_addBoundary_68 : decode cX8_addBoundary 68 = .ok (.iload_n 2, 1) := by decide +kernel
theorem dX8_addBoundary_69 : decode cX8_addBoundary 69 = .ok (.if_icmp .ne 13, 3) := by decide +kernel
theorem dX8_addBoundary_72 : decode cX8_addBoundary 72 = .ok (.aload_n 0, 1) := by decide +kernel
theorem dX8_addBoundary_73 : decode cX8_addBoundary 73 = .ok (.iload 8, 2) := by decide +kernel
theorem dX8_addBoundary_75 : decode cX8_addBoundary 75 = .ok (.iload_n 3, 1) := by decide +kernel
theorem dX8_addBoundary_76 : decode cX8_addBoundary 76 = .ok (.invokevirtual 44, 3) := by decide +kernel
theorem dX8_addBoundary_79 : decode cX8_addBoundary 79 = .ok (.goto 5, 3) := by decide +kernel
theorem dX8_addBoundary_82 : decode cX8_addBoundary 82 = .ok (.iload 8, 2) := by decide +kernel
theorem dX8_addBoundary_84 : decode cX8_addBoundary 84 = .ok (.istore 9, 2) := by decide +kernel
theorem dX8_addBoundary_86 : decode cX8_addBoundary 86 = .ok (.aload_n 0, 1) := by decide +kernel
theorem dX8_addBoundary_87 : decode cX8_addBoundary 87 = .ok (.getfield 18, 3) := by decide +kernel
theorem dX8_addBoundary_90 : decode cX8_addBoundary 90 = .ok (.iload 5, 2) := by decide +kernel
theorem dX8_addBoundary_92 : decode cX8_addBoundary 92 = .ok (.iload 6, 2) := by decide +kernel
theorem dX8_addBoundary_94 : decode cX8_addBoundary 94 = .ok (.iload 9, 2) := by decide +kernel
theorem dX8_addBoundary_96 : decode cX8_addBoundary 96 = .ok (.invokevirtual 47, 3) := by decide +kernel
theorem dX8_addBoundary_99 : decode cX8_addBoundary 99 = .ok (.iload 9, 2) := by decide +kernel
theorem dX8_addBoundary_101 : decode cX8_addBoundary 101 = .ok (.iload 7, 2) := by decide +kernel
theorem dX8_addBoundary_103 : decode cX8_addBoundary 103 = .ok (.if_icmp .eq 6, 3) := by decide +kernel
theorem dX8_addBoundary_106 : decode cX8_addBoundary 106 = .ok (.iinc 4 1, 3) := by decide +kernel
theorem dX8_addBoundary_109 : decode cX8_addBoundary 109 = .ok (.iinc 6 1, 3) := by decide +kernel
theorem dX8_addBoundary_112 : decode cX8_addBoundary 112 = .ok (.goto (-94), 3) := by decide +kernel
theorem dX8_addBoundary_115 : decode cX8_addBoundary 115 = .ok (.iinc 5 1, 3) := by decide +kernel
theorem dX8_addBoundary_118 : decode cX8_addBoundary 118 = .ok (.goto (-112), 3) := by decide +kernel
theorem dX8_addBoundary_121 : decode cX8_addBoundary 121 = .ok (.iload 4, 2) := by decide +kernel
theorem dX8_addBoundary_123 : decode cX8_addBoundary 123 = .ok (.ireturn, 1) := by decide +kernel
theorem dX8_firstUnclosed_0 : decode cX8_firstUnclosed 0 = .ok (.iconst 0, 1) := by decide +kernel
theorem dX8_firstUnclosed_1 : decode cX8_firstUnclosed 1 = .ok (.istore_n 2, 1) := by decide +kernel
theorem dX8_firstUnclosed_2 : decode cX8_firstUnclosed 2 = .ok (.iload_n 2, 1) := by decide +kernel
theorem dX8_firstUnclosed_3 : decode cX8_firstUnclosed 3 = .ok (.aload_n 1, 1) := by decide +kernel
theorem dX8_firstUnclosed_4 : decode cX8_firstUnclosed 4 = .ok (.getfield 29, 3) := by decide +kernel
theorem dX8_firstUnclosed_7 : decode cX8_firstUnclosed 7 = .ok (.if_icmp .ge 63, 3) := by decide +kernel
theorem dX8_firstUnclosed_10 : decode cX8_firstUnclosed 10 = .ok (.iconst 0, 1) := by decide +kernel
theorem dX8_firstUnclosed_11 : decode cX8_firstUnclosed 11 = .ok (.istore_n 3, 1) := by decide +kernel
theorem dX8_firstUnclosed_12 : decode cX8_firstUnclosed 12 = .ok (.iload_n 3, 1) := by decide +kernel
theorem dX8_firstUnclosed_13 : decode cX8_firstUnclosed 13 = .ok (.aload_n 1, 1) := by decide +kernel
theorem dX8_firstUnclosed_14 : decode cX8_firstUnclosed 14 = .ok (.getfield 29, 3) := by decide +kernel
theorem dX8_firstUnclosed_17 : decode cX8_firstUnclosed 17 = .ok (.if_icmp .ge 47, 3) := by decide +kernel
theorem dX8_firstUnclosed_20 : decode cX8_firstUnclosed 20 = .ok (.iconst 0, 1) := by decide +kernel
theorem dX8_firstUnclosed_21 : decode cX8_firstUnclosed 21 = .ok (.istore 4, 2) := by decide +kernel
theorem dX8_firstUnclosed_23 : decode cX8_firstUnclosed 23 = .ok (.iload 4, 2) := by decide +kernel
theorem dX8_firstUnclosed_25 : decode cX8_firstUnclosed 25 = .ok (.aload_n 1, 1) := by decide +kernel
theorem dX8_firstUnclosed_26 : decode cX8_firstUnclosed 26 = .ok (.getfield 29, 3) := by decide +kernel
theorem dX8_firstUnclosed_29 : decode cX8_firstUnclosed 29 = .ok (.if_icmp .ge 29, 3) := by decide +kernel
theorem dX8_firstUnclosed_32 : decode cX8_firstUnclosed 32 = .ok (.aload_n 0, 1) := by decide +kernel
theorem dX8_firstUnclosed_33 : decode cX8_firstUnclosed 33 = .ok (.aload_n 1, 1) := by decide +kernel
theorem dX8_firstUnclosed_34 : decode cX8_firstUnclosed 34 = .ok (.iload_n 2, 1) := by decide +kernel
theorem dX8_firstUnclosed_35 : decode cX8_firstUnclosed 35 = .ok (.iload_n 3, 1) := by decide +kernel
theorem dX8_firstUnclosed_36 : decode cX8_firstUnclosed 36 = .ok (.iload 4, 2) := by decide +kernel
theorem dX8_firstUnclosed_38 : decode cX8_firstUnclosed 38 = .ok (.invokevirtual 51, 3) := by decide +kernel
theorem dX8_firstUnclosed_41 : decode cX8_firstUnclosed 41 = .ok (.ifCond .ne 11, 3) := by decide +kernel
theorem dX8_firstUnclosed_44 : decode cX8_firstUnclosed 44 = .ok (.iload_n 2, 1) := by decide +kernel
theorem dX8_firstUnclosed_45 : decode cX8_firstUnclosed 45 = .ok (.iload_n 3, 1) := by decide +kernel
theorem dX8_firstUnclosed_46 : decode cX8_firstUnclosed 46 = .ok (.iload 4, 2) := by decide +kernel
theorem dX8_firstUnclosed_48 : decode cX8_firstUnclosed 48 = .ok (.invokestatic 55, 3) := by decide +kernel
theorem dX8_firstUnclosed_51 : decode cX8_firstUnclosed 51 = .ok (.ireturn, 1) := by decide +kernel
theorem dX8_firstUnclosed_52 : decode cX8_firstUnclosed 52 = .ok (.iinc 4 1, 3) := by decide +kernel
theorem dX8_firstUnclosed_55 : decode cX8_firstUnclosed 55 = .ok (.goto (-32), 3) := by decide +kernel
theorem dX8_firstUnclosed_58 : decode cX8_firstUnclosed 58 = .ok (.iinc 3 1, 3) := by decide +kernel
theorem dX8_firstUnclosed_61 : decode cX8_firstUnclosed 61 = .ok (.goto (-49), 3) := by decide +kernel
theorem dX8_firstUnclosed_64 : decode cX8_firstUnclosed 64 = .ok (.iinc 2 1, 3) := by decide +kernel
theorem dX8_firstUnclosed_67 : decode cX8_firstUnclosed 67 = .ok (.goto (-65), 3) := by decide +kernel
theorem dX8_firstUnclosed_70 : decode cX8_firstUnclosed 70 = .ok (.bipush (-4), 2) := by decide +kernel
theorem dX8_firstUnclosed_72 : decode cX8_firstUnclosed 72 = .ok (.ireturn, 1) := by decide +kernel
theorem dX8_isClosedAt_0 : decode cX8_isClosedAt 0 = .ok (.aload_n 0, 1) := by decide +kernel
theorem dX8_isClosedAt_1 : decode cX8_isClosedAt 1 = .ok (.aload_n 0, 1) := by decide +kernel
theorem dX8_isClosedAt_2 : decode cX8_isClosedAt 2 = .ok (.getfield 18, 3) := by decide +kernel
theorem dX8_isClosedAt_5 : decode cX8_isClosedAt 5 = .ok (.iload_n 2, 1) := by decide +kernel
theorem dX8_isClosedAt_6 : decode cX8_isClosedAt 6 = .ok (.iload_n 3, 1) := by decide +kernel
theorem dX8_isClosedAt_7 : decode cX8_isClosedAt 7 = .ok (.invokevirtual 34, 3) := by decide +kernel
theorem dX8_isClosedAt_10 : decode cX8_isClosedAt 10 = .ok (.aload_n 0, 1) := by decide +kernel
theorem dX8_isClosedAt_11 : decode cX8_isClosedAt 11 = .ok (.getfield 18, 3) := by decide +kernel
theorem dX8_isClosedAt_14 : decode cX8_isClosedAt 14 = .ok (.aload_n 1, 1) := by decide +kernel
theorem dX8_isClosedAt_15 : decode cX8_isClosedAt 15 = .ok (.iload_n 2, 1) := by decide +kernel
theorem dX8_isClosedAt_16 : decode cX8_isClosedAt 16 = .ok (.iload_n 3, 1) := by decide +kernel
theorem dX8_isClosedAt_17 : decode cX8_isClosedAt 17 = .ok (.invokevirtual 41, 3) := by decide +kernel
theorem dX8_isClosedAt_20 : decode cX8_isClosedAt 20 = .ok (.iload 4, 2) := by decide +kernel
theorem dX8_isClosedAt_22 : decode cX8_isClosedAt 22 = .ok (.invokevirtual 34, 3) := by decide +kernel
theorem dX8_isClosedAt_25 : decode cX8_isClosedAt 25 = .ok (.invokevirtual 38, 3) := by decide +kernel
theorem dX8_isClosedAt_28 : decode cX8_isClosedAt 28 = .ok (.istore 5, 2) := by decide +kernel
theorem dX8_isClosedAt_30 : decode cX8_isClosedAt 30 = .ok (.aload_n 0, 1) := by decide +kernel
theorem dX8_isClosedAt_31 : decode cX8_isClosedAt 31 = .ok (.getfield 18, 3) := by decide +kernel
theorem dX8_isClosedAt_34 : decode cX8_isClosedAt 34 = .ok (.aload_n 1, 1) := by decide +kernel
theorem dX8_isClosedAt_35 : decode cX8_isClosedAt 35 = .ok (.iload_n 2, 1) := by decide +kernel
theorem dX8_isClosedAt_36 : decode cX8_isClosedAt 36 = .ok (.iload 4, 2) := by decide +kernel
theorem dX8_isClosedAt_38 : decode cX8_isClosedAt 38 = .ok (.invokevirtual 41, 3) := by decide +kernel
theorem dX8_isClosedAt_41 : decode cX8_isClosedAt 41 = .ok (.aload_n 1, 1) := by decide +kernel
theorem dX8_isClosedAt_42 : decode cX8_isClosedAt 42 = .ok (.iload_n 3, 1) := by decide +kernel
theorem dX8_isClosedAt_43 : decode cX8_isClosedAt 43 = .ok (.iload 4, 2) := by decide +kernel
theorem dX8_isClosedAt_45 : decode cX8_isClosedAt 45 = .ok (.invokevirtual 41, 3) := by decide +kernel
theorem dX8_isClosedAt_48 : decode cX8_isClosedAt 48 = .ok (.invokevirtual 34, 3) := by decide +kernel
theorem dX8_isClosedAt_51 : decode cX8_isClosedAt 51 = .ok (.istore 6, 2) := by decide +kernel
theorem dX8_isClosedAt_53 : decode cX8_isClosedAt 53 = .ok (.iload 5, 2) := by decide +kernel
theorem dX8_isClosedAt_55 : decode cX8_isClosedAt 55 = .ok (.aload_n 0, 1) := by decide +kernel
theorem dX8_isClosedAt_56 : decode cX8_isClosedAt 56 = .ok (.aload_n 0, 1) := by decide +kernel
theorem dX8_isClosedAt_57 : decode cX8_isClosedAt 57 = .ok (.getfield 18, 3) := by decide +kernel
theorem dX8_isClosedAt_60 : decode cX8_isClosedAt 60 = .ok (.iload_n 2, 1) := by decide +kernel
theorem dX8_isClosedAt_61 : decode cX8_isClosedAt 61 = .ok (.iload 4, 2) := by decide +kernel
theorem dX8_isClosedAt_63 : decode cX8_isClosedAt 63 = .ok (.invokevirtual 34, 3) := by decide +kernel
theorem dX8_isClosedAt_66 : decode cX8_isClosedAt 66 = .ok (.iload 6, 2) := by decide +kernel
theorem dX8_isClosedAt_68 : decode cX8_isClosedAt 68 = .ok (.invokevirtual 38, 3) := by decide +kernel
theorem dX8_isClosedAt_71 : decode cX8_isClosedAt 71 = .ok (.if_icmp .ne 7, 3) := by decide +kernel
theorem dX8_isClosedAt_74 : decode cX8_isClosedAt 74 = .ok (.iconst 1, 1) := by decide +kernel
theorem dX8_isClosedAt_75 : decode cX8_isClosedAt 75 = .ok (.goto 4, 3) := by decide +kernel
theorem dX8_isClosedAt_78 : decode cX8_isClosedAt 78 = .ok (.iconst 0, 1) := by decide +kernel
theorem dX8_isClosedAt_79 : decode cX8_isClosedAt 79 = .ok (.ireturn, 1) := by decide +kernel
theorem dX9_init_0 : decode cX9_init 0 = .ok (.aload_n 0, 1) := by decide +kernel
theorem dX9_init_1 : decode cX9_init 1 = .ok (.invokespecial 3, 3) := by decide +kernel
theorem dX9_init_4 : decode cX9_init 4 = .ok (.aload_n 0, 1) := by decide +kernel
theorem dX9_init_5 : decode cX9_init 5 = .ok (.new 9, 3) := by decide +kernel
theorem dX9_init_8 : decode cX9_init 8 = .ok (.dup, 1) := by decide +kernel
theorem dX9_init_9 : decode cX9_init 9 = .ok (.invokespecial 11, 3) := by decide +kernel
theorem dX9_init_12 : decode cX9_init 12 = .ok (.putfield 12, 3) := by decide +kernel
theorem dX9_init_15 : decode cX9_init 15 = .ok (.aload_n 0, 1) := by decide +kernel
theorem dX9_init_16 : decode cX9_init 16 = .ok (.new 16, 3) := by decide +kernel
theorem dX9_init_19 : decode cX9_init 19 = .ok (.dup, 1) := by decide +kernel
theorem dX9_init_20 : decode cX9_init 20 = .ok (.invokespecial 18, 3) := by decide +kernel
theorem dX9_init_23 : decode cX9_init 23 = .ok (.putfield 19, 3) := by decide +kernel
theorem dX9_init_26 : decode cX9_init 26 = .ok (.aload_n 0, 1) := by decide +kernel
theorem dX9_init_27 : decode cX9_init 27 = .ok (.new 23, 3) := by decide +kernel
theorem dX9_init_30 : decode cX9_init 30 = .ok (.dup, 1) := by decide +kernel
theorem dX9_init_31 : decode cX9_init 31 = .ok (.invokespecial 25, 3) := by decide +kernel
theorem dX9_init_34 : decode cX9_init 34 = .ok (.putfield 26, 3) := by decide +kernel
theorem dX9_init_37 : decode cX9_init 37 = .ok (.aload_n 0, 1) := by decide +kernel
theorem dX9_init_38 : decode cX9_init 38 = .ok (.new 30, 3) := by decide +kernel
theorem dX9_init_41 : decode cX9_init 41 = .ok (.dup, 1) := by decide +kernel
theorem dX9_init_42 : decode cX9_init 42 = .ok (.invokespecial 32, 3) := by decide +kernel
theorem dX9_init_45 : decode cX9_init 45 = .ok (.putfield 33, 3) := by decide +kernel
theorem dX9_init_48 : decode cX9_init 48 = .ok (.aload_n 0, 1) := by decide +kernel
theorem dX9_init_49 : decode cX9_init 49 = .ok (.new 37, 3) := by decide +kernel
theorem dX9_init_52 : decode cX9_init 52 = .ok (.dup, 1) := by decide +kernel
theorem dX9_init_53 : decode cX9_init 53 = .ok (.invokespecial 39, 3) := by decide +kernel
theorem dX9_init_56 : decode cX9_init 56 = .ok (.putfield 40, 3) := by decide +kernel
theorem dX9_init_59 : decode cX9_init 59 = .ok (.aload_n 0, 1) := by decide +kernel
theorem dX9_init_60 : decode cX9_init 60 = .ok (.getfield 12, 3) := by decide +kernel
theorem dX9_init_63 : decode cX9_init 63 = .ok (.invokevirtual 44, 3) := by decide +kernel
theorem dX9_init_66 : decode cX9_init 66 = .ok (.return_, 1) := by decide +kernel
theorem dX9_loadTrivial_0 : decode cX9_loadTrivial 0 = .ok (.aload_n 0, 1) := by decide +kernel
theorem dX9_loadTrivial_1 : decode cX9_loadTrivial 1 = .ok (.iload_n 1, 1) := by decide +kernel
theorem dX9_loadTrivial_2 : decode cX9_loadTrivial 2 = .ok (.iconst 1, 1) := by decide +kernel
theorem dX9_loadTrivial_3 : decode cX9_loadTrivial 3 = .ok (.iconst 0, 1) := by decide +kernel
theorem dX9_loadTrivial_4 : decode cX9_loadTrivial 4 = .ok (.iconst 0, 1) := by decide +kernel
theorem dX9_loadTrivial_5 : decode cX9_loadTrivial 5 = .ok (.invokevirtual 47, 3) := by decide +kernel
theorem dX9_loadTrivial_8 : decode cX9_loadTrivial 8 = .ok (.ireturn, 1) := by decide +kernel
theorem dX9_loadDihedral_0 : decode cX9_loadDihedral 0 = .ok (.aload_n 0, 1) := by decide +kernel
theorem dX9_loadDihedral_1 : decode cX9_loadDihedral 1 = .ok (.iload_n 1, 1) := by decide +kernel
theorem dX9_loadDihedral_2 : decode cX9_loadDihedral 2 = .ok (.iconst (-1), 1) := by decide +kernel
theorem dX9_loadDihedral_3 : decode cX9_loadDihedral 3 = .ok (.iconst 2, 1) := by decide +kernel
theorem dX9_loadDihedral_4 : decode cX9_loadDihedral 4 = .ok (.iconst 0, 1) := by decide +kernel
theorem dX9_loadDihedral_5 : decode cX9_loadDihedral 5 = .ok (.invokevirtual 47, 3) := by decide +kernel
theorem dX9_loadDihedral_8 : decode cX9_loadDihedral 8 = .ok (.ireturn, 1) := by decide +kernel
theorem dX9_loadAlexander_0 : decode cX9_loadAlexander 0 = .ok (.iload_n 1, 1) := by decide +kernel
theorem dX9_loadAlexander_1 : decode cX9_loadAlexander 1 = .ok (.invokestatic 51, 3) := by decide +kernel
theorem dX9_loadAlexander_4 : decode cX9_loadAlexander 4 = .ok (.ifCond .eq 20, 3) := by decide +kernel
theorem dX9_loadAlexander_7 : decode cX9_loadAlexander 7 = .ok (.iload_n 2, 1) := by decide +kernel
theorem dX9_loadAlexander_8 : decode cX9_loadAlexander 8 = .ok (.ifCond .lt 16, 3) := by decide +kernel
theorem dX9_loadAlexander_11 : decode cX9_loadAlexander 11 = .ok (.iload_n 2, 1) := by decide +kernel
theorem dX9_loadAlexander_12 : decode cX9_loadAlexander 12 = .ok (.iload_n 1, 1) := by decide +kernel
theorem dX9_loadAlexander_13 : decode cX9_loadAlexander 13 = .ok (.if_icmp .ge 11, 3) := by decide +kernel
theorem dX9_loadAlexander_16 : decode cX9_loadAlexander 16 = .ok (.iload_n 1, 1) := by decide +kernel
theorem dX9_loadAlexander_17 : decode cX9_loadAlexander 17 = .ok (.iload_n 2, 1) := by decide +kernel
theorem dX9_loadAlexander_18 : decode cX9_loadAlexander 18 = .ok (.invokestatic 55, 3) := by decide +kernel
theorem dX9_loadAlexander_21 : decode cX9_loadAlexander 21 = .ok (.ifCond .eq 5, 3) := by decide +kernel
theorem dX9_loadAlexander_24 : decode cX9_loadAlexander 24 = .ok (.iconst (-1), 1) := by decide +kernel
theorem dX9_loadAlexander_25 : decode cX9_loadAlexander 25 = .ok (.ireturn, 1) := by decide +kernel
theorem dX9_loadAlexander_26 : decode cX9_loadAlexander 26 = .ok (.aload_n 0, 1) := by decide +kernel
theorem dX9_loadAlexander_27 : decode cX9_loadAlexander 27 = .ok (.iload_n 1, 1) := by decide +kernel
theorem dX9_loadAlexander_28 : decode cX9_loadAlexander 28 = .ok (.iload_n 2, 1) := by decide +kernel
theorem dX9_loadAlexander_29 : decode cX9_loadAlexander 29 = .ok (.iconst 1, 1) := by decide +kernel
theorem dX9_loadAlexander_30 : decode cX9_loadAlexander 30 = .ok (.iload_n 2, 1) := by decide +kernel
theorem dX9_loadAlexander_31 : decode cX9_loadAlexander 31 = .ok (.isub, 1) := by decide +kernel
theorem dX9_loadAlexander_32 : decode cX9_loadAlexander 32 = .ok (.iconst 0, 1) := by decide +kernel
theorem dX9_loadAlexander_33 : decode cX9_loadAlexander 33 = .ok (.invokevirtual 47, 3) := by decide +kernel
theorem dX9_loadAlexander_36 : decode cX9_loadAlexander 36 = .ok (.ireturn, 1) := by decide +kernel
theorem dX9_loadConjugation_0 : decode cX9_loadConjugation 0 = .ok (.aload_n 0, 1) := by decide +kernel
theorem dX9_loadConjugation_1 : decode cX9_loadConjugation 1 = .ok (.invokevirtual 59, 3) := by decide +kernel
theorem dX9_loadConjugation_4 : decode cX9_loadConjugation 4 = .ok (.aload_n 0, 1) := by decide +kernel
theorem dX9_loadConjugation_5 : decode cX9_loadConjugation 5 = .ok (.getfield 12, 3) := by decide +kernel
theorem dX9_loadConjugation_8 : decode cX9_loadConjugation 8 = .ok (.getfield 62, 3) := by decide +kernel
theorem dX9_loadConjugation_11 : decode cX9_loadConjugation 11 = .ok (.invokevirtual 66, 3) := by decide +kernel
theorem dX9_loadConjugation_14 : decode cX9_loadConjugation 14 = .ok (.aload_n 0, 1) := by decide +kernel
theorem dX9_loadConjugation_15 : decode cX9_loadConjugation 15 = .ok (.getfield 12, 3) := by decide +kernel
theorem dX9_loadConjugation_18 : decode cX9_loadConjugation 18 = .ok (.getfield 62, 3) := by decide +kernel
theorem dX9_loadConjugation_21 : decode cX9_loadConjugation 21 = .ok (.getfield 71, 3) := by decide +kernel
theorem dX9_loadConjugation_24 : decode cX9_loadConjugation 24 = .ok (.ireturn, 1) := by decide +kernel
theorem dX9_loadCyclicRack_0 : decode cX9_loadCyclicRack 0 = .ok (.aload_n 0, 1) := by decide +kernel
theorem dX9_loadCyclicRack_1 : decode cX9_loadCyclicRack 1 = .ok (.iload_n 1, 1) := by decide +kernel
theorem dX9_loadCyclicRack_2 : decode cX9_loadCyclicRack 2 = .ok (.iconst 1, 1) := by decide +kernel
theorem dX9_loadCyclicRack_3 : decode cX9_loadCyclicRack 3 = .ok (.iconst 0, 1) := by decide +kernel
theorem dX9_loadCyclicRack_4 : decode cX9_loadCyclicRack 4 = .ok (.iconst 1, 1) := by decide +kernel
theorem dX9_loadCyclicRack_5 : decode cX9_loadCyclicRack 5 = .ok (.invokevirtual 47, 3) := by decide +kernel
theorem dX9_loadCyclicRack_8 : decode cX9_loadCyclicRack 8 = .ok (.ireturn, 1) := by decide +kernel
theorem dX9_loadDual_0 : decode cX9_loadDual 0 = .ok (.aload_n 0, 1) := by decide +kernel
theorem dX9_loadDual_1 : decode cX9_loadDual 1 = .ok (.getfield 12, 3) := by decide +kernel
theorem dX9_loadDual_4 : decode cX9_loadDual 4 = .ok (.getfield 62, 3) := by decide +kernel
theorem dX9_loadDual_7 : decode cX9_loadDual 7 = .ok (.invokevirtual 75, 3) := by decide +kernel
theorem dX9_loadDual_10 : decode cX9_loadDual 10 = .ok (.ifCond .ne 6, 3) := by decide +kernel
theorem dX9_loadDual_13 : decode cX9_loadDual 13 = .ok (.bipush (-2), 2) := by decide +kernel
theorem dX9_loadDual_15 : decode cX9_loadDual 15 = .ok (.ireturn, 1) := by decide +kernel
theorem dX9_loadDual_16 : decode cX9_loadDual 16 = .ok (.aload_n 0, 1) := by decide +kernel
theorem dX9_loadDual_17 : decode cX9_loadDual 17 = .ok (.invokevirtual 59, 3) := by decide +kernel
theorem dX9_loadDual_20 : decode cX9_loadDual 20 = .ok (.aload_n 0, 1) := by decide +kernel
theorem dX9_loadDual_21 : decode cX9_loadDual 21 = .ok (.getfield 12, 3) := by decide +kernel
theorem dX9_loadDual_24 : decode cX9_loadDual 24 = .ok (.getfield 62, 3) := by decide +kernel
theorem dX9_loadDual_27 : decode cX9_loadDual 27 = .ok (.invokevirtual 79, 3) := by decide +kernel
theorem dX9_loadDual_30 : decode cX9_loadDual 30 = .ok (.aload_n 0, 1) := by decide +kernel
theorem dX9_loadDual_31 : decode cX9_loadDual 31 = .ok (.getfield 12, 3) := by decide +kernel
theorem dX9_loadDual_34 : decode cX9_loadDual 34 = .ok (.getfield 62, 3) := by decide +kernel
theorem dX9_loadDual_37 : decode cX9_loadDual 37 = .ok (.getfield 71, 3) := by decide +kernel
theorem dX9_loadDual_40 : decode cX9_loadDual 40 = .ok (.ireturn, 1) := by decide +kernel
theorem dX9_setEntry_0 : decode cX9_setEntry 0 = .ok (.aload_n 0, 1) := by decide +kernel
theorem dX9_setEntry_1 : decode cX9_setEntry 1 = .ok (.getfield 12, 3) := by decide +kernel
theorem dX9_setEntry_4 : decode cX9_setEntry 4 = .ok (.getfield 62, 3) := by decide +kernel
theorem dX9_setEntry_7 : decode cX9_setEntry 7 = .ok (.astore 4, 2) := by decide +kernel
theorem dX9_setEntry_9 : decode cX9_setEntry 9 = .ok (.aload 4, 2) := by decide +kernel
theorem dX9_setEntry_11 : decode cX9_setEntry 11 = .ok (.iload_n 1, 1) := by decide +kernel
theorem dX9_setEntry_12 : decode cX9_setEntry 12 = .ok (.iload_n 2, 1) := by decide +kernel
theorem dX9_setEntry_13 : decode cX9_setEntry 13 = .ok (.invokevirtual 82, 3) := by decide +kernel
theorem dX9_setEntry_16 : decode cX9_setEntry 16 = .ok (.ifCond .eq 12, 3) := by decide +kernel
theorem dX9_setEntry_19 : decode cX9_setEntry 19 = .ok (.aload 4, 2) := by decide +kernel
theorem dX9_setEntry_21 : decode cX9_setEntry 21 = .ok (.iload_n 3, 1) := by decide +kernel
theorem dX9_setEntry_22 : decode cX9_setEntry 22 = .ok (.invokevirtual 85, 3) := by decide +kernel
theorem dX9_setEntry_25 : decode cX9_setEntry 25 = .ok (.ifCond .ne 5, 3) := by decide +kernel
theorem dX9_setEntry_28 : decode cX9_setEntry 28 = .ok (.iconst (-1), 1) := by decide +kernel
theorem dX9_setEntry_29 : decode cX9_setEntry 29 = .ok (.ireturn, 1) := by decide +kernel
theorem dX9_setEntry_30 : decode cX9_setEntry 30 = .ok (.aload_n 0, 1) := by decide +kernel
theorem dX9_setEntry_31 : decode cX9_setEntry 31 = .ok (.getfield 19, 3) := by decide +kernel
theorem dX9_setEntry_34 : decode cX9_setEntry 34 = .ok (.aload_n 0, 1) := by decide +kernel
theorem dX9_setEntry_35 : decode cX9_setEntry 35 = .ok (.getfield 12, 3) := by decide +kernel
theorem dX9_setEntry_38 : decode cX9_setEntry 38 = .ok (.invokevirtual 88, 3) := by decide +kernel
theorem dX9_setEntry_41 : decode cX9_setEntry 41 = .ok (.aload 4, 2) := by decide +kernel
theorem dX9_setEntry_43 : decode cX9_setEntry 43 = .ok (.iload_n 1, 1) := by decide +kernel
theorem dX9_setEntry_44 : decode cX9_setEntry 44 = .ok (.iload_n 2, 1) := by decide +kernel
theorem dX9_setEntry_45 : decode cX9_setEntry 45 = .ok (.invokevirtual 92, 3) := by decide +kernel
theorem dX9_setEntry_48 : decode cX9_setEntry 48 = .ok (.istore 5, 2) := by decide +kernel
theorem dX9_setEntry_50 : decode cX9_setEntry 50 = .ok (.aload 4, 2) := by decide +kernel
theorem dX9_setEntry_52 : decode cX9_setEntry 52 = .ok (.iload_n 1, 1) := by decide +kernel
theorem dX9_setEntry_53 : decode cX9_setEntry 53 = .ok (.iload_n 2, 1) := by decide +kernel
theorem dX9_setEntry_54 : decode cX9_setEntry 54 = .ok (.iload_n 3, 1) := by decide +kernel
theorem dX9_setEntry_55 : decode cX9_setEntry 55 = .ok (.invokevirtual 96, 3) := by decide +kernel
theorem dX9_setEntry_58 : decode cX9_setEntry 58 = .ok (.iload 5, 2) := by decide +kernel
theorem dX9_setEntry_60 : decode cX9_setEntry 60 = .ok (.ireturn, 1) := by decide +kernel
theorem dX9_size_0 : decode cX9_size 0 = .ok (.aload_n 0, 1) := by decide +kernel
theorem dX9_size_1 : decode cX9_size 1 = .ok (.getfield 12, 3) := by decide +kernel
theorem dX9_size_4 : decode cX9_size 4 = .ok (.getfield 62, 3) := by decide +kernel
theorem dX9_size_7 : decode cX9_size 7 = .ok (.getfield 71, 3) := by decide +kernel
theorem dX9_size_10 : decode cX9_size 10 = .ok (.ireturn, 1) := by decide +kernel
theorem dX9_entry_0 : decode cX9_entry 0 = .ok (.aload_n 0, 1) := by decide +kernel
theorem dX9_entry_1 : decode cX9_entry 1 = .ok (.getfield 12, 3) := by decide +kernel
theorem dX9_entry_4 : decode cX9_entry 4 = .ok (.getfield 62, 3) := by decide +kernel
theorem dX9_entry_7 : decode cX9_entry 7 = .ok (.iload_n 1, 1) := by decide +kernel
theorem dX9_entry_8 : decode cX9_entry 8 = .ok (.iload_n 2, 1) := by decide +kernel
theorem dX9_entry_9 : decode cX9_entry 9 = .ok (.invokevirtual 82, 3) := by decide +kernel
theorem dX9_entry_12 : decode cX9_entry 12 = .ok (.ifCond .ne 5, 3) := by decide +kernel
theorem dX9_entry_15 : decode cX9_entry 15 = .ok (.iconst (-1), 1) := by decide +kernel
theorem dX9_entry_16 : decode cX9_entry 16 = .ok (.ireturn, 1) := by decide +kernel
theorem dX9_entry_17 : decode cX9_entry 17 = .ok (.aload_n 0, 1) := by decide +kernel
theorem dX9_entry_18 : decode cX9_entry 18 = .ok (.getfield 12, 3) := by decide +kernel
theorem dX9_entry_21 : decode cX9_entry 21 = .ok (.getfield 62, 3) := by decide +kernel
theorem dX9_entry_24 : decode cX9_entry 24 = .ok (.iload_n 1, 1) := by decide +kernel
theorem dX9_entry_25 : decode cX9_entry 25 = .ok (.iload_n 2, 1) := by decide +kernel
theorem dX9_entry_26 : decode cX9_entry 26 = .ok (.invokevirtual 92, 3) := by decide +kernel
theorem dX9_entry_29 : decode cX9_entry 29 = .ok (.ireturn, 1) := by decide +kernel
theorem dX9_quotient_0 : decode cX9_quotient 0 = .ok (.aload_n 0, 1) := by decide +kernel
theorem dX9_quotient_1 : decode cX9_quotient 1 = .ok (.getfield 12, 3) := by decide +kernel
theorem dX9_quotient_4 : decode cX9_quotient 4 = .ok (.getfield 62, 3) := by decide +kernel
theorem dX9_quotient_7 : decode cX9_quotient 7 = .ok (.iload_n 1, 1) := by decide +kernel
theorem dX9_quotient_8 : decode cX9_quotient 8 = .ok (.iload_n 2, 1) := by decide +kernel
theorem dX9_quotient_9 : decode cX9_quotient 9 = .ok (.invokevirtual 82, 3) := by decide +kernel
theorem dX9_quotient_12 : decode cX9_quotient 12 = .ok (.ifCond .ne 5, 3) := by decide +kernel
theorem dX9_quotient_15 : decode cX9_quotient 15 = .ok (.iconst (-1), 1) := by decide +kernel
theorem dX9_quotient_16 : decode cX9_quotient 16 = .ok (.ireturn, 1) := by decide +kernel
theorem dX9_quotient_17 : decode cX9_quotient 17 = .ok (.aload_n 0, 1) := by decide +kernel
theorem dX9_quotient_18 : decode cX9_quotient 18 = .ok (.getfield 12, 3) := by decide +kernel
theorem dX9_quotient_21 : decode cX9_quotient 21 = .ok (.getfield 62, 3) := by decide +kernel
theorem dX9_quotient_24 : decode cX9_quotient 24 = .ok (.invokevirtual 75, 3) := by decide +kernel
theorem dX9_quotient_27 : decode cX9_quotient 27 = .ok (.ifCond .ne 6, 3) := by decide +kernel
theorem dX9_quotient_30 : decode cX9_quotient 30 = .ok (.bipush (-2), 2) := by decide +kernel
theorem dX9_quotient_32 : decode cX9_quotient 32 = .ok (.ireturn, 1) := by decide +kernel
theorem dX9_quotient_33 : decode cX9_quotient 33 = .ok (.aload_n 0, 1) := by decide +kernel
theorem dX9_quotient_34 : decode cX9_quotient 34 = .ok (.getfield 12, 3) := by decide +kernel
theorem dX9_quotient_37 : decode cX9_quotient 37 = .ok (.getfield 62, 3) := by decide +kernel
theorem dX9_quotient_40 : decode cX9_quotient 40 = .ok (.iload_n 1, 1) := by decide +kernel
theorem dX9_quotient_41 : decode cX9_quotient 41 = .ok (.iload_n 2, 1) := by decide +kernel
theorem dX9_quotient_42 : decode cX9_quotient 42 = .ok (.invokevirtual 100, 3) := by decide +kernel
theorem dX9_quotient_45 : decode cX9_quotient 45 = .ok (.ireturn, 1) := by decide +kernel
theorem dX9_nonInvertibleColumn_0 : decode cX9_nonInvertibleColumn 0 = .ok (.aload_n 0, 1) := by decide +kernel
theorem dX9_nonInvertibleColumn_1 : decode cX9_nonInvertibleColumn 1 = .ok (.getfield 12, 3) := by decide +kernel
theorem dX9_nonInvertibleColumn_4 : decode cX9_nonInvertibleColumn 4 = .ok (.getfield 62, 3) := by decide +kernel
theorem dX9_nonInvertibleColumn_7 : decode cX9_nonInvertibleColumn 7 = .ok (.getfield 103, 3) := by decide +kernel
theorem dX9_nonInvertibleColumn_10 : decode cX9_nonInvertibleColumn 10 = .ok (.ireturn, 1) := by decide +kernel
theorem dX9_distributivityViolation_0 : decode cX9_distributivityViolation 0 = .ok (.aload_n 0, 1) := by decide +kernel
theorem dX9_distributivityViolation_1 : decode cX9_distributivityViolation 1 = .ok (.getfield 12, 3) := by decide +kernel
theorem dX9_distributivityViolation_4 : decode cX9_distributivityViolation 4 = .ok (.getfield 62, 3) := by decide +kernel
theorem dX9_distributivityViolation_7 : decode cX9_distributivityViolation 7 = .ok (.invokevirtual 106, 3) := by decide +kernel
theorem dX9_distributivityViolation_10 : decode cX9_distributivityViolation 10 = .ok (.ireturn, 1) := by decide +kernel
theorem dX9_idempotencyViolation_0 : decode cX9_idempotencyViolation 0 = .ok (.aload_n 0, 1) := by decide +kernel
theorem dX9_idempotencyViolation_1 : decode cX9_idempotencyViolation 1 = .ok (.getfield 12, 3) := by decide +kernel
theorem dX9_idempotencyViolation_4 : decode cX9_idempotencyViolation 4 = .ok (.getfield 62, 3) := by decide +kernel
theorem dX9_idempotencyViolation_7 : decode cX9_idempotencyViolation 7 = .ok (.invokevirtual 110, 3) := by decide +kernel
theorem dX9_idempotencyViolation_10 : decode cX9_idempotencyViolation 10 = .ok (.ireturn, 1) := by decide +kernel
theorem dX9_kind_0 : decode cX9_kind 0 = .ok (.aload_n 0, 1) := by decide +kernel
theorem dX9_kind_1 : decode cX9_kind 1 = .ok (.getfield 12, 3) := by decide +kernel
theorem dX9_kind_4 : decode cX9_kind 4 = .ok (.getfield 62, 3) := by decide +kernel
theorem dX9_kind_7 : decode cX9_kind 7 = .ok (.astore_n 1, 1) := by decide +kernel
theorem dX9_kind_8 : decode cX9_kind 8 = .ok (.aload_n 1, 1) := by decide +kernel
theorem dX9_kind_9 : decode cX9_kind 9 = .ok (.invokevirtual 75, 3) := by decide +kernel
theorem dX9_kind_12 : decode cX9_kind 12 = .ok (.ifCond .eq 12, 3) := by decide +kernel
theorem dX9_kind_15 : decode cX9_kind 15 = .ok (.aload_n 1, 1) := by decide +kernel
theorem dX9_kind_16 : decode cX9_kind 16 = .ok (.invokevirtual 106, 3) := by decide +kernel
theorem dX9_kind_19 : decode cX9_kind 19 = .ok (.bipush (-4), 2) := by decide +kernel
theorem dX9_kind_21 : decode cX9_kind 21 = .ok (.if_icmp .eq 5, 3) := by decide +kernel
theorem dX9_kind_24 : decode cX9_kind 24 = .ok (.iconst 0, 1) := by decide +kernel
theorem dX9_kind_25 : decode cX9_kind 25 = .ok (.ireturn, 1) := by decide +kernel
theorem dX9_kind_26 : decode cX9_kind 26 = .ok (.aload_n 1, 1) := by decide +kernel
theorem dX9_kind_27 : decode cX9_kind 27 = .ok (.invokevirtual 110, 3) := by decide +kernel
theorem dX9_kind_30 : decode cX9_kind 30 = .ok (.bipush (-4), 2) := by decide +kernel
theorem dX9_kind_32 : decode cX9_kind 32 = .ok (.if_icmp .ne 7, 3) := by decide +kernel
theorem dX9_kind_35 : decode cX9_kind 35 = .ok (.iconst 2, 1) := by decide +kernel
theorem dX9_kind_36 : decode cX9_kind 36 = .ok (.goto 4, 3) := by decide +kernel
theorem dX9_kind_39 : decode cX9_kind 39 = .ok (.iconst 1, 1) := by decide +kernel
theorem dX9_kind_40 : decode cX9_kind 40 = .ok (.ireturn, 1) := by decide +kernel
theorem dX9_orbit_0 : decode cX9_orbit 0 = .ok (.aload_n 0, 1) := by decide +kernel
theorem dX9_orbit_1 : decode cX9_orbit 1 = .ok (.getfield 12, 3) := by decide +kernel
theorem dX9_orbit_4 : decode cX9_orbit 4 = .ok (.getfield 62, 3) := by decide +kernel
theorem dX9_orbit_7 : decode cX9_orbit 7 = .ok (.iload_n 1, 1) := by decide +kernel
theorem dX9_orbit_8 : decode cX9_orbit 8 = .ok (.invokevirtual 85, 3) := by decide +kernel
theorem dX9_orbit_11 : decode cX9_orbit 11 = .ok (.ifCond .ne 5, 3) := by decide +kernel
theorem dX9_orbit_14 : decode cX9_orbit 14 = .ok (.iconst (-1), 1) := by decide +kernel
theorem dX9_orbit_15 : decode cX9_orbit 15 = .ok (.ireturn, 1) := by decide +kernel
theorem dX9_orbit_16 : decode cX9_orbit 16 = .ok (.aload_n 0, 1) := by decide +kernel
theorem dX9_orbit_17 : decode cX9_orbit 17 = .ok (.getfield 12, 3) := by decide +kernel
theorem dX9_orbit_20 : decode cX9_orbit 20 = .ok (.getfield 62, 3) := by decide +kernel
theorem dX9_orbit_23 : decode cX9_orbit 23 = .ok (.iload_n 1, 1) := by decide +kernel
theorem dX9_orbit_24 : decode cX9_orbit 24 = .ok (.invokevirtual 113, 3) := by decide +kernel
theorem dX9_orbit_27 : decode cX9_orbit 27 = .ok (.ireturn, 1) := by decide +kernel
theorem dX9_innerGroupOrder_0 : decode cX9_innerGroupOrder 0 = .ok (.aload_n 0, 1) := by decide +kernel
theorem dX9_innerGroupOrder_1 : decode cX9_innerGroupOrder 1 = .ok (.getfield 12, 3) := by decide +kernel
theorem dX9_innerGroupOrder_4 : decode cX9_innerGroupOrder 4 = .ok (.getfield 62, 3) := by decide +kernel
theorem dX9_innerGroupOrder_7 : decode cX9_innerGroupOrder 7 = .ok (.invokevirtual 75, 3) := by decide +kernel
theorem dX9_innerGroupOrder_10 : decode cX9_innerGroupOrder 10 = .ok (.ifCond .ne 6, 3) := by decide +kernel
theorem dX9_innerGroupOrder_13 : decode cX9_innerGroupOrder 13 = .ok (.bipush (-2), 2) := by decide +kernel
theorem dX9_innerGroupOrder_15 : decode cX9_innerGroupOrder 15 = .ok (.ireturn, 1) := by decide +kernel
theorem dX9_innerGroupOrder_16 : decode cX9_innerGroupOrder 16 = .ok (.aload_n 0, 1) := by decide +kernel
theorem dX9_innerGroupOrder_17 : decode cX9_innerGroupOrder 17 = .ok (.getfield 33, 3) := by decide +kernel
theorem dX9_innerGroupOrder_20 : decode cX9_innerGroupOrder 20 = .ok (.aload_n 0, 1) := by decide +kernel
theorem dX9_innerGroupOrder_21 : decode cX9_innerGroupOrder 21 = .ok (.getfield 12, 3) := by decide +kernel
theorem dX9_innerGroupOrder_24 : decode cX9_innerGroupOrder 24 = .ok (.getfield 62, 3) := by decide +kernel
theorem dX9_innerGroupOrder_27 : decode cX9_innerGroupOrder 27 = .ok (.invokevirtual 117, 3) := by decide +kernel
theorem dX9_innerGroupOrder_30 : decode cX9_innerGroupOrder 30 = .ok (.ireturn, 1) := by decide +kernel
theorem dX9_automorphismCount_0 : decode cX9_automorphismCount 0 = .ok (.aload_n 0, 1) := by decide +kernel
theorem dX9_automorphismCount_1 : decode cX9_automorphismCount 1 = .ok (.getfield 40, 3) := by decide +kernel
theorem dX9_automorphismCount_4 : decode cX9_automorphismCount 4 = .ok (.aload_n 0, 1) := by decide +kernel
theorem dX9_automorphismCount_5 : decode cX9_automorphismCount 5 = .ok (.getfield 12, 3) := by decide +kernel
theorem dX9_automorphismCount_8 : decode cX9_automorphismCount 8 = .ok (.getfield 62, 3) := by decide +kernel
theorem dX9_automorphismCount_11 : decode cX9_automorphismCount 11 = .ok (.invokevirtual 121, 3) := by decide +kernel
theorem dX9_automorphismCount_14 : decode cX9_automorphismCount 14 = .ok (.ireturn, 1) := by decide +kernel
theorem dX9_setStrands_0 : decode cX9_setStrands 0 = .ok (.iload_n 1, 1) := by decide +kernel
theorem dX9_setStrands_1 : decode cX9_setStrands 1 = .ok (.iconst 2, 1) := by decide +kernel
theorem dX9_setStrands_2 : decode cX9_setStrands 2 = .ok (.if_icmp .lt 8, 3) := by decide +kernel
theorem dX9_setStrands_5 : decode cX9_setStrands 5 = .ok (.iload_n 1, 1) := by decide +kernel
theorem dX9_setStrands_6 : decode cX9_setStrands 6 = .ok (.iconst 4, 1) := by decide +kernel
theorem dX9_setStrands_7 : decode cX9_setStrands 7 = .ok (.if_icmp .le 5, 3) := by decide +kernel
theorem dX9_setStrands_10 : decode cX9_setStrands 10 = .ok (.iconst (-1), 1) := by decide +kernel
theorem dX9_setStrands_11 : decode cX9_setStrands 11 = .ok (.ireturn, 1) := by decide +kernel
theorem dX9_setStrands_12 : decode cX9_setStrands 12 = .ok (.aload_n 0, 1) := by decide +kernel
theorem dX9_setStrands_13 : decode cX9_setStrands 13 = .ok (.getfield 19, 3) := by decide +kernel
theorem dX9_setStrands_16 : decode cX9_setStrands 16 = .ok (.aload_n 0, 1) := by decide +kernel
theorem dX9_setStrands_17 : decode cX9_setStrands 17 = .ok (.getfield 12, 3) := by decide +kernel
theorem dX9_setStrands_20 : decode cX9_setStrands 20 = .ok (.invokevirtual 88, 3) := by decide +kernel
theorem dX9_setStrands_23 : decode cX9_setStrands 23 = .ok (.aload_n 0, 1) := by decide +kernel
theorem dX9_setStrands_24 : decode cX9_setStrands 24 = .ok (.getfield 12, 3) := by decide +kernel
theorem dX9_setStrands_27 : decode cX9_setStrands 27 = .ok (.getfield 124, 3) := by decide +kernel
theorem dX9_setStrands_30 : decode cX9_setStrands 30 = .ok (.getfield 128, 3) := by decide +kernel
theorem dX9_setStrands_33 : decode cX9_setStrands 33 = .ok (.istore_n 2, 1) := by decide +kernel
theorem dX9_setStrands_34 : decode cX9_setStrands 34 = .ok (.aload_n 0, 1) := by decide +kernel
theorem dX9_setStrands_35 : decode cX9_setStrands 35 = .ok (.getfield 12, 3) := by decide +kernel
theorem dX9_setStrands_38 : decode cX9_setStrands 38 = .ok (.getfield 124, 3) := by decide +kernel
theorem dX9_setStrands_41 : decode cX9_setStrands 41 = .ok (.iload_n 1, 1) := by decide +kernel
theorem dX9_setStrands_42 : decode cX9_setStrands 42 = .ok (.invokevirtual 133, 3) := by decide +kernel
theorem dX9_setStrands_45 : decode cX9_setStrands 45 = .ok (.iload_n 2, 1) := by decide +kernel
theorem dX9_setStrands_46 : decode cX9_setStrands 46 = .ok (.ireturn, 1) := by decide +kernel
theorem dX9_appendCrossing_0 : decode cX9_appendCrossing 0 = .ok (.aload_n 0, 1) := by decide +kernel
theorem dX9_appendCrossing_1 : decode cX9_appendCrossing 1 = .ok (.getfield 12, 3) := by decide +kernel
theorem dX9_appendCrossing_4 : decode cX9_appendCrossing 4 = .ok (.getfield 124, 3) := by decide +kernel
theorem dX9_appendCrossing_7 : decode cX9_appendCrossing 7 = .ok (.astore_n 2, 1) := by decide +kernel
theorem dX9_appendCrossing_8 : decode cX9_appendCrossing 8 = .ok (.aload_n 2, 1) := by decide +kernel
theorem dX9_appendCrossing_9 : decode cX9_appendCrossing 9 = .ok (.iload_n 1, 1) := by decide +kernel
theorem dX9_appendCrossing_10 : decode cX9_appendCrossing 10 = .ok (.invokevirtual 137, 3) := by decide +kernel
theorem dX9_appendCrossing_13 : decode cX9_appendCrossing 13 = .ok (.ifCond .ne 5, 3) := by decide +kernel
theorem dX9_appendCrossing_16 : decode cX9_appendCrossing 16 = .ok (.iconst (-1), 1) := by decide +kernel
theorem dX9_appendCrossing_17 : decode cX9_appendCrossing 17 = .ok (.ireturn, 1) := by decide +kernel
theorem dX9_appendCrossing_18 : decode cX9_appendCrossing 18 = .ok (.aload_n 2, 1) := by decide +kernel
theorem dX9_appendCrossing_19 : decode cX9_appendCrossing 19 = .ok (.getfield 140, 3) := by decide +kernel
theorem dX9_appendCrossing_22 : decode cX9_appendCrossing 22 = .ok (.bipush 12, 2) := by decide +kernel
theorem dX9_appendCrossing_24 : decode cX9_appendCrossing 24 = .ok (.if_icmp .lt 6, 3) := by decide +kernel
theorem dX9_appendCrossing_27 : decode cX9_appendCrossing 27 = .ok (.bipush (-3), 2) := by decide +kernel
theorem dX9_appendCrossing_29 : decode cX9_appendCrossing 29 = .ok (.ireturn, 1) := by decide +kernel
theorem dX9_appendCrossing_30 : decode cX9_appendCrossing 30 = .ok (.aload_n 0, 1) := by decide +kernel
theorem dX9_appendCrossing_31 : decode cX9_appendCrossing 31 = .ok (.getfield 19, 3) := by decide +kernel
theorem dX9_appendCrossing_34 : decode cX9_appendCrossing 34 = .ok (.aload_n 0, 1) := by decide +kernel
theorem dX9_appendCrossing_35 : decode cX9_appendCrossing 35 = .ok (.getfield 12, 3) := by decide +kernel
theorem dX9_appendCrossing_38 : decode cX9_appendCrossing 38 = .ok (.invokevirtual 88, 3) := by decide +kernel
theorem dX9_appendCrossing_41 : decode cX9_appendCrossing 41 = .ok (.aload_n 2, 1) := by decide +kernel
theorem dX9_appendCrossing_42 : decode cX9_appendCrossing 42 = .ok (.iload_n 1, 1) := by decide +kernel
theorem dX9_appendCrossing_43 : decode cX9_appendCrossing 43 = .ok (.invokevirtual 143, 3) := by decide +kernel
theorem dX9_appendCrossing_46 : decode cX9_appendCrossing 46 = .ok (.aload_n 2, 1) := by decide +kernel
theorem dX9_appendCrossing_47 : decode cX9_appendCrossing 47 = .ok (.getfield 140, 3) := by decide +kernel
theorem dX9_appendCrossing_50 : decode cX9_appendCrossing 50 = .ok (.ireturn, 1) := by decide +kernel
theorem dX9_removeCrossing_0 : decode cX9_removeCrossing 0 = .ok (.aload_n 0, 1) := by decide +kernel
theorem dX9_removeCrossing_1 : decode cX9_removeCrossing 1 = .ok (.getfield 12, 3) := by decide +kernel
theorem dX9_removeCrossing_4 : decode cX9_removeCrossing 4 = .ok (.getfield 124, 3) := by decide +kernel
theorem dX9_removeCrossing_7 : decode cX9_removeCrossing 7 = .ok (.astore_n 1, 1) := by decide +kernel
theorem dX9_removeCrossing_8 : decode cX9_removeCrossing 8 = .ok (.aload_n 1, 1) := by decide +kernel
theorem dX9_removeCrossing_9 : decode cX9_removeCrossing 9 = .ok (.getfield 140, 3) := by decide +kernel
theorem dX9_removeCrossing_12 : decode cX9_removeCrossing 12 = .ok (.ifCond .ne 6, 3) := by decide +kernel
theorem dX9_removeCrossing_15 : decode cX9_removeCrossing 15 = .ok (.bipush (-4), 2) := by decide +kernel
theorem dX9_removeCrossing_17 : decode cX9_removeCrossing 17 = .ok (.ireturn, 1) := by decide +kernel
theorem dX9_removeCrossing_18 : decode cX9_removeCrossing 18 = .ok (.aload_n 0, 1) := by decide +kernel
theorem dX9_removeCrossing_19 : decode cX9_removeCrossing 19 = .ok (.getfield 19, 3) := by decide +kernel
theorem dX9_removeCrossing_22 : decode cX9_removeCrossing 22 = .ok (.aload_n 0, 1) := by decide +kernel
theorem dX9_removeCrossing_23 : decode cX9_removeCrossing 23 = .ok (.getfield 12, 3) := by decide +kernel
theorem dX9_removeCrossing_26 : decode cX9_removeCrossing 26 = .ok (.invokevirtual 88, 3) := by decide +kernel
theorem dX9_removeCrossing_29 : decode cX9_removeCrossing 29 = .ok (.aload_n 1, 1) := by decide +kernel
theorem dX9_removeCrossing_30 : decode cX9_removeCrossing 30 = .ok (.invokevirtual 146, 3) := by decide +kernel
theorem dX9_removeCrossing_33 : decode cX9_removeCrossing 33 = .ok (.invokestatic 149, 3) := by decide +kernel
theorem dX9_removeCrossing_36 : decode cX9_removeCrossing 36 = .ok (.ireturn, 1) := by decide +kernel
theorem dX9_crossingCount_0 : decode cX9_crossingCount 0 = .ok (.aload_n 0, 1) := by decide +kernel
theorem dX9_crossingCount_1 : decode cX9_crossingCount 1 = .ok (.getfield 12, 3) := by decide +kernel
theorem dX9_crossingCount_4 : decode cX9_crossingCount 4 = .ok (.getfield 124, 3) := by decide +kernel
theorem dX9_crossingCount_7 : decode cX9_crossingCount 7 = .ok (.getfield 140, 3) := by decide +kernel
theorem dX9_crossingCount_10 : decode cX9_crossingCount 10 = .ok (.ireturn, 1) := by decide +kernel
theorem dX9_coloringCount_0 : decode cX9_coloringCount 0 = .ok (.aload_n 0, 1) := by decide +kernel
theorem dX9_coloringCount_1 : decode cX9_coloringCount 1 = .ok (.getfield 12, 3) := by decide +kernel
theorem dX9_coloringCount_4 : decode cX9_coloringCount 4 = .ok (.getfield 62, 3) := by decide +kernel
theorem dX9_coloringCount_7 : decode cX9_coloringCount 7 = .ok (.invokevirtual 75, 3) := by decide +kernel
theorem dX9_coloringCount_10 : decode cX9_coloringCount 10 = .ok (.ifCond .ne 6, 3) := by decide +kernel
theorem dX9_coloringCount_13 : decode cX9_coloringCount 13 = .ok (.bipush (-2), 2) := by decide +kernel
theorem dX9_coloringCount_15 : decode cX9_coloringCount 15 = .ok (.ireturn, 1) := by decide +kernel
theorem dX9_coloringCount_16 : decode cX9_coloringCount 16 = .ok (.aload_n 0, 1) := by decide +kernel
theorem dX9_coloringCount_17 : decode cX9_coloringCount 17 = .ok (.getfield 26, 3) := by decide +kernel
theorem dX9_coloringCount_20 : decode cX9_coloringCount 20 = .ok (.aload_n 0, 1) := by decide +kernel
theorem dX9_coloringCount_21 : decode cX9_coloringCount 21 = .ok (.getfield 12, 3) := by decide +kernel
theorem dX9_coloringCount_24 : decode cX9_coloringCount 24 = .ok (.invokevirtual 154, 3) := by decide +kernel
theorem dX9_coloringCount_27 : decode cX9_coloringCount 27 = .ok (.ireturn, 1) := by decide +kernel
theorem dX9_nextColoring_0 : decode cX9_nextColoring 0 = .ok (.iload_n 1, 1) := by decide +kernel
theorem dX9_nextColoring_1 : decode cX9_nextColoring 1 = .ok (.ifCond .ge 5, 3) := by decide +kernel
theorem dX9_nextColoring_4 : decode cX9_nextColoring 4 = .ok (.iconst (-1), 1) := by decide +kernel
theorem dX9_nextColoring_5 : decode cX9_nextColoring 5 = .ok (.ireturn, 1) := by decide +kernel
theorem dX9_nextColoring_6 : decode cX9_nextColoring 6 = .ok (.aload_n 0, 1) := by decide +kernel
theorem dX9_nextColoring_7 : decode cX9_nextColoring 7 = .ok (.getfield 12, 3) := by decide +kernel
theorem dX9_nextColoring_10 : decode cX9_nextColoring 10 = .ok (.getfield 62, 3) := by decide +kernel
theorem dX9_nextColoring_13 : decode cX9_nextColoring 13 = .ok (.invokevirtual 75, 3) := by decide +kernel
theorem dX9_nextColoring_16 : decode cX9_nextColoring 16 = .ok (.ifCond .ne 6, 3) := by decide +kernel
theorem dX9_nextColoring_19 : decode cX9_nextColoring 19 = .ok (.bipush (-2), 2) := by decide +kernel
theorem dX9_nextColoring_21 : decode cX9_nextColoring 21 = .ok (.ireturn, 1) := by decide +kernel
theorem dX9_nextColoring_22 : decode cX9_nextColoring 22 = .ok (.aload_n 0, 1) := by decide +kernel
theorem dX9_nextColoring_23 : decode cX9_nextColoring 23 = .ok (.getfield 26, 3) := by decide +kernel
theorem dX9_nextColoring_26 : decode cX9_nextColoring 26 = .ok (.aload_n 0, 1) := by decide +kernel
theorem dX9_nextColoring_27 : decode cX9_nextColoring 27 = .ok (.getfield 12, 3) := by decide +kernel
theorem dX9_nextColoring_30 : decode cX9_nextColoring 30 = .ok (.iload_n 1, 1) := by decide +kernel
theorem dX9_nextColoring_31 : decode cX9_nextColoring 31 = .ok (.invokevirtual 158, 3) := by decide +kernel
theorem dX9_nextColoring_34 : decode cX9_nextColoring 34 = .ok (.ireturn, 1) := by decide +kernel
theorem dX9_setModulus_0 : decode cX9_setModulus 0 = .ok (.iload_n 1, 1) := by decide +kernel
theorem dX9_setModulus_1 : decode cX9_setModulus 1 = .ok (.iconst 2, 1) := by decide +kernel
theorem dX9_setModulus_2 : decode cX9_setModulus 2 = .ok (.if_icmp .lt 9, 3) := by decide +kernel
theorem dX9_setModulus_5 : decode cX9_setModulus 5 = .ok (.iload_n 1, 1) := by decide +kernel
theorem dX9_setModulus_6 : decode cX9_setModulus 6 = .ok (.bipush 12, 2) := by decide +kernel
theorem dX9_setModulus_8 : decode cX9_setModulus 8 = .ok (.if_icmp .le 5, 3) := by decide +kernel
theorem dX9_setModulus_11 : decode cX9_setModulus 11 = .ok (.iconst (-1), 1) := by decide +kernel
theorem dX9_setModulus_12 : decode cX9_setModulus 12 = .ok (.ireturn, 1) := by decide +kernel
theorem dX9_setModulus_13 : decode cX9_setModulus 13 = .ok (.aload_n 0, 1) := by decide +kernel
theorem dX9_setModulus_14 : decode cX9_setModulus 14 = .ok (.getfield 19, 3) := by decide +kernel
theorem dX9_setModulus_17 : decode cX9_setModulus 17 = .ok (.aload_n 0, 1) := by decide +kernel
theorem dX9_setModulus_18 : decode cX9_setModulus 18 = .ok (.getfield 12, 3) := by decide +kernel
theorem dX9_setModulus_21 : decode cX9_setModulus 21 = .ok (.invokevirtual 88, 3) := by decide +kernel
theorem dX9_setModulus_24 : decode cX9_setModulus 24 = .ok (.aload_n 0, 1) := by decide +kernel
theorem dX9_setModulus_25 : decode cX9_setModulus 25 = .ok (.getfield 12, 3) := by decide +kernel
theorem dX9_setModulus_28 : decode cX9_setModulus 28 = .ok (.getfield 162, 3) := by decide +kernel
theorem dX9_setModulus_31 : decode cX9_setModulus 31 = .ok (.getfield 166, 3) := by decide +kernel
theorem dX9_setModulus_34 : decode cX9_setModulus 34 = .ok (.istore_n 2, 1) := by decide +kernel
theorem dX9_setModulus_35 : decode cX9_setModulus 35 = .ok (.aload_n 0, 1) := by decide +kernel
theorem dX9_setModulus_36 : decode cX9_setModulus 36 = .ok (.getfield 12, 3) := by decide +kernel
theorem dX9_setModulus_39 : decode cX9_setModulus 39 = .ok (.getfield 162, 3) := by decide +kernel
theorem dX9_setModulus_42 : decode cX9_setModulus 42 = .ok (.iload_n 1, 1) := by decide +kernel
theorem dX9_setModulus_43 : decode cX9_setModulus 43 = .ok (.invokevirtual 171, 3) := by decide +kernel
theorem dX9_setModulus_46 : decode cX9_setModulus 46 = .ok (.iload_n 2, 1) := by decide +kernel
theorem dX9_setModulus_47 : decode cX9_setModulus 47 = .ok (.ireturn, 1) := by decide +kernel
theorem dX9_setWeight_0 : decode cX9_setWeight 0 = .ok (.aload_n 0, 1) := by decide +kernel
theorem dX9_setWeight_1 : decode cX9_setWeight 1 = .ok (.getfield 12, 3) := by decide +kernel
theorem dX9_setWeight_4 : decode cX9_setWeight 4 = .ok (.getfield 162, 3) := by decide +kernel
theorem dX9_setWeight_7 : decode cX9_setWeight 7 = .ok (.astore 4, 2) := by decide +kernel
theorem dX9_setWeight_9 : decode cX9_setWeight 9 = .ok (.aload_n 0, 1) := by decide +kernel
theorem dX9_setWeight_10 : decode cX9_setWeight 10 = .ok (.getfield 12, 3) := by decide +kernel
theorem dX9_setWeight_13 : decode cX9_setWeight 13 = .ok (.getfield 62, 3) := by decide +kernel
theorem dX9_setWeight_16 : decode cX9_setWeight 16 = .ok (.iload_n 1, 1) := by decide +kernel
theorem dX9_setWeight_17 : decode cX9_setWeight 17 = .ok (.iload_n 2, 1) := by decide +kernel
theorem dX9_setWeight_18 : decode cX9_setWeight 18 = .ok (.invokevirtual 82, 3) := by decide +kernel
theorem dX9_setWeight_21 : decode cX9_setWeight 21 = .ok (.ifCond .eq 12, 3) := by decide +kernel
theorem dX9_setWeight_24 : decode cX9_setWeight 24 = .ok (.aload 4, 2) := by decide +kernel
theorem dX9_setWeight_26 : decode cX9_setWeight 26 = .ok (.iload_n 3, 1) := by decide +kernel
theorem dX9_setWeight_27 : decode cX9_setWeight 27 = .ok (.invokevirtual 172, 3) := by decide +kernel
theorem dX9_setWeight_30 : decode cX9_setWeight 30 = .ok (.ifCond .ne 5, 3) := by decide +kernel
theorem dX9_setWeight_33 : decode cX9_setWeight 33 = .ok (.iconst (-1), 1) := by decide +kernel
theorem dX9_setWeight_34 : decode cX9_setWeight 34 = .ok (.ireturn, 1) := by decide +kernel
theorem dX9_setWeight_35 : decode cX9_setWeight 35 = .ok (.aload_n 0, 1) := by decide +kernel
theorem dX9_setWeight_36 : decode cX9_setWeight 36 = .ok (.getfield 19, 3) := by decide +kernel
theorem dX9_setWeight_39 : decode cX9_setWeight 39 = .ok (.aload_n 0, 1) := by decide +kernel
theorem dX9_setWeight_40 : decode cX9_setWeight 40 = .ok (.getfield 12, 3) := by decide +kernel
theorem dX9_setWeight_43 : decode cX9_setWeight 43 = .ok (.invokevirtual 88, 3) := by decide +kernel
theorem dX9_setWeight_46 : decode cX9_setWeight 46 = .ok (.aload 4, 2) := by decide +kernel
theorem dX9_setWeight_48 : decode cX9_setWeight 48 = .ok (.getfield 173, 3) := by decide +kernel
theorem dX9_setWeight_51 : decode cX9_setWeight 51 = .ok (.iload_n 1, 1) := by decide +kernel
theorem dX9_setWeight_52 : decode cX9_setWeight 52 = .ok (.iload_n 2, 1) := by decide +kernel
theorem dX9_setWeight_53 : decode cX9_setWeight 53 = .ok (.invokevirtual 177, 3) := by decide +kernel
theorem dX9_setWeight_56 : decode cX9_setWeight 56 = .ok (.istore 5, 2) := by decide +kernel
theorem dX9_setWeight_58 : decode cX9_setWeight 58 = .ok (.aload 4, 2) := by decide +kernel
theorem dX9_setWeight_60 : decode cX9_setWeight 60 = .ok (.getfield 173, 3) := by decide +kernel
theorem dX9_setWeight_63 : decode cX9_setWeight 63 = .ok (.iload_n 1, 1) := by decide +kernel
theorem dX9_setWeight_64 : decode cX9_setWeight 64 = .ok (.iload_n 2, 1) := by decide +kernel
theorem dX9_setWeight_65 : decode cX9_setWeight 65 = .ok (.iload_n 3, 1) := by decide +kernel
theorem dX9_setWeight_66 : decode cX9_setWeight 66 = .ok (.invokevirtual 182, 3) := by decide +kernel
theorem dX9_setWeight_69 : decode cX9_setWeight 69 = .ok (.iload 5, 2) := by decide +kernel
theorem dX9_setWeight_71 : decode cX9_setWeight 71 = .ok (.ireturn, 1) := by decide +kernel
theorem dX9_addCoboundary_0 : decode cX9_addCoboundary 0 = .ok (.aload_n 0, 1) := by decide +kernel
theorem dX9_addCoboundary_1 : decode cX9_addCoboundary 1 = .ok (.getfield 12, 3) := by decide +kernel
theorem dX9_addCoboundary_4 : decode cX9_addCoboundary 4 = .ok (.getfield 62, 3) := by decide +kernel
theorem dX9_addCoboundary_7 : decode cX9_addCoboundary 7 = .ok (.iload_n 1, 1) := by decide +kernel
theorem dX9_addCoboundary_8 : decode cX9_addCoboundary 8 = .ok (.invokevirtual 85, 3) := by decide +kernel
theorem dX9_addCoboundary_11 : decode cX9_addCoboundary 11 = .ok (.ifCond .eq 17, 3) := by decide +kernel
theorem dX9_addCoboundary_14 : decode cX9_addCoboundary 14 = .ok (.aload_n 0, 1) := by decide +kernel
theorem dX9_addCoboundary_15 : decode cX9_addCoboundary 15 = .ok (.getfield 12, 3) := by decide +kernel
theorem dX9_addCoboundary_18 : decode cX9_addCoboundary 18 = .ok (.getfield 162, 3) := by decide +kernel
theorem dX9_addCoboundary_21 : decode cX9_addCoboundary 21 = .ok (.iload_n 2, 1) := by decide +kernel
theorem dX9_addCoboundary_22 : decode cX9_addCoboundary 22 = .ok (.invokevirtual 172, 3) := by decide +kernel
theorem dX9_addCoboundary_25 : decode cX9_addCoboundary 25 = .ok (.ifCond .ne 5, 3) := by decide +kernel
theorem dX9_addCoboundary_28 : decode cX9_addCoboundary 28 = .ok (.iconst (-1), 1) := by decide +kernel
theorem dX9_addCoboundary_29 : decode cX9_addCoboundary 29 = .ok (.ireturn, 1) := by decide +kernel
theorem dX9_addCoboundary_30 : decode cX9_addCoboundary 30 = .ok (.aload_n 0, 1) := by decide +kernel
theorem dX9_addCoboundary_31 : decode cX9_addCoboundary 31 = .ok (.getfield 19, 3) := by decide +kernel
theorem dX9_addCoboundary_34 : decode cX9_addCoboundary 34 = .ok (.aload_n 0, 1) := by decide +kernel
theorem dX9_addCoboundary_35 : decode cX9_addCoboundary 35 = .ok (.getfield 12, 3) := by decide +kernel
theorem dX9_addCoboundary_38 : decode cX9_addCoboundary 38 = .ok (.invokevirtual 88, 3) := by decide +kernel
theorem dX9_addCoboundary_41 : decode cX9_addCoboundary 41 = .ok (.aload_n 0, 1) := by decide +kernel
theorem dX9_addCoboundary_42 : decode cX9_addCoboundary 42 = .ok (.getfield 12, 3) := by decide +kernel
theorem dX9_addCoboundary_45 : decode cX9_addCoboundary 45 = .ok (.getfield 162, 3) := by decide +kernel
theorem dX9_addCoboundary_48 : decode cX9_addCoboundary 48 = .ok (.aload_n 0, 1) := by decide +kernel
theorem dX9_addCoboundary_49 : decode cX9_addCoboundary 49 = .ok (.getfield 12, 3) := by decide +kernel
theorem dX9_addCoboundary_52 : decode cX9_addCoboundary 52 = .ok (.getfield 62, 3) := by decide +kernel
theorem dX9_addCoboundary_55 : decode cX9_addCoboundary 55 = .ok (.iload_n 1, 1) := by decide +kernel
theorem dX9_addCoboundary_56 : decode cX9_addCoboundary 56 = .ok (.iload_n 2, 1) := by decide +kernel
theorem dX9_addCoboundary_57 : decode cX9_addCoboundary 57 = .ok (.invokevirtual 185, 3) := by decide +kernel
theorem dX9_addCoboundary_60 : decode cX9_addCoboundary 60 = .ok (.ireturn, 1) := by decide +kernel
theorem dX9_weight_0 : decode cX9_weight 0 = .ok (.aload_n 0, 1) := by decide +kernel
theorem dX9_weight_1 : decode cX9_weight 1 = .ok (.getfield 12, 3) := by decide +kernel
theorem dX9_weight_4 : decode cX9_weight 4 = .ok (.getfield 62, 3) := by decide +kernel
theorem dX9_weight_7 : decode cX9_weight 7 = .ok (.iload_n 1, 1) := by decide +kernel
theorem dX9_weight_8 : decode cX9_weight 8 = .ok (.iload_n 2, 1) := by decide +kernel
theorem dX9_weight_9 : decode cX9_weight 9 = .ok (.invokevirtual 82, 3) := by decide +kernel
theorem dX9_weight_12 : decode cX9_weight 12 = .ok (.ifCond .ne 5, 3) := by decide +kernel
theorem dX9_weight_15 : decode cX9_weight 15 = .ok (.iconst (-1), 1) := by decide +kernel
theorem dX9_weight_16 : decode cX9_weight 16 = .ok (.ireturn, 1) := by decide +kernel
theorem dX9_weight_17 : decode cX9_weight 17 = .ok (.aload_n 0, 1) := by decide +kernel
theorem dX9_weight_18 : decode cX9_weight 18 = .ok (.getfield 12, 3) := by decide +kernel
theorem dX9_weight_21 : decode cX9_weight 21 = .ok (.getfield 162, 3) := by decide +kernel
theorem dX9_weight_24 : decode cX9_weight 24 = .ok (.getfield 173, 3) := by decide +kernel
theorem dX9_weight_27 : decode cX9_weight 27 = .ok (.iload_n 1, 1) := by decide +kernel
theorem dX9_weight_28 : decode cX9_weight 28 = .ok (.iload_n 2, 1) := by decide +kernel
theorem dX9_weight_29 : decode cX9_weight 29 = .ok (.invokevirtual 177, 3) := by decide +kernel
theorem dX9_weight_32 : decode cX9_weight 32 = .ok (.ireturn, 1) := by decide +kernel
theorem dX9_cocycleViolation_0 : decode cX9_cocycleViolation 0 = .ok (.aload_n 0, 1) := by decide +kernel
theorem dX9_cocycleViolation_1 : decode cX9_cocycleViolation 1 = .ok (.getfield 12, 3) := by decide +kernel
theorem dX9_cocycleViolation_4 : decode cX9_cocycleViolation 4 = .ok (.getfield 162, 3) := by decide +kernel
theorem dX9_cocycleViolation_7 : decode cX9_cocycleViolation 7 = .ok (.aload_n 0, 1) := by decide +kernel
theorem dX9_cocycleViolation_8 : decode cX9_cocycleViolation 8 = .ok (.getfield 12, 3) := by decide +kernel
