theorem dX6_init_0 : decode cX6_init 0 = .ok (.aload_n 0, 1) := by decide +kernel
theorem dX6_init_1 : decode cX6_init 1 = .ok (.invokespecial 3, 3) := by decide +kernel
theorem dX6_init_4 : decode cX6_init 4 = .ok (.aload_n 0, 1) := by decide +kernel
theorem dX6_init_5 : decode cX6_init 5 = .ok (.bipush 81, 2) := by decide +kernel
theorem dX6_init_7 : decode cX6_init 7 = .ok (.newarray .int, 2) := by decide +kernel
theorem dX6_init_9 : decode cX6_init 9 = .ok (.putfield 9, 3) := by decide +kernel
theorem dX6_init_12 : decode cX6_init 12 = .ok (.aload_n 0, 1) := by decide +kernel
theorem dX6_init_13 : decode cX6_init 13 = .ok (.bipush 81, 2) := by decide +kernel
theorem dX6_init_15 : decode cX6_init 15 = .ok (.newarray .int, 2) := by decide +kernel
theorem dX6_init_17 : decode cX6_init 17 = .ok (.putfield 13, 3) := by decide +kernel
theorem dX6_init_20 : decode cX6_init 20 = .ok (.aload_n 0, 1) := by decide +kernel
theorem dX6_init_21 : decode cX6_init 21 = .ok (.sipush 648, 3) := by decide +kernel
theorem dX6_init_24 : decode cX6_init 24 = .ok (.newarray .int, 2) := by decide +kernel
theorem dX6_init_26 : decode cX6_init 26 = .ok (.putfield 16, 3) := by decide +kernel
theorem dX6_init_29 : decode cX6_init 29 = .ok (.aload_n 0, 1) := by decide +kernel
theorem dX6_init_30 : decode cX6_init 30 = .ok (.bipush 81, 2) := by decide +kernel
theorem dX6_init_32 : decode cX6_init 32 = .ok (.newarray .int, 2) := by decide +kernel
theorem dX6_init_34 : decode cX6_init 34 = .ok (.putfield 19, 3) := by decide +kernel
theorem dX6_init_37 : decode cX6_init 37 = .ok (.aload_n 0, 1) := by decide +kernel
theorem dX6_init_38 : decode cX6_init 38 = .ok (.bipush 100, 2) := by decide +kernel
theorem dX6_init_40 : decode cX6_init 40 = .ok (.newarray .int, 2) := by decide +kernel
theorem dX6_init_42 : decode cX6_init 42 = .ok (.putfield 22, 3) := by decide +kernel
theorem dX6_init_45 : decode cX6_init 45 = .ok (.aload_n 0, 1) := by decide +kernel
theorem dX6_init_46 : decode cX6_init 46 = .ok (.bipush 60, 2) := by decide +kernel
theorem dX6_init_48 : decode cX6_init 48 = .ok (.newarray .char, 2) := by decide +kernel
theorem dX6_init_50 : decode cX6_init 50 = .ok (.putfield 25, 3) := by decide +kernel
theorem dX6_init_53 : decode cX6_init 53 = .ok (.aload_n 0, 1) := by decide +kernel
theorem dX6_init_54 : decode cX6_init 54 = .ok (.iconst 3, 1) := by decide +kernel
theorem dX6_init_55 : decode cX6_init 55 = .ok (.newarray .int, 2) := by decide +kernel
theorem dX6_init_57 : decode cX6_init 57 = .ok (.putfield 29, 3) := by decide +kernel
theorem dX6_init_60 : decode cX6_init 60 = .ok (.aload_n 0, 1) := by decide +kernel
theorem dX6_init_61 : decode cX6_init 61 = .ok (.iconst (-1), 1) := by decide +kernel
theorem dX6_init_62 : decode cX6_init 62 = .ok (.putfield 32, 3) := by decide +kernel
theorem dX6_init_65 : decode cX6_init 65 = .ok (.aload_n 0, 1) := by decide +kernel
theorem dX6_init_66 : decode cX6_init 66 = .ok (.getfield 9, 3) := by decide +kernel
theorem dX6_init_69 : decode cX6_init 69 = .ok (.iconst 1, 1) := by decide +kernel
theorem dX6_init_70 : decode cX6_init 70 = .ok (.iconst 5, 1) := by decide +kernel
theorem dX6_init_71 : decode cX6_init 71 = .ok (.iastore, 1) := by decide +kernel
theorem dX6_init_72 : decode cX6_init 72 = .ok (.aload_n 0, 1) := by decide +kernel
theorem dX6_init_73 : decode cX6_init 73 = .ok (.getfield 9, 3) := by decide +kernel
theorem dX6_init_76 : decode cX6_init 76 = .ok (.bipush 6, 2) := by decide +kernel
theorem dX6_init_78 : decode cX6_init 78 = .ok (.bipush 60, 2) := by decide +kernel
theorem dX6_init_80 : decode cX6_init 80 = .ok (.iastore, 1) := by decide +kernel
theorem dX6_init_81 : decode cX6_init 81 = .ok (.return_, 1) := by decide +kernel
theorem dX6_thrown_0 : decode cX6_thrown 0 = .ok (.aload_n 0, 1) := by decide +kernel
theorem dX6_thrown_1 : decode cX6_thrown 1 = .ok (.getfield 36, 3) := by decide +kernel
theorem dX6_thrown_4 : decode cX6_thrown 4 = .ok (.ireturn, 1) := by decide +kernel
theorem dX6_raises_0 : decode cX6_raises 0 = .ok (.aload_n 0, 1) := by decide +kernel
theorem dX6_raises_1 : decode cX6_raises 1 = .ok (.iload_n 1, 1) := by decide +kernel
theorem dX6_raises_2 : decode cX6_raises 2 = .ok (.putfield 36, 3) := by decide +kernel
theorem dX6_raises_5 : decode cX6_raises 5 = .ok (.iconst 0, 1) := by decide +kernel
theorem dX6_raises_6 : decode cX6_raises 6 = .ok (.ireturn, 1) := by decide +kernel
theorem dX6_in_0 : decode cX6_in 0 = .ok (.iload_n 0, 1) := by decide +kernel
theorem dX6_in_1 : decode cX6_in 1 = .ok (.iload_n 1, 1) := by decide +kernel
theorem dX6_in_2 : decode cX6_in 2 = .ok (.if_icmp .lt 12, 3) := by decide +kernel
theorem dX6_in_5 : decode cX6_in 5 = .ok (.iload_n 0, 1) := by decide +kernel
theorem dX6_in_6 : decode cX6_in 6 = .ok (.iload_n 2, 1) := by decide +kernel
theorem dX6_in_7 : decode cX6_in 7 = .ok (.if_icmp .gt 7, 3) := by decide +kernel
theorem dX6_in_10 : decode cX6_in 10 = .ok (.iconst 1, 1) := by decide +kernel
theorem dX6_in_11 : decode cX6_in 11 = .ok (.goto 4, 3) := by decide +kernel
theorem dX6_in_14 : decode cX6_in 14 = .ok (.iconst 0, 1) := by decide +kernel
theorem dX6_in_15 : decode cX6_in 15 = .ok (.ireturn, 1) := by decide +kernel
theorem dX6_tries_0 : decode cX6_tries 0 = .ok (.aload_n 0, 1) := by decide +kernel
theorem dX6_tries_1 : decode cX6_tries 1 = .ok (.iconst 0, 1) := by decide +kernel
theorem dX6_tries_2 : decode cX6_tries 2 = .ok (.putfield 36, 3) := by decide +kernel
theorem dX6_tries_5 : decode cX6_tries 5 = .ok (.aload_n 0, 1) := by decide +kernel
theorem dX6_tries_6 : decode cX6_tries 6 = .ok (.iconst 0, 1) := by decide +kernel
theorem dX6_tries_7 : decode cX6_tries 7 = .ok (.putfield 39, 3) := by decide +kernel
theorem dX6_tries_10 : decode cX6_tries 10 = .ok (.iconst 0, 1) := by decide +kernel
theorem dX6_tries_11 : decode cX6_tries 11 = .ok (.istore_n 1, 1) := by decide +kernel
theorem dX6_tries_12 : decode cX6_tries 12 = .ok (.iload_n 1, 1) := by decide +kernel
theorem dX6_tries_13 : decode cX6_tries 13 = .ok (.bipush 81, 2) := by decide +kernel
theorem dX6_tries_15 : decode cX6_tries 15 = .ok (.if_icmp .ge 21, 3) := by decide +kernel
theorem dX6_tries_18 : decode cX6_tries 18 = .ok (.aload_n 0, 1) := by decide +kernel
theorem dX6_tries_19 : decode cX6_tries 19 = .ok (.getfield 13, 3) := by decide +kernel
theorem dX6_tries_22 : decode cX6_tries 22 = .ok (.iload_n 1, 1) := by decide +kernel
theorem dX6_tries_23 : decode cX6_tries 23 = .ok (.aload_n 0, 1) := by decide +kernel
theorem dX6_tries_24 : decode cX6_tries 24 = .ok (.getfield 9, 3) := by decide +kernel
theorem dX6_tries_27 : decode cX6_tries 27 = .ok (.iload_n 1, 1) := by decide +kernel
theorem dX6_tries_28 : decode cX6_tries 28 = .ok (.iaload, 1) := by decide +kernel
theorem dX6_tries_29 : decode cX6_tries 29 = .ok (.iastore, 1) := by decide +kernel
theorem dX6_tries_30 : decode cX6_tries 30 = .ok (.iinc 1 1, 3) := by decide +kernel
theorem dX6_tries_33 : decode cX6_tries 33 = .ok (.goto (-21), 3) := by decide +kernel
theorem dX6_tries_36 : decode cX6_tries 36 = .ok (.return_, 1) := by decide +kernel
theorem dX6_comesBack_0 : decode cX6_comesBack 0 = .ok (.iconst 0, 1) := by decide +kernel
theorem dX6_comesBack_1 : decode cX6_comesBack 1 = .ok (.istore_n 1, 1) := by decide +kernel
theorem dX6_comesBack_2 : decode cX6_comesBack 2 = .ok (.iload_n 1, 1) := by decide +kernel
theorem dX6_comesBack_3 : decode cX6_comesBack 3 = .ok (.bipush 81, 2) := by decide +kernel
theorem dX6_comesBack_5 : decode cX6_comesBack 5 = .ok (.if_icmp .ge 21, 3) := by decide +kernel
theorem dX6_comesBack_8 : decode cX6_comesBack 8 = .ok (.aload_n 0, 1) := by decide +kernel
theorem dX6_comesBack_9 : decode cX6_comesBack 9 = .ok (.getfield 9, 3) := by decide +kernel
theorem dX6_comesBack_12 : decode cX6_comesBack 12 = .ok (.iload_n 1, 1) := by decide +kernel
theorem dX6_comesBack_13 : decode cX6_comesBack 13 = .ok (.aload_n 0, 1) := by decide +kernel
theorem dX6_comesBack_14 : decode cX6_comesBack 14 = .ok (.getfield 13, 3) := by decide +kernel
theorem dX6_comesBack_17 : decode cX6_comesBack 17 = .ok (.iload_n 1, 1) := by decide +kernel
theorem dX6_comesBack_18 : decode cX6_comesBack 18 = .ok (.iaload, 1) := by decide +kernel
theorem dX6_comesBack_19 : decode cX6_comesBack 19 = .ok (.iastore, 1) := by decide +kernel
theorem dX6_comesBack_20 : decode cX6_comesBack 20 = .ok (.iinc 1 1, 3) := by decide +kernel
theorem dX6_comesBack_23 : decode cX6_comesBack 23 = .ok (.goto (-21), 3) := by decide +kernel
theorem dX6_comesBack_26 : decode cX6_comesBack 26 = .ok (.return_, 1) := by decide +kernel
theorem dX6_keeps_0 : decode cX6_keeps 0 = .ok (.aload_n 0, 1) := by decide +kernel
theorem dX6_keeps_1 : decode cX6_keeps 1 = .ok (.getfield 42, 3) := by decide +kernel
theorem dX6_keeps_4 : decode cX6_keeps 4 = .ok (.bipush 8, 2) := by decide +kernel
theorem dX6_keeps_6 : decode cX6_keeps 6 = .ok (.if_icmp .ne 43, 3) := by decide +kernel
theorem dX6_keeps_9 : decode cX6_keeps 9 = .ok (.iconst 0, 1) := by decide +kernel
theorem dX6_keeps_10 : decode cX6_keeps 10 = .ok (.istore_n 2, 1) := by decide +kernel
theorem dX6_keeps_11 : decode cX6_keeps 11 = .ok (.iload_n 2, 1) := by decide +kernel
theorem dX6_keeps_12 : decode cX6_keeps 12 = .ok (.sipush 567, 3) := by decide +kernel
theorem dX6_keeps_15 : decode cX6_keeps 15 = .ok (.if_icmp .ge 24, 3) := by decide +kernel
theorem dX6_keeps_18 : decode cX6_keeps 18 = .ok (.aload_n 0, 1) := by decide +kernel
theorem dX6_keeps_19 : decode cX6_keeps 19 = .ok (.getfield 16, 3) := by decide +kernel
theorem dX6_keeps_22 : decode cX6_keeps 22 = .ok (.iload_n 2, 1) := by decide +kernel
theorem dX6_keeps_23 : decode cX6_keeps 23 = .ok (.aload_n 0, 1) := by decide +kernel
theorem dX6_keeps_24 : decode cX6_keeps 24 = .ok (.getfield 16, 3) := by decide +kernel
theorem dX6_keeps_27 : decode cX6_keeps 27 = .ok (.bipush 81, 2) := by decide +kernel
theorem dX6_keeps_29 : decode cX6_keeps 29 = .ok (.iload_n 2, 1) := by decide +kernel
theorem dX6_keeps_30 : decode cX6_keeps 30 = .ok (.iadd, 1) := by decide +kernel
theorem dX6_keeps_31 : decode cX6_keeps 31 = .ok (.iaload, 1) := by decide +kernel
theorem dX6_keeps_32 : decode cX6_keeps 32 = .ok (.iastore, 1) := by decide +kernel
theorem dX6_keeps_33 : decode cX6_keeps 33 = .ok (.iinc 2 1, 3) := by decide +kernel
theorem dX6_keeps_36 : decode cX6_keeps 36 = .ok (.goto (-25), 3) := by decide +kernel
theorem dX6_keeps_39 : decode cX6_keeps 39 = .ok (.aload_n 0, 1) := by decide +kernel
theorem dX6_keeps_40 : decode cX6_keeps 40 = .ok (.dup, 1) := by decide +kernel
theorem dX6_keeps_41 : decode cX6_keeps 41 = .ok (.getfield 42, 3) := by decide +kernel
theorem dX6_keeps_44 : decode cX6_keeps 44 = .ok (.iconst 1, 1) := by decide +kernel
theorem dX6_keeps_45 : decode cX6_keeps 45 = .ok (.isub, 1) := by decide +kernel
theorem dX6_keeps_46 : decode cX6_keeps 46 = .ok (.putfield 42, 3) := by decide +kernel
theorem dX6_keeps_49 : decode cX6_keeps 49 = .ok (.iconst 0, 1) := by decide +kernel
theorem dX6_keeps_50 : decode cX6_keeps 50 = .ok (.istore_n 2, 1) := by decide +kernel
theorem dX6_keeps_51 : decode cX6_keeps 51 = .ok (.iload_n 2, 1) := by decide +kernel
theorem dX6_keeps_52 : decode cX6_keeps 52 = .ok (.bipush 81, 2) := by decide +kernel
theorem dX6_keeps_54 : decode cX6_keeps 54 = .ok (.if_icmp .ge 29, 3) := by decide +kernel
theorem dX6_keeps_57 : decode cX6_keeps 57 = .ok (.aload_n 0, 1) := by decide +kernel
theorem dX6_keeps_58 : decode cX6_keeps 58 = .ok (.getfield 16, 3) := by decide +kernel
theorem dX6_keeps_61 : decode cX6_keeps 61 = .ok (.bipush 81, 2) := by decide +kernel
theorem dX6_keeps_63 : decode cX6_keeps 63 = .ok (.aload_n 0, 1) := by decide +kernel
theorem dX6_keeps_64 : decode cX6_keeps 64 = .ok (.getfield 42, 3) := by decide +kernel
theorem dX6_keeps_67 : decode cX6_keeps 67 = .ok (.imul, 1) := by decide +kernel
theorem dX6_keeps_68 : decode cX6_keeps 68 = .ok (.iload_n 2, 1) := by decide +kernel
theorem dX6_keeps_69 : decode cX6_keeps 69 = .ok (.iadd, 1) := by decide +kernel
theorem dX6_keeps_70 : decode cX6_keeps 70 = .ok (.aload_n 0, 1) := by decide +kernel
theorem dX6_keeps_71 : decode cX6_keeps 71 = .ok (.getfield 13, 3) := by decide +kernel
theorem dX6_keeps_74 : decode cX6_keeps 74 = .ok (.iload_n 2, 1) := by decide +kernel
theorem dX6_keeps_75 : decode cX6_keeps 75 = .ok (.iaload, 1) := by decide +kernel
theorem dX6_keeps_76 : decode cX6_keeps 76 = .ok (.iastore, 1) := by decide +kernel
theorem dX6_keeps_77 : decode cX6_keeps 77 = .ok (.iinc 2 1, 3) := by decide +kernel
theorem dX6_keeps_80 : decode cX6_keeps 80 = .ok (.goto (-29), 3) := by decide +kernel
theorem dX6_keeps_83 : decode cX6_keeps 83 = .ok (.aload_n 0, 1) := by decide +kernel
theorem dX6_keeps_84 : decode cX6_keeps 84 = .ok (.dup, 1) := by decide +kernel
theorem dX6_keeps_85 : decode cX6_keeps 85 = .ok (.getfield 42, 3) := by decide +kernel
theorem dX6_keeps_88 : decode cX6_keeps 88 = .ok (.iconst 1, 1) := by decide +kernel
theorem dX6_keeps_89 : decode cX6_keeps 89 = .ok (.iadd, 1) := by decide +kernel
theorem dX6_keeps_90 : decode cX6_keeps 90 = .ok (.putfield 42, 3) := by decide +kernel
theorem dX6_keeps_93 : decode cX6_keeps 93 = .ok (.iload_n 1, 1) := by decide +kernel
theorem dX6_keeps_94 : decode cX6_keeps 94 = .ok (.ireturn, 1) := by decide +kernel
theorem dX6_refuses_0 : decode cX6_refuses 0 = .ok (.aload_n 0, 1) := by decide +kernel
theorem dX6_refuses_1 : decode cX6_refuses 1 = .ok (.iload_n 1, 1) := by decide +kernel
theorem dX6_refuses_2 : decode cX6_refuses 2 = .ok (.putfield 45, 3) := by decide +kernel
theorem dX6_refuses_5 : decode cX6_refuses 5 = .ok (.aload_n 0, 1) := by decide +kernel
theorem dX6_refuses_6 : decode cX6_refuses 6 = .ok (.iload_n 2, 1) := by decide +kernel
theorem dX6_refuses_7 : decode cX6_refuses 7 = .ok (.putfield 48, 3) := by decide +kernel
theorem dX6_refuses_10 : decode cX6_refuses 10 = .ok (.aload_n 0, 1) := by decide +kernel
theorem dX6_refuses_11 : decode cX6_refuses 11 = .ok (.aload_n 0, 1) := by decide +kernel
theorem dX6_refuses_12 : decode cX6_refuses 12 = .ok (.getfield 39, 3) := by decide +kernel
theorem dX6_refuses_15 : decode cX6_refuses 15 = .ok (.putfield 51, 3) := by decide +kernel
theorem dX6_refuses_18 : decode cX6_refuses 18 = .ok (.iconst 0, 1) := by decide +kernel
theorem dX6_refuses_19 : decode cX6_refuses 19 = .ok (.ireturn, 1) := by decide +kernel
theorem dX6_does_0 : decode cX6_does 0 = .ok (.aload_n 0, 1) := by decide +kernel
theorem dX6_does_1 : decode cX6_does 1 = .ok (.iload_n 1, 1) := by decide +kernel
theorem dX6_does_2 : decode cX6_does 2 = .ok (.putfield 54, 3) := by decide +kernel
theorem dX6_does_5 : decode cX6_does 5 = .ok (.iconst 1, 1) := by decide +kernel
theorem dX6_does_6 : decode cX6_does 6 = .ok (.ireturn, 1) := by decide +kernel
theorem dX6_ends_0 : decode cX6_ends 0 = .ok (.iload_n 1, 1) := by decide +kernel
theorem dX6_ends_1 : decode cX6_ends 1 = .ok (.ifCond .eq 14, 3) := by decide +kernel
theorem dX6_ends_4 : decode cX6_ends 4 = .ok (.aload_n 0, 1) := by decide +kernel
theorem dX6_ends_5 : decode cX6_ends 5 = .ok (.aload_n 0, 1) := by decide +kernel
theorem dX6_ends_6 : decode cX6_ends 6 = .ok (.getfield 54, 3) := by decide +kernel
theorem dX6_ends_9 : decode cX6_ends 9 = .ok (.invokevirtual 57, 3) := by decide +kernel
theorem dX6_ends_12 : decode cX6_ends 12 = .ok (.goto 8, 3) := by decide +kernel
theorem dX6_ends_15 : decode cX6_ends 15 = .ok (.aload_n 0, 1) := by decide +kernel
theorem dX6_ends_16 : decode cX6_ends 16 = .ok (.iconst 1, 1) := by decide +kernel
theorem dX6_ends_17 : decode cX6_ends 17 = .ok (.invokevirtual 61, 3) := by decide +kernel
theorem dX6_ends_20 : decode cX6_ends 20 = .ok (.ireturn, 1) := by decide +kernel
theorem dX6_isStake_0 : decode cX6_isStake 0 = .ok (.iload_n 1, 1) := by decide +kernel
theorem dX6_isStake_1 : decode cX6_isStake 1 = .ok (.iconst 0, 1) := by decide +kernel
theorem dX6_isStake_2 : decode cX6_isStake 2 = .ok (.aload_n 0, 1) := by decide +kernel
theorem dX6_isStake_3 : decode cX6_isStake 3 = .ok (.getfield 9, 3) := by decide +kernel
theorem dX6_isStake_6 : decode cX6_isStake 6 = .ok (.iconst 2, 1) := by decide +kernel
theorem dX6_isStake_7 : decode cX6_isStake 7 = .ok (.iaload, 1) := by decide +kernel
theorem dX6_isStake_8 : decode cX6_isStake 8 = .ok (.iconst 1, 1) := by decide +kernel
theorem dX6_isStake_9 : decode cX6_isStake 9 = .ok (.isub, 1) := by decide +kernel
theorem dX6_isStake_10 : decode cX6_isStake 10 = .ok (.invokestatic 64, 3) := by decide +kernel
theorem dX6_isStake_13 : decode cX6_isStake 13 = .ok (.ireturn, 1) := by decide +kernel
theorem dX6_isPost_0 : decode cX6_isPost 0 = .ok (.iload_n 1, 1) := by decide +kernel
theorem dX6_isPost_1 : decode cX6_isPost 1 = .ok (.iconst 0, 1) := by decide +kernel
theorem dX6_isPost_2 : decode cX6_isPost 2 = .ok (.aload_n 0, 1) := by decide +kernel
theorem dX6_isPost_3 : decode cX6_isPost 3 = .ok (.getfield 9, 3) := by decide +kernel
theorem dX6_isPost_6 : decode cX6_isPost 6 = .ok (.iconst 3, 1) := by decide +kernel
theorem dX6_isPost_7 : decode cX6_isPost 7 = .ok (.iaload, 1) := by decide +kernel
theorem dX6_isPost_8 : decode cX6_isPost 8 = .ok (.iconst 1, 1) := by decide +kernel
theorem dX6_isPost_9 : decode cX6_isPost 9 = .ok (.isub, 1) := by decide +kernel
theorem dX6_isPost_10 : decode cX6_isPost 10 = .ok (.invokestatic 64, 3) := by decide +kernel
theorem dX6_isPost_13 : decode cX6_isPost 13 = .ok (.ireturn, 1) := by decide +kernel
theorem dX6_isSheet_0 : decode cX6_isSheet 0 = .ok (.iload_n 1, 1) := by decide +kernel
theorem dX6_isSheet_1 : decode cX6_isSheet 1 = .ok (.iconst 0, 1) := by decide +kernel
theorem dX6_isSheet_2 : decode cX6_isSheet 2 = .ok (.aload_n 0, 1) := by decide +kernel
theorem dX6_isSheet_3 : decode cX6_isSheet 3 = .ok (.getfield 9, 3) := by decide +kernel
theorem dX6_isSheet_6 : decode cX6_isSheet 6 = .ok (.iconst 4, 1) := by decide +kernel
theorem dX6_isSheet_7 : decode cX6_isSheet 7 = .ok (.iaload, 1) := by decide +kernel
theorem dX6_isSheet_8 : decode cX6_isSheet 8 = .ok (.iconst 1, 1) := by decide +kernel
theorem dX6_isSheet_9 : decode cX6_isSheet 9 = .ok (.isub, 1) := by decide +kernel
theorem dX6_isSheet_10 : decode cX6_isSheet 10 = .ok (.invokestatic 64, 3) := by decide +kernel
theorem dX6_isSheet_13 : decode cX6_isSheet 13 = .ok (.ireturn, 1) := by decide +kernel
theorem dX6_isCamel_0 : decode cX6_isCamel 0 = .ok (.iload_n 1, 1) := by decide +kernel
theorem dX6_isCamel_1 : decode cX6_isCamel 1 = .ok (.iconst 0, 1) := by decide +kernel
theorem dX6_isCamel_2 : decode cX6_isCamel 2 = .ok (.aload_n 0, 1) := by decide +kernel
theorem dX6_isCamel_3 : decode cX6_isCamel 3 = .ok (.getfield 9, 3) := by decide +kernel
theorem dX6_isCamel_6 : decode cX6_isCamel 6 = .ok (.iconst 5, 1) := by decide +kernel
theorem dX6_isCamel_7 : decode cX6_isCamel 7 = .ok (.iaload, 1) := by decide +kernel
theorem dX6_isCamel_8 : decode cX6_isCamel 8 = .ok (.iconst 1, 1) := by decide +kernel
theorem dX6_isCamel_9 : decode cX6_isCamel 9 = .ok (.isub, 1) := by decide +kernel
theorem dX6_isCamel_10 : decode cX6_isCamel 10 = .ok (.invokestatic 64, 3) := by decide +kernel
theorem dX6_isCamel_13 : decode cX6_isCamel 13 = .ok (.ireturn, 1) := by decide +kernel
theorem dX6_ofPost_0 : decode cX6_ofPost 0 = .ok (.aload_n 0, 1) := by decide +kernel
theorem dX6_ofPost_1 : decode cX6_ofPost 1 = .ok (.getfield 9, 3) := by decide +kernel
theorem dX6_ofPost_4 : decode cX6_ofPost 4 = .ok (.bipush 19, 2) := by decide +kernel
theorem dX6_ofPost_6 : decode cX6_ofPost 6 = .ok (.iconst 2, 1) := by decide +kernel
theorem dX6_ofPost_7 : decode cX6_ofPost 7 = .ok (.iload_n 1, 1) := by decide +kernel
theorem dX6_ofPost_8 : decode cX6_ofPost 8 = .ok (.imul, 1) := by decide +kernel
theorem dX6_ofPost_9 : decode cX6_ofPost 9 = .ok (.iadd, 1) := by decide +kernel
theorem dX6_ofPost_10 : decode cX6_ofPost 10 = .ok (.iload_n 2, 1) := by decide +kernel
theorem dX6_ofPost_11 : decode cX6_ofPost 11 = .ok (.iadd, 1) := by decide +kernel
theorem dX6_ofPost_12 : decode cX6_ofPost 12 = .ok (.iaload, 1) := by decide +kernel
theorem dX6_ofPost_13 : decode cX6_ofPost 13 = .ok (.ireturn, 1) := by decide +kernel
theorem dX6_ofCamel_0 : decode cX6_ofCamel 0 = .ok (.aload_n 0, 1) := by decide +kernel
theorem dX6_ofCamel_1 : decode cX6_ofCamel 1 = .ok (.getfield 9, 3) := by decide +kernel
theorem dX6_ofCamel_4 : decode cX6_ofCamel 4 = .ok (.bipush 57, 2) := by decide +kernel
theorem dX6_ofCamel_6 : decode cX6_ofCamel 6 = .ok (.iconst 4, 1) := by decide +kernel
theorem dX6_ofCamel_7 : decode cX6_ofCamel 7 = .ok (.iload_n 1, 1) := by decide +kernel
theorem dX6_ofCamel_8 : decode cX6_ofCamel 8 = .ok (.imul, 1) := by decide +kernel
theorem dX6_ofCamel_9 : decode cX6_ofCamel 9 = .ok (.iadd, 1) := by decide +kernel
theorem dX6_ofCamel_10 : decode cX6_ofCamel 10 = .ok (.iload_n 2, 1) := by decide +kernel
theorem dX6_ofCamel_11 : decode cX6_ofCamel 11 = .ok (.iadd, 1) := by decide +kernel
theorem dX6_ofCamel_12 : decode cX6_ofCamel 12 = .ok (.iaload, 1) := by decide +kernel
theorem dX6_ofCamel_13 : decode cX6_ofCamel 13 = .ok (.ireturn, 1) := by decide +kernel
theorem dX6_setsCamel_0 : decode cX6_setsCamel 0 = .ok (.aload_n 0, 1) := by decide +kernel
theorem dX6_setsCamel_1 : decode cX6_setsCamel 1 = .ok (.getfield 9, 3) := by decide +kernel
theorem dX6_setsCamel_4 : decode cX6_setsCamel 4 = .ok (.bipush 57, 2) := by decide +kernel
theorem dX6_setsCamel_6 : decode cX6_setsCamel 6 = .ok (.iconst 4, 1) := by decide +kernel
theorem dX6_setsCamel_7 : decode cX6_setsCamel 7 = .ok (.iload_n 1, 1) := by decide +kernel
theorem dX6_setsCamel_8 : decode cX6_setsCamel 8 = .ok (.imul, 1) := by decide +kernel
theorem dX6_setsCamel_9 : decode cX6_setsCamel 9 = .ok (.iadd, 1) := by decide +kernel
theorem dX6_setsCamel_10 : decode cX6_setsCamel 10 = .ok (.iload_n 2, 1) := by decide +kernel
theorem dX6_setsCamel_11 : decode cX6_setsCamel 11 = .ok (.iadd, 1) := by decide +kernel
theorem dX6_setsCamel_12 : decode cX6_setsCamel 12 = .ok (.iload_n 3, 1) := by decide +kernel
theorem dX6_setsCamel_13 : decode cX6_setsCamel 13 = .ok (.iastore, 1) := by decide +kernel
theorem dX6_setsCamel_14 : decode cX6_setsCamel 14 = .ok (.return_, 1) := by decide +kernel
theorem dX6_isLost_0 : decode cX6_isLost 0 = .ok (.aload_n 0, 1) := by decide +kernel
theorem dX6_isLost_1 : decode cX6_isLost 1 = .ok (.iload_n 1, 1) := by decide +kernel
theorem dX6_isLost_2 : decode cX6_isLost 2 = .ok (.iconst 1, 1) := by decide +kernel
theorem dX6_isLost_3 : decode cX6_isLost 3 = .ok (.invokevirtual 68, 3) := by decide +kernel
theorem dX6_isLost_6 : decode cX6_isLost 6 = .ok (.bipush 20, 2) := by decide +kernel
theorem dX6_isLost_8 : decode cX6_isLost 8 = .ok (.if_icmp .ne 7, 3) := by decide +kernel
theorem dX6_isLost_11 : decode cX6_isLost 11 = .ok (.iconst 1, 1) := by decide +kernel
theorem dX6_isLost_12 : decode cX6_isLost 12 = .ok (.goto 4, 3) := by decide +kernel
theorem dX6_isLost_15 : decode cX6_isLost 15 = .ok (.iconst 0, 1) := by decide +kernel
theorem dX6_isLost_16 : decode cX6_isLost 16 = .ok (.ireturn, 1) := by decide +kernel
theorem dX6_heatBehind_0 : decode cX6_heatBehind 0 = .ok (.aload_n 0, 1) := by decide +kernel
theorem dX6_heatBehind_1 : decode cX6_heatBehind 1 = .ok (.getfield 9, 3) := by decide +kernel
theorem dX6_heatBehind_4 : decode cX6_heatBehind 4 = .ok (.iconst 0, 1) := by decide +kernel
theorem dX6_heatBehind_5 : decode cX6_heatBehind 5 = .ok (.iaload, 1) := by decide +kernel
theorem dX6_heatBehind_6 : decode cX6_heatBehind 6 = .ok (.iload_n 1, 1) := by decide +kernel
theorem dX6_heatBehind_7 : decode cX6_heatBehind 7 = .ok (.iadd, 1) := by decide +kernel
theorem dX6_heatBehind_8 : decode cX6_heatBehind 8 = .ok (.bipush 24, 2) := by decide +kernel
theorem dX6_heatBehind_10 : decode cX6_heatBehind 10 = .ok (.irem, 1) := by decide +kernel
theorem dX6_heatBehind_11 : decode cX6_heatBehind 11 = .ok (.istore_n 2, 1) := by decide +kernel
theorem dX6_heatBehind_12 : decode cX6_heatBehind 12 = .ok (.aload_n 0, 1) := by decide +kernel
theorem dX6_heatBehind_13 : decode cX6_heatBehind 13 = .ok (.getfield 9, 3) := by decide +kernel
theorem dX6_heatBehind_16 : decode cX6_heatBehind 16 = .ok (.iconst 1, 1) := by decide +kernel
theorem dX6_heatBehind_17 : decode cX6_heatBehind 17 = .ok (.iaload, 1) := by decide +kernel
theorem dX6_heatBehind_18 : decode cX6_heatBehind 18 = .ok (.iload_n 2, 1) := by decide +kernel
theorem dX6_heatBehind_19 : decode cX6_heatBehind 19 = .ok (.bipush 24, 2) := by decide +kernel
theorem dX6_heatBehind_21 : decode cX6_heatBehind 21 = .ok (.iload_n 2, 1) := by decide +kernel
theorem dX6_heatBehind_22 : decode cX6_heatBehind 22 = .ok (.isub, 1) := by decide +kernel
theorem dX6_heatBehind_23 : decode cX6_heatBehind 23 = .ok (.invokestatic 72, 3) := by decide +kernel
theorem dX6_heatBehind_26 : decode cX6_heatBehind 26 = .ok (.imul, 1) := by decide +kernel
theorem dX6_heatBehind_27 : decode cX6_heatBehind 27 = .ok (.bipush 6, 2) := by decide +kernel
theorem dX6_heatBehind_29 : decode cX6_heatBehind 29 = .ok (.idiv, 1) := by decide +kernel
theorem dX6_heatBehind_30 : decode cX6_heatBehind 30 = .ok (.ireturn, 1) := by decide +kernel
theorem dX6_stake_0 : decode cX6_stake 0 = .ok (.aload_n 0, 1) := by decide +kernel
theorem dX6_stake_1 : decode cX6_stake 1 = .ok (.invokevirtual 77, 3) := by decide +kernel
theorem dX6_stake_4 : decode cX6_stake 4 = .ok (.iload_n 1, 1) := by decide +kernel
theorem dX6_stake_5 : decode cX6_stake 5 = .ok (.iconst 0, 1) := by decide +kernel
theorem dX6_stake_6 : decode cX6_stake 6 = .ok (.bipush 99, 2) := by decide +kernel
theorem dX6_stake_8 : decode cX6_stake 8 = .ok (.invokestatic 64, 3) := by decide +kernel
theorem dX6_stake_11 : decode cX6_stake 11 = .ok (.ifCond .ne 14, 3) := by decide +kernel
theorem dX6_stake_14 : decode cX6_stake 14 = .ok (.aload_n 0, 1) := by decide +kernel
theorem dX6_stake_15 : decode cX6_stake 15 = .ok (.aload_n 0, 1) := by decide +kernel
theorem dX6_stake_16 : decode cX6_stake 16 = .ok (.iconst 1, 1) := by decide +kernel
theorem dX6_stake_17 : decode cX6_stake 17 = .ok (.iconst 0, 1) := by decide +kernel
theorem dX6_stake_18 : decode cX6_stake 18 = .ok (.invokevirtual 80, 3) := by decide +kernel
theorem dX6_stake_21 : decode cX6_stake 21 = .ok (.invokevirtual 84, 3) := by decide +kernel
theorem dX6_stake_24 : decode cX6_stake 24 = .ok (.ireturn, 1) := by decide +kernel
theorem dX6_stake_25 : decode cX6_stake 25 = .ok (.aload_n 0, 1) := by decide +kernel
theorem dX6_stake_26 : decode cX6_stake 26 = .ok (.getfield 9, 3) := by decide +kernel
theorem dX6_stake_29 : decode cX6_stake 29 = .ok (.iconst 2, 1) := by decide +kernel
theorem dX6_stake_30 : decode cX6_stake 30 = .ok (.iaload, 1) := by decide +kernel
theorem dX6_stake_31 : decode cX6_stake 31 = .ok (.istore_n 2, 1) := by decide +kernel
theorem dX6_stake_32 : decode cX6_stake 32 = .ok (.iload_n 2, 1) := by decide +kernel
theorem dX6_stake_33 : decode cX6_stake 33 = .ok (.bipush 10, 2) := by decide +kernel
theorem dX6_stake_35 : decode cX6_stake 35 = .ok (.if_icmp .ne 15, 3) := by decide +kernel
theorem dX6_stake_38 : decode cX6_stake 38 = .ok (.aload_n 0, 1) := by decide +kernel
theorem dX6_stake_39 : decode cX6_stake 39 = .ok (.aload_n 0, 1) := by decide +kernel
theorem dX6_stake_40 : decode cX6_stake 40 = .ok (.iconst 2, 1) := by decide +kernel
theorem dX6_stake_41 : decode cX6_stake 41 = .ok (.bipush 10, 2) := by decide +kernel
theorem dX6_stake_43 : decode cX6_stake 43 = .ok (.invokevirtual 80, 3) := by decide +kernel
theorem dX6_stake_46 : decode cX6_stake 46 = .ok (.invokevirtual 84, 3) := by decide +kernel
theorem dX6_stake_49 : decode cX6_stake 49 = .ok (.ireturn, 1) := by decide +kernel
theorem dX6_stake_50 : decode cX6_stake 50 = .ok (.iconst 0, 1) := by decide +kernel
theorem dX6_stake_51 : decode cX6_stake 51 = .ok (.istore_n 3, 1) := by decide +kernel
theorem dX6_stake_52 : decode cX6_stake 52 = .ok (.iload_n 3, 1) := by decide +kernel
theorem dX6_stake_53 : decode cX6_stake 53 = .ok (.iload_n 2, 1) := by decide +kernel
theorem dX6_stake_54 : decode cX6_stake 54 = .ok (.if_icmp .ge 33, 3) := by decide +kernel
theorem dX6_stake_57 : decode cX6_stake 57 = .ok (.aload_n 0, 1) := by decide +kernel
theorem dX6_stake_58 : decode cX6_stake 58 = .ok (.getfield 9, 3) := by decide +kernel
theorem dX6_stake_61 : decode cX6_stake 61 = .ok (.bipush 9, 2) := by decide +kernel
theorem dX6_stake_63 : decode cX6_stake 63 = .ok (.iload_n 3, 1) := by decide +kernel
theorem dX6_stake_64 : decode cX6_stake 64 = .ok (.iadd, 1) := by decide +kernel
theorem dX6_stake_65 : decode cX6_stake 65 = .ok (.iaload, 1) := by decide +kernel
theorem dX6_stake_66 : decode cX6_stake 66 = .ok (.iload_n 1, 1) := by decide +kernel
theorem dX6_stake_67 : decode cX6_stake 67 = .ok (.if_icmp .ne 14, 3) := by decide +kernel
theorem dX6_stake_70 : decode cX6_stake 70 = .ok (.aload_n 0, 1) := by decide +kernel
theorem dX6_stake_71 : decode cX6_stake 71 = .ok (.aload_n 0, 1) := by decide +kernel
theorem dX6_stake_72 : decode cX6_stake 72 = .ok (.iconst 4, 1) := by decide +kernel
theorem dX6_stake_73 : decode cX6_stake 73 = .ok (.iload_n 3, 1) := by decide +kernel
theorem dX6_stake_74 : decode cX6_stake 74 = .ok (.invokevirtual 80, 3) := by decide +kernel
theorem dX6_stake_77 : decode cX6_stake 77 = .ok (.invokevirtual 84, 3) := by decide +kernel
theorem dX6_stake_80 : decode cX6_stake 80 = .ok (.ireturn, 1) := by decide +kernel
theorem dX6_stake_81 : decode cX6_stake 81 = .ok (.iinc 3 1, 3) := by decide +kernel
theorem dX6_stake_84 : decode cX6_stake 84 = .ok (.goto (-32), 3) := by decide +kernel
theorem dX6_stake_87 : decode cX6_stake 87 = .ok (.aload_n 0, 1) := by decide +kernel
theorem dX6_stake_88 : decode cX6_stake 88 = .ok (.getfield 9, 3) := by decide +kernel
theorem dX6_stake_91 : decode cX6_stake 91 = .ok (.iconst 2, 1) := by decide +kernel
theorem dX6_stake_92 : decode cX6_stake 92 = .ok (.dup2, 1) := by decide +kernel
theorem dX6_stake_93 : decode cX6_stake 93 = .ok (.iaload, 1) := by decide +kernel
theorem dX6_stake_94 : decode cX6_stake 94 = .ok (.iconst 1, 1) := by decide +kernel
theorem dX6_stake_95 : decode cX6_stake 95 = .ok (.iadd, 1) := by decide +kernel
theorem dX6_stake_96 : decode cX6_stake 96 = .ok (.iastore, 1) := by decide +kernel
theorem dX6_stake_97 : decode cX6_stake 97 = .ok (.aload_n 0, 1) := by decide +kernel
theorem dX6_stake_98 : decode cX6_stake 98 = .ok (.getfield 9, 3) := by decide +kernel
theorem dX6_stake_101 : decode cX6_stake 101 = .ok (.bipush 9, 2) := by decide +kernel
theorem dX6_stake_103 : decode cX6_stake 103 = .ok (.iload_n 2, 1) := by decide +kernel
theorem dX6_stake_104 : decode cX6_stake 104 = .ok (.iadd, 1) := by decide +kernel
theorem dX6_stake_105 : decode cX6_stake 105 = .ok (.iload_n 1, 1) := by decide +kernel
theorem dX6_stake_106 : decode cX6_stake 106 = .ok (.iastore, 1) := by decide +kernel
theorem dX6_stake_107 : decode cX6_stake 107 = .ok (.aload_n 0, 1) := by decide +kernel
theorem dX6_stake_108 : decode cX6_stake 108 = .ok (.iload_n 2, 1) := by decide +kernel
theorem dX6_stake_109 : decode cX6_stake 109 = .ok (.invokevirtual 57, 3) := by decide +kernel
theorem dX6_stake_112 : decode cX6_stake 112 = .ok (.ireturn, 1) := by decide +kernel
theorem dX6_post_0 : decode cX6_post 0 = .ok (.aload_n 0, 1) := by decide +kernel
theorem dX6_post_1 : decode cX6_post 1 = .ok (.invokevirtual 77, 3) := by decide +kernel
theorem dX6_post_4 : decode cX6_post 4 = .ok (.iload_n 1, 1) := by decide +kernel
theorem dX6_post_5 : decode cX6_post 5 = .ok (.iconst 0, 1) := by decide +kernel
theorem dX6_post_6 : decode cX6_post 6 = .ok (.bipush 99, 2) := by decide +kernel
theorem dX6_post_8 : decode cX6_post 8 = .ok (.invokestatic 64, 3) := by decide +kernel
theorem dX6_post_11 : decode cX6_post 11 = .ok (.ifCond .eq 13, 3) := by decide +kernel
theorem dX6_post_14 : decode cX6_post 14 = .ok (.iload_n 2, 1) := by decide +kernel
theorem dX6_post_15 : decode cX6_post 15 = .ok (.iconst 1, 1) := by decide +kernel
theorem dX6_post_16 : decode cX6_post 16 = .ok (.bipush 9, 2) := by decide +kernel
theorem dX6_post_18 : decode cX6_post 18 = .ok (.invokestatic 64, 3) := by decide +kernel
theorem dX6_post_21 : decode cX6_post 21 = .ok (.ifCond .ne 14, 3) := by decide +kernel
theorem dX6_post_24 : decode cX6_post 24 = .ok (.aload_n 0, 1) := by decide +kernel
theorem dX6_post_25 : decode cX6_post 25 = .ok (.aload_n 0, 1) := by decide +kernel
theorem dX6_post_26 : decode cX6_post 26 = .ok (.iconst 1, 1) := by decide +kernel
theorem dX6_post_27 : decode cX6_post 27 = .ok (.iconst 0, 1) := by decide +kernel
theorem dX6_post_28 : decode cX6_post 28 = .ok (.invokevirtual 80, 3) := by decide +kernel
theorem dX6_post_31 : decode cX6_post 31 = .ok (.invokevirtual 84, 3) := by decide +kernel
theorem dX6_post_34 : decode cX6_post 34 = .ok (.ireturn, 1) := by decide +kernel
theorem dX6_post_35 : decode cX6_post 35 = .ok (.aload_n 0, 1) := by decide +kernel
theorem dX6_post_36 : decode cX6_post 36 = .ok (.getfield 9, 3) := by decide +kernel
theorem dX6_post_39 : decode cX6_post 39 = .ok (.iconst 3, 1) := by decide +kernel
theorem dX6_post_40 : decode cX6_post 40 = .ok (.iaload, 1) := by decide +kernel
theorem dX6_post_41 : decode cX6_post 41 = .ok (.istore_n 3, 1) := by decide +kernel
theorem dX6_post_42 : decode cX6_post 42 = .ok (.iload_n 3, 1) := by decide +kernel
theorem dX6_post_43 : decode cX6_post 43 = .ok (.iconst 4, 1) := by decide +kernel
theorem dX6_post_44 : decode cX6_post 44 = .ok (.if_icmp .ne 14, 3) := by decide +kernel
theorem dX6_post_47 : decode cX6_post 47 = .ok (.aload_n 0, 1) := by decide +kernel
theorem dX6_post_48 : decode cX6_post 48 = .ok (.aload_n 0, 1) := by decide +kernel
theorem dX6_post_49 : decode cX6_post 49 = .ok (.iconst 2, 1) := by decide +kernel
theorem dX6_post_50 : decode cX6_post 50 = .ok (.iconst 4, 1) := by decide +kernel
theorem dX6_post_51 : decode cX6_post 51 = .ok (.invokevirtual 80, 3) := by decide +kernel
theorem dX6_post_54 : decode cX6_post 54 = .ok (.invokevirtual 84, 3) := by decide +kernel
theorem dX6_post_57 : decode cX6_post 57 = .ok (.ireturn, 1) := by decide +kernel
theorem dX6_post_58 : decode cX6_post 58 = .ok (.aload_n 0, 1) := by decide +kernel
theorem dX6_post_59 : decode cX6_post 59 = .ok (.getfield 9, 3) := by decide +kernel
theorem dX6_post_62 : decode cX6_post 62 = .ok (.iconst 3, 1) := by decide +kernel
theorem dX6_post_63 : decode cX6_post 63 = .ok (.dup2, 1) := by decide +kernel
theorem dX6_post_64 : decode cX6_post 64 = .ok (.iaload, 1) := by decide +kernel
theorem dX6_post_65 : decode cX6_post 65 = .ok (.iconst 1, 1) := by decide +kernel
theorem dX6_post_66 : decode cX6_post 66 = .ok (.iadd, 1) := by decide +kernel
theorem dX6_post_67 : decode cX6_post 67 = .ok (.iastore, 1) := by decide +kernel
theorem dX6_post_68 : decode cX6_post 68 = .ok (.aload_n 0, 1) := by decide +kernel
theorem dX6_post_69 : decode cX6_post 69 = .ok (.getfield 9, 3) := by decide +kernel
theorem dX6_post_72 : decode cX6_post 72 = .ok (.bipush 19, 2) := by decide +kernel
theorem dX6_post_74 : decode cX6_post 74 = .ok (.iconst 2, 1) := by decide +kernel
theorem dX6_post_75 : decode cX6_post 75 = .ok (.iload_n 3, 1) := by decide +kernel
theorem dX6_post_76 : decode cX6_post 76 = .ok (.imul, 1) := by decide +kernel
theorem dX6_post_77 : decode cX6_post 77 = .ok (.iadd, 1) := by decide +kernel
theorem dX6_post_78 : decode cX6_post 78 = .ok (.iload_n 1, 1) := by decide +kernel
theorem dX6_post_79 : decode cX6_post 79 = .ok (.iastore, 1) := by decide +kernel
theorem dX6_post_80 : decode cX6_post 80 = .ok (.aload_n 0, 1) := by decide +kernel
theorem dX6_post_81 : decode cX6_post 81 = .ok (.getfield 9, 3) := by decide +kernel
theorem dX6_post_84 : decode cX6_post 84 = .ok (.bipush 19, 2) := by decide +kernel
theorem dX6_post_86 : decode cX6_post 86 = .ok (.iconst 2, 1) := by decide +kernel
theorem dX6_post_87 : decode cX6_post 87 = .ok (.iload_n 3, 1) := by decide +kernel
theorem dX6_post_88 : decode cX6_post 88 = .ok (.imul, 1) := by decide +kernel
theorem dX6_post_89 : decode cX6_post 89 = .ok (.iadd, 1) := by decide +kernel
theorem dX6_post_90 : decode cX6_post 90 = .ok (.iconst 1, 1) := by decide +kernel
theorem dX6_post_91 : decode cX6_post 91 = .ok (.iadd, 1) := by decide +kernel
theorem dX6_post_92 : decode cX6_post 92 = .ok (.iload_n 2, 1) := by decide +kernel
theorem dX6_post_93 : decode cX6_post 93 = .ok (.iastore, 1) := by decide +kernel
theorem dX6_post_94 : decode cX6_post 94 = .ok (.aload_n 0, 1) := by decide +kernel
theorem dX6_post_95 : decode cX6_post 95 = .ok (.iload_n 3, 1) := by decide +kernel
theorem dX6_post_96 : decode cX6_post 96 = .ok (.invokevirtual 57, 3) := by decide +kernel
theorem dX6_post_99 : decode cX6_post 99 = .ok (.ireturn, 1) := by decide +kernel
theorem dX6_sheet_0 : decode cX6_sheet 0 = .ok (.aload_n 0, 1) := by decide +kernel
theorem dX6_sheet_1 : decode cX6_sheet 1 = .ok (.invokevirtual 77, 3) := by decide +kernel
theorem dX6_sheet_4 : decode cX6_sheet 4 = .ok (.aload_n 0, 1) := by decide +kernel
theorem dX6_sheet_5 : decode cX6_sheet 5 = .ok (.getfield 9, 3) := by decide +kernel
theorem dX6_sheet_8 : decode cX6_sheet 8 = .ok (.iconst 4, 1) := by decide +kernel
theorem dX6_sheet_9 : decode cX6_sheet 9 = .ok (.iaload, 1) := by decide +kernel
theorem dX6_sheet_10 : decode cX6_sheet 10 = .ok (.istore_n 1, 1) := by decide +kernel
theorem dX6_sheet_11 : decode cX6_sheet 11 = .ok (.iload_n 1, 1) := by decide +kernel
theorem dX6_sheet_12 : decode cX6_sheet 12 = .ok (.iconst 3, 1) := by decide +kernel
theorem dX6_sheet_13 : decode cX6_sheet 13 = .ok (.if_icmp .ne 14, 3) := by decide +kernel
theorem dX6_sheet_16 : decode cX6_sheet 16 = .ok (.aload_n 0, 1) := by decide +kernel
theorem dX6_sheet_17 : decode cX6_sheet 17 = .ok (.aload_n 0, 1) := by decide +kernel
theorem dX6_sheet_18 : decode cX6_sheet 18 = .ok (.iconst 2, 1) := by decide +kernel
theorem dX6_sheet_19 : decode cX6_sheet 19 = .ok (.iconst 3, 1) := by decide +kernel
theorem dX6_sheet_20 : decode cX6_sheet 20 = .ok (.invokevirtual 80, 3) := by decide +kernel
theorem dX6_sheet_23 : decode cX6_sheet 23 = .ok (.invokevirtual 84, 3) := by decide +kernel
theorem dX6_sheet_26 : decode cX6_sheet 26 = .ok (.ireturn, 1) := by decide +kernel
theorem dX6_sheet_27 : decode cX6_sheet 27 = .ok (.aload_n 0, 1) := by decide +kernel
theorem dX6_sheet_28 : decode cX6_sheet 28 = .ok (.getfield 9, 3) := by decide +kernel
theorem dX6_sheet_31 : decode cX6_sheet 31 = .ok (.iconst 4, 1) := by decide +kernel
theorem dX6_sheet_32 : decode cX6_sheet 32 = .ok (.dup2, 1) := by decide +kernel
theorem dX6_sheet_33 : decode cX6_sheet 33 = .ok (.iaload, 1) := by decide +kernel
theorem dX6_sheet_34 : decode cX6_sheet 34 = .ok (.iconst 1, 1) := by decide +kernel
theorem dX6_sheet_35 : decode cX6_sheet 35 = .ok (.iadd, 1) := by decide +kernel
theorem dX6_sheet_36 : decode cX6_sheet 36 = .ok (.iastore, 1) := by decide +kernel
theorem dX6_sheet_37 : decode cX6_sheet 37 = .ok (.iconst 0, 1) := by decide +kernel
theorem dX6_sheet_38 : decode cX6_sheet 38 = .ok (.istore_n 2, 1) := by decide +kernel
theorem dX6_sheet_39 : decode cX6_sheet 39 = .ok (.iload_n 2, 1) := by decide +kernel
theorem dX6_sheet_40 : decode cX6_sheet 40 = .ok (.bipush 10, 2) := by decide +kernel
theorem dX6_sheet_42 : decode cX6_sheet 42 = .ok (.if_icmp .ge 24, 3) := by decide +kernel
theorem dX6_sheet_45 : decode cX6_sheet 45 = .ok (.aload_n 0, 1) := by decide +kernel
theorem dX6_sheet_46 : decode cX6_sheet 46 = .ok (.getfield 9, 3) := by decide +kernel
theorem dX6_sheet_49 : decode cX6_sheet 49 = .ok (.bipush 27, 2) := by decide +kernel
theorem dX6_sheet_51 : decode cX6_sheet 51 = .ok (.bipush 10, 2) := by decide +kernel
theorem dX6_sheet_53 : decode cX6_sheet 53 = .ok (.iload_n 1, 1) := by decide +kernel
theorem dX6_sheet_54 : decode cX6_sheet 54 = .ok (.imul, 1) := by decide +kernel
theorem dX6_sheet_55 : decode cX6_sheet 55 = .ok (.iadd, 1) := by decide +kernel
theorem dX6_sheet_56 : decode cX6_sheet 56 = .ok (.iload_n 2, 1) := by decide +kernel
theorem dX6_sheet_57 : decode cX6_sheet 57 = .ok (.iadd, 1) := by decide +kernel
theorem dX6_sheet_58 : decode cX6_sheet 58 = .ok (.iconst 0, 1) := by decide +kernel
theorem dX6_sheet_59 : decode cX6_sheet 59 = .ok (.iastore, 1) := by decide +kernel
theorem dX6_sheet_60 : decode cX6_sheet 60 = .ok (.iinc 2 1, 3) := by decide +kernel
theorem dX6_sheet_63 : decode cX6_sheet 63 = .ok (.goto (-24), 3) := by decide +kernel
theorem dX6_sheet_66 : decode cX6_sheet 66 = .ok (.aload_n 0, 1) := by decide +kernel
theorem dX6_sheet_67 : decode cX6_sheet 67 = .ok (.iload_n 1, 1) := by decide +kernel
theorem dX6_sheet_68 : decode cX6_sheet 68 = .ok (.invokevirtual 57, 3) := by decide +kernel
theorem dX6_sheet_71 : decode cX6_sheet 71 = .ok (.ireturn, 1) := by decide +kernel
theorem dX6_heat_0 : decode cX6_heat 0 = .ok (.aload_n 0, 1) := by decide +kernel
theorem dX6_heat_1 : decode cX6_heat 1 = .ok (.invokevirtual 77, 3) := by decide +kernel
theorem dX6_heat_4 : decode cX6_heat 4 = .ok (.iload_n 1, 1) := by decide +kernel
theorem dX6_heat_5 : decode cX6_heat 5 = .ok (.iconst 0, 1) := by decide +kernel
theorem dX6_heat_6 : decode cX6_heat 6 = .ok (.bipush 9, 2) := by decide +kernel
theorem dX6_heat_8 : decode cX6_heat 8 = .ok (.invokestatic 64, 3) := by decide +kernel
theorem dX6_heat_11 : decode cX6_heat 11 = .ok (.ifCond .ne 14, 3) := by decide +kernel
theorem dX6_heat_14 : decode cX6_heat 14 = .ok (.aload_n 0, 1) := by decide +kernel
theorem dX6_heat_15 : decode cX6_heat 15 = .ok (.aload_n 0, 1) := by decide +kernel
theorem dX6_heat_16 : decode cX6_heat 16 = .ok (.iconst 1, 1) := by decide +kernel
theorem dX6_heat_17 : decode cX6_heat 17 = .ok (.iconst 0, 1) := by decide +kernel
theorem dX6_heat_18 : decode cX6_heat 18 = .ok (.invokevirtual 80, 3) := by decide +kernel
theorem dX6_heat_21 : decode cX6_heat 21 = .ok (.invokevirtual 84, 3) := by decide +kernel
theorem dX6_heat_24 : decode cX6_heat 24 = .ok (.ireturn, 1) := by decide +kernel
theorem dX6_heat_25 : decode cX6_heat 25 = .ok (.aload_n 0, 1) := by decide +kernel
theorem dX6_heat_26 : decode cX6_heat 26 = .ok (.getfield 9, 3) := by decide +kernel
theorem dX6_heat_29 : decode cX6_heat 29 = .ok (.iconst 1, 1) := by decide +kernel
theorem dX6_heat_30 : decode cX6_heat 30 = .ok (.iload_n 1, 1) := by decide +kernel
theorem dX6_heat_31 : decode cX6_heat 31 = .ok (.iastore, 1) := by decide +kernel
theorem dX6_heat_32 : decode cX6_heat 32 = .ok (.aload_n 0, 1) := by decide +kernel
theorem dX6_heat_33 : decode cX6_heat 33 = .ok (.aload_n 0, 1) := by decide +kernel
theorem dX6_heat_34 : decode cX6_heat 34 = .ok (.iconst 0, 1) := by decide +kernel
theorem dX6_heat_35 : decode cX6_heat 35 = .ok (.invokevirtual 88, 3) := by decide +kernel
theorem dX6_heat_38 : decode cX6_heat 38 = .ok (.invokevirtual 57, 3) := by decide +kernel
theorem dX6_heat_41 : decode cX6_heat 41 = .ok (.ireturn, 1) := by decide +kernel
theorem dX6_far_0 : decode cX6_far 0 = .ok (.aload_n 0, 1) := by decide +kernel
theorem dX6_far_1 : decode cX6_far 1 = .ok (.getfield 9, 3) := by decide +kernel
theorem dX6_far_4 : decode cX6_far 4 = .ok (.bipush 9, 2) := by decide +kernel
theorem dX6_far_6 : decode cX6_far 6 = .ok (.iload_n 1, 1) := by decide +kernel
theorem dX6_far_7 : decode cX6_far 7 = .ok (.iadd, 1) := by decide +kernel
theorem dX6_far_8 : decode cX6_far 8 = .ok (.iaload, 1) := by decide +kernel
theorem dX6_far_9 : decode cX6_far 9 = .ok (.aload_n 0, 1) := by decide +kernel
theorem dX6_far_10 : decode cX6_far 10 = .ok (.iload_n 2, 1) := by decide +kernel
theorem dX6_far_11 : decode cX6_far 11 = .ok (.iconst 0, 1) := by decide +kernel
theorem dX6_far_12 : decode cX6_far 12 = .ok (.invokevirtual 91, 3) := by decide +kernel
theorem dX6_far_15 : decode cX6_far 15 = .ok (.isub, 1) := by decide +kernel
theorem dX6_far_16 : decode cX6_far 16 = .ok (.invokestatic 94, 3) := by decide +kernel
theorem dX6_far_19 : decode cX6_far 19 = .ok (.ireturn, 1) := by decide +kernel
theorem dX6_shimmersBy_0 : decode cX6_shimmersBy 0 = .ok (.iload_n 3, 1) := by decide +kernel
theorem dX6_shimmersBy_1 : decode cX6_shimmersBy 1 = .ok (.aload_n 0, 1) := by decide +kernel
theorem dX6_shimmersBy_2 : decode cX6_shimmersBy 2 = .ok (.iload_n 1, 1) := by decide +kernel
theorem dX6_shimmersBy_3 : decode cX6_shimmersBy 3 = .ok (.iload_n 2, 1) := by decide +kernel
theorem dX6_shimmersBy_4 : decode cX6_shimmersBy 4 = .ok (.invokevirtual 97, 3) := by decide +kernel
theorem dX6_shimmersBy_7 : decode cX6_shimmersBy 7 = .ok (.imul, 1) := by decide +kernel
theorem dX6_shimmersBy_8 : decode cX6_shimmersBy 8 = .ok (.bipush 10, 2) := by decide +kernel
theorem dX6_shimmersBy_10 : decode cX6_shimmersBy 10 = .ok (.idiv, 1) := by decide +kernel
theorem dX6_shimmersBy_11 : decode cX6_shimmersBy 11 = .ok (.iconst 2, 1) := by decide +kernel
theorem dX6_shimmersBy_12 : decode cX6_shimmersBy 12 = .ok (.aload_n 0, 1) := by decide +kernel
theorem dX6_shimmersBy_13 : decode cX6_shimmersBy 13 = .ok (.iload_n 2, 1) := by decide +kernel
theorem dX6_shimmersBy_14 : decode cX6_shimmersBy 14 = .ok (.iconst 1, 1) := by decide +kernel
theorem dX6_shimmersBy_15 : decode cX6_shimmersBy 15 = .ok (.invokevirtual 91, 3) := by decide +kernel
theorem dX6_shimmersBy_18 : decode cX6_shimmersBy 18 = .ok (.imul, 1) := by decide +kernel
theorem dX6_shimmersBy_19 : decode cX6_shimmersBy 19 = .ok (.if_icmp .le 7, 3) := by decide +kernel
theorem dX6_shimmersBy_22 : decode cX6_shimmersBy 22 = .ok (.iconst 1, 1) := by decide +kernel
theorem dX6_shimmersBy_23 : decode cX6_shimmersBy 23 = .ok (.goto 4, 3) := by decide +kernel
theorem dX6_shimmersBy_26 : decode cX6_shimmersBy 26 = .ok (.iconst 0, 1) := by decide +kernel
theorem dX6_shimmersBy_27 : decode cX6_shimmersBy 27 = .ok (.ireturn, 1) := by decide +kernel
theorem dX6_seemsFrom_0 : decode cX6_seemsFrom 0 = .ok (.aload_n 0, 1) := by decide +kernel
theorem dX6_seemsFrom_1 : decode cX6_seemsFrom 1 = .ok (.getfield 9, 3) := by decide +kernel
theorem dX6_seemsFrom_4 : decode cX6_seemsFrom 4 = .ok (.bipush 9, 2) := by decide +kernel
theorem dX6_seemsFrom_6 : decode cX6_seemsFrom 6 = .ok (.iload_n 1, 1) := by decide +kernel
theorem dX6_seemsFrom_7 : decode cX6_seemsFrom 7 = .ok (.iadd, 1) := by decide +kernel
theorem dX6_seemsFrom_8 : decode cX6_seemsFrom 8 = .ok (.iaload, 1) := by decide +kernel
theorem dX6_seemsFrom_9 : decode cX6_seemsFrom 9 = .ok (.istore_n 3, 1) := by decide +kernel
theorem dX6_seemsFrom_10 : decode cX6_seemsFrom 10 = .ok (.aload_n 0, 1) := by decide +kernel
theorem dX6_seemsFrom_11 : decode cX6_seemsFrom 11 = .ok (.iload_n 2, 1) := by decide +kernel
theorem dX6_seemsFrom_12 : decode cX6_seemsFrom 12 = .ok (.iconst 0, 1) := by decide +kernel
theorem dX6_seemsFrom_13 : decode cX6_seemsFrom 13 = .ok (.invokevirtual 91, 3) := by decide +kernel
theorem dX6_seemsFrom_16 : decode cX6_seemsFrom 16 = .ok (.istore 4, 2) := by decide +kernel
theorem dX6_seemsFrom_18 : decode cX6_seemsFrom 18 = .ok (.aload_n 0, 1) := by decide +kernel
theorem dX6_seemsFrom_19 : decode cX6_seemsFrom 19 = .ok (.iconst 0, 1) := by decide +kernel
theorem dX6_seemsFrom_20 : decode cX6_seemsFrom 20 = .ok (.invokevirtual 88, 3) := by decide +kernel
theorem dX6_seemsFrom_23 : decode cX6_seemsFrom 23 = .ok (.aload_n 0, 1) := by decide +kernel
theorem dX6_seemsFrom_24 : decode cX6_seemsFrom 24 = .ok (.iload_n 1, 1) := by decide +kernel
theorem dX6_seemsFrom_25 : decode cX6_seemsFrom 25 = .ok (.iload_n 2, 1) := by decide +kernel
theorem dX6_seemsFrom_26 : decode cX6_seemsFrom 26 = .ok (.invokevirtual 97, 3) := by decide +kernel
theorem dX6_seemsFrom_29 : decode cX6_seemsFrom 29 = .ok (.imul, 1) := by decide +kernel
theorem dX6_seemsFrom_30 : decode cX6_seemsFrom 30 = .ok (.bipush 50, 2) := by decide +kernel
theorem dX6_seemsFrom_32 : decode cX6_seemsFrom 32 = .ok (.idiv, 1) := by decide +kernel
theorem dX6_seemsFrom_33 : decode cX6_seemsFrom 33 = .ok (.istore 5, 2) := by decide +kernel
theorem dX6_seemsFrom_35 : decode cX6_seemsFrom 35 = .ok (.aload_n 0, 1) := by decide +kernel
theorem dX6_seemsFrom_36 : decode cX6_seemsFrom 36 = .ok (.getfield 9, 3) := by decide +kernel
theorem dX6_seemsFrom_39 : decode cX6_seemsFrom 39 = .ok (.iconst 0, 1) := by decide +kernel
theorem dX6_seemsFrom_40 : decode cX6_seemsFrom 40 = .ok (.iaload, 1) := by decide +kernel
theorem dX6_seemsFrom_41 : decode cX6_seemsFrom 41 = .ok (.bipush 24, 2) := by decide +kernel
theorem dX6_seemsFrom_43 : decode cX6_seemsFrom 43 = .ok (.irem, 1) := by decide +kernel
theorem dX6_seemsFrom_44 : decode cX6_seemsFrom 44 = .ok (.bipush 12, 2) := by decide +kernel
theorem dX6_seemsFrom_46 : decode cX6_seemsFrom 46 = .ok (.if_icmp .lt 7, 3) := by decide +kernel
theorem dX6_seemsFrom_49 : decode cX6_seemsFrom 49 = .ok (.iconst 1, 1) := by decide +kernel
theorem dX6_seemsFrom_50 : decode cX6_seemsFrom 50 = .ok (.goto 4, 3) := by decide +kernel
theorem dX6_seemsFrom_53 : decode cX6_seemsFrom 53 = .ok (.iconst 0, 1) := by decide +kernel
theorem dX6_seemsFrom_54 : decode cX6_seemsFrom 54 = .ok (.istore 6, 2) := by decide +kernel
theorem dX6_seemsFrom_56 : decode cX6_seemsFrom 56 = .ok (.iload_n 3, 1) := by decide +kernel
theorem dX6_seemsFrom_57 : decode cX6_seemsFrom 57 = .ok (.iload 4, 2) := by decide +kernel
theorem dX6_seemsFrom_59 : decode cX6_seemsFrom 59 = .ok (.if_icmp .le 7, 3) := by decide +kernel
theorem dX6_seemsFrom_62 : decode cX6_seemsFrom 62 = .ok (.iconst 1, 1) := by decide +kernel
theorem dX6_seemsFrom_63 : decode cX6_seemsFrom 63 = .ok (.goto 4, 3) := by decide +kernel
theorem dX6_seemsFrom_66 : decode cX6_seemsFrom 66 = .ok (.iconst 0, 1) := by decide +kernel
theorem dX6_seemsFrom_67 : decode cX6_seemsFrom 67 = .ok (.iload 6, 2) := by decide +kernel
theorem dX6_seemsFrom_69 : decode cX6_seemsFrom 69 = .ok (.if_icmp .ne 10, 3) := by decide +kernel
theorem dX6_seemsFrom_72 : decode cX6_seemsFrom 72 = .ok (.iload_n 3, 1) := by decide +kernel
theorem dX6_seemsFrom_73 : decode cX6_seemsFrom 73 = .ok (.iload 5, 2) := by decide +kernel
theorem dX6_seemsFrom_75 : decode cX6_seemsFrom 75 = .ok (.isub, 1) := by decide +kernel
theorem dX6_seemsFrom_76 : decode cX6_seemsFrom 76 = .ok (.goto 7, 3) := by decide +kernel
theorem dX6_seemsFrom_79 : decode cX6_seemsFrom 79 = .ok (.iload_n 3, 1) := by decide +kernel
theorem dX6_seemsFrom_80 : decode cX6_seemsFrom 80 = .ok (.iload 5, 2) := by decide +kernel
theorem dX6_seemsFrom_82 : decode cX6_seemsFrom 82 = .ok (.iadd, 1) := by decide +kernel
theorem dX6_seemsFrom_83 : decode cX6_seemsFrom 83 = .ok (.istore 7, 2) := by decide +kernel
theorem dX6_seemsFrom_85 : decode cX6_seemsFrom 85 = .ok (.iload_n 3, 1) := by decide +kernel
theorem dX6_seemsFrom_86 : decode cX6_seemsFrom 86 = .ok (.iload 4, 2) := by decide +kernel
theorem dX6_seemsFrom_88 : decode cX6_seemsFrom 88 = .ok (.if_icmp .ne 7, 3) := by decide +kernel
theorem dX6_seemsFrom_91 : decode cX6_seemsFrom 91 = .ok (.iload_n 3, 1) := by decide +kernel
theorem dX6_seemsFrom_92 : decode cX6_seemsFrom 92 = .ok (.goto 14, 3) := by decide +kernel
theorem dX6_seemsFrom_95 : decode cX6_seemsFrom 95 = .ok (.iconst 0, 1) := by decide +kernel
theorem dX6_seemsFrom_96 : decode cX6_seemsFrom 96 = .ok (.bipush 99, 2) := by decide +kernel
theorem dX6_seemsFrom_98 : decode cX6_seemsFrom 98 = .ok (.iload 7, 2) := by decide +kernel
theorem dX6_seemsFrom_100 : decode cX6_seemsFrom 100 = .ok (.invokestatic 72, 3) := by decide +kernel
theorem dX6_seemsFrom_103 : decode cX6_seemsFrom 103 = .ok (.invokestatic 100, 3) := by decide +kernel
theorem dX6_seemsFrom_106 : decode cX6_seemsFrom 106 = .ok (.ireturn, 1) := by decide +kernel
theorem dX6_drawn_0 : decode cX6_drawn 0 = .ok (.aload_n 0, 1) := by decide +kernel
theorem dX6_drawn_1 : decode cX6_drawn 1 = .ok (.getfield 9, 3) := by decide +kernel
theorem dX6_drawn_4 : decode cX6_drawn 4 = .ok (.bipush 27, 2) := by decide +kernel
theorem dX6_drawn_6 : decode cX6_drawn 6 = .ok (.bipush 10, 2) := by decide +kernel
theorem dX6_drawn_8 : decode cX6_drawn 8 = .ok (.iload_n 2, 1) := by decide +kernel
theorem dX6_drawn_9 : decode cX6_drawn 9 = .ok (.imul, 1) := by decide +kernel
theorem dX6_drawn_10 : decode cX6_drawn 10 = .ok (.iadd, 1) := by decide +kernel
theorem dX6_drawn_11 : decode cX6_drawn 11 = .ok (.iload_n 1, 1) := by decide +kernel
theorem dX6_drawn_12 : decode cX6_drawn 12 = .ok (.iadd, 1) := by decide +kernel
theorem dX6_drawn_13 : decode cX6_drawn 13 = .ok (.iaload, 1) := by decide +kernel
theorem dX6_drawn_14 : decode cX6_drawn 14 = .ok (.iconst 1, 1) := by decide +kernel
theorem dX6_drawn_15 : decode cX6_drawn 15 = .ok (.isub, 1) := by decide +kernel
theorem dX6_drawn_16 : decode cX6_drawn 16 = .ok (.ireturn, 1) := by decide +kernel
theorem dX6_sights_0 : decode cX6_sights 0 = .ok (.aload_n 0, 1) := by decide +kernel
theorem dX6_sights_1 : decode cX6_sights 1 = .ok (.iload_n 1, 1) := by decide +kernel
theorem dX6_sights_2 : decode cX6_sights 2 = .ok (.invokevirtual 103, 3) := by decide +kernel
theorem dX6_sights_5 : decode cX6_sights 5 = .ok (.ifCond .ne 10, 3) := by decide +kernel
theorem dX6_sights_8 : decode cX6_sights 8 = .ok (.aload_n 0, 1) := by decide +kernel
theorem dX6_sights_9 : decode cX6_sights 9 = .ok (.iconst 3, 1) := by decide +kernel
theorem dX6_sights_10 : decode cX6_sights 10 = .ok (.iload_n 1, 1) := by decide +kernel
theorem dX6_sights_11 : decode cX6_sights 11 = .ok (.invokevirtual 80, 3) := by decide +kernel
theorem dX6_sights_14 : decode cX6_sights 14 = .ok (.ireturn, 1) := by decide +kernel
theorem dX6_sights_15 : decode cX6_sights 15 = .ok (.aload_n 0, 1) := by decide +kernel
theorem dX6_sights_16 : decode cX6_sights 16 = .ok (.iload_n 2, 1) := by decide +kernel
theorem dX6_sights_17 : decode cX6_sights 17 = .ok (.invokevirtual 107, 3) := by decide +kernel
theorem dX6_sights_20 : decode cX6_sights 20 = .ok (.ifCond .ne 10, 3) := by decide +kernel
theorem dX6_sights_23 : decode cX6_sights 23 = .ok (.aload_n 0, 1) := by decide +kernel
theorem dX6_sights_24 : decode cX6_sights 24 = .ok (.iconst 3, 1) := by decide +kernel
theorem dX6_sights_25 : decode cX6_sights 25 = .ok (.iload_n 2, 1) := by decide +kernel
theorem dX6_sights_26 : decode cX6_sights 26 = .ok (.invokevirtual 80, 3) := by decide +kernel
theorem dX6_sights_29 : decode cX6_sights 29 = .ok (.ireturn, 1) := by decide +kernel
theorem dX6_sights_30 : decode cX6_sights 30 = .ok (.aload_n 0, 1) := by decide +kernel
theorem dX6_sights_31 : decode cX6_sights 31 = .ok (.iload_n 3, 1) := by decide +kernel
theorem dX6_sights_32 : decode cX6_sights 32 = .ok (.invokevirtual 110, 3) := by decide +kernel
theorem dX6_sights_35 : decode cX6_sights 35 = .ok (.ifCond .ne 10, 3) := by decide +kernel
theorem dX6_sights_38 : decode cX6_sights 38 = .ok (.aload_n 0, 1) := by decide +kernel
theorem dX6_sights_39 : decode cX6_sights 39 = .ok (.iconst 3, 1) := by decide +kernel
theorem dX6_sights_40 : decode cX6_sights 40 = .ok (.iload_n 3, 1) := by decide +kernel
theorem dX6_sights_41 : decode cX6_sights 41 = .ok (.invokevirtual 80, 3) := by decide +kernel
theorem dX6_sights_44 : decode cX6_sights 44 = .ok (.ireturn, 1) := by decide +kernel
theorem dX6_sights_45 : decode cX6_sights 45 = .ok (.iconst 0, 1) := by decide +kernel
theorem dX6_sights_46 : decode cX6_sights 46 = .ok (.istore 4, 2) := by decide +kernel
theorem dX6_sights_48 : decode cX6_sights 48 = .ok (.aload_n 0, 1) := by decide +kernel
theorem dX6_sights_49 : decode cX6_sights 49 = .ok (.iload_n 1, 1) := by decide +kernel
theorem dX6_sights_50 : decode cX6_sights 50 = .ok (.iload_n 2, 1) := by decide +kernel
theorem dX6_sights_51 : decode cX6_sights 51 = .ok (.aload_n 0, 1) := by decide +kernel
theorem dX6_sights_52 : decode cX6_sights 52 = .ok (.iconst 0, 1) := by decide +kernel
theorem dX6_sights_53 : decode cX6_sights 53 = .ok (.invokevirtual 88, 3) := by decide +kernel
theorem dX6_sights_56 : decode cX6_sights 56 = .ok (.iload 4, 2) := by decide +kernel
theorem dX6_sights_58 : decode cX6_sights 58 = .ok (.isub, 1) := by decide +kernel
theorem dX6_sights_59 : decode cX6_sights 59 = .ok (.invokevirtual 113, 3) := by decide +kernel
theorem dX6_sights_62 : decode cX6_sights 62 = .ok (.ifCond .eq 9, 3) := by decide +kernel
theorem dX6_sights_65 : decode cX6_sights 65 = .ok (.iinc 4 1, 3) := by decide +kernel
theorem dX6_sights_68 : decode cX6_sights 68 = .ok (.goto (-20), 3) := by decide +kernel
theorem dX6_sights_71 : decode cX6_sights 71 = .ok (.iload 4, 2) := by decide +kernel
theorem dX6_sights_73 : decode cX6_sights 73 = .ok (.ifCond .le 11, 3) := by decide +kernel
theorem dX6_sights_76 : decode cX6_sights 76 = .ok (.aload_n 0, 1) := by decide +kernel
theorem dX6_sights_77 : decode cX6_sights 77 = .ok (.iconst 5, 1) := by decide +kernel
theorem dX6_sights_78 : decode cX6_sights 78 = .ok (.iload 4, 2) := by decide +kernel
theorem dX6_sights_80 : decode cX6_sights 80 = .ok (.invokevirtual 80, 3) := by decide +kernel
theorem dX6_sights_83 : decode cX6_sights 83 = .ok (.ireturn, 1) := by decide +kernel
theorem dX6_sights_84 : decode cX6_sights 84 = .ok (.aload_n 0, 1) := by decide +kernel
theorem dX6_sights_85 : decode cX6_sights 85 = .ok (.iload_n 1, 1) := by decide +kernel
theorem dX6_sights_86 : decode cX6_sights 86 = .ok (.iload_n 2, 1) := by decide +kernel
theorem dX6_sights_87 : decode cX6_sights 87 = .ok (.invokevirtual 116, 3) := by decide +kernel
theorem dX6_sights_90 : decode cX6_sights 90 = .ok (.istore 5, 2) := by decide +kernel
theorem dX6_sights_92 : decode cX6_sights 92 = .ok (.aload_n 0, 1) := by decide +kernel
theorem dX6_sights_93 : decode cX6_sights 93 = .ok (.getfield 9, 3) := by decide +kernel
theorem dX6_sights_96 : decode cX6_sights 96 = .ok (.bipush 27, 2) := by decide +kernel
theorem dX6_sights_98 : decode cX6_sights 98 = .ok (.bipush 10, 2) := by decide +kernel
theorem dX6_sights_100 : decode cX6_sights 100 = .ok (.iload_n 3, 1) := by decide +kernel
theorem dX6_sights_101 : decode cX6_sights 101 = .ok (.imul, 1) := by decide +kernel
theorem dX6_sights_102 : decode cX6_sights 102 = .ok (.iadd, 1) := by decide +kernel
theorem dX6_sights_103 : decode cX6_sights 103 = .ok (.iload_n 1, 1) := by decide +kernel
theorem dX6_sights_104 : decode cX6_sights 104 = .ok (.iadd, 1) := by decide +kernel
theorem dX6_sights_105 : decode cX6_sights 105 = .ok (.iload 5, 2) := by decide +kernel
theorem dX6_sights_107 : decode cX6_sights 107 = .ok (.iconst 1, 1) := by decide +kernel
theorem dX6_sights_108 : decode cX6_sights 108 = .ok (.iadd, 1) := by decide +kernel
theorem dX6_sights_109 : decode cX6_sights 109 = .ok (.iastore, 1) := by decide +kernel
theorem dX6_sights_110 : decode cX6_sights 110 = .ok (.aload_n 0, 1) := by decide +kernel
theorem dX6_sights_111 : decode cX6_sights 111 = .ok (.getfield 9, 3) := by decide +kernel
theorem dX6_sights_114 : decode cX6_sights 114 = .ok (.bipush 8, 2) := by decide +kernel
theorem dX6_sights_116 : decode cX6_sights 116 = .ok (.dup2, 1) := by decide +kernel
theorem dX6_sights_117 : decode cX6_sights 117 = .ok (.iaload, 1) := by decide +kernel
theorem dX6_sights_118 : decode cX6_sights 118 = .ok (.iconst 1, 1) := by decide +kernel
theorem dX6_sights_119 : decode cX6_sights 119 = .ok (.iadd, 1) := by decide +kernel
theorem dX6_sights_120 : decode cX6_sights 120 = .ok (.iastore, 1) := by decide +kernel
theorem dX6_sights_121 : decode cX6_sights 121 = .ok (.aload_n 0, 1) := by decide +kernel
theorem dX6_sights_122 : decode cX6_sights 122 = .ok (.iload 5, 2) := by decide +kernel
theorem dX6_sights_124 : decode cX6_sights 124 = .ok (.invokevirtual 119, 3) := by decide +kernel
theorem dX6_sights_127 : decode cX6_sights 127 = .ok (.ireturn, 1) := by decide +kernel
theorem dX6_sight_0 : decode cX6_sight 0 = .ok (.aload_n 0, 1) := by decide +kernel
theorem dX6_sight_1 : decode cX6_sight 1 = .ok (.invokevirtual 77, 3) := by decide +kernel
theorem dX6_sight_4 : decode cX6_sight 4 = .ok (.aload_n 0, 1) := by decide +kernel
theorem dX6_sight_5 : decode cX6_sight 5 = .ok (.aload_n 0, 1) := by decide +kernel
theorem dX6_sight_6 : decode cX6_sight 6 = .ok (.iload_n 1, 1) := by decide +kernel
theorem dX6_sight_7 : decode cX6_sight 7 = .ok (.iload_n 2, 1) := by decide +kernel
theorem dX6_sight_8 : decode cX6_sight 8 = .ok (.iload_n 3, 1) := by decide +kernel
theorem dX6_sight_9 : decode cX6_sight 9 = .ok (.invokevirtual 122, 3) := by decide +kernel
theorem dX6_sight_12 : decode cX6_sight 12 = .ok (.invokevirtual 84, 3) := by decide +kernel
theorem dX6_sight_15 : decode cX6_sight 15 = .ok (.ireturn, 1) := by decide +kernel
theorem dX6_erases_0 : decode cX6_erases 0 = .ok (.aload_n 0, 1) := by decide +kernel
theorem dX6_erases_1 : decode cX6_erases 1 = .ok (.iload_n 1, 1) := by decide +kernel
theorem dX6_erases_2 : decode cX6_erases 2 = .ok (.invokevirtual 103, 3) := by decide +kernel
theorem dX6_erases_5 : decode cX6_erases 5 = .ok (.ifCond .ne 10, 3) := by decide +kernel
theorem dX6_erases_8 : decode cX6_erases 8 = .ok (.aload_n 0, 1) := by decide +kernel
theorem dX6_erases_9 : decode cX6_erases 9 = .ok (.iconst 3, 1) := by decide +kernel
theorem dX6_erases_10 : decode cX6_erases 10 = .ok (.iload_n 1, 1) := by decide +kernel
theorem dX6_erases_11 : decode cX6_erases 11 = .ok (.invokevirtual 80, 3) := by decide +kernel
theorem dX6_erases_14 : decode cX6_erases 14 = .ok (.ireturn, 1) := by decide +kernel
theorem dX6_erases_15 : decode cX6_erases 15 = .ok (.aload_n 0, 1) := by decide +kernel
theorem dX6_erases_16 : decode cX6_erases 16 = .ok (.iload_n 2, 1) := by decide +kernel
theorem dX6_erases_17 : decode cX6_erases 17 = .ok (.invokevirtual 110, 3) := by decide +kernel
theorem dX6_erases_20 : decode cX6_erases 20 = .ok (.ifCond .ne 10, 3) := by decide +kernel
theorem dX6_erases_23 : decode cX6_erases 23 = .ok (.aload_n 0, 1) := by decide +kernel
theorem dX6_erases_24 : decode cX6_erases 24 = .ok (.iconst 3, 1) := by decide +kernel
theorem dX6_erases_25 : decode cX6_erases 25 = .ok (.iload_n 2, 1) := by decide +kernel
theorem dX6_erases_26 : decode cX6_erases 26 = .ok (.invokevirtual 80, 3) := by decide +kernel
theorem dX6_erases_29 : decode cX6_erases 29 = .ok (.ireturn, 1) := by decide +kernel
theorem dX6_erases_30 : decode cX6_erases 30 = .ok (.aload_n 0, 1) := by decide +kernel
theorem dX6_erases_31 : decode cX6_erases 31 = .ok (.iload_n 1, 1) := by decide +kernel
theorem dX6_erases_32 : decode cX6_erases 32 = .ok (.iload_n 2, 1) := by decide +kernel
theorem dX6_erases_33 : decode cX6_erases 33 = .ok (.invokevirtual 125, 3) := by decide +kernel
theorem dX6_erases_36 : decode cX6_erases 36 = .ok (.istore_n 3, 1) := by decide +kernel
theorem dX6_erases_37 : decode cX6_erases 37 = .ok (.iload_n 3, 1) := by decide +kernel
theorem dX6_erases_38 : decode cX6_erases 38 = .ok (.ifCond .ge 11, 3) := by decide +kernel
theorem dX6_erases_41 : decode cX6_erases 41 = .ok (.aload_n 0, 1) := by decide +kernel
theorem dX6_erases_42 : decode cX6_erases 42 = .ok (.bipush 6, 2) := by decide +kernel
theorem dX6_erases_44 : decode cX6_erases 44 = .ok (.iload_n 1, 1) := by decide +kernel
theorem dX6_erases_45 : decode cX6_erases 45 = .ok (.invokevirtual 80, 3) := by decide +kernel
theorem dX6_erases_48 : decode cX6_erases 48 = .ok (.ireturn, 1) := by decide +kernel
theorem dX6_erases_49 : decode cX6_erases 49 = .ok (.aload_n 0, 1) := by decide +kernel
theorem dX6_erases_50 : decode cX6_erases 50 = .ok (.getfield 9, 3) := by decide +kernel
theorem dX6_erases_53 : decode cX6_erases 53 = .ok (.bipush 27, 2) := by decide +kernel
theorem dX6_erases_55 : decode cX6_erases 55 = .ok (.bipush 10, 2) := by decide +kernel
theorem dX6_erases_57 : decode cX6_erases 57 = .ok (.iload_n 2, 1) := by decide +kernel
theorem dX6_erases_58 : decode cX6_erases 58 = .ok (.imul, 1) := by decide +kernel
theorem dX6_erases_59 : decode cX6_erases 59 = .ok (.iadd, 1) := by decide +kernel
theorem dX6_erases_60 : decode cX6_erases 60 = .ok (.iload_n 1, 1) := by decide +kernel
theorem dX6_erases_61 : decode cX6_erases 61 = .ok (.iadd, 1) := by decide +kernel
theorem dX6_erases_62 : decode cX6_erases 62 = .ok (.iconst 0, 1) := by decide +kernel
theorem dX6_erases_63 : decode cX6_erases 63 = .ok (.iastore, 1) := by decide +kernel
theorem dX6_erases_64 : decode cX6_erases 64 = .ok (.aload_n 0, 1) := by decide +kernel
theorem dX6_erases_65 : decode cX6_erases 65 = .ok (.iload_n 3, 1) := by decide +kernel
theorem dX6_erases_66 : decode cX6_erases 66 = .ok (.invokevirtual 119, 3) := by decide +kernel
theorem dX6_erases_69 : decode cX6_erases 69 = .ok (.ireturn, 1) := by decide +kernel
theorem dX6_erase_0 : decode cX6_erase 0 = .ok (.aload_n 0, 1) := by decide +kernel
theorem dX6_erase_1 : decode cX6_erase 1 = .ok (.invokevirtual 77, 3) := by decide +kernel
theorem dX6_erase_4 : decode cX6_erase 4 = .ok (.aload_n 0, 1) := by decide +kernel
theorem dX6_erase_5 : decode cX6_erase 5 = .ok (.aload_n 0, 1) := by decide +kernel
theorem dX6_erase_6 : decode cX6_erase 6 = .ok (.iload_n 1, 1) := by decide +kernel
theorem dX6_erase_7 : decode cX6_erase 7 = .ok (.iload_n 2, 1) := by decide +kernel
theorem dX6_erase_8 : decode cX6_erase 8 = .ok (.invokevirtual 128, 3) := by decide +kernel
theorem dX6_erase_11 : decode cX6_erase 11 = .ok (.invokevirtual 84, 3) := by decide +kernel
theorem dX6_erase_14 : decode cX6_erase 14 = .ok (.ireturn, 1) := by decide +kernel
theorem dX6_camel_0 : decode cX6_camel 0 = .ok (.aload_n 0, 1) := by decide +kernel
theorem dX6_camel_1 : decode cX6_camel 1 = .ok (.invokevirtual 77, 3) := by decide +kernel
theorem dX6_camel_4 : decode cX6_camel 4 = .ok (.iload_n 1, 1) := by decide +kernel
theorem dX6_camel_5 : decode cX6_camel 5 = .ok (.iconst 0, 1) := by decide +kernel
theorem dX6_camel_6 : decode cX6_camel 6 = .ok (.bipush 99, 2) := by decide +kernel
theorem dX6_camel_8 : decode cX6_camel 8 = .ok (.invokestatic 64, 3) := by decide +kernel
theorem dX6_camel_11 : decode cX6_camel 11 = .ok (.ifCond .ne 14, 3) := by decide +kernel
theorem dX6_camel_14 : decode cX6_camel 14 = .ok (.aload_n 0, 1) := by decide +kernel
theorem dX6_camel_15 : decode cX6_camel 15 = .ok (.aload_n 0, 1) := by decide +kernel
theorem dX6_camel_16 : decode cX6_camel 16 = .ok (.iconst 1, 1) := by decide +kernel
theorem dX6_camel_17 : decode cX6_camel 17 = .ok (.iconst 0, 1) := by decide +kernel
theorem dX6_camel_18 : decode cX6_camel 18 = .ok (.invokevirtual 80, 3) := by decide +kernel
theorem dX6_camel_21 : decode cX6_camel 21 = .ok (.invokevirtual 84, 3) := by decide +kernel
theorem dX6_camel_24 : decode cX6_camel 24 = .ok (.ireturn, 1) := by decide +kernel
theorem dX6_camel_25 : decode cX6_camel 25 = .ok (.aload_n 0, 1) := by decide +kernel
theorem dX6_camel_26 : decode cX6_camel 26 = .ok (.getfield 9, 3) := by decide +kernel
theorem dX6_camel_29 : decode cX6_camel 29 = .ok (.iconst 5, 1) := by decide +kernel
theorem dX6_camel_30 : decode cX6_camel 30 = .ok (.iaload, 1) := by decide +kernel
theorem dX6_camel_31 : decode cX6_camel 31 = .ok (.istore_n 2, 1) := by decide +kernel
theorem dX6_camel_32 : decode cX6_camel 32 = .ok (.iload_n 2, 1) := by decide +kernel
theorem dX6_camel_33 : decode cX6_camel 33 = .ok (.bipush 6, 2) := by decide +kernel
theorem dX6_camel_35 : decode cX6_camel 35 = .ok (.if_icmp .ne 15, 3) := by decide +kernel
theorem dX6_camel_38 : decode cX6_camel 38 = .ok (.aload_n 0, 1) := by decide +kernel
theorem dX6_camel_39 : decode cX6_camel 39 = .ok (.aload_n 0, 1) := by decide +kernel
theorem dX6_camel_40 : decode cX6_camel 40 = .ok (.iconst 2, 1) := by decide +kernel
theorem dX6_camel_41 : decode cX6_camel 41 = .ok (.bipush 6, 2) := by decide +kernel
theorem dX6_camel_43 : decode cX6_camel 43 = .ok (.invokevirtual 80, 3) := by decide +kernel
theorem dX6_camel_46 : decode cX6_camel 46 = .ok (.invokevirtual 84, 3) := by decide +kernel
theorem dX6_camel_49 : decode cX6_camel 49 = .ok (.ireturn, 1) := by decide +kernel
theorem dX6_camel_50 : decode cX6_camel 50 = .ok (.aload_n 0, 1) := by decide +kernel
theorem dX6_camel_51 : decode cX6_camel 51 = .ok (.getfield 9, 3) := by decide +kernel
theorem dX6_camel_54 : decode cX6_camel 54 = .ok (.iconst 5, 1) := by decide +kernel
theorem dX6_camel_55 : decode cX6_camel 55 = .ok (.dup2, 1) := by decide +kernel
theorem dX6_camel_56 : decode cX6_camel 56 = .ok (.iaload, 1) := by decide +kernel
theorem dX6_camel_57 : decode cX6_camel 57 = .ok (.iconst 1, 1) := by decide +kernel
theorem dX6_camel_58 : decode cX6_camel 58 = .ok (.iadd, 1) := by decide +kernel
theorem dX6_camel_59 : decode cX6_camel 59 = .ok (.iastore, 1) := by decide +kernel
theorem dX6_camel_60 : decode cX6_camel 60 = .ok (.iconst 0, 1) := by decide +kernel
theorem dX6_camel_61 : decode cX6_camel 61 = .ok (.istore_n 3, 1) := by decide +kernel
theorem dX6_camel_62 : decode cX6_camel 62 = .ok (.iload_n 3, 1) := by decide +kernel
theorem dX6_camel_63 : decode cX6_camel 63 = .ok (.iconst 4, 1) := by decide +kernel
theorem dX6_camel_64 : decode cX6_camel 64 = .ok (.if_icmp .ge 16, 3) := by decide +kernel
theorem dX6_camel_67 : decode cX6_camel 67 = .ok (.aload_n 0, 1) := by decide +kernel
theorem dX6_camel_68 : decode cX6_camel 68 = .ok (.iload_n 2, 1) := by decide +kernel
theorem dX6_camel_69 : decode cX6_camel 69 = .ok (.iload_n 3, 1) := by decide +kernel
theorem dX6_camel_70 : decode cX6_camel 70 = .ok (.iconst 0, 1) := by decide +kernel
theorem dX6_camel_71 : decode cX6_camel 71 = .ok (.invokevirtual 131, 3) := by decide +kernel
theorem dX6_camel_74 : decode cX6_camel 74 = .ok (.iinc 3 1, 3) := by decide +kernel
theorem dX6_camel_77 : decode cX6_camel 77 = .ok (.goto (-15), 3) := by decide +kernel
theorem dX6_camel_80 : decode cX6_camel 80 = .ok (.aload_n 0, 1) := by decide +kernel
theorem dX6_camel_81 : decode cX6_camel 81 = .ok (.iload_n 2, 1) := by decide +kernel
theorem dX6_camel_82 : decode cX6_camel 82 = .ok (.iconst 0, 1) := by decide +kernel
theorem dX6_camel_83 : decode cX6_camel 83 = .ok (.iload_n 1, 1) := by decide +kernel
theorem dX6_camel_84 : decode cX6_camel 84 = .ok (.invokevirtual 131, 3) := by decide +kernel
theorem dX6_camel_87 : decode cX6_camel 87 = .ok (.aload_n 0, 1) := by decide +kernel
theorem dX6_camel_88 : decode cX6_camel 88 = .ok (.iload_n 2, 1) := by decide +kernel
theorem dX6_camel_89 : decode cX6_camel 89 = .ok (.invokevirtual 57, 3) := by decide +kernel
theorem dX6_camel_92 : decode cX6_camel 92 = .ok (.ireturn, 1) := by decide +kernel
theorem dX6_rings_0 : decode cX6_rings 0 = .ok (.iload_n 1, 1) := by decide +kernel
theorem dX6_rings_1 : decode cX6_rings 1 = .ok (.iconst 0, 1) := by decide +kernel
theorem dX6_rings_2 : decode cX6_rings 2 = .ok (.bipush 99, 2) := by decide +kernel
theorem dX6_rings_4 : decode cX6_rings 4 = .ok (.invokestatic 64, 3) := by decide +kernel
theorem dX6_rings_7 : decode cX6_rings 7 = .ok (.ifCond .ne 10, 3) := by decide +kernel
theorem dX6_rings_10 : decode cX6_rings 10 = .ok (.aload_n 0, 1) := by decide +kernel
theorem dX6_rings_11 : decode cX6_rings 11 = .ok (.iconst 1, 1) := by decide +kernel
theorem dX6_rings_12 : decode cX6_rings 12 = .ok (.iconst 0, 1) := by decide +kernel
theorem dX6_rings_13 : decode cX6_rings 13 = .ok (.invokevirtual 80, 3) := by decide +kernel
theorem dX6_rings_16 : decode cX6_rings 16 = .ok (.ireturn, 1) := by decide +kernel
theorem dX6_rings_17 : decode cX6_rings 17 = .ok (.iconst 0, 1) := by decide +kernel
theorem dX6_rings_18 : decode cX6_rings 18 = .ok (.istore_n 2, 1) := by decide +kernel
theorem dX6_rings_19 : decode cX6_rings 19 = .ok (.iconst 0, 1) := by decide +kernel
theorem dX6_rings_20 : decode cX6_rings 20 = .ok (.istore_n 3, 1) := by decide +kernel
theorem dX6_rings_21 : decode cX6_rings 21 = .ok (.iload_n 3, 1) := by decide +kernel
theorem dX6_rings_22 : decode cX6_rings 22 = .ok (.aload_n 0, 1) := by decide +kernel
theorem dX6_rings_23 : decode cX6_rings 23 = .ok (.getfield 9, 3) := by decide +kernel
theorem dX6_rings_26 : decode cX6_rings 26 = .ok (.iconst 5, 1) := by decide +kernel
theorem dX6_rings_27 : decode cX6_rings 27 = .ok (.iaload, 1) := by decide +kernel
theorem dX6_rings_28 : decode cX6_rings 28 = .ok (.if_icmp .ge 104, 3) := by decide +kernel
theorem dX6_rings_31 : decode cX6_rings 31 = .ok (.aload_n 0, 1) := by decide +kernel
theorem dX6_rings_32 : decode cX6_rings 32 = .ok (.iload_n 3, 1) := by decide +kernel
theorem dX6_rings_33 : decode cX6_rings 33 = .ok (.iconst 0, 1) := by decide +kernel
theorem dX6_rings_34 : decode cX6_rings 34 = .ok (.invokevirtual 68, 3) := by decide +kernel
theorem dX6_rings_37 : decode cX6_rings 37 = .ok (.istore 4, 2) := by decide +kernel
theorem dX6_rings_39 : decode cX6_rings 39 = .ok (.iload 4, 2) := by decide +kernel
theorem dX6_rings_41 : decode cX6_rings 41 = .ok (.iload_n 1, 1) := by decide +kernel
theorem dX6_rings_42 : decode cX6_rings 42 = .ok (.isub, 1) := by decide +kernel
theorem dX6_rings_43 : decode cX6_rings 43 = .ok (.invokestatic 94, 3) := by decide +kernel
theorem dX6_rings_46 : decode cX6_rings 46 = .ok (.istore 5, 2) := by decide +kernel
theorem dX6_rings_48 : decode cX6_rings 48 = .ok (.aload_n 0, 1) := by decide +kernel
theorem dX6_rings_49 : decode cX6_rings 49 = .ok (.iload_n 3, 1) := by decide +kernel
theorem dX6_rings_50 : decode cX6_rings 50 = .ok (.iconst 2, 1) := by decide +kernel
theorem dX6_rings_51 : decode cX6_rings 51 = .ok (.invokevirtual 68, 3) := by decide +kernel
theorem dX6_rings_54 : decode cX6_rings 54 = .ok (.ifCond .ne 59, 3) := by decide +kernel
theorem dX6_rings_57 : decode cX6_rings 57 = .ok (.aload_n 0, 1) := by decide +kernel
theorem dX6_rings_58 : decode cX6_rings 58 = .ok (.iload_n 3, 1) := by decide +kernel
theorem dX6_rings_59 : decode cX6_rings 59 = .ok (.invokevirtual 135, 3) := by decide +kernel
theorem dX6_rings_62 : decode cX6_rings 62 = .ok (.ifCond .ne 51, 3) := by decide +kernel
theorem dX6_rings_65 : decode cX6_rings 65 = .ok (.iload 5, 2) := by decide +kernel
theorem dX6_rings_67 : decode cX6_rings 67 = .ok (.bipush 30, 2) := by decide +kernel
theorem dX6_rings_69 : decode cX6_rings 69 = .ok (.aload_n 0, 1) := by decide +kernel
theorem dX6_rings_70 : decode cX6_rings 70 = .ok (.iconst 0, 1) := by decide +kernel
theorem dX6_rings_71 : decode cX6_rings 71 = .ok (.invokevirtual 88, 3) := by decide +kernel
theorem dX6_rings_74 : decode cX6_rings 74 = .ok (.isub, 1) := by decide +kernel
theorem dX6_rings_75 : decode cX6_rings 75 = .ok (.if_icmp .gt 38, 3) := by decide +kernel
theorem dX6_rings_78 : decode cX6_rings 78 = .ok (.aload_n 0, 1) := by decide +kernel
theorem dX6_rings_79 : decode cX6_rings 79 = .ok (.iload_n 3, 1) := by decide +kernel
theorem dX6_rings_80 : decode cX6_rings 80 = .ok (.iconst 0, 1) := by decide +kernel
theorem dX6_rings_81 : decode cX6_rings 81 = .ok (.iload 4, 2) := by decide +kernel
theorem dX6_rings_83 : decode cX6_rings 83 = .ok (.iload_n 1, 1) := by decide +kernel
theorem dX6_rings_84 : decode cX6_rings 84 = .ok (.if_icmp .ge 16, 3) := by decide +kernel
theorem dX6_rings_87 : decode cX6_rings 87 = .ok (.iload 4, 2) := by decide +kernel
theorem dX6_rings_89 : decode cX6_rings 89 = .ok (.bipush 10, 2) := by decide +kernel
theorem dX6_rings_91 : decode cX6_rings 91 = .ok (.iload 5, 2) := by decide +kernel
theorem dX6_rings_93 : decode cX6_rings 93 = .ok (.invokestatic 72, 3) := by decide +kernel
theorem dX6_rings_96 : decode cX6_rings 96 = .ok (.iadd, 1) := by decide +kernel
theorem dX6_rings_97 : decode cX6_rings 97 = .ok (.goto 13, 3) := by decide +kernel
theorem dX6_rings_100 : decode cX6_rings 100 = .ok (.iload 4, 2) := by decide +kernel
theorem dX6_rings_102 : decode cX6_rings 102 = .ok (.bipush 10, 2) := by decide +kernel
theorem dX6_rings_104 : decode cX6_rings 104 = .ok (.iload 5, 2) := by decide +kernel
theorem dX6_rings_106 : decode cX6_rings 106 = .ok (.invokestatic 72, 3) := by decide +kernel
theorem dX6_rings_109 : decode cX6_rings 109 = .ok (.isub, 1) := by decide +kernel
theorem dX6_rings_110 : decode cX6_rings 110 = .ok (.invokevirtual 131, 3) := by decide +kernel
theorem dX6_rings_113 : decode cX6_rings 113 = .ok (.aload_n 0, 1) := by decide +kernel
theorem dX6_rings_114 : decode cX6_rings 114 = .ok (.iload_n 3, 1) := by decide +kernel
theorem dX6_rings_115 : decode cX6_rings 115 = .ok (.iconst 0, 1) := by decide +kernel
theorem dX6_rings_116 : decode cX6_rings 116 = .ok (.invokevirtual 68, 3) := by decide +kernel
theorem dX6_rings_119 : decode cX6_rings 119 = .ok (.iload_n 1, 1) := by decide +kernel
theorem dX6_rings_120 : decode cX6_rings 120 = .ok (.if_icmp .ne 6, 3) := by decide +kernel
theorem dX6_rings_123 : decode cX6_rings 123 = .ok (.iinc 2 1, 3) := by decide +kernel
theorem dX6_rings_126 : decode cX6_rings 126 = .ok (.iinc 3 1, 3) := by decide +kernel
theorem dX6_rings_129 : decode cX6_rings 129 = .ok (.goto (-108), 3) := by decide +kernel
theorem dX6_rings_132 : decode cX6_rings 132 = .ok (.aload_n 0, 1) := by decide +kernel
theorem dX6_rings_133 : decode cX6_rings 133 = .ok (.iload_n 2, 1) := by decide +kernel
theorem dX6_rings_134 : decode cX6_rings 134 = .ok (.invokevirtual 119, 3) := by decide +kernel
theorem dX6_rings_137 : decode cX6_rings 137 = .ok (.ireturn, 1) := by decide +kernel
theorem dX6_bell_0 : decode cX6_bell 0 = .ok (.aload_n 0, 1) := by decide +kernel
theorem dX6_bell_1 : decode cX6_bell 1 = .ok (.invokevirtual 77, 3) := by decide +kernel
theorem dX6_bell_4 : decode cX6_bell 4 = .ok (.aload_n 0, 1) := by decide +kernel
theorem dX6_bell_5 : decode cX6_bell 5 = .ok (.aload_n 0, 1) := by decide +kernel
theorem dX6_bell_6 : decode cX6_bell 6 = .ok (.iload_n 1, 1) := by decide +kernel
theorem dX6_bell_7 : decode cX6_bell 7 = .ok (.invokevirtual 138, 3) := by decide +kernel
theorem dX6_bell_10 : decode cX6_bell 10 = .ok (.invokevirtual 84, 3) := by decide +kernel
theorem dX6_bell_13 : decode cX6_bell 13 = .ok (.ireturn, 1) := by decide +kernel
theorem dX6_tied_0 : decode cX6_tied 0 = .ok (.iconst 0, 1) := by decide +kernel
theorem dX6_tied_1 : decode cX6_tied 1 = .ok (.istore_n 1, 1) := by decide +kernel
theorem dX6_tied_2 : decode cX6_tied 2 = .ok (.iconst 0, 1) := by decide +kernel
theorem dX6_tied_3 : decode cX6_tied 3 = .ok (.istore_n 2, 1) := by decide +kernel
theorem dX6_tied_4 : decode cX6_tied 4 = .ok (.iload_n 2, 1) := by decide +kernel
theorem dX6_tied_5 : decode cX6_tied 5 = .ok (.aload_n 0, 1) := by decide +kernel
theorem dX6_tied_6 : decode cX6_tied 6 = .ok (.getfield 9, 3) := by decide +kernel
theorem dX6_tied_9 : decode cX6_tied 9 = .ok (.iconst 5, 1) := by decide +kernel
theorem dX6_tied_10 : decode cX6_tied 10 = .ok (.iaload, 1) := by decide +kernel
theorem dX6_tied_11 : decode cX6_tied 11 = .ok (.if_icmp .ge 18, 3) := by decide +kernel
theorem dX6_tied_14 : decode cX6_tied 14 = .ok (.iload_n 1, 1) := by decide +kernel
theorem dX6_tied_15 : decode cX6_tied 15 = .ok (.aload_n 0, 1) := by decide +kernel
theorem dX6_tied_16 : decode cX6_tied 16 = .ok (.iload_n 2, 1) := by decide +kernel
theorem dX6_tied_17 : decode cX6_tied 17 = .ok (.iconst 2, 1) := by decide +kernel
theorem dX6_tied_18 : decode cX6_tied 18 = .ok (.invokevirtual 68, 3) := by decide +kernel
theorem dX6_tied_21 : decode cX6_tied 21 = .ok (.iadd, 1) := by decide +kernel
theorem dX6_tied_22 : decode cX6_tied 22 = .ok (.istore_n 1, 1) := by decide +kernel
theorem dX6_tied_23 : decode cX6_tied 23 = .ok (.iinc 2 1, 3) := by decide +kernel
theorem dX6_tied_26 : decode cX6_tied 26 = .ok (.goto (-22), 3) := by decide +kernel
theorem dX6_tied_29 : decode cX6_tied 29 = .ok (.iload_n 1, 1) := by decide +kernel
theorem dX6_tied_30 : decode cX6_tied 30 = .ok (.ireturn, 1) := by decide +kernel
theorem dX6_ties_0 : decode cX6_ties 0 = .ok (.aload_n 0, 1) := by decide +kernel
theorem dX6_ties_1 : decode cX6_ties 1 = .ok (.iload_n 1, 1) := by decide +kernel
theorem dX6_ties_2 : decode cX6_ties 2 = .ok (.invokevirtual 141, 3) := by decide +kernel
theorem dX6_ties_5 : decode cX6_ties 5 = .ok (.ifCond .ne 10, 3) := by decide +kernel
theorem dX6_ties_8 : decode cX6_ties 8 = .ok (.aload_n 0, 1) := by decide +kernel
theorem dX6_ties_9 : decode cX6_ties 9 = .ok (.iconst 3, 1) := by decide +kernel
theorem dX6_ties_10 : decode cX6_ties 10 = .ok (.iload_n 1, 1) := by decide +kernel
theorem dX6_ties_11 : decode cX6_ties 11 = .ok (.invokevirtual 80, 3) := by decide +kernel
theorem dX6_ties_14 : decode cX6_ties 14 = .ok (.ireturn, 1) := by decide +kernel
theorem dX6_ties_15 : decode cX6_ties 15 = .ok (.aload_n 0, 1) := by decide +kernel
theorem dX6_ties_16 : decode cX6_ties 16 = .ok (.iload_n 1, 1) := by decide +kernel
theorem dX6_ties_17 : decode cX6_ties 17 = .ok (.invokevirtual 135, 3) := by decide +kernel
theorem dX6_ties_20 : decode cX6_ties 20 = .ok (.ifCond .eq 16, 3) := by decide +kernel
theorem dX6_ties_23 : decode cX6_ties 23 = .ok (.aload_n 0, 1) := by decide +kernel
theorem dX6_ties_24 : decode cX6_ties 24 = .ok (.bipush 8, 2) := by decide +kernel
theorem dX6_ties_26 : decode cX6_ties 26 = .ok (.aload_n 0, 1) := by decide +kernel
theorem dX6_ties_27 : decode cX6_ties 27 = .ok (.iload_n 1, 1) := by decide +kernel
theorem dX6_ties_28 : decode cX6_ties 28 = .ok (.iconst 0, 1) := by decide +kernel
theorem dX6_ties_29 : decode cX6_ties 29 = .ok (.invokevirtual 68, 3) := by decide +kernel
theorem dX6_ties_32 : decode cX6_ties 32 = .ok (.invokevirtual 80, 3) := by decide +kernel
theorem dX6_ties_35 : decode cX6_ties 35 = .ok (.ireturn, 1) := by decide +kernel
theorem dX6_ties_36 : decode cX6_ties 36 = .ok (.aload_n 0, 1) := by decide +kernel
theorem dX6_ties_37 : decode cX6_ties 37 = .ok (.iload_n 1, 1) := by decide +kernel
theorem dX6_ties_38 : decode cX6_ties 38 = .ok (.iconst 2, 1) := by decide +kernel
theorem dX6_ties_39 : decode cX6_ties 39 = .ok (.invokevirtual 68, 3) := by decide +kernel
theorem dX6_ties_42 : decode cX6_ties 42 = .ok (.iconst 1, 1) := by decide +kernel
theorem dX6_ties_43 : decode cX6_ties 43 = .ok (.if_icmp .ne 11, 3) := by decide +kernel
theorem dX6_ties_46 : decode cX6_ties 46 = .ok (.aload_n 0, 1) := by decide +kernel
theorem dX6_ties_47 : decode cX6_ties 47 = .ok (.bipush 7, 2) := by decide +kernel
theorem dX6_ties_49 : decode cX6_ties 49 = .ok (.iload_n 1, 1) := by decide +kernel
theorem dX6_ties_50 : decode cX6_ties 50 = .ok (.invokevirtual 80, 3) := by decide +kernel
theorem dX6_ties_53 : decode cX6_ties 53 = .ok (.ireturn, 1) := by decide +kernel
theorem dX6_ties_54 : decode cX6_ties 54 = .ok (.aload_n 0, 1) := by decide +kernel
theorem dX6_ties_55 : decode cX6_ties 55 = .ok (.getfield 9, 3) := by decide +kernel
theorem dX6_ties_58 : decode cX6_ties 58 = .ok (.iconst 3, 1) := by decide +kernel
theorem dX6_ties_59 : decode cX6_ties 59 = .ok (.iaload, 1) := by decide +kernel
theorem dX6_ties_60 : decode cX6_ties 60 = .ok (.ifCond .ne 11, 3) := by decide +kernel
theorem dX6_ties_63 : decode cX6_ties 63 = .ok (.aload_n 0, 1) := by decide +kernel
theorem dX6_ties_64 : decode cX6_ties 64 = .ok (.bipush 11, 2) := by decide +kernel
theorem dX6_ties_66 : decode cX6_ties 66 = .ok (.iconst 0, 1) := by decide +kernel
theorem dX6_ties_67 : decode cX6_ties 67 = .ok (.invokevirtual 80, 3) := by decide +kernel
theorem dX6_ties_70 : decode cX6_ties 70 = .ok (.ireturn, 1) := by decide +kernel
theorem dX6_ties_71 : decode cX6_ties 71 = .ok (.bipush 100, 2) := by decide +kernel
theorem dX6_ties_73 : decode cX6_ties 73 = .ok (.istore_n 2, 1) := by decide +kernel
theorem dX6_ties_74 : decode cX6_ties 74 = .ok (.iconst 0, 1) := by decide +kernel
theorem dX6_ties_75 : decode cX6_ties 75 = .ok (.istore_n 3, 1) := by decide +kernel
theorem dX6_ties_76 : decode cX6_ties 76 = .ok (.iload_n 3, 1) := by decide +kernel
theorem dX6_ties_77 : decode cX6_ties 77 = .ok (.aload_n 0, 1) := by decide +kernel
theorem dX6_ties_78 : decode cX6_ties 78 = .ok (.getfield 9, 3) := by decide +kernel
theorem dX6_ties_81 : decode cX6_ties 81 = .ok (.iconst 3, 1) := by decide +kernel
theorem dX6_ties_82 : decode cX6_ties 82 = .ok (.iaload, 1) := by decide +kernel
theorem dX6_ties_83 : decode cX6_ties 83 = .ok (.if_icmp .ge 30, 3) := by decide +kernel
theorem dX6_ties_86 : decode cX6_ties 86 = .ok (.iload_n 2, 1) := by decide +kernel
theorem dX6_ties_87 : decode cX6_ties 87 = .ok (.aload_n 0, 1) := by decide +kernel
theorem dX6_ties_88 : decode cX6_ties 88 = .ok (.iload_n 3, 1) := by decide +kernel
theorem dX6_ties_89 : decode cX6_ties 89 = .ok (.iconst 0, 1) := by decide +kernel
theorem dX6_ties_90 : decode cX6_ties 90 = .ok (.invokevirtual 91, 3) := by decide +kernel
theorem dX6_ties_93 : decode cX6_ties 93 = .ok (.aload_n 0, 1) := by decide +kernel
theorem dX6_ties_94 : decode cX6_ties 94 = .ok (.iload_n 1, 1) := by decide +kernel
theorem dX6_ties_95 : decode cX6_ties 95 = .ok (.iconst 0, 1) := by decide +kernel
theorem dX6_ties_96 : decode cX6_ties 96 = .ok (.invokevirtual 68, 3) := by decide +kernel
theorem dX6_ties_99 : decode cX6_ties 99 = .ok (.isub, 1) := by decide +kernel
theorem dX6_ties_100 : decode cX6_ties 100 = .ok (.invokestatic 94, 3) := by decide +kernel
theorem dX6_ties_103 : decode cX6_ties 103 = .ok (.invokestatic 72, 3) := by decide +kernel
theorem dX6_ties_106 : decode cX6_ties 106 = .ok (.istore_n 2, 1) := by decide +kernel
theorem dX6_ties_107 : decode cX6_ties 107 = .ok (.iinc 3 1, 3) := by decide +kernel
theorem dX6_ties_110 : decode cX6_ties 110 = .ok (.goto (-34), 3) := by decide +kernel
theorem dX6_ties_113 : decode cX6_ties 113 = .ok (.iload_n 2, 1) := by decide +kernel
theorem dX6_ties_114 : decode cX6_ties 114 = .ok (.iconst 5, 1) := by decide +kernel
theorem dX6_ties_115 : decode cX6_ties 115 = .ok (.if_icmp .le 11, 3) := by decide +kernel
theorem dX6_ties_118 : decode cX6_ties 118 = .ok (.aload_n 0, 1) := by decide +kernel
theorem dX6_ties_119 : decode cX6_ties 119 = .ok (.bipush 11, 2) := by decide +kernel
theorem dX6_ties_121 : decode cX6_ties 121 = .ok (.iload_n 2, 1) := by decide +kernel
theorem dX6_ties_122 : decode cX6_ties 122 = .ok (.invokevirtual 80, 3) := by decide +kernel
theorem dX6_ties_125 : decode cX6_ties 125 = .ok (.ireturn, 1) := by decide +kernel
theorem dX6_ties_126 : decode cX6_ties 126 = .ok (.aload_n 0, 1) := by decide +kernel
theorem dX6_ties_127 : decode cX6_ties 127 = .ok (.iload_n 1, 1) := by decide +kernel
theorem dX6_ties_128 : decode cX6_ties 128 = .ok (.iconst 2, 1) := by decide +kernel
theorem dX6_ties_129 : decode cX6_ties 129 = .ok (.iconst 1, 1) := by decide +kernel
theorem dX6_ties_130 : decode cX6_ties 130 = .ok (.invokevirtual 131, 3) := by decide +kernel
theorem dX6_ties_133 : decode cX6_ties 133 = .ok (.aload_n 0, 1) := by decide +kernel
theorem dX6_ties_134 : decode cX6_ties 134 = .ok (.aload_n 0, 1) := by decide +kernel
theorem dX6_ties_135 : decode cX6_ties 135 = .ok (.invokevirtual 144, 3) := by decide +kernel
theorem dX6_ties_138 : decode cX6_ties 138 = .ok (.invokevirtual 119, 3) := by decide +kernel
theorem dX6_ties_141 : decode cX6_ties 141 = .ok (.ireturn, 1) := by decide +kernel
theorem dX6_tie_0 : decode cX6_tie 0 = .ok (.aload_n 0, 1) := by decide +kernel
theorem dX6_tie_1 : decode cX6_tie 1 = .ok (.invokevirtual 77, 3) := by decide +kernel
theorem dX6_tie_4 : decode cX6_tie 4 = .ok (.aload_n 0, 1) := by decide +kernel
theorem dX6_tie_5 : decode cX6_tie 5 = .ok (.aload_n 0, 1) := by decide +kernel
theorem dX6_tie_6 : decode cX6_tie 6 = .ok (.iload_n 1, 1) := by decide +kernel
theorem dX6_tie_7 : decode cX6_tie 7 = .ok (.invokevirtual 148, 3) := by decide +kernel
theorem dX6_tie_10 : decode cX6_tie 10 = .ok (.invokevirtual 84, 3) := by decide +kernel
theorem dX6_tie_13 : decode cX6_tie 13 = .ok (.ireturn, 1) := by decide +kernel
theorem dX6_looses_0 : decode cX6_looses 0 = .ok (.aload_n 0, 1) := by decide +kernel
theorem dX6_looses_1 : decode cX6_looses 1 = .ok (.iload_n 1, 1) := by decide +kernel
theorem dX6_looses_2 : decode cX6_looses 2 = .ok (.invokevirtual 141, 3) := by decide +kernel
theorem dX6_looses_5 : decode cX6_looses 5 = .ok (.ifCond .ne 10, 3) := by decide +kernel
theorem dX6_looses_8 : decode cX6_looses 8 = .ok (.aload_n 0, 1) := by decide +kernel
theorem dX6_looses_9 : decode cX6_looses 9 = .ok (.iconst 3, 1) := by decide +kernel
theorem dX6_looses_10 : decode cX6_looses 10 = .ok (.iload_n 1, 1) := by decide +kernel
theorem dX6_looses_11 : decode cX6_looses 11 = .ok (.invokevirtual 80, 3) := by decide +kernel
theorem dX6_looses_14 : decode cX6_looses 14 = .ok (.ireturn, 1) := by decide +kernel
theorem dX6_looses_15 : decode cX6_looses 15 = .ok (.aload_n 0, 1) := by decide +kernel
theorem dX6_looses_16 : decode cX6_looses 16 = .ok (.iload_n 1, 1) := by decide +kernel
theorem dX6_looses_17 : decode cX6_looses 17 = .ok (.iconst 2, 1) := by decide +kernel
theorem dX6_looses_18 : decode cX6_looses 18 = .ok (.invokevirtual 68, 3) := by decide +kernel
theorem dX6_looses_21 : decode cX6_looses 21 = .ok (.ifCond .ne 11, 3) := by decide +kernel
theorem dX6_looses_24 : decode cX6_looses 24 = .ok (.aload_n 0, 1) := by decide +kernel
theorem dX6_looses_25 : decode cX6_looses 25 = .ok (.bipush 7, 2) := by decide +kernel
theorem dX6_looses_27 : decode cX6_looses 27 = .ok (.iload_n 1, 1) := by decide +kernel
theorem dX6_looses_28 : decode cX6_looses 28 = .ok (.invokevirtual 80, 3) := by decide +kernel
theorem dX6_looses_31 : decode cX6_looses 31 = .ok (.ireturn, 1) := by decide +kernel
theorem dX6_looses_32 : decode cX6_looses 32 = .ok (.aload_n 0, 1) := by decide +kernel
theorem dX6_looses_33 : decode cX6_looses 33 = .ok (.iload_n 1, 1) := by decide +kernel
theorem dX6_looses_34 : decode cX6_looses 34 = .ok (.iconst 2, 1) := by decide +kernel
theorem dX6_looses_35 : decode cX6_looses 35 = .ok (.iconst 0, 1) := by decide +kernel
theorem dX6_looses_36 : decode cX6_looses 36 = .ok (.invokevirtual 131, 3) := by decide +kernel
theorem dX6_looses_39 : decode cX6_looses 39 = .ok (.aload_n 0, 1) := by decide +kernel
theorem dX6_looses_40 : decode cX6_looses 40 = .ok (.aload_n 0, 1) := by decide +kernel
theorem dX6_looses_41 : decode cX6_looses 41 = .ok (.invokevirtual 144, 3) := by decide +kernel
theorem dX6_looses_44 : decode cX6_looses 44 = .ok (.invokevirtual 119, 3) := by decide +kernel
theorem dX6_looses_47 : decode cX6_looses 47 = .ok (.ireturn, 1) := by decide +kernel
theorem dX6_loose_0 : decode cX6_loose 0 = .ok (.aload_n 0, 1) := by decide +kernel
theorem dX6_loose_1 : decode cX6_loose 1 = .ok (.invokevirtual 77, 3) := by decide +kernel
theorem dX6_loose_4 : decode cX6_loose 4 = .ok (.aload_n 0, 1) := by decide +kernel
theorem dX6_loose_5 : decode cX6_loose 5 = .ok (.aload_n 0, 1) := by decide +kernel
theorem dX6_loose_6 : decode cX6_loose 6 = .ok (.iload_n 1, 1) := by decide +kernel
theorem dX6_loose_7 : decode cX6_loose 7 = .ok (.invokevirtual 151, 3) := by decide +kernel
theorem dX6_loose_10 : decode cX6_loose 10 = .ok (.invokevirtual 84, 3) := by decide +kernel
theorem dX6_loose_13 : decode cX6_loose 13 = .ok (.ireturn, 1) := by decide +kernel
theorem dX6_drinks_0 : decode cX6_drinks 0 = .ok (.aload_n 0, 1) := by decide +kernel
theorem dX6_drinks_1 : decode cX6_drinks 1 = .ok (.iload_n 1, 1) := by decide +kernel
theorem dX6_drinks_2 : decode cX6_drinks 2 = .ok (.invokevirtual 141, 3) := by decide +kernel
theorem dX6_drinks_5 : decode cX6_drinks 5 = .ok (.ifCond .ne 10, 3) := by decide +kernel
theorem dX6_drinks_8 : decode cX6_drinks 8 = .ok (.aload_n 0, 1) := by decide +kernel
theorem dX6_drinks_9 : decode cX6_drinks 9 = .ok (.iconst 3, 1) := by decide +kernel
theorem dX6_drinks_10 : decode cX6_drinks 10 = .ok (.iload_n 1, 1) := by decide +kernel
theorem dX6_drinks_11 : decode cX6_drinks 11 = .ok (.invokevirtual 80, 3) := by decide +kernel
theorem dX6_drinks_14 : decode cX6_drinks 14 = .ok (.ireturn, 1) := by decide +kernel
theorem dX6_drinks_15 : decode cX6_drinks 15 = .ok (.aload_n 0, 1) := by decide +kernel
theorem dX6_drinks_16 : decode cX6_drinks 16 = .ok (.iload_n 1, 1) := by decide +kernel
theorem dX6_drinks_17 : decode cX6_drinks 17 = .ok (.invokevirtual 135, 3) := by decide +kernel
theorem dX6_drinks_20 : decode cX6_drinks 20 = .ok (.ifCond .eq 16, 3) := by decide +kernel
theorem dX6_drinks_23 : decode cX6_drinks 23 = .ok (.aload_n 0, 1) := by decide +kernel
theorem dX6_drinks_24 : decode cX6_drinks 24 = .ok (.bipush 8, 2) := by decide +kernel
theorem dX6_drinks_26 : decode cX6_drinks 26 = .ok (.aload_n 0, 1) := by decide +kernel
theorem dX6_drinks_27 : decode cX6_drinks 27 = .ok (.iload_n 1, 1) := by decide +kernel
theorem dX6_drinks_28 : decode cX6_drinks 28 = .ok (.iconst 0, 1) := by decide +kernel
theorem dX6_drinks_29 : decode cX6_drinks 29 = .ok (.invokevirtual 68, 3) := by decide +kernel
theorem dX6_drinks_32 : decode cX6_drinks 32 = .ok (.invokevirtual 80, 3) := by decide +kernel
theorem dX6_drinks_35 : decode cX6_drinks 35 = .ok (.ireturn, 1) := by decide +kernel
theorem dX6_drinks_36 : decode cX6_drinks 36 = .ok (.aload_n 0, 1) := by decide +kernel
theorem dX6_drinks_37 : decode cX6_drinks 37 = .ok (.iload_n 1, 1) := by decide +kernel
theorem dX6_drinks_38 : decode cX6_drinks 38 = .ok (.iconst 1, 1) := by decide +kernel
theorem dX6_drinks_39 : decode cX6_drinks 39 = .ok (.invokevirtual 68, 3) := by decide +kernel
theorem dX6_drinks_42 : decode cX6_drinks 42 = .ok (.istore_n 2, 1) := by decide +kernel
theorem dX6_drinks_43 : decode cX6_drinks 43 = .ok (.iload_n 2, 1) := by decide +kernel
theorem dX6_drinks_44 : decode cX6_drinks 44 = .ok (.ifCond .ne 11, 3) := by decide +kernel
theorem dX6_drinks_47 : decode cX6_drinks 47 = .ok (.aload_n 0, 1) := by decide +kernel
theorem dX6_drinks_48 : decode cX6_drinks 48 = .ok (.bipush 10, 2) := by decide +kernel
theorem dX6_drinks_50 : decode cX6_drinks 50 = .ok (.iload_n 1, 1) := by decide +kernel
theorem dX6_drinks_51 : decode cX6_drinks 51 = .ok (.invokevirtual 80, 3) := by decide +kernel
theorem dX6_drinks_54 : decode cX6_drinks 54 = .ok (.ireturn, 1) := by decide +kernel
theorem dX6_drinks_55 : decode cX6_drinks 55 = .ok (.iload_n 2, 1) := by decide +kernel
theorem dX6_drinks_56 : decode cX6_drinks 56 = .ok (.iconst 1, 1) := by decide +kernel
theorem dX6_drinks_57 : decode cX6_drinks 57 = .ok (.iadd, 1) := by decide +kernel
theorem dX6_drinks_58 : decode cX6_drinks 58 = .ok (.iconst 2, 1) := by decide +kernel
theorem dX6_drinks_59 : decode cX6_drinks 59 = .ok (.idiv, 1) := by decide +kernel
theorem dX6_drinks_60 : decode cX6_drinks 60 = .ok (.istore_n 3, 1) := by decide +kernel
theorem dX6_drinks_61 : decode cX6_drinks 61 = .ok (.aload_n 0, 1) := by decide +kernel
theorem dX6_drinks_62 : decode cX6_drinks 62 = .ok (.getfield 9, 3) := by decide +kernel
theorem dX6_drinks_65 : decode cX6_drinks 65 = .ok (.bipush 6, 2) := by decide +kernel
theorem dX6_drinks_67 : decode cX6_drinks 67 = .ok (.iaload, 1) := by decide +kernel
theorem dX6_drinks_68 : decode cX6_drinks 68 = .ok (.iload_n 3, 1) := by decide +kernel
theorem dX6_drinks_69 : decode cX6_drinks 69 = .ok (.if_icmp .ge 19, 3) := by decide +kernel
theorem dX6_drinks_72 : decode cX6_drinks 72 = .ok (.aload_n 0, 1) := by decide +kernel
theorem dX6_drinks_73 : decode cX6_drinks 73 = .ok (.bipush 9, 2) := by decide +kernel
theorem dX6_drinks_75 : decode cX6_drinks 75 = .ok (.iload_n 3, 1) := by decide +kernel
theorem dX6_drinks_76 : decode cX6_drinks 76 = .ok (.aload_n 0, 1) := by decide +kernel
theorem dX6_drinks_77 : decode cX6_drinks 77 = .ok (.getfield 9, 3) := by decide +kernel
theorem dX6_drinks_80 : decode cX6_drinks 80 = .ok (.bipush 6, 2) := by decide +kernel
theorem dX6_drinks_82 : decode cX6_drinks 82 = .ok (.iaload, 1) := by decide +kernel
theorem dX6_drinks_83 : decode cX6_drinks 83 = .ok (.isub, 1) := by decide +kernel
theorem dX6_drinks_84 : decode cX6_drinks 84 = .ok (.invokevirtual 80, 3) := by decide +kernel
theorem dX6_drinks_87 : decode cX6_drinks 87 = .ok (.ireturn, 1) := by decide +kernel
theorem dX6_drinks_88 : decode cX6_drinks 88 = .ok (.aload_n 0, 1) := by decide +kernel
theorem dX6_drinks_89 : decode cX6_drinks 89 = .ok (.getfield 9, 3) := by decide +kernel
theorem dX6_drinks_92 : decode cX6_drinks 92 = .ok (.bipush 6, 2) := by decide +kernel
theorem dX6_drinks_94 : decode cX6_drinks 94 = .ok (.dup2, 1) := by decide +kernel
theorem dX6_drinks_95 : decode cX6_drinks 95 = .ok (.iaload, 1) := by decide +kernel
theorem dX6_drinks_96 : decode cX6_drinks 96 = .ok (.iload_n 3, 1) := by decide +kernel
theorem dX6_drinks_97 : decode cX6_drinks 97 = .ok (.isub, 1) := by decide +kernel
theorem dX6_drinks_98 : decode cX6_drinks 98 = .ok (.iastore, 1) := by decide +kernel
theorem dX6_drinks_99 : decode cX6_drinks 99 = .ok (.aload_n 0, 1) := by decide +kernel
theorem dX6_drinks_100 : decode cX6_drinks 100 = .ok (.getfield 9, 3) := by decide +kernel
theorem dX6_drinks_103 : decode cX6_drinks 103 = .ok (.bipush 7, 2) := by decide +kernel
theorem dX6_drinks_105 : decode cX6_drinks 105 = .ok (.dup2, 1) := by decide +kernel
theorem dX6_drinks_106 : decode cX6_drinks 106 = .ok (.iaload, 1) := by decide +kernel
theorem dX6_drinks_107 : decode cX6_drinks 107 = .ok (.iload_n 3, 1) := by decide +kernel
theorem dX6_drinks_108 : decode cX6_drinks 108 = .ok (.iadd, 1) := by decide +kernel
theorem dX6_drinks_109 : decode cX6_drinks 109 = .ok (.iastore, 1) := by decide +kernel
theorem dX6_drinks_110 : decode cX6_drinks 110 = .ok (.aload_n 0, 1) := by decide +kernel
theorem dX6_drinks_111 : decode cX6_drinks 111 = .ok (.iload_n 1, 1) := by decide +kernel
theorem dX6_drinks_112 : decode cX6_drinks 112 = .ok (.iconst 1, 1) := by decide +kernel
theorem dX6_drinks_113 : decode cX6_drinks 113 = .ok (.iconst 0, 1) := by decide +kernel
theorem dX6_drinks_114 : decode cX6_drinks 114 = .ok (.invokevirtual 131, 3) := by decide +kernel
theorem dX6_drinks_117 : decode cX6_drinks 117 = .ok (.aload_n 0, 1) := by decide +kernel
theorem dX6_drinks_118 : decode cX6_drinks 118 = .ok (.iload_n 1, 1) := by decide +kernel
theorem dX6_drinks_119 : decode cX6_drinks 119 = .ok (.iconst 3, 1) := by decide +kernel
theorem dX6_drinks_120 : decode cX6_drinks 120 = .ok (.aload_n 0, 1) := by decide +kernel
theorem dX6_drinks_121 : decode cX6_drinks 121 = .ok (.iload_n 1, 1) := by decide +kernel
theorem dX6_drinks_122 : decode cX6_drinks 122 = .ok (.iconst 3, 1) := by decide +kernel
theorem dX6_drinks_123 : decode cX6_drinks 123 = .ok (.invokevirtual 68, 3) := by decide +kernel
theorem dX6_drinks_126 : decode cX6_drinks 126 = .ok (.iload_n 3, 1) := by decide +kernel
theorem dX6_drinks_127 : decode cX6_drinks 127 = .ok (.iadd, 1) := by decide +kernel
theorem dX6_drinks_128 : decode cX6_drinks 128 = .ok (.invokevirtual 131, 3) := by decide +kernel
theorem dX6_drinks_131 : decode cX6_drinks 131 = .ok (.aload_n 0, 1) := by decide +kernel
theorem dX6_drinks_132 : decode cX6_drinks 132 = .ok (.aload_n 0, 1) := by decide +kernel
theorem dX6_drinks_133 : decode cX6_drinks 133 = .ok (.getfield 9, 3) := by decide +kernel
theorem dX6_drinks_136 : decode cX6_drinks 136 = .ok (.bipush 6, 2) := by decide +kernel
theorem dX6_drinks_138 : decode cX6_drinks 138 = .ok (.iaload, 1) := by decide +kernel
theorem dX6_drinks_139 : decode cX6_drinks 139 = .ok (.invokevirtual 119, 3) := by decide +kernel
theorem dX6_drinks_142 : decode cX6_drinks 142 = .ok (.ireturn, 1) := by decide +kernel
theorem dX6_drink_0 : decode cX6_drink 0 = .ok (.aload_n 0, 1) := by decide +kernel
theorem dX6_drink_1 : decode cX6_drink 1 = .ok (.invokevirtual 77, 3) := by decide +kernel
theorem dX6_drink_4 : decode cX6_drink 4 = .ok (.aload_n 0, 1) := by decide +kernel
theorem dX6_drink_5 : decode cX6_drink 5 = .ok (.aload_n 0, 1) := by decide +kernel
theorem dX6_drink_6 : decode cX6_drink 6 = .ok (.iload_n 1, 1) := by decide +kernel
theorem dX6_drink_7 : decode cX6_drink 7 = .ok (.invokevirtual 154, 3) := by decide +kernel
theorem dX6_drink_10 : decode cX6_drink 10 = .ok (.invokevirtual 84, 3) := by decide +kernel
theorem dX6_drink_13 : decode cX6_drink 13 = .ok (.ireturn, 1) := by decide +kernel
theorem dX6_water_0 : decode cX6_water 0 = .ok (.aload_n 0, 1) := by decide +kernel
theorem dX6_water_1 : decode cX6_water 1 = .ok (.invokevirtual 77, 3) := by decide +kernel
theorem dX6_water_4 : decode cX6_water 4 = .ok (.iload_n 1, 1) := by decide +kernel
theorem dX6_water_5 : decode cX6_water 5 = .ok (.iconst 1, 1) := by decide +kernel
theorem dX6_water_6 : decode cX6_water 6 = .ok (.bipush 100, 2) := by decide +kernel
theorem dX6_water_8 : decode cX6_water 8 = .ok (.invokestatic 64, 3) := by decide +kernel
theorem dX6_water_11 : decode cX6_water 11 = .ok (.ifCond .ne 14, 3) := by decide +kernel
theorem dX6_water_14 : decode cX6_water 14 = .ok (.aload_n 0, 1) := by decide +kernel
theorem dX6_water_15 : decode cX6_water 15 = .ok (.aload_n 0, 1) := by decide +kernel
theorem dX6_water_16 : decode cX6_water 16 = .ok (.iconst 1, 1) := by decide +kernel
theorem dX6_water_17 : decode cX6_water 17 = .ok (.iconst 0, 1) := by decide +kernel
theorem dX6_water_18 : decode cX6_water 18 = .ok (.invokevirtual 80, 3) := by decide +kernel
theorem dX6_water_21 : decode cX6_water 21 = .ok (.invokevirtual 84, 3) := by decide +kernel
theorem dX6_water_24 : decode cX6_water 24 = .ok (.ireturn, 1) := by decide +kernel
theorem dX6_water_25 : decode cX6_water 25 = .ok (.aload_n 0, 1) := by decide +kernel
theorem dX6_water_26 : decode cX6_water 26 = .ok (.getfield 9, 3) := by decide +kernel
theorem dX6_water_29 : decode cX6_water 29 = .ok (.bipush 6, 2) := by decide +kernel
theorem dX6_water_31 : decode cX6_water 31 = .ok (.iaload, 1) := by decide +kernel
theorem dX6_water_32 : decode cX6_water 32 = .ok (.iload_n 1, 1) := by decide +kernel
theorem dX6_water_33 : decode cX6_water 33 = .ok (.iadd, 1) := by decide +kernel
theorem dX6_water_34 : decode cX6_water 34 = .ok (.sipush 200, 3) := by decide +kernel
theorem dX6_water_37 : decode cX6_water 37 = .ok (.if_icmp .le 16, 3) := by decide +kernel
theorem dX6_water_40 : decode cX6_water 40 = .ok (.aload_n 0, 1) := by decide +kernel
theorem dX6_water_41 : decode cX6_water 41 = .ok (.aload_n 0, 1) := by decide +kernel
theorem dX6_water_42 : decode cX6_water 42 = .ok (.iconst 2, 1) := by decide +kernel
theorem dX6_water_43 : decode cX6_water 43 = .ok (.sipush 200, 3) := by decide +kernel
theorem dX6_water_46 : decode cX6_water 46 = .ok (.invokevirtual 80, 3) := by decide +kernel
theorem dX6_water_49 : decode cX6_water 49 = .ok (.invokevirtual 84, 3) := by decide +kernel
theorem dX6_water_52 : decode cX6_water 52 = .ok (.ireturn, 1) := by decide +kernel
theorem dX6_water_53 : decode cX6_water 53 = .ok (.aload_n 0, 1) := by decide +kernel
theorem dX6_water_54 : decode cX6_water 54 = .ok (.getfield 9, 3) := by decide +kernel
theorem dX6_water_57 : decode cX6_water 57 = .ok (.bipush 6, 2) := by decide +kernel
theorem dX6_water_59 : decode cX6_water 59 = .ok (.dup2, 1) := by decide +kernel
theorem dX6_water_60 : decode cX6_water 60 = .ok (.iaload, 1) := by decide +kernel
theorem dX6_water_61 : decode cX6_water 61 = .ok (.iload_n 1, 1) := by decide +kernel
theorem dX6_water_62 : decode cX6_water 62 = .ok (.iadd, 1) := by decide +kernel
theorem dX6_water_63 : decode cX6_water 63 = .ok (.iastore, 1) := by decide +kernel
theorem dX6_water_64 : decode cX6_water 64 = .ok (.aload_n 0, 1) := by decide +kernel
theorem dX6_water_65 : decode cX6_water 65 = .ok (.aload_n 0, 1) := by decide +kernel
theorem dX6_water_66 : decode cX6_water 66 = .ok (.getfield 9, 3) := by decide +kernel
theorem dX6_water_69 : decode cX6_water 69 = .ok (.bipush 6, 2) := by decide +kernel
theorem dX6_water_71 : decode cX6_water 71 = .ok (.iaload, 1) := by decide +kernel
theorem dX6_water_72 : decode cX6_water 72 = .ok (.invokevirtual 57, 3) := by decide +kernel
theorem dX6_water_75 : decode cX6_water 75 = .ok (.ireturn, 1) := by decide +kernel
theorem dX6_passes_0 : decode cX6_passes 0 = .ok (.iload_n 1, 1) := by decide +kernel
theorem dX6_passes_1 : decode cX6_passes 1 = .ok (.iconst 1, 1) := by decide +kernel
theorem dX6_passes_2 : decode cX6_passes 2 = .ok (.bipush 48, 2) := by decide +kernel
theorem dX6_passes_4 : decode cX6_passes 4 = .ok (.invokestatic 64, 3) := by decide +kernel
theorem dX6_passes_7 : decode cX6_passes 7 = .ok (.ifCond .ne 10, 3) := by decide +kernel
theorem dX6_passes_10 : decode cX6_passes 10 = .ok (.aload_n 0, 1) := by decide +kernel
theorem dX6_passes_11 : decode cX6_passes 11 = .ok (.iconst 1, 1) := by decide +kernel
theorem dX6_passes_12 : decode cX6_passes 12 = .ok (.iconst 0, 1) := by decide +kernel
theorem dX6_passes_13 : decode cX6_passes 13 = .ok (.invokevirtual 80, 3) := by decide +kernel
theorem dX6_passes_16 : decode cX6_passes 16 = .ok (.ireturn, 1) := by decide +kernel
theorem dX6_passes_17 : decode cX6_passes 17 = .ok (.iconst 0, 1) := by decide +kernel
theorem dX6_passes_18 : decode cX6_passes 18 = .ok (.istore_n 2, 1) := by decide +kernel
theorem dX6_passes_19 : decode cX6_passes 19 = .ok (.iconst 0, 1) := by decide +kernel
theorem dX6_passes_20 : decode cX6_passes 20 = .ok (.istore_n 3, 1) := by decide +kernel
theorem dX6_passes_21 : decode cX6_passes 21 = .ok (.iload_n 3, 1) := by decide +kernel
theorem dX6_passes_22 : decode cX6_passes 22 = .ok (.iload_n 1, 1) := by decide +kernel
theorem dX6_passes_23 : decode cX6_passes 23 = .ok (.if_icmp .ge 188, 3) := by decide +kernel
theorem dX6_passes_26 : decode cX6_passes 26 = .ok (.aload_n 0, 1) := by decide +kernel
theorem dX6_passes_27 : decode cX6_passes 27 = .ok (.iconst 0, 1) := by decide +kernel
theorem dX6_passes_28 : decode cX6_passes 28 = .ok (.invokevirtual 88, 3) := by decide +kernel
theorem dX6_passes_31 : decode cX6_passes 31 = .ok (.istore 4, 2) := by decide +kernel
theorem dX6_passes_33 : decode cX6_passes 33 = .ok (.iconst 0, 1) := by decide +kernel
theorem dX6_passes_34 : decode cX6_passes 34 = .ok (.istore 5, 2) := by decide +kernel
theorem dX6_passes_36 : decode cX6_passes 36 = .ok (.iload 5, 2) := by decide +kernel
theorem dX6_passes_38 : decode cX6_passes 38 = .ok (.aload_n 0, 1) := by decide +kernel
theorem dX6_passes_39 : decode cX6_passes 39 = .ok (.getfield 9, 3) := by decide +kernel
theorem dX6_passes_42 : decode cX6_passes 42 = .ok (.iconst 5, 1) := by decide +kernel
theorem dX6_passes_43 : decode cX6_passes 43 = .ok (.iaload, 1) := by decide +kernel
theorem dX6_passes_44 : decode cX6_passes 44 = .ok (.if_icmp .ge 57, 3) := by decide +kernel
theorem dX6_passes_47 : decode cX6_passes 47 = .ok (.aload_n 0, 1) := by decide +kernel
theorem dX6_passes_48 : decode cX6_passes 48 = .ok (.iload 5, 2) := by decide +kernel
theorem dX6_passes_50 : decode cX6_passes 50 = .ok (.invokevirtual 135, 3) := by decide +kernel
theorem dX6_passes_53 : decode cX6_passes 53 = .ok (.ifCond .eq 6, 3) := by decide +kernel
theorem dX6_passes_56 : decode cX6_passes 56 = .ok (.goto 39, 3) := by decide +kernel
theorem dX6_passes_59 : decode cX6_passes 59 = .ok (.aload_n 0, 1) := by decide +kernel
theorem dX6_passes_60 : decode cX6_passes 60 = .ok (.iload 5, 2) := by decide +kernel
theorem dX6_passes_62 : decode cX6_passes 62 = .ok (.iconst 1, 1) := by decide +kernel
theorem dX6_passes_63 : decode cX6_passes 63 = .ok (.bipush 20, 2) := by decide +kernel
theorem dX6_passes_65 : decode cX6_passes 65 = .ok (.aload_n 0, 1) := by decide +kernel
theorem dX6_passes_66 : decode cX6_passes 66 = .ok (.iload 5, 2) := by decide +kernel
theorem dX6_passes_68 : decode cX6_passes 68 = .ok (.iconst 1, 1) := by decide +kernel
theorem dX6_passes_69 : decode cX6_passes 69 = .ok (.invokevirtual 68, 3) := by decide +kernel
theorem dX6_passes_72 : decode cX6_passes 72 = .ok (.iload 4, 2) := by decide +kernel
theorem dX6_passes_74 : decode cX6_passes 74 = .ok (.iconst 4, 1) := by decide +kernel
theorem dX6_passes_75 : decode cX6_passes 75 = .ok (.idiv, 1) := by decide +kernel
theorem dX6_passes_76 : decode cX6_passes 76 = .ok (.iadd, 1) := by decide +kernel
theorem dX6_passes_77 : decode cX6_passes 77 = .ok (.invokestatic 72, 3) := by decide +kernel
theorem dX6_passes_80 : decode cX6_passes 80 = .ok (.invokevirtual 131, 3) := by decide +kernel
theorem dX6_passes_83 : decode cX6_passes 83 = .ok (.aload_n 0, 1) := by decide +kernel
theorem dX6_passes_84 : decode cX6_passes 84 = .ok (.iload 5, 2) := by decide +kernel
theorem dX6_passes_86 : decode cX6_passes 86 = .ok (.invokevirtual 135, 3) := by decide +kernel
theorem dX6_passes_89 : decode cX6_passes 89 = .ok (.ifCond .eq 6, 3) := by decide +kernel
theorem dX6_passes_92 : decode cX6_passes 92 = .ok (.iinc 2 1, 3) := by decide +kernel
theorem dX6_passes_95 : decode cX6_passes 95 = .ok (.iinc 5 1, 3) := by decide +kernel
theorem dX6_passes_98 : decode cX6_passes 98 = .ok (.goto (-62), 3) := by decide +kernel
theorem dX6_passes_101 : decode cX6_passes 101 = .ok (.iconst 0, 1) := by decide +kernel
theorem dX6_passes_102 : decode cX6_passes 102 = .ok (.istore 5, 2) := by decide +kernel
theorem dX6_passes_104 : decode cX6_passes 104 = .ok (.iload 5, 2) := by decide +kernel
theorem dX6_passes_106 : decode cX6_passes 106 = .ok (.aload_n 0, 1) := by decide +kernel
theorem dX6_passes_107 : decode cX6_passes 107 = .ok (.getfield 9, 3) := by decide +kernel
theorem dX6_passes_110 : decode cX6_passes 110 = .ok (.iconst 5, 1) := by decide +kernel
theorem dX6_passes_111 : decode cX6_passes 111 = .ok (.iaload, 1) := by decide +kernel
theorem dX6_passes_112 : decode cX6_passes 112 = .ok (.if_icmp .ge 83, 3) := by decide +kernel
theorem dX6_passes_115 : decode cX6_passes 115 = .ok (.iload 4, 2) := by decide +kernel
theorem dX6_passes_117 : decode cX6_passes 117 = .ok (.bipush 6, 2) := by decide +kernel
theorem dX6_passes_119 : decode cX6_passes 119 = .ok (.if_icmp .lt 76, 3) := by decide +kernel
theorem dX6_passes_122 : decode cX6_passes 122 = .ok (.aload_n 0, 1) := by decide +kernel
theorem dX6_passes_123 : decode cX6_passes 123 = .ok (.iload 5, 2) := by decide +kernel
theorem dX6_passes_125 : decode cX6_passes 125 = .ok (.invokevirtual 135, 3) := by decide +kernel
theorem dX6_passes_128 : decode cX6_passes 128 = .ok (.ifCond .ne 61, 3) := by decide +kernel
theorem dX6_passes_131 : decode cX6_passes 131 = .ok (.aload_n 0, 1) := by decide +kernel
theorem dX6_passes_132 : decode cX6_passes 132 = .ok (.iload 5, 2) := by decide +kernel
theorem dX6_passes_134 : decode cX6_passes 134 = .ok (.iconst 2, 1) := by decide +kernel
theorem dX6_passes_135 : decode cX6_passes 135 = .ok (.invokevirtual 68, 3) := by decide +kernel
theorem dX6_passes_138 : decode cX6_passes 138 = .ok (.iconst 1, 1) := by decide +kernel
theorem dX6_passes_139 : decode cX6_passes 139 = .ok (.if_icmp .ne 6, 3) := by decide +kernel
theorem dX6_passes_142 : decode cX6_passes 142 = .ok (.goto 47, 3) := by decide +kernel
theorem dX6_passes_145 : decode cX6_passes 145 = .ok (.aload_n 0, 1) := by decide +kernel
theorem dX6_passes_146 : decode cX6_passes 146 = .ok (.iload 5, 2) := by decide +kernel
theorem dX6_passes_148 : decode cX6_passes 148 = .ok (.iconst 0, 1) := by decide +kernel
theorem dX6_passes_149 : decode cX6_passes 149 = .ok (.iload 5, 2) := by decide +kernel
theorem dX6_passes_151 : decode cX6_passes 151 = .ok (.iconst 2, 1) := by decide +kernel
theorem dX6_passes_152 : decode cX6_passes 152 = .ok (.irem, 1) := by decide +kernel
theorem dX6_passes_153 : decode cX6_passes 153 = .ok (.ifCond .ne 20, 3) := by decide +kernel
theorem dX6_passes_156 : decode cX6_passes 156 = .ok (.bipush 99, 2) := by decide +kernel
theorem dX6_passes_158 : decode cX6_passes 158 = .ok (.aload_n 0, 1) := by decide +kernel
theorem dX6_passes_159 : decode cX6_passes 159 = .ok (.iload 5, 2) := by decide +kernel
theorem dX6_passes_161 : decode cX6_passes 161 = .ok (.iconst 0, 1) := by decide +kernel
theorem dX6_passes_162 : decode cX6_passes 162 = .ok (.invokevirtual 68, 3) := by decide +kernel
theorem dX6_passes_165 : decode cX6_passes 165 = .ok (.iconst 3, 1) := by decide +kernel
theorem dX6_passes_166 : decode cX6_passes 166 = .ok (.iadd, 1) := by decide +kernel
theorem dX6_passes_167 : decode cX6_passes 167 = .ok (.invokestatic 72, 3) := by decide +kernel
theorem dX6_passes_170 : decode cX6_passes 170 = .ok (.goto 16, 3) := by decide +kernel
theorem dX6_passes_173 : decode cX6_passes 173 = .ok (.iconst 0, 1) := by decide +kernel
theorem dX6_passes_174 : decode cX6_passes 174 = .ok (.aload_n 0, 1) := by decide +kernel
theorem dX6_passes_175 : decode cX6_passes 175 = .ok (.iload 5, 2) := by decide +kernel
theorem dX6_passes_177 : decode cX6_passes 177 = .ok (.iconst 0, 1) := by decide +kernel
theorem dX6_passes_178 : decode cX6_passes 178 = .ok (.invokevirtual 68, 3) := by decide +kernel
theorem dX6_passes_181 : decode cX6_passes 181 = .ok (.iconst 3, 1) := by decide +kernel
theorem dX6_passes_182 : decode cX6_passes 182 = .ok (.isub, 1) := by decide +kernel
theorem dX6_passes_183 : decode cX6_passes 183 = .ok (.invokestatic 100, 3) := by decide +kernel
theorem dX6_passes_186 : decode cX6_passes 186 = .ok (.invokevirtual 131, 3) := by decide +kernel
theorem dX6_passes_189 : decode cX6_passes 189 = .ok (.iinc 5 1, 3) := by decide +kernel
theorem dX6_passes_192 : decode cX6_passes 192 = .ok (.goto (-88), 3) := by decide +kernel
theorem dX6_passes_195 : decode cX6_passes 195 = .ok (.aload_n 0, 1) := by decide +kernel
theorem dX6_passes_196 : decode cX6_passes 196 = .ok (.getfield 9, 3) := by decide +kernel
theorem dX6_passes_199 : decode cX6_passes 199 = .ok (.iconst 0, 1) := by decide +kernel
theorem dX6_passes_200 : decode cX6_passes 200 = .ok (.dup2, 1) := by decide +kernel
theorem dX6_passes_201 : decode cX6_passes 201 = .ok (.iaload, 1) := by decide +kernel
theorem dX6_passes_202 : decode cX6_passes 202 = .ok (.iconst 1, 1) := by decide +kernel
theorem dX6_passes_203 : decode cX6_passes 203 = .ok (.iadd, 1) := by decide +kernel
theorem dX6_passes_204 : decode cX6_passes 204 = .ok (.iastore, 1) := by decide +kernel
theorem dX6_passes_205 : decode cX6_passes 205 = .ok (.iinc 3 1, 3) := by decide +kernel
theorem dX6_passes_208 : decode cX6_passes 208 = .ok (.goto (-187), 3) := by decide +kernel
theorem dX6_passes_211 : decode cX6_passes 211 = .ok (.aload_n 0, 1) := by decide +kernel
theorem dX6_passes_212 : decode cX6_passes 212 = .ok (.iload_n 2, 1) := by decide +kernel
theorem dX6_passes_213 : decode cX6_passes 213 = .ok (.invokevirtual 119, 3) := by decide +kernel
theorem dX6_passes_216 : decode cX6_passes 216 = .ok (.ireturn, 1) := by decide +kernel
theorem dX6_hours_0 : decode cX6_hours 0 = .ok (.aload_n 0, 1) := by decide +kernel
theorem dX6_hours_1 : decode cX6_hours 1 = .ok (.invokevirtual 77, 3) := by decide +kernel
theorem dX6_hours_4 : decode cX6_hours 4 = .ok (.aload_n 0, 1) := by decide +kernel
theorem dX6_hours_5 : decode cX6_hours 5 = .ok (.aload_n 0, 1) := by decide +kernel
theorem dX6_hours_6 : decode cX6_hours 6 = .ok (.iload_n 1, 1) := by decide +kernel
theorem dX6_hours_7 : decode cX6_hours 7 = .ok (.invokevirtual 157, 3) := by decide +kernel
theorem dX6_hours_10 : decode cX6_hours 10 = .ok (.invokevirtual 84, 3) := by decide +kernel
theorem dX6_hours_13 : decode cX6_hours 13 = .ok (.ireturn, 1) := by decide +kernel
theorem dX6_stakeAt_0 : decode cX6_stakeAt 0 = .ok (.aload_n 0, 1) := by decide +kernel
theorem dX6_stakeAt_1 : decode cX6_stakeAt 1 = .ok (.iconst 0, 1) := by decide +kernel
theorem dX6_stakeAt_2 : decode cX6_stakeAt 2 = .ok (.putfield 36, 3) := by decide +kernel
theorem dX6_stakeAt_5 : decode cX6_stakeAt 5 = .ok (.aload_n 0, 1) := by decide +kernel
theorem dX6_stakeAt_6 : decode cX6_stakeAt 6 = .ok (.iload_n 1, 1) := by decide +kernel
theorem dX6_stakeAt_7 : decode cX6_stakeAt 7 = .ok (.invokevirtual 103, 3) := by decide +kernel
theorem dX6_stakeAt_10 : decode cX6_stakeAt 10 = .ok (.ifCond .eq 15, 3) := by decide +kernel
theorem dX6_stakeAt_13 : decode cX6_stakeAt 13 = .ok (.aload_n 0, 1) := by decide +kernel
theorem dX6_stakeAt_14 : decode cX6_stakeAt 14 = .ok (.getfield 9, 3) := by decide +kernel
theorem dX6_stakeAt_17 : decode cX6_stakeAt 17 = .ok (.bipush 9, 2) := by decide +kernel
theorem dX6_stakeAt_19 : decode cX6_stakeAt 19 = .ok (.iload_n 1, 1) := by decide +kernel
theorem dX6_stakeAt_20 : decode cX6_stakeAt 20 = .ok (.iadd, 1) := by decide +kernel
theorem dX6_stakeAt_21 : decode cX6_stakeAt 21 = .ok (.iaload, 1) := by decide +kernel
theorem dX6_stakeAt_22 : decode cX6_stakeAt 22 = .ok (.goto 8, 3) := by decide +kernel
theorem dX6_stakeAt_25 : decode cX6_stakeAt 25 = .ok (.aload_n 0, 1) := by decide +kernel
theorem dX6_stakeAt_26 : decode cX6_stakeAt 26 = .ok (.iconst 1, 1) := by decide +kernel
theorem dX6_stakeAt_27 : decode cX6_stakeAt 27 = .ok (.invokevirtual 61, 3) := by decide +kernel
theorem dX6_stakeAt_30 : decode cX6_stakeAt 30 = .ok (.ireturn, 1) := by decide +kernel
theorem dX6_postOf_0 : decode cX6_postOf 0 = .ok (.aload_n 0, 1) := by decide +kernel
theorem dX6_postOf_1 : decode cX6_postOf 1 = .ok (.iconst 0, 1) := by decide +kernel
theorem dX6_postOf_2 : decode cX6_postOf 2 = .ok (.putfield 36, 3) := by decide +kernel
theorem dX6_postOf_5 : decode cX6_postOf 5 = .ok (.aload_n 0, 1) := by decide +kernel
theorem dX6_postOf_6 : decode cX6_postOf 6 = .ok (.iload_n 1, 1) := by decide +kernel
theorem dX6_postOf_7 : decode cX6_postOf 7 = .ok (.invokevirtual 107, 3) := by decide +kernel
theorem dX6_postOf_10 : decode cX6_postOf 10 = .ok (.ifCond .eq 20, 3) := by decide +kernel
theorem dX6_postOf_13 : decode cX6_postOf 13 = .ok (.aload_n 0, 1) := by decide +kernel
theorem dX6_postOf_14 : decode cX6_postOf 14 = .ok (.iload_n 1, 1) := by decide +kernel
theorem dX6_postOf_15 : decode cX6_postOf 15 = .ok (.iload_n 2, 1) := by decide +kernel
theorem dX6_postOf_16 : decode cX6_postOf 16 = .ok (.ifCond .eq 7, 3) := by decide +kernel
theorem dX6_postOf_19 : decode cX6_postOf 19 = .ok (.iconst 1, 1) := by decide +kernel
theorem dX6_postOf_20 : decode cX6_postOf 20 = .ok (.goto 4, 3) := by decide +kernel
theorem dX6_postOf_23 : decode cX6_postOf 23 = .ok (.iconst 0, 1) := by decide +kernel
theorem dX6_postOf_24 : decode cX6_postOf 24 = .ok (.invokevirtual 91, 3) := by decide +kernel
theorem dX6_postOf_27 : decode cX6_postOf 27 = .ok (.goto 8, 3) := by decide +kernel
theorem dX6_postOf_30 : decode cX6_postOf 30 = .ok (.aload_n 0, 1) := by decide +kernel
theorem dX6_postOf_31 : decode cX6_postOf 31 = .ok (.iconst 1, 1) := by decide +kernel
theorem dX6_postOf_32 : decode cX6_postOf 32 = .ok (.invokevirtual 61, 3) := by decide +kernel
theorem dX6_postOf_35 : decode cX6_postOf 35 = .ok (.ireturn, 1) := by decide +kernel
theorem dX6_camelOf_0 : decode cX6_camelOf 0 = .ok (.aload_n 0, 1) := by decide +kernel
theorem dX6_camelOf_1 : decode cX6_camelOf 1 = .ok (.iconst 0, 1) := by decide +kernel
theorem dX6_camelOf_2 : decode cX6_camelOf 2 = .ok (.putfield 36, 3) := by decide +kernel
theorem dX6_camelOf_5 : decode cX6_camelOf 5 = .ok (.aload_n 0, 1) := by decide +kernel
theorem dX6_camelOf_6 : decode cX6_camelOf 6 = .ok (.iload_n 1, 1) := by decide +kernel
theorem dX6_camelOf_7 : decode cX6_camelOf 7 = .ok (.invokevirtual 141, 3) := by decide +kernel
theorem dX6_camelOf_10 : decode cX6_camelOf 10 = .ok (.ifCond .ne 9, 3) := by decide +kernel
theorem dX6_camelOf_13 : decode cX6_camelOf 13 = .ok (.aload_n 0, 1) := by decide +kernel
theorem dX6_camelOf_14 : decode cX6_camelOf 14 = .ok (.iconst 1, 1) := by decide +kernel
theorem dX6_camelOf_15 : decode cX6_camelOf 15 = .ok (.invokevirtual 61, 3) := by decide +kernel
theorem dX6_camelOf_18 : decode cX6_camelOf 18 = .ok (.ireturn, 1) := by decide +kernel
theorem dX6_camelOf_19 : decode cX6_camelOf 19 = .ok (.iload_n 2, 1) := by decide +kernel
theorem dX6_camelOf_20 : decode cX6_camelOf 20 = .ok (.tableswitch 64 0 4 #[36, 36, 36, 43, 57], 36) := by decide +kernel
theorem dX6_camelOf_56 : decode cX6_camelOf 56 = .ok (.aload_n 0, 1) := by decide +kernel
theorem dX6_camelOf_57 : decode cX6_camelOf 57 = .ok (.iload_n 1, 1) := by decide +kernel
theorem dX6_camelOf_58 : decode cX6_camelOf 58 = .ok (.iload_n 2, 1) := by decide +kernel
theorem dX6_camelOf_59 : decode cX6_camelOf 59 = .ok (.invokevirtual 68, 3) := by decide +kernel
theorem dX6_camelOf_62 : decode cX6_camelOf 62 = .ok (.ireturn, 1) := by decide +kernel
theorem dX6_camelOf_63 : decode cX6_camelOf 63 = .ok (.aload_n 0, 1) := by decide +kernel
theorem dX6_camelOf_64 : decode cX6_camelOf 64 = .ok (.iload_n 1, 1) := by decide +kernel
theorem dX6_camelOf_65 : decode cX6_camelOf 65 = .ok (.invokevirtual 135, 3) := by decide +kernel
theorem dX6_camelOf_68 : decode cX6_camelOf 68 = .ok (.ifCond .eq 7, 3) := by decide +kernel
theorem dX6_camelOf_71 : decode cX6_camelOf 71 = .ok (.iconst 1, 1) := by decide +kernel
theorem dX6_camelOf_72 : decode cX6_camelOf 72 = .ok (.goto 4, 3) := by decide +kernel
theorem dX6_camelOf_75 : decode cX6_camelOf 75 = .ok (.iconst 0, 1) := by decide +kernel
theorem dX6_camelOf_76 : decode cX6_camelOf 76 = .ok (.ireturn, 1) := by decide +kernel
theorem dX6_camelOf_77 : decode cX6_camelOf 77 = .ok (.aload_n 0, 1) := by decide +kernel
theorem dX6_camelOf_78 : decode cX6_camelOf 78 = .ok (.iload_n 1, 1) := by decide +kernel
theorem dX6_camelOf_79 : decode cX6_camelOf 79 = .ok (.iconst 3, 1) := by decide +kernel
theorem dX6_camelOf_80 : decode cX6_camelOf 80 = .ok (.invokevirtual 68, 3) := by decide +kernel
theorem dX6_camelOf_83 : decode cX6_camelOf 83 = .ok (.ireturn, 1) := by decide +kernel
theorem dX6_camelOf_84 : decode cX6_camelOf 84 = .ok (.aload_n 0, 1) := by decide +kernel
theorem dX6_camelOf_85 : decode cX6_camelOf 85 = .ok (.iconst 2, 1) := by decide +kernel
theorem dX6_camelOf_86 : decode cX6_camelOf 86 = .ok (.invokevirtual 61, 3) := by decide +kernel
theorem dX6_camelOf_89 : decode cX6_camelOf 89 = .ok (.ireturn, 1) := by decide +kernel
theorem dX6_drawnAt_0 : decode cX6_drawnAt 0 = .ok (.aload_n 0, 1) := by decide +kernel
theorem dX6_drawnAt_1 : decode cX6_drawnAt 1 = .ok (.iconst 0, 1) := by decide +kernel
theorem dX6_drawnAt_2 : decode cX6_drawnAt 2 = .ok (.putfield 36, 3) := by decide +kernel
theorem dX6_drawnAt_5 : decode cX6_drawnAt 5 = .ok (.aload_n 0, 1) := by decide +kernel
theorem dX6_drawnAt_6 : decode cX6_drawnAt 6 = .ok (.iload_n 1, 1) := by decide +kernel
theorem dX6_drawnAt_7 : decode cX6_drawnAt 7 = .ok (.invokevirtual 103, 3) := by decide +kernel
theorem dX6_drawnAt_10 : decode cX6_drawnAt 10 = .ok (.ifCond .eq 11, 3) := by decide +kernel
theorem dX6_drawnAt_13 : decode cX6_drawnAt 13 = .ok (.aload_n 0, 1) := by decide +kernel
theorem dX6_drawnAt_14 : decode cX6_drawnAt 14 = .ok (.iload_n 2, 1) := by decide +kernel
theorem dX6_drawnAt_15 : decode cX6_drawnAt 15 = .ok (.invokevirtual 110, 3) := by decide +kernel
theorem dX6_drawnAt_18 : decode cX6_drawnAt 18 = .ok (.ifCond .ne 9, 3) := by decide +kernel
theorem dX6_drawnAt_21 : decode cX6_drawnAt 21 = .ok (.aload_n 0, 1) := by decide +kernel
theorem dX6_drawnAt_22 : decode cX6_drawnAt 22 = .ok (.iconst 1, 1) := by decide +kernel
theorem dX6_drawnAt_23 : decode cX6_drawnAt 23 = .ok (.invokevirtual 61, 3) := by decide +kernel
theorem dX6_drawnAt_26 : decode cX6_drawnAt 26 = .ok (.ireturn, 1) := by decide +kernel
theorem dX6_drawnAt_27 : decode cX6_drawnAt 27 = .ok (.aload_n 0, 1) := by decide +kernel
theorem dX6_drawnAt_28 : decode cX6_drawnAt 28 = .ok (.iload_n 1, 1) := by decide +kernel
theorem dX6_drawnAt_29 : decode cX6_drawnAt 29 = .ok (.iload_n 2, 1) := by decide +kernel
theorem dX6_drawnAt_30 : decode cX6_drawnAt 30 = .ok (.invokevirtual 125, 3) := by decide +kernel
theorem dX6_drawnAt_33 : decode cX6_drawnAt 33 = .ok (.ifCond .ge 11, 3) := by decide +kernel
theorem dX6_drawnAt_36 : decode cX6_drawnAt 36 = .ok (.aload_n 0, 1) := by decide +kernel
theorem dX6_drawnAt_37 : decode cX6_drawnAt 37 = .ok (.iconst 2, 1) := by decide +kernel
theorem dX6_drawnAt_38 : decode cX6_drawnAt 38 = .ok (.invokevirtual 61, 3) := by decide +kernel
theorem dX6_drawnAt_41 : decode cX6_drawnAt 41 = .ok (.goto 9, 3) := by decide +kernel
theorem dX6_drawnAt_44 : decode cX6_drawnAt 44 = .ok (.aload_n 0, 1) := by decide +kernel
theorem dX6_drawnAt_45 : decode cX6_drawnAt 45 = .ok (.iload_n 1, 1) := by decide +kernel
theorem dX6_drawnAt_46 : decode cX6_drawnAt 46 = .ok (.iload_n 2, 1) := by decide +kernel
theorem dX6_drawnAt_47 : decode cX6_drawnAt 47 = .ok (.invokevirtual 125, 3) := by decide +kernel
theorem dX6_drawnAt_50 : decode cX6_drawnAt 50 = .ok (.ireturn, 1) := by decide +kernel
theorem dX6_wrongBy_0 : decode cX6_wrongBy 0 = .ok (.aload_n 0, 1) := by decide +kernel
theorem dX6_wrongBy_1 : decode cX6_wrongBy 1 = .ok (.iconst 0, 1) := by decide +kernel
theorem dX6_wrongBy_2 : decode cX6_wrongBy 2 = .ok (.putfield 36, 3) := by decide +kernel
theorem dX6_wrongBy_5 : decode cX6_wrongBy 5 = .ok (.aload_n 0, 1) := by decide +kernel
theorem dX6_wrongBy_6 : decode cX6_wrongBy 6 = .ok (.iload_n 1, 1) := by decide +kernel
theorem dX6_wrongBy_7 : decode cX6_wrongBy 7 = .ok (.invokevirtual 110, 3) := by decide +kernel
theorem dX6_wrongBy_10 : decode cX6_wrongBy 10 = .ok (.ifCond .ne 9, 3) := by decide +kernel
theorem dX6_wrongBy_13 : decode cX6_wrongBy 13 = .ok (.aload_n 0, 1) := by decide +kernel
theorem dX6_wrongBy_14 : decode cX6_wrongBy 14 = .ok (.iconst 1, 1) := by decide +kernel
theorem dX6_wrongBy_15 : decode cX6_wrongBy 15 = .ok (.invokevirtual 61, 3) := by decide +kernel
theorem dX6_wrongBy_18 : decode cX6_wrongBy 18 = .ok (.ireturn, 1) := by decide +kernel
theorem dX6_wrongBy_19 : decode cX6_wrongBy 19 = .ok (.iconst 0, 1) := by decide +kernel
theorem dX6_wrongBy_20 : decode cX6_wrongBy 20 = .ok (.istore_n 2, 1) := by decide +kernel
theorem dX6_wrongBy_21 : decode cX6_wrongBy 21 = .ok (.iconst 0, 1) := by decide +kernel
theorem dX6_wrongBy_22 : decode cX6_wrongBy 22 = .ok (.istore_n 3, 1) := by decide +kernel
theorem dX6_wrongBy_23 : decode cX6_wrongBy 23 = .ok (.iload_n 3, 1) := by decide +kernel
theorem dX6_wrongBy_24 : decode cX6_wrongBy 24 = .ok (.aload_n 0, 1) := by decide +kernel
theorem dX6_wrongBy_25 : decode cX6_wrongBy 25 = .ok (.getfield 9, 3) := by decide +kernel
theorem dX6_wrongBy_28 : decode cX6_wrongBy 28 = .ok (.iconst 2, 1) := by decide +kernel
theorem dX6_wrongBy_29 : decode cX6_wrongBy 29 = .ok (.iaload, 1) := by decide +kernel
theorem dX6_wrongBy_30 : decode cX6_wrongBy 30 = .ok (.if_icmp .ge 40, 3) := by decide +kernel
theorem dX6_wrongBy_33 : decode cX6_wrongBy 33 = .ok (.aload_n 0, 1) := by decide +kernel
theorem dX6_wrongBy_34 : decode cX6_wrongBy 34 = .ok (.iload_n 3, 1) := by decide +kernel
theorem dX6_wrongBy_35 : decode cX6_wrongBy 35 = .ok (.iload_n 1, 1) := by decide +kernel
theorem dX6_wrongBy_36 : decode cX6_wrongBy 36 = .ok (.invokevirtual 125, 3) := by decide +kernel
theorem dX6_wrongBy_39 : decode cX6_wrongBy 39 = .ok (.ifCond .lt 25, 3) := by decide +kernel
theorem dX6_wrongBy_42 : decode cX6_wrongBy 42 = .ok (.iload_n 2, 1) := by decide +kernel
theorem dX6_wrongBy_43 : decode cX6_wrongBy 43 = .ok (.aload_n 0, 1) := by decide +kernel
theorem dX6_wrongBy_44 : decode cX6_wrongBy 44 = .ok (.iload_n 3, 1) := by decide +kernel
theorem dX6_wrongBy_45 : decode cX6_wrongBy 45 = .ok (.iload_n 1, 1) := by decide +kernel
theorem dX6_wrongBy_46 : decode cX6_wrongBy 46 = .ok (.invokevirtual 125, 3) := by decide +kernel
theorem dX6_wrongBy_49 : decode cX6_wrongBy 49 = .ok (.aload_n 0, 1) := by decide +kernel
theorem dX6_wrongBy_50 : decode cX6_wrongBy 50 = .ok (.getfield 9, 3) := by decide +kernel
theorem dX6_wrongBy_53 : decode cX6_wrongBy 53 = .ok (.bipush 9, 2) := by decide +kernel
theorem dX6_wrongBy_55 : decode cX6_wrongBy 55 = .ok (.iload_n 3, 1) := by decide +kernel
theorem dX6_wrongBy_56 : decode cX6_wrongBy 56 = .ok (.iadd, 1) := by decide +kernel
theorem dX6_wrongBy_57 : decode cX6_wrongBy 57 = .ok (.iaload, 1) := by decide +kernel
theorem dX6_wrongBy_58 : decode cX6_wrongBy 58 = .ok (.isub, 1) := by decide +kernel
theorem dX6_wrongBy_59 : decode cX6_wrongBy 59 = .ok (.invokestatic 94, 3) := by decide +kernel
theorem dX6_wrongBy_62 : decode cX6_wrongBy 62 = .ok (.iadd, 1) := by decide +kernel
theorem dX6_wrongBy_63 : decode cX6_wrongBy 63 = .ok (.istore_n 2, 1) := by decide +kernel
theorem dX6_wrongBy_64 : decode cX6_wrongBy 64 = .ok (.iinc 3 1, 3) := by decide +kernel
theorem dX6_wrongBy_67 : decode cX6_wrongBy 67 = .ok (.goto (-44), 3) := by decide +kernel
theorem dX6_wrongBy_70 : decode cX6_wrongBy 70 = .ok (.iload_n 2, 1) := by decide +kernel
theorem dX6_wrongBy_71 : decode cX6_wrongBy 71 = .ok (.ireturn, 1) := by decide +kernel
theorem dX6_seems_0 : decode cX6_seems 0 = .ok (.aload_n 0, 1) := by decide +kernel
theorem dX6_seems_1 : decode cX6_seems 1 = .ok (.iconst 0, 1) := by decide +kernel
theorem dX6_seems_2 : decode cX6_seems 2 = .ok (.putfield 36, 3) := by decide +kernel
theorem dX6_seems_5 : decode cX6_seems 5 = .ok (.aload_n 0, 1) := by decide +kernel
theorem dX6_seems_6 : decode cX6_seems 6 = .ok (.iload_n 1, 1) := by decide +kernel
theorem dX6_seems_7 : decode cX6_seems 7 = .ok (.invokevirtual 103, 3) := by decide +kernel
theorem dX6_seems_10 : decode cX6_seems 10 = .ok (.ifCond .eq 20, 3) := by decide +kernel
theorem dX6_seems_13 : decode cX6_seems 13 = .ok (.aload_n 0, 1) := by decide +kernel
theorem dX6_seems_14 : decode cX6_seems 14 = .ok (.iload_n 2, 1) := by decide +kernel
theorem dX6_seems_15 : decode cX6_seems 15 = .ok (.invokevirtual 107, 3) := by decide +kernel
theorem dX6_seems_18 : decode cX6_seems 18 = .ok (.ifCond .eq 12, 3) := by decide +kernel
theorem dX6_seems_21 : decode cX6_seems 21 = .ok (.aload_n 0, 1) := by decide +kernel
theorem dX6_seems_22 : decode cX6_seems 22 = .ok (.iload_n 1, 1) := by decide +kernel
theorem dX6_seems_23 : decode cX6_seems 23 = .ok (.iload_n 2, 1) := by decide +kernel
theorem dX6_seems_24 : decode cX6_seems 24 = .ok (.invokevirtual 116, 3) := by decide +kernel
theorem dX6_seems_27 : decode cX6_seems 27 = .ok (.goto 8, 3) := by decide +kernel
theorem dX6_seems_30 : decode cX6_seems 30 = .ok (.aload_n 0, 1) := by decide +kernel
theorem dX6_seems_31 : decode cX6_seems 31 = .ok (.iconst 1, 1) := by decide +kernel
theorem dX6_seems_32 : decode cX6_seems 32 = .ok (.invokevirtual 61, 3) := by decide +kernel
theorem dX6_seems_35 : decode cX6_seems 35 = .ok (.ireturn, 1) := by decide +kernel
theorem dX6_seemsAgain_0 : decode cX6_seemsAgain 0 = .ok (.aload_n 0, 1) := by decide +kernel
theorem dX6_seemsAgain_1 : decode cX6_seemsAgain 1 = .ok (.iload_n 1, 1) := by decide +kernel
theorem dX6_seemsAgain_2 : decode cX6_seemsAgain 2 = .ok (.iload_n 2, 1) := by decide +kernel
theorem dX6_seemsAgain_3 : decode cX6_seemsAgain 3 = .ok (.invokevirtual 160, 3) := by decide +kernel
theorem dX6_seemsAgain_6 : decode cX6_seemsAgain 6 = .ok (.ireturn, 1) := by decide +kernel
theorem dX6_shimmers_0 : decode cX6_shimmers 0 = .ok (.aload_n 0, 1) := by decide +kernel
theorem dX6_shimmers_1 : decode cX6_shimmers 1 = .ok (.aload_n 0, 1) := by decide +kernel
theorem dX6_shimmers_2 : decode cX6_shimmers 2 = .ok (.iload_n 1, 1) := by decide +kernel
theorem dX6_shimmers_3 : decode cX6_shimmers 3 = .ok (.invokevirtual 103, 3) := by decide +kernel
theorem dX6_shimmers_6 : decode cX6_shimmers 6 = .ok (.ifCond .eq 15, 3) := by decide +kernel
theorem dX6_shimmers_9 : decode cX6_shimmers 9 = .ok (.aload_n 0, 1) := by decide +kernel
theorem dX6_shimmers_10 : decode cX6_shimmers 10 = .ok (.iload_n 2, 1) := by decide +kernel
theorem dX6_shimmers_11 : decode cX6_shimmers 11 = .ok (.invokevirtual 107, 3) := by decide +kernel
theorem dX6_shimmers_14 : decode cX6_shimmers 14 = .ok (.ifCond .eq 7, 3) := by decide +kernel
theorem dX6_shimmers_17 : decode cX6_shimmers 17 = .ok (.iconst 0, 1) := by decide +kernel
theorem dX6_shimmers_18 : decode cX6_shimmers 18 = .ok (.goto 4, 3) := by decide +kernel
theorem dX6_shimmers_21 : decode cX6_shimmers 21 = .ok (.iconst 1, 1) := by decide +kernel
theorem dX6_shimmers_22 : decode cX6_shimmers 22 = .ok (.putfield 36, 3) := by decide +kernel
theorem dX6_shimmers_25 : decode cX6_shimmers 25 = .ok (.aload_n 0, 1) := by decide +kernel
theorem dX6_shimmers_26 : decode cX6_shimmers 26 = .ok (.getfield 36, 3) := by decide +kernel
theorem dX6_shimmers_29 : decode cX6_shimmers 29 = .ok (.ifCond .ne 21, 3) := by decide +kernel
theorem dX6_shimmers_32 : decode cX6_shimmers 32 = .ok (.aload_n 0, 1) := by decide +kernel
theorem dX6_shimmers_33 : decode cX6_shimmers 33 = .ok (.iload_n 1, 1) := by decide +kernel
theorem dX6_shimmers_34 : decode cX6_shimmers 34 = .ok (.iload_n 2, 1) := by decide +kernel
theorem dX6_shimmers_35 : decode cX6_shimmers 35 = .ok (.aload_n 0, 1) := by decide +kernel
theorem dX6_shimmers_36 : decode cX6_shimmers 36 = .ok (.iconst 0, 1) := by decide +kernel
theorem dX6_shimmers_37 : decode cX6_shimmers 37 = .ok (.invokevirtual 88, 3) := by decide +kernel
theorem dX6_shimmers_40 : decode cX6_shimmers 40 = .ok (.invokevirtual 113, 3) := by decide +kernel
theorem dX6_shimmers_43 : decode cX6_shimmers 43 = .ok (.ifCond .eq 7, 3) := by decide +kernel
theorem dX6_shimmers_46 : decode cX6_shimmers 46 = .ok (.iconst 1, 1) := by decide +kernel
theorem dX6_shimmers_47 : decode cX6_shimmers 47 = .ok (.goto 4, 3) := by decide +kernel
theorem dX6_shimmers_50 : decode cX6_shimmers 50 = .ok (.iconst 0, 1) := by decide +kernel
theorem dX6_shimmers_51 : decode cX6_shimmers 51 = .ok (.ireturn, 1) := by decide +kernel
theorem dX6_bestPost_0 : decode cX6_bestPost 0 = .ok (.aload_n 0, 1) := by decide +kernel
theorem dX6_bestPost_1 : decode cX6_bestPost 1 = .ok (.iconst 0, 1) := by decide +kernel
theorem dX6_bestPost_2 : decode cX6_bestPost 2 = .ok (.putfield 36, 3) := by decide +kernel
theorem dX6_bestPost_5 : decode cX6_bestPost 5 = .ok (.aload_n 0, 1) := by decide +kernel
theorem dX6_bestPost_6 : decode cX6_bestPost 6 = .ok (.iload_n 1, 1) := by decide +kernel
theorem dX6_bestPost_7 : decode cX6_bestPost 7 = .ok (.invokevirtual 103, 3) := by decide +kernel
theorem dX6_bestPost_10 : decode cX6_bestPost 10 = .ok (.ifCond .ne 9, 3) := by decide +kernel
theorem dX6_bestPost_13 : decode cX6_bestPost 13 = .ok (.aload_n 0, 1) := by decide +kernel
theorem dX6_bestPost_14 : decode cX6_bestPost 14 = .ok (.iconst 1, 1) := by decide +kernel
theorem dX6_bestPost_15 : decode cX6_bestPost 15 = .ok (.invokevirtual 61, 3) := by decide +kernel
theorem dX6_bestPost_18 : decode cX6_bestPost 18 = .ok (.ireturn, 1) := by decide +kernel
theorem dX6_bestPost_19 : decode cX6_bestPost 19 = .ok (.iconst (-1), 1) := by decide +kernel
theorem dX6_bestPost_20 : decode cX6_bestPost 20 = .ok (.istore_n 2, 1) := by decide +kernel
theorem dX6_bestPost_21 : decode cX6_bestPost 21 = .ok (.iconst 0, 1) := by decide +kernel
theorem dX6_bestPost_22 : decode cX6_bestPost 22 = .ok (.istore_n 3, 1) := by decide +kernel
theorem dX6_bestPost_23 : decode cX6_bestPost 23 = .ok (.iconst 0, 1) := by decide +kernel
theorem dX6_bestPost_24 : decode cX6_bestPost 24 = .ok (.istore 4, 2) := by decide +kernel
theorem dX6_bestPost_26 : decode cX6_bestPost 26 = .ok (.iload 4, 2) := by decide +kernel
theorem dX6_bestPost_28 : decode cX6_bestPost 28 = .ok (.aload_n 0, 1) := by decide +kernel
theorem dX6_bestPost_29 : decode cX6_bestPost 29 = .ok (.getfield 9, 3) := by decide +kernel
theorem dX6_bestPost_32 : decode cX6_bestPost 32 = .ok (.iconst 3, 1) := by decide +kernel
theorem dX6_bestPost_33 : decode cX6_bestPost 33 = .ok (.iaload, 1) := by decide +kernel
theorem dX6_bestPost_34 : decode cX6_bestPost 34 = .ok (.if_icmp .ge 90, 3) := by decide +kernel
theorem dX6_bestPost_37 : decode cX6_bestPost 37 = .ok (.aload_n 0, 1) := by decide +kernel
theorem dX6_bestPost_38 : decode cX6_bestPost 38 = .ok (.iload_n 1, 1) := by decide +kernel
theorem dX6_bestPost_39 : decode cX6_bestPost 39 = .ok (.iload 4, 2) := by decide +kernel
theorem dX6_bestPost_41 : decode cX6_bestPost 41 = .ok (.aload_n 0, 1) := by decide +kernel
theorem dX6_bestPost_42 : decode cX6_bestPost 42 = .ok (.iconst 0, 1) := by decide +kernel
theorem dX6_bestPost_43 : decode cX6_bestPost 43 = .ok (.invokevirtual 88, 3) := by decide +kernel
theorem dX6_bestPost_46 : decode cX6_bestPost 46 = .ok (.invokevirtual 113, 3) := by decide +kernel
theorem dX6_bestPost_49 : decode cX6_bestPost 49 = .ok (.ifCond .eq 6, 3) := by decide +kernel
theorem dX6_bestPost_52 : decode cX6_bestPost 52 = .ok (.goto 66, 3) := by decide +kernel
theorem dX6_bestPost_55 : decode cX6_bestPost 55 = .ok (.aload_n 0, 1) := by decide +kernel
theorem dX6_bestPost_56 : decode cX6_bestPost 56 = .ok (.iload_n 1, 1) := by decide +kernel
theorem dX6_bestPost_57 : decode cX6_bestPost 57 = .ok (.iload 4, 2) := by decide +kernel
theorem dX6_bestPost_59 : decode cX6_bestPost 59 = .ok (.invokevirtual 116, 3) := by decide +kernel
theorem dX6_bestPost_62 : decode cX6_bestPost 62 = .ok (.aload_n 0, 1) := by decide +kernel
theorem dX6_bestPost_63 : decode cX6_bestPost 63 = .ok (.getfield 9, 3) := by decide +kernel
theorem dX6_bestPost_66 : decode cX6_bestPost 66 = .ok (.bipush 9, 2) := by decide +kernel
theorem dX6_bestPost_68 : decode cX6_bestPost 68 = .ok (.iload_n 1, 1) := by decide +kernel
theorem dX6_bestPost_69 : decode cX6_bestPost 69 = .ok (.iadd, 1) := by decide +kernel
theorem dX6_bestPost_70 : decode cX6_bestPost 70 = .ok (.iaload, 1) := by decide +kernel
theorem dX6_bestPost_71 : decode cX6_bestPost 71 = .ok (.isub, 1) := by decide +kernel
theorem dX6_bestPost_72 : decode cX6_bestPost 72 = .ok (.invokestatic 94, 3) := by decide +kernel
theorem dX6_bestPost_75 : decode cX6_bestPost 75 = .ok (.istore 5, 2) := by decide +kernel
theorem dX6_bestPost_77 : decode cX6_bestPost 77 = .ok (.iload_n 2, 1) := by decide +kernel
theorem dX6_bestPost_78 : decode cX6_bestPost 78 = .ok (.ifCond .lt 34, 3) := by decide +kernel
theorem dX6_bestPost_81 : decode cX6_bestPost 81 = .ok (.iload 5, 2) := by decide +kernel
theorem dX6_bestPost_83 : decode cX6_bestPost 83 = .ok (.iload_n 3, 1) := by decide +kernel
theorem dX6_bestPost_84 : decode cX6_bestPost 84 = .ok (.if_icmp .gt 34, 3) := by decide +kernel
theorem dX6_bestPost_87 : decode cX6_bestPost 87 = .ok (.iload 5, 2) := by decide +kernel
theorem dX6_bestPost_89 : decode cX6_bestPost 89 = .ok (.iload_n 3, 1) := by decide +kernel
theorem dX6_bestPost_90 : decode cX6_bestPost 90 = .ok (.if_icmp .ne 22, 3) := by decide +kernel
theorem dX6_bestPost_93 : decode cX6_bestPost 93 = .ok (.aload_n 0, 1) := by decide +kernel
theorem dX6_bestPost_94 : decode cX6_bestPost 94 = .ok (.iload 4, 2) := by decide +kernel
theorem dX6_bestPost_96 : decode cX6_bestPost 96 = .ok (.iconst 1, 1) := by decide +kernel
theorem dX6_bestPost_97 : decode cX6_bestPost 97 = .ok (.invokevirtual 91, 3) := by decide +kernel
theorem dX6_bestPost_100 : decode cX6_bestPost 100 = .ok (.aload_n 0, 1) := by decide +kernel
theorem dX6_bestPost_101 : decode cX6_bestPost 101 = .ok (.iload_n 2, 1) := by decide +kernel
theorem dX6_bestPost_102 : decode cX6_bestPost 102 = .ok (.iconst 1, 1) := by decide +kernel
theorem dX6_bestPost_103 : decode cX6_bestPost 103 = .ok (.invokevirtual 91, 3) := by decide +kernel
theorem dX6_bestPost_106 : decode cX6_bestPost 106 = .ok (.if_icmp .gt 6, 3) := by decide +kernel
theorem dX6_bestPost_109 : decode cX6_bestPost 109 = .ok (.goto 9, 3) := by decide +kernel
theorem dX6_bestPost_112 : decode cX6_bestPost 112 = .ok (.iload 4, 2) := by decide +kernel
theorem dX6_bestPost_114 : decode cX6_bestPost 114 = .ok (.istore_n 2, 1) := by decide +kernel
theorem dX6_bestPost_115 : decode cX6_bestPost 115 = .ok (.iload 5, 2) := by decide +kernel
theorem dX6_bestPost_117 : decode cX6_bestPost 117 = .ok (.istore_n 3, 1) := by decide +kernel
theorem dX6_bestPost_118 : decode cX6_bestPost 118 = .ok (.iinc 4 1, 3) := by decide +kernel
theorem dX6_bestPost_121 : decode cX6_bestPost 121 = .ok (.goto (-95), 3) := by decide +kernel
theorem dX6_bestPost_124 : decode cX6_bestPost 124 = .ok (.iload_n 2, 1) := by decide +kernel
theorem dX6_bestPost_125 : decode cX6_bestPost 125 = .ok (.ifCond .ge 11, 3) := by decide +kernel
theorem dX6_bestPost_128 : decode cX6_bestPost 128 = .ok (.aload_n 0, 1) := by decide +kernel
theorem dX6_bestPost_129 : decode cX6_bestPost 129 = .ok (.iconst 2, 1) := by decide +kernel
theorem dX6_bestPost_130 : decode cX6_bestPost 130 = .ok (.invokevirtual 61, 3) := by decide +kernel
theorem dX6_bestPost_133 : decode cX6_bestPost 133 = .ok (.goto 4, 3) := by decide +kernel
theorem dX6_bestPost_136 : decode cX6_bestPost 136 = .ok (.iload_n 2, 1) := by decide +kernel
theorem dX6_bestPost_137 : decode cX6_bestPost 137 = .ok (.ireturn, 1) := by decide +kernel
theorem dX6_clearIn_0 : decode cX6_clearIn 0 = .ok (.aload_n 0, 1) := by decide +kernel
theorem dX6_clearIn_1 : decode cX6_clearIn 1 = .ok (.iconst 0, 1) := by decide +kernel
theorem dX6_clearIn_2 : decode cX6_clearIn 2 = .ok (.putfield 36, 3) := by decide +kernel
theorem dX6_clearIn_5 : decode cX6_clearIn 5 = .ok (.aload_n 0, 1) := by decide +kernel
theorem dX6_clearIn_6 : decode cX6_clearIn 6 = .ok (.iload_n 1, 1) := by decide +kernel
theorem dX6_clearIn_7 : decode cX6_clearIn 7 = .ok (.invokevirtual 103, 3) := by decide +kernel
theorem dX6_clearIn_10 : decode cX6_clearIn 10 = .ok (.ifCond .eq 11, 3) := by decide +kernel
theorem dX6_clearIn_13 : decode cX6_clearIn 13 = .ok (.aload_n 0, 1) := by decide +kernel
theorem dX6_clearIn_14 : decode cX6_clearIn 14 = .ok (.iload_n 2, 1) := by decide +kernel
theorem dX6_clearIn_15 : decode cX6_clearIn 15 = .ok (.invokevirtual 107, 3) := by decide +kernel
theorem dX6_clearIn_18 : decode cX6_clearIn 18 = .ok (.ifCond .ne 9, 3) := by decide +kernel
theorem dX6_clearIn_21 : decode cX6_clearIn 21 = .ok (.aload_n 0, 1) := by decide +kernel
theorem dX6_clearIn_22 : decode cX6_clearIn 22 = .ok (.iconst 1, 1) := by decide +kernel
theorem dX6_clearIn_23 : decode cX6_clearIn 23 = .ok (.invokevirtual 61, 3) := by decide +kernel
theorem dX6_clearIn_26 : decode cX6_clearIn 26 = .ok (.ireturn, 1) := by decide +kernel
theorem dX6_clearIn_27 : decode cX6_clearIn 27 = .ok (.iconst 0, 1) := by decide +kernel
theorem dX6_clearIn_28 : decode cX6_clearIn 28 = .ok (.istore_n 3, 1) := by decide +kernel
theorem dX6_clearIn_29 : decode cX6_clearIn 29 = .ok (.iload_n 3, 1) := by decide +kernel
theorem dX6_clearIn_30 : decode cX6_clearIn 30 = .ok (.bipush 24, 2) := by decide +kernel
theorem dX6_clearIn_32 : decode cX6_clearIn 32 = .ok (.if_icmp .ge 25, 3) := by decide +kernel
theorem dX6_clearIn_35 : decode cX6_clearIn 35 = .ok (.aload_n 0, 1) := by decide +kernel
theorem dX6_clearIn_36 : decode cX6_clearIn 36 = .ok (.iload_n 1, 1) := by decide +kernel
theorem dX6_clearIn_37 : decode cX6_clearIn 37 = .ok (.iload_n 2, 1) := by decide +kernel
theorem dX6_clearIn_38 : decode cX6_clearIn 38 = .ok (.aload_n 0, 1) := by decide +kernel
theorem dX6_clearIn_39 : decode cX6_clearIn 39 = .ok (.iload_n 3, 1) := by decide +kernel
theorem dX6_clearIn_40 : decode cX6_clearIn 40 = .ok (.invokevirtual 88, 3) := by decide +kernel
theorem dX6_clearIn_43 : decode cX6_clearIn 43 = .ok (.invokevirtual 113, 3) := by decide +kernel
theorem dX6_clearIn_46 : decode cX6_clearIn 46 = .ok (.ifCond .ne 5, 3) := by decide +kernel
theorem dX6_clearIn_49 : decode cX6_clearIn 49 = .ok (.iload_n 3, 1) := by decide +kernel
theorem dX6_clearIn_50 : decode cX6_clearIn 50 = .ok (.ireturn, 1) := by decide +kernel
theorem dX6_clearIn_51 : decode cX6_clearIn 51 = .ok (.iinc 3 1, 3) := by decide +kernel
theorem dX6_clearIn_54 : decode cX6_clearIn 54 = .ok (.goto (-25), 3) := by decide +kernel
theorem dX6_clearIn_57 : decode cX6_clearIn 57 = .ok (.aload_n 0, 1) := by decide +kernel
theorem dX6_clearIn_58 : decode cX6_clearIn 58 = .ok (.iconst 2, 1) := by decide +kernel
theorem dX6_clearIn_59 : decode cX6_clearIn 59 = .ok (.invokevirtual 61, 3) := by decide +kernel
theorem dX6_clearIn_62 : decode cX6_clearIn 62 = .ok (.ireturn, 1) := by decide +kernel
theorem dX6_heatIn_0 : decode cX6_heatIn 0 = .ok (.aload_n 0, 1) := by decide +kernel
theorem dX6_heatIn_1 : decode cX6_heatIn 1 = .ok (.iconst 0, 1) := by decide +kernel
theorem dX6_heatIn_2 : decode cX6_heatIn 2 = .ok (.putfield 36, 3) := by decide +kernel
theorem dX6_heatIn_5 : decode cX6_heatIn 5 = .ok (.iload_n 1, 1) := by decide +kernel
theorem dX6_heatIn_6 : decode cX6_heatIn 6 = .ok (.iconst 0, 1) := by decide +kernel
theorem dX6_heatIn_7 : decode cX6_heatIn 7 = .ok (.bipush 47, 2) := by decide +kernel
theorem dX6_heatIn_9 : decode cX6_heatIn 9 = .ok (.invokestatic 64, 3) := by decide +kernel
theorem dX6_heatIn_12 : decode cX6_heatIn 12 = .ok (.ifCond .eq 11, 3) := by decide +kernel
theorem dX6_heatIn_15 : decode cX6_heatIn 15 = .ok (.aload_n 0, 1) := by decide +kernel
theorem dX6_heatIn_16 : decode cX6_heatIn 16 = .ok (.iload_n 1, 1) := by decide +kernel
theorem dX6_heatIn_17 : decode cX6_heatIn 17 = .ok (.invokevirtual 88, 3) := by decide +kernel
theorem dX6_heatIn_20 : decode cX6_heatIn 20 = .ok (.goto 8, 3) := by decide +kernel
theorem dX6_heatIn_23 : decode cX6_heatIn 23 = .ok (.aload_n 0, 1) := by decide +kernel
theorem dX6_heatIn_24 : decode cX6_heatIn 24 = .ok (.iconst 1, 1) := by decide +kernel
theorem dX6_heatIn_25 : decode cX6_heatIn 25 = .ok (.invokevirtual 61, 3) := by decide +kernel
theorem dX6_heatIn_28 : decode cX6_heatIn 28 = .ok (.ireturn, 1) := by decide +kernel
theorem dX6_lostIn_0 : decode cX6_lostIn 0 = .ok (.aload_n 0, 1) := by decide +kernel
theorem dX6_lostIn_1 : decode cX6_lostIn 1 = .ok (.iconst 0, 1) := by decide +kernel
theorem dX6_lostIn_2 : decode cX6_lostIn 2 = .ok (.putfield 36, 3) := by decide +kernel
theorem dX6_lostIn_5 : decode cX6_lostIn 5 = .ok (.aload_n 0, 1) := by decide +kernel
theorem dX6_lostIn_6 : decode cX6_lostIn 6 = .ok (.iload_n 1, 1) := by decide +kernel
theorem dX6_lostIn_7 : decode cX6_lostIn 7 = .ok (.invokevirtual 141, 3) := by decide +kernel
theorem dX6_lostIn_10 : decode cX6_lostIn 10 = .ok (.ifCond .ne 9, 3) := by decide +kernel
theorem dX6_lostIn_13 : decode cX6_lostIn 13 = .ok (.aload_n 0, 1) := by decide +kernel
theorem dX6_lostIn_14 : decode cX6_lostIn 14 = .ok (.iconst 1, 1) := by decide +kernel
theorem dX6_lostIn_15 : decode cX6_lostIn 15 = .ok (.invokevirtual 61, 3) := by decide +kernel
theorem dX6_lostIn_18 : decode cX6_lostIn 18 = .ok (.ireturn, 1) := by decide +kernel
theorem dX6_lostIn_19 : decode cX6_lostIn 19 = .ok (.aload_n 0, 1) := by decide +kernel
theorem dX6_lostIn_20 : decode cX6_lostIn 20 = .ok (.iload_n 1, 1) := by decide +kernel
theorem dX6_lostIn_21 : decode cX6_lostIn 21 = .ok (.iconst 1, 1) := by decide +kernel
theorem dX6_lostIn_22 : decode cX6_lostIn 22 = .ok (.invokevirtual 68, 3) := by decide +kernel
theorem dX6_lostIn_25 : decode cX6_lostIn 25 = .ok (.istore_n 2, 1) := by decide +kernel
theorem dX6_lostIn_26 : decode cX6_lostIn 26 = .ok (.iconst 0, 1) := by decide +kernel
theorem dX6_lostIn_27 : decode cX6_lostIn 27 = .ok (.istore_n 3, 1) := by decide +kernel
theorem dX6_lostIn_28 : decode cX6_lostIn 28 = .ok (.iload_n 2, 1) := by decide +kernel
theorem dX6_lostIn_29 : decode cX6_lostIn 29 = .ok (.bipush 20, 2) := by decide +kernel
theorem dX6_lostIn_31 : decode cX6_lostIn 31 = .ok (.if_icmp .ge 25, 3) := by decide +kernel
theorem dX6_lostIn_34 : decode cX6_lostIn 34 = .ok (.iload_n 3, 1) := by decide +kernel
theorem dX6_lostIn_35 : decode cX6_lostIn 35 = .ok (.bipush 48, 2) := by decide +kernel
theorem dX6_lostIn_37 : decode cX6_lostIn 37 = .ok (.if_icmp .ge 19, 3) := by decide +kernel
theorem dX6_lostIn_40 : decode cX6_lostIn 40 = .ok (.iload_n 2, 1) := by decide +kernel
theorem dX6_lostIn_41 : decode cX6_lostIn 41 = .ok (.aload_n 0, 1) := by decide +kernel
theorem dX6_lostIn_42 : decode cX6_lostIn 42 = .ok (.iload_n 3, 1) := by decide +kernel
theorem dX6_lostIn_43 : decode cX6_lostIn 43 = .ok (.iinc 3 1, 3) := by decide +kernel
theorem dX6_lostIn_46 : decode cX6_lostIn 46 = .ok (.invokevirtual 88, 3) := by decide +kernel
theorem dX6_lostIn_49 : decode cX6_lostIn 49 = .ok (.iconst 4, 1) := by decide +kernel
theorem dX6_lostIn_50 : decode cX6_lostIn 50 = .ok (.idiv, 1) := by decide +kernel
theorem dX6_lostIn_51 : decode cX6_lostIn 51 = .ok (.iadd, 1) := by decide +kernel
theorem dX6_lostIn_52 : decode cX6_lostIn 52 = .ok (.istore_n 2, 1) := by decide +kernel
theorem dX6_lostIn_53 : decode cX6_lostIn 53 = .ok (.goto (-25), 3) := by decide +kernel
theorem dX6_lostIn_56 : decode cX6_lostIn 56 = .ok (.iload_n 2, 1) := by decide +kernel
theorem dX6_lostIn_57 : decode cX6_lostIn 57 = .ok (.bipush 20, 2) := by decide +kernel
theorem dX6_lostIn_59 : decode cX6_lostIn 59 = .ok (.if_icmp .ge 11, 3) := by decide +kernel
theorem dX6_lostIn_62 : decode cX6_lostIn 62 = .ok (.aload_n 0, 1) := by decide +kernel
theorem dX6_lostIn_63 : decode cX6_lostIn 63 = .ok (.iconst 2, 1) := by decide +kernel
theorem dX6_lostIn_64 : decode cX6_lostIn 64 = .ok (.invokevirtual 61, 3) := by decide +kernel
theorem dX6_lostIn_67 : decode cX6_lostIn 67 = .ok (.goto 4, 3) := by decide +kernel
theorem dX6_lostIn_70 : decode cX6_lostIn 70 = .ok (.iload_n 3, 1) := by decide +kernel
theorem dX6_lostIn_71 : decode cX6_lostIn 71 = .ok (.ireturn, 1) := by decide +kernel
theorem dX6_nearest_0 : decode cX6_nearest 0 = .ok (.aload_n 0, 1) := by decide +kernel
theorem dX6_nearest_1 : decode cX6_nearest 1 = .ok (.iconst 0, 1) := by decide +kernel
theorem dX6_nearest_2 : decode cX6_nearest 2 = .ok (.putfield 36, 3) := by decide +kernel
theorem dX6_nearest_5 : decode cX6_nearest 5 = .ok (.iload_n 1, 1) := by decide +kernel
theorem dX6_nearest_6 : decode cX6_nearest 6 = .ok (.iconst 0, 1) := by decide +kernel
theorem dX6_nearest_7 : decode cX6_nearest 7 = .ok (.bipush 99, 2) := by decide +kernel
theorem dX6_nearest_9 : decode cX6_nearest 9 = .ok (.invokestatic 64, 3) := by decide +kernel
theorem dX6_nearest_12 : decode cX6_nearest 12 = .ok (.ifCond .ne 9, 3) := by decide +kernel
theorem dX6_nearest_15 : decode cX6_nearest 15 = .ok (.aload_n 0, 1) := by decide +kernel
theorem dX6_nearest_16 : decode cX6_nearest 16 = .ok (.iconst 1, 1) := by decide +kernel
theorem dX6_nearest_17 : decode cX6_nearest 17 = .ok (.invokevirtual 61, 3) := by decide +kernel
theorem dX6_nearest_20 : decode cX6_nearest 20 = .ok (.ireturn, 1) := by decide +kernel
theorem dX6_nearest_21 : decode cX6_nearest 21 = .ok (.aload_n 0, 1) := by decide +kernel
theorem dX6_nearest_22 : decode cX6_nearest 22 = .ok (.getfield 9, 3) := by decide +kernel
theorem dX6_nearest_25 : decode cX6_nearest 25 = .ok (.iconst 5, 1) := by decide +kernel
theorem dX6_nearest_26 : decode cX6_nearest 26 = .ok (.iaload, 1) := by decide +kernel
theorem dX6_nearest_27 : decode cX6_nearest 27 = .ok (.ifCond .ne 9, 3) := by decide +kernel
theorem dX6_nearest_30 : decode cX6_nearest 30 = .ok (.aload_n 0, 1) := by decide +kernel
theorem dX6_nearest_31 : decode cX6_nearest 31 = .ok (.iconst 2, 1) := by decide +kernel
theorem dX6_nearest_32 : decode cX6_nearest 32 = .ok (.invokevirtual 61, 3) := by decide +kernel
theorem dX6_nearest_35 : decode cX6_nearest 35 = .ok (.ireturn, 1) := by decide +kernel
theorem dX6_nearest_36 : decode cX6_nearest 36 = .ok (.iconst 0, 1) := by decide +kernel
theorem dX6_nearest_37 : decode cX6_nearest 37 = .ok (.istore_n 2, 1) := by decide +kernel
theorem dX6_nearest_38 : decode cX6_nearest 38 = .ok (.iconst 1, 1) := by decide +kernel
theorem dX6_nearest_39 : decode cX6_nearest 39 = .ok (.istore_n 3, 1) := by decide +kernel
theorem dX6_nearest_40 : decode cX6_nearest 40 = .ok (.iload_n 3, 1) := by decide +kernel
theorem dX6_nearest_41 : decode cX6_nearest 41 = .ok (.aload_n 0, 1) := by decide +kernel
theorem dX6_nearest_42 : decode cX6_nearest 42 = .ok (.getfield 9, 3) := by decide +kernel
theorem dX6_nearest_45 : decode cX6_nearest 45 = .ok (.iconst 5, 1) := by decide +kernel
theorem dX6_nearest_46 : decode cX6_nearest 46 = .ok (.iaload, 1) := by decide +kernel
theorem dX6_nearest_47 : decode cX6_nearest 47 = .ok (.if_icmp .ge 61, 3) := by decide +kernel
theorem dX6_nearest_50 : decode cX6_nearest 50 = .ok (.aload_n 0, 1) := by decide +kernel
theorem dX6_nearest_51 : decode cX6_nearest 51 = .ok (.iload_n 2, 1) := by decide +kernel
theorem dX6_nearest_52 : decode cX6_nearest 52 = .ok (.iconst 0, 1) := by decide +kernel
theorem dX6_nearest_53 : decode cX6_nearest 53 = .ok (.invokevirtual 68, 3) := by decide +kernel
theorem dX6_nearest_56 : decode cX6_nearest 56 = .ok (.iload_n 1, 1) := by decide +kernel
theorem dX6_nearest_57 : decode cX6_nearest 57 = .ok (.isub, 1) := by decide +kernel
theorem dX6_nearest_58 : decode cX6_nearest 58 = .ok (.invokestatic 94, 3) := by decide +kernel
theorem dX6_nearest_61 : decode cX6_nearest 61 = .ok (.aload_n 0, 1) := by decide +kernel
theorem dX6_nearest_62 : decode cX6_nearest 62 = .ok (.iload_n 3, 1) := by decide +kernel
theorem dX6_nearest_63 : decode cX6_nearest 63 = .ok (.iconst 0, 1) := by decide +kernel
theorem dX6_nearest_64 : decode cX6_nearest 64 = .ok (.invokevirtual 68, 3) := by decide +kernel
theorem dX6_nearest_67 : decode cX6_nearest 67 = .ok (.iload_n 1, 1) := by decide +kernel
theorem dX6_nearest_68 : decode cX6_nearest 68 = .ok (.isub, 1) := by decide +kernel
theorem dX6_nearest_69 : decode cX6_nearest 69 = .ok (.invokestatic 94, 3) := by decide +kernel
theorem dX6_nearest_72 : decode cX6_nearest 72 = .ok (.isub, 1) := by decide +kernel
theorem dX6_nearest_73 : decode cX6_nearest 73 = .ok (.istore 4, 2) := by decide +kernel
theorem dX6_nearest_75 : decode cX6_nearest 75 = .ok (.iload 4, 2) := by decide +kernel
theorem dX6_nearest_77 : decode cX6_nearest 77 = .ok (.ifCond .gt 23, 3) := by decide +kernel
theorem dX6_nearest_80 : decode cX6_nearest 80 = .ok (.iload 4, 2) := by decide +kernel
theorem dX6_nearest_82 : decode cX6_nearest 82 = .ok (.ifCond .ne 20, 3) := by decide +kernel
theorem dX6_nearest_85 : decode cX6_nearest 85 = .ok (.aload_n 0, 1) := by decide +kernel
theorem dX6_nearest_86 : decode cX6_nearest 86 = .ok (.iload_n 3, 1) := by decide +kernel
theorem dX6_nearest_87 : decode cX6_nearest 87 = .ok (.iconst 1, 1) := by decide +kernel
theorem dX6_nearest_88 : decode cX6_nearest 88 = .ok (.invokevirtual 68, 3) := by decide +kernel
theorem dX6_nearest_91 : decode cX6_nearest 91 = .ok (.aload_n 0, 1) := by decide +kernel
theorem dX6_nearest_92 : decode cX6_nearest 92 = .ok (.iload_n 2, 1) := by decide +kernel
theorem dX6_nearest_93 : decode cX6_nearest 93 = .ok (.iconst 1, 1) := by decide +kernel
theorem dX6_nearest_94 : decode cX6_nearest 94 = .ok (.invokevirtual 68, 3) := by decide +kernel
theorem dX6_nearest_97 : decode cX6_nearest 97 = .ok (.if_icmp .le 5, 3) := by decide +kernel
theorem dX6_nearest_100 : decode cX6_nearest 100 = .ok (.iload_n 3, 1) := by decide +kernel
theorem dX6_nearest_101 : decode cX6_nearest 101 = .ok (.istore_n 2, 1) := by decide +kernel
theorem dX6_nearest_102 : decode cX6_nearest 102 = .ok (.iinc 3 1, 3) := by decide +kernel
theorem dX6_nearest_105 : decode cX6_nearest 105 = .ok (.goto (-65), 3) := by decide +kernel
theorem dX6_nearest_108 : decode cX6_nearest 108 = .ok (.iload_n 2, 1) := by decide +kernel
theorem dX6_nearest_109 : decode cX6_nearest 109 = .ok (.ireturn, 1) := by decide +kernel
theorem dX6_append_0 : decode cX6_append 0 = .ok (.aload_n 0, 1) := by decide +kernel
theorem dX6_append_1 : decode cX6_append 1 = .ok (.iconst 0, 1) := by decide +kernel
theorem dX6_append_2 : decode cX6_append 2 = .ok (.putfield 36, 3) := by decide +kernel
theorem dX6_append_5 : decode cX6_append 5 = .ok (.aload_n 0, 1) := by decide +kernel
theorem dX6_append_6 : decode cX6_append 6 = .ok (.getfield 163, 3) := by decide +kernel
theorem dX6_append_9 : decode cX6_append 9 = .ok (.bipush 60, 2) := by decide +kernel
theorem dX6_append_11 : decode cX6_append 11 = .ok (.if_icmp .ne 9, 3) := by decide +kernel
theorem dX6_append_14 : decode cX6_append 14 = .ok (.aload_n 0, 1) := by decide +kernel
theorem dX6_append_15 : decode cX6_append 15 = .ok (.iconst 1, 1) := by decide +kernel
theorem dX6_append_16 : decode cX6_append 16 = .ok (.invokevirtual 61, 3) := by decide +kernel
theorem dX6_append_19 : decode cX6_append 19 = .ok (.ireturn, 1) := by decide +kernel
theorem dX6_append_20 : decode cX6_append 20 = .ok (.aload_n 0, 1) := by decide +kernel
theorem dX6_append_21 : decode cX6_append 21 = .ok (.getfield 25, 3) := by decide +kernel
theorem dX6_append_24 : decode cX6_append 24 = .ok (.aload_n 0, 1) := by decide +kernel
theorem dX6_append_25 : decode cX6_append 25 = .ok (.dup, 1) := by decide +kernel
theorem dX6_append_26 : decode cX6_append 26 = .ok (.getfield 163, 3) := by decide +kernel
theorem dX6_append_29 : decode cX6_append 29 = .ok (.dup_x1, 1) := by decide +kernel
theorem dX6_append_30 : decode cX6_append 30 = .ok (.iconst 1, 1) := by decide +kernel
theorem dX6_append_31 : decode cX6_append 31 = .ok (.iadd, 1) := by decide +kernel
theorem dX6_append_32 : decode cX6_append 32 = .ok (.putfield 163, 3) := by decide +kernel
theorem dX6_append_35 : decode cX6_append 35 = .ok (.iload_n 1, 1) := by decide +kernel
theorem dX6_append_36 : decode cX6_append 36 = .ok (.castore, 1) := by decide +kernel
theorem dX6_append_37 : decode cX6_append 37 = .ok (.aload_n 0, 1) := by decide +kernel
theorem dX6_append_38 : decode cX6_append 38 = .ok (.getfield 163, 3) := by decide +kernel
theorem dX6_append_41 : decode cX6_append 41 = .ok (.ireturn, 1) := by decide +kernel
theorem dX6_isNext_0 : decode cX6_isNext 0 = .ok (.aload_n 0, 1) := by decide +kernel
theorem dX6_isNext_1 : decode cX6_isNext 1 = .ok (.getfield 166, 3) := by decide +kernel
theorem dX6_isNext_4 : decode cX6_isNext 4 = .ok (.aload_n 0, 1) := by decide +kernel
theorem dX6_isNext_5 : decode cX6_isNext 5 = .ok (.getfield 163, 3) := by decide +kernel
theorem dX6_isNext_8 : decode cX6_isNext 8 = .ok (.if_icmp .eq 16, 3) := by decide +kernel
theorem dX6_isNext_11 : decode cX6_isNext 11 = .ok (.aload_n 0, 1) := by decide +kernel
theorem dX6_isNext_12 : decode cX6_isNext 12 = .ok (.getfield 25, 3) := by decide +kernel
theorem dX6_isNext_15 : decode cX6_isNext 15 = .ok (.aload_n 0, 1) := by decide +kernel
theorem dX6_isNext_16 : decode cX6_isNext 16 = .ok (.getfield 166, 3) := by decide +kernel
theorem dX6_isNext_19 : decode cX6_isNext 19 = .ok (.caload, 1) := by decide +kernel
theorem dX6_isNext_20 : decode cX6_isNext 20 = .ok (.iload_n 1, 1) := by decide +kernel
theorem dX6_isNext_21 : decode cX6_isNext 21 = .ok (.if_icmp .eq 5, 3) := by decide +kernel
theorem dX6_isNext_24 : decode cX6_isNext 24 = .ok (.iconst 0, 1) := by decide +kernel
theorem dX6_isNext_25 : decode cX6_isNext 25 = .ok (.ireturn, 1) := by decide +kernel
theorem dX6_isNext_26 : decode cX6_isNext 26 = .ok (.aload_n 0, 1) := by decide +kernel
theorem dX6_isNext_27 : decode cX6_isNext 27 = .ok (.dup, 1) := by decide +kernel
theorem dX6_isNext_28 : decode cX6_isNext 28 = .ok (.getfield 166, 3) := by decide +kernel
theorem dX6_isNext_31 : decode cX6_isNext 31 = .ok (.iconst 1, 1) := by decide +kernel
theorem dX6_isNext_32 : decode cX6_isNext 32 = .ok (.iadd, 1) := by decide +kernel
theorem dX6_isNext_33 : decode cX6_isNext 33 = .ok (.putfield 166, 3) := by decide +kernel
theorem dX6_isNext_36 : decode cX6_isNext 36 = .ok (.iconst 1, 1) := by decide +kernel
theorem dX6_isNext_37 : decode cX6_isNext 37 = .ok (.ireturn, 1) := by decide +kernel
theorem dX6_digits_0 : decode cX6_digits 0 = .ok (.iconst 0, 1) := by decide +kernel
theorem dX6_digits_1 : decode cX6_digits 1 = .ok (.istore_n 3, 1) := by decide +kernel
theorem dX6_digits_2 : decode cX6_digits 2 = .ok (.aload_n 0, 1) := by decide +kernel
theorem dX6_digits_3 : decode cX6_digits 3 = .ok (.getfield 29, 3) := by decide +kernel
theorem dX6_digits_6 : decode cX6_digits 6 = .ok (.iload_n 1, 1) := by decide +kernel
theorem dX6_digits_7 : decode cX6_digits 7 = .ok (.iconst 0, 1) := by decide +kernel
theorem dX6_digits_8 : decode cX6_digits 8 = .ok (.iastore, 1) := by decide +kernel
theorem dX6_digits_9 : decode cX6_digits 9 = .ok (.iload_n 3, 1) := by decide +kernel
theorem dX6_digits_10 : decode cX6_digits 10 = .ok (.iload_n 2, 1) := by decide +kernel
theorem dX6_digits_11 : decode cX6_digits 11 = .ok (.if_icmp .ge 74, 3) := by decide +kernel
theorem dX6_digits_14 : decode cX6_digits 14 = .ok (.aload_n 0, 1) := by decide +kernel
theorem dX6_digits_15 : decode cX6_digits 15 = .ok (.getfield 166, 3) := by decide +kernel
theorem dX6_digits_18 : decode cX6_digits 18 = .ok (.aload_n 0, 1) := by decide +kernel
theorem dX6_digits_19 : decode cX6_digits 19 = .ok (.getfield 163, 3) := by decide +kernel
theorem dX6_digits_22 : decode cX6_digits 22 = .ok (.if_icmp .ge 63, 3) := by decide +kernel
theorem dX6_digits_25 : decode cX6_digits 25 = .ok (.aload_n 0, 1) := by decide +kernel
theorem dX6_digits_26 : decode cX6_digits 26 = .ok (.getfield 25, 3) := by decide +kernel
theorem dX6_digits_29 : decode cX6_digits 29 = .ok (.aload_n 0, 1) := by decide +kernel
theorem dX6_digits_30 : decode cX6_digits 30 = .ok (.getfield 166, 3) := by decide +kernel
theorem dX6_digits_33 : decode cX6_digits 33 = .ok (.caload, 1) := by decide +kernel
theorem dX6_digits_34 : decode cX6_digits 34 = .ok (.bipush 48, 2) := by decide +kernel
theorem dX6_digits_36 : decode cX6_digits 36 = .ok (.bipush 57, 2) := by decide +kernel
theorem dX6_digits_38 : decode cX6_digits 38 = .ok (.invokestatic 64, 3) := by decide +kernel
theorem dX6_digits_41 : decode cX6_digits 41 = .ok (.ifCond .eq 44, 3) := by decide +kernel
theorem dX6_digits_44 : decode cX6_digits 44 = .ok (.aload_n 0, 1) := by decide +kernel
theorem dX6_digits_45 : decode cX6_digits 45 = .ok (.getfield 29, 3) := by decide +kernel
theorem dX6_digits_48 : decode cX6_digits 48 = .ok (.iload_n 1, 1) := by decide +kernel
theorem dX6_digits_49 : decode cX6_digits 49 = .ok (.bipush 10, 2) := by decide +kernel
theorem dX6_digits_51 : decode cX6_digits 51 = .ok (.aload_n 0, 1) := by decide +kernel
theorem dX6_digits_52 : decode cX6_digits 52 = .ok (.getfield 29, 3) := by decide +kernel
theorem dX6_digits_55 : decode cX6_digits 55 = .ok (.iload_n 1, 1) := by decide +kernel
theorem dX6_digits_56 : decode cX6_digits 56 = .ok (.iaload, 1) := by decide +kernel
theorem dX6_digits_57 : decode cX6_digits 57 = .ok (.imul, 1) := by decide +kernel
theorem dX6_digits_58 : decode cX6_digits 58 = .ok (.aload_n 0, 1) := by decide +kernel
theorem dX6_digits_59 : decode cX6_digits 59 = .ok (.getfield 25, 3) := by decide +kernel
theorem dX6_digits_62 : decode cX6_digits 62 = .ok (.aload_n 0, 1) := by decide +kernel
theorem dX6_digits_63 : decode cX6_digits 63 = .ok (.dup, 1) := by decide +kernel
theorem dX6_digits_64 : decode cX6_digits 64 = .ok (.getfield 166, 3) := by decide +kernel
theorem dX6_digits_67 : decode cX6_digits 67 = .ok (.dup_x1, 1) := by decide +kernel
theorem dX6_digits_68 : decode cX6_digits 68 = .ok (.iconst 1, 1) := by decide +kernel
theorem dX6_digits_69 : decode cX6_digits 69 = .ok (.iadd, 1) := by decide +kernel
theorem dX6_digits_70 : decode cX6_digits 70 = .ok (.putfield 166, 3) := by decide +kernel
theorem dX6_digits_73 : decode cX6_digits 73 = .ok (.caload, 1) := by decide +kernel
theorem dX6_digits_74 : decode cX6_digits 74 = .ok (.iadd, 1) := by decide +kernel
theorem dX6_digits_75 : decode cX6_digits 75 = .ok (.bipush 48, 2) := by decide +kernel
theorem dX6_digits_77 : decode cX6_digits 77 = .ok (.isub, 1) := by decide +kernel
theorem dX6_digits_78 : decode cX6_digits 78 = .ok (.iastore, 1) := by decide +kernel
theorem dX6_digits_79 : decode cX6_digits 79 = .ok (.iinc 3 1, 3) := by decide +kernel
theorem dX6_digits_82 : decode cX6_digits 82 = .ok (.goto (-73), 3) := by decide +kernel
theorem dX6_digits_85 : decode cX6_digits 85 = .ok (.iload_n 3, 1) := by decide +kernel
theorem dX6_digits_86 : decode cX6_digits 86 = .ok (.ifCond .le 7, 3) := by decide +kernel
theorem dX6_digits_89 : decode cX6_digits 89 = .ok (.iconst 1, 1) := by decide +kernel
theorem dX6_digits_90 : decode cX6_digits 90 = .ok (.goto 4, 3) := by decide +kernel
theorem dX6_digits_93 : decode cX6_digits 93 = .ok (.iconst 0, 1) := by decide +kernel
theorem dX6_digits_94 : decode cX6_digits 94 = .ok (.ireturn, 1) := by decide +kernel
theorem dX6_isCommand_0 : decode cX6_isCommand 0 = .ok (.aload_n 0, 1) := by decide +kernel
theorem dX6_isCommand_1 : decode cX6_isCommand 1 = .ok (.getfield 166, 3) := by decide +kernel
theorem dX6_isCommand_4 : decode cX6_isCommand 4 = .ok (.aload_n 0, 1) := by decide +kernel
theorem dX6_isCommand_5 : decode cX6_isCommand 5 = .ok (.getfield 163, 3) := by decide +kernel
theorem dX6_isCommand_8 : decode cX6_isCommand 8 = .ok (.if_icmp .ne 5, 3) := by decide +kernel
theorem dX6_isCommand_11 : decode cX6_isCommand 11 = .ok (.iconst 0, 1) := by decide +kernel
theorem dX6_isCommand_12 : decode cX6_isCommand 12 = .ok (.ireturn, 1) := by decide +kernel
theorem dX6_isCommand_13 : decode cX6_isCommand 13 = .ok (.aload_n 0, 1) := by decide +kernel
theorem dX6_isCommand_14 : decode cX6_isCommand 14 = .ok (.aload_n 0, 1) := by decide +kernel
theorem dX6_isCommand_15 : decode cX6_isCommand 15 = .ok (.getfield 25, 3) := by decide +kernel
theorem dX6_isCommand_18 : decode cX6_isCommand 18 = .ok (.aload_n 0, 1) := by decide +kernel
theorem dX6_isCommand_19 : decode cX6_isCommand 19 = .ok (.getfield 166, 3) := by decide +kernel
theorem dX6_isCommand_22 : decode cX6_isCommand 22 = .ok (.caload, 1) := by decide +kernel
theorem dX6_isCommand_23 : decode cX6_isCommand 23 = .ok (.putfield 169, 3) := by decide +kernel
theorem dX6_isCommand_26 : decode cX6_isCommand 26 = .ok (.aload_n 0, 1) := by decide +kernel
theorem dX6_isCommand_27 : decode cX6_isCommand 27 = .ok (.getfield 169, 3) := by decide +kernel
theorem dX6_isCommand_30 : decode cX6_isCommand 30 = .ok (.tableswitch 240 98 119 #[206, 240, 223, 163, 240, 240, 240, 240, 240, 240, 223, 240, 240, 240, 240, 240, 240, 102, 223, 240, 240, 206], 102) := by decide +kernel
theorem dX6_isCommand_132 : decode cX6_isCommand 132 = .ok (.aload_n 0, 1) := by decide +kernel
theorem dX6_isCommand_133 : decode cX6_isCommand 133 = .ok (.dup, 1) := by decide +kernel
theorem dX6_isCommand_134 : decode cX6_isCommand 134 = .ok (.getfield 166, 3) := by decide +kernel
theorem dX6_isCommand_137 : decode cX6_isCommand 137 = .ok (.iconst 1, 1) := by decide +kernel
theorem dX6_isCommand_138 : decode cX6_isCommand 138 = .ok (.iadd, 1) := by decide +kernel
theorem dX6_isCommand_139 : decode cX6_isCommand 139 = .ok (.putfield 166, 3) := by decide +kernel
theorem dX6_isCommand_142 : decode cX6_isCommand 142 = .ok (.aload_n 0, 1) := by decide +kernel
theorem dX6_isCommand_143 : decode cX6_isCommand 143 = .ok (.iconst 0, 1) := by decide +kernel
theorem dX6_isCommand_144 : decode cX6_isCommand 144 = .ok (.iconst 1, 1) := by decide +kernel
theorem dX6_isCommand_145 : decode cX6_isCommand 145 = .ok (.invokevirtual 173, 3) := by decide +kernel
theorem dX6_isCommand_148 : decode cX6_isCommand 148 = .ok (.ifCond .eq 43, 3) := by decide +kernel
theorem dX6_isCommand_151 : decode cX6_isCommand 151 = .ok (.aload_n 0, 1) := by decide +kernel
theorem dX6_isCommand_152 : decode cX6_isCommand 152 = .ok (.bipush 64, 2) := by decide +kernel
theorem dX6_isCommand_154 : decode cX6_isCommand 154 = .ok (.invokevirtual 176, 3) := by decide +kernel
theorem dX6_isCommand_157 : decode cX6_isCommand 157 = .ok (.ifCond .eq 34, 3) := by decide +kernel
theorem dX6_isCommand_160 : decode cX6_isCommand 160 = .ok (.aload_n 0, 1) := by decide +kernel
theorem dX6_isCommand_161 : decode cX6_isCommand 161 = .ok (.iconst 1, 1) := by decide +kernel
theorem dX6_isCommand_162 : decode cX6_isCommand 162 = .ok (.iconst 1, 1) := by decide +kernel
theorem dX6_isCommand_163 : decode cX6_isCommand 163 = .ok (.invokevirtual 173, 3) := by decide +kernel
theorem dX6_isCommand_166 : decode cX6_isCommand 166 = .ok (.ifCond .eq 25, 3) := by decide +kernel
theorem dX6_isCommand_169 : decode cX6_isCommand 169 = .ok (.aload_n 0, 1) := by decide +kernel
theorem dX6_isCommand_170 : decode cX6_isCommand 170 = .ok (.bipush 62, 2) := by decide +kernel
theorem dX6_isCommand_172 : decode cX6_isCommand 172 = .ok (.invokevirtual 176, 3) := by decide +kernel
theorem dX6_isCommand_175 : decode cX6_isCommand 175 = .ok (.ifCond .eq 16, 3) := by decide +kernel
theorem dX6_isCommand_178 : decode cX6_isCommand 178 = .ok (.aload_n 0, 1) := by decide +kernel
theorem dX6_isCommand_179 : decode cX6_isCommand 179 = .ok (.iconst 2, 1) := by decide +kernel
theorem dX6_isCommand_180 : decode cX6_isCommand 180 = .ok (.iconst 1, 1) := by decide +kernel
theorem dX6_isCommand_181 : decode cX6_isCommand 181 = .ok (.invokevirtual 173, 3) := by decide +kernel
theorem dX6_isCommand_184 : decode cX6_isCommand 184 = .ok (.ifCond .eq 7, 3) := by decide +kernel
theorem dX6_isCommand_187 : decode cX6_isCommand 187 = .ok (.iconst 1, 1) := by decide +kernel
theorem dX6_isCommand_188 : decode cX6_isCommand 188 = .ok (.goto 4, 3) := by decide +kernel
theorem dX6_isCommand_191 : decode cX6_isCommand 191 = .ok (.iconst 0, 1) := by decide +kernel
theorem dX6_isCommand_192 : decode cX6_isCommand 192 = .ok (.ireturn, 1) := by decide +kernel
theorem dX6_isCommand_193 : decode cX6_isCommand 193 = .ok (.aload_n 0, 1) := by decide +kernel
theorem dX6_isCommand_194 : decode cX6_isCommand 194 = .ok (.dup, 1) := by decide +kernel
theorem dX6_isCommand_195 : decode cX6_isCommand 195 = .ok (.getfield 166, 3) := by decide +kernel
theorem dX6_isCommand_198 : decode cX6_isCommand 198 = .ok (.iconst 1, 1) := by decide +kernel
theorem dX6_isCommand_199 : decode cX6_isCommand 199 = .ok (.iadd, 1) := by decide +kernel
theorem dX6_isCommand_200 : decode cX6_isCommand 200 = .ok (.putfield 166, 3) := by decide +kernel
theorem dX6_isCommand_203 : decode cX6_isCommand 203 = .ok (.aload_n 0, 1) := by decide +kernel
theorem dX6_isCommand_204 : decode cX6_isCommand 204 = .ok (.iconst 0, 1) := by decide +kernel
theorem dX6_isCommand_205 : decode cX6_isCommand 205 = .ok (.iconst 1, 1) := by decide +kernel
theorem dX6_isCommand_206 : decode cX6_isCommand 206 = .ok (.invokevirtual 173, 3) := by decide +kernel
theorem dX6_isCommand_209 : decode cX6_isCommand 209 = .ok (.ifCond .eq 25, 3) := by decide +kernel
theorem dX6_isCommand_212 : decode cX6_isCommand 212 = .ok (.aload_n 0, 1) := by decide +kernel
theorem dX6_isCommand_213 : decode cX6_isCommand 213 = .ok (.bipush 47, 2) := by decide +kernel
theorem dX6_isCommand_215 : decode cX6_isCommand 215 = .ok (.invokevirtual 176, 3) := by decide +kernel
theorem dX6_isCommand_218 : decode cX6_isCommand 218 = .ok (.ifCond .eq 16, 3) := by decide +kernel
theorem dX6_isCommand_221 : decode cX6_isCommand 221 = .ok (.aload_n 0, 1) := by decide +kernel
theorem dX6_isCommand_222 : decode cX6_isCommand 222 = .ok (.iconst 1, 1) := by decide +kernel
theorem dX6_isCommand_223 : decode cX6_isCommand 223 = .ok (.iconst 1, 1) := by decide +kernel
theorem dX6_isCommand_224 : decode cX6_isCommand 224 = .ok (.invokevirtual 173, 3) := by decide +kernel
theorem dX6_isCommand_227 : decode cX6_isCommand 227 = .ok (.ifCond .eq 7, 3) := by decide +kernel
theorem dX6_isCommand_230 : decode cX6_isCommand 230 = .ok (.iconst 1, 1) := by decide +kernel
theorem dX6_isCommand_231 : decode cX6_isCommand 231 = .ok (.goto 4, 3) := by decide +kernel
theorem dX6_isCommand_234 : decode cX6_isCommand 234 = .ok (.iconst 0, 1) := by decide +kernel
theorem dX6_isCommand_235 : decode cX6_isCommand 235 = .ok (.ireturn, 1) := by decide +kernel
theorem dX6_isCommand_236 : decode cX6_isCommand 236 = .ok (.aload_n 0, 1) := by decide +kernel
theorem dX6_isCommand_237 : decode cX6_isCommand 237 = .ok (.dup, 1) := by decide +kernel
theorem dX6_isCommand_238 : decode cX6_isCommand 238 = .ok (.getfield 166, 3) := by decide +kernel
theorem dX6_isCommand_241 : decode cX6_isCommand 241 = .ok (.iconst 1, 1) := by decide +kernel
theorem dX6_isCommand_242 : decode cX6_isCommand 242 = .ok (.iadd, 1) := by decide +kernel
theorem dX6_isCommand_243 : decode cX6_isCommand 243 = .ok (.putfield 166, 3) := by decide +kernel
theorem dX6_isCommand_246 : decode cX6_isCommand 246 = .ok (.aload_n 0, 1) := by decide +kernel
theorem dX6_isCommand_247 : decode cX6_isCommand 247 = .ok (.iconst 0, 1) := by decide +kernel
theorem dX6_isCommand_248 : decode cX6_isCommand 248 = .ok (.iconst 2, 1) := by decide +kernel
theorem dX6_isCommand_249 : decode cX6_isCommand 249 = .ok (.invokevirtual 173, 3) := by decide +kernel
theorem dX6_isCommand_252 : decode cX6_isCommand 252 = .ok (.ireturn, 1) := by decide +kernel
theorem dX6_isCommand_253 : decode cX6_isCommand 253 = .ok (.aload_n 0, 1) := by decide +kernel
theorem dX6_isCommand_254 : decode cX6_isCommand 254 = .ok (.dup, 1) := by decide +kernel
theorem dX6_isCommand_255 : decode cX6_isCommand 255 = .ok (.getfield 166, 3) := by decide +kernel
theorem dX6_isCommand_258 : decode cX6_isCommand 258 = .ok (.iconst 1, 1) := by decide +kernel
theorem dX6_isCommand_259 : decode cX6_isCommand 259 = .ok (.iadd, 1) := by decide +kernel
theorem dX6_isCommand_260 : decode cX6_isCommand 260 = .ok (.putfield 166, 3) := by decide +kernel
theorem dX6_isCommand_263 : decode cX6_isCommand 263 = .ok (.aload_n 0, 1) := by decide +kernel
theorem dX6_isCommand_264 : decode cX6_isCommand 264 = .ok (.iconst 0, 1) := by decide +kernel
theorem dX6_isCommand_265 : decode cX6_isCommand 265 = .ok (.iconst 1, 1) := by decide +kernel
theorem dX6_isCommand_266 : decode cX6_isCommand 266 = .ok (.invokevirtual 173, 3) := by decide +kernel
theorem dX6_isCommand_269 : decode cX6_isCommand 269 = .ok (.ireturn, 1) := by decide +kernel
theorem dX6_isCommand_270 : decode cX6_isCommand 270 = .ok (.iconst 0, 1) := by decide +kernel
theorem dX6_isCommand_271 : decode cX6_isCommand 271 = .ok (.ireturn, 1) := by decide +kernel
theorem dX6_carries_0 : decode cX6_carries 0 = .ok (.aload_n 0, 1) := by decide +kernel
theorem dX6_carries_1 : decode cX6_carries 1 = .ok (.getfield 169, 3) := by decide +kernel
theorem dX6_carries_4 : decode cX6_carries 4 = .ok (.lookupswitch 144 #[(98, 100), (101, 83), (108, 133), (115, 60), (116, 122), (119, 111)], 60) := by decide +kernel
theorem dX6_carries_64 : decode cX6_carries 64 = .ok (.aload_n 0, 1) := by decide +kernel
theorem dX6_carries_65 : decode cX6_carries 65 = .ok (.aload_n 0, 1) := by decide +kernel
theorem dX6_carries_66 : decode cX6_carries 66 = .ok (.getfield 29, 3) := by decide +kernel
theorem dX6_carries_69 : decode cX6_carries 69 = .ok (.iconst 0, 1) := by decide +kernel
theorem dX6_carries_70 : decode cX6_carries 70 = .ok (.iaload, 1) := by decide +kernel
theorem dX6_carries_71 : decode cX6_carries 71 = .ok (.aload_n 0, 1) := by decide +kernel
theorem dX6_carries_72 : decode cX6_carries 72 = .ok (.getfield 29, 3) := by decide +kernel
theorem dX6_carries_75 : decode cX6_carries 75 = .ok (.iconst 1, 1) := by decide +kernel
theorem dX6_carries_76 : decode cX6_carries 76 = .ok (.iaload, 1) := by decide +kernel
theorem dX6_carries_77 : decode cX6_carries 77 = .ok (.aload_n 0, 1) := by decide +kernel
theorem dX6_carries_78 : decode cX6_carries 78 = .ok (.getfield 29, 3) := by decide +kernel
theorem dX6_carries_81 : decode cX6_carries 81 = .ok (.iconst 2, 1) := by decide +kernel
theorem dX6_carries_82 : decode cX6_carries 82 = .ok (.iaload, 1) := by decide +kernel
theorem dX6_carries_83 : decode cX6_carries 83 = .ok (.invokevirtual 122, 3) := by decide +kernel
theorem dX6_carries_86 : decode cX6_carries 86 = .ok (.ireturn, 1) := by decide +kernel
theorem dX6_carries_87 : decode cX6_carries 87 = .ok (.aload_n 0, 1) := by decide +kernel
theorem dX6_carries_88 : decode cX6_carries 88 = .ok (.aload_n 0, 1) := by decide +kernel
theorem dX6_carries_89 : decode cX6_carries 89 = .ok (.getfield 29, 3) := by decide +kernel
theorem dX6_carries_92 : decode cX6_carries 92 = .ok (.iconst 0, 1) := by decide +kernel
theorem dX6_carries_93 : decode cX6_carries 93 = .ok (.iaload, 1) := by decide +kernel
theorem dX6_carries_94 : decode cX6_carries 94 = .ok (.aload_n 0, 1) := by decide +kernel
theorem dX6_carries_95 : decode cX6_carries 95 = .ok (.getfield 29, 3) := by decide +kernel
theorem dX6_carries_98 : decode cX6_carries 98 = .ok (.iconst 1, 1) := by decide +kernel
theorem dX6_carries_99 : decode cX6_carries 99 = .ok (.iaload, 1) := by decide +kernel
theorem dX6_carries_100 : decode cX6_carries 100 = .ok (.invokevirtual 128, 3) := by decide +kernel
theorem dX6_carries_103 : decode cX6_carries 103 = .ok (.ireturn, 1) := by decide +kernel
theorem dX6_carries_104 : decode cX6_carries 104 = .ok (.aload_n 0, 1) := by decide +kernel
theorem dX6_carries_105 : decode cX6_carries 105 = .ok (.aload_n 0, 1) := by decide +kernel
theorem dX6_carries_106 : decode cX6_carries 106 = .ok (.getfield 29, 3) := by decide +kernel
theorem dX6_carries_109 : decode cX6_carries 109 = .ok (.iconst 0, 1) := by decide +kernel
theorem dX6_carries_110 : decode cX6_carries 110 = .ok (.iaload, 1) := by decide +kernel
theorem dX6_carries_111 : decode cX6_carries 111 = .ok (.invokevirtual 138, 3) := by decide +kernel
theorem dX6_carries_114 : decode cX6_carries 114 = .ok (.ireturn, 1) := by decide +kernel
theorem dX6_carries_115 : decode cX6_carries 115 = .ok (.aload_n 0, 1) := by decide +kernel
theorem dX6_carries_116 : decode cX6_carries 116 = .ok (.aload_n 0, 1) := by decide +kernel
theorem dX6_carries_117 : decode cX6_carries 117 = .ok (.getfield 29, 3) := by decide +kernel
theorem dX6_carries_120 : decode cX6_carries 120 = .ok (.iconst 0, 1) := by decide +kernel
theorem dX6_carries_121 : decode cX6_carries 121 = .ok (.iaload, 1) := by decide +kernel
theorem dX6_carries_122 : decode cX6_carries 122 = .ok (.invokevirtual 157, 3) := by decide +kernel
theorem dX6_carries_125 : decode cX6_carries 125 = .ok (.ireturn, 1) := by decide +kernel
theorem dX6_carries_126 : decode cX6_carries 126 = .ok (.aload_n 0, 1) := by decide +kernel
theorem dX6_carries_127 : decode cX6_carries 127 = .ok (.aload_n 0, 1) := by decide +kernel
theorem dX6_carries_128 : decode cX6_carries 128 = .ok (.getfield 29, 3) := by decide +kernel
theorem dX6_carries_131 : decode cX6_carries 131 = .ok (.iconst 0, 1) := by decide +kernel
theorem dX6_carries_132 : decode cX6_carries 132 = .ok (.iaload, 1) := by decide +kernel
theorem dX6_carries_133 : decode cX6_carries 133 = .ok (.invokevirtual 148, 3) := by decide +kernel
theorem dX6_carries_136 : decode cX6_carries 136 = .ok (.ireturn, 1) := by decide +kernel
theorem dX6_carries_137 : decode cX6_carries 137 = .ok (.aload_n 0, 1) := by decide +kernel
theorem dX6_carries_138 : decode cX6_carries 138 = .ok (.aload_n 0, 1) := by decide +kernel
theorem dX6_carries_139 : decode cX6_carries 139 = .ok (.getfield 29, 3) := by decide +kernel
theorem dX6_carries_142 : decode cX6_carries 142 = .ok (.iconst 0, 1) := by decide +kernel
theorem dX6_carries_143 : decode cX6_carries 143 = .ok (.iaload, 1) := by decide +kernel
theorem dX6_carries_144 : decode cX6_carries 144 = .ok (.invokevirtual 151, 3) := by decide +kernel
theorem dX6_carries_147 : decode cX6_carries 147 = .ok (.ireturn, 1) := by decide +kernel
theorem dX6_carries_148 : decode cX6_carries 148 = .ok (.aload_n 0, 1) := by decide +kernel
theorem dX6_carries_149 : decode cX6_carries 149 = .ok (.aload_n 0, 1) := by decide +kernel
theorem dX6_carries_150 : decode cX6_carries 150 = .ok (.getfield 29, 3) := by decide +kernel
theorem dX6_carries_153 : decode cX6_carries 153 = .ok (.iconst 0, 1) := by decide +kernel
theorem dX6_carries_154 : decode cX6_carries 154 = .ok (.iaload, 1) := by decide +kernel
theorem dX6_carries_155 : decode cX6_carries 155 = .ok (.invokevirtual 154, 3) := by decide +kernel
theorem dX6_carries_158 : decode cX6_carries 158 = .ok (.ireturn, 1) := by decide +kernel
theorem dX6_commands_0 : decode cX6_commands 0 = .ok (.aload_n 0, 1) := by decide +kernel
theorem dX6_commands_1 : decode cX6_commands 1 = .ok (.invokevirtual 77, 3) := by decide +kernel
theorem dX6_commands_4 : decode cX6_commands 4 = .ok (.aload_n 0, 1) := by decide +kernel
theorem dX6_commands_5 : decode cX6_commands 5 = .ok (.iconst 0, 1) := by decide +kernel
theorem dX6_commands_6 : decode cX6_commands 6 = .ok (.putfield 166, 3) := by decide +kernel
theorem dX6_commands_9 : decode cX6_commands 9 = .ok (.aload_n 0, 1) := by decide +kernel
theorem dX6_commands_10 : decode cX6_commands 10 = .ok (.invokevirtual 180, 3) := by decide +kernel
theorem dX6_commands_13 : decode cX6_commands 13 = .ok (.istore_n 1, 1) := by decide +kernel
theorem dX6_commands_14 : decode cX6_commands 14 = .ok (.iload_n 1, 1) := by decide +kernel
theorem dX6_commands_15 : decode cX6_commands 15 = .ok (.ifCond .eq 39, 3) := by decide +kernel
theorem dX6_commands_18 : decode cX6_commands 18 = .ok (.aload_n 0, 1) := by decide +kernel
theorem dX6_commands_19 : decode cX6_commands 19 = .ok (.getfield 166, 3) := by decide +kernel
theorem dX6_commands_22 : decode cX6_commands 22 = .ok (.aload_n 0, 1) := by decide +kernel
theorem dX6_commands_23 : decode cX6_commands 23 = .ok (.getfield 163, 3) := by decide +kernel
theorem dX6_commands_26 : decode cX6_commands 26 = .ok (.if_icmp .ge 28, 3) := by decide +kernel
theorem dX6_commands_29 : decode cX6_commands 29 = .ok (.aload_n 0, 1) := by decide +kernel
theorem dX6_commands_30 : decode cX6_commands 30 = .ok (.bipush 59, 2) := by decide +kernel
theorem dX6_commands_32 : decode cX6_commands 32 = .ok (.invokevirtual 176, 3) := by decide +kernel
theorem dX6_commands_35 : decode cX6_commands 35 = .ok (.ifCond .eq 14, 3) := by decide +kernel
theorem dX6_commands_38 : decode cX6_commands 38 = .ok (.aload_n 0, 1) := by decide +kernel
theorem dX6_commands_39 : decode cX6_commands 39 = .ok (.invokevirtual 180, 3) := by decide +kernel
theorem dX6_commands_42 : decode cX6_commands 42 = .ok (.ifCond .eq 7, 3) := by decide +kernel
theorem dX6_commands_45 : decode cX6_commands 45 = .ok (.iconst 1, 1) := by decide +kernel
theorem dX6_commands_46 : decode cX6_commands 46 = .ok (.goto 4, 3) := by decide +kernel
theorem dX6_commands_49 : decode cX6_commands 49 = .ok (.iconst 0, 1) := by decide +kernel
theorem dX6_commands_50 : decode cX6_commands 50 = .ok (.istore_n 1, 1) := by decide +kernel
theorem dX6_commands_51 : decode cX6_commands 51 = .ok (.goto (-37), 3) := by decide +kernel
theorem dX6_commands_54 : decode cX6_commands 54 = .ok (.aload_n 0, 1) := by decide +kernel
theorem dX6_commands_55 : decode cX6_commands 55 = .ok (.iload_n 1, 1) := by decide +kernel
theorem dX6_commands_56 : decode cX6_commands 56 = .ok (.ifCond .eq 7, 3) := by decide +kernel
theorem dX6_commands_59 : decode cX6_commands 59 = .ok (.iconst (-1), 1) := by decide +kernel
theorem dX6_commands_60 : decode cX6_commands 60 = .ok (.goto 7, 3) := by decide +kernel
theorem dX6_commands_63 : decode cX6_commands 63 = .ok (.aload_n 0, 1) := by decide +kernel
theorem dX6_commands_64 : decode cX6_commands 64 = .ok (.getfield 166, 3) := by decide +kernel
theorem dX6_commands_67 : decode cX6_commands 67 = .ok (.putfield 32, 3) := by decide +kernel
theorem dX6_commands_70 : decode cX6_commands 70 = .ok (.iload_n 1, 1) := by decide +kernel
theorem dX6_commands_71 : decode cX6_commands 71 = .ok (.ifCond .ne 14, 3) := by decide +kernel
theorem dX6_commands_74 : decode cX6_commands 74 = .ok (.aload_n 0, 1) := by decide +kernel
theorem dX6_commands_75 : decode cX6_commands 75 = .ok (.iconst 0, 1) := by decide +kernel
theorem dX6_commands_76 : decode cX6_commands 76 = .ok (.putfield 163, 3) := by decide +kernel
theorem dX6_commands_79 : decode cX6_commands 79 = .ok (.aload_n 0, 1) := by decide +kernel
theorem dX6_commands_80 : decode cX6_commands 80 = .ok (.iconst 1, 1) := by decide +kernel
theorem dX6_commands_81 : decode cX6_commands 81 = .ok (.invokevirtual 61, 3) := by decide +kernel
theorem dX6_commands_84 : decode cX6_commands 84 = .ok (.ireturn, 1) := by decide +kernel
theorem dX6_commands_85 : decode cX6_commands 85 = .ok (.aload_n 0, 1) := by decide +kernel
theorem dX6_commands_86 : decode cX6_commands 86 = .ok (.iconst 0, 1) := by decide +kernel
theorem dX6_commands_87 : decode cX6_commands 87 = .ok (.putfield 166, 3) := by decide +kernel
theorem dX6_commands_90 : decode cX6_commands 90 = .ok (.iconst 0, 1) := by decide +kernel
theorem dX6_commands_91 : decode cX6_commands 91 = .ok (.istore_n 2, 1) := by decide +kernel
theorem dX6_commands_92 : decode cX6_commands 92 = .ok (.iconst 1, 1) := by decide +kernel
theorem dX6_commands_93 : decode cX6_commands 93 = .ok (.istore_n 3, 1) := by decide +kernel
theorem dX6_commands_94 : decode cX6_commands 94 = .ok (.iload_n 3, 1) := by decide +kernel
theorem dX6_commands_95 : decode cX6_commands 95 = .ok (.ifCond .eq 47, 3) := by decide +kernel
theorem dX6_commands_98 : decode cX6_commands 98 = .ok (.aload_n 0, 1) := by decide +kernel
theorem dX6_commands_99 : decode cX6_commands 99 = .ok (.invokevirtual 180, 3) := by decide +kernel
theorem dX6_commands_102 : decode cX6_commands 102 = .ok (.istore_n 1, 1) := by decide +kernel
theorem dX6_commands_103 : decode cX6_commands 103 = .ok (.aload_n 0, 1) := by decide +kernel
theorem dX6_commands_104 : decode cX6_commands 104 = .ok (.iload_n 2, 1) := by decide +kernel
theorem dX6_commands_105 : decode cX6_commands 105 = .ok (.putfield 39, 3) := by decide +kernel
theorem dX6_commands_108 : decode cX6_commands 108 = .ok (.aload_n 0, 1) := by decide +kernel
theorem dX6_commands_109 : decode cX6_commands 109 = .ok (.invokevirtual 184, 3) := by decide +kernel
theorem dX6_commands_112 : decode cX6_commands 112 = .ok (.istore_n 1, 1) := by decide +kernel
theorem dX6_commands_113 : decode cX6_commands 113 = .ok (.iload_n 1, 1) := by decide +kernel
theorem dX6_commands_114 : decode cX6_commands 114 = .ok (.ifCond .eq 6, 3) := by decide +kernel
theorem dX6_commands_117 : decode cX6_commands 117 = .ok (.iinc 2 1, 3) := by decide +kernel
theorem dX6_commands_120 : decode cX6_commands 120 = .ok (.iload_n 1, 1) := by decide +kernel
theorem dX6_commands_121 : decode cX6_commands 121 = .ok (.ifCond .eq 16, 3) := by decide +kernel
theorem dX6_commands_124 : decode cX6_commands 124 = .ok (.aload_n 0, 1) := by decide +kernel
theorem dX6_commands_125 : decode cX6_commands 125 = .ok (.bipush 59, 2) := by decide +kernel
theorem dX6_commands_127 : decode cX6_commands 127 = .ok (.invokevirtual 176, 3) := by decide +kernel
theorem dX6_commands_130 : decode cX6_commands 130 = .ok (.ifCond .eq 7, 3) := by decide +kernel
theorem dX6_commands_133 : decode cX6_commands 133 = .ok (.iconst 1, 1) := by decide +kernel
theorem dX6_commands_134 : decode cX6_commands 134 = .ok (.goto 4, 3) := by decide +kernel
theorem dX6_commands_137 : decode cX6_commands 137 = .ok (.iconst 0, 1) := by decide +kernel
theorem dX6_commands_138 : decode cX6_commands 138 = .ok (.istore_n 3, 1) := by decide +kernel
theorem dX6_commands_139 : decode cX6_commands 139 = .ok (.goto (-45), 3) := by decide +kernel
theorem dX6_commands_142 : decode cX6_commands 142 = .ok (.aload_n 0, 1) := by decide +kernel
theorem dX6_commands_143 : decode cX6_commands 143 = .ok (.iconst 0, 1) := by decide +kernel
theorem dX6_commands_144 : decode cX6_commands 144 = .ok (.putfield 163, 3) := by decide +kernel
theorem dX6_commands_147 : decode cX6_commands 147 = .ok (.iload_n 1, 1) := by decide +kernel
theorem dX6_commands_148 : decode cX6_commands 148 = .ok (.ifCond .eq 9, 3) := by decide +kernel
theorem dX6_commands_151 : decode cX6_commands 151 = .ok (.aload_n 0, 1) := by decide +kernel
theorem dX6_commands_152 : decode cX6_commands 152 = .ok (.iload_n 2, 1) := by decide +kernel
theorem dX6_commands_153 : decode cX6_commands 153 = .ok (.invokevirtual 57, 3) := by decide +kernel
theorem dX6_commands_156 : decode cX6_commands 156 = .ok (.ireturn, 1) := by decide +kernel
theorem dX6_commands_157 : decode cX6_commands 157 = .ok (.aload_n 0, 1) := by decide +kernel
theorem dX6_commands_158 : decode cX6_commands 158 = .ok (.invokevirtual 187, 3) := by decide +kernel
theorem dX6_commands_161 : decode cX6_commands 161 = .ok (.aload_n 0, 1) := by decide +kernel
theorem dX6_commands_162 : decode cX6_commands 162 = .ok (.iconst 2, 1) := by decide +kernel
theorem dX6_commands_163 : decode cX6_commands 163 = .ok (.invokevirtual 61, 3) := by decide +kernel
theorem dX6_commands_166 : decode cX6_commands 166 = .ok (.ireturn, 1) := by decide +kernel
theorem dX6_faultPosition_0 : decode cX6_faultPosition 0 = .ok (.aload_n 0, 1) := by decide +kernel
theorem dX6_faultPosition_1 : decode cX6_faultPosition 1 = .ok (.iconst 0, 1) := by decide +kernel
theorem dX6_faultPosition_2 : decode cX6_faultPosition 2 = .ok (.putfield 36, 3) := by decide +kernel
theorem dX6_faultPosition_5 : decode cX6_faultPosition 5 = .ok (.aload_n 0, 1) := by decide +kernel
theorem dX6_faultPosition_6 : decode cX6_faultPosition 6 = .ok (.getfield 32, 3) := by decide +kernel
theorem dX6_faultPosition_9 : decode cX6_faultPosition 9 = .ok (.ireturn, 1) := by decide +kernel
theorem dX6_reason_0 : decode cX6_reason 0 = .ok (.aload_n 0, 1) := by decide +kernel
theorem dX6_reason_1 : decode cX6_reason 1 = .ok (.iconst 0, 1) := by decide +kernel
theorem dX6_reason_2 : decode cX6_reason 2 = .ok (.putfield 36, 3) := by decide +kernel
theorem dX6_reason_5 : decode cX6_reason 5 = .ok (.iload_n 1, 1) := by decide +kernel
theorem dX6_reason_6 : decode cX6_reason 6 = .ok (.iconst 0, 1) := by decide +kernel
theorem dX6_reason_7 : decode cX6_reason 7 = .ok (.iconst 2, 1) := by decide +kernel
theorem dX6_reason_8 : decode cX6_reason 8 = .ok (.invokestatic 64, 3) := by decide +kernel
theorem dX6_reason_11 : decode cX6_reason 11 = .ok (.ifCond .ne 9, 3) := by decide +kernel
theorem dX6_reason_14 : decode cX6_reason 14 = .ok (.aload_n 0, 1) := by decide +kernel
theorem dX6_reason_15 : decode cX6_reason 15 = .ok (.iconst 1, 1) := by decide +kernel
theorem dX6_reason_16 : decode cX6_reason 16 = .ok (.invokevirtual 61, 3) := by decide +kernel
theorem dX6_reason_19 : decode cX6_reason 19 = .ok (.ireturn, 1) := by decide +kernel
theorem dX6_reason_20 : decode cX6_reason 20 = .ok (.aload_n 0, 1) := by decide +kernel
theorem dX6_reason_21 : decode cX6_reason 21 = .ok (.getfield 45, 3) := by decide +kernel
theorem dX6_reason_24 : decode cX6_reason 24 = .ok (.ifCond .ne 9, 3) := by decide +kernel
theorem dX6_reason_27 : decode cX6_reason 27 = .ok (.aload_n 0, 1) := by decide +kernel
theorem dX6_reason_28 : decode cX6_reason 28 = .ok (.iconst 2, 1) := by decide +kernel
theorem dX6_reason_29 : decode cX6_reason 29 = .ok (.invokevirtual 61, 3) := by decide +kernel
theorem dX6_reason_32 : decode cX6_reason 32 = .ok (.ireturn, 1) := by decide +kernel
theorem dX6_reason_33 : decode cX6_reason 33 = .ok (.iload_n 1, 1) := by decide +kernel
theorem dX6_reason_34 : decode cX6_reason 34 = .ok (.ifCond .ne 10, 3) := by decide +kernel
theorem dX6_reason_37 : decode cX6_reason 37 = .ok (.aload_n 0, 1) := by decide +kernel
theorem dX6_reason_38 : decode cX6_reason 38 = .ok (.getfield 45, 3) := by decide +kernel
theorem dX6_reason_41 : decode cX6_reason 41 = .ok (.goto 19, 3) := by decide +kernel
theorem dX6_reason_44 : decode cX6_reason 44 = .ok (.iload_n 1, 1) := by decide +kernel
theorem dX6_reason_45 : decode cX6_reason 45 = .ok (.iconst 1, 1) := by decide +kernel
theorem dX6_reason_46 : decode cX6_reason 46 = .ok (.if_icmp .ne 10, 3) := by decide +kernel
theorem dX6_reason_49 : decode cX6_reason 49 = .ok (.aload_n 0, 1) := by decide +kernel
theorem dX6_reason_50 : decode cX6_reason 50 = .ok (.getfield 48, 3) := by decide +kernel
theorem dX6_reason_53 : decode cX6_reason 53 = .ok (.goto 7, 3) := by decide +kernel
theorem dX6_reason_56 : decode cX6_reason 56 = .ok (.aload_n 0, 1) := by decide +kernel
theorem dX6_reason_57 : decode cX6_reason 57 = .ok (.getfield 51, 3) := by decide +kernel
theorem dX6_reason_60 : decode cX6_reason 60 = .ok (.ireturn, 1) := by decide +kernel
theorem dX6_writesNumber_0 : decode cX6_writesNumber 0 = .ok (.iload_n 1, 1) := by decide +kernel
theorem dX6_writesNumber_1 : decode cX6_writesNumber 1 = .ok (.bipush 9, 2) := by decide +kernel
theorem dX6_writesNumber_3 : decode cX6_writesNumber 3 = .ok (.if_icmp .le 11, 3) := by decide +kernel
theorem dX6_writesNumber_6 : decode cX6_writesNumber 6 = .ok (.aload_n 0, 1) := by decide +kernel
theorem dX6_writesNumber_7 : decode cX6_writesNumber 7 = .ok (.iload_n 1, 1) := by decide +kernel
theorem dX6_writesNumber_8 : decode cX6_writesNumber 8 = .ok (.bipush 10, 2) := by decide +kernel
theorem dX6_writesNumber_10 : decode cX6_writesNumber 10 = .ok (.idiv, 1) := by decide +kernel
theorem dX6_writesNumber_11 : decode cX6_writesNumber 11 = .ok (.invokevirtual 190, 3) := by decide +kernel
theorem dX6_writesNumber_14 : decode cX6_writesNumber 14 = .ok (.aload_n 0, 1) := by decide +kernel
theorem dX6_writesNumber_15 : decode cX6_writesNumber 15 = .ok (.getfield 22, 3) := by decide +kernel
theorem dX6_writesNumber_18 : decode cX6_writesNumber 18 = .ok (.aload_n 0, 1) := by decide +kernel
theorem dX6_writesNumber_19 : decode cX6_writesNumber 19 = .ok (.dup, 1) := by decide +kernel
theorem dX6_writesNumber_20 : decode cX6_writesNumber 20 = .ok (.getfield 194, 3) := by decide +kernel
theorem dX6_writesNumber_23 : decode cX6_writesNumber 23 = .ok (.dup_x1, 1) := by decide +kernel
theorem dX6_writesNumber_24 : decode cX6_writesNumber 24 = .ok (.iconst 1, 1) := by decide +kernel
theorem dX6_writesNumber_25 : decode cX6_writesNumber 25 = .ok (.iadd, 1) := by decide +kernel
theorem dX6_writesNumber_26 : decode cX6_writesNumber 26 = .ok (.putfield 194, 3) := by decide +kernel
theorem dX6_writesNumber_29 : decode cX6_writesNumber 29 = .ok (.bipush 48, 2) := by decide +kernel
theorem dX6_writesNumber_31 : decode cX6_writesNumber 31 = .ok (.iload_n 1, 1) := by decide +kernel
theorem dX6_writesNumber_32 : decode cX6_writesNumber 32 = .ok (.bipush 10, 2) := by decide +kernel
theorem dX6_writesNumber_34 : decode cX6_writesNumber 34 = .ok (.irem, 1) := by decide +kernel
theorem dX6_writesNumber_35 : decode cX6_writesNumber 35 = .ok (.iadd, 1) := by decide +kernel
theorem dX6_writesNumber_36 : decode cX6_writesNumber 36 = .ok (.iastore, 1) := by decide +kernel
theorem dX6_writesNumber_37 : decode cX6_writesNumber 37 = .ok (.return_, 1) := by decide +kernel
theorem dX6_line_0 : decode cX6_line 0 = .ok (.aload_n 0, 1) := by decide +kernel
theorem dX6_line_1 : decode cX6_line 1 = .ok (.iconst 0, 1) := by decide +kernel
theorem dX6_line_2 : decode cX6_line 2 = .ok (.putfield 36, 3) := by decide +kernel
theorem dX6_line_5 : decode cX6_line 5 = .ok (.aload_n 0, 1) := by decide +kernel
theorem dX6_line_6 : decode cX6_line 6 = .ok (.iload_n 1, 1) := by decide +kernel
theorem dX6_line_7 : decode cX6_line 7 = .ok (.invokevirtual 110, 3) := by decide +kernel
theorem dX6_line_10 : decode cX6_line 10 = .ok (.ifCond .ne 9, 3) := by decide +kernel
theorem dX6_line_13 : decode cX6_line 13 = .ok (.aload_n 0, 1) := by decide +kernel
theorem dX6_line_14 : decode cX6_line 14 = .ok (.iconst 1, 1) := by decide +kernel
theorem dX6_line_15 : decode cX6_line 15 = .ok (.invokevirtual 61, 3) := by decide +kernel
theorem dX6_line_18 : decode cX6_line 18 = .ok (.ireturn, 1) := by decide +kernel
theorem dX6_line_19 : decode cX6_line 19 = .ok (.aload_n 0, 1) := by decide +kernel
theorem dX6_line_20 : decode cX6_line 20 = .ok (.iconst 0, 1) := by decide +kernel
theorem dX6_line_21 : decode cX6_line 21 = .ok (.putfield 194, 3) := by decide +kernel
theorem dX6_line_24 : decode cX6_line 24 = .ok (.iconst 0, 1) := by decide +kernel
theorem dX6_line_25 : decode cX6_line 25 = .ok (.istore_n 2, 1) := by decide +kernel
theorem dX6_line_26 : decode cX6_line 26 = .ok (.iload_n 2, 1) := by decide +kernel
theorem dX6_line_27 : decode cX6_line 27 = .ok (.aload_n 0, 1) := by decide +kernel
theorem dX6_line_28 : decode cX6_line 28 = .ok (.getfield 9, 3) := by decide +kernel
theorem dX6_line_31 : decode cX6_line 31 = .ok (.iconst 2, 1) := by decide +kernel
theorem dX6_line_32 : decode cX6_line 32 = .ok (.iaload, 1) := by decide +kernel
theorem dX6_line_33 : decode cX6_line 33 = .ok (.if_icmp .ge 134, 3) := by decide +kernel
theorem dX6_line_36 : decode cX6_line 36 = .ok (.aload_n 0, 1) := by decide +kernel
theorem dX6_line_37 : decode cX6_line 37 = .ok (.iload_n 2, 1) := by decide +kernel
theorem dX6_line_38 : decode cX6_line 38 = .ok (.iload_n 1, 1) := by decide +kernel
theorem dX6_line_39 : decode cX6_line 39 = .ok (.invokevirtual 125, 3) := by decide +kernel
theorem dX6_line_42 : decode cX6_line 42 = .ok (.istore_n 3, 1) := by decide +kernel
theorem dX6_line_43 : decode cX6_line 43 = .ok (.iload_n 3, 1) := by decide +kernel
theorem dX6_line_44 : decode cX6_line 44 = .ok (.ifCond .ge 6, 3) := by decide +kernel
theorem dX6_line_47 : decode cX6_line 47 = .ok (.goto 114, 3) := by decide +kernel
theorem dX6_line_50 : decode cX6_line 50 = .ok (.aload_n 0, 1) := by decide +kernel
theorem dX6_line_51 : decode cX6_line 51 = .ok (.getfield 194, 3) := by decide +kernel
theorem dX6_line_54 : decode cX6_line 54 = .ok (.ifCond .le 21, 3) := by decide +kernel
theorem dX6_line_57 : decode cX6_line 57 = .ok (.aload_n 0, 1) := by decide +kernel
theorem dX6_line_58 : decode cX6_line 58 = .ok (.getfield 22, 3) := by decide +kernel
theorem dX6_line_61 : decode cX6_line 61 = .ok (.aload_n 0, 1) := by decide +kernel
theorem dX6_line_62 : decode cX6_line 62 = .ok (.dup, 1) := by decide +kernel
theorem dX6_line_63 : decode cX6_line 63 = .ok (.getfield 194, 3) := by decide +kernel
theorem dX6_line_66 : decode cX6_line 66 = .ok (.dup_x1, 1) := by decide +kernel
theorem dX6_line_67 : decode cX6_line 67 = .ok (.iconst 1, 1) := by decide +kernel
theorem dX6_line_68 : decode cX6_line 68 = .ok (.iadd, 1) := by decide +kernel
theorem dX6_line_69 : decode cX6_line 69 = .ok (.putfield 194, 3) := by decide +kernel
theorem dX6_line_72 : decode cX6_line 72 = .ok (.bipush 32, 2) := by decide +kernel
theorem dX6_line_74 : decode cX6_line 74 = .ok (.iastore, 1) := by decide +kernel
theorem dX6_line_75 : decode cX6_line 75 = .ok (.aload_n 0, 1) := by decide +kernel
theorem dX6_line_76 : decode cX6_line 76 = .ok (.iload_n 2, 1) := by decide +kernel
theorem dX6_line_77 : decode cX6_line 77 = .ok (.invokevirtual 190, 3) := by decide +kernel
theorem dX6_line_80 : decode cX6_line 80 = .ok (.aload_n 0, 1) := by decide +kernel
theorem dX6_line_81 : decode cX6_line 81 = .ok (.getfield 22, 3) := by decide +kernel
theorem dX6_line_84 : decode cX6_line 84 = .ok (.aload_n 0, 1) := by decide +kernel
theorem dX6_line_85 : decode cX6_line 85 = .ok (.dup, 1) := by decide +kernel
theorem dX6_line_86 : decode cX6_line 86 = .ok (.getfield 194, 3) := by decide +kernel
theorem dX6_line_89 : decode cX6_line 89 = .ok (.dup_x1, 1) := by decide +kernel
theorem dX6_line_90 : decode cX6_line 90 = .ok (.iconst 1, 1) := by decide +kernel
theorem dX6_line_91 : decode cX6_line 91 = .ok (.iadd, 1) := by decide +kernel
theorem dX6_line_92 : decode cX6_line 92 = .ok (.putfield 194, 3) := by decide +kernel
theorem dX6_line_95 : decode cX6_line 95 = .ok (.bipush 64, 2) := by decide +kernel
theorem dX6_line_97 : decode cX6_line 97 = .ok (.iastore, 1) := by decide +kernel
theorem dX6_line_98 : decode cX6_line 98 = .ok (.aload_n 0, 1) := by decide +kernel
theorem dX6_line_99 : decode cX6_line 99 = .ok (.iload_n 3, 1) := by decide +kernel
theorem dX6_line_100 : decode cX6_line 100 = .ok (.invokevirtual 190, 3) := by decide +kernel
theorem dX6_line_103 : decode cX6_line 103 = .ok (.iload_n 3, 1) := by decide +kernel
theorem dX6_line_104 : decode cX6_line 104 = .ok (.aload_n 0, 1) := by decide +kernel
theorem dX6_line_105 : decode cX6_line 105 = .ok (.getfield 9, 3) := by decide +kernel
theorem dX6_line_108 : decode cX6_line 108 = .ok (.bipush 9, 2) := by decide +kernel
theorem dX6_line_110 : decode cX6_line 110 = .ok (.iload_n 2, 1) := by decide +kernel
theorem dX6_line_111 : decode cX6_line 111 = .ok (.iadd, 1) := by decide +kernel
theorem dX6_line_112 : decode cX6_line 112 = .ok (.iaload, 1) := by decide +kernel
theorem dX6_line_113 : decode cX6_line 113 = .ok (.isub, 1) := by decide +kernel
theorem dX6_line_114 : decode cX6_line 114 = .ok (.istore 4, 2) := by decide +kernel
theorem dX6_line_116 : decode cX6_line 116 = .ok (.iload 4, 2) := by decide +kernel
theorem dX6_line_118 : decode cX6_line 118 = .ok (.ifCond .ne 6, 3) := by decide +kernel
theorem dX6_line_121 : decode cX6_line 121 = .ok (.goto 40, 3) := by decide +kernel
theorem dX6_line_124 : decode cX6_line 124 = .ok (.aload_n 0, 1) := by decide +kernel
theorem dX6_line_125 : decode cX6_line 125 = .ok (.getfield 22, 3) := by decide +kernel
theorem dX6_line_128 : decode cX6_line 128 = .ok (.aload_n 0, 1) := by decide +kernel
theorem dX6_line_129 : decode cX6_line 129 = .ok (.dup, 1) := by decide +kernel
theorem dX6_line_130 : decode cX6_line 130 = .ok (.getfield 194, 3) := by decide +kernel
theorem dX6_line_133 : decode cX6_line 133 = .ok (.dup_x1, 1) := by decide +kernel
theorem dX6_line_134 : decode cX6_line 134 = .ok (.iconst 1, 1) := by decide +kernel
theorem dX6_line_135 : decode cX6_line 135 = .ok (.iadd, 1) := by decide +kernel
theorem dX6_line_136 : decode cX6_line 136 = .ok (.putfield 194, 3) := by decide +kernel
theorem dX6_line_139 : decode cX6_line 139 = .ok (.iload 4, 2) := by decide +kernel
theorem dX6_line_141 : decode cX6_line 141 = .ok (.ifCond .le 8, 3) := by decide +kernel
theorem dX6_line_144 : decode cX6_line 144 = .ok (.bipush 43, 2) := by decide +kernel
theorem dX6_line_146 : decode cX6_line 146 = .ok (.goto 5, 3) := by decide +kernel
theorem dX6_line_149 : decode cX6_line 149 = .ok (.bipush 45, 2) := by decide +kernel
theorem dX6_line_151 : decode cX6_line 151 = .ok (.iastore, 1) := by decide +kernel
theorem dX6_line_152 : decode cX6_line 152 = .ok (.aload_n 0, 1) := by decide +kernel
theorem dX6_line_153 : decode cX6_line 153 = .ok (.iload 4, 2) := by decide +kernel
theorem dX6_line_155 : decode cX6_line 155 = .ok (.invokestatic 94, 3) := by decide +kernel
theorem dX6_line_158 : decode cX6_line 158 = .ok (.invokevirtual 190, 3) := by decide +kernel
theorem dX6_line_161 : decode cX6_line 161 = .ok (.iinc 2 1, 3) := by decide +kernel
theorem dX6_line_164 : decode cX6_line 164 = .ok (.goto (-138), 3) := by decide +kernel
theorem dX6_line_167 : decode cX6_line 167 = .ok (.iconst 0, 1) := by decide +kernel
theorem dX6_line_168 : decode cX6_line 168 = .ok (.istore_n 2, 1) := by decide +kernel
theorem dX6_line_169 : decode cX6_line 169 = .ok (.iload_n 2, 1) := by decide +kernel
theorem dX6_line_170 : decode cX6_line 170 = .ok (.iconst 5, 1) := by decide +kernel
theorem dX6_line_171 : decode cX6_line 171 = .ok (.if_icmp .ge 39, 3) := by decide +kernel
theorem dX6_line_174 : decode cX6_line 174 = .ok (.aload_n 0, 1) := by decide +kernel
theorem dX6_line_175 : decode cX6_line 175 = .ok (.getfield 194, 3) := by decide +kernel
theorem dX6_line_178 : decode cX6_line 178 = .ok (.iload_n 2, 1) := by decide +kernel
theorem dX6_line_179 : decode cX6_line 179 = .ok (.if_icmp .ne 31, 3) := by decide +kernel
theorem dX6_line_182 : decode cX6_line 182 = .ok (.aload_n 0, 1) := by decide +kernel
theorem dX6_line_183 : decode cX6_line 183 = .ok (.getfield 22, 3) := by decide +kernel
theorem dX6_line_186 : decode cX6_line 186 = .ok (.aload_n 0, 1) := by decide +kernel
theorem dX6_line_187 : decode cX6_line 187 = .ok (.dup, 1) := by decide +kernel
theorem dX6_line_188 : decode cX6_line 188 = .ok (.getfield 194, 3) := by decide +kernel
theorem dX6_line_191 : decode cX6_line 191 = .ok (.dup_x1, 1) := by decide +kernel
theorem dX6_line_192 : decode cX6_line 192 = .ok (.iconst 1, 1) := by decide +kernel
theorem dX6_line_193 : decode cX6_line 193 = .ok (.iadd, 1) := by decide +kernel
theorem dX6_line_194 : decode cX6_line 194 = .ok (.putfield 194, 3) := by decide +kernel
theorem dX6_line_197 : decode cX6_line 197 = .ok (.ldc 197, 2) := by decide +kernel
theorem dX6_line_199 : decode cX6_line 199 = .ok (.iload_n 2, 1) := by decide +kernel
theorem dX6_line_200 : decode cX6_line 200 = .ok (.invokevirtual 199, 3) := by decide +kernel
theorem dX6_line_203 : decode cX6_line 203 = .ok (.iastore, 1) := by decide +kernel
theorem dX6_line_204 : decode cX6_line 204 = .ok (.iinc 2 1, 3) := by decide +kernel
theorem dX6_line_207 : decode cX6_line 207 = .ok (.goto (-38), 3) := by decide +kernel
theorem dX6_line_210 : decode cX6_line 210 = .ok (.aload_n 0, 1) := by decide +kernel
theorem dX6_line_211 : decode cX6_line 211 = .ok (.getfield 194, 3) := by decide +kernel
theorem dX6_line_214 : decode cX6_line 214 = .ok (.ireturn, 1) := by decide +kernel
theorem dX6_character_0 : decode cX6_character 0 = .ok (.aload_n 0, 1) := by decide +kernel
theorem dX6_character_1 : decode cX6_character 1 = .ok (.iload_n 1, 1) := by decide +kernel
theorem dX6_character_2 : decode cX6_character 2 = .ok (.iconst 0, 1) := by decide +kernel
theorem dX6_character_3 : decode cX6_character 3 = .ok (.aload_n 0, 1) := by decide +kernel
theorem dX6_character_4 : decode cX6_character 4 = .ok (.getfield 194, 3) := by decide +kernel
theorem dX6_character_7 : decode cX6_character 7 = .ok (.iconst 1, 1) := by decide +kernel
theorem dX6_character_8 : decode cX6_character 8 = .ok (.isub, 1) := by decide +kernel
theorem dX6_character_9 : decode cX6_character 9 = .ok (.invokestatic 64, 3) := by decide +kernel
theorem dX6_character_12 : decode cX6_character 12 = .ok (.ifCond .eq 7, 3) := by decide +kernel
theorem dX6_character_15 : decode cX6_character 15 = .ok (.iconst 0, 1) := by decide +kernel
theorem dX6_character_16 : decode cX6_character 16 = .ok (.goto 4, 3) := by decide +kernel
theorem dX6_character_19 : decode cX6_character 19 = .ok (.iconst 1, 1) := by decide +kernel
theorem dX6_character_20 : decode cX6_character 20 = .ok (.putfield 36, 3) := by decide +kernel
theorem dX6_character_23 : decode cX6_character 23 = .ok (.aload_n 0, 1) := by decide +kernel
theorem dX6_character_24 : decode cX6_character 24 = .ok (.getfield 36, 3) := by decide +kernel
theorem dX6_character_27 : decode cX6_character 27 = .ok (.ifCond .ne 13, 3) := by decide +kernel
theorem dX6_character_30 : decode cX6_character 30 = .ok (.aload_n 0, 1) := by decide +kernel
theorem dX6_character_31 : decode cX6_character 31 = .ok (.getfield 22, 3) := by decide +kernel
theorem dX6_character_34 : decode cX6_character 34 = .ok (.iload_n 1, 1) := by decide +kernel
theorem dX6_character_35 : decode cX6_character 35 = .ok (.iaload, 1) := by decide +kernel
theorem dX6_character_36 : decode cX6_character 36 = .ok (.i2c, 1) := by decide +kernel
theorem dX6_character_37 : decode cX6_character 37 = .ok (.goto 5, 3) := by decide +kernel
theorem dX6_character_40 : decode cX6_character 40 = .ok (.bipush 97, 2) := by decide +kernel
theorem dX6_character_42 : decode cX6_character 42 = .ok (.ireturn, 1) := by decide +kernel
theorem dX6_meanThirst_0 : decode cX6_meanThirst 0 = .ok (.aload_n 0, 1) := by decide +kernel
theorem dX6_meanThirst_1 : decode cX6_meanThirst 1 = .ok (.iconst 0, 1) := by decide +kernel
theorem dX6_meanThirst_2 : decode cX6_meanThirst 2 = .ok (.putfield 36, 3) := by decide +kernel
theorem dX6_meanThirst_5 : decode cX6_meanThirst 5 = .ok (.aload_n 0, 1) := by decide +kernel
theorem dX6_meanThirst_6 : decode cX6_meanThirst 6 = .ok (.getfield 9, 3) := by decide +kernel
theorem dX6_meanThirst_9 : decode cX6_meanThirst 9 = .ok (.iconst 5, 1) := by decide +kernel
theorem dX6_meanThirst_10 : decode cX6_meanThirst 10 = .ok (.iaload, 1) := by decide +kernel
theorem dX6_meanThirst_11 : decode cX6_meanThirst 11 = .ok (.istore_n 1, 1) := by decide +kernel
theorem dX6_meanThirst_12 : decode cX6_meanThirst 12 = .ok (.iload_n 1, 1) := by decide +kernel
theorem dX6_meanThirst_13 : decode cX6_meanThirst 13 = .ok (.ifCond .ne 10, 3) := by decide +kernel
theorem dX6_meanThirst_16 : decode cX6_meanThirst 16 = .ok (.aload_n 0, 1) := by decide +kernel
theorem dX6_meanThirst_17 : decode cX6_meanThirst 17 = .ok (.iconst 1, 1) := by decide +kernel
theorem dX6_meanThirst_18 : decode cX6_meanThirst 18 = .ok (.invokevirtual 61, 3) := by decide +kernel
theorem dX6_meanThirst_21 : decode cX6_meanThirst 21 = .ok (.i2f, 1) := by decide +kernel
theorem dX6_meanThirst_22 : decode cX6_meanThirst 22 = .ok (.freturn, 1) := by decide +kernel
theorem dX6_meanThirst_23 : decode cX6_meanThirst 23 = .ok (.iconst 0, 1) := by decide +kernel
theorem dX6_meanThirst_24 : decode cX6_meanThirst 24 = .ok (.istore_n 2, 1) := by decide +kernel
theorem dX6_meanThirst_25 : decode cX6_meanThirst 25 = .ok (.iconst 0, 1) := by decide +kernel
theorem dX6_meanThirst_26 : decode cX6_meanThirst 26 = .ok (.istore_n 3, 1) := by decide +kernel
theorem dX6_meanThirst_27 : decode cX6_meanThirst 27 = .ok (.iload_n 3, 1) := by decide +kernel
theorem dX6_meanThirst_28 : decode cX6_meanThirst 28 = .ok (.iload_n 1, 1) := by decide +kernel
theorem dX6_meanThirst_29 : decode cX6_meanThirst 29 = .ok (.if_icmp .ge 18, 3) := by decide +kernel
theorem dX6_meanThirst_32 : decode cX6_meanThirst 32 = .ok (.iload_n 2, 1) := by decide +kernel
theorem dX6_meanThirst_33 : decode cX6_meanThirst 33 = .ok (.aload_n 0, 1) := by decide +kernel
theorem dX6_meanThirst_34 : decode cX6_meanThirst 34 = .ok (.iload_n 3, 1) := by decide +kernel
theorem dX6_meanThirst_35 : decode cX6_meanThirst 35 = .ok (.iconst 1, 1) := by decide +kernel
theorem dX6_meanThirst_36 : decode cX6_meanThirst 36 = .ok (.invokevirtual 68, 3) := by decide +kernel
theorem dX6_meanThirst_39 : decode cX6_meanThirst 39 = .ok (.iadd, 1) := by decide +kernel
theorem dX6_meanThirst_40 : decode cX6_meanThirst 40 = .ok (.istore_n 2, 1) := by decide +kernel
theorem dX6_meanThirst_41 : decode cX6_meanThirst 41 = .ok (.iinc 3 1, 3) := by decide +kernel
theorem dX6_meanThirst_44 : decode cX6_meanThirst 44 = .ok (.goto (-17), 3) := by decide +kernel
theorem dX6_meanThirst_47 : decode cX6_meanThirst 47 = .ok (.iload_n 2, 1) := by decide +kernel
theorem dX6_meanThirst_48 : decode cX6_meanThirst 48 = .ok (.i2f, 1) := by decide +kernel
theorem dX6_meanThirst_49 : decode cX6_meanThirst 49 = .ok (.iload_n 1, 1) := by decide +kernel
theorem dX6_meanThirst_50 : decode cX6_meanThirst 50 = .ok (.i2f, 1) := by decide +kernel
theorem dX6_meanThirst_51 : decode cX6_meanThirst 51 = .ok (.fdiv, 1) := by decide +kernel
theorem dX6_meanThirst_52 : decode cX6_meanThirst 52 = .ok (.freturn, 1) := by decide +kernel
theorem dX6_draws_0 : decode cX6_draws 0 = .ok (.iconst 0, 1) := by decide +kernel
theorem dX6_draws_1 : decode cX6_draws 1 = .ok (.istore_n 2, 1) := by decide +kernel
theorem dX6_draws_2 : decode cX6_draws 2 = .ok (.iconst 0, 1) := by decide +kernel
theorem dX6_draws_3 : decode cX6_draws 3 = .ok (.istore_n 3, 1) := by decide +kernel
theorem dX6_draws_4 : decode cX6_draws 4 = .ok (.iload_n 3, 1) := by decide +kernel
theorem dX6_draws_5 : decode cX6_draws 5 = .ok (.aload_n 0, 1) := by decide +kernel
theorem dX6_draws_6 : decode cX6_draws 6 = .ok (.getfield 9, 3) := by decide +kernel
theorem dX6_draws_9 : decode cX6_draws 9 = .ok (.iconst 4, 1) := by decide +kernel
theorem dX6_draws_10 : decode cX6_draws 10 = .ok (.iaload, 1) := by decide +kernel
theorem dX6_draws_11 : decode cX6_draws 11 = .ok (.if_icmp .ge 66, 3) := by decide +kernel
theorem dX6_draws_14 : decode cX6_draws 14 = .ok (.iconst 0, 1) := by decide +kernel
theorem dX6_draws_15 : decode cX6_draws 15 = .ok (.istore 4, 2) := by decide +kernel
theorem dX6_draws_17 : decode cX6_draws 17 = .ok (.iload 4, 2) := by decide +kernel
theorem dX6_draws_19 : decode cX6_draws 19 = .ok (.aload_n 0, 1) := by decide +kernel
theorem dX6_draws_20 : decode cX6_draws 20 = .ok (.getfield 9, 3) := by decide +kernel
theorem dX6_draws_23 : decode cX6_draws 23 = .ok (.iconst 2, 1) := by decide +kernel
theorem dX6_draws_24 : decode cX6_draws 24 = .ok (.iaload, 1) := by decide +kernel
theorem dX6_draws_25 : decode cX6_draws 25 = .ok (.if_icmp .ge 46, 3) := by decide +kernel
theorem dX6_draws_28 : decode cX6_draws 28 = .ok (.aload_n 0, 1) := by decide +kernel
theorem dX6_draws_29 : decode cX6_draws 29 = .ok (.iload 4, 2) := by decide +kernel
theorem dX6_draws_31 : decode cX6_draws 31 = .ok (.iload_n 3, 1) := by decide +kernel
theorem dX6_draws_32 : decode cX6_draws 32 = .ok (.invokevirtual 125, 3) := by decide +kernel
theorem dX6_draws_35 : decode cX6_draws 35 = .ok (.ifCond .lt 30, 3) := by decide +kernel
theorem dX6_draws_38 : decode cX6_draws 38 = .ok (.iload_n 1, 1) := by decide +kernel
theorem dX6_draws_39 : decode cX6_draws 39 = .ok (.ifCond .eq 23, 3) := by decide +kernel
theorem dX6_draws_42 : decode cX6_draws 42 = .ok (.aload_n 0, 1) := by decide +kernel
theorem dX6_draws_43 : decode cX6_draws 43 = .ok (.iload 4, 2) := by decide +kernel
theorem dX6_draws_45 : decode cX6_draws 45 = .ok (.iload_n 3, 1) := by decide +kernel
theorem dX6_draws_46 : decode cX6_draws 46 = .ok (.invokevirtual 125, 3) := by decide +kernel
theorem dX6_draws_49 : decode cX6_draws 49 = .ok (.aload_n 0, 1) := by decide +kernel
theorem dX6_draws_50 : decode cX6_draws 50 = .ok (.getfield 9, 3) := by decide +kernel
theorem dX6_draws_53 : decode cX6_draws 53 = .ok (.bipush 9, 2) := by decide +kernel
theorem dX6_draws_55 : decode cX6_draws 55 = .ok (.iload 4, 2) := by decide +kernel
theorem dX6_draws_57 : decode cX6_draws 57 = .ok (.iadd, 1) := by decide +kernel
theorem dX6_draws_58 : decode cX6_draws 58 = .ok (.iaload, 1) := by decide +kernel
theorem dX6_draws_59 : decode cX6_draws 59 = .ok (.if_icmp .ne 6, 3) := by decide +kernel
theorem dX6_draws_62 : decode cX6_draws 62 = .ok (.iinc 2 1, 3) := by decide +kernel
theorem dX6_draws_65 : decode cX6_draws 65 = .ok (.iinc 4 1, 3) := by decide +kernel
theorem dX6_draws_68 : decode cX6_draws 68 = .ok (.goto (-51), 3) := by decide +kernel
theorem dX6_draws_71 : decode cX6_draws 71 = .ok (.iinc 3 1, 3) := by decide +kernel
theorem dX6_draws_74 : decode cX6_draws 74 = .ok (.goto (-70), 3) := by decide +kernel
theorem dX6_draws_77 : decode cX6_draws 77 = .ok (.iload_n 2, 1) := by decide +kernel
theorem dX6_draws_78 : decode cX6_draws 78 = .ok (.ireturn, 1) := by decide +kernel
theorem dX6_rightShare_0 : decode cX6_rightShare 0 = .ok (.aload_n 0, 1) := by decide +kernel
theorem dX6_rightShare_1 : decode cX6_rightShare 1 = .ok (.iconst 0, 1) := by decide +kernel
theorem dX6_rightShare_2 : decode cX6_rightShare 2 = .ok (.putfield 36, 3) := by decide +kernel
theorem dX6_rightShare_5 : decode cX6_rightShare 5 = .ok (.aload_n 0, 1) := by decide +kernel
theorem dX6_rightShare_6 : decode cX6_rightShare 6 = .ok (.iconst 0, 1) := by decide +kernel
theorem dX6_rightShare_7 : decode cX6_rightShare 7 = .ok (.invokevirtual 205, 3) := by decide +kernel
theorem dX6_rightShare_10 : decode cX6_rightShare 10 = .ok (.istore_n 1, 1) := by decide +kernel
theorem dX6_rightShare_11 : decode cX6_rightShare 11 = .ok (.iload_n 1, 1) := by decide +kernel
theorem dX6_rightShare_12 : decode cX6_rightShare 12 = .ok (.ifCond .ne 12, 3) := by decide +kernel
theorem dX6_rightShare_15 : decode cX6_rightShare 15 = .ok (.aload_n 0, 1) := by decide +kernel
theorem dX6_rightShare_16 : decode cX6_rightShare 16 = .ok (.iconst 1, 1) := by decide +kernel
theorem dX6_rightShare_17 : decode cX6_rightShare 17 = .ok (.invokevirtual 61, 3) := by decide +kernel
theorem dX6_rightShare_20 : decode cX6_rightShare 20 = .ok (.i2d, 1) := by decide +kernel
theorem dX6_rightShare_21 : decode cX6_rightShare 21 = .ok (.goto 12, 3) := by decide +kernel
theorem dX6_rightShare_24 : decode cX6_rightShare 24 = .ok (.aload_n 0, 1) := by decide +kernel
theorem dX6_rightShare_25 : decode cX6_rightShare 25 = .ok (.iconst 1, 1) := by decide +kernel
theorem dX6_rightShare_26 : decode cX6_rightShare 26 = .ok (.invokevirtual 205, 3) := by decide +kernel
theorem dX6_rightShare_29 : decode cX6_rightShare 29 = .ok (.i2d, 1) := by decide +kernel
theorem dX6_rightShare_30 : decode cX6_rightShare 30 = .ok (.iload_n 1, 1) := by decide +kernel
theorem dX6_rightShare_31 : decode cX6_rightShare 31 = .ok (.i2d, 1) := by decide +kernel
theorem dX6_rightShare_32 : decode cX6_rightShare 32 = .ok (.ddiv, 1) := by decide +kernel
theorem dX6_rightShare_33 : decode cX6_rightShare 33 = .ok (.dreturn, 1) := by decide +kernel
theorem dX6_account_0 : decode cX6_account 0 = .ok (.aload_n 0, 1) := by decide +kernel
theorem dX6_account_1 : decode cX6_account 1 = .ok (.iconst 0, 1) := by decide +kernel
theorem dX6_account_2 : decode cX6_account 2 = .ok (.putfield 36, 3) := by decide +kernel
theorem dX6_account_5 : decode cX6_account 5 = .ok (.iconst 0, 1) := by decide +kernel
theorem dX6_account_6 : decode cX6_account 6 = .ok (.istore_n 2, 1) := by decide +kernel
theorem dX6_account_7 : decode cX6_account 7 = .ok (.iload_n 1, 1) := by decide +kernel
theorem dX6_account_8 : decode cX6_account 8 = .ok (.tableswitch 215 0 16 #[84, 91, 101, 107, 114, 114, 114, 123, 129, 136, 141, 172, 180, 188, 197, 205, 210], 84) := by decide +kernel
theorem dX6_account_92 : decode cX6_account 92 = .ok (.aload_n 0, 1) := by decide +kernel
theorem dX6_account_93 : decode cX6_account 93 = .ok (.getfield 9, 3) := by decide +kernel
theorem dX6_account_96 : decode cX6_account 96 = .ok (.iconst 0, 1) := by decide +kernel
theorem dX6_account_97 : decode cX6_account 97 = .ok (.iaload, 1) := by decide +kernel
theorem dX6_account_98 : decode cX6_account 98 = .ok (.ireturn, 1) := by decide +kernel
theorem dX6_account_99 : decode cX6_account 99 = .ok (.aload_n 0, 1) := by decide +kernel
theorem dX6_account_100 : decode cX6_account 100 = .ok (.getfield 9, 3) := by decide +kernel
theorem dX6_account_103 : decode cX6_account 103 = .ok (.iconst 0, 1) := by decide +kernel
theorem dX6_account_104 : decode cX6_account 104 = .ok (.iaload, 1) := by decide +kernel
theorem dX6_account_105 : decode cX6_account 105 = .ok (.bipush 24, 2) := by decide +kernel
theorem dX6_account_107 : decode cX6_account 107 = .ok (.irem, 1) := by decide +kernel
theorem dX6_account_108 : decode cX6_account 108 = .ok (.ireturn, 1) := by decide +kernel
theorem dX6_account_109 : decode cX6_account 109 = .ok (.aload_n 0, 1) := by decide +kernel
theorem dX6_account_110 : decode cX6_account 110 = .ok (.iconst 0, 1) := by decide +kernel
theorem dX6_account_111 : decode cX6_account 111 = .ok (.invokevirtual 88, 3) := by decide +kernel
theorem dX6_account_114 : decode cX6_account 114 = .ok (.ireturn, 1) := by decide +kernel
theorem dX6_account_115 : decode cX6_account 115 = .ok (.aload_n 0, 1) := by decide +kernel
theorem dX6_account_116 : decode cX6_account 116 = .ok (.getfield 9, 3) := by decide +kernel
theorem dX6_account_119 : decode cX6_account 119 = .ok (.iconst 1, 1) := by decide +kernel
theorem dX6_account_120 : decode cX6_account 120 = .ok (.iaload, 1) := by decide +kernel
theorem dX6_account_121 : decode cX6_account 121 = .ok (.ireturn, 1) := by decide +kernel
theorem dX6_account_122 : decode cX6_account 122 = .ok (.aload_n 0, 1) := by decide +kernel
theorem dX6_account_123 : decode cX6_account 123 = .ok (.getfield 9, 3) := by decide +kernel
theorem dX6_account_126 : decode cX6_account 126 = .ok (.iload_n 1, 1) := by decide +kernel
theorem dX6_account_127 : decode cX6_account 127 = .ok (.iconst 2, 1) := by decide +kernel
theorem dX6_account_128 : decode cX6_account 128 = .ok (.isub, 1) := by decide +kernel
theorem dX6_account_129 : decode cX6_account 129 = .ok (.iaload, 1) := by decide +kernel
theorem dX6_account_130 : decode cX6_account 130 = .ok (.ireturn, 1) := by decide +kernel
theorem dX6_account_131 : decode cX6_account 131 = .ok (.aload_n 0, 1) := by decide +kernel
theorem dX6_account_132 : decode cX6_account 132 = .ok (.iconst 0, 1) := by decide +kernel
theorem dX6_account_133 : decode cX6_account 133 = .ok (.invokevirtual 205, 3) := by decide +kernel
theorem dX6_account_136 : decode cX6_account 136 = .ok (.ireturn, 1) := by decide +kernel
theorem dX6_account_137 : decode cX6_account 137 = .ok (.aload_n 0, 1) := by decide +kernel
theorem dX6_account_138 : decode cX6_account 138 = .ok (.getfield 9, 3) := by decide +kernel
theorem dX6_account_141 : decode cX6_account 141 = .ok (.iconst 5, 1) := by decide +kernel
theorem dX6_account_142 : decode cX6_account 142 = .ok (.iaload, 1) := by decide +kernel
theorem dX6_account_143 : decode cX6_account 143 = .ok (.ireturn, 1) := by decide +kernel
theorem dX6_account_144 : decode cX6_account 144 = .ok (.aload_n 0, 1) := by decide +kernel
theorem dX6_account_145 : decode cX6_account 145 = .ok (.invokevirtual 144, 3) := by decide +kernel
theorem dX6_account_148 : decode cX6_account 148 = .ok (.ireturn, 1) := by decide +kernel
theorem dX6_account_149 : decode cX6_account 149 = .ok (.iconst 0, 1) := by decide +kernel
theorem dX6_account_150 : decode cX6_account 150 = .ok (.istore_n 3, 1) := by decide +kernel
theorem dX6_account_151 : decode cX6_account 151 = .ok (.iload_n 3, 1) := by decide +kernel
theorem dX6_account_152 : decode cX6_account 152 = .ok (.aload_n 0, 1) := by decide +kernel
theorem dX6_account_153 : decode cX6_account 153 = .ok (.getfield 9, 3) := by decide +kernel
theorem dX6_account_156 : decode cX6_account 156 = .ok (.iconst 5, 1) := by decide +kernel
theorem dX6_account_157 : decode cX6_account 157 = .ok (.iaload, 1) := by decide +kernel
theorem dX6_account_158 : decode cX6_account 158 = .ok (.if_icmp .ge 20, 3) := by decide +kernel
theorem dX6_account_161 : decode cX6_account 161 = .ok (.aload_n 0, 1) := by decide +kernel
theorem dX6_account_162 : decode cX6_account 162 = .ok (.iload_n 3, 1) := by decide +kernel
theorem dX6_account_163 : decode cX6_account 163 = .ok (.invokevirtual 135, 3) := by decide +kernel
theorem dX6_account_166 : decode cX6_account 166 = .ok (.ifCond .eq 6, 3) := by decide +kernel
theorem dX6_account_169 : decode cX6_account 169 = .ok (.iinc 2 1, 3) := by decide +kernel
theorem dX6_account_172 : decode cX6_account 172 = .ok (.iinc 3 1, 3) := by decide +kernel
theorem dX6_account_175 : decode cX6_account 175 = .ok (.goto (-24), 3) := by decide +kernel
theorem dX6_account_178 : decode cX6_account 178 = .ok (.iload_n 2, 1) := by decide +kernel
theorem dX6_account_179 : decode cX6_account 179 = .ok (.ireturn, 1) := by decide +kernel
theorem dX6_account_180 : decode cX6_account 180 = .ok (.aload_n 0, 1) := by decide +kernel
theorem dX6_account_181 : decode cX6_account 181 = .ok (.getfield 9, 3) := by decide +kernel
theorem dX6_account_184 : decode cX6_account 184 = .ok (.bipush 6, 2) := by decide +kernel
theorem dX6_account_186 : decode cX6_account 186 = .ok (.iaload, 1) := by decide +kernel
theorem dX6_account_187 : decode cX6_account 187 = .ok (.ireturn, 1) := by decide +kernel
theorem dX6_account_188 : decode cX6_account 188 = .ok (.aload_n 0, 1) := by decide +kernel
theorem dX6_account_189 : decode cX6_account 189 = .ok (.getfield 9, 3) := by decide +kernel
theorem dX6_account_192 : decode cX6_account 192 = .ok (.bipush 7, 2) := by decide +kernel
theorem dX6_account_194 : decode cX6_account 194 = .ok (.iaload, 1) := by decide +kernel
theorem dX6_account_195 : decode cX6_account 195 = .ok (.ireturn, 1) := by decide +kernel
theorem dX6_account_196 : decode cX6_account 196 = .ok (.bipush 30, 2) := by decide +kernel
theorem dX6_account_198 : decode cX6_account 198 = .ok (.aload_n 0, 1) := by decide +kernel
theorem dX6_account_199 : decode cX6_account 199 = .ok (.iconst 0, 1) := by decide +kernel
theorem dX6_account_200 : decode cX6_account 200 = .ok (.invokevirtual 88, 3) := by decide +kernel
theorem dX6_account_203 : decode cX6_account 203 = .ok (.isub, 1) := by decide +kernel
theorem dX6_account_204 : decode cX6_account 204 = .ok (.ireturn, 1) := by decide +kernel
theorem dX6_account_205 : decode cX6_account 205 = .ok (.aload_n 0, 1) := by decide +kernel
theorem dX6_account_206 : decode cX6_account 206 = .ok (.getfield 9, 3) := by decide +kernel
theorem dX6_account_209 : decode cX6_account 209 = .ok (.bipush 8, 2) := by decide +kernel
theorem dX6_account_211 : decode cX6_account 211 = .ok (.iaload, 1) := by decide +kernel
theorem dX6_account_212 : decode cX6_account 212 = .ok (.ireturn, 1) := by decide +kernel
theorem dX6_account_213 : decode cX6_account 213 = .ok (.aload_n 0, 1) := by decide +kernel
theorem dX6_account_214 : decode cX6_account 214 = .ok (.getfield 42, 3) := by decide +kernel
theorem dX6_account_217 : decode cX6_account 217 = .ok (.ireturn, 1) := by decide +kernel
theorem dX6_account_218 : decode cX6_account 218 = .ok (.aload_n 0, 1) := by decide +kernel
theorem dX6_account_219 : decode cX6_account 219 = .ok (.getfield 163, 3) := by decide +kernel
theorem dX6_account_222 : decode cX6_account 222 = .ok (.ireturn, 1) := by decide +kernel
theorem dX6_account_223 : decode cX6_account 223 = .ok (.aload_n 0, 1) := by decide +kernel
theorem dX6_account_224 : decode cX6_account 224 = .ok (.iconst 1, 1) := by decide +kernel
theorem dX6_account_225 : decode cX6_account 225 = .ok (.invokevirtual 61, 3) := by decide +kernel
theorem dX6_account_228 : decode cX6_account 228 = .ok (.ireturn, 1) := by decide +kernel
theorem dX6_undo_0 : decode cX6_undo 0 = .ok (.aload_n 0, 1) := by decide +kernel
theorem dX6_undo_1 : decode cX6_undo 1 = .ok (.iconst 0, 1) := by decide +kernel
theorem dX6_undo_2 : decode cX6_undo 2 = .ok (.putfield 36, 3) := by decide +kernel
theorem dX6_undo_5 : decode cX6_undo 5 = .ok (.aload_n 0, 1) := by decide +kernel
theorem dX6_undo_6 : decode cX6_undo 6 = .ok (.getfield 42, 3) := by decide +kernel
theorem dX6_undo_9 : decode cX6_undo 9 = .ok (.ifCond .ne 9, 3) := by decide +kernel
theorem dX6_undo_12 : decode cX6_undo 12 = .ok (.aload_n 0, 1) := by decide +kernel
theorem dX6_undo_13 : decode cX6_undo 13 = .ok (.iconst 1, 1) := by decide +kernel
theorem dX6_undo_14 : decode cX6_undo 14 = .ok (.invokevirtual 61, 3) := by decide +kernel
theorem dX6_undo_17 : decode cX6_undo 17 = .ok (.ireturn, 1) := by decide +kernel
theorem dX6_undo_18 : decode cX6_undo 18 = .ok (.aload_n 0, 1) := by decide +kernel
theorem dX6_undo_19 : decode cX6_undo 19 = .ok (.dup, 1) := by decide +kernel
theorem dX6_undo_20 : decode cX6_undo 20 = .ok (.getfield 42, 3) := by decide +kernel
theorem dX6_undo_23 : decode cX6_undo 23 = .ok (.iconst 1, 1) := by decide +kernel
theorem dX6_undo_24 : decode cX6_undo 24 = .ok (.isub, 1) := by decide +kernel
theorem dX6_undo_25 : decode cX6_undo 25 = .ok (.putfield 42, 3) := by decide +kernel
theorem dX6_undo_28 : decode cX6_undo 28 = .ok (.iconst 0, 1) := by decide +kernel
theorem dX6_undo_29 : decode cX6_undo 29 = .ok (.istore_n 1, 1) := by decide +kernel
theorem dX6_undo_30 : decode cX6_undo 30 = .ok (.iload_n 1, 1) := by decide +kernel
theorem dX6_undo_31 : decode cX6_undo 31 = .ok (.bipush 81, 2) := by decide +kernel
theorem dX6_undo_33 : decode cX6_undo 33 = .ok (.if_icmp .ge 29, 3) := by decide +kernel
theorem dX6_undo_36 : decode cX6_undo 36 = .ok (.aload_n 0, 1) := by decide +kernel
theorem dX6_undo_37 : decode cX6_undo 37 = .ok (.getfield 9, 3) := by decide +kernel
theorem dX6_undo_40 : decode cX6_undo 40 = .ok (.iload_n 1, 1) := by decide +kernel
theorem dX6_undo_41 : decode cX6_undo 41 = .ok (.aload_n 0, 1) := by decide +kernel
theorem dX6_undo_42 : decode cX6_undo 42 = .ok (.getfield 16, 3) := by decide +kernel
theorem dX6_undo_45 : decode cX6_undo 45 = .ok (.bipush 81, 2) := by decide +kernel
theorem dX6_undo_47 : decode cX6_undo 47 = .ok (.aload_n 0, 1) := by decide +kernel
theorem dX6_undo_48 : decode cX6_undo 48 = .ok (.getfield 42, 3) := by decide +kernel
theorem dX6_undo_51 : decode cX6_undo 51 = .ok (.imul, 1) := by decide +kernel
theorem dX6_undo_52 : decode cX6_undo 52 = .ok (.iload_n 1, 1) := by decide +kernel
theorem dX6_undo_53 : decode cX6_undo 53 = .ok (.iadd, 1) := by decide +kernel
theorem dX6_undo_54 : decode cX6_undo 54 = .ok (.iaload, 1) := by decide +kernel
theorem dX6_undo_55 : decode cX6_undo 55 = .ok (.iastore, 1) := by decide +kernel
theorem dX6_undo_56 : decode cX6_undo 56 = .ok (.iinc 1 1, 3) := by decide +kernel
theorem dX6_undo_59 : decode cX6_undo 59 = .ok (.goto (-29), 3) := by decide +kernel
theorem dX6_undo_62 : decode cX6_undo 62 = .ok (.aload_n 0, 1) := by decide +kernel
theorem dX6_undo_63 : decode cX6_undo 63 = .ok (.getfield 42, 3) := by decide +kernel
theorem dX6_undo_66 : decode cX6_undo 66 = .ok (.ireturn, 1) := by decide +kernel
theorem dX6_save_0 : decode cX6_save 0 = .ok (.aload_n 0, 1) := by decide +kernel
theorem dX6_save_1 : decode cX6_save 1 = .ok (.iconst 0, 1) := by decide +kernel
theorem dX6_save_2 : decode cX6_save 2 = .ok (.putfield 36, 3) := by decide +kernel
theorem dX6_save_5 : decode cX6_save 5 = .ok (.aload_n 0, 1) := by decide +kernel
theorem dX6_save_6 : decode cX6_save 6 = .ok (.iconst 1, 1) := by decide +kernel
theorem dX6_save_7 : decode cX6_save 7 = .ok (.putfield 208, 3) := by decide +kernel
theorem dX6_save_10 : decode cX6_save 10 = .ok (.iconst 0, 1) := by decide +kernel
theorem dX6_save_11 : decode cX6_save 11 = .ok (.istore_n 1, 1) := by decide +kernel
theorem dX6_save_12 : decode cX6_save 12 = .ok (.iload_n 1, 1) := by decide +kernel
theorem dX6_save_13 : decode cX6_save 13 = .ok (.bipush 81, 2) := by decide +kernel
theorem dX6_save_15 : decode cX6_save 15 = .ok (.if_icmp .ge 21, 3) := by decide +kernel
theorem dX6_save_18 : decode cX6_save 18 = .ok (.aload_n 0, 1) := by decide +kernel
theorem dX6_save_19 : decode cX6_save 19 = .ok (.getfield 19, 3) := by decide +kernel
theorem dX6_save_22 : decode cX6_save 22 = .ok (.iload_n 1, 1) := by decide +kernel
theorem dX6_save_23 : decode cX6_save 23 = .ok (.aload_n 0, 1) := by decide +kernel
theorem dX6_save_24 : decode cX6_save 24 = .ok (.getfield 9, 3) := by decide +kernel
theorem dX6_save_27 : decode cX6_save 27 = .ok (.iload_n 1, 1) := by decide +kernel
theorem dX6_save_28 : decode cX6_save 28 = .ok (.iaload, 1) := by decide +kernel
theorem dX6_save_29 : decode cX6_save 29 = .ok (.iastore, 1) := by decide +kernel
theorem dX6_save_30 : decode cX6_save 30 = .ok (.iinc 1 1, 3) := by decide +kernel
theorem dX6_save_33 : decode cX6_save 33 = .ok (.goto (-21), 3) := by decide +kernel
theorem dX6_save_36 : decode cX6_save 36 = .ok (.aload_n 0, 1) := by decide +kernel
theorem dX6_save_37 : decode cX6_save 37 = .ok (.getfield 9, 3) := by decide +kernel
theorem dX6_save_40 : decode cX6_save 40 = .ok (.iconst 0, 1) := by decide +kernel
theorem dX6_save_41 : decode cX6_save 41 = .ok (.iaload, 1) := by decide +kernel
theorem dX6_save_42 : decode cX6_save 42 = .ok (.ireturn, 1) := by decide +kernel
theorem dX6_restore_0 : decode cX6_restore 0 = .ok (.aload_n 0, 1) := by decide +kernel
theorem dX6_restore_1 : decode cX6_restore 1 = .ok (.iconst 0, 1) := by decide +kernel
theorem dX6_restore_2 : decode cX6_restore 2 = .ok (.putfield 36, 3) := by decide +kernel
theorem dX6_restore_5 : decode cX6_restore 5 = .ok (.aload_n 0, 1) := by decide +kernel
theorem dX6_restore_6 : decode cX6_restore 6 = .ok (.getfield 208, 3) := by decide +kernel
theorem dX6_restore_9 : decode cX6_restore 9 = .ok (.ifCond .ne 9, 3) := by decide +kernel
theorem dX6_restore_12 : decode cX6_restore 12 = .ok (.aload_n 0, 1) := by decide +kernel
theorem dX6_restore_13 : decode cX6_restore 13 = .ok (.iconst 1, 1) := by decide +kernel
theorem dX6_restore_14 : decode cX6_restore 14 = .ok (.invokevirtual 61, 3) := by decide +kernel
theorem dX6_restore_17 : decode cX6_restore 17 = .ok (.ireturn, 1) := by decide +kernel
theorem dX6_restore_18 : decode cX6_restore 18 = .ok (.iconst 0, 1) := by decide +kernel
theorem dX6_restore_19 : decode cX6_restore 19 = .ok (.istore_n 1, 1) := by decide +kernel
theorem dX6_restore_20 : decode cX6_restore 20 = .ok (.iload_n 1, 1) := by decide +kernel
theorem dX6_restore_21 : decode cX6_restore 21 = .ok (.bipush 81, 2) := by decide +kernel
theorem dX6_restore_23 : decode cX6_restore 23 = .ok (.if_icmp .ge 21, 3) := by decide +kernel
theorem dX6_restore_26 : decode cX6_restore 26 = .ok (.aload_n 0, 1) := by decide +kernel
theorem dX6_restore_27 : decode cX6_restore 27 = .ok (.getfield 9, 3) := by decide +kernel
theorem dX6_restore_30 : decode cX6_restore 30 = .ok (.iload_n 1, 1) := by decide +kernel
theorem dX6_restore_31 : decode cX6_restore 31 = .ok (.aload_n 0, 1) := by decide +kernel
theorem dX6_restore_32 : decode cX6_restore 32 = .ok (.getfield 19, 3) := by decide +kernel
theorem dX6_restore_35 : decode cX6_restore 35 = .ok (.iload_n 1, 1) := by decide +kernel
theorem dX6_restore_36 : decode cX6_restore 36 = .ok (.iaload, 1) := by decide +kernel
theorem dX6_restore_37 : decode cX6_restore 37 = .ok (.iastore, 1) := by decide +kernel
theorem dX6_restore_38 : decode cX6_restore 38 = .ok (.iinc 1 1, 3) := by decide +kernel
theorem dX6_restore_41 : decode cX6_restore 41 = .ok (.goto (-21), 3) := by decide +kernel
theorem dX6_restore_44 : decode cX6_restore 44 = .ok (.aload_n 0, 1) := by decide +kernel
theorem dX6_restore_45 : decode cX6_restore 45 = .ok (.iconst 0, 1) := by decide +kernel
theorem dX6_restore_46 : decode cX6_restore 46 = .ok (.putfield 42, 3) := by decide +kernel
theorem dX6_restore_49 : decode cX6_restore 49 = .ok (.aload_n 0, 1) := by decide +kernel
theorem dX6_restore_50 : decode cX6_restore 50 = .ok (.getfield 9, 3) := by decide +kernel
theorem dX6_restore_53 : decode cX6_restore 53 = .ok (.iconst 0, 1) := by decide +kernel
theorem dX6_restore_54 : decode cX6_restore 54 = .ok (.iaload, 1) := by decide +kernel
theorem dX6_restore_55 : decode cX6_restore 55 = .ok (.ireturn, 1) := by decide +kernel
