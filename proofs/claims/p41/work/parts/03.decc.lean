theorem dX0_init_0 : decode cX0_init 0 = .ok (.aload_n 0, 1) := by decide +kernel
theorem dX0_init_1 : decode cX0_init 1 = .ok (.invokespecial 3, 3) := by decide +kernel
theorem dX0_init_4 : decode cX0_init 4 = .ok (.aload_n 0, 1) := by decide +kernel
theorem dX0_init_5 : decode cX0_init 5 = .ok (.new 9, 3) := by decide +kernel
theorem dX0_init_8 : decode cX0_init 8 = .ok (.dup, 1) := by decide +kernel
theorem dX0_init_9 : decode cX0_init 9 = .ok (.bipush 10, 2) := by decide +kernel
theorem dX0_init_11 : decode cX0_init 11 = .ok (.invokespecial 11, 3) := by decide +kernel
theorem dX0_init_14 : decode cX0_init 14 = .ok (.putfield 14, 3) := by decide +kernel
theorem dX0_init_17 : decode cX0_init 17 = .ok (.aload_n 0, 1) := by decide +kernel
theorem dX0_init_18 : decode cX0_init 18 = .ok (.new 9, 3) := by decide +kernel
theorem dX0_init_21 : decode cX0_init 21 = .ok (.dup, 1) := by decide +kernel
theorem dX0_init_22 : decode cX0_init 22 = .ok (.iconst 4, 1) := by decide +kernel
theorem dX0_init_23 : decode cX0_init 23 = .ok (.invokespecial 11, 3) := by decide +kernel
theorem dX0_init_26 : decode cX0_init 26 = .ok (.putfield 20, 3) := by decide +kernel
theorem dX0_init_29 : decode cX0_init 29 = .ok (.aload_n 0, 1) := by decide +kernel
theorem dX0_init_30 : decode cX0_init 30 = .ok (.new 9, 3) := by decide +kernel
theorem dX0_init_33 : decode cX0_init 33 = .ok (.dup, 1) := by decide +kernel
theorem dX0_init_34 : decode cX0_init 34 = .ok (.iconst 4, 1) := by decide +kernel
theorem dX0_init_35 : decode cX0_init 35 = .ok (.invokespecial 11, 3) := by decide +kernel
theorem dX0_init_38 : decode cX0_init 38 = .ok (.putfield 23, 3) := by decide +kernel
theorem dX0_init_41 : decode cX0_init 41 = .ok (.aload_n 0, 1) := by decide +kernel
theorem dX0_init_42 : decode cX0_init 42 = .ok (.new 9, 3) := by decide +kernel
theorem dX0_init_45 : decode cX0_init 45 = .ok (.dup, 1) := by decide +kernel
theorem dX0_init_46 : decode cX0_init 46 = .ok (.bipush 30, 2) := by decide +kernel
theorem dX0_init_48 : decode cX0_init 48 = .ok (.invokespecial 11, 3) := by decide +kernel
theorem dX0_init_51 : decode cX0_init 51 = .ok (.putfield 26, 3) := by decide +kernel
theorem dX0_init_54 : decode cX0_init 54 = .ok (.aload_n 0, 1) := by decide +kernel
theorem dX0_init_55 : decode cX0_init 55 = .ok (.new 9, 3) := by decide +kernel
theorem dX0_init_58 : decode cX0_init 58 = .ok (.dup, 1) := by decide +kernel
theorem dX0_init_59 : decode cX0_init 59 = .ok (.bipush 6, 2) := by decide +kernel
theorem dX0_init_61 : decode cX0_init 61 = .ok (.invokespecial 11, 3) := by decide +kernel
theorem dX0_init_64 : decode cX0_init 64 = .ok (.putfield 29, 3) := by decide +kernel
theorem dX0_init_67 : decode cX0_init 67 = .ok (.aload_n 0, 1) := by decide +kernel
theorem dX0_init_68 : decode cX0_init 68 = .ok (.new 9, 3) := by decide +kernel
theorem dX0_init_71 : decode cX0_init 71 = .ok (.dup, 1) := by decide +kernel
theorem dX0_init_72 : decode cX0_init 72 = .ok (.bipush 6, 2) := by decide +kernel
theorem dX0_init_74 : decode cX0_init 74 = .ok (.invokespecial 11, 3) := by decide +kernel
theorem dX0_init_77 : decode cX0_init 77 = .ok (.putfield 32, 3) := by decide +kernel
theorem dX0_init_80 : decode cX0_init 80 = .ok (.aload_n 0, 1) := by decide +kernel
theorem dX0_init_81 : decode cX0_init 81 = .ok (.new 9, 3) := by decide +kernel
theorem dX0_init_84 : decode cX0_init 84 = .ok (.dup, 1) := by decide +kernel
theorem dX0_init_85 : decode cX0_init 85 = .ok (.bipush 6, 2) := by decide +kernel
theorem dX0_init_87 : decode cX0_init 87 = .ok (.invokespecial 11, 3) := by decide +kernel
theorem dX0_init_90 : decode cX0_init 90 = .ok (.putfield 35, 3) := by decide +kernel
theorem dX0_init_93 : decode cX0_init 93 = .ok (.aload_n 0, 1) := by decide +kernel
theorem dX0_init_94 : decode cX0_init 94 = .ok (.new 9, 3) := by decide +kernel
theorem dX0_init_97 : decode cX0_init 97 = .ok (.dup, 1) := by decide +kernel
theorem dX0_init_98 : decode cX0_init 98 = .ok (.bipush 6, 2) := by decide +kernel
theorem dX0_init_100 : decode cX0_init 100 = .ok (.invokespecial 11, 3) := by decide +kernel
theorem dX0_init_103 : decode cX0_init 103 = .ok (.putfield 38, 3) := by decide +kernel
theorem dX0_init_106 : decode cX0_init 106 = .ok (.aload_n 0, 1) := by decide +kernel
theorem dX0_init_107 : decode cX0_init 107 = .ok (.iconst 0, 1) := by decide +kernel
theorem dX0_init_108 : decode cX0_init 108 = .ok (.putfield 41, 3) := by decide +kernel
theorem dX0_init_111 : decode cX0_init 111 = .ok (.aload_n 0, 1) := by decide +kernel
theorem dX0_init_112 : decode cX0_init 112 = .ok (.iconst 0, 1) := by decide +kernel
theorem dX0_init_113 : decode cX0_init 113 = .ok (.putfield 45, 3) := by decide +kernel
theorem dX0_init_116 : decode cX0_init 116 = .ok (.aload_n 0, 1) := by decide +kernel
theorem dX0_init_117 : decode cX0_init 117 = .ok (.iconst 5, 1) := by decide +kernel
theorem dX0_init_118 : decode cX0_init 118 = .ok (.putfield 48, 3) := by decide +kernel
theorem dX0_init_121 : decode cX0_init 121 = .ok (.aload_n 0, 1) := by decide +kernel
theorem dX0_init_122 : decode cX0_init 122 = .ok (.bipush 60, 2) := by decide +kernel
theorem dX0_init_124 : decode cX0_init 124 = .ok (.putfield 51, 3) := by decide +kernel
theorem dX0_init_127 : decode cX0_init 127 = .ok (.aload_n 0, 1) := by decide +kernel
theorem dX0_init_128 : decode cX0_init 128 = .ok (.iconst 0, 1) := by decide +kernel
theorem dX0_init_129 : decode cX0_init 129 = .ok (.putfield 54, 3) := by decide +kernel
theorem dX0_init_132 : decode cX0_init 132 = .ok (.iconst 0, 1) := by decide +kernel
theorem dX0_init_133 : decode cX0_init 133 = .ok (.istore_n 1, 1) := by decide +kernel
theorem dX0_init_134 : decode cX0_init 134 = .ok (.iload_n 1, 1) := by decide +kernel
theorem dX0_init_135 : decode cX0_init 135 = .ok (.bipush 30, 2) := by decide +kernel
theorem dX0_init_137 : decode cX0_init 137 = .ok (.if_icmp .ge 18, 3) := by decide +kernel
theorem dX0_init_140 : decode cX0_init 140 = .ok (.aload_n 0, 1) := by decide +kernel
theorem dX0_init_141 : decode cX0_init 141 = .ok (.getfield 26, 3) := by decide +kernel
theorem dX0_init_144 : decode cX0_init 144 = .ok (.iconst (-1), 1) := by decide +kernel
theorem dX0_init_145 : decode cX0_init 145 = .ok (.invokevirtual 57, 3) := by decide +kernel
theorem dX0_init_148 : decode cX0_init 148 = .ok (.pop, 1) := by decide +kernel
theorem dX0_init_149 : decode cX0_init 149 = .ok (.iinc 1 1, 3) := by decide +kernel
theorem dX0_init_152 : decode cX0_init 152 = .ok (.goto (-18), 3) := by decide +kernel
theorem dX0_init_155 : decode cX0_init 155 = .ok (.return_, 1) := by decide +kernel
theorem dX0_copyFrom_0 : decode cX0_copyFrom 0 = .ok (.aload_n 0, 1) := by decide +kernel
theorem dX0_copyFrom_1 : decode cX0_copyFrom 1 = .ok (.getfield 14, 3) := by decide +kernel
theorem dX0_copyFrom_4 : decode cX0_copyFrom 4 = .ok (.aload_n 1, 1) := by decide +kernel
theorem dX0_copyFrom_5 : decode cX0_copyFrom 5 = .ok (.getfield 14, 3) := by decide +kernel
theorem dX0_copyFrom_8 : decode cX0_copyFrom 8 = .ok (.invokevirtual 61, 3) := by decide +kernel
theorem dX0_copyFrom_11 : decode cX0_copyFrom 11 = .ok (.aload_n 0, 1) := by decide +kernel
theorem dX0_copyFrom_12 : decode cX0_copyFrom 12 = .ok (.getfield 20, 3) := by decide +kernel
theorem dX0_copyFrom_15 : decode cX0_copyFrom 15 = .ok (.aload_n 1, 1) := by decide +kernel
theorem dX0_copyFrom_16 : decode cX0_copyFrom 16 = .ok (.getfield 20, 3) := by decide +kernel
theorem dX0_copyFrom_19 : decode cX0_copyFrom 19 = .ok (.invokevirtual 61, 3) := by decide +kernel
theorem dX0_copyFrom_22 : decode cX0_copyFrom 22 = .ok (.aload_n 0, 1) := by decide +kernel
theorem dX0_copyFrom_23 : decode cX0_copyFrom 23 = .ok (.getfield 23, 3) := by decide +kernel
theorem dX0_copyFrom_26 : decode cX0_copyFrom 26 = .ok (.aload_n 1, 1) := by decide +kernel
theorem dX0_copyFrom_27 : decode cX0_copyFrom 27 = .ok (.getfield 23, 3) := by decide +kernel
theorem dX0_copyFrom_30 : decode cX0_copyFrom 30 = .ok (.invokevirtual 61, 3) := by decide +kernel
theorem dX0_copyFrom_33 : decode cX0_copyFrom 33 = .ok (.aload_n 0, 1) := by decide +kernel
theorem dX0_copyFrom_34 : decode cX0_copyFrom 34 = .ok (.getfield 26, 3) := by decide +kernel
theorem dX0_copyFrom_37 : decode cX0_copyFrom 37 = .ok (.aload_n 1, 1) := by decide +kernel
theorem dX0_copyFrom_38 : decode cX0_copyFrom 38 = .ok (.getfield 26, 3) := by decide +kernel
theorem dX0_copyFrom_41 : decode cX0_copyFrom 41 = .ok (.invokevirtual 61, 3) := by decide +kernel
theorem dX0_copyFrom_44 : decode cX0_copyFrom 44 = .ok (.aload_n 0, 1) := by decide +kernel
theorem dX0_copyFrom_45 : decode cX0_copyFrom 45 = .ok (.getfield 29, 3) := by decide +kernel
theorem dX0_copyFrom_48 : decode cX0_copyFrom 48 = .ok (.aload_n 1, 1) := by decide +kernel
theorem dX0_copyFrom_49 : decode cX0_copyFrom 49 = .ok (.getfield 29, 3) := by decide +kernel
theorem dX0_copyFrom_52 : decode cX0_copyFrom 52 = .ok (.invokevirtual 61, 3) := by decide +kernel
theorem dX0_copyFrom_55 : decode cX0_copyFrom 55 = .ok (.aload_n 0, 1) := by decide +kernel
theorem dX0_copyFrom_56 : decode cX0_copyFrom 56 = .ok (.getfield 32, 3) := by decide +kernel
theorem dX0_copyFrom_59 : decode cX0_copyFrom 59 = .ok (.aload_n 1, 1) := by decide +kernel
theorem dX0_copyFrom_60 : decode cX0_copyFrom 60 = .ok (.getfield 32, 3) := by decide +kernel
theorem dX0_copyFrom_63 : decode cX0_copyFrom 63 = .ok (.invokevirtual 61, 3) := by decide +kernel
theorem dX0_copyFrom_66 : decode cX0_copyFrom 66 = .ok (.aload_n 0, 1) := by decide +kernel
theorem dX0_copyFrom_67 : decode cX0_copyFrom 67 = .ok (.getfield 35, 3) := by decide +kernel
theorem dX0_copyFrom_70 : decode cX0_copyFrom 70 = .ok (.aload_n 1, 1) := by decide +kernel
theorem dX0_copyFrom_71 : decode cX0_copyFrom 71 = .ok (.getfield 35, 3) := by decide +kernel
theorem dX0_copyFrom_74 : decode cX0_copyFrom 74 = .ok (.invokevirtual 61, 3) := by decide +kernel
theorem dX0_copyFrom_77 : decode cX0_copyFrom 77 = .ok (.aload_n 0, 1) := by decide +kernel
theorem dX0_copyFrom_78 : decode cX0_copyFrom 78 = .ok (.getfield 38, 3) := by decide +kernel
theorem dX0_copyFrom_81 : decode cX0_copyFrom 81 = .ok (.aload_n 1, 1) := by decide +kernel
theorem dX0_copyFrom_82 : decode cX0_copyFrom 82 = .ok (.getfield 38, 3) := by decide +kernel
theorem dX0_copyFrom_85 : decode cX0_copyFrom 85 = .ok (.invokevirtual 61, 3) := by decide +kernel
theorem dX0_copyFrom_88 : decode cX0_copyFrom 88 = .ok (.aload_n 0, 1) := by decide +kernel
theorem dX0_copyFrom_89 : decode cX0_copyFrom 89 = .ok (.aload_n 1, 1) := by decide +kernel
theorem dX0_copyFrom_90 : decode cX0_copyFrom 90 = .ok (.getfield 41, 3) := by decide +kernel
theorem dX0_copyFrom_93 : decode cX0_copyFrom 93 = .ok (.putfield 41, 3) := by decide +kernel
theorem dX0_copyFrom_96 : decode cX0_copyFrom 96 = .ok (.aload_n 0, 1) := by decide +kernel
theorem dX0_copyFrom_97 : decode cX0_copyFrom 97 = .ok (.aload_n 1, 1) := by decide +kernel
theorem dX0_copyFrom_98 : decode cX0_copyFrom 98 = .ok (.getfield 45, 3) := by decide +kernel
theorem dX0_copyFrom_101 : decode cX0_copyFrom 101 = .ok (.putfield 45, 3) := by decide +kernel
theorem dX0_copyFrom_104 : decode cX0_copyFrom 104 = .ok (.aload_n 0, 1) := by decide +kernel
theorem dX0_copyFrom_105 : decode cX0_copyFrom 105 = .ok (.aload_n 1, 1) := by decide +kernel
theorem dX0_copyFrom_106 : decode cX0_copyFrom 106 = .ok (.getfield 48, 3) := by decide +kernel
theorem dX0_copyFrom_109 : decode cX0_copyFrom 109 = .ok (.putfield 48, 3) := by decide +kernel
theorem dX0_copyFrom_112 : decode cX0_copyFrom 112 = .ok (.aload_n 0, 1) := by decide +kernel
theorem dX0_copyFrom_113 : decode cX0_copyFrom 113 = .ok (.aload_n 1, 1) := by decide +kernel
theorem dX0_copyFrom_114 : decode cX0_copyFrom 114 = .ok (.getfield 51, 3) := by decide +kernel
theorem dX0_copyFrom_117 : decode cX0_copyFrom 117 = .ok (.putfield 51, 3) := by decide +kernel
theorem dX0_copyFrom_120 : decode cX0_copyFrom 120 = .ok (.aload_n 0, 1) := by decide +kernel
theorem dX0_copyFrom_121 : decode cX0_copyFrom 121 = .ok (.aload_n 1, 1) := by decide +kernel
theorem dX0_copyFrom_122 : decode cX0_copyFrom 122 = .ok (.getfield 54, 3) := by decide +kernel
theorem dX0_copyFrom_125 : decode cX0_copyFrom 125 = .ok (.putfield 54, 3) := by decide +kernel
theorem dX0_copyFrom_128 : decode cX0_copyFrom 128 = .ok (.return_, 1) := by decide +kernel
theorem dX0_heatAt_0 : decode cX0_heatAt 0 = .ok (.iload_n 1, 1) := by decide +kernel
theorem dX0_heatAt_1 : decode cX0_heatAt 1 = .ok (.bipush 24, 2) := by decide +kernel
theorem dX0_heatAt_3 : decode cX0_heatAt 3 = .ok (.irem, 1) := by decide +kernel
theorem dX0_heatAt_4 : decode cX0_heatAt 4 = .ok (.istore_n 2, 1) := by decide +kernel
theorem dX0_heatAt_5 : decode cX0_heatAt 5 = .ok (.iload_n 2, 1) := by decide +kernel
theorem dX0_heatAt_6 : decode cX0_heatAt 6 = .ok (.bipush 12, 2) := by decide +kernel
theorem dX0_heatAt_8 : decode cX0_heatAt 8 = .ok (.if_icmp .gt 7, 3) := by decide +kernel
theorem dX0_heatAt_11 : decode cX0_heatAt 11 = .ok (.iload_n 2, 1) := by decide +kernel
theorem dX0_heatAt_12 : decode cX0_heatAt 12 = .ok (.goto 7, 3) := by decide +kernel
theorem dX0_heatAt_15 : decode cX0_heatAt 15 = .ok (.bipush 24, 2) := by decide +kernel
theorem dX0_heatAt_17 : decode cX0_heatAt 17 = .ok (.iload_n 2, 1) := by decide +kernel
theorem dX0_heatAt_18 : decode cX0_heatAt 18 = .ok (.isub, 1) := by decide +kernel
theorem dX0_heatAt_19 : decode cX0_heatAt 19 = .ok (.istore_n 3, 1) := by decide +kernel
theorem dX0_heatAt_20 : decode cX0_heatAt 20 = .ok (.aload_n 0, 1) := by decide +kernel
theorem dX0_heatAt_21 : decode cX0_heatAt 21 = .ok (.getfield 48, 3) := by decide +kernel
theorem dX0_heatAt_24 : decode cX0_heatAt 24 = .ok (.iload_n 3, 1) := by decide +kernel
theorem dX0_heatAt_25 : decode cX0_heatAt 25 = .ok (.imul, 1) := by decide +kernel
theorem dX0_heatAt_26 : decode cX0_heatAt 26 = .ok (.bipush 6, 2) := by decide +kernel
theorem dX0_heatAt_28 : decode cX0_heatAt 28 = .ok (.idiv, 1) := by decide +kernel
theorem dX0_heatAt_29 : decode cX0_heatAt 29 = .ok (.ireturn, 1) := by decide +kernel
theorem dX0_heatNow_0 : decode cX0_heatNow 0 = .ok (.aload_n 0, 1) := by decide +kernel
theorem dX0_heatNow_1 : decode cX0_heatNow 1 = .ok (.aload_n 0, 1) := by decide +kernel
theorem dX0_heatNow_2 : decode cX0_heatNow 2 = .ok (.getfield 45, 3) := by decide +kernel
theorem dX0_heatNow_5 : decode cX0_heatNow 5 = .ok (.invokevirtual 65, 3) := by decide +kernel
theorem dX0_heatNow_8 : decode cX0_heatNow 8 = .ok (.ireturn, 1) := by decide +kernel
theorem dX0_bellReach_0 : decode cX0_bellReach 0 = .ok (.bipush 30, 2) := by decide +kernel
theorem dX0_bellReach_2 : decode cX0_bellReach 2 = .ok (.aload_n 0, 1) := by decide +kernel
theorem dX0_bellReach_3 : decode cX0_bellReach 3 = .ok (.invokevirtual 68, 3) := by decide +kernel
theorem dX0_bellReach_6 : decode cX0_bellReach 6 = .ok (.isub, 1) := by decide +kernel
theorem dX0_bellReach_7 : decode cX0_bellReach 7 = .ok (.ireturn, 1) := by decide +kernel
theorem dX0_farFrom_0 : decode cX0_farFrom 0 = .ok (.aload_n 0, 1) := by decide +kernel
theorem dX0_farFrom_1 : decode cX0_farFrom 1 = .ok (.getfield 14, 3) := by decide +kernel
theorem dX0_farFrom_4 : decode cX0_farFrom 4 = .ok (.iload_n 1, 1) := by decide +kernel
theorem dX0_farFrom_5 : decode cX0_farFrom 5 = .ok (.invokevirtual 72, 3) := by decide +kernel
theorem dX0_farFrom_8 : decode cX0_farFrom 8 = .ok (.aload_n 0, 1) := by decide +kernel
theorem dX0_farFrom_9 : decode cX0_farFrom 9 = .ok (.getfield 20, 3) := by decide +kernel
theorem dX0_farFrom_12 : decode cX0_farFrom 12 = .ok (.iload_n 2, 1) := by decide +kernel
theorem dX0_farFrom_13 : decode cX0_farFrom 13 = .ok (.invokevirtual 72, 3) := by decide +kernel
theorem dX0_farFrom_16 : decode cX0_farFrom 16 = .ok (.isub, 1) := by decide +kernel
theorem dX0_farFrom_17 : decode cX0_farFrom 17 = .ok (.invokestatic 75, 3) := by decide +kernel
theorem dX0_farFrom_20 : decode cX0_farFrom 20 = .ok (.ireturn, 1) := by decide +kernel
theorem dX0_isTooHot_0 : decode cX0_isTooHot 0 = .ok (.iload_n 0, 1) := by decide +kernel
theorem dX0_isTooHot_1 : decode cX0_isTooHot 1 = .ok (.iload_n 1, 1) := by decide +kernel
theorem dX0_isTooHot_2 : decode cX0_isTooHot 2 = .ok (.imul, 1) := by decide +kernel
theorem dX0_isTooHot_3 : decode cX0_isTooHot 3 = .ok (.bipush 10, 2) := by decide +kernel
theorem dX0_isTooHot_5 : decode cX0_isTooHot 5 = .ok (.idiv, 1) := by decide +kernel
theorem dX0_isTooHot_6 : decode cX0_isTooHot 6 = .ok (.iconst 2, 1) := by decide +kernel
theorem dX0_isTooHot_7 : decode cX0_isTooHot 7 = .ok (.iload_n 2, 1) := by decide +kernel
theorem dX0_isTooHot_8 : decode cX0_isTooHot 8 = .ok (.imul, 1) := by decide +kernel
theorem dX0_isTooHot_9 : decode cX0_isTooHot 9 = .ok (.if_icmp .le 7, 3) := by decide +kernel
theorem dX0_isTooHot_12 : decode cX0_isTooHot 12 = .ok (.iconst 1, 1) := by decide +kernel
theorem dX0_isTooHot_13 : decode cX0_isTooHot 13 = .ok (.goto 4, 3) := by decide +kernel
theorem dX0_isTooHot_16 : decode cX0_isTooHot 16 = .ok (.iconst 0, 1) := by decide +kernel
theorem dX0_isTooHot_17 : decode cX0_isTooHot 17 = .ok (.ireturn, 1) := by decide +kernel
theorem dX0_isShimmering_0 : decode cX0_isShimmering 0 = .ok (.iload_n 3, 1) := by decide +kernel
theorem dX0_isShimmering_1 : decode cX0_isShimmering 1 = .ok (.aload_n 0, 1) := by decide +kernel
theorem dX0_isShimmering_2 : decode cX0_isShimmering 2 = .ok (.iload_n 1, 1) := by decide +kernel
theorem dX0_isShimmering_3 : decode cX0_isShimmering 3 = .ok (.iload_n 2, 1) := by decide +kernel
theorem dX0_isShimmering_4 : decode cX0_isShimmering 4 = .ok (.invokevirtual 80, 3) := by decide +kernel
theorem dX0_isShimmering_7 : decode cX0_isShimmering 7 = .ok (.aload_n 0, 1) := by decide +kernel
theorem dX0_isShimmering_8 : decode cX0_isShimmering 8 = .ok (.getfield 23, 3) := by decide +kernel
theorem dX0_isShimmering_11 : decode cX0_isShimmering 11 = .ok (.iload_n 2, 1) := by decide +kernel
theorem dX0_isShimmering_12 : decode cX0_isShimmering 12 = .ok (.invokevirtual 72, 3) := by decide +kernel
theorem dX0_isShimmering_15 : decode cX0_isShimmering 15 = .ok (.invokestatic 84, 3) := by decide +kernel
theorem dX0_isShimmering_18 : decode cX0_isShimmering 18 = .ok (.ireturn, 1) := by decide +kernel
theorem dX0_heatTooMuch_0 : decode cX0_heatTooMuch 0 = .ok (.aload_n 0, 1) := by decide +kernel
theorem dX0_heatTooMuch_1 : decode cX0_heatTooMuch 1 = .ok (.invokevirtual 68, 3) := by decide +kernel
theorem dX0_heatTooMuch_4 : decode cX0_heatTooMuch 4 = .ok (.istore_n 3, 1) := by decide +kernel
theorem dX0_heatTooMuch_5 : decode cX0_heatTooMuch 5 = .ok (.aload_n 0, 1) := by decide +kernel
theorem dX0_heatTooMuch_6 : decode cX0_heatTooMuch 6 = .ok (.iload_n 1, 1) := by decide +kernel
theorem dX0_heatTooMuch_7 : decode cX0_heatTooMuch 7 = .ok (.iload_n 2, 1) := by decide +kernel
theorem dX0_heatTooMuch_8 : decode cX0_heatTooMuch 8 = .ok (.invokevirtual 80, 3) := by decide +kernel
theorem dX0_heatTooMuch_11 : decode cX0_heatTooMuch 11 = .ok (.istore 4, 2) := by decide +kernel
theorem dX0_heatTooMuch_13 : decode cX0_heatTooMuch 13 = .ok (.iconst 0, 1) := by decide +kernel
theorem dX0_heatTooMuch_14 : decode cX0_heatTooMuch 14 = .ok (.istore 5, 2) := by decide +kernel
theorem dX0_heatTooMuch_16 : decode cX0_heatTooMuch 16 = .ok (.iload 5, 2) := by decide +kernel
theorem dX0_heatTooMuch_18 : decode cX0_heatTooMuch 18 = .ok (.iload_n 3, 1) := by decide +kernel
theorem dX0_heatTooMuch_19 : decode cX0_heatTooMuch 19 = .ok (.if_icmp .ge 29, 3) := by decide +kernel
theorem dX0_heatTooMuch_22 : decode cX0_heatTooMuch 22 = .ok (.iload_n 3, 1) := by decide +kernel
theorem dX0_heatTooMuch_23 : decode cX0_heatTooMuch 23 = .ok (.iload 5, 2) := by decide +kernel
theorem dX0_heatTooMuch_25 : decode cX0_heatTooMuch 25 = .ok (.isub, 1) := by decide +kernel
theorem dX0_heatTooMuch_26 : decode cX0_heatTooMuch 26 = .ok (.iload 4, 2) := by decide +kernel
theorem dX0_heatTooMuch_28 : decode cX0_heatTooMuch 28 = .ok (.aload_n 0, 1) := by decide +kernel
theorem dX0_heatTooMuch_29 : decode cX0_heatTooMuch 29 = .ok (.getfield 23, 3) := by decide +kernel
theorem dX0_heatTooMuch_32 : decode cX0_heatTooMuch 32 = .ok (.iload_n 2, 1) := by decide +kernel
theorem dX0_heatTooMuch_33 : decode cX0_heatTooMuch 33 = .ok (.invokevirtual 72, 3) := by decide +kernel
theorem dX0_heatTooMuch_36 : decode cX0_heatTooMuch 36 = .ok (.invokestatic 84, 3) := by decide +kernel
theorem dX0_heatTooMuch_39 : decode cX0_heatTooMuch 39 = .ok (.ifCond .eq 9, 3) := by decide +kernel
theorem dX0_heatTooMuch_42 : decode cX0_heatTooMuch 42 = .ok (.iinc 5 1, 3) := by decide +kernel
theorem dX0_heatTooMuch_45 : decode cX0_heatTooMuch 45 = .ok (.goto (-29), 3) := by decide +kernel
theorem dX0_heatTooMuch_48 : decode cX0_heatTooMuch 48 = .ok (.iload 5, 2) := by decide +kernel
theorem dX0_heatTooMuch_50 : decode cX0_heatTooMuch 50 = .ok (.ireturn, 1) := by decide +kernel
theorem dX0_bending_0 : decode cX0_bending 0 = .ok (.aload_n 0, 1) := by decide +kernel
theorem dX0_bending_1 : decode cX0_bending 1 = .ok (.invokevirtual 68, 3) := by decide +kernel
theorem dX0_bending_4 : decode cX0_bending 4 = .ok (.aload_n 0, 1) := by decide +kernel
theorem dX0_bending_5 : decode cX0_bending 5 = .ok (.iload_n 1, 1) := by decide +kernel
theorem dX0_bending_6 : decode cX0_bending 6 = .ok (.iload_n 2, 1) := by decide +kernel
theorem dX0_bending_7 : decode cX0_bending 7 = .ok (.invokevirtual 80, 3) := by decide +kernel
theorem dX0_bending_10 : decode cX0_bending 10 = .ok (.imul, 1) := by decide +kernel
theorem dX0_bending_11 : decode cX0_bending 11 = .ok (.bipush 50, 2) := by decide +kernel
theorem dX0_bending_13 : decode cX0_bending 13 = .ok (.idiv, 1) := by decide +kernel
theorem dX0_bending_14 : decode cX0_bending 14 = .ok (.ireturn, 1) := by decide +kernel
theorem dX0_bendingWay_0 : decode cX0_bendingWay 0 = .ok (.aload_n 0, 1) := by decide +kernel
theorem dX0_bendingWay_1 : decode cX0_bendingWay 1 = .ok (.getfield 20, 3) := by decide +kernel
theorem dX0_bendingWay_4 : decode cX0_bendingWay 4 = .ok (.iload_n 2, 1) := by decide +kernel
theorem dX0_bendingWay_5 : decode cX0_bendingWay 5 = .ok (.invokevirtual 72, 3) := by decide +kernel
theorem dX0_bendingWay_8 : decode cX0_bendingWay 8 = .ok (.aload_n 0, 1) := by decide +kernel
theorem dX0_bendingWay_9 : decode cX0_bendingWay 9 = .ok (.getfield 14, 3) := by decide +kernel
theorem dX0_bendingWay_12 : decode cX0_bendingWay 12 = .ok (.iload_n 1, 1) := by decide +kernel
theorem dX0_bendingWay_13 : decode cX0_bendingWay 13 = .ok (.invokevirtual 72, 3) := by decide +kernel
theorem dX0_bendingWay_16 : decode cX0_bendingWay 16 = .ok (.invokestatic 88, 3) := by decide +kernel
theorem dX0_bendingWay_19 : decode cX0_bendingWay 19 = .ok (.istore_n 3, 1) := by decide +kernel
theorem dX0_bendingWay_20 : decode cX0_bendingWay 20 = .ok (.aload_n 0, 1) := by decide +kernel
theorem dX0_bendingWay_21 : decode cX0_bendingWay 21 = .ok (.getfield 45, 3) := by decide +kernel
theorem dX0_bendingWay_24 : decode cX0_bendingWay 24 = .ok (.bipush 24, 2) := by decide +kernel
theorem dX0_bendingWay_26 : decode cX0_bendingWay 26 = .ok (.irem, 1) := by decide +kernel
theorem dX0_bendingWay_27 : decode cX0_bendingWay 27 = .ok (.bipush 12, 2) := by decide +kernel
theorem dX0_bendingWay_29 : decode cX0_bendingWay 29 = .ok (.if_icmp .ge 7, 3) := by decide +kernel
theorem dX0_bendingWay_32 : decode cX0_bendingWay 32 = .ok (.iload_n 3, 1) := by decide +kernel
theorem dX0_bendingWay_33 : decode cX0_bendingWay 33 = .ok (.goto 5, 3) := by decide +kernel
theorem dX0_bendingWay_36 : decode cX0_bendingWay 36 = .ok (.iload_n 3, 1) := by decide +kernel
theorem dX0_bendingWay_37 : decode cX0_bendingWay 37 = .ok (.ineg, 1) := by decide +kernel
theorem dX0_bendingWay_38 : decode cX0_bendingWay 38 = .ok (.ireturn, 1) := by decide +kernel
theorem dX0_seemingPlace_0 : decode cX0_seemingPlace 0 = .ok (.aload_n 0, 1) := by decide +kernel
theorem dX0_seemingPlace_1 : decode cX0_seemingPlace 1 = .ok (.getfield 14, 3) := by decide +kernel
theorem dX0_seemingPlace_4 : decode cX0_seemingPlace 4 = .ok (.iload_n 1, 1) := by decide +kernel
theorem dX0_seemingPlace_5 : decode cX0_seemingPlace 5 = .ok (.invokevirtual 72, 3) := by decide +kernel
theorem dX0_seemingPlace_8 : decode cX0_seemingPlace 8 = .ok (.aload_n 0, 1) := by decide +kernel
theorem dX0_seemingPlace_9 : decode cX0_seemingPlace 9 = .ok (.iload_n 1, 1) := by decide +kernel
theorem dX0_seemingPlace_10 : decode cX0_seemingPlace 10 = .ok (.iload_n 2, 1) := by decide +kernel
theorem dX0_seemingPlace_11 : decode cX0_seemingPlace 11 = .ok (.invokevirtual 91, 3) := by decide +kernel
theorem dX0_seemingPlace_14 : decode cX0_seemingPlace 14 = .ok (.aload_n 0, 1) := by decide +kernel
theorem dX0_seemingPlace_15 : decode cX0_seemingPlace 15 = .ok (.iload_n 1, 1) := by decide +kernel
theorem dX0_seemingPlace_16 : decode cX0_seemingPlace 16 = .ok (.iload_n 2, 1) := by decide +kernel
theorem dX0_seemingPlace_17 : decode cX0_seemingPlace 17 = .ok (.invokevirtual 94, 3) := by decide +kernel
theorem dX0_seemingPlace_20 : decode cX0_seemingPlace 20 = .ok (.imul, 1) := by decide +kernel
theorem dX0_seemingPlace_21 : decode cX0_seemingPlace 21 = .ok (.iadd, 1) := by decide +kernel
theorem dX0_seemingPlace_22 : decode cX0_seemingPlace 22 = .ok (.invokestatic 97, 3) := by decide +kernel
theorem dX0_seemingPlace_25 : decode cX0_seemingPlace 25 = .ok (.ireturn, 1) := by decide +kernel
theorem dX0_walkedPlace_0 : decode cX0_walkedPlace 0 = .ok (.aload_n 0, 1) := by decide +kernel
theorem dX0_walkedPlace_1 : decode cX0_walkedPlace 1 = .ok (.iload_n 1, 1) := by decide +kernel
theorem dX0_walkedPlace_2 : decode cX0_walkedPlace 2 = .ok (.iload_n 2, 1) := by decide +kernel
theorem dX0_walkedPlace_3 : decode cX0_walkedPlace 3 = .ok (.invokevirtual 91, 3) := by decide +kernel
theorem dX0_walkedPlace_6 : decode cX0_walkedPlace 6 = .ok (.istore_n 3, 1) := by decide +kernel
theorem dX0_walkedPlace_7 : decode cX0_walkedPlace 7 = .ok (.aload_n 0, 1) := by decide +kernel
theorem dX0_walkedPlace_8 : decode cX0_walkedPlace 8 = .ok (.getfield 14, 3) := by decide +kernel
theorem dX0_walkedPlace_11 : decode cX0_walkedPlace 11 = .ok (.iload_n 1, 1) := by decide +kernel
theorem dX0_walkedPlace_12 : decode cX0_walkedPlace 12 = .ok (.invokevirtual 72, 3) := by decide +kernel
theorem dX0_walkedPlace_15 : decode cX0_walkedPlace 15 = .ok (.istore 4, 2) := by decide +kernel
theorem dX0_walkedPlace_17 : decode cX0_walkedPlace 17 = .ok (.aload_n 0, 1) := by decide +kernel
theorem dX0_walkedPlace_18 : decode cX0_walkedPlace 18 = .ok (.iload_n 1, 1) := by decide +kernel
theorem dX0_walkedPlace_19 : decode cX0_walkedPlace 19 = .ok (.iload_n 2, 1) := by decide +kernel
theorem dX0_walkedPlace_20 : decode cX0_walkedPlace 20 = .ok (.invokevirtual 94, 3) := by decide +kernel
theorem dX0_walkedPlace_23 : decode cX0_walkedPlace 23 = .ok (.istore 5, 2) := by decide +kernel
theorem dX0_walkedPlace_25 : decode cX0_walkedPlace 25 = .ok (.iload 5, 2) := by decide +kernel
theorem dX0_walkedPlace_27 : decode cX0_walkedPlace 27 = .ok (.ifCond .le 25, 3) := by decide +kernel
theorem dX0_walkedPlace_30 : decode cX0_walkedPlace 30 = .ok (.iload 4, 2) := by decide +kernel
theorem dX0_walkedPlace_32 : decode cX0_walkedPlace 32 = .ok (.iload_n 3, 1) := by decide +kernel
theorem dX0_walkedPlace_33 : decode cX0_walkedPlace 33 = .ok (.iadd, 1) := by decide +kernel
theorem dX0_walkedPlace_34 : decode cX0_walkedPlace 34 = .ok (.invokestatic 100, 3) := by decide +kernel
theorem dX0_walkedPlace_37 : decode cX0_walkedPlace 37 = .ok (.ifCond .eq 15, 3) := by decide +kernel
theorem dX0_walkedPlace_40 : decode cX0_walkedPlace 40 = .ok (.iload 4, 2) := by decide +kernel
theorem dX0_walkedPlace_42 : decode cX0_walkedPlace 42 = .ok (.iload_n 3, 1) := by decide +kernel
theorem dX0_walkedPlace_43 : decode cX0_walkedPlace 43 = .ok (.iadd, 1) := by decide +kernel
theorem dX0_walkedPlace_44 : decode cX0_walkedPlace 44 = .ok (.istore 4, 2) := by decide +kernel
theorem dX0_walkedPlace_46 : decode cX0_walkedPlace 46 = .ok (.iinc 5 (-1), 3) := by decide +kernel
theorem dX0_walkedPlace_49 : decode cX0_walkedPlace 49 = .ok (.goto (-24), 3) := by decide +kernel
theorem dX0_walkedPlace_52 : decode cX0_walkedPlace 52 = .ok (.iload 4, 2) := by decide +kernel
theorem dX0_walkedPlace_54 : decode cX0_walkedPlace 54 = .ok (.ireturn, 1) := by decide +kernel
theorem dX0_clearestPost_0 : decode cX0_clearestPost 0 = .ok (.iconst (-1), 1) := by decide +kernel
theorem dX0_clearestPost_1 : decode cX0_clearestPost 1 = .ok (.istore_n 2, 1) := by decide +kernel
theorem dX0_clearestPost_2 : decode cX0_clearestPost 2 = .ok (.iconst 0, 1) := by decide +kernel
theorem dX0_clearestPost_3 : decode cX0_clearestPost 3 = .ok (.istore_n 3, 1) := by decide +kernel
theorem dX0_clearestPost_4 : decode cX0_clearestPost 4 = .ok (.iload_n 3, 1) := by decide +kernel
theorem dX0_clearestPost_5 : decode cX0_clearestPost 5 = .ok (.aload_n 0, 1) := by decide +kernel
theorem dX0_clearestPost_6 : decode cX0_clearestPost 6 = .ok (.getfield 20, 3) := by decide +kernel
theorem dX0_clearestPost_9 : decode cX0_clearestPost 9 = .ok (.invokevirtual 104, 3) := by decide +kernel
theorem dX0_clearestPost_12 : decode cX0_clearestPost 12 = .ok (.if_icmp .ge 42, 3) := by decide +kernel
theorem dX0_clearestPost_15 : decode cX0_clearestPost 15 = .ok (.aload_n 0, 1) := by decide +kernel
theorem dX0_clearestPost_16 : decode cX0_clearestPost 16 = .ok (.iload_n 1, 1) := by decide +kernel
theorem dX0_clearestPost_17 : decode cX0_clearestPost 17 = .ok (.iload_n 3, 1) := by decide +kernel
theorem dX0_clearestPost_18 : decode cX0_clearestPost 18 = .ok (.aload_n 0, 1) := by decide +kernel
theorem dX0_clearestPost_19 : decode cX0_clearestPost 19 = .ok (.invokevirtual 68, 3) := by decide +kernel
theorem dX0_clearestPost_22 : decode cX0_clearestPost 22 = .ok (.invokevirtual 107, 3) := by decide +kernel
theorem dX0_clearestPost_25 : decode cX0_clearestPost 25 = .ok (.ifCond .eq 6, 3) := by decide +kernel
theorem dX0_clearestPost_28 : decode cX0_clearestPost 28 = .ok (.goto 20, 3) := by decide +kernel
theorem dX0_clearestPost_31 : decode cX0_clearestPost 31 = .ok (.iload_n 2, 1) := by decide +kernel
theorem dX0_clearestPost_32 : decode cX0_clearestPost 32 = .ok (.iconst (-1), 1) := by decide +kernel
theorem dX0_clearestPost_33 : decode cX0_clearestPost 33 = .ok (.if_icmp .eq 13, 3) := by decide +kernel
theorem dX0_clearestPost_36 : decode cX0_clearestPost 36 = .ok (.aload_n 0, 1) := by decide +kernel
theorem dX0_clearestPost_37 : decode cX0_clearestPost 37 = .ok (.iload_n 1, 1) := by decide +kernel
theorem dX0_clearestPost_38 : decode cX0_clearestPost 38 = .ok (.iload_n 3, 1) := by decide +kernel
theorem dX0_clearestPost_39 : decode cX0_clearestPost 39 = .ok (.iload_n 2, 1) := by decide +kernel
theorem dX0_clearestPost_40 : decode cX0_clearestPost 40 = .ok (.invokevirtual 110, 3) := by decide +kernel
theorem dX0_clearestPost_43 : decode cX0_clearestPost 43 = .ok (.ifCond .eq 5, 3) := by decide +kernel
theorem dX0_clearestPost_46 : decode cX0_clearestPost 46 = .ok (.iload_n 3, 1) := by decide +kernel
theorem dX0_clearestPost_47 : decode cX0_clearestPost 47 = .ok (.istore_n 2, 1) := by decide +kernel
theorem dX0_clearestPost_48 : decode cX0_clearestPost 48 = .ok (.iinc 3 1, 3) := by decide +kernel
theorem dX0_clearestPost_51 : decode cX0_clearestPost 51 = .ok (.goto (-47), 3) := by decide +kernel
theorem dX0_clearestPost_54 : decode cX0_clearestPost 54 = .ok (.iload_n 2, 1) := by decide +kernel
theorem dX0_clearestPost_55 : decode cX0_clearestPost 55 = .ok (.ireturn, 1) := by decide +kernel
theorem dX0_isBetterPost_0 : decode cX0_isBetterPost 0 = .ok (.aload_n 0, 1) := by decide +kernel
theorem dX0_isBetterPost_1 : decode cX0_isBetterPost 1 = .ok (.iload_n 1, 1) := by decide +kernel
theorem dX0_isBetterPost_2 : decode cX0_isBetterPost 2 = .ok (.iload_n 2, 1) := by decide +kernel
theorem dX0_isBetterPost_3 : decode cX0_isBetterPost 3 = .ok (.invokevirtual 113, 3) := by decide +kernel
theorem dX0_isBetterPost_6 : decode cX0_isBetterPost 6 = .ok (.aload_n 0, 1) := by decide +kernel
theorem dX0_isBetterPost_7 : decode cX0_isBetterPost 7 = .ok (.getfield 14, 3) := by decide +kernel
theorem dX0_isBetterPost_10 : decode cX0_isBetterPost 10 = .ok (.iload_n 1, 1) := by decide +kernel
theorem dX0_isBetterPost_11 : decode cX0_isBetterPost 11 = .ok (.invokevirtual 72, 3) := by decide +kernel
theorem dX0_isBetterPost_14 : decode cX0_isBetterPost 14 = .ok (.isub, 1) := by decide +kernel
theorem dX0_isBetterPost_15 : decode cX0_isBetterPost 15 = .ok (.invokestatic 75, 3) := by decide +kernel
theorem dX0_isBetterPost_18 : decode cX0_isBetterPost 18 = .ok (.istore 4, 2) := by decide +kernel
theorem dX0_isBetterPost_20 : decode cX0_isBetterPost 20 = .ok (.aload_n 0, 1) := by decide +kernel
theorem dX0_isBetterPost_21 : decode cX0_isBetterPost 21 = .ok (.iload_n 1, 1) := by decide +kernel
theorem dX0_isBetterPost_22 : decode cX0_isBetterPost 22 = .ok (.iload_n 3, 1) := by decide +kernel
theorem dX0_isBetterPost_23 : decode cX0_isBetterPost 23 = .ok (.invokevirtual 113, 3) := by decide +kernel
theorem dX0_isBetterPost_26 : decode cX0_isBetterPost 26 = .ok (.aload_n 0, 1) := by decide +kernel
theorem dX0_isBetterPost_27 : decode cX0_isBetterPost 27 = .ok (.getfield 14, 3) := by decide +kernel
theorem dX0_isBetterPost_30 : decode cX0_isBetterPost 30 = .ok (.iload_n 1, 1) := by decide +kernel
theorem dX0_isBetterPost_31 : decode cX0_isBetterPost 31 = .ok (.invokevirtual 72, 3) := by decide +kernel
theorem dX0_isBetterPost_34 : decode cX0_isBetterPost 34 = .ok (.isub, 1) := by decide +kernel
theorem dX0_isBetterPost_35 : decode cX0_isBetterPost 35 = .ok (.invokestatic 75, 3) := by decide +kernel
theorem dX0_isBetterPost_38 : decode cX0_isBetterPost 38 = .ok (.istore 5, 2) := by decide +kernel
theorem dX0_isBetterPost_40 : decode cX0_isBetterPost 40 = .ok (.iload 4, 2) := by decide +kernel
theorem dX0_isBetterPost_42 : decode cX0_isBetterPost 42 = .ok (.iload 5, 2) := by decide +kernel
theorem dX0_isBetterPost_44 : decode cX0_isBetterPost 44 = .ok (.if_icmp .eq 16, 3) := by decide +kernel
theorem dX0_isBetterPost_47 : decode cX0_isBetterPost 47 = .ok (.iload 4, 2) := by decide +kernel
theorem dX0_isBetterPost_49 : decode cX0_isBetterPost 49 = .ok (.iload 5, 2) := by decide +kernel
theorem dX0_isBetterPost_51 : decode cX0_isBetterPost 51 = .ok (.if_icmp .ge 7, 3) := by decide +kernel
theorem dX0_isBetterPost_54 : decode cX0_isBetterPost 54 = .ok (.iconst 1, 1) := by decide +kernel
theorem dX0_isBetterPost_55 : decode cX0_isBetterPost 55 = .ok (.goto 4, 3) := by decide +kernel
theorem dX0_isBetterPost_58 : decode cX0_isBetterPost 58 = .ok (.iconst 0, 1) := by decide +kernel
theorem dX0_isBetterPost_59 : decode cX0_isBetterPost 59 = .ok (.ireturn, 1) := by decide +kernel
theorem dX0_isBetterPost_60 : decode cX0_isBetterPost 60 = .ok (.aload_n 0, 1) := by decide +kernel
theorem dX0_isBetterPost_61 : decode cX0_isBetterPost 61 = .ok (.getfield 23, 3) := by decide +kernel
theorem dX0_isBetterPost_64 : decode cX0_isBetterPost 64 = .ok (.iload_n 2, 1) := by decide +kernel
theorem dX0_isBetterPost_65 : decode cX0_isBetterPost 65 = .ok (.invokevirtual 72, 3) := by decide +kernel
theorem dX0_isBetterPost_68 : decode cX0_isBetterPost 68 = .ok (.aload_n 0, 1) := by decide +kernel
theorem dX0_isBetterPost_69 : decode cX0_isBetterPost 69 = .ok (.getfield 23, 3) := by decide +kernel
theorem dX0_isBetterPost_72 : decode cX0_isBetterPost 72 = .ok (.iload_n 3, 1) := by decide +kernel
theorem dX0_isBetterPost_73 : decode cX0_isBetterPost 73 = .ok (.invokevirtual 72, 3) := by decide +kernel
theorem dX0_isBetterPost_76 : decode cX0_isBetterPost 76 = .ok (.if_icmp .le 7, 3) := by decide +kernel
theorem dX0_isBetterPost_79 : decode cX0_isBetterPost 79 = .ok (.iconst 1, 1) := by decide +kernel
theorem dX0_isBetterPost_80 : decode cX0_isBetterPost 80 = .ok (.goto 4, 3) := by decide +kernel
theorem dX0_isBetterPost_83 : decode cX0_isBetterPost 83 = .ok (.iconst 0, 1) := by decide +kernel
theorem dX0_isBetterPost_84 : decode cX0_isBetterPost 84 = .ok (.ireturn, 1) := by decide +kernel
theorem dX0_hoursUntilClear_0 : decode cX0_hoursUntilClear 0 = .ok (.iconst 0, 1) := by decide +kernel
theorem dX0_hoursUntilClear_1 : decode cX0_hoursUntilClear 1 = .ok (.istore_n 3, 1) := by decide +kernel
theorem dX0_hoursUntilClear_2 : decode cX0_hoursUntilClear 2 = .ok (.iload_n 3, 1) := by decide +kernel
theorem dX0_hoursUntilClear_3 : decode cX0_hoursUntilClear 3 = .ok (.bipush 24, 2) := by decide +kernel
theorem dX0_hoursUntilClear_5 : decode cX0_hoursUntilClear 5 = .ok (.if_icmp .ge 30, 3) := by decide +kernel
theorem dX0_hoursUntilClear_8 : decode cX0_hoursUntilClear 8 = .ok (.aload_n 0, 1) := by decide +kernel
theorem dX0_hoursUntilClear_9 : decode cX0_hoursUntilClear 9 = .ok (.iload_n 1, 1) := by decide +kernel
theorem dX0_hoursUntilClear_10 : decode cX0_hoursUntilClear 10 = .ok (.iload_n 2, 1) := by decide +kernel
theorem dX0_hoursUntilClear_11 : decode cX0_hoursUntilClear 11 = .ok (.aload_n 0, 1) := by decide +kernel
theorem dX0_hoursUntilClear_12 : decode cX0_hoursUntilClear 12 = .ok (.aload_n 0, 1) := by decide +kernel
theorem dX0_hoursUntilClear_13 : decode cX0_hoursUntilClear 13 = .ok (.getfield 45, 3) := by decide +kernel
theorem dX0_hoursUntilClear_16 : decode cX0_hoursUntilClear 16 = .ok (.iload_n 3, 1) := by decide +kernel
theorem dX0_hoursUntilClear_17 : decode cX0_hoursUntilClear 17 = .ok (.iadd, 1) := by decide +kernel
theorem dX0_hoursUntilClear_18 : decode cX0_hoursUntilClear 18 = .ok (.invokevirtual 65, 3) := by decide +kernel
theorem dX0_hoursUntilClear_21 : decode cX0_hoursUntilClear 21 = .ok (.invokevirtual 107, 3) := by decide +kernel
theorem dX0_hoursUntilClear_24 : decode cX0_hoursUntilClear 24 = .ok (.ifCond .ne 5, 3) := by decide +kernel
theorem dX0_hoursUntilClear_27 : decode cX0_hoursUntilClear 27 = .ok (.iload_n 3, 1) := by decide +kernel
theorem dX0_hoursUntilClear_28 : decode cX0_hoursUntilClear 28 = .ok (.ireturn, 1) := by decide +kernel
theorem dX0_hoursUntilClear_29 : decode cX0_hoursUntilClear 29 = .ok (.iinc 3 1, 3) := by decide +kernel
theorem dX0_hoursUntilClear_32 : decode cX0_hoursUntilClear 32 = .ok (.goto (-30), 3) := by decide +kernel
theorem dX0_hoursUntilClear_35 : decode cX0_hoursUntilClear 35 = .ok (.iconst (-1), 1) := by decide +kernel
theorem dX0_hoursUntilClear_36 : decode cX0_hoursUntilClear 36 = .ok (.ireturn, 1) := by decide +kernel
theorem dX0_hasSheet_0 : decode cX0_hasSheet 0 = .ok (.iload_n 1, 1) := by decide +kernel
theorem dX0_hasSheet_1 : decode cX0_hasSheet 1 = .ok (.ifCond .lt 15, 3) := by decide +kernel
theorem dX0_hasSheet_4 : decode cX0_hasSheet 4 = .ok (.iload_n 1, 1) := by decide +kernel
theorem dX0_hasSheet_5 : decode cX0_hasSheet 5 = .ok (.aload_n 0, 1) := by decide +kernel
theorem dX0_hasSheet_6 : decode cX0_hasSheet 6 = .ok (.getfield 41, 3) := by decide +kernel
theorem dX0_hasSheet_9 : decode cX0_hasSheet 9 = .ok (.if_icmp .ge 7, 3) := by decide +kernel
theorem dX0_hasSheet_12 : decode cX0_hasSheet 12 = .ok (.iconst 1, 1) := by decide +kernel
theorem dX0_hasSheet_13 : decode cX0_hasSheet 13 = .ok (.goto 4, 3) := by decide +kernel
theorem dX0_hasSheet_16 : decode cX0_hasSheet 16 = .ok (.iconst 0, 1) := by decide +kernel
theorem dX0_hasSheet_17 : decode cX0_hasSheet 17 = .ok (.ireturn, 1) := by decide +kernel
theorem dX0_drawnPlace_0 : decode cX0_drawnPlace 0 = .ok (.aload_n 0, 1) := by decide +kernel
theorem dX0_drawnPlace_1 : decode cX0_drawnPlace 1 = .ok (.getfield 26, 3) := by decide +kernel
theorem dX0_drawnPlace_4 : decode cX0_drawnPlace 4 = .ok (.iload_n 2, 1) := by decide +kernel
theorem dX0_drawnPlace_5 : decode cX0_drawnPlace 5 = .ok (.bipush 10, 2) := by decide +kernel
theorem dX0_drawnPlace_7 : decode cX0_drawnPlace 7 = .ok (.imul, 1) := by decide +kernel
theorem dX0_drawnPlace_8 : decode cX0_drawnPlace 8 = .ok (.iload_n 1, 1) := by decide +kernel
theorem dX0_drawnPlace_9 : decode cX0_drawnPlace 9 = .ok (.iadd, 1) := by decide +kernel
theorem dX0_drawnPlace_10 : decode cX0_drawnPlace 10 = .ok (.invokevirtual 72, 3) := by decide +kernel
theorem dX0_drawnPlace_13 : decode cX0_drawnPlace 13 = .ok (.ireturn, 1) := by decide +kernel
theorem dX0_draw_0 : decode cX0_draw 0 = .ok (.aload_n 0, 1) := by decide +kernel
theorem dX0_draw_1 : decode cX0_draw 1 = .ok (.getfield 26, 3) := by decide +kernel
theorem dX0_draw_4 : decode cX0_draw 4 = .ok (.iload_n 2, 1) := by decide +kernel
theorem dX0_draw_5 : decode cX0_draw 5 = .ok (.bipush 10, 2) := by decide +kernel
theorem dX0_draw_7 : decode cX0_draw 7 = .ok (.imul, 1) := by decide +kernel
theorem dX0_draw_8 : decode cX0_draw 8 = .ok (.iload_n 1, 1) := by decide +kernel
theorem dX0_draw_9 : decode cX0_draw 9 = .ok (.iadd, 1) := by decide +kernel
theorem dX0_draw_10 : decode cX0_draw 10 = .ok (.iload_n 3, 1) := by decide +kernel
theorem dX0_draw_11 : decode cX0_draw 11 = .ok (.invokevirtual 116, 3) := by decide +kernel
theorem dX0_draw_14 : decode cX0_draw 14 = .ok (.return_, 1) := by decide +kernel
theorem dX0_countDrawn_0 : decode cX0_countDrawn 0 = .ok (.iconst 0, 1) := by decide +kernel
theorem dX0_countDrawn_1 : decode cX0_countDrawn 1 = .ok (.istore_n 2, 1) := by decide +kernel
theorem dX0_countDrawn_2 : decode cX0_countDrawn 2 = .ok (.iconst 0, 1) := by decide +kernel
theorem dX0_countDrawn_3 : decode cX0_countDrawn 3 = .ok (.istore_n 3, 1) := by decide +kernel
theorem dX0_countDrawn_4 : decode cX0_countDrawn 4 = .ok (.iload_n 3, 1) := by decide +kernel
theorem dX0_countDrawn_5 : decode cX0_countDrawn 5 = .ok (.aload_n 0, 1) := by decide +kernel
theorem dX0_countDrawn_6 : decode cX0_countDrawn 6 = .ok (.getfield 26, 3) := by decide +kernel
theorem dX0_countDrawn_9 : decode cX0_countDrawn 9 = .ok (.invokevirtual 104, 3) := by decide +kernel
theorem dX0_countDrawn_12 : decode cX0_countDrawn 12 = .ok (.if_icmp .ge 60, 3) := by decide +kernel
theorem dX0_countDrawn_15 : decode cX0_countDrawn 15 = .ok (.aload_n 0, 1) := by decide +kernel
theorem dX0_countDrawn_16 : decode cX0_countDrawn 16 = .ok (.getfield 26, 3) := by decide +kernel
theorem dX0_countDrawn_19 : decode cX0_countDrawn 19 = .ok (.iload_n 3, 1) := by decide +kernel
theorem dX0_countDrawn_20 : decode cX0_countDrawn 20 = .ok (.invokevirtual 72, 3) := by decide +kernel
theorem dX0_countDrawn_23 : decode cX0_countDrawn 23 = .ok (.istore 4, 2) := by decide +kernel
theorem dX0_countDrawn_25 : decode cX0_countDrawn 25 = .ok (.iload 4, 2) := by decide +kernel
theorem dX0_countDrawn_27 : decode cX0_countDrawn 27 = .ok (.aload_n 0, 1) := by decide +kernel
theorem dX0_countDrawn_28 : decode cX0_countDrawn 28 = .ok (.getfield 14, 3) := by decide +kernel
theorem dX0_countDrawn_31 : decode cX0_countDrawn 31 = .ok (.iload_n 3, 1) := by decide +kernel
theorem dX0_countDrawn_32 : decode cX0_countDrawn 32 = .ok (.bipush 10, 2) := by decide +kernel
theorem dX0_countDrawn_34 : decode cX0_countDrawn 34 = .ok (.irem, 1) := by decide +kernel
theorem dX0_countDrawn_35 : decode cX0_countDrawn 35 = .ok (.invokevirtual 72, 3) := by decide +kernel
theorem dX0_countDrawn_38 : decode cX0_countDrawn 38 = .ok (.if_icmp .ne 7, 3) := by decide +kernel
theorem dX0_countDrawn_41 : decode cX0_countDrawn 41 = .ok (.iconst 1, 1) := by decide +kernel
theorem dX0_countDrawn_42 : decode cX0_countDrawn 42 = .ok (.goto 4, 3) := by decide +kernel
theorem dX0_countDrawn_45 : decode cX0_countDrawn 45 = .ok (.iconst 0, 1) := by decide +kernel
theorem dX0_countDrawn_46 : decode cX0_countDrawn 46 = .ok (.istore 5, 2) := by decide +kernel
theorem dX0_countDrawn_48 : decode cX0_countDrawn 48 = .ok (.iload 4, 2) := by decide +kernel
theorem dX0_countDrawn_50 : decode cX0_countDrawn 50 = .ok (.iconst (-1), 1) := by decide +kernel
theorem dX0_countDrawn_51 : decode cX0_countDrawn 51 = .ok (.if_icmp .eq 15, 3) := by decide +kernel
theorem dX0_countDrawn_54 : decode cX0_countDrawn 54 = .ok (.iload 5, 2) := by decide +kernel
theorem dX0_countDrawn_56 : decode cX0_countDrawn 56 = .ok (.ifCond .ne 7, 3) := by decide +kernel
theorem dX0_countDrawn_59 : decode cX0_countDrawn 59 = .ok (.iload_n 1, 1) := by decide +kernel
theorem dX0_countDrawn_60 : decode cX0_countDrawn 60 = .ok (.ifCond .ne 6, 3) := by decide +kernel
theorem dX0_countDrawn_63 : decode cX0_countDrawn 63 = .ok (.iinc 2 1, 3) := by decide +kernel
theorem dX0_countDrawn_66 : decode cX0_countDrawn 66 = .ok (.iinc 3 1, 3) := by decide +kernel
theorem dX0_countDrawn_69 : decode cX0_countDrawn 69 = .ok (.goto (-65), 3) := by decide +kernel
theorem dX0_countDrawn_72 : decode cX0_countDrawn 72 = .ok (.iload_n 2, 1) := by decide +kernel
theorem dX0_countDrawn_73 : decode cX0_countDrawn 73 = .ok (.ireturn, 1) := by decide +kernel
theorem dX0_isLost_0 : decode cX0_isLost 0 = .ok (.aload_n 0, 1) := by decide +kernel
theorem dX0_isLost_1 : decode cX0_isLost 1 = .ok (.getfield 32, 3) := by decide +kernel
theorem dX0_isLost_4 : decode cX0_isLost 4 = .ok (.iload_n 1, 1) := by decide +kernel
theorem dX0_isLost_5 : decode cX0_isLost 5 = .ok (.invokevirtual 72, 3) := by decide +kernel
theorem dX0_isLost_8 : decode cX0_isLost 8 = .ok (.bipush 20, 2) := by decide +kernel
theorem dX0_isLost_10 : decode cX0_isLost 10 = .ok (.if_icmp .lt 7, 3) := by decide +kernel
theorem dX0_isLost_13 : decode cX0_isLost 13 = .ok (.iconst 1, 1) := by decide +kernel
theorem dX0_isLost_14 : decode cX0_isLost 14 = .ok (.goto 4, 3) := by decide +kernel
theorem dX0_isLost_17 : decode cX0_isLost 17 = .ok (.iconst 0, 1) := by decide +kernel
theorem dX0_isLost_18 : decode cX0_isLost 18 = .ok (.ireturn, 1) := by decide +kernel
theorem dX0_isRoaming_0 : decode cX0_isRoaming 0 = .ok (.aload_n 0, 1) := by decide +kernel
theorem dX0_isRoaming_1 : decode cX0_isRoaming 1 = .ok (.getfield 35, 3) := by decide +kernel
theorem dX0_isRoaming_4 : decode cX0_isRoaming 4 = .ok (.iload_n 1, 1) := by decide +kernel
theorem dX0_isRoaming_5 : decode cX0_isRoaming 5 = .ok (.invokevirtual 72, 3) := by decide +kernel
theorem dX0_isRoaming_8 : decode cX0_isRoaming 8 = .ok (.ifCond .ne 15, 3) := by decide +kernel
theorem dX0_isRoaming_11 : decode cX0_isRoaming 11 = .ok (.aload_n 0, 1) := by decide +kernel
theorem dX0_isRoaming_12 : decode cX0_isRoaming 12 = .ok (.iload_n 1, 1) := by decide +kernel
theorem dX0_isRoaming_13 : decode cX0_isRoaming 13 = .ok (.invokevirtual 120, 3) := by decide +kernel
theorem dX0_isRoaming_16 : decode cX0_isRoaming 16 = .ok (.ifCond .ne 7, 3) := by decide +kernel
theorem dX0_isRoaming_19 : decode cX0_isRoaming 19 = .ok (.iconst 1, 1) := by decide +kernel
theorem dX0_isRoaming_20 : decode cX0_isRoaming 20 = .ok (.goto 4, 3) := by decide +kernel
theorem dX0_isRoaming_23 : decode cX0_isRoaming 23 = .ok (.iconst 0, 1) := by decide +kernel
theorem dX0_isRoaming_24 : decode cX0_isRoaming 24 = .ok (.ireturn, 1) := by decide +kernel
theorem dX0_countLost_0 : decode cX0_countLost 0 = .ok (.iconst 0, 1) := by decide +kernel
theorem dX0_countLost_1 : decode cX0_countLost 1 = .ok (.istore_n 1, 1) := by decide +kernel
theorem dX0_countLost_2 : decode cX0_countLost 2 = .ok (.iconst 0, 1) := by decide +kernel
theorem dX0_countLost_3 : decode cX0_countLost 3 = .ok (.istore_n 2, 1) := by decide +kernel
theorem dX0_countLost_4 : decode cX0_countLost 4 = .ok (.iload_n 2, 1) := by decide +kernel
theorem dX0_countLost_5 : decode cX0_countLost 5 = .ok (.aload_n 0, 1) := by decide +kernel
theorem dX0_countLost_6 : decode cX0_countLost 6 = .ok (.getfield 29, 3) := by decide +kernel
theorem dX0_countLost_9 : decode cX0_countLost 9 = .ok (.invokevirtual 104, 3) := by decide +kernel
theorem dX0_countLost_12 : decode cX0_countLost 12 = .ok (.if_icmp .ge 25, 3) := by decide +kernel
theorem dX0_countLost_15 : decode cX0_countLost 15 = .ok (.iload_n 1, 1) := by decide +kernel
theorem dX0_countLost_16 : decode cX0_countLost 16 = .ok (.aload_n 0, 1) := by decide +kernel
theorem dX0_countLost_17 : decode cX0_countLost 17 = .ok (.iload_n 2, 1) := by decide +kernel
theorem dX0_countLost_18 : decode cX0_countLost 18 = .ok (.invokevirtual 120, 3) := by decide +kernel
theorem dX0_countLost_21 : decode cX0_countLost 21 = .ok (.ifCond .eq 7, 3) := by decide +kernel
theorem dX0_countLost_24 : decode cX0_countLost 24 = .ok (.iconst 1, 1) := by decide +kernel
theorem dX0_countLost_25 : decode cX0_countLost 25 = .ok (.goto 4, 3) := by decide +kernel
theorem dX0_countLost_28 : decode cX0_countLost 28 = .ok (.iconst 0, 1) := by decide +kernel
theorem dX0_countLost_29 : decode cX0_countLost 29 = .ok (.iadd, 1) := by decide +kernel
theorem dX0_countLost_30 : decode cX0_countLost 30 = .ok (.istore_n 1, 1) := by decide +kernel
theorem dX0_countLost_31 : decode cX0_countLost 31 = .ok (.iinc 2 1, 3) := by decide +kernel
theorem dX0_countLost_34 : decode cX0_countLost 34 = .ok (.goto (-30), 3) := by decide +kernel
theorem dX0_countLost_37 : decode cX0_countLost 37 = .ok (.iload_n 1, 1) := by decide +kernel
theorem dX0_countLost_38 : decode cX0_countLost 38 = .ok (.ireturn, 1) := by decide +kernel
theorem dX0_callCamel_0 : decode cX0_callCamel 0 = .ok (.aload_n 0, 1) := by decide +kernel
theorem dX0_callCamel_1 : decode cX0_callCamel 1 = .ok (.getfield 29, 3) := by decide +kernel
theorem dX0_callCamel_4 : decode cX0_callCamel 4 = .ok (.iload_n 1, 1) := by decide +kernel
theorem dX0_callCamel_5 : decode cX0_callCamel 5 = .ok (.invokevirtual 72, 3) := by decide +kernel
theorem dX0_callCamel_8 : decode cX0_callCamel 8 = .ok (.istore_n 3, 1) := by decide +kernel
theorem dX0_callCamel_9 : decode cX0_callCamel 9 = .ok (.iload_n 2, 1) := by decide +kernel
theorem dX0_callCamel_10 : decode cX0_callCamel 10 = .ok (.iload_n 3, 1) := by decide +kernel
theorem dX0_callCamel_11 : decode cX0_callCamel 11 = .ok (.isub, 1) := by decide +kernel
theorem dX0_callCamel_12 : decode cX0_callCamel 12 = .ok (.invokestatic 75, 3) := by decide +kernel
theorem dX0_callCamel_15 : decode cX0_callCamel 15 = .ok (.istore 4, 2) := by decide +kernel
theorem dX0_callCamel_17 : decode cX0_callCamel 17 = .ok (.aload_n 0, 1) := by decide +kernel
theorem dX0_callCamel_18 : decode cX0_callCamel 18 = .ok (.iload_n 1, 1) := by decide +kernel
theorem dX0_callCamel_19 : decode cX0_callCamel 19 = .ok (.invokevirtual 123, 3) := by decide +kernel
theorem dX0_callCamel_22 : decode cX0_callCamel 22 = .ok (.ifCond .eq 35, 3) := by decide +kernel
theorem dX0_callCamel_25 : decode cX0_callCamel 25 = .ok (.iload 4, 2) := by decide +kernel
theorem dX0_callCamel_27 : decode cX0_callCamel 27 = .ok (.aload_n 0, 1) := by decide +kernel
theorem dX0_callCamel_28 : decode cX0_callCamel 28 = .ok (.invokevirtual 126, 3) := by decide +kernel
theorem dX0_callCamel_31 : decode cX0_callCamel 31 = .ok (.if_icmp .gt 26, 3) := by decide +kernel
theorem dX0_callCamel_34 : decode cX0_callCamel 34 = .ok (.aload_n 0, 1) := by decide +kernel
theorem dX0_callCamel_35 : decode cX0_callCamel 35 = .ok (.getfield 29, 3) := by decide +kernel
theorem dX0_callCamel_38 : decode cX0_callCamel 38 = .ok (.iload_n 1, 1) := by decide +kernel
theorem dX0_callCamel_39 : decode cX0_callCamel 39 = .ok (.iload_n 3, 1) := by decide +kernel
theorem dX0_callCamel_40 : decode cX0_callCamel 40 = .ok (.iload_n 3, 1) := by decide +kernel
theorem dX0_callCamel_41 : decode cX0_callCamel 41 = .ok (.iload_n 2, 1) := by decide +kernel
theorem dX0_callCamel_42 : decode cX0_callCamel 42 = .ok (.invokestatic 88, 3) := by decide +kernel
theorem dX0_callCamel_45 : decode cX0_callCamel 45 = .ok (.iload 4, 2) := by decide +kernel
theorem dX0_callCamel_47 : decode cX0_callCamel 47 = .ok (.bipush 10, 2) := by decide +kernel
theorem dX0_callCamel_49 : decode cX0_callCamel 49 = .ok (.invokestatic 129, 3) := by decide +kernel
theorem dX0_callCamel_52 : decode cX0_callCamel 52 = .ok (.imul, 1) := by decide +kernel
theorem dX0_callCamel_53 : decode cX0_callCamel 53 = .ok (.iadd, 1) := by decide +kernel
theorem dX0_callCamel_54 : decode cX0_callCamel 54 = .ok (.invokevirtual 116, 3) := by decide +kernel
theorem dX0_callCamel_57 : decode cX0_callCamel 57 = .ok (.return_, 1) := by decide +kernel
theorem dX0_farToPost_0 : decode cX0_farToPost 0 = .ok (.iconst (-1), 1) := by decide +kernel
theorem dX0_farToPost_1 : decode cX0_farToPost 1 = .ok (.istore_n 2, 1) := by decide +kernel
theorem dX0_farToPost_2 : decode cX0_farToPost 2 = .ok (.iconst 0, 1) := by decide +kernel
theorem dX0_farToPost_3 : decode cX0_farToPost 3 = .ok (.istore_n 3, 1) := by decide +kernel
theorem dX0_farToPost_4 : decode cX0_farToPost 4 = .ok (.iload_n 3, 1) := by decide +kernel
theorem dX0_farToPost_5 : decode cX0_farToPost 5 = .ok (.aload_n 0, 1) := by decide +kernel
theorem dX0_farToPost_6 : decode cX0_farToPost 6 = .ok (.getfield 20, 3) := by decide +kernel
theorem dX0_farToPost_9 : decode cX0_farToPost 9 = .ok (.invokevirtual 104, 3) := by decide +kernel
theorem dX0_farToPost_12 : decode cX0_farToPost 12 = .ok (.if_icmp .ge 38, 3) := by decide +kernel
theorem dX0_farToPost_15 : decode cX0_farToPost 15 = .ok (.aload_n 0, 1) := by decide +kernel
theorem dX0_farToPost_16 : decode cX0_farToPost 16 = .ok (.getfield 20, 3) := by decide +kernel
theorem dX0_farToPost_19 : decode cX0_farToPost 19 = .ok (.iload_n 3, 1) := by decide +kernel
theorem dX0_farToPost_20 : decode cX0_farToPost 20 = .ok (.invokevirtual 72, 3) := by decide +kernel
theorem dX0_farToPost_23 : decode cX0_farToPost 23 = .ok (.iload_n 1, 1) := by decide +kernel
theorem dX0_farToPost_24 : decode cX0_farToPost 24 = .ok (.isub, 1) := by decide +kernel
theorem dX0_farToPost_25 : decode cX0_farToPost 25 = .ok (.invokestatic 75, 3) := by decide +kernel
theorem dX0_farToPost_28 : decode cX0_farToPost 28 = .ok (.istore 4, 2) := by decide +kernel
theorem dX0_farToPost_30 : decode cX0_farToPost 30 = .ok (.iload_n 2, 1) := by decide +kernel
theorem dX0_farToPost_31 : decode cX0_farToPost 31 = .ok (.iconst (-1), 1) := by decide +kernel
theorem dX0_farToPost_32 : decode cX0_farToPost 32 = .ok (.if_icmp .eq 9, 3) := by decide +kernel
theorem dX0_farToPost_35 : decode cX0_farToPost 35 = .ok (.iload 4, 2) := by decide +kernel
theorem dX0_farToPost_37 : decode cX0_farToPost 37 = .ok (.iload_n 2, 1) := by decide +kernel
theorem dX0_farToPost_38 : decode cX0_farToPost 38 = .ok (.if_icmp .ge 6, 3) := by decide +kernel
theorem dX0_farToPost_41 : decode cX0_farToPost 41 = .ok (.iload 4, 2) := by decide +kernel
theorem dX0_farToPost_43 : decode cX0_farToPost 43 = .ok (.istore_n 2, 1) := by decide +kernel
theorem dX0_farToPost_44 : decode cX0_farToPost 44 = .ok (.iinc 3 1, 3) := by decide +kernel
theorem dX0_farToPost_47 : decode cX0_farToPost 47 = .ok (.goto (-43), 3) := by decide +kernel
theorem dX0_farToPost_50 : decode cX0_farToPost 50 = .ok (.iload_n 2, 1) := by decide +kernel
theorem dX0_farToPost_51 : decode cX0_farToPost 51 = .ok (.ireturn, 1) := by decide +kernel
theorem dX0_nearestCamel_0 : decode cX0_nearestCamel 0 = .ok (.iconst (-1), 1) := by decide +kernel
theorem dX0_nearestCamel_1 : decode cX0_nearestCamel 1 = .ok (.istore_n 2, 1) := by decide +kernel
theorem dX0_nearestCamel_2 : decode cX0_nearestCamel 2 = .ok (.iconst 0, 1) := by decide +kernel
theorem dX0_nearestCamel_3 : decode cX0_nearestCamel 3 = .ok (.istore_n 3, 1) := by decide +kernel
theorem dX0_nearestCamel_4 : decode cX0_nearestCamel 4 = .ok (.iload_n 3, 1) := by decide +kernel
theorem dX0_nearestCamel_5 : decode cX0_nearestCamel 5 = .ok (.aload_n 0, 1) := by decide +kernel
theorem dX0_nearestCamel_6 : decode cX0_nearestCamel 6 = .ok (.getfield 29, 3) := by decide +kernel
theorem dX0_nearestCamel_9 : decode cX0_nearestCamel 9 = .ok (.invokevirtual 104, 3) := by decide +kernel
theorem dX0_nearestCamel_12 : decode cX0_nearestCamel 12 = .ok (.if_icmp .ge 26, 3) := by decide +kernel
theorem dX0_nearestCamel_15 : decode cX0_nearestCamel 15 = .ok (.iload_n 2, 1) := by decide +kernel
theorem dX0_nearestCamel_16 : decode cX0_nearestCamel 16 = .ok (.iconst (-1), 1) := by decide +kernel
theorem dX0_nearestCamel_17 : decode cX0_nearestCamel 17 = .ok (.if_icmp .eq 13, 3) := by decide +kernel
theorem dX0_nearestCamel_20 : decode cX0_nearestCamel 20 = .ok (.aload_n 0, 1) := by decide +kernel
theorem dX0_nearestCamel_21 : decode cX0_nearestCamel 21 = .ok (.iload_n 1, 1) := by decide +kernel
theorem dX0_nearestCamel_22 : decode cX0_nearestCamel 22 = .ok (.iload_n 3, 1) := by decide +kernel
theorem dX0_nearestCamel_23 : decode cX0_nearestCamel 23 = .ok (.iload_n 2, 1) := by decide +kernel
theorem dX0_nearestCamel_24 : decode cX0_nearestCamel 24 = .ok (.invokevirtual 132, 3) := by decide +kernel
theorem dX0_nearestCamel_27 : decode cX0_nearestCamel 27 = .ok (.ifCond .eq 5, 3) := by decide +kernel
theorem dX0_nearestCamel_30 : decode cX0_nearestCamel 30 = .ok (.iload_n 3, 1) := by decide +kernel
theorem dX0_nearestCamel_31 : decode cX0_nearestCamel 31 = .ok (.istore_n 2, 1) := by decide +kernel
theorem dX0_nearestCamel_32 : decode cX0_nearestCamel 32 = .ok (.iinc 3 1, 3) := by decide +kernel
theorem dX0_nearestCamel_35 : decode cX0_nearestCamel 35 = .ok (.goto (-31), 3) := by decide +kernel
theorem dX0_nearestCamel_38 : decode cX0_nearestCamel 38 = .ok (.iload_n 2, 1) := by decide +kernel
theorem dX0_nearestCamel_39 : decode cX0_nearestCamel 39 = .ok (.ireturn, 1) := by decide +kernel
theorem dX0_isNearer_0 : decode cX0_isNearer 0 = .ok (.aload_n 0, 1) := by decide +kernel
theorem dX0_isNearer_1 : decode cX0_isNearer 1 = .ok (.getfield 29, 3) := by decide +kernel
theorem dX0_isNearer_4 : decode cX0_isNearer 4 = .ok (.iload_n 2, 1) := by decide +kernel
theorem dX0_isNearer_5 : decode cX0_isNearer 5 = .ok (.invokevirtual 72, 3) := by decide +kernel
theorem dX0_isNearer_8 : decode cX0_isNearer 8 = .ok (.iload_n 1, 1) := by decide +kernel
theorem dX0_isNearer_9 : decode cX0_isNearer 9 = .ok (.isub, 1) := by decide +kernel
theorem dX0_isNearer_10 : decode cX0_isNearer 10 = .ok (.invokestatic 75, 3) := by decide +kernel
theorem dX0_isNearer_13 : decode cX0_isNearer 13 = .ok (.istore 4, 2) := by decide +kernel
theorem dX0_isNearer_15 : decode cX0_isNearer 15 = .ok (.aload_n 0, 1) := by decide +kernel
theorem dX0_isNearer_16 : decode cX0_isNearer 16 = .ok (.getfield 29, 3) := by decide +kernel
theorem dX0_isNearer_19 : decode cX0_isNearer 19 = .ok (.iload_n 3, 1) := by decide +kernel
theorem dX0_isNearer_20 : decode cX0_isNearer 20 = .ok (.invokevirtual 72, 3) := by decide +kernel
theorem dX0_isNearer_23 : decode cX0_isNearer 23 = .ok (.iload_n 1, 1) := by decide +kernel
theorem dX0_isNearer_24 : decode cX0_isNearer 24 = .ok (.isub, 1) := by decide +kernel
theorem dX0_isNearer_25 : decode cX0_isNearer 25 = .ok (.invokestatic 75, 3) := by decide +kernel
theorem dX0_isNearer_28 : decode cX0_isNearer 28 = .ok (.istore 5, 2) := by decide +kernel
theorem dX0_isNearer_30 : decode cX0_isNearer 30 = .ok (.iload 4, 2) := by decide +kernel
theorem dX0_isNearer_32 : decode cX0_isNearer 32 = .ok (.iload 5, 2) := by decide +kernel
theorem dX0_isNearer_34 : decode cX0_isNearer 34 = .ok (.if_icmp .eq 16, 3) := by decide +kernel
theorem dX0_isNearer_37 : decode cX0_isNearer 37 = .ok (.iload 4, 2) := by decide +kernel
theorem dX0_isNearer_39 : decode cX0_isNearer 39 = .ok (.iload 5, 2) := by decide +kernel
theorem dX0_isNearer_41 : decode cX0_isNearer 41 = .ok (.if_icmp .ge 7, 3) := by decide +kernel
theorem dX0_isNearer_44 : decode cX0_isNearer 44 = .ok (.iconst 1, 1) := by decide +kernel
theorem dX0_isNearer_45 : decode cX0_isNearer 45 = .ok (.goto 4, 3) := by decide +kernel
theorem dX0_isNearer_48 : decode cX0_isNearer 48 = .ok (.iconst 0, 1) := by decide +kernel
theorem dX0_isNearer_49 : decode cX0_isNearer 49 = .ok (.ireturn, 1) := by decide +kernel
theorem dX0_isNearer_50 : decode cX0_isNearer 50 = .ok (.aload_n 0, 1) := by decide +kernel
theorem dX0_isNearer_51 : decode cX0_isNearer 51 = .ok (.getfield 32, 3) := by decide +kernel
theorem dX0_isNearer_54 : decode cX0_isNearer 54 = .ok (.iload_n 2, 1) := by decide +kernel
theorem dX0_isNearer_55 : decode cX0_isNearer 55 = .ok (.invokevirtual 72, 3) := by decide +kernel
theorem dX0_isNearer_58 : decode cX0_isNearer 58 = .ok (.aload_n 0, 1) := by decide +kernel
theorem dX0_isNearer_59 : decode cX0_isNearer 59 = .ok (.getfield 32, 3) := by decide +kernel
theorem dX0_isNearer_62 : decode cX0_isNearer 62 = .ok (.iload_n 3, 1) := by decide +kernel
theorem dX0_isNearer_63 : decode cX0_isNearer 63 = .ok (.invokevirtual 72, 3) := by decide +kernel
theorem dX0_isNearer_66 : decode cX0_isNearer 66 = .ok (.if_icmp .le 7, 3) := by decide +kernel
theorem dX0_isNearer_69 : decode cX0_isNearer 69 = .ok (.iconst 1, 1) := by decide +kernel
theorem dX0_isNearer_70 : decode cX0_isNearer 70 = .ok (.goto 4, 3) := by decide +kernel
theorem dX0_isNearer_73 : decode cX0_isNearer 73 = .ok (.iconst 0, 1) := by decide +kernel
theorem dX0_isNearer_74 : decode cX0_isNearer 74 = .ok (.ireturn, 1) := by decide +kernel
theorem dX0_thirstAfter_0 : decode cX0_thirstAfter 0 = .ok (.bipush 20, 2) := by decide +kernel
theorem dX0_thirstAfter_2 : decode cX0_thirstAfter 2 = .ok (.iload_n 1, 1) := by decide +kernel
theorem dX0_thirstAfter_3 : decode cX0_thirstAfter 3 = .ok (.iload_n 2, 1) := by decide +kernel
theorem dX0_thirstAfter_4 : decode cX0_thirstAfter 4 = .ok (.iconst 4, 1) := by decide +kernel
theorem dX0_thirstAfter_5 : decode cX0_thirstAfter 5 = .ok (.idiv, 1) := by decide +kernel
theorem dX0_thirstAfter_6 : decode cX0_thirstAfter 6 = .ok (.iadd, 1) := by decide +kernel
theorem dX0_thirstAfter_7 : decode cX0_thirstAfter 7 = .ok (.invokestatic 129, 3) := by decide +kernel
theorem dX0_thirstAfter_10 : decode cX0_thirstAfter 10 = .ok (.ireturn, 1) := by decide +kernel
theorem dX0_hoursUntilLost_0 : decode cX0_hoursUntilLost 0 = .ok (.aload_n 0, 1) := by decide +kernel
theorem dX0_hoursUntilLost_1 : decode cX0_hoursUntilLost 1 = .ok (.getfield 32, 3) := by decide +kernel
theorem dX0_hoursUntilLost_4 : decode cX0_hoursUntilLost 4 = .ok (.iload_n 1, 1) := by decide +kernel
theorem dX0_hoursUntilLost_5 : decode cX0_hoursUntilLost 5 = .ok (.invokevirtual 72, 3) := by decide +kernel
theorem dX0_hoursUntilLost_8 : decode cX0_hoursUntilLost 8 = .ok (.istore_n 2, 1) := by decide +kernel
theorem dX0_hoursUntilLost_9 : decode cX0_hoursUntilLost 9 = .ok (.iconst 0, 1) := by decide +kernel
theorem dX0_hoursUntilLost_10 : decode cX0_hoursUntilLost 10 = .ok (.istore_n 3, 1) := by decide +kernel
theorem dX0_hoursUntilLost_11 : decode cX0_hoursUntilLost 11 = .ok (.iload_n 3, 1) := by decide +kernel
theorem dX0_hoursUntilLost_12 : decode cX0_hoursUntilLost 12 = .ok (.bipush 48, 2) := by decide +kernel
theorem dX0_hoursUntilLost_14 : decode cX0_hoursUntilLost 14 = .ok (.if_icmp .gt 33, 3) := by decide +kernel
theorem dX0_hoursUntilLost_17 : decode cX0_hoursUntilLost 17 = .ok (.iload_n 2, 1) := by decide +kernel
theorem dX0_hoursUntilLost_18 : decode cX0_hoursUntilLost 18 = .ok (.bipush 20, 2) := by decide +kernel
theorem dX0_hoursUntilLost_20 : decode cX0_hoursUntilLost 20 = .ok (.if_icmp .lt 5, 3) := by decide +kernel
theorem dX0_hoursUntilLost_23 : decode cX0_hoursUntilLost 23 = .ok (.iload_n 3, 1) := by decide +kernel
theorem dX0_hoursUntilLost_24 : decode cX0_hoursUntilLost 24 = .ok (.ireturn, 1) := by decide +kernel
theorem dX0_hoursUntilLost_25 : decode cX0_hoursUntilLost 25 = .ok (.aload_n 0, 1) := by decide +kernel
theorem dX0_hoursUntilLost_26 : decode cX0_hoursUntilLost 26 = .ok (.iload_n 2, 1) := by decide +kernel
theorem dX0_hoursUntilLost_27 : decode cX0_hoursUntilLost 27 = .ok (.aload_n 0, 1) := by decide +kernel
theorem dX0_hoursUntilLost_28 : decode cX0_hoursUntilLost 28 = .ok (.aload_n 0, 1) := by decide +kernel
theorem dX0_hoursUntilLost_29 : decode cX0_hoursUntilLost 29 = .ok (.getfield 45, 3) := by decide +kernel
theorem dX0_hoursUntilLost_32 : decode cX0_hoursUntilLost 32 = .ok (.iload_n 3, 1) := by decide +kernel
theorem dX0_hoursUntilLost_33 : decode cX0_hoursUntilLost 33 = .ok (.iadd, 1) := by decide +kernel
theorem dX0_hoursUntilLost_34 : decode cX0_hoursUntilLost 34 = .ok (.invokevirtual 65, 3) := by decide +kernel
theorem dX0_hoursUntilLost_37 : decode cX0_hoursUntilLost 37 = .ok (.invokevirtual 135, 3) := by decide +kernel
theorem dX0_hoursUntilLost_40 : decode cX0_hoursUntilLost 40 = .ok (.istore_n 2, 1) := by decide +kernel
theorem dX0_hoursUntilLost_41 : decode cX0_hoursUntilLost 41 = .ok (.iinc 3 1, 3) := by decide +kernel
theorem dX0_hoursUntilLost_44 : decode cX0_hoursUntilLost 44 = .ok (.goto (-33), 3) := by decide +kernel
theorem dX0_hoursUntilLost_47 : decode cX0_hoursUntilLost 47 = .ok (.iconst (-1), 1) := by decide +kernel
theorem dX0_hoursUntilLost_48 : decode cX0_hoursUntilLost 48 = .ok (.ireturn, 1) := by decide +kernel
theorem dX0_passHour_0 : decode cX0_passHour 0 = .ok (.aload_n 0, 1) := by decide +kernel
theorem dX0_passHour_1 : decode cX0_passHour 1 = .ok (.invokevirtual 68, 3) := by decide +kernel
theorem dX0_passHour_4 : decode cX0_passHour 4 = .ok (.istore_n 1, 1) := by decide +kernel
theorem dX0_passHour_5 : decode cX0_passHour 5 = .ok (.iconst 0, 1) := by decide +kernel
theorem dX0_passHour_6 : decode cX0_passHour 6 = .ok (.istore_n 2, 1) := by decide +kernel
theorem dX0_passHour_7 : decode cX0_passHour 7 = .ok (.iload_n 2, 1) := by decide +kernel
theorem dX0_passHour_8 : decode cX0_passHour 8 = .ok (.aload_n 0, 1) := by decide +kernel
theorem dX0_passHour_9 : decode cX0_passHour 9 = .ok (.getfield 29, 3) := by decide +kernel
theorem dX0_passHour_12 : decode cX0_passHour 12 = .ok (.invokevirtual 104, 3) := by decide +kernel
theorem dX0_passHour_15 : decode cX0_passHour 15 = .ok (.if_icmp .ge 49, 3) := by decide +kernel
theorem dX0_passHour_18 : decode cX0_passHour 18 = .ok (.aload_n 0, 1) := by decide +kernel
theorem dX0_passHour_19 : decode cX0_passHour 19 = .ok (.getfield 32, 3) := by decide +kernel
theorem dX0_passHour_22 : decode cX0_passHour 22 = .ok (.iload_n 2, 1) := by decide +kernel
theorem dX0_passHour_23 : decode cX0_passHour 23 = .ok (.aload_n 0, 1) := by decide +kernel
theorem dX0_passHour_24 : decode cX0_passHour 24 = .ok (.aload_n 0, 1) := by decide +kernel
theorem dX0_passHour_25 : decode cX0_passHour 25 = .ok (.getfield 32, 3) := by decide +kernel
theorem dX0_passHour_28 : decode cX0_passHour 28 = .ok (.iload_n 2, 1) := by decide +kernel
theorem dX0_passHour_29 : decode cX0_passHour 29 = .ok (.invokevirtual 72, 3) := by decide +kernel
theorem dX0_passHour_32 : decode cX0_passHour 32 = .ok (.iload_n 1, 1) := by decide +kernel
theorem dX0_passHour_33 : decode cX0_passHour 33 = .ok (.invokevirtual 135, 3) := by decide +kernel
theorem dX0_passHour_36 : decode cX0_passHour 36 = .ok (.invokevirtual 116, 3) := by decide +kernel
theorem dX0_passHour_39 : decode cX0_passHour 39 = .ok (.iload_n 1, 1) := by decide +kernel
theorem dX0_passHour_40 : decode cX0_passHour 40 = .ok (.bipush 6, 2) := by decide +kernel
theorem dX0_passHour_42 : decode cX0_passHour 42 = .ok (.if_icmp .lt 16, 3) := by decide +kernel
theorem dX0_passHour_45 : decode cX0_passHour 45 = .ok (.aload_n 0, 1) := by decide +kernel
theorem dX0_passHour_46 : decode cX0_passHour 46 = .ok (.iload_n 2, 1) := by decide +kernel
theorem dX0_passHour_47 : decode cX0_passHour 47 = .ok (.invokevirtual 123, 3) := by decide +kernel
theorem dX0_passHour_50 : decode cX0_passHour 50 = .ok (.ifCond .eq 8, 3) := by decide +kernel
theorem dX0_passHour_53 : decode cX0_passHour 53 = .ok (.aload_n 0, 1) := by decide +kernel
theorem dX0_passHour_54 : decode cX0_passHour 54 = .ok (.iload_n 2, 1) := by decide +kernel
theorem dX0_passHour_55 : decode cX0_passHour 55 = .ok (.invokevirtual 138, 3) := by decide +kernel
theorem dX0_passHour_58 : decode cX0_passHour 58 = .ok (.iinc 2 1, 3) := by decide +kernel
theorem dX0_passHour_61 : decode cX0_passHour 61 = .ok (.goto (-54), 3) := by decide +kernel
theorem dX0_passHour_64 : decode cX0_passHour 64 = .ok (.aload_n 0, 1) := by decide +kernel
theorem dX0_passHour_65 : decode cX0_passHour 65 = .ok (.dup, 1) := by decide +kernel
theorem dX0_passHour_66 : decode cX0_passHour 66 = .ok (.getfield 45, 3) := by decide +kernel
theorem dX0_passHour_69 : decode cX0_passHour 69 = .ok (.iconst 1, 1) := by decide +kernel
theorem dX0_passHour_70 : decode cX0_passHour 70 = .ok (.iadd, 1) := by decide +kernel
theorem dX0_passHour_71 : decode cX0_passHour 71 = .ok (.putfield 45, 3) := by decide +kernel
theorem dX0_passHour_74 : decode cX0_passHour 74 = .ok (.return_, 1) := by decide +kernel
theorem dX0_stray_0 : decode cX0_stray 0 = .ok (.aload_n 0, 1) := by decide +kernel
theorem dX0_stray_1 : decode cX0_stray 1 = .ok (.getfield 29, 3) := by decide +kernel
theorem dX0_stray_4 : decode cX0_stray 4 = .ok (.iload_n 1, 1) := by decide +kernel
theorem dX0_stray_5 : decode cX0_stray 5 = .ok (.aload_n 0, 1) := by decide +kernel
theorem dX0_stray_6 : decode cX0_stray 6 = .ok (.getfield 29, 3) := by decide +kernel
theorem dX0_stray_9 : decode cX0_stray 9 = .ok (.iload_n 1, 1) := by decide +kernel
theorem dX0_stray_10 : decode cX0_stray 10 = .ok (.invokevirtual 72, 3) := by decide +kernel
theorem dX0_stray_13 : decode cX0_stray 13 = .ok (.iload_n 1, 1) := by decide +kernel
theorem dX0_stray_14 : decode cX0_stray 14 = .ok (.iconst 2, 1) := by decide +kernel
theorem dX0_stray_15 : decode cX0_stray 15 = .ok (.irem, 1) := by decide +kernel
theorem dX0_stray_16 : decode cX0_stray 16 = .ok (.ifCond .ne 7, 3) := by decide +kernel
theorem dX0_stray_19 : decode cX0_stray 19 = .ok (.iconst 3, 1) := by decide +kernel
theorem dX0_stray_20 : decode cX0_stray 20 = .ok (.goto 5, 3) := by decide +kernel
theorem dX0_stray_23 : decode cX0_stray 23 = .ok (.bipush (-3), 2) := by decide +kernel
theorem dX0_stray_25 : decode cX0_stray 25 = .ok (.iadd, 1) := by decide +kernel
theorem dX0_stray_26 : decode cX0_stray 26 = .ok (.invokestatic 97, 3) := by decide +kernel
theorem dX0_stray_29 : decode cX0_stray 29 = .ok (.invokevirtual 116, 3) := by decide +kernel
theorem dX0_stray_32 : decode cX0_stray 32 = .ok (.return_, 1) := by decide +kernel
theorem dX1_init_0 : decode cX1_init 0 = .ok (.aload_n 0, 1) := by decide +kernel
theorem dX1_init_1 : decode cX1_init 1 = .ok (.invokespecial 3, 3) := by decide +kernel
theorem dX1_init_4 : decode cX1_init 4 = .ok (.aload_n 0, 1) := by decide +kernel
theorem dX1_init_5 : decode cX1_init 5 = .ok (.bipush 8, 2) := by decide +kernel
theorem dX1_init_7 : decode cX1_init 7 = .ok (.anewarray 9, 3) := by decide +kernel
theorem dX1_init_10 : decode cX1_init 10 = .ok (.putfield 11, 3) := by decide +kernel
theorem dX1_init_13 : decode cX1_init 13 = .ok (.aload_n 0, 1) := by decide +kernel
theorem dX1_init_14 : decode cX1_init 14 = .ok (.iconst 0, 1) := by decide +kernel
theorem dX1_init_15 : decode cX1_init 15 = .ok (.putfield 17, 3) := by decide +kernel
theorem dX1_init_18 : decode cX1_init 18 = .ok (.aload_n 0, 1) := by decide +kernel
theorem dX1_init_19 : decode cX1_init 19 = .ok (.iconst 0, 1) := by decide +kernel
theorem dX1_init_20 : decode cX1_init 20 = .ok (.putfield 21, 3) := by decide +kernel
theorem dX1_init_23 : decode cX1_init 23 = .ok (.iconst 0, 1) := by decide +kernel
theorem dX1_init_24 : decode cX1_init 24 = .ok (.istore_n 1, 1) := by decide +kernel
theorem dX1_init_25 : decode cX1_init 25 = .ok (.iload_n 1, 1) := by decide +kernel
theorem dX1_init_26 : decode cX1_init 26 = .ok (.aload_n 0, 1) := by decide +kernel
theorem dX1_init_27 : decode cX1_init 27 = .ok (.getfield 11, 3) := by decide +kernel
theorem dX1_init_30 : decode cX1_init 30 = .ok (.arraylength, 1) := by decide +kernel
theorem dX1_init_31 : decode cX1_init 31 = .ok (.if_icmp .ge 22, 3) := by decide +kernel
theorem dX1_init_34 : decode cX1_init 34 = .ok (.aload_n 0, 1) := by decide +kernel
theorem dX1_init_35 : decode cX1_init 35 = .ok (.getfield 11, 3) := by decide +kernel
theorem dX1_init_38 : decode cX1_init 38 = .ok (.iload_n 1, 1) := by decide +kernel
theorem dX1_init_39 : decode cX1_init 39 = .ok (.new 9, 3) := by decide +kernel
theorem dX1_init_42 : decode cX1_init 42 = .ok (.dup, 1) := by decide +kernel
theorem dX1_init_43 : decode cX1_init 43 = .ok (.invokespecial 24, 3) := by decide +kernel
theorem dX1_init_46 : decode cX1_init 46 = .ok (.aastore, 1) := by decide +kernel
theorem dX1_init_47 : decode cX1_init 47 = .ok (.iinc 1 1, 3) := by decide +kernel
theorem dX1_init_50 : decode cX1_init 50 = .ok (.goto (-25), 3) := by decide +kernel
theorem dX1_init_53 : decode cX1_init 53 = .ok (.return_, 1) := by decide +kernel
theorem dX1_size_0 : decode cX1_size 0 = .ok (.aload_n 0, 1) := by decide +kernel
theorem dX1_size_1 : decode cX1_size 1 = .ok (.getfield 17, 3) := by decide +kernel
theorem dX1_size_4 : decode cX1_size 4 = .ok (.ireturn, 1) := by decide +kernel
theorem dX1_slot_0 : decode cX1_slot 0 = .ok (.iload_n 1, 1) := by decide +kernel
theorem dX1_slot_1 : decode cX1_slot 1 = .ok (.ifCond .lt 21, 3) := by decide +kernel
theorem dX1_slot_4 : decode cX1_slot 4 = .ok (.iload_n 1, 1) := by decide +kernel
theorem dX1_slot_5 : decode cX1_slot 5 = .ok (.aload_n 0, 1) := by decide +kernel
theorem dX1_slot_6 : decode cX1_slot 6 = .ok (.getfield 11, 3) := by decide +kernel
theorem dX1_slot_9 : decode cX1_slot 9 = .ok (.arraylength, 1) := by decide +kernel
theorem dX1_slot_10 : decode cX1_slot 10 = .ok (.if_icmp .ge 12, 3) := by decide +kernel
theorem dX1_slot_13 : decode cX1_slot 13 = .ok (.aload_n 0, 1) := by decide +kernel
theorem dX1_slot_14 : decode cX1_slot 14 = .ok (.getfield 11, 3) := by decide +kernel
theorem dX1_slot_17 : decode cX1_slot 17 = .ok (.iload_n 1, 1) := by decide +kernel
theorem dX1_slot_18 : decode cX1_slot 18 = .ok (.aaload, 1) := by decide +kernel
theorem dX1_slot_19 : decode cX1_slot 19 = .ok (.goto 4, 3) := by decide +kernel
theorem dX1_slot_22 : decode cX1_slot 22 = .ok (.aconst_null, 1) := by decide +kernel
theorem dX1_slot_23 : decode cX1_slot 23 = .ok (.areturn, 1) := by decide +kernel
theorem dX1_keep_0 : decode cX1_keep 0 = .ok (.aload_n 0, 1) := by decide +kernel
theorem dX1_keep_1 : decode cX1_keep 1 = .ok (.aload_n 0, 1) := by decide +kernel
theorem dX1_keep_2 : decode cX1_keep 2 = .ok (.getfield 21, 3) := by decide +kernel
theorem dX1_keep_5 : decode cX1_keep 5 = .ok (.invokevirtual 25, 3) := by decide +kernel
theorem dX1_keep_8 : decode cX1_keep 8 = .ok (.astore_n 2, 1) := by decide +kernel
theorem dX1_keep_9 : decode cX1_keep 9 = .ok (.aload_n 2, 1) := by decide +kernel
theorem dX1_keep_10 : decode cX1_keep 10 = .ok (.ifnull 8, 3) := by decide +kernel
theorem dX1_keep_13 : decode cX1_keep 13 = .ok (.aload_n 2, 1) := by decide +kernel
theorem dX1_keep_14 : decode cX1_keep 14 = .ok (.aload_n 1, 1) := by decide +kernel
theorem dX1_keep_15 : decode cX1_keep 15 = .ok (.invokevirtual 29, 3) := by decide +kernel
theorem dX1_keep_18 : decode cX1_keep 18 = .ok (.aload_n 0, 1) := by decide +kernel
theorem dX1_keep_19 : decode cX1_keep 19 = .ok (.aload_n 0, 1) := by decide +kernel
theorem dX1_keep_20 : decode cX1_keep 20 = .ok (.getfield 21, 3) := by decide +kernel
theorem dX1_keep_23 : decode cX1_keep 23 = .ok (.iconst 1, 1) := by decide +kernel
theorem dX1_keep_24 : decode cX1_keep 24 = .ok (.iadd, 1) := by decide +kernel
theorem dX1_keep_25 : decode cX1_keep 25 = .ok (.bipush 8, 2) := by decide +kernel
theorem dX1_keep_27 : decode cX1_keep 27 = .ok (.if_icmp .ge 12, 3) := by decide +kernel
theorem dX1_keep_30 : decode cX1_keep 30 = .ok (.aload_n 0, 1) := by decide +kernel
theorem dX1_keep_31 : decode cX1_keep 31 = .ok (.getfield 21, 3) := by decide +kernel
theorem dX1_keep_34 : decode cX1_keep 34 = .ok (.iconst 1, 1) := by decide +kernel
theorem dX1_keep_35 : decode cX1_keep 35 = .ok (.iadd, 1) := by decide +kernel
theorem dX1_keep_36 : decode cX1_keep 36 = .ok (.goto 4, 3) := by decide +kernel
theorem dX1_keep_39 : decode cX1_keep 39 = .ok (.iconst 0, 1) := by decide +kernel
theorem dX1_keep_40 : decode cX1_keep 40 = .ok (.putfield 21, 3) := by decide +kernel
theorem dX1_keep_43 : decode cX1_keep 43 = .ok (.aload_n 0, 1) := by decide +kernel
theorem dX1_keep_44 : decode cX1_keep 44 = .ok (.bipush 8, 2) := by decide +kernel
theorem dX1_keep_46 : decode cX1_keep 46 = .ok (.aload_n 0, 1) := by decide +kernel
theorem dX1_keep_47 : decode cX1_keep 47 = .ok (.getfield 17, 3) := by decide +kernel
theorem dX1_keep_50 : decode cX1_keep 50 = .ok (.iconst 1, 1) := by decide +kernel
theorem dX1_keep_51 : decode cX1_keep 51 = .ok (.iadd, 1) := by decide +kernel
theorem dX1_keep_52 : decode cX1_keep 52 = .ok (.invokestatic 33, 3) := by decide +kernel
theorem dX1_keep_55 : decode cX1_keep 55 = .ok (.putfield 17, 3) := by decide +kernel
theorem dX1_keep_58 : decode cX1_keep 58 = .ok (.return_, 1) := by decide +kernel
theorem dX1_takeBack_0 : decode cX1_takeBack 0 = .ok (.aload_n 0, 1) := by decide +kernel
theorem dX1_takeBack_1 : decode cX1_takeBack 1 = .ok (.aload_n 0, 1) := by decide +kernel
theorem dX1_takeBack_2 : decode cX1_takeBack 2 = .ok (.getfield 21, 3) := by decide +kernel
theorem dX1_takeBack_5 : decode cX1_takeBack 5 = .ok (.ifCond .le 12, 3) := by decide +kernel
theorem dX1_takeBack_8 : decode cX1_takeBack 8 = .ok (.aload_n 0, 1) := by decide +kernel
theorem dX1_takeBack_9 : decode cX1_takeBack 9 = .ok (.getfield 21, 3) := by decide +kernel
theorem dX1_takeBack_12 : decode cX1_takeBack 12 = .ok (.iconst 1, 1) := by decide +kernel
theorem dX1_takeBack_13 : decode cX1_takeBack 13 = .ok (.isub, 1) := by decide +kernel
theorem dX1_takeBack_14 : decode cX1_takeBack 14 = .ok (.goto 5, 3) := by decide +kernel
theorem dX1_takeBack_17 : decode cX1_takeBack 17 = .ok (.bipush 7, 2) := by decide +kernel
theorem dX1_takeBack_19 : decode cX1_takeBack 19 = .ok (.putfield 21, 3) := by decide +kernel
theorem dX1_takeBack_22 : decode cX1_takeBack 22 = .ok (.aload_n 0, 1) := by decide +kernel
theorem dX1_takeBack_23 : decode cX1_takeBack 23 = .ok (.iconst 0, 1) := by decide +kernel
theorem dX1_takeBack_24 : decode cX1_takeBack 24 = .ok (.aload_n 0, 1) := by decide +kernel
theorem dX1_takeBack_25 : decode cX1_takeBack 25 = .ok (.getfield 17, 3) := by decide +kernel
theorem dX1_takeBack_28 : decode cX1_takeBack 28 = .ok (.iconst 1, 1) := by decide +kernel
theorem dX1_takeBack_29 : decode cX1_takeBack 29 = .ok (.isub, 1) := by decide +kernel
theorem dX1_takeBack_30 : decode cX1_takeBack 30 = .ok (.invokestatic 39, 3) := by decide +kernel
theorem dX1_takeBack_33 : decode cX1_takeBack 33 = .ok (.putfield 17, 3) := by decide +kernel
theorem dX1_takeBack_36 : decode cX1_takeBack 36 = .ok (.aload_n 0, 1) := by decide +kernel
theorem dX1_takeBack_37 : decode cX1_takeBack 37 = .ok (.aload_n 0, 1) := by decide +kernel
theorem dX1_takeBack_38 : decode cX1_takeBack 38 = .ok (.getfield 21, 3) := by decide +kernel
theorem dX1_takeBack_41 : decode cX1_takeBack 41 = .ok (.invokevirtual 25, 3) := by decide +kernel
theorem dX1_takeBack_44 : decode cX1_takeBack 44 = .ok (.astore_n 2, 1) := by decide +kernel
theorem dX1_takeBack_45 : decode cX1_takeBack 45 = .ok (.aload_n 2, 1) := by decide +kernel
theorem dX1_takeBack_46 : decode cX1_takeBack 46 = .ok (.ifnull 8, 3) := by decide +kernel
theorem dX1_takeBack_49 : decode cX1_takeBack 49 = .ok (.aload_n 1, 1) := by decide +kernel
theorem dX1_takeBack_50 : decode cX1_takeBack 50 = .ok (.aload_n 2, 1) := by decide +kernel
theorem dX1_takeBack_51 : decode cX1_takeBack 51 = .ok (.invokevirtual 29, 3) := by decide +kernel
theorem dX1_takeBack_54 : decode cX1_takeBack 54 = .ok (.return_, 1) := by decide +kernel
theorem dX1_forget_0 : decode cX1_forget 0 = .ok (.aload_n 0, 1) := by decide +kernel
theorem dX1_forget_1 : decode cX1_forget 1 = .ok (.iconst 0, 1) := by decide +kernel
theorem dX1_forget_2 : decode cX1_forget 2 = .ok (.putfield 17, 3) := by decide +kernel
theorem dX1_forget_5 : decode cX1_forget 5 = .ok (.return_, 1) := by decide +kernel
theorem dX2_init_0 : decode cX2_init 0 = .ok (.aload_n 0, 1) := by decide +kernel
theorem dX2_init_1 : decode cX2_init 1 = .ok (.invokespecial 3, 3) := by decide +kernel
theorem dX2_init_4 : decode cX2_init 4 = .ok (.aload_n 0, 1) := by decide +kernel
theorem dX2_init_5 : decode cX2_init 5 = .ok (.bipush 79, 2) := by decide +kernel
theorem dX2_init_7 : decode cX2_init 7 = .ok (.newarray .char, 2) := by decide +kernel
theorem dX2_init_9 : decode cX2_init 9 = .ok (.putfield 9, 3) := by decide +kernel
theorem dX2_init_12 : decode cX2_init 12 = .ok (.aload_n 0, 1) := by decide +kernel
theorem dX2_init_13 : decode cX2_init 13 = .ok (.iconst 0, 1) := by decide +kernel
theorem dX2_init_14 : decode cX2_init 14 = .ok (.putfield 15, 3) := by decide +kernel
theorem dX2_init_17 : decode cX2_init 17 = .ok (.return_, 1) := by decide +kernel
theorem dX2_length_0 : decode cX2_length 0 = .ok (.aload_n 0, 1) := by decide +kernel
theorem dX2_length_1 : decode cX2_length 1 = .ok (.getfield 15, 3) := by decide +kernel
theorem dX2_length_4 : decode cX2_length 4 = .ok (.ireturn, 1) := by decide +kernel
theorem dX2_signAt_0 : decode cX2_signAt 0 = .ok (.iload_n 1, 1) := by decide +kernel
theorem dX2_signAt_1 : decode cX2_signAt 1 = .ok (.ifCond .lt 29, 3) := by decide +kernel
theorem dX2_signAt_4 : decode cX2_signAt 4 = .ok (.iload_n 1, 1) := by decide +kernel
theorem dX2_signAt_5 : decode cX2_signAt 5 = .ok (.aload_n 0, 1) := by decide +kernel
theorem dX2_signAt_6 : decode cX2_signAt 6 = .ok (.getfield 15, 3) := by decide +kernel
theorem dX2_signAt_9 : decode cX2_signAt 9 = .ok (.if_icmp .ge 21, 3) := by decide +kernel
theorem dX2_signAt_12 : decode cX2_signAt 12 = .ok (.iload_n 1, 1) := by decide +kernel
theorem dX2_signAt_13 : decode cX2_signAt 13 = .ok (.aload_n 0, 1) := by decide +kernel
theorem dX2_signAt_14 : decode cX2_signAt 14 = .ok (.getfield 9, 3) := by decide +kernel
theorem dX2_signAt_17 : decode cX2_signAt 17 = .ok (.arraylength, 1) := by decide +kernel
theorem dX2_signAt_18 : decode cX2_signAt 18 = .ok (.if_icmp .ge 12, 3) := by decide +kernel
theorem dX2_signAt_21 : decode cX2_signAt 21 = .ok (.aload_n 0, 1) := by decide +kernel
theorem dX2_signAt_22 : decode cX2_signAt 22 = .ok (.getfield 9, 3) := by decide +kernel
theorem dX2_signAt_25 : decode cX2_signAt 25 = .ok (.iload_n 1, 1) := by decide +kernel
theorem dX2_signAt_26 : decode cX2_signAt 26 = .ok (.caload, 1) := by decide +kernel
theorem dX2_signAt_27 : decode cX2_signAt 27 = .ok (.goto 5, 3) := by decide +kernel
theorem dX2_signAt_30 : decode cX2_signAt 30 = .ok (.bipush 32, 2) := by decide +kernel
theorem dX2_signAt_32 : decode cX2_signAt 32 = .ok (.ireturn, 1) := by decide +kernel
theorem dX2_clear_0 : decode cX2_clear 0 = .ok (.aload_n 0, 1) := by decide +kernel
theorem dX2_clear_1 : decode cX2_clear 1 = .ok (.iconst 0, 1) := by decide +kernel
theorem dX2_clear_2 : decode cX2_clear 2 = .ok (.putfield 15, 3) := by decide +kernel
theorem dX2_clear_5 : decode cX2_clear 5 = .ok (.return_, 1) := by decide +kernel
theorem dX2_putStake_0 : decode cX2_putStake 0 = .ok (.aload_n 0, 1) := by decide +kernel
theorem dX2_putStake_1 : decode cX2_putStake 1 = .ok (.getfield 15, 3) := by decide +kernel
theorem dX2_putStake_4 : decode cX2_putStake 4 = .ok (.ifCond .le 9, 3) := by decide +kernel
theorem dX2_putStake_7 : decode cX2_putStake 7 = .ok (.aload_n 0, 1) := by decide +kernel
theorem dX2_putStake_8 : decode cX2_putStake 8 = .ok (.bipush 32, 2) := by decide +kernel
theorem dX2_putStake_10 : decode cX2_putStake 10 = .ok (.invokevirtual 19, 3) := by decide +kernel
theorem dX2_putStake_13 : decode cX2_putStake 13 = .ok (.aload_n 0, 1) := by decide +kernel
theorem dX2_putStake_14 : decode cX2_putStake 14 = .ok (.iload_n 1, 1) := by decide +kernel
theorem dX2_putStake_15 : decode cX2_putStake 15 = .ok (.invokevirtual 23, 3) := by decide +kernel
theorem dX2_putStake_18 : decode cX2_putStake 18 = .ok (.aload_n 0, 1) := by decide +kernel
theorem dX2_putStake_19 : decode cX2_putStake 19 = .ok (.bipush 64, 2) := by decide +kernel
theorem dX2_putStake_21 : decode cX2_putStake 21 = .ok (.invokevirtual 19, 3) := by decide +kernel
theorem dX2_putStake_24 : decode cX2_putStake 24 = .ok (.aload_n 0, 1) := by decide +kernel
theorem dX2_putStake_25 : decode cX2_putStake 25 = .ok (.iload_n 2, 1) := by decide +kernel
theorem dX2_putStake_26 : decode cX2_putStake 26 = .ok (.invokevirtual 23, 3) := by decide +kernel
theorem dX2_putStake_29 : decode cX2_putStake 29 = .ok (.iload_n 3, 1) := by decide +kernel
theorem dX2_putStake_30 : decode cX2_putStake 30 = .ok (.ifCond .eq 26, 3) := by decide +kernel
theorem dX2_putStake_33 : decode cX2_putStake 33 = .ok (.aload_n 0, 1) := by decide +kernel
theorem dX2_putStake_34 : decode cX2_putStake 34 = .ok (.iload_n 3, 1) := by decide +kernel
theorem dX2_putStake_35 : decode cX2_putStake 35 = .ok (.ifCond .le 8, 3) := by decide +kernel
theorem dX2_putStake_38 : decode cX2_putStake 38 = .ok (.bipush 43, 2) := by decide +kernel
theorem dX2_putStake_40 : decode cX2_putStake 40 = .ok (.goto 5, 3) := by decide +kernel
theorem dX2_putStake_43 : decode cX2_putStake 43 = .ok (.bipush 45, 2) := by decide +kernel
theorem dX2_putStake_45 : decode cX2_putStake 45 = .ok (.invokevirtual 19, 3) := by decide +kernel
theorem dX2_putStake_48 : decode cX2_putStake 48 = .ok (.aload_n 0, 1) := by decide +kernel
theorem dX2_putStake_49 : decode cX2_putStake 49 = .ok (.iload_n 3, 1) := by decide +kernel
theorem dX2_putStake_50 : decode cX2_putStake 50 = .ok (.invokestatic 27, 3) := by decide +kernel
theorem dX2_putStake_53 : decode cX2_putStake 53 = .ok (.invokevirtual 23, 3) := by decide +kernel
theorem dX2_putStake_56 : decode cX2_putStake 56 = .ok (.return_, 1) := by decide +kernel
theorem dX2_putWord_0 : decode cX2_putWord 0 = .ok (.iconst 0, 1) := by decide +kernel
theorem dX2_putWord_1 : decode cX2_putWord 1 = .ok (.istore_n 2, 1) := by decide +kernel
theorem dX2_putWord_2 : decode cX2_putWord 2 = .ok (.iload_n 2, 1) := by decide +kernel
theorem dX2_putWord_3 : decode cX2_putWord 3 = .ok (.aload_n 1, 1) := by decide +kernel
theorem dX2_putWord_4 : decode cX2_putWord 4 = .ok (.invokevirtual 33, 3) := by decide +kernel
theorem dX2_putWord_7 : decode cX2_putWord 7 = .ok (.if_icmp .ge 18, 3) := by decide +kernel
theorem dX2_putWord_10 : decode cX2_putWord 10 = .ok (.aload_n 0, 1) := by decide +kernel
theorem dX2_putWord_11 : decode cX2_putWord 11 = .ok (.aload_n 1, 1) := by decide +kernel
theorem dX2_putWord_12 : decode cX2_putWord 12 = .ok (.iload_n 2, 1) := by decide +kernel
theorem dX2_putWord_13 : decode cX2_putWord 13 = .ok (.invokevirtual 38, 3) := by decide +kernel
theorem dX2_putWord_16 : decode cX2_putWord 16 = .ok (.invokevirtual 19, 3) := by decide +kernel
theorem dX2_putWord_19 : decode cX2_putWord 19 = .ok (.iinc 2 1, 3) := by decide +kernel
theorem dX2_putWord_22 : decode cX2_putWord 22 = .ok (.goto (-20), 3) := by decide +kernel
theorem dX2_putWord_25 : decode cX2_putWord 25 = .ok (.return_, 1) := by decide +kernel
theorem dX2_putNumber_0 : decode cX2_putNumber 0 = .ok (.iload_n 1, 1) := by decide +kernel
theorem dX2_putNumber_1 : decode cX2_putNumber 1 = .ok (.bipush 10, 2) := by decide +kernel
theorem dX2_putNumber_3 : decode cX2_putNumber 3 = .ok (.if_icmp .lt 18, 3) := by decide +kernel
theorem dX2_putNumber_6 : decode cX2_putNumber 6 = .ok (.aload_n 0, 1) := by decide +kernel
theorem dX2_putNumber_7 : decode cX2_putNumber 7 = .ok (.bipush 48, 2) := by decide +kernel
theorem dX2_putNumber_9 : decode cX2_putNumber 9 = .ok (.iload_n 1, 1) := by decide +kernel
theorem dX2_putNumber_10 : decode cX2_putNumber 10 = .ok (.bipush 10, 2) := by decide +kernel
theorem dX2_putNumber_12 : decode cX2_putNumber 12 = .ok (.idiv, 1) := by decide +kernel
theorem dX2_putNumber_13 : decode cX2_putNumber 13 = .ok (.bipush 10, 2) := by decide +kernel
theorem dX2_putNumber_15 : decode cX2_putNumber 15 = .ok (.irem, 1) := by decide +kernel
theorem dX2_putNumber_16 : decode cX2_putNumber 16 = .ok (.iadd, 1) := by decide +kernel
theorem dX2_putNumber_17 : decode cX2_putNumber 17 = .ok (.i2c, 1) := by decide +kernel
theorem dX2_putNumber_18 : decode cX2_putNumber 18 = .ok (.invokevirtual 19, 3) := by decide +kernel
theorem dX2_putNumber_21 : decode cX2_putNumber 21 = .ok (.aload_n 0, 1) := by decide +kernel
theorem dX2_putNumber_22 : decode cX2_putNumber 22 = .ok (.bipush 48, 2) := by decide +kernel
theorem dX2_putNumber_24 : decode cX2_putNumber 24 = .ok (.iload_n 1, 1) := by decide +kernel
theorem dX2_putNumber_25 : decode cX2_putNumber 25 = .ok (.bipush 10, 2) := by decide +kernel
theorem dX2_putNumber_27 : decode cX2_putNumber 27 = .ok (.irem, 1) := by decide +kernel
theorem dX2_putNumber_28 : decode cX2_putNumber 28 = .ok (.iadd, 1) := by decide +kernel
theorem dX2_putNumber_29 : decode cX2_putNumber 29 = .ok (.i2c, 1) := by decide +kernel
theorem dX2_putNumber_30 : decode cX2_putNumber 30 = .ok (.invokevirtual 19, 3) := by decide +kernel
theorem dX2_putNumber_33 : decode cX2_putNumber 33 = .ok (.return_, 1) := by decide +kernel
theorem dX2_put_0 : decode cX2_put 0 = .ok (.aload_n 0, 1) := by decide +kernel
theorem dX2_put_1 : decode cX2_put 1 = .ok (.getfield 15, 3) := by decide +kernel
theorem dX2_put_4 : decode cX2_put 4 = .ok (.ifCond .lt 35, 3) := by decide +kernel
theorem dX2_put_7 : decode cX2_put 7 = .ok (.aload_n 0, 1) := by decide +kernel
theorem dX2_put_8 : decode cX2_put 8 = .ok (.getfield 15, 3) := by decide +kernel
theorem dX2_put_11 : decode cX2_put 11 = .ok (.aload_n 0, 1) := by decide +kernel
theorem dX2_put_12 : decode cX2_put 12 = .ok (.getfield 9, 3) := by decide +kernel
theorem dX2_put_15 : decode cX2_put 15 = .ok (.arraylength, 1) := by decide +kernel
theorem dX2_put_16 : decode cX2_put 16 = .ok (.if_icmp .ge 23, 3) := by decide +kernel
theorem dX2_put_19 : decode cX2_put 19 = .ok (.aload_n 0, 1) := by decide +kernel
theorem dX2_put_20 : decode cX2_put 20 = .ok (.getfield 9, 3) := by decide +kernel
theorem dX2_put_23 : decode cX2_put 23 = .ok (.aload_n 0, 1) := by decide +kernel
theorem dX2_put_24 : decode cX2_put 24 = .ok (.getfield 15, 3) := by decide +kernel
theorem dX2_put_27 : decode cX2_put 27 = .ok (.iload_n 1, 1) := by decide +kernel
theorem dX2_put_28 : decode cX2_put 28 = .ok (.castore, 1) := by decide +kernel
theorem dX2_put_29 : decode cX2_put 29 = .ok (.aload_n 0, 1) := by decide +kernel
theorem dX2_put_30 : decode cX2_put 30 = .ok (.dup, 1) := by decide +kernel
theorem dX2_put_31 : decode cX2_put 31 = .ok (.getfield 15, 3) := by decide +kernel
theorem dX2_put_34 : decode cX2_put 34 = .ok (.iconst 1, 1) := by decide +kernel
theorem dX2_put_35 : decode cX2_put 35 = .ok (.iadd, 1) := by decide +kernel
theorem dX2_put_36 : decode cX2_put 36 = .ok (.putfield 15, 3) := by decide +kernel
theorem dX2_put_39 : decode cX2_put 39 = .ok (.return_, 1) := by decide +kernel
theorem dX3_init_0 : decode cX3_init 0 = .ok (.aload_n 0, 1) := by decide +kernel
theorem dX3_init_1 : decode cX3_init 1 = .ok (.invokespecial 3, 3) := by decide +kernel
theorem dX3_init_4 : decode cX3_init 4 = .ok (.aload_n 0, 1) := by decide +kernel
theorem dX3_init_5 : decode cX3_init 5 = .ok (.iconst 0, 1) := by decide +kernel
theorem dX3_init_6 : decode cX3_init 6 = .ok (.putfield 9, 3) := by decide +kernel
theorem dX3_init_9 : decode cX3_init 9 = .ok (.aload_n 0, 1) := by decide +kernel
theorem dX3_init_10 : decode cX3_init 10 = .ok (.iload_n 1, 1) := by decide +kernel
theorem dX3_init_11 : decode cX3_init 11 = .ok (.ifCond .le 7, 3) := by decide +kernel
theorem dX3_init_14 : decode cX3_init 14 = .ok (.iload_n 1, 1) := by decide +kernel
theorem dX3_init_15 : decode cX3_init 15 = .ok (.goto 4, 3) := by decide +kernel
theorem dX3_init_18 : decode cX3_init 18 = .ok (.iconst 0, 1) := by decide +kernel
theorem dX3_init_19 : decode cX3_init 19 = .ok (.newarray .int, 2) := by decide +kernel
theorem dX3_init_21 : decode cX3_init 21 = .ok (.putfield 15, 3) := by decide +kernel
theorem dX3_init_24 : decode cX3_init 24 = .ok (.return_, 1) := by decide +kernel
theorem dX3_size_0 : decode cX3_size 0 = .ok (.aload_n 0, 1) := by decide +kernel
theorem dX3_size_1 : decode cX3_size 1 = .ok (.getfield 9, 3) := by decide +kernel
theorem dX3_size_4 : decode cX3_size 4 = .ok (.ireturn, 1) := by decide +kernel
theorem dX3_isFull_0 : decode cX3_isFull 0 = .ok (.aload_n 0, 1) := by decide +kernel
theorem dX3_isFull_1 : decode cX3_isFull 1 = .ok (.getfield 9, 3) := by decide +kernel
theorem dX3_isFull_4 : decode cX3_isFull 4 = .ok (.aload_n 0, 1) := by decide +kernel
theorem dX3_isFull_5 : decode cX3_isFull 5 = .ok (.getfield 15, 3) := by decide +kernel
theorem dX3_isFull_8 : decode cX3_isFull 8 = .ok (.arraylength, 1) := by decide +kernel
theorem dX3_isFull_9 : decode cX3_isFull 9 = .ok (.if_icmp .lt 7, 3) := by decide +kernel
theorem dX3_isFull_12 : decode cX3_isFull 12 = .ok (.iconst 1, 1) := by decide +kernel
theorem dX3_isFull_13 : decode cX3_isFull 13 = .ok (.goto 4, 3) := by decide +kernel
theorem dX3_isFull_16 : decode cX3_isFull 16 = .ok (.iconst 0, 1) := by decide +kernel
theorem dX3_isFull_17 : decode cX3_isFull 17 = .ok (.ireturn, 1) := by decide +kernel
theorem dX3_has_0 : decode cX3_has 0 = .ok (.iload_n 1, 1) := by decide +kernel
theorem dX3_has_1 : decode cX3_has 1 = .ok (.ifCond .lt 24, 3) := by decide +kernel
theorem dX3_has_4 : decode cX3_has 4 = .ok (.iload_n 1, 1) := by decide +kernel
theorem dX3_has_5 : decode cX3_has 5 = .ok (.aload_n 0, 1) := by decide +kernel
theorem dX3_has_6 : decode cX3_has 6 = .ok (.getfield 9, 3) := by decide +kernel
theorem dX3_has_9 : decode cX3_has 9 = .ok (.if_icmp .ge 16, 3) := by decide +kernel
theorem dX3_has_12 : decode cX3_has 12 = .ok (.iload_n 1, 1) := by decide +kernel
theorem dX3_has_13 : decode cX3_has 13 = .ok (.aload_n 0, 1) := by decide +kernel
theorem dX3_has_14 : decode cX3_has 14 = .ok (.getfield 15, 3) := by decide +kernel
theorem dX3_has_17 : decode cX3_has 17 = .ok (.arraylength, 1) := by decide +kernel
theorem dX3_has_18 : decode cX3_has 18 = .ok (.if_icmp .ge 7, 3) := by decide +kernel
theorem dX3_has_21 : decode cX3_has 21 = .ok (.iconst 1, 1) := by decide +kernel
theorem dX3_has_22 : decode cX3_has 22 = .ok (.goto 4, 3) := by decide +kernel
theorem dX3_has_25 : decode cX3_has 25 = .ok (.iconst 0, 1) := by decide +kernel
theorem dX3_has_26 : decode cX3_has 26 = .ok (.ireturn, 1) := by decide +kernel
theorem dX3_get_0 : decode cX3_get 0 = .ok (.iload_n 1, 1) := by decide +kernel
theorem dX3_get_1 : decode cX3_get 1 = .ok (.ifCond .lt 29, 3) := by decide +kernel
theorem dX3_get_4 : decode cX3_get 4 = .ok (.iload_n 1, 1) := by decide +kernel
theorem dX3_get_5 : decode cX3_get 5 = .ok (.aload_n 0, 1) := by decide +kernel
theorem dX3_get_6 : decode cX3_get 6 = .ok (.getfield 9, 3) := by decide +kernel
theorem dX3_get_9 : decode cX3_get 9 = .ok (.if_icmp .ge 21, 3) := by decide +kernel
theorem dX3_get_12 : decode cX3_get 12 = .ok (.iload_n 1, 1) := by decide +kernel
theorem dX3_get_13 : decode cX3_get 13 = .ok (.aload_n 0, 1) := by decide +kernel
theorem dX3_get_14 : decode cX3_get 14 = .ok (.getfield 15, 3) := by decide +kernel
theorem dX3_get_17 : decode cX3_get 17 = .ok (.arraylength, 1) := by decide +kernel
theorem dX3_get_18 : decode cX3_get 18 = .ok (.if_icmp .ge 12, 3) := by decide +kernel
theorem dX3_get_21 : decode cX3_get 21 = .ok (.aload_n 0, 1) := by decide +kernel
theorem dX3_get_22 : decode cX3_get 22 = .ok (.getfield 15, 3) := by decide +kernel
theorem dX3_get_25 : decode cX3_get 25 = .ok (.iload_n 1, 1) := by decide +kernel
theorem dX3_get_26 : decode cX3_get 26 = .ok (.iaload, 1) := by decide +kernel
theorem dX3_get_27 : decode cX3_get 27 = .ok (.goto 4, 3) := by decide +kernel
theorem dX3_get_30 : decode cX3_get 30 = .ok (.iconst 0, 1) := by decide +kernel
theorem dX3_get_31 : decode cX3_get 31 = .ok (.ireturn, 1) := by decide +kernel
theorem dX3_set_0 : decode cX3_set 0 = .ok (.iload_n 1, 1) := by decide +kernel
theorem dX3_set_1 : decode cX3_set 1 = .ok (.ifCond .lt 27, 3) := by decide +kernel
theorem dX3_set_4 : decode cX3_set 4 = .ok (.iload_n 1, 1) := by decide +kernel
theorem dX3_set_5 : decode cX3_set 5 = .ok (.aload_n 0, 1) := by decide +kernel
theorem dX3_set_6 : decode cX3_set 6 = .ok (.getfield 9, 3) := by decide +kernel
theorem dX3_set_9 : decode cX3_set 9 = .ok (.if_icmp .ge 19, 3) := by decide +kernel
theorem dX3_set_12 : decode cX3_set 12 = .ok (.iload_n 1, 1) := by decide +kernel
theorem dX3_set_13 : decode cX3_set 13 = .ok (.aload_n 0, 1) := by decide +kernel
theorem dX3_set_14 : decode cX3_set 14 = .ok (.getfield 15, 3) := by decide +kernel
theorem dX3_set_17 : decode cX3_set 17 = .ok (.arraylength, 1) := by decide +kernel
theorem dX3_set_18 : decode cX3_set 18 = .ok (.if_icmp .ge 10, 3) := by decide +kernel
theorem dX3_set_21 : decode cX3_set 21 = .ok (.aload_n 0, 1) := by decide +kernel
theorem dX3_set_22 : decode cX3_set 22 = .ok (.getfield 15, 3) := by decide +kernel
theorem dX3_set_25 : decode cX3_set 25 = .ok (.iload_n 1, 1) := by decide +kernel
theorem dX3_set_26 : decode cX3_set 26 = .ok (.iload_n 2, 1) := by decide +kernel
theorem dX3_set_27 : decode cX3_set 27 = .ok (.iastore, 1) := by decide +kernel
theorem dX3_set_28 : decode cX3_set 28 = .ok (.return_, 1) := by decide +kernel
theorem dX3_add_0 : decode cX3_add 0 = .ok (.aload_n 0, 1) := by decide +kernel
theorem dX3_add_1 : decode cX3_add 1 = .ok (.getfield 9, 3) := by decide +kernel
theorem dX3_add_4 : decode cX3_add 4 = .ok (.ifCond .lt 15, 3) := by decide +kernel
theorem dX3_add_7 : decode cX3_add 7 = .ok (.aload_n 0, 1) := by decide +kernel
theorem dX3_add_8 : decode cX3_add 8 = .ok (.getfield 9, 3) := by decide +kernel
theorem dX3_add_11 : decode cX3_add 11 = .ok (.aload_n 0, 1) := by decide +kernel
theorem dX3_add_12 : decode cX3_add 12 = .ok (.getfield 15, 3) := by decide +kernel
theorem dX3_add_15 : decode cX3_add 15 = .ok (.arraylength, 1) := by decide +kernel
theorem dX3_add_16 : decode cX3_add 16 = .ok (.if_icmp .lt 5, 3) := by decide +kernel
theorem dX3_add_19 : decode cX3_add 19 = .ok (.iconst (-1), 1) := by decide +kernel
theorem dX3_add_20 : decode cX3_add 20 = .ok (.ireturn, 1) := by decide +kernel
theorem dX3_add_21 : decode cX3_add 21 = .ok (.aload_n 0, 1) := by decide +kernel
theorem dX3_add_22 : decode cX3_add 22 = .ok (.getfield 15, 3) := by decide +kernel
theorem dX3_add_25 : decode cX3_add 25 = .ok (.aload_n 0, 1) := by decide +kernel
theorem dX3_add_26 : decode cX3_add 26 = .ok (.getfield 9, 3) := by decide +kernel
theorem dX3_add_29 : decode cX3_add 29 = .ok (.iload_n 1, 1) := by decide +kernel
theorem dX3_add_30 : decode cX3_add 30 = .ok (.iastore, 1) := by decide +kernel
theorem dX3_add_31 : decode cX3_add 31 = .ok (.aload_n 0, 1) := by decide +kernel
theorem dX3_add_32 : decode cX3_add 32 = .ok (.dup, 1) := by decide +kernel
theorem dX3_add_33 : decode cX3_add 33 = .ok (.getfield 9, 3) := by decide +kernel
theorem dX3_add_36 : decode cX3_add 36 = .ok (.iconst 1, 1) := by decide +kernel
theorem dX3_add_37 : decode cX3_add 37 = .ok (.iadd, 1) := by decide +kernel
theorem dX3_add_38 : decode cX3_add 38 = .ok (.putfield 9, 3) := by decide +kernel
theorem dX3_add_41 : decode cX3_add 41 = .ok (.aload_n 0, 1) := by decide +kernel
theorem dX3_add_42 : decode cX3_add 42 = .ok (.getfield 9, 3) := by decide +kernel
theorem dX3_add_45 : decode cX3_add 45 = .ok (.iconst 1, 1) := by decide +kernel
theorem dX3_add_46 : decode cX3_add 46 = .ok (.isub, 1) := by decide +kernel
theorem dX3_add_47 : decode cX3_add 47 = .ok (.ireturn, 1) := by decide +kernel
theorem dX3_clear_0 : decode cX3_clear 0 = .ok (.aload_n 0, 1) := by decide +kernel
theorem dX3_clear_1 : decode cX3_clear 1 = .ok (.iconst 0, 1) := by decide +kernel
theorem dX3_clear_2 : decode cX3_clear 2 = .ok (.putfield 9, 3) := by decide +kernel
theorem dX3_clear_5 : decode cX3_clear 5 = .ok (.return_, 1) := by decide +kernel
theorem dX3_find_0 : decode cX3_find 0 = .ok (.iconst 0, 1) := by decide +kernel
theorem dX3_find_1 : decode cX3_find 1 = .ok (.istore_n 2, 1) := by decide +kernel
theorem dX3_find_2 : decode cX3_find 2 = .ok (.iload_n 2, 1) := by decide +kernel
theorem dX3_find_3 : decode cX3_find 3 = .ok (.aload_n 0, 1) := by decide +kernel
theorem dX3_find_4 : decode cX3_find 4 = .ok (.getfield 9, 3) := by decide +kernel
theorem dX3_find_7 : decode cX3_find 7 = .ok (.if_icmp .ge 20, 3) := by decide +kernel
theorem dX3_find_10 : decode cX3_find 10 = .ok (.aload_n 0, 1) := by decide +kernel
theorem dX3_find_11 : decode cX3_find 11 = .ok (.iload_n 2, 1) := by decide +kernel
theorem dX3_find_12 : decode cX3_find 12 = .ok (.invokevirtual 19, 3) := by decide +kernel
theorem dX3_find_15 : decode cX3_find 15 = .ok (.iload_n 1, 1) := by decide +kernel
theorem dX3_find_16 : decode cX3_find 16 = .ok (.if_icmp .ne 5, 3) := by decide +kernel
theorem dX3_find_19 : decode cX3_find 19 = .ok (.iload_n 2, 1) := by decide +kernel
theorem dX3_find_20 : decode cX3_find 20 = .ok (.ireturn, 1) := by decide +kernel
theorem dX3_find_21 : decode cX3_find 21 = .ok (.iinc 2 1, 3) := by decide +kernel
theorem dX3_find_24 : decode cX3_find 24 = .ok (.goto (-22), 3) := by decide +kernel
theorem dX3_find_27 : decode cX3_find 27 = .ok (.iconst (-1), 1) := by decide +kernel
theorem dX3_find_28 : decode cX3_find 28 = .ok (.ireturn, 1) := by decide +kernel
theorem dX3_sum_0 : decode cX3_sum 0 = .ok (.iconst 0, 1) := by decide +kernel
theorem dX3_sum_1 : decode cX3_sum 1 = .ok (.istore_n 1, 1) := by decide +kernel
theorem dX3_sum_2 : decode cX3_sum 2 = .ok (.iconst 0, 1) := by decide +kernel
theorem dX3_sum_3 : decode cX3_sum 3 = .ok (.istore_n 2, 1) := by decide +kernel
theorem dX3_sum_4 : decode cX3_sum 4 = .ok (.iload_n 2, 1) := by decide +kernel
theorem dX3_sum_5 : decode cX3_sum 5 = .ok (.aload_n 0, 1) := by decide +kernel
theorem dX3_sum_6 : decode cX3_sum 6 = .ok (.getfield 9, 3) := by decide +kernel
theorem dX3_sum_9 : decode cX3_sum 9 = .ok (.if_icmp .ge 17, 3) := by decide +kernel
theorem dX3_sum_12 : decode cX3_sum 12 = .ok (.iload_n 1, 1) := by decide +kernel
theorem dX3_sum_13 : decode cX3_sum 13 = .ok (.aload_n 0, 1) := by decide +kernel
theorem dX3_sum_14 : decode cX3_sum 14 = .ok (.iload_n 2, 1) := by decide +kernel
theorem dX3_sum_15 : decode cX3_sum 15 = .ok (.invokevirtual 19, 3) := by decide +kernel
theorem dX3_sum_18 : decode cX3_sum 18 = .ok (.iadd, 1) := by decide +kernel
theorem dX3_sum_19 : decode cX3_sum 19 = .ok (.istore_n 1, 1) := by decide +kernel
theorem dX3_sum_20 : decode cX3_sum 20 = .ok (.iinc 2 1, 3) := by decide +kernel
theorem dX3_sum_23 : decode cX3_sum 23 = .ok (.goto (-19), 3) := by decide +kernel
theorem dX3_sum_26 : decode cX3_sum 26 = .ok (.iload_n 1, 1) := by decide +kernel
theorem dX3_sum_27 : decode cX3_sum 27 = .ok (.ireturn, 1) := by decide +kernel
theorem dX3_copyFrom_0 : decode cX3_copyFrom 0 = .ok (.aload_n 1, 1) := by decide +kernel
theorem dX3_copyFrom_1 : decode cX3_copyFrom 1 = .ok (.getfield 15, 3) := by decide +kernel
theorem dX3_copyFrom_4 : decode cX3_copyFrom 4 = .ok (.iconst 0, 1) := by decide +kernel
theorem dX3_copyFrom_5 : decode cX3_copyFrom 5 = .ok (.aload_n 0, 1) := by decide +kernel
theorem dX3_copyFrom_6 : decode cX3_copyFrom 6 = .ok (.getfield 15, 3) := by decide +kernel
theorem dX3_copyFrom_9 : decode cX3_copyFrom 9 = .ok (.iconst 0, 1) := by decide +kernel
theorem dX3_copyFrom_10 : decode cX3_copyFrom 10 = .ok (.aload_n 0, 1) := by decide +kernel
theorem dX3_copyFrom_11 : decode cX3_copyFrom 11 = .ok (.getfield 15, 3) := by decide +kernel
theorem dX3_copyFrom_14 : decode cX3_copyFrom 14 = .ok (.arraylength, 1) := by decide +kernel
theorem dX3_copyFrom_15 : decode cX3_copyFrom 15 = .ok (.aload_n 1, 1) := by decide +kernel
theorem dX3_copyFrom_16 : decode cX3_copyFrom 16 = .ok (.getfield 15, 3) := by decide +kernel
theorem dX3_copyFrom_19 : decode cX3_copyFrom 19 = .ok (.arraylength, 1) := by decide +kernel
theorem dX3_copyFrom_20 : decode cX3_copyFrom 20 = .ok (.invokestatic 23, 3) := by decide +kernel
theorem dX3_copyFrom_23 : decode cX3_copyFrom 23 = .ok (.invokestatic 29, 3) := by decide +kernel
theorem dX3_copyFrom_26 : decode cX3_copyFrom 26 = .ok (.aload_n 0, 1) := by decide +kernel
theorem dX3_copyFrom_27 : decode cX3_copyFrom 27 = .ok (.aload_n 1, 1) := by decide +kernel
theorem dX3_copyFrom_28 : decode cX3_copyFrom 28 = .ok (.getfield 9, 3) := by decide +kernel
theorem dX3_copyFrom_31 : decode cX3_copyFrom 31 = .ok (.putfield 9, 3) := by decide +kernel
theorem dX3_copyFrom_34 : decode cX3_copyFrom 34 = .ok (.return_, 1) := by decide +kernel
theorem dX4_init_0 : decode cX4_init 0 = .ok (.aload_n 0, 1) := by decide +kernel
theorem dX4_init_1 : decode cX4_init 1 = .ok (.invokespecial 3, 3) := by decide +kernel
theorem dX4_init_4 : decode cX4_init 4 = .ok (.aload_n 0, 1) := by decide +kernel
theorem dX4_init_5 : decode cX4_init 5 = .ok (.new 9, 3) := by decide +kernel
theorem dX4_init_8 : decode cX4_init 8 = .ok (.dup, 1) := by decide +kernel
theorem dX4_init_9 : decode cX4_init 9 = .ok (.iconst 3, 1) := by decide +kernel
theorem dX4_init_10 : decode cX4_init 10 = .ok (.invokespecial 11, 3) := by decide +kernel
theorem dX4_init_13 : decode cX4_init 13 = .ok (.putfield 14, 3) := by decide +kernel
theorem dX4_init_16 : decode cX4_init 16 = .ok (.aload_n 0, 1) := by decide +kernel
theorem dX4_init_17 : decode cX4_init 17 = .ok (.bipush 60, 2) := by decide +kernel
theorem dX4_init_19 : decode cX4_init 19 = .ok (.newarray .char, 2) := by decide +kernel
theorem dX4_init_21 : decode cX4_init 21 = .ok (.putfield 20, 3) := by decide +kernel
theorem dX4_init_24 : decode cX4_init 24 = .ok (.aload_n 0, 1) := by decide +kernel
theorem dX4_init_25 : decode cX4_init 25 = .ok (.iconst 0, 1) := by decide +kernel
theorem dX4_init_26 : decode cX4_init 26 = .ok (.putfield 24, 3) := by decide +kernel
theorem dX4_init_29 : decode cX4_init 29 = .ok (.aload_n 0, 1) := by decide +kernel
theorem dX4_init_30 : decode cX4_init 30 = .ok (.iconst 0, 1) := by decide +kernel
theorem dX4_init_31 : decode cX4_init 31 = .ok (.putfield 28, 3) := by decide +kernel
theorem dX4_init_34 : decode cX4_init 34 = .ok (.aload_n 0, 1) := by decide +kernel
theorem dX4_init_35 : decode cX4_init 35 = .ok (.bipush 32, 2) := by decide +kernel
theorem dX4_init_37 : decode cX4_init 37 = .ok (.putfield 31, 3) := by decide +kernel
theorem dX4_init_40 : decode cX4_init 40 = .ok (.return_, 1) := by decide +kernel
theorem dX4_length_0 : decode cX4_length 0 = .ok (.aload_n 0, 1) := by decide +kernel
theorem dX4_length_1 : decode cX4_length 1 = .ok (.getfield 24, 3) := by decide +kernel
theorem dX4_length_4 : decode cX4_length 4 = .ok (.ireturn, 1) := by decide +kernel
theorem dX4_position_0 : decode cX4_position 0 = .ok (.aload_n 0, 1) := by decide +kernel
theorem dX4_position_1 : decode cX4_position 1 = .ok (.getfield 28, 3) := by decide +kernel
theorem dX4_position_4 : decode cX4_position 4 = .ok (.ireturn, 1) := by decide +kernel
theorem dX4_kind_0 : decode cX4_kind 0 = .ok (.aload_n 0, 1) := by decide +kernel
theorem dX4_kind_1 : decode cX4_kind 1 = .ok (.getfield 31, 3) := by decide +kernel
theorem dX4_kind_4 : decode cX4_kind 4 = .ok (.ireturn, 1) := by decide +kernel
theorem dX4_isFull_0 : decode cX4_isFull 0 = .ok (.aload_n 0, 1) := by decide +kernel
theorem dX4_isFull_1 : decode cX4_isFull 1 = .ok (.getfield 24, 3) := by decide +kernel
theorem dX4_isFull_4 : decode cX4_isFull 4 = .ok (.aload_n 0, 1) := by decide +kernel
theorem dX4_isFull_5 : decode cX4_isFull 5 = .ok (.getfield 20, 3) := by decide +kernel
theorem dX4_isFull_8 : decode cX4_isFull 8 = .ok (.arraylength, 1) := by decide +kernel
theorem dX4_isFull_9 : decode cX4_isFull 9 = .ok (.if_icmp .lt 7, 3) := by decide +kernel
theorem dX4_isFull_12 : decode cX4_isFull 12 = .ok (.iconst 1, 1) := by decide +kernel
theorem dX4_isFull_13 : decode cX4_isFull 13 = .ok (.goto 4, 3) := by decide +kernel
theorem dX4_isFull_16 : decode cX4_isFull 16 = .ok (.iconst 0, 1) := by decide +kernel
theorem dX4_isFull_17 : decode cX4_isFull 17 = .ok (.ireturn, 1) := by decide +kernel
theorem dX4_put_0 : decode cX4_put 0 = .ok (.aload_n 0, 1) := by decide +kernel
theorem dX4_put_1 : decode cX4_put 1 = .ok (.getfield 24, 3) := by decide +kernel
theorem dX4_put_4 : decode cX4_put 4 = .ok (.ifCond .lt 35, 3) := by decide +kernel
theorem dX4_put_7 : decode cX4_put 7 = .ok (.aload_n 0, 1) := by decide +kernel
theorem dX4_put_8 : decode cX4_put 8 = .ok (.getfield 24, 3) := by decide +kernel
theorem dX4_put_11 : decode cX4_put 11 = .ok (.aload_n 0, 1) := by decide +kernel
theorem dX4_put_12 : decode cX4_put 12 = .ok (.getfield 20, 3) := by decide +kernel
theorem dX4_put_15 : decode cX4_put 15 = .ok (.arraylength, 1) := by decide +kernel
theorem dX4_put_16 : decode cX4_put 16 = .ok (.if_icmp .ge 23, 3) := by decide +kernel
theorem dX4_put_19 : decode cX4_put 19 = .ok (.aload_n 0, 1) := by decide +kernel
theorem dX4_put_20 : decode cX4_put 20 = .ok (.getfield 20, 3) := by decide +kernel
theorem dX4_put_23 : decode cX4_put 23 = .ok (.aload_n 0, 1) := by decide +kernel
theorem dX4_put_24 : decode cX4_put 24 = .ok (.getfield 24, 3) := by decide +kernel
theorem dX4_put_27 : decode cX4_put 27 = .ok (.iload_n 1, 1) := by decide +kernel
theorem dX4_put_28 : decode cX4_put 28 = .ok (.castore, 1) := by decide +kernel
theorem dX4_put_29 : decode cX4_put 29 = .ok (.aload_n 0, 1) := by decide +kernel
theorem dX4_put_30 : decode cX4_put 30 = .ok (.dup, 1) := by decide +kernel
theorem dX4_put_31 : decode cX4_put 31 = .ok (.getfield 24, 3) := by decide +kernel
theorem dX4_put_34 : decode cX4_put 34 = .ok (.iconst 1, 1) := by decide +kernel
theorem dX4_put_35 : decode cX4_put 35 = .ok (.iadd, 1) := by decide +kernel
theorem dX4_put_36 : decode cX4_put 36 = .ok (.putfield 24, 3) := by decide +kernel
theorem dX4_put_39 : decode cX4_put 39 = .ok (.aload_n 0, 1) := by decide +kernel
theorem dX4_put_40 : decode cX4_put 40 = .ok (.getfield 24, 3) := by decide +kernel
theorem dX4_put_43 : decode cX4_put 43 = .ok (.ireturn, 1) := by decide +kernel
theorem dX4_clear_0 : decode cX4_clear 0 = .ok (.aload_n 0, 1) := by decide +kernel
theorem dX4_clear_1 : decode cX4_clear 1 = .ok (.iconst 0, 1) := by decide +kernel
theorem dX4_clear_2 : decode cX4_clear 2 = .ok (.putfield 24, 3) := by decide +kernel
theorem dX4_clear_5 : decode cX4_clear 5 = .ok (.return_, 1) := by decide +kernel
theorem dX4_rewind_0 : decode cX4_rewind 0 = .ok (.aload_n 0, 1) := by decide +kernel
theorem dX4_rewind_1 : decode cX4_rewind 1 = .ok (.iconst 0, 1) := by decide +kernel
theorem dX4_rewind_2 : decode cX4_rewind 2 = .ok (.putfield 28, 3) := by decide +kernel
theorem dX4_rewind_5 : decode cX4_rewind 5 = .ok (.return_, 1) := by decide +kernel
theorem dX4_countCommands_0 : decode cX4_countCommands 0 = .ok (.aload_n 0, 1) := by decide +kernel
theorem dX4_countCommands_1 : decode cX4_countCommands 1 = .ok (.invokevirtual 35, 3) := by decide +kernel
theorem dX4_countCommands_4 : decode cX4_countCommands 4 = .ok (.iconst 1, 1) := by decide +kernel
theorem dX4_countCommands_5 : decode cX4_countCommands 5 = .ok (.istore_n 1, 1) := by decide +kernel
theorem dX4_countCommands_6 : decode cX4_countCommands 6 = .ok (.iload_n 1, 1) := by decide +kernel
theorem dX4_countCommands_7 : decode cX4_countCommands 7 = .ok (.bipush 60, 2) := by decide +kernel
theorem dX4_countCommands_9 : decode cX4_countCommands 9 = .ok (.if_icmp .gt 42, 3) := by decide +kernel
theorem dX4_countCommands_12 : decode cX4_countCommands 12 = .ok (.aload_n 0, 1) := by decide +kernel
theorem dX4_countCommands_13 : decode cX4_countCommands 13 = .ok (.invokevirtual 38, 3) := by decide +kernel
theorem dX4_countCommands_16 : decode cX4_countCommands 16 = .ok (.ifCond .ne 5, 3) := by decide +kernel
theorem dX4_countCommands_19 : decode cX4_countCommands 19 = .ok (.iconst (-1), 1) := by decide +kernel
theorem dX4_countCommands_20 : decode cX4_countCommands 20 = .ok (.ireturn, 1) := by decide +kernel
theorem dX4_countCommands_21 : decode cX4_countCommands 21 = .ok (.aload_n 0, 1) := by decide +kernel
theorem dX4_countCommands_22 : decode cX4_countCommands 22 = .ok (.getfield 28, 3) := by decide +kernel
theorem dX4_countCommands_25 : decode cX4_countCommands 25 = .ok (.aload_n 0, 1) := by decide +kernel
theorem dX4_countCommands_26 : decode cX4_countCommands 26 = .ok (.getfield 24, 3) := by decide +kernel
theorem dX4_countCommands_29 : decode cX4_countCommands 29 = .ok (.if_icmp .lt 5, 3) := by decide +kernel
theorem dX4_countCommands_32 : decode cX4_countCommands 32 = .ok (.iload_n 1, 1) := by decide +kernel
theorem dX4_countCommands_33 : decode cX4_countCommands 33 = .ok (.ireturn, 1) := by decide +kernel
theorem dX4_countCommands_34 : decode cX4_countCommands 34 = .ok (.aload_n 0, 1) := by decide +kernel
theorem dX4_countCommands_35 : decode cX4_countCommands 35 = .ok (.bipush 59, 2) := by decide +kernel
theorem dX4_countCommands_37 : decode cX4_countCommands 37 = .ok (.invokevirtual 42, 3) := by decide +kernel
theorem dX4_countCommands_40 : decode cX4_countCommands 40 = .ok (.ifCond .ne 5, 3) := by decide +kernel
theorem dX4_countCommands_43 : decode cX4_countCommands 43 = .ok (.iconst (-1), 1) := by decide +kernel
theorem dX4_countCommands_44 : decode cX4_countCommands 44 = .ok (.ireturn, 1) := by decide +kernel
theorem dX4_countCommands_45 : decode cX4_countCommands 45 = .ok (.iinc 1 1, 3) := by decide +kernel
theorem dX4_countCommands_48 : decode cX4_countCommands 48 = .ok (.goto (-42), 3) := by decide +kernel
theorem dX4_countCommands_51 : decode cX4_countCommands 51 = .ok (.iconst (-1), 1) := by decide +kernel
theorem dX4_countCommands_52 : decode cX4_countCommands 52 = .ok (.ireturn, 1) := by decide +kernel
theorem dX4_readCommand_0 : decode cX4_readCommand 0 = .ok (.aload_n 0, 1) := by decide +kernel
theorem dX4_readCommand_1 : decode cX4_readCommand 1 = .ok (.getfield 14, 3) := by decide +kernel
theorem dX4_readCommand_4 : decode cX4_readCommand 4 = .ok (.invokevirtual 46, 3) := by decide +kernel
theorem dX4_readCommand_7 : decode cX4_readCommand 7 = .ok (.aload_n 0, 1) := by decide +kernel
theorem dX4_readCommand_8 : decode cX4_readCommand 8 = .ok (.aload_n 0, 1) := by decide +kernel
theorem dX4_readCommand_9 : decode cX4_readCommand 9 = .ok (.invokevirtual 49, 3) := by decide +kernel
theorem dX4_readCommand_12 : decode cX4_readCommand 12 = .ok (.putfield 31, 3) := by decide +kernel
theorem dX4_readCommand_15 : decode cX4_readCommand 15 = .ok (.aload_n 0, 1) := by decide +kernel
theorem dX4_readCommand_16 : decode cX4_readCommand 16 = .ok (.getfield 31, 3) := by decide +kernel
theorem dX4_readCommand_19 : decode cX4_readCommand 19 = .ok (.invokestatic 53, 3) := by decide +kernel
theorem dX4_readCommand_22 : decode cX4_readCommand 22 = .ok (.astore_n 1, 1) := by decide +kernel
theorem dX4_readCommand_23 : decode cX4_readCommand 23 = .ok (.iconst 0, 1) := by decide +kernel
theorem dX4_readCommand_24 : decode cX4_readCommand 24 = .ok (.istore_n 2, 1) := by decide +kernel
theorem dX4_readCommand_25 : decode cX4_readCommand 25 = .ok (.iload_n 2, 1) := by decide +kernel
theorem dX4_readCommand_26 : decode cX4_readCommand 26 = .ok (.aload_n 1, 1) := by decide +kernel
theorem dX4_readCommand_27 : decode cX4_readCommand 27 = .ok (.invokevirtual 57, 3) := by decide +kernel
theorem dX4_readCommand_30 : decode cX4_readCommand 30 = .ok (.if_icmp .ge 23, 3) := by decide +kernel
theorem dX4_readCommand_33 : decode cX4_readCommand 33 = .ok (.aload_n 0, 1) := by decide +kernel
theorem dX4_readCommand_34 : decode cX4_readCommand 34 = .ok (.aload_n 1, 1) := by decide +kernel
theorem dX4_readCommand_35 : decode cX4_readCommand 35 = .ok (.iload_n 2, 1) := by decide +kernel
theorem dX4_readCommand_36 : decode cX4_readCommand 36 = .ok (.invokevirtual 62, 3) := by decide +kernel
theorem dX4_readCommand_39 : decode cX4_readCommand 39 = .ok (.invokevirtual 66, 3) := by decide +kernel
theorem dX4_readCommand_42 : decode cX4_readCommand 42 = .ok (.ifCond .ne 5, 3) := by decide +kernel
theorem dX4_readCommand_45 : decode cX4_readCommand 45 = .ok (.iconst 0, 1) := by decide +kernel
theorem dX4_readCommand_46 : decode cX4_readCommand 46 = .ok (.ireturn, 1) := by decide +kernel
theorem dX4_readCommand_47 : decode cX4_readCommand 47 = .ok (.iinc 2 1, 3) := by decide +kernel
theorem dX4_readCommand_50 : decode cX4_readCommand 50 = .ok (.goto (-25), 3) := by decide +kernel
theorem dX4_readCommand_53 : decode cX4_readCommand 53 = .ok (.aload_n 1, 1) := by decide +kernel
theorem dX4_readCommand_54 : decode cX4_readCommand 54 = .ok (.invokevirtual 69, 3) := by decide +kernel
theorem dX4_readCommand_57 : decode cX4_readCommand 57 = .ok (.ifCond .ne 7, 3) := by decide +kernel
theorem dX4_readCommand_60 : decode cX4_readCommand 60 = .ok (.iconst 1, 1) := by decide +kernel
theorem dX4_readCommand_61 : decode cX4_readCommand 61 = .ok (.goto 4, 3) := by decide +kernel
theorem dX4_readCommand_64 : decode cX4_readCommand 64 = .ok (.iconst 0, 1) := by decide +kernel
theorem dX4_readCommand_65 : decode cX4_readCommand 65 = .ok (.ireturn, 1) := by decide +kernel
theorem dX4_formOf_0 : decode cX4_formOf 0 = .ok (.iload_n 0, 1) := by decide +kernel
theorem dX4_formOf_1 : decode cX4_formOf 1 = .ok (.tableswitch 124 98 119 #[109, 124, 118, 106, 124, 124, 124, 124, 124, 124, 115, 124, 124, 124, 124, 124, 124, 103, 112, 124, 124, 121], 103) := by decide +kernel
theorem dX4_formOf_104 : decode cX4_formOf 104 = .ok (.ldc 72, 2) := by decide +kernel
theorem dX4_formOf_106 : decode cX4_formOf 106 = .ok (.areturn, 1) := by decide +kernel
theorem dX4_formOf_107 : decode cX4_formOf 107 = .ok (.ldc 74, 2) := by decide +kernel
theorem dX4_formOf_109 : decode cX4_formOf 109 = .ok (.areturn, 1) := by decide +kernel
theorem dX4_formOf_110 : decode cX4_formOf 110 = .ok (.ldc 76, 2) := by decide +kernel
theorem dX4_formOf_112 : decode cX4_formOf 112 = .ok (.areturn, 1) := by decide +kernel
theorem dX4_formOf_113 : decode cX4_formOf 113 = .ok (.ldc 78, 2) := by decide +kernel
theorem dX4_formOf_115 : decode cX4_formOf 115 = .ok (.areturn, 1) := by decide +kernel
theorem dX4_formOf_116 : decode cX4_formOf 116 = .ok (.ldc 80, 2) := by decide +kernel
theorem dX4_formOf_118 : decode cX4_formOf 118 = .ok (.areturn, 1) := by decide +kernel
theorem dX4_formOf_119 : decode cX4_formOf 119 = .ok (.ldc 82, 2) := by decide +kernel
theorem dX4_formOf_121 : decode cX4_formOf 121 = .ok (.areturn, 1) := by decide +kernel
theorem dX4_formOf_122 : decode cX4_formOf 122 = .ok (.ldc 84, 2) := by decide +kernel
theorem dX4_formOf_124 : decode cX4_formOf 124 = .ok (.areturn, 1) := by decide +kernel
theorem dX4_formOf_125 : decode cX4_formOf 125 = .ok (.ldc 86, 2) := by decide +kernel
theorem dX4_formOf_127 : decode cX4_formOf 127 = .ok (.areturn, 1) := by decide +kernel
theorem dX4_readPart_0 : decode cX4_readPart 0 = .ok (.iload_n 1, 1) := by decide +kernel
theorem dX4_readPart_1 : decode cX4_readPart 1 = .ok (.bipush 49, 2) := by decide +kernel
theorem dX4_readPart_3 : decode cX4_readPart 3 = .ok (.if_icmp .eq 9, 3) := by decide +kernel
theorem dX4_readPart_6 : decode cX4_readPart 6 = .ok (.iload_n 1, 1) := by decide +kernel
theorem dX4_readPart_7 : decode cX4_readPart 7 = .ok (.bipush 50, 2) := by decide +kernel
theorem dX4_readPart_9 : decode cX4_readPart 9 = .ok (.if_icmp .ne 19, 3) := by decide +kernel
theorem dX4_readPart_12 : decode cX4_readPart 12 = .ok (.aload_n 0, 1) := by decide +kernel
theorem dX4_readPart_13 : decode cX4_readPart 13 = .ok (.iload_n 1, 1) := by decide +kernel
theorem dX4_readPart_14 : decode cX4_readPart 14 = .ok (.bipush 50, 2) := by decide +kernel
theorem dX4_readPart_16 : decode cX4_readPart 16 = .ok (.if_icmp .ne 7, 3) := by decide +kernel
theorem dX4_readPart_19 : decode cX4_readPart 19 = .ok (.iconst 1, 1) := by decide +kernel
theorem dX4_readPart_20 : decode cX4_readPart 20 = .ok (.goto 4, 3) := by decide +kernel
theorem dX4_readPart_23 : decode cX4_readPart 23 = .ok (.iconst 0, 1) := by decide +kernel
theorem dX4_readPart_24 : decode cX4_readPart 24 = .ok (.invokevirtual 88, 3) := by decide +kernel
theorem dX4_readPart_27 : decode cX4_readPart 27 = .ok (.ireturn, 1) := by decide +kernel
theorem dX4_readPart_28 : decode cX4_readPart 28 = .ok (.aload_n 0, 1) := by decide +kernel
theorem dX4_readPart_29 : decode cX4_readPart 29 = .ok (.iload_n 1, 1) := by decide +kernel
theorem dX4_readPart_30 : decode cX4_readPart 30 = .ok (.invokevirtual 42, 3) := by decide +kernel
theorem dX4_readPart_33 : decode cX4_readPart 33 = .ok (.ireturn, 1) := by decide +kernel
theorem dX4_readSign_0 : decode cX4_readSign 0 = .ok (.aload_n 0, 1) := by decide +kernel
theorem dX4_readSign_1 : decode cX4_readSign 1 = .ok (.invokevirtual 49, 3) := by decide +kernel
theorem dX4_readSign_4 : decode cX4_readSign 4 = .ok (.iload_n 1, 1) := by decide +kernel
theorem dX4_readSign_5 : decode cX4_readSign 5 = .ok (.if_icmp .eq 5, 3) := by decide +kernel
theorem dX4_readSign_8 : decode cX4_readSign 8 = .ok (.iconst 0, 1) := by decide +kernel
theorem dX4_readSign_9 : decode cX4_readSign 9 = .ok (.ireturn, 1) := by decide +kernel
theorem dX4_readSign_10 : decode cX4_readSign 10 = .ok (.aload_n 0, 1) := by decide +kernel
theorem dX4_readSign_11 : decode cX4_readSign 11 = .ok (.dup, 1) := by decide +kernel
theorem dX4_readSign_12 : decode cX4_readSign 12 = .ok (.getfield 28, 3) := by decide +kernel
theorem dX4_readSign_15 : decode cX4_readSign 15 = .ok (.iconst 1, 1) := by decide +kernel
theorem dX4_readSign_16 : decode cX4_readSign 16 = .ok (.iadd, 1) := by decide +kernel
theorem dX4_readSign_17 : decode cX4_readSign 17 = .ok (.putfield 28, 3) := by decide +kernel
theorem dX4_readSign_20 : decode cX4_readSign 20 = .ok (.iconst 1, 1) := by decide +kernel
theorem dX4_readSign_21 : decode cX4_readSign 21 = .ok (.ireturn, 1) := by decide +kernel
theorem dX4_readNumber_0 : decode cX4_readNumber 0 = .ok (.aload_n 0, 1) := by decide +kernel
theorem dX4_readNumber_1 : decode cX4_readNumber 1 = .ok (.invokevirtual 92, 3) := by decide +kernel
theorem dX4_readNumber_4 : decode cX4_readNumber 4 = .ok (.istore_n 2, 1) := by decide +kernel
theorem dX4_readNumber_5 : decode cX4_readNumber 5 = .ok (.iload_n 2, 1) := by decide +kernel
theorem dX4_readNumber_6 : decode cX4_readNumber 6 = .ok (.iconst (-1), 1) := by decide +kernel
theorem dX4_readNumber_7 : decode cX4_readNumber 7 = .ok (.if_icmp .ne 5, 3) := by decide +kernel
theorem dX4_readNumber_10 : decode cX4_readNumber 10 = .ok (.iconst 0, 1) := by decide +kernel
theorem dX4_readNumber_11 : decode cX4_readNumber 11 = .ok (.ireturn, 1) := by decide +kernel
theorem dX4_readNumber_12 : decode cX4_readNumber 12 = .ok (.iload_n 1, 1) := by decide +kernel
theorem dX4_readNumber_13 : decode cX4_readNumber 13 = .ok (.ifCond .eq 10, 3) := by decide +kernel
theorem dX4_readNumber_16 : decode cX4_readNumber 16 = .ok (.aload_n 0, 1) := by decide +kernel
theorem dX4_readNumber_17 : decode cX4_readNumber 17 = .ok (.invokevirtual 92, 3) := by decide +kernel
theorem dX4_readNumber_20 : decode cX4_readNumber 20 = .ok (.goto 4, 3) := by decide +kernel
theorem dX4_readNumber_23 : decode cX4_readNumber 23 = .ok (.iconst (-1), 1) := by decide +kernel
theorem dX4_readNumber_24 : decode cX4_readNumber 24 = .ok (.istore_n 3, 1) := by decide +kernel
theorem dX4_readNumber_25 : decode cX4_readNumber 25 = .ok (.aload_n 0, 1) := by decide +kernel
theorem dX4_readNumber_26 : decode cX4_readNumber 26 = .ok (.getfield 14, 3) := by decide +kernel
theorem dX4_readNumber_29 : decode cX4_readNumber 29 = .ok (.iload_n 3, 1) := by decide +kernel
theorem dX4_readNumber_30 : decode cX4_readNumber 30 = .ok (.iconst (-1), 1) := by decide +kernel
theorem dX4_readNumber_31 : decode cX4_readNumber 31 = .ok (.if_icmp .ne 7, 3) := by decide +kernel
theorem dX4_readNumber_34 : decode cX4_readNumber 34 = .ok (.iload_n 2, 1) := by decide +kernel
theorem dX4_readNumber_35 : decode cX4_readNumber 35 = .ok (.goto 9, 3) := by decide +kernel
theorem dX4_readNumber_38 : decode cX4_readNumber 38 = .ok (.iload_n 2, 1) := by decide +kernel
theorem dX4_readNumber_39 : decode cX4_readNumber 39 = .ok (.bipush 10, 2) := by decide +kernel
theorem dX4_readNumber_41 : decode cX4_readNumber 41 = .ok (.imul, 1) := by decide +kernel
theorem dX4_readNumber_42 : decode cX4_readNumber 42 = .ok (.iload_n 3, 1) := by decide +kernel
theorem dX4_readNumber_43 : decode cX4_readNumber 43 = .ok (.iadd, 1) := by decide +kernel
theorem dX4_readNumber_44 : decode cX4_readNumber 44 = .ok (.invokevirtual 95, 3) := by decide +kernel
theorem dX4_readNumber_47 : decode cX4_readNumber 47 = .ok (.pop, 1) := by decide +kernel
theorem dX4_readNumber_48 : decode cX4_readNumber 48 = .ok (.iconst 1, 1) := by decide +kernel
theorem dX4_readNumber_49 : decode cX4_readNumber 49 = .ok (.ireturn, 1) := by decide +kernel
theorem dX4_readDigit_0 : decode cX4_readDigit 0 = .ok (.aload_n 0, 1) := by decide +kernel
theorem dX4_readDigit_1 : decode cX4_readDigit 1 = .ok (.invokevirtual 49, 3) := by decide +kernel
theorem dX4_readDigit_4 : decode cX4_readDigit 4 = .ok (.istore_n 1, 1) := by decide +kernel
theorem dX4_readDigit_5 : decode cX4_readDigit 5 = .ok (.iload_n 1, 1) := by decide +kernel
theorem dX4_readDigit_6 : decode cX4_readDigit 6 = .ok (.bipush 48, 2) := by decide +kernel
theorem dX4_readDigit_8 : decode cX4_readDigit 8 = .ok (.if_icmp .lt 9, 3) := by decide +kernel
theorem dX4_readDigit_11 : decode cX4_readDigit 11 = .ok (.iload_n 1, 1) := by decide +kernel
theorem dX4_readDigit_12 : decode cX4_readDigit 12 = .ok (.bipush 57, 2) := by decide +kernel
theorem dX4_readDigit_14 : decode cX4_readDigit 14 = .ok (.if_icmp .le 5, 3) := by decide +kernel
theorem dX4_readDigit_17 : decode cX4_readDigit 17 = .ok (.iconst (-1), 1) := by decide +kernel
theorem dX4_readDigit_18 : decode cX4_readDigit 18 = .ok (.ireturn, 1) := by decide +kernel
theorem dX4_readDigit_19 : decode cX4_readDigit 19 = .ok (.aload_n 0, 1) := by decide +kernel
theorem dX4_readDigit_20 : decode cX4_readDigit 20 = .ok (.dup, 1) := by decide +kernel
theorem dX4_readDigit_21 : decode cX4_readDigit 21 = .ok (.getfield 28, 3) := by decide +kernel
theorem dX4_readDigit_24 : decode cX4_readDigit 24 = .ok (.iconst 1, 1) := by decide +kernel
theorem dX4_readDigit_25 : decode cX4_readDigit 25 = .ok (.iadd, 1) := by decide +kernel
theorem dX4_readDigit_26 : decode cX4_readDigit 26 = .ok (.putfield 28, 3) := by decide +kernel
theorem dX4_readDigit_29 : decode cX4_readDigit 29 = .ok (.iload_n 1, 1) := by decide +kernel
theorem dX4_readDigit_30 : decode cX4_readDigit 30 = .ok (.bipush 48, 2) := by decide +kernel
theorem dX4_readDigit_32 : decode cX4_readDigit 32 = .ok (.isub, 1) := by decide +kernel
theorem dX4_readDigit_33 : decode cX4_readDigit 33 = .ok (.ireturn, 1) := by decide +kernel
theorem dX4_signHere_0 : decode cX4_signHere 0 = .ok (.aload_n 0, 1) := by decide +kernel
theorem dX4_signHere_1 : decode cX4_signHere 1 = .ok (.getfield 28, 3) := by decide +kernel
theorem dX4_signHere_4 : decode cX4_signHere 4 = .ok (.ifCond .lt 38, 3) := by decide +kernel
theorem dX4_signHere_7 : decode cX4_signHere 7 = .ok (.aload_n 0, 1) := by decide +kernel
theorem dX4_signHere_8 : decode cX4_signHere 8 = .ok (.getfield 28, 3) := by decide +kernel
theorem dX4_signHere_11 : decode cX4_signHere 11 = .ok (.aload_n 0, 1) := by decide +kernel
theorem dX4_signHere_12 : decode cX4_signHere 12 = .ok (.getfield 24, 3) := by decide +kernel
theorem dX4_signHere_15 : decode cX4_signHere 15 = .ok (.if_icmp .ge 27, 3) := by decide +kernel
theorem dX4_signHere_18 : decode cX4_signHere 18 = .ok (.aload_n 0, 1) := by decide +kernel
theorem dX4_signHere_19 : decode cX4_signHere 19 = .ok (.getfield 28, 3) := by decide +kernel
theorem dX4_signHere_22 : decode cX4_signHere 22 = .ok (.aload_n 0, 1) := by decide +kernel
theorem dX4_signHere_23 : decode cX4_signHere 23 = .ok (.getfield 20, 3) := by decide +kernel
theorem dX4_signHere_26 : decode cX4_signHere 26 = .ok (.arraylength, 1) := by decide +kernel
theorem dX4_signHere_27 : decode cX4_signHere 27 = .ok (.if_icmp .ge 15, 3) := by decide +kernel
theorem dX4_signHere_30 : decode cX4_signHere 30 = .ok (.aload_n 0, 1) := by decide +kernel
theorem dX4_signHere_31 : decode cX4_signHere 31 = .ok (.getfield 20, 3) := by decide +kernel
theorem dX4_signHere_34 : decode cX4_signHere 34 = .ok (.aload_n 0, 1) := by decide +kernel
theorem dX4_signHere_35 : decode cX4_signHere 35 = .ok (.getfield 28, 3) := by decide +kernel
theorem dX4_signHere_38 : decode cX4_signHere 38 = .ok (.caload, 1) := by decide +kernel
theorem dX4_signHere_39 : decode cX4_signHere 39 = .ok (.goto 5, 3) := by decide +kernel
theorem dX4_signHere_42 : decode cX4_signHere 42 = .ok (.bipush 32, 2) := by decide +kernel
theorem dX4_signHere_44 : decode cX4_signHere 44 = .ok (.ireturn, 1) := by decide +kernel
theorem dX5_init_0 : decode cX5_init 0 = .ok (.aload_n 0, 1) := by decide +kernel
theorem dX5_init_1 : decode cX5_init 1 = .ok (.invokespecial 1, 3) := by decide +kernel
theorem dX5_init_4 : decode cX5_init 4 = .ok (.aload_n 0, 1) := by decide +kernel
theorem dX5_init_5 : decode cX5_init 5 = .ok (.new 7, 3) := by decide +kernel
theorem dX5_init_8 : decode cX5_init 8 = .ok (.dup, 1) := by decide +kernel
theorem dX5_init_9 : decode cX5_init 9 = .ok (.invokespecial 9, 3) := by decide +kernel
theorem dX5_init_12 : decode cX5_init 12 = .ok (.putfield 10, 3) := by decide +kernel
theorem dX5_init_15 : decode cX5_init 15 = .ok (.aload_n 0, 1) := by decide +kernel
theorem dX5_init_16 : decode cX5_init 16 = .ok (.new 7, 3) := by decide +kernel
theorem dX5_init_19 : decode cX5_init 19 = .ok (.dup, 1) := by decide +kernel
theorem dX5_init_20 : decode cX5_init 20 = .ok (.invokespecial 9, 3) := by decide +kernel
theorem dX5_init_23 : decode cX5_init 23 = .ok (.putfield 16, 3) := by decide +kernel
theorem dX5_init_26 : decode cX5_init 26 = .ok (.aload_n 0, 1) := by decide +kernel
theorem dX5_init_27 : decode cX5_init 27 = .ok (.new 7, 3) := by decide +kernel
theorem dX5_init_30 : decode cX5_init 30 = .ok (.dup, 1) := by decide +kernel
theorem dX5_init_31 : decode cX5_init 31 = .ok (.invokespecial 9, 3) := by decide +kernel
theorem dX5_init_34 : decode cX5_init 34 = .ok (.putfield 19, 3) := by decide +kernel
theorem dX5_init_37 : decode cX5_init 37 = .ok (.aload_n 0, 1) := by decide +kernel
theorem dX5_init_38 : decode cX5_init 38 = .ok (.new 22, 3) := by decide +kernel
theorem dX5_init_41 : decode cX5_init 41 = .ok (.dup, 1) := by decide +kernel
theorem dX5_init_42 : decode cX5_init 42 = .ok (.invokespecial 24, 3) := by decide +kernel
theorem dX5_init_45 : decode cX5_init 45 = .ok (.putfield 25, 3) := by decide +kernel
theorem dX5_init_48 : decode cX5_init 48 = .ok (.aload_n 0, 1) := by decide +kernel
theorem dX5_init_49 : decode cX5_init 49 = .ok (.new 29, 3) := by decide +kernel
theorem dX5_init_52 : decode cX5_init 52 = .ok (.dup, 1) := by decide +kernel
theorem dX5_init_53 : decode cX5_init 53 = .ok (.invokespecial 31, 3) := by decide +kernel
theorem dX5_init_56 : decode cX5_init 56 = .ok (.putfield 32, 3) := by decide +kernel
theorem dX5_init_59 : decode cX5_init 59 = .ok (.aload_n 0, 1) := by decide +kernel
theorem dX5_init_60 : decode cX5_init 60 = .ok (.new 36, 3) := by decide +kernel
theorem dX5_init_63 : decode cX5_init 63 = .ok (.dup, 1) := by decide +kernel
theorem dX5_init_64 : decode cX5_init 64 = .ok (.invokespecial 38, 3) := by decide +kernel
theorem dX5_init_67 : decode cX5_init 67 = .ok (.putfield 39, 3) := by decide +kernel
theorem dX5_init_70 : decode cX5_init 70 = .ok (.aload_n 0, 1) := by decide +kernel
theorem dX5_init_71 : decode cX5_init 71 = .ok (.iconst 0, 1) := by decide +kernel
theorem dX5_init_72 : decode cX5_init 72 = .ok (.putfield 43, 3) := by decide +kernel
theorem dX5_init_75 : decode cX5_init 75 = .ok (.aload_n 0, 1) := by decide +kernel
theorem dX5_init_76 : decode cX5_init 76 = .ok (.iconst (-1), 1) := by decide +kernel
theorem dX5_init_77 : decode cX5_init 77 = .ok (.putfield 47, 3) := by decide +kernel
theorem dX5_init_80 : decode cX5_init 80 = .ok (.aload_n 0, 1) := by decide +kernel
theorem dX5_init_81 : decode cX5_init 81 = .ok (.iconst 0, 1) := by decide +kernel
theorem dX5_init_82 : decode cX5_init 82 = .ok (.putfield 51, 3) := by decide +kernel
theorem dX5_init_85 : decode cX5_init 85 = .ok (.aload_n 0, 1) := by decide +kernel
theorem dX5_init_86 : decode cX5_init 86 = .ok (.iconst 0, 1) := by decide +kernel
theorem dX5_init_87 : decode cX5_init 87 = .ok (.putfield 54, 3) := by decide +kernel
theorem dX5_init_90 : decode cX5_init 90 = .ok (.aload_n 0, 1) := by decide +kernel
theorem dX5_init_91 : decode cX5_init 91 = .ok (.iconst 0, 1) := by decide +kernel
theorem dX5_init_92 : decode cX5_init 92 = .ok (.putfield 57, 3) := by decide +kernel
theorem dX5_init_95 : decode cX5_init 95 = .ok (.aload_n 0, 1) := by decide +kernel
theorem dX5_init_96 : decode cX5_init 96 = .ok (.iconst 0, 1) := by decide +kernel
theorem dX5_init_97 : decode cX5_init 97 = .ok (.putfield 60, 3) := by decide +kernel
theorem dX5_init_100 : decode cX5_init 100 = .ok (.return_, 1) := by decide +kernel
theorem dX5_stake_0 : decode cX5_stake 0 = .ok (.aload_n 0, 1) := by decide +kernel
theorem dX5_stake_1 : decode cX5_stake 1 = .ok (.invokevirtual 63, 3) := by decide +kernel
theorem dX5_stake_4 : decode cX5_stake 4 = .ok (.aload_n 0, 1) := by decide +kernel
theorem dX5_stake_5 : decode cX5_stake 5 = .ok (.aload_n 0, 1) := by decide +kernel
theorem dX5_stake_6 : decode cX5_stake 6 = .ok (.iload_n 1, 1) := by decide +kernel
theorem dX5_stake_7 : decode cX5_stake 7 = .ok (.invokevirtual 66, 3) := by decide +kernel
theorem dX5_stake_10 : decode cX5_stake 10 = .ok (.invokevirtual 70, 3) := by decide +kernel
theorem dX5_stake_13 : decode cX5_stake 13 = .ok (.ireturn, 1) := by decide +kernel
theorem dX5_post_0 : decode cX5_post 0 = .ok (.aload_n 0, 1) := by decide +kernel
theorem dX5_post_1 : decode cX5_post 1 = .ok (.invokevirtual 63, 3) := by decide +kernel
theorem dX5_post_4 : decode cX5_post 4 = .ok (.aload_n 0, 1) := by decide +kernel
theorem dX5_post_5 : decode cX5_post 5 = .ok (.aload_n 0, 1) := by decide +kernel
theorem dX5_post_6 : decode cX5_post 6 = .ok (.iload_n 1, 1) := by decide +kernel
theorem dX5_post_7 : decode cX5_post 7 = .ok (.iload_n 2, 1) := by decide +kernel
theorem dX5_post_8 : decode cX5_post 8 = .ok (.invokevirtual 73, 3) := by decide +kernel
theorem dX5_post_11 : decode cX5_post 11 = .ok (.invokevirtual 70, 3) := by decide +kernel
theorem dX5_post_14 : decode cX5_post 14 = .ok (.ireturn, 1) := by decide +kernel
theorem dX5_sheet_0 : decode cX5_sheet 0 = .ok (.aload_n 0, 1) := by decide +kernel
theorem dX5_sheet_1 : decode cX5_sheet 1 = .ok (.invokevirtual 63, 3) := by decide +kernel
theorem dX5_sheet_4 : decode cX5_sheet 4 = .ok (.aload_n 0, 1) := by decide +kernel
theorem dX5_sheet_5 : decode cX5_sheet 5 = .ok (.aload_n 0, 1) := by decide +kernel
theorem dX5_sheet_6 : decode cX5_sheet 6 = .ok (.invokevirtual 77, 3) := by decide +kernel
theorem dX5_sheet_9 : decode cX5_sheet 9 = .ok (.invokevirtual 70, 3) := by decide +kernel
theorem dX5_sheet_12 : decode cX5_sheet 12 = .ok (.ireturn, 1) := by decide +kernel
theorem dX5_heat_0 : decode cX5_heat 0 = .ok (.aload_n 0, 1) := by decide +kernel
theorem dX5_heat_1 : decode cX5_heat 1 = .ok (.invokevirtual 63, 3) := by decide +kernel
theorem dX5_heat_4 : decode cX5_heat 4 = .ok (.aload_n 0, 1) := by decide +kernel
theorem dX5_heat_5 : decode cX5_heat 5 = .ok (.aload_n 0, 1) := by decide +kernel
theorem dX5_heat_6 : decode cX5_heat 6 = .ok (.iload_n 1, 1) := by decide +kernel
theorem dX5_heat_7 : decode cX5_heat 7 = .ok (.invokevirtual 81, 3) := by decide +kernel
theorem dX5_heat_10 : decode cX5_heat 10 = .ok (.invokevirtual 70, 3) := by decide +kernel
theorem dX5_heat_13 : decode cX5_heat 13 = .ok (.ireturn, 1) := by decide +kernel
theorem dX5_sight_0 : decode cX5_sight 0 = .ok (.aload_n 0, 1) := by decide +kernel
theorem dX5_sight_1 : decode cX5_sight 1 = .ok (.invokevirtual 63, 3) := by decide +kernel
theorem dX5_sight_4 : decode cX5_sight 4 = .ok (.aload_n 0, 1) := by decide +kernel
theorem dX5_sight_5 : decode cX5_sight 5 = .ok (.aload_n 0, 1) := by decide +kernel
theorem dX5_sight_6 : decode cX5_sight 6 = .ok (.iload_n 1, 1) := by decide +kernel
theorem dX5_sight_7 : decode cX5_sight 7 = .ok (.iload_n 2, 1) := by decide +kernel
theorem dX5_sight_8 : decode cX5_sight 8 = .ok (.iload_n 3, 1) := by decide +kernel
theorem dX5_sight_9 : decode cX5_sight 9 = .ok (.invokevirtual 84, 3) := by decide +kernel
theorem dX5_sight_12 : decode cX5_sight 12 = .ok (.invokevirtual 70, 3) := by decide +kernel
theorem dX5_sight_15 : decode cX5_sight 15 = .ok (.ireturn, 1) := by decide +kernel
theorem dX5_erase_0 : decode cX5_erase 0 = .ok (.aload_n 0, 1) := by decide +kernel
theorem dX5_erase_1 : decode cX5_erase 1 = .ok (.invokevirtual 63, 3) := by decide +kernel
theorem dX5_erase_4 : decode cX5_erase 4 = .ok (.aload_n 0, 1) := by decide +kernel
theorem dX5_erase_5 : decode cX5_erase 5 = .ok (.aload_n 0, 1) := by decide +kernel
theorem dX5_erase_6 : decode cX5_erase 6 = .ok (.iload_n 1, 1) := by decide +kernel
theorem dX5_erase_7 : decode cX5_erase 7 = .ok (.iload_n 2, 1) := by decide +kernel
theorem dX5_erase_8 : decode cX5_erase 8 = .ok (.invokevirtual 88, 3) := by decide +kernel
theorem dX5_erase_11 : decode cX5_erase 11 = .ok (.invokevirtual 70, 3) := by decide +kernel
theorem dX5_erase_14 : decode cX5_erase 14 = .ok (.ireturn, 1) := by decide +kernel
theorem dX5_camel_0 : decode cX5_camel 0 = .ok (.aload_n 0, 1) := by decide +kernel
theorem dX5_camel_1 : decode cX5_camel 1 = .ok (.invokevirtual 63, 3) := by decide +kernel
theorem dX5_camel_4 : decode cX5_camel 4 = .ok (.aload_n 0, 1) := by decide +kernel
theorem dX5_camel_5 : decode cX5_camel 5 = .ok (.aload_n 0, 1) := by decide +kernel
theorem dX5_camel_6 : decode cX5_camel 6 = .ok (.iload_n 1, 1) := by decide +kernel
theorem dX5_camel_7 : decode cX5_camel 7 = .ok (.invokevirtual 91, 3) := by decide +kernel
theorem dX5_camel_10 : decode cX5_camel 10 = .ok (.invokevirtual 70, 3) := by decide +kernel
theorem dX5_camel_13 : decode cX5_camel 13 = .ok (.ireturn, 1) := by decide +kernel
theorem dX5_bell_0 : decode cX5_bell 0 = .ok (.aload_n 0, 1) := by decide +kernel
theorem dX5_bell_1 : decode cX5_bell 1 = .ok (.invokevirtual 63, 3) := by decide +kernel
theorem dX5_bell_4 : decode cX5_bell 4 = .ok (.aload_n 0, 1) := by decide +kernel
theorem dX5_bell_5 : decode cX5_bell 5 = .ok (.aload_n 0, 1) := by decide +kernel
theorem dX5_bell_6 : decode cX5_bell 6 = .ok (.iload_n 1, 1) := by decide +kernel
theorem dX5_bell_7 : decode cX5_bell 7 = .ok (.invokevirtual 94, 3) := by decide +kernel
theorem dX5_bell_10 : decode cX5_bell 10 = .ok (.invokevirtual 70, 3) := by decide +kernel
theorem dX5_bell_13 : decode cX5_bell 13 = .ok (.ireturn, 1) := by decide +kernel
theorem dX5_tie_0 : decode cX5_tie 0 = .ok (.aload_n 0, 1) := by decide +kernel
theorem dX5_tie_1 : decode cX5_tie 1 = .ok (.invokevirtual 63, 3) := by decide +kernel
theorem dX5_tie_4 : decode cX5_tie 4 = .ok (.aload_n 0, 1) := by decide +kernel
theorem dX5_tie_5 : decode cX5_tie 5 = .ok (.aload_n 0, 1) := by decide +kernel
theorem dX5_tie_6 : decode cX5_tie 6 = .ok (.iload_n 1, 1) := by decide +kernel
theorem dX5_tie_7 : decode cX5_tie 7 = .ok (.invokevirtual 97, 3) := by decide +kernel
theorem dX5_tie_10 : decode cX5_tie 10 = .ok (.invokevirtual 70, 3) := by decide +kernel
theorem dX5_tie_13 : decode cX5_tie 13 = .ok (.ireturn, 1) := by decide +kernel
theorem dX5_loose_0 : decode cX5_loose 0 = .ok (.aload_n 0, 1) := by decide +kernel
theorem dX5_loose_1 : decode cX5_loose 1 = .ok (.invokevirtual 63, 3) := by decide +kernel
theorem dX5_loose_4 : decode cX5_loose 4 = .ok (.aload_n 0, 1) := by decide +kernel
theorem dX5_loose_5 : decode cX5_loose 5 = .ok (.aload_n 0, 1) := by decide +kernel
theorem dX5_loose_6 : decode cX5_loose 6 = .ok (.iload_n 1, 1) := by decide +kernel
theorem dX5_loose_7 : decode cX5_loose 7 = .ok (.invokevirtual 100, 3) := by decide +kernel
theorem dX5_loose_10 : decode cX5_loose 10 = .ok (.invokevirtual 70, 3) := by decide +kernel
theorem dX5_loose_13 : decode cX5_loose 13 = .ok (.ireturn, 1) := by decide +kernel
theorem dX5_drink_0 : decode cX5_drink 0 = .ok (.aload_n 0, 1) := by decide +kernel
theorem dX5_drink_1 : decode cX5_drink 1 = .ok (.invokevirtual 63, 3) := by decide +kernel
theorem dX5_drink_4 : decode cX5_drink 4 = .ok (.aload_n 0, 1) := by decide +kernel
theorem dX5_drink_5 : decode cX5_drink 5 = .ok (.aload_n 0, 1) := by decide +kernel
theorem dX5_drink_6 : decode cX5_drink 6 = .ok (.iload_n 1, 1) := by decide +kernel
theorem dX5_drink_7 : decode cX5_drink 7 = .ok (.invokevirtual 103, 3) := by decide +kernel
theorem dX5_drink_10 : decode cX5_drink 10 = .ok (.invokevirtual 70, 3) := by decide +kernel
theorem dX5_drink_13 : decode cX5_drink 13 = .ok (.ireturn, 1) := by decide +kernel
theorem dX5_water_0 : decode cX5_water 0 = .ok (.aload_n 0, 1) := by decide +kernel
theorem dX5_water_1 : decode cX5_water 1 = .ok (.invokevirtual 63, 3) := by decide +kernel
theorem dX5_water_4 : decode cX5_water 4 = .ok (.aload_n 0, 1) := by decide +kernel
theorem dX5_water_5 : decode cX5_water 5 = .ok (.aload_n 0, 1) := by decide +kernel
theorem dX5_water_6 : decode cX5_water 6 = .ok (.iload_n 1, 1) := by decide +kernel
theorem dX5_water_7 : decode cX5_water 7 = .ok (.invokevirtual 106, 3) := by decide +kernel
theorem dX5_water_10 : decode cX5_water 10 = .ok (.invokevirtual 70, 3) := by decide +kernel
theorem dX5_water_13 : decode cX5_water 13 = .ok (.ireturn, 1) := by decide +kernel
theorem dX5_hours_0 : decode cX5_hours 0 = .ok (.aload_n 0, 1) := by decide +kernel
theorem dX5_hours_1 : decode cX5_hours 1 = .ok (.invokevirtual 63, 3) := by decide +kernel
theorem dX5_hours_4 : decode cX5_hours 4 = .ok (.aload_n 0, 1) := by decide +kernel
theorem dX5_hours_5 : decode cX5_hours 5 = .ok (.aload_n 0, 1) := by decide +kernel
theorem dX5_hours_6 : decode cX5_hours 6 = .ok (.iload_n 1, 1) := by decide +kernel
theorem dX5_hours_7 : decode cX5_hours 7 = .ok (.invokevirtual 109, 3) := by decide +kernel
theorem dX5_hours_10 : decode cX5_hours 10 = .ok (.invokevirtual 70, 3) := by decide +kernel
theorem dX5_hours_13 : decode cX5_hours 13 = .ok (.ireturn, 1) := by decide +kernel
theorem dX5_stakeAt_0 : decode cX5_stakeAt 0 = .ok (.aload_n 0, 1) := by decide +kernel
theorem dX5_stakeAt_1 : decode cX5_stakeAt 1 = .ok (.iload_n 1, 1) := by decide +kernel
theorem dX5_stakeAt_2 : decode cX5_stakeAt 2 = .ok (.invokevirtual 112, 3) := by decide +kernel
theorem dX5_stakeAt_5 : decode cX5_stakeAt 5 = .ok (.aload_n 0, 1) := by decide +kernel
theorem dX5_stakeAt_6 : decode cX5_stakeAt 6 = .ok (.getfield 10, 3) := by decide +kernel
theorem dX5_stakeAt_9 : decode cX5_stakeAt 9 = .ok (.getfield 116, 3) := by decide +kernel
theorem dX5_stakeAt_12 : decode cX5_stakeAt 12 = .ok (.iload_n 1, 1) := by decide +kernel
theorem dX5_stakeAt_13 : decode cX5_stakeAt 13 = .ok (.invokevirtual 120, 3) := by decide +kernel
theorem dX5_stakeAt_16 : decode cX5_stakeAt 16 = .ok (.ireturn, 1) := by decide +kernel
theorem dX5_postOf_0 : decode cX5_postOf 0 = .ok (.aload_n 0, 1) := by decide +kernel
theorem dX5_postOf_1 : decode cX5_postOf 1 = .ok (.iload_n 1, 1) := by decide +kernel
theorem dX5_postOf_2 : decode cX5_postOf 2 = .ok (.invokevirtual 125, 3) := by decide +kernel
theorem dX5_postOf_5 : decode cX5_postOf 5 = .ok (.iload_n 2, 1) := by decide +kernel
theorem dX5_postOf_6 : decode cX5_postOf 6 = .ok (.ifCond .eq 17, 3) := by decide +kernel
theorem dX5_postOf_9 : decode cX5_postOf 9 = .ok (.aload_n 0, 1) := by decide +kernel
theorem dX5_postOf_10 : decode cX5_postOf 10 = .ok (.getfield 10, 3) := by decide +kernel
theorem dX5_postOf_13 : decode cX5_postOf 13 = .ok (.getfield 128, 3) := by decide +kernel
theorem dX5_postOf_16 : decode cX5_postOf 16 = .ok (.iload_n 1, 1) := by decide +kernel
theorem dX5_postOf_17 : decode cX5_postOf 17 = .ok (.invokevirtual 120, 3) := by decide +kernel
theorem dX5_postOf_20 : decode cX5_postOf 20 = .ok (.goto 14, 3) := by decide +kernel
theorem dX5_postOf_23 : decode cX5_postOf 23 = .ok (.aload_n 0, 1) := by decide +kernel
theorem dX5_postOf_24 : decode cX5_postOf 24 = .ok (.getfield 10, 3) := by decide +kernel
theorem dX5_postOf_27 : decode cX5_postOf 27 = .ok (.getfield 131, 3) := by decide +kernel
theorem dX5_postOf_30 : decode cX5_postOf 30 = .ok (.iload_n 1, 1) := by decide +kernel
theorem dX5_postOf_31 : decode cX5_postOf 31 = .ok (.invokevirtual 120, 3) := by decide +kernel
theorem dX5_postOf_34 : decode cX5_postOf 34 = .ok (.ireturn, 1) := by decide +kernel
theorem dX5_camelOf_0 : decode cX5_camelOf 0 = .ok (.aload_n 0, 1) := by decide +kernel
theorem dX5_camelOf_1 : decode cX5_camelOf 1 = .ok (.iload_n 1, 1) := by decide +kernel
theorem dX5_camelOf_2 : decode cX5_camelOf 2 = .ok (.invokevirtual 134, 3) := by decide +kernel
theorem dX5_camelOf_5 : decode cX5_camelOf 5 = .ok (.iload_n 2, 1) := by decide +kernel
theorem dX5_camelOf_6 : decode cX5_camelOf 6 = .ok (.tableswitch 99 0 4 #[34, 46, 58, 70, 87], 34) := by decide +kernel
theorem dX5_camelOf_40 : decode cX5_camelOf 40 = .ok (.aload_n 0, 1) := by decide +kernel
theorem dX5_camelOf_41 : decode cX5_camelOf 41 = .ok (.getfield 10, 3) := by decide +kernel
theorem dX5_camelOf_44 : decode cX5_camelOf 44 = .ok (.getfield 137, 3) := by decide +kernel
theorem dX5_camelOf_47 : decode cX5_camelOf 47 = .ok (.iload_n 1, 1) := by decide +kernel
theorem dX5_camelOf_48 : decode cX5_camelOf 48 = .ok (.invokevirtual 120, 3) := by decide +kernel
theorem dX5_camelOf_51 : decode cX5_camelOf 51 = .ok (.ireturn, 1) := by decide +kernel
theorem dX5_camelOf_52 : decode cX5_camelOf 52 = .ok (.aload_n 0, 1) := by decide +kernel
theorem dX5_camelOf_53 : decode cX5_camelOf 53 = .ok (.getfield 10, 3) := by decide +kernel
theorem dX5_camelOf_56 : decode cX5_camelOf 56 = .ok (.getfield 140, 3) := by decide +kernel
theorem dX5_camelOf_59 : decode cX5_camelOf 59 = .ok (.iload_n 1, 1) := by decide +kernel
theorem dX5_camelOf_60 : decode cX5_camelOf 60 = .ok (.invokevirtual 120, 3) := by decide +kernel
theorem dX5_camelOf_63 : decode cX5_camelOf 63 = .ok (.ireturn, 1) := by decide +kernel
theorem dX5_camelOf_64 : decode cX5_camelOf 64 = .ok (.aload_n 0, 1) := by decide +kernel
theorem dX5_camelOf_65 : decode cX5_camelOf 65 = .ok (.getfield 10, 3) := by decide +kernel
theorem dX5_camelOf_68 : decode cX5_camelOf 68 = .ok (.getfield 143, 3) := by decide +kernel
theorem dX5_camelOf_71 : decode cX5_camelOf 71 = .ok (.iload_n 1, 1) := by decide +kernel
theorem dX5_camelOf_72 : decode cX5_camelOf 72 = .ok (.invokevirtual 120, 3) := by decide +kernel
theorem dX5_camelOf_75 : decode cX5_camelOf 75 = .ok (.ireturn, 1) := by decide +kernel
theorem dX5_camelOf_76 : decode cX5_camelOf 76 = .ok (.aload_n 0, 1) := by decide +kernel
theorem dX5_camelOf_77 : decode cX5_camelOf 77 = .ok (.getfield 10, 3) := by decide +kernel
theorem dX5_camelOf_80 : decode cX5_camelOf 80 = .ok (.iload_n 1, 1) := by decide +kernel
theorem dX5_camelOf_81 : decode cX5_camelOf 81 = .ok (.invokevirtual 146, 3) := by decide +kernel
theorem dX5_camelOf_84 : decode cX5_camelOf 84 = .ok (.ifCond .eq 7, 3) := by decide +kernel
theorem dX5_camelOf_87 : decode cX5_camelOf 87 = .ok (.iconst 1, 1) := by decide +kernel
theorem dX5_camelOf_88 : decode cX5_camelOf 88 = .ok (.goto 4, 3) := by decide +kernel
theorem dX5_camelOf_91 : decode cX5_camelOf 91 = .ok (.iconst 0, 1) := by decide +kernel
theorem dX5_camelOf_92 : decode cX5_camelOf 92 = .ok (.ireturn, 1) := by decide +kernel
theorem dX5_camelOf_93 : decode cX5_camelOf 93 = .ok (.aload_n 0, 1) := by decide +kernel
theorem dX5_camelOf_94 : decode cX5_camelOf 94 = .ok (.getfield 10, 3) := by decide +kernel
theorem dX5_camelOf_97 : decode cX5_camelOf 97 = .ok (.getfield 150, 3) := by decide +kernel
theorem dX5_camelOf_100 : decode cX5_camelOf 100 = .ok (.iload_n 1, 1) := by decide +kernel
theorem dX5_camelOf_101 : decode cX5_camelOf 101 = .ok (.invokevirtual 120, 3) := by decide +kernel
theorem dX5_camelOf_104 : decode cX5_camelOf 104 = .ok (.ireturn, 1) := by decide +kernel
theorem dX5_camelOf_105 : decode cX5_camelOf 105 = .ok (.new 153, 3) := by decide +kernel
theorem dX5_camelOf_108 : decode cX5_camelOf 108 = .ok (.dup, 1) := by decide +kernel
theorem dX5_camelOf_109 : decode cX5_camelOf 109 = .ok (.ldc 155, 2) := by decide +kernel
theorem dX5_camelOf_111 : decode cX5_camelOf 111 = .ok (.invokespecial 157, 3) := by decide +kernel
theorem dX5_camelOf_114 : decode cX5_camelOf 114 = .ok (.athrow, 1) := by decide +kernel
theorem dX5_drawnAt_0 : decode cX5_drawnAt 0 = .ok (.aload_n 0, 1) := by decide +kernel
theorem dX5_drawnAt_1 : decode cX5_drawnAt 1 = .ok (.iload_n 1, 1) := by decide +kernel
theorem dX5_drawnAt_2 : decode cX5_drawnAt 2 = .ok (.invokevirtual 112, 3) := by decide +kernel
theorem dX5_drawnAt_5 : decode cX5_drawnAt 5 = .ok (.aload_n 0, 1) := by decide +kernel
theorem dX5_drawnAt_6 : decode cX5_drawnAt 6 = .ok (.iload_n 2, 1) := by decide +kernel
theorem dX5_drawnAt_7 : decode cX5_drawnAt 7 = .ok (.invokevirtual 160, 3) := by decide +kernel
theorem dX5_drawnAt_10 : decode cX5_drawnAt 10 = .ok (.aload_n 0, 1) := by decide +kernel
theorem dX5_drawnAt_11 : decode cX5_drawnAt 11 = .ok (.getfield 10, 3) := by decide +kernel
theorem dX5_drawnAt_14 : decode cX5_drawnAt 14 = .ok (.iload_n 1, 1) := by decide +kernel
theorem dX5_drawnAt_15 : decode cX5_drawnAt 15 = .ok (.iload_n 2, 1) := by decide +kernel
theorem dX5_drawnAt_16 : decode cX5_drawnAt 16 = .ok (.invokevirtual 163, 3) := by decide +kernel
theorem dX5_drawnAt_19 : decode cX5_drawnAt 19 = .ok (.istore_n 3, 1) := by decide +kernel
theorem dX5_drawnAt_20 : decode cX5_drawnAt 20 = .ok (.iload_n 3, 1) := by decide +kernel
theorem dX5_drawnAt_21 : decode cX5_drawnAt 21 = .ok (.iconst (-1), 1) := by decide +kernel
theorem dX5_drawnAt_22 : decode cX5_drawnAt 22 = .ok (.if_icmp .ne 13, 3) := by decide +kernel
theorem dX5_drawnAt_25 : decode cX5_drawnAt 25 = .ok (.new 166, 3) := by decide +kernel
theorem dX5_drawnAt_28 : decode cX5_drawnAt 28 = .ok (.dup, 1) := by decide +kernel
theorem dX5_drawnAt_29 : decode cX5_drawnAt 29 = .ok (.ldc 168, 2) := by decide +kernel
theorem dX5_drawnAt_31 : decode cX5_drawnAt 31 = .ok (.invokespecial 170, 3) := by decide +kernel
theorem dX5_drawnAt_34 : decode cX5_drawnAt 34 = .ok (.athrow, 1) := by decide +kernel
theorem dX5_drawnAt_35 : decode cX5_drawnAt 35 = .ok (.iload_n 3, 1) := by decide +kernel
theorem dX5_drawnAt_36 : decode cX5_drawnAt 36 = .ok (.ireturn, 1) := by decide +kernel
theorem dX5_wrongBy_0 : decode cX5_wrongBy 0 = .ok (.aload_n 0, 1) := by decide +kernel
theorem dX5_wrongBy_1 : decode cX5_wrongBy 1 = .ok (.iload_n 1, 1) := by decide +kernel
theorem dX5_wrongBy_2 : decode cX5_wrongBy 2 = .ok (.invokevirtual 160, 3) := by decide +kernel
theorem dX5_wrongBy_5 : decode cX5_wrongBy 5 = .ok (.iconst 0, 1) := by decide +kernel
theorem dX5_wrongBy_6 : decode cX5_wrongBy 6 = .ok (.istore_n 2, 1) := by decide +kernel
theorem dX5_wrongBy_7 : decode cX5_wrongBy 7 = .ok (.iconst 0, 1) := by decide +kernel
theorem dX5_wrongBy_8 : decode cX5_wrongBy 8 = .ok (.istore_n 3, 1) := by decide +kernel
theorem dX5_wrongBy_9 : decode cX5_wrongBy 9 = .ok (.iload_n 3, 1) := by decide +kernel
theorem dX5_wrongBy_10 : decode cX5_wrongBy 10 = .ok (.aload_n 0, 1) := by decide +kernel
theorem dX5_wrongBy_11 : decode cX5_wrongBy 11 = .ok (.getfield 10, 3) := by decide +kernel
theorem dX5_wrongBy_14 : decode cX5_wrongBy 14 = .ok (.getfield 116, 3) := by decide +kernel
theorem dX5_wrongBy_17 : decode cX5_wrongBy 17 = .ok (.invokevirtual 171, 3) := by decide +kernel
theorem dX5_wrongBy_20 : decode cX5_wrongBy 20 = .ok (.if_icmp .ge 50, 3) := by decide +kernel
theorem dX5_wrongBy_23 : decode cX5_wrongBy 23 = .ok (.aload_n 0, 1) := by decide +kernel
theorem dX5_wrongBy_24 : decode cX5_wrongBy 24 = .ok (.getfield 10, 3) := by decide +kernel
theorem dX5_wrongBy_27 : decode cX5_wrongBy 27 = .ok (.iload_n 3, 1) := by decide +kernel
theorem dX5_wrongBy_28 : decode cX5_wrongBy 28 = .ok (.iload_n 1, 1) := by decide +kernel
theorem dX5_wrongBy_29 : decode cX5_wrongBy 29 = .ok (.invokevirtual 163, 3) := by decide +kernel
theorem dX5_wrongBy_32 : decode cX5_wrongBy 32 = .ok (.istore 4, 2) := by decide +kernel
theorem dX5_wrongBy_34 : decode cX5_wrongBy 34 = .ok (.iload_n 2, 1) := by decide +kernel
theorem dX5_wrongBy_35 : decode cX5_wrongBy 35 = .ok (.iload 4, 2) := by decide +kernel
theorem dX5_wrongBy_37 : decode cX5_wrongBy 37 = .ok (.iconst (-1), 1) := by decide +kernel
theorem dX5_wrongBy_38 : decode cX5_wrongBy 38 = .ok (.if_icmp .ne 7, 3) := by decide +kernel
theorem dX5_wrongBy_41 : decode cX5_wrongBy 41 = .ok (.iconst 0, 1) := by decide +kernel
theorem dX5_wrongBy_42 : decode cX5_wrongBy 42 = .ok (.goto 20, 3) := by decide +kernel
theorem dX5_wrongBy_45 : decode cX5_wrongBy 45 = .ok (.iload 4, 2) := by decide +kernel
theorem dX5_wrongBy_47 : decode cX5_wrongBy 47 = .ok (.aload_n 0, 1) := by decide +kernel
theorem dX5_wrongBy_48 : decode cX5_wrongBy 48 = .ok (.getfield 10, 3) := by decide +kernel
theorem dX5_wrongBy_51 : decode cX5_wrongBy 51 = .ok (.getfield 116, 3) := by decide +kernel
theorem dX5_wrongBy_54 : decode cX5_wrongBy 54 = .ok (.iload_n 3, 1) := by decide +kernel
theorem dX5_wrongBy_55 : decode cX5_wrongBy 55 = .ok (.invokevirtual 120, 3) := by decide +kernel
theorem dX5_wrongBy_58 : decode cX5_wrongBy 58 = .ok (.isub, 1) := by decide +kernel
theorem dX5_wrongBy_59 : decode cX5_wrongBy 59 = .ok (.invokestatic 174, 3) := by decide +kernel
theorem dX5_wrongBy_62 : decode cX5_wrongBy 62 = .ok (.iadd, 1) := by decide +kernel
theorem dX5_wrongBy_63 : decode cX5_wrongBy 63 = .ok (.istore_n 2, 1) := by decide +kernel
theorem dX5_wrongBy_64 : decode cX5_wrongBy 64 = .ok (.iinc 3 1, 3) := by decide +kernel
theorem dX5_wrongBy_67 : decode cX5_wrongBy 67 = .ok (.goto (-58), 3) := by decide +kernel
theorem dX5_wrongBy_70 : decode cX5_wrongBy 70 = .ok (.iload_n 2, 1) := by decide +kernel
theorem dX5_wrongBy_71 : decode cX5_wrongBy 71 = .ok (.ireturn, 1) := by decide +kernel
theorem dX5_seems_0 : decode cX5_seems 0 = .ok (.aload_n 0, 1) := by decide +kernel
theorem dX5_seems_1 : decode cX5_seems 1 = .ok (.iload_n 1, 1) := by decide +kernel
theorem dX5_seems_2 : decode cX5_seems 2 = .ok (.invokevirtual 112, 3) := by decide +kernel
theorem dX5_seems_5 : decode cX5_seems 5 = .ok (.aload_n 0, 1) := by decide +kernel
theorem dX5_seems_6 : decode cX5_seems 6 = .ok (.iload_n 2, 1) := by decide +kernel
theorem dX5_seems_7 : decode cX5_seems 7 = .ok (.invokevirtual 125, 3) := by decide +kernel
theorem dX5_seems_10 : decode cX5_seems 10 = .ok (.aload_n 0, 1) := by decide +kernel
theorem dX5_seems_11 : decode cX5_seems 11 = .ok (.getfield 10, 3) := by decide +kernel
theorem dX5_seems_14 : decode cX5_seems 14 = .ok (.iload_n 1, 1) := by decide +kernel
theorem dX5_seems_15 : decode cX5_seems 15 = .ok (.iload_n 2, 1) := by decide +kernel
theorem dX5_seems_16 : decode cX5_seems 16 = .ok (.invokevirtual 179, 3) := by decide +kernel
theorem dX5_seems_19 : decode cX5_seems 19 = .ok (.ireturn, 1) := by decide +kernel
theorem dX5_seemsAgain_0 : decode cX5_seemsAgain 0 = .ok (.aload_n 0, 1) := by decide +kernel
theorem dX5_seemsAgain_1 : decode cX5_seemsAgain 1 = .ok (.iload_n 1, 1) := by decide +kernel
theorem dX5_seemsAgain_2 : decode cX5_seemsAgain 2 = .ok (.invokevirtual 112, 3) := by decide +kernel
theorem dX5_seemsAgain_5 : decode cX5_seemsAgain 5 = .ok (.aload_n 0, 1) := by decide +kernel
theorem dX5_seemsAgain_6 : decode cX5_seemsAgain 6 = .ok (.iload_n 2, 1) := by decide +kernel
theorem dX5_seemsAgain_7 : decode cX5_seemsAgain 7 = .ok (.invokevirtual 125, 3) := by decide +kernel
theorem dX5_seemsAgain_10 : decode cX5_seemsAgain 10 = .ok (.aload_n 0, 1) := by decide +kernel
theorem dX5_seemsAgain_11 : decode cX5_seemsAgain 11 = .ok (.getfield 10, 3) := by decide +kernel
theorem dX5_seemsAgain_14 : decode cX5_seemsAgain 14 = .ok (.iload_n 1, 1) := by decide +kernel
theorem dX5_seemsAgain_15 : decode cX5_seemsAgain 15 = .ok (.iload_n 2, 1) := by decide +kernel
theorem dX5_seemsAgain_16 : decode cX5_seemsAgain 16 = .ok (.invokevirtual 182, 3) := by decide +kernel
theorem dX5_seemsAgain_19 : decode cX5_seemsAgain 19 = .ok (.ireturn, 1) := by decide +kernel
theorem dX5_shimmers_0 : decode cX5_shimmers 0 = .ok (.aload_n 0, 1) := by decide +kernel
theorem dX5_shimmers_1 : decode cX5_shimmers 1 = .ok (.iload_n 1, 1) := by decide +kernel
theorem dX5_shimmers_2 : decode cX5_shimmers 2 = .ok (.invokevirtual 112, 3) := by decide +kernel
theorem dX5_shimmers_5 : decode cX5_shimmers 5 = .ok (.aload_n 0, 1) := by decide +kernel
theorem dX5_shimmers_6 : decode cX5_shimmers 6 = .ok (.iload_n 2, 1) := by decide +kernel
theorem dX5_shimmers_7 : decode cX5_shimmers 7 = .ok (.invokevirtual 125, 3) := by decide +kernel
theorem dX5_shimmers_10 : decode cX5_shimmers 10 = .ok (.aload_n 0, 1) := by decide +kernel
theorem dX5_shimmers_11 : decode cX5_shimmers 11 = .ok (.getfield 10, 3) := by decide +kernel
theorem dX5_shimmers_14 : decode cX5_shimmers 14 = .ok (.iload_n 1, 1) := by decide +kernel
theorem dX5_shimmers_15 : decode cX5_shimmers 15 = .ok (.iload_n 2, 1) := by decide +kernel
theorem dX5_shimmers_16 : decode cX5_shimmers 16 = .ok (.aload_n 0, 1) := by decide +kernel
theorem dX5_shimmers_17 : decode cX5_shimmers 17 = .ok (.getfield 10, 3) := by decide +kernel
theorem dX5_shimmers_20 : decode cX5_shimmers 20 = .ok (.invokevirtual 185, 3) := by decide +kernel
theorem dX5_shimmers_23 : decode cX5_shimmers 23 = .ok (.invokevirtual 188, 3) := by decide +kernel
theorem dX5_shimmers_26 : decode cX5_shimmers 26 = .ok (.ireturn, 1) := by decide +kernel
theorem dX5_bestPost_0 : decode cX5_bestPost 0 = .ok (.aload_n 0, 1) := by decide +kernel
theorem dX5_bestPost_1 : decode cX5_bestPost 1 = .ok (.iload_n 1, 1) := by decide +kernel
theorem dX5_bestPost_2 : decode cX5_bestPost 2 = .ok (.invokevirtual 112, 3) := by decide +kernel
theorem dX5_bestPost_5 : decode cX5_bestPost 5 = .ok (.aload_n 0, 1) := by decide +kernel
theorem dX5_bestPost_6 : decode cX5_bestPost 6 = .ok (.getfield 10, 3) := by decide +kernel
theorem dX5_bestPost_9 : decode cX5_bestPost 9 = .ok (.iload_n 1, 1) := by decide +kernel
theorem dX5_bestPost_10 : decode cX5_bestPost 10 = .ok (.invokevirtual 192, 3) := by decide +kernel
theorem dX5_bestPost_13 : decode cX5_bestPost 13 = .ok (.istore_n 2, 1) := by decide +kernel
theorem dX5_bestPost_14 : decode cX5_bestPost 14 = .ok (.iload_n 2, 1) := by decide +kernel
theorem dX5_bestPost_15 : decode cX5_bestPost 15 = .ok (.iconst (-1), 1) := by decide +kernel
theorem dX5_bestPost_16 : decode cX5_bestPost 16 = .ok (.if_icmp .ne 13, 3) := by decide +kernel
theorem dX5_bestPost_19 : decode cX5_bestPost 19 = .ok (.new 166, 3) := by decide +kernel
theorem dX5_bestPost_22 : decode cX5_bestPost 22 = .ok (.dup, 1) := by decide +kernel
theorem dX5_bestPost_23 : decode cX5_bestPost 23 = .ok (.ldc 195, 2) := by decide +kernel
theorem dX5_bestPost_25 : decode cX5_bestPost 25 = .ok (.invokespecial 170, 3) := by decide +kernel
theorem dX5_bestPost_28 : decode cX5_bestPost 28 = .ok (.athrow, 1) := by decide +kernel
theorem dX5_bestPost_29 : decode cX5_bestPost 29 = .ok (.iload_n 2, 1) := by decide +kernel
theorem dX5_bestPost_30 : decode cX5_bestPost 30 = .ok (.ireturn, 1) := by decide +kernel
theorem dX5_clearIn_0 : decode cX5_clearIn 0 = .ok (.aload_n 0, 1) := by decide +kernel
theorem dX5_clearIn_1 : decode cX5_clearIn 1 = .ok (.iload_n 1, 1) := by decide +kernel
theorem dX5_clearIn_2 : decode cX5_clearIn 2 = .ok (.invokevirtual 112, 3) := by decide +kernel
theorem dX5_clearIn_5 : decode cX5_clearIn 5 = .ok (.aload_n 0, 1) := by decide +kernel
theorem dX5_clearIn_6 : decode cX5_clearIn 6 = .ok (.iload_n 2, 1) := by decide +kernel
theorem dX5_clearIn_7 : decode cX5_clearIn 7 = .ok (.invokevirtual 125, 3) := by decide +kernel
theorem dX5_clearIn_10 : decode cX5_clearIn 10 = .ok (.aload_n 0, 1) := by decide +kernel
theorem dX5_clearIn_11 : decode cX5_clearIn 11 = .ok (.getfield 10, 3) := by decide +kernel
theorem dX5_clearIn_14 : decode cX5_clearIn 14 = .ok (.iload_n 1, 1) := by decide +kernel
theorem dX5_clearIn_15 : decode cX5_clearIn 15 = .ok (.iload_n 2, 1) := by decide +kernel
theorem dX5_clearIn_16 : decode cX5_clearIn 16 = .ok (.invokevirtual 197, 3) := by decide +kernel
theorem dX5_clearIn_19 : decode cX5_clearIn 19 = .ok (.istore_n 3, 1) := by decide +kernel
theorem dX5_clearIn_20 : decode cX5_clearIn 20 = .ok (.iload_n 3, 1) := by decide +kernel
theorem dX5_clearIn_21 : decode cX5_clearIn 21 = .ok (.iconst (-1), 1) := by decide +kernel
theorem dX5_clearIn_22 : decode cX5_clearIn 22 = .ok (.if_icmp .ne 13, 3) := by decide +kernel
theorem dX5_clearIn_25 : decode cX5_clearIn 25 = .ok (.new 166, 3) := by decide +kernel
theorem dX5_clearIn_28 : decode cX5_clearIn 28 = .ok (.dup, 1) := by decide +kernel
theorem dX5_clearIn_29 : decode cX5_clearIn 29 = .ok (.ldc 200, 2) := by decide +kernel
theorem dX5_clearIn_31 : decode cX5_clearIn 31 = .ok (.invokespecial 170, 3) := by decide +kernel
theorem dX5_clearIn_34 : decode cX5_clearIn 34 = .ok (.athrow, 1) := by decide +kernel
theorem dX5_clearIn_35 : decode cX5_clearIn 35 = .ok (.iload_n 3, 1) := by decide +kernel
theorem dX5_clearIn_36 : decode cX5_clearIn 36 = .ok (.ireturn, 1) := by decide +kernel
theorem dX5_heatIn_0 : decode cX5_heatIn 0 = .ok (.iload_n 1, 1) := by decide +kernel
theorem dX5_heatIn_1 : decode cX5_heatIn 1 = .ok (.ifCond .lt 9, 3) := by decide +kernel
theorem dX5_heatIn_4 : decode cX5_heatIn 4 = .ok (.iload_n 1, 1) := by decide +kernel
theorem dX5_heatIn_5 : decode cX5_heatIn 5 = .ok (.bipush 48, 2) := by decide +kernel
theorem dX5_heatIn_7 : decode cX5_heatIn 7 = .ok (.if_icmp .lt 13, 3) := by decide +kernel
theorem dX5_heatIn_10 : decode cX5_heatIn 10 = .ok (.new 153, 3) := by decide +kernel
theorem dX5_heatIn_13 : decode cX5_heatIn 13 = .ok (.dup, 1) := by decide +kernel
theorem dX5_heatIn_14 : decode cX5_heatIn 14 = .ok (.ldc 202, 2) := by decide +kernel
theorem dX5_heatIn_16 : decode cX5_heatIn 16 = .ok (.invokespecial 157, 3) := by decide +kernel
theorem dX5_heatIn_19 : decode cX5_heatIn 19 = .ok (.athrow, 1) := by decide +kernel
theorem dX5_heatIn_20 : decode cX5_heatIn 20 = .ok (.aload_n 0, 1) := by decide +kernel
theorem dX5_heatIn_21 : decode cX5_heatIn 21 = .ok (.getfield 10, 3) := by decide +kernel
theorem dX5_heatIn_24 : decode cX5_heatIn 24 = .ok (.aload_n 0, 1) := by decide +kernel
theorem dX5_heatIn_25 : decode cX5_heatIn 25 = .ok (.getfield 10, 3) := by decide +kernel
theorem dX5_heatIn_28 : decode cX5_heatIn 28 = .ok (.getfield 204, 3) := by decide +kernel
theorem dX5_heatIn_31 : decode cX5_heatIn 31 = .ok (.iload_n 1, 1) := by decide +kernel
theorem dX5_heatIn_32 : decode cX5_heatIn 32 = .ok (.iadd, 1) := by decide +kernel
theorem dX5_heatIn_33 : decode cX5_heatIn 33 = .ok (.invokevirtual 207, 3) := by decide +kernel
theorem dX5_heatIn_36 : decode cX5_heatIn 36 = .ok (.ireturn, 1) := by decide +kernel
theorem dX5_lostIn_0 : decode cX5_lostIn 0 = .ok (.aload_n 0, 1) := by decide +kernel
theorem dX5_lostIn_1 : decode cX5_lostIn 1 = .ok (.iload_n 1, 1) := by decide +kernel
theorem dX5_lostIn_2 : decode cX5_lostIn 2 = .ok (.invokevirtual 134, 3) := by decide +kernel
theorem dX5_lostIn_5 : decode cX5_lostIn 5 = .ok (.aload_n 0, 1) := by decide +kernel
theorem dX5_lostIn_6 : decode cX5_lostIn 6 = .ok (.getfield 10, 3) := by decide +kernel
theorem dX5_lostIn_9 : decode cX5_lostIn 9 = .ok (.iload_n 1, 1) := by decide +kernel
theorem dX5_lostIn_10 : decode cX5_lostIn 10 = .ok (.invokevirtual 210, 3) := by decide +kernel
theorem dX5_lostIn_13 : decode cX5_lostIn 13 = .ok (.istore_n 2, 1) := by decide +kernel
theorem dX5_lostIn_14 : decode cX5_lostIn 14 = .ok (.iload_n 2, 1) := by decide +kernel
theorem dX5_lostIn_15 : decode cX5_lostIn 15 = .ok (.iconst (-1), 1) := by decide +kernel
theorem dX5_lostIn_16 : decode cX5_lostIn 16 = .ok (.if_icmp .ne 13, 3) := by decide +kernel
theorem dX5_lostIn_19 : decode cX5_lostIn 19 = .ok (.new 166, 3) := by decide +kernel
theorem dX5_lostIn_22 : decode cX5_lostIn 22 = .ok (.dup, 1) := by decide +kernel
theorem dX5_lostIn_23 : decode cX5_lostIn 23 = .ok (.ldc 213, 2) := by decide +kernel
theorem dX5_lostIn_25 : decode cX5_lostIn 25 = .ok (.invokespecial 170, 3) := by decide +kernel
theorem dX5_lostIn_28 : decode cX5_lostIn 28 = .ok (.athrow, 1) := by decide +kernel
theorem dX5_lostIn_29 : decode cX5_lostIn 29 = .ok (.iload_n 2, 1) := by decide +kernel
theorem dX5_lostIn_30 : decode cX5_lostIn 30 = .ok (.ireturn, 1) := by decide +kernel
theorem dX5_nearest_0 : decode cX5_nearest 0 = .ok (.iload_n 1, 1) := by decide +kernel
theorem dX5_nearest_1 : decode cX5_nearest 1 = .ok (.invokestatic 215, 3) := by decide +kernel
theorem dX5_nearest_4 : decode cX5_nearest 4 = .ok (.ifCond .ne 13, 3) := by decide +kernel
theorem dX5_nearest_7 : decode cX5_nearest 7 = .ok (.new 153, 3) := by decide +kernel
theorem dX5_nearest_10 : decode cX5_nearest 10 = .ok (.dup, 1) := by decide +kernel
theorem dX5_nearest_11 : decode cX5_nearest 11 = .ok (.ldc 218, 2) := by decide +kernel
theorem dX5_nearest_13 : decode cX5_nearest 13 = .ok (.invokespecial 157, 3) := by decide +kernel
theorem dX5_nearest_16 : decode cX5_nearest 16 = .ok (.athrow, 1) := by decide +kernel
theorem dX5_nearest_17 : decode cX5_nearest 17 = .ok (.aload_n 0, 1) := by decide +kernel
theorem dX5_nearest_18 : decode cX5_nearest 18 = .ok (.getfield 10, 3) := by decide +kernel
theorem dX5_nearest_21 : decode cX5_nearest 21 = .ok (.iload_n 1, 1) := by decide +kernel
theorem dX5_nearest_22 : decode cX5_nearest 22 = .ok (.invokevirtual 220, 3) := by decide +kernel
theorem dX5_nearest_25 : decode cX5_nearest 25 = .ok (.istore_n 2, 1) := by decide +kernel
theorem dX5_nearest_26 : decode cX5_nearest 26 = .ok (.iload_n 2, 1) := by decide +kernel
theorem dX5_nearest_27 : decode cX5_nearest 27 = .ok (.iconst (-1), 1) := by decide +kernel
theorem dX5_nearest_28 : decode cX5_nearest 28 = .ok (.if_icmp .ne 13, 3) := by decide +kernel
theorem dX5_nearest_31 : decode cX5_nearest 31 = .ok (.new 166, 3) := by decide +kernel
theorem dX5_nearest_34 : decode cX5_nearest 34 = .ok (.dup, 1) := by decide +kernel
theorem dX5_nearest_35 : decode cX5_nearest 35 = .ok (.ldc 223, 2) := by decide +kernel
theorem dX5_nearest_37 : decode cX5_nearest 37 = .ok (.invokespecial 170, 3) := by decide +kernel
theorem dX5_nearest_40 : decode cX5_nearest 40 = .ok (.athrow, 1) := by decide +kernel
theorem dX5_nearest_41 : decode cX5_nearest 41 = .ok (.iload_n 2, 1) := by decide +kernel
theorem dX5_nearest_42 : decode cX5_nearest 42 = .ok (.ireturn, 1) := by decide +kernel
theorem dX5_append_0 : decode cX5_append 0 = .ok (.aload_n 0, 1) := by decide +kernel
theorem dX5_append_1 : decode cX5_append 1 = .ok (.getfield 32, 3) := by decide +kernel
theorem dX5_append_4 : decode cX5_append 4 = .ok (.invokevirtual 225, 3) := by decide +kernel
theorem dX5_append_7 : decode cX5_append 7 = .ok (.ifCond .eq 13, 3) := by decide +kernel
theorem dX5_append_10 : decode cX5_append 10 = .ok (.new 229, 3) := by decide +kernel
theorem dX5_append_13 : decode cX5_append 13 = .ok (.dup, 1) := by decide +kernel
theorem dX5_append_14 : decode cX5_append 14 = .ok (.ldc 231, 2) := by decide +kernel
theorem dX5_append_16 : decode cX5_append 16 = .ok (.invokespecial 233, 3) := by decide +kernel
theorem dX5_append_19 : decode cX5_append 19 = .ok (.athrow, 1) := by decide +kernel
theorem dX5_append_20 : decode cX5_append 20 = .ok (.aload_n 0, 1) := by decide +kernel
theorem dX5_append_21 : decode cX5_append 21 = .ok (.getfield 32, 3) := by decide +kernel
theorem dX5_append_24 : decode cX5_append 24 = .ok (.iload_n 1, 1) := by decide +kernel
theorem dX5_append_25 : decode cX5_append 25 = .ok (.invokevirtual 234, 3) := by decide +kernel
theorem dX5_append_28 : decode cX5_append 28 = .ok (.ireturn, 1) := by decide +kernel
theorem dX5_commands_0 : decode cX5_commands 0 = .ok (.aload_n 0, 1) := by decide +kernel
theorem dX5_commands_1 : decode cX5_commands 1 = .ok (.getfield 32, 3) := by decide +kernel
theorem dX5_commands_4 : decode cX5_commands 4 = .ok (.invokevirtual 238, 3) := by decide +kernel
theorem dX5_commands_7 : decode cX5_commands 7 = .ok (.istore_n 1, 1) := by decide +kernel
theorem dX5_commands_8 : decode cX5_commands 8 = .ok (.aload_n 0, 1) := by decide +kernel
theorem dX5_commands_9 : decode cX5_commands 9 = .ok (.iload_n 1, 1) := by decide +kernel
theorem dX5_commands_10 : decode cX5_commands 10 = .ok (.iconst (-1), 1) := by decide +kernel
theorem dX5_commands_11 : decode cX5_commands 11 = .ok (.if_icmp .ne 13, 3) := by decide +kernel
theorem dX5_commands_14 : decode cX5_commands 14 = .ok (.aload_n 0, 1) := by decide +kernel
theorem dX5_commands_15 : decode cX5_commands 15 = .ok (.getfield 32, 3) := by decide +kernel
theorem dX5_commands_18 : decode cX5_commands 18 = .ok (.invokevirtual 241, 3) := by decide +kernel
theorem dX5_commands_21 : decode cX5_commands 21 = .ok (.goto 4, 3) := by decide +kernel
theorem dX5_commands_24 : decode cX5_commands 24 = .ok (.iconst (-1), 1) := by decide +kernel
theorem dX5_commands_25 : decode cX5_commands 25 = .ok (.putfield 47, 3) := by decide +kernel
theorem dX5_commands_28 : decode cX5_commands 28 = .ok (.iload_n 1, 1) := by decide +kernel
theorem dX5_commands_29 : decode cX5_commands 29 = .ok (.iconst (-1), 1) := by decide +kernel
theorem dX5_commands_30 : decode cX5_commands 30 = .ok (.if_icmp .ne 20, 3) := by decide +kernel
theorem dX5_commands_33 : decode cX5_commands 33 = .ok (.aload_n 0, 1) := by decide +kernel
theorem dX5_commands_34 : decode cX5_commands 34 = .ok (.getfield 32, 3) := by decide +kernel
theorem dX5_commands_37 : decode cX5_commands 37 = .ok (.invokevirtual 244, 3) := by decide +kernel
theorem dX5_commands_40 : decode cX5_commands 40 = .ok (.new 153, 3) := by decide +kernel
theorem dX5_commands_43 : decode cX5_commands 43 = .ok (.dup, 1) := by decide +kernel
theorem dX5_commands_44 : decode cX5_commands 44 = .ok (.ldc 247, 2) := by decide +kernel
theorem dX5_commands_46 : decode cX5_commands 46 = .ok (.invokespecial 157, 3) := by decide +kernel
theorem dX5_commands_49 : decode cX5_commands 49 = .ok (.athrow, 1) := by decide +kernel
theorem dX5_commands_50 : decode cX5_commands 50 = .ok (.aload_n 0, 1) := by decide +kernel
theorem dX5_commands_51 : decode cX5_commands 51 = .ok (.invokevirtual 63, 3) := by decide +kernel
theorem dX5_commands_54 : decode cX5_commands 54 = .ok (.aload_n 0, 1) := by decide +kernel
theorem dX5_commands_55 : decode cX5_commands 55 = .ok (.getfield 32, 3) := by decide +kernel
theorem dX5_commands_58 : decode cX5_commands 58 = .ok (.invokevirtual 249, 3) := by decide +kernel
theorem dX5_commands_61 : decode cX5_commands 61 = .ok (.iload_n 1, 1) := by decide +kernel
theorem dX5_commands_62 : decode cX5_commands 62 = .ok (.istore_n 2, 1) := by decide +kernel
theorem dX5_commands_63 : decode cX5_commands 63 = .ok (.iconst 0, 1) := by decide +kernel
theorem dX5_commands_64 : decode cX5_commands 64 = .ok (.istore_n 3, 1) := by decide +kernel
theorem dX5_commands_65 : decode cX5_commands 65 = .ok (.iload_n 3, 1) := by decide +kernel
theorem dX5_commands_66 : decode cX5_commands 66 = .ok (.iload_n 1, 1) := by decide +kernel
theorem dX5_commands_67 : decode cX5_commands 67 = .ok (.if_icmp .ge 65, 3) := by decide +kernel
theorem dX5_commands_70 : decode cX5_commands 70 = .ok (.iload_n 2, 1) := by decide +kernel
theorem dX5_commands_71 : decode cX5_commands 71 = .ok (.iconst (-1), 1) := by decide +kernel
theorem dX5_commands_72 : decode cX5_commands 72 = .ok (.if_icmp .eq 60, 3) := by decide +kernel
theorem dX5_commands_75 : decode cX5_commands 75 = .ok (.aload_n 0, 1) := by decide +kernel
theorem dX5_commands_76 : decode cX5_commands 76 = .ok (.iload_n 3, 1) := by decide +kernel
theorem dX5_commands_77 : decode cX5_commands 77 = .ok (.putfield 51, 3) := by decide +kernel
theorem dX5_commands_80 : decode cX5_commands 80 = .ok (.aload_n 0, 1) := by decide +kernel
theorem dX5_commands_81 : decode cX5_commands 81 = .ok (.getfield 32, 3) := by decide +kernel
theorem dX5_commands_84 : decode cX5_commands 84 = .ok (.invokevirtual 252, 3) := by decide +kernel
theorem dX5_commands_87 : decode cX5_commands 87 = .ok (.pop, 1) := by decide +kernel
theorem dX5_commands_88 : decode cX5_commands 88 = .ok (.aload_n 0, 1) := by decide +kernel
theorem dX5_commands_89 : decode cX5_commands 89 = .ok (.aload_n 0, 1) := by decide +kernel
theorem dX5_commands_90 : decode cX5_commands 90 = .ok (.getfield 32, 3) := by decide +kernel
theorem dX5_commands_93 : decode cX5_commands 93 = .ok (.invokevirtual 255, 3) := by decide +kernel
theorem dX5_commands_96 : decode cX5_commands 96 = .ok (.aload_n 0, 1) := by decide +kernel
theorem dX5_commands_97 : decode cX5_commands 97 = .ok (.getfield 32, 3) := by decide +kernel
theorem dX5_commands_100 : decode cX5_commands 100 = .ok (.getfield 259, 3) := by decide +kernel
theorem dX5_commands_103 : decode cX5_commands 103 = .ok (.invokevirtual 262, 3) := by decide +kernel
theorem dX5_commands_106 : decode cX5_commands 106 = .ok (.iconst (-1), 1) := by decide +kernel
theorem dX5_commands_107 : decode cX5_commands 107 = .ok (.if_icmp .ne 7, 3) := by decide +kernel
theorem dX5_commands_110 : decode cX5_commands 110 = .ok (.iconst (-1), 1) := by decide +kernel
theorem dX5_commands_111 : decode cX5_commands 111 = .ok (.goto 4, 3) := by decide +kernel
theorem dX5_commands_114 : decode cX5_commands 114 = .ok (.iload_n 1, 1) := by decide +kernel
theorem dX5_commands_115 : decode cX5_commands 115 = .ok (.istore_n 2, 1) := by decide +kernel
theorem dX5_commands_116 : decode cX5_commands 116 = .ok (.aload_n 0, 1) := by decide +kernel
theorem dX5_commands_117 : decode cX5_commands 117 = .ok (.getfield 32, 3) := by decide +kernel
theorem dX5_commands_120 : decode cX5_commands 120 = .ok (.bipush 59, 2) := by decide +kernel
theorem dX5_commands_122 : decode cX5_commands 122 = .ok (.invokevirtual 266, 3) := by decide +kernel
theorem dX5_commands_125 : decode cX5_commands 125 = .ok (.pop, 1) := by decide +kernel
theorem dX5_commands_126 : decode cX5_commands 126 = .ok (.iinc 3 1, 3) := by decide +kernel
theorem dX5_commands_129 : decode cX5_commands 129 = .ok (.goto (-64), 3) := by decide +kernel
theorem dX5_commands_132 : decode cX5_commands 132 = .ok (.iload_n 2, 1) := by decide +kernel
theorem dX5_commands_133 : decode cX5_commands 133 = .ok (.iconst (-1), 1) := by decide +kernel
theorem dX5_commands_134 : decode cX5_commands 134 = .ok (.if_icmp .ne 14, 3) := by decide +kernel
theorem dX5_commands_137 : decode cX5_commands 137 = .ok (.aload_n 0, 1) := by decide +kernel
theorem dX5_commands_138 : decode cX5_commands 138 = .ok (.getfield 10, 3) := by decide +kernel
theorem dX5_commands_141 : decode cX5_commands 141 = .ok (.aload_n 0, 1) := by decide +kernel
theorem dX5_commands_142 : decode cX5_commands 142 = .ok (.getfield 16, 3) := by decide +kernel
theorem dX5_commands_145 : decode cX5_commands 145 = .ok (.invokevirtual 270, 3) := by decide +kernel
theorem dX5_commands_148 : decode cX5_commands 148 = .ok (.aload_n 0, 1) := by decide +kernel
theorem dX5_commands_149 : decode cX5_commands 149 = .ok (.getfield 32, 3) := by decide +kernel
theorem dX5_commands_152 : decode cX5_commands 152 = .ok (.invokevirtual 244, 3) := by decide +kernel
theorem dX5_commands_155 : decode cX5_commands 155 = .ok (.aload_n 0, 1) := by decide +kernel
theorem dX5_commands_156 : decode cX5_commands 156 = .ok (.iload_n 2, 1) := by decide +kernel
theorem dX5_commands_157 : decode cX5_commands 157 = .ok (.invokevirtual 70, 3) := by decide +kernel
theorem dX5_commands_160 : decode cX5_commands 160 = .ok (.ireturn, 1) := by decide +kernel
theorem dX5_faultPosition_0 : decode cX5_faultPosition 0 = .ok (.aload_n 0, 1) := by decide +kernel
theorem dX5_faultPosition_1 : decode cX5_faultPosition 1 = .ok (.getfield 47, 3) := by decide +kernel
theorem dX5_faultPosition_4 : decode cX5_faultPosition 4 = .ok (.ireturn, 1) := by decide +kernel
theorem dX5_reason_0 : decode cX5_reason 0 = .ok (.iload_n 1, 1) := by decide +kernel
theorem dX5_reason_1 : decode cX5_reason 1 = .ok (.ifCond .lt 8, 3) := by decide +kernel
theorem dX5_reason_4 : decode cX5_reason 4 = .ok (.iload_n 1, 1) := by decide +kernel
theorem dX5_reason_5 : decode cX5_reason 5 = .ok (.iconst 2, 1) := by decide +kernel
theorem dX5_reason_6 : decode cX5_reason 6 = .ok (.if_icmp .le 14, 3) := by decide +kernel
theorem dX5_reason_9 : decode cX5_reason 9 = .ok (.new 153, 3) := by decide +kernel
theorem dX5_reason_12 : decode cX5_reason 12 = .ok (.dup, 1) := by decide +kernel
theorem dX5_reason_13 : decode cX5_reason 13 = .ok (.ldc_w 274, 3) := by decide +kernel
theorem dX5_reason_16 : decode cX5_reason 16 = .ok (.invokespecial 157, 3) := by decide +kernel
theorem dX5_reason_19 : decode cX5_reason 19 = .ok (.athrow, 1) := by decide +kernel
theorem dX5_reason_20 : decode cX5_reason 20 = .ok (.aload_n 0, 1) := by decide +kernel
theorem dX5_reason_21 : decode cX5_reason 21 = .ok (.getfield 54, 3) := by decide +kernel
theorem dX5_reason_24 : decode cX5_reason 24 = .ok (.ifCond .ne 14, 3) := by decide +kernel
theorem dX5_reason_27 : decode cX5_reason 27 = .ok (.new 166, 3) := by decide +kernel
theorem dX5_reason_30 : decode cX5_reason 30 = .ok (.dup, 1) := by decide +kernel
theorem dX5_reason_31 : decode cX5_reason 31 = .ok (.ldc_w 276, 3) := by decide +kernel
theorem dX5_reason_34 : decode cX5_reason 34 = .ok (.invokespecial 170, 3) := by decide +kernel
theorem dX5_reason_37 : decode cX5_reason 37 = .ok (.athrow, 1) := by decide +kernel
theorem dX5_reason_38 : decode cX5_reason 38 = .ok (.iload_n 1, 1) := by decide +kernel
theorem dX5_reason_39 : decode cX5_reason 39 = .ok (.ifCond .ne 8, 3) := by decide +kernel
theorem dX5_reason_42 : decode cX5_reason 42 = .ok (.aload_n 0, 1) := by decide +kernel
theorem dX5_reason_43 : decode cX5_reason 43 = .ok (.getfield 54, 3) := by decide +kernel
theorem dX5_reason_46 : decode cX5_reason 46 = .ok (.ireturn, 1) := by decide +kernel
theorem dX5_reason_47 : decode cX5_reason 47 = .ok (.iload_n 1, 1) := by decide +kernel
theorem dX5_reason_48 : decode cX5_reason 48 = .ok (.iconst 1, 1) := by decide +kernel
theorem dX5_reason_49 : decode cX5_reason 49 = .ok (.if_icmp .ne 10, 3) := by decide +kernel
theorem dX5_reason_52 : decode cX5_reason 52 = .ok (.aload_n 0, 1) := by decide +kernel
theorem dX5_reason_53 : decode cX5_reason 53 = .ok (.getfield 57, 3) := by decide +kernel
theorem dX5_reason_56 : decode cX5_reason 56 = .ok (.goto 7, 3) := by decide +kernel
theorem dX5_reason_59 : decode cX5_reason 59 = .ok (.aload_n 0, 1) := by decide +kernel
theorem dX5_reason_60 : decode cX5_reason 60 = .ok (.getfield 60, 3) := by decide +kernel
theorem dX5_reason_63 : decode cX5_reason 63 = .ok (.ireturn, 1) := by decide +kernel
theorem dX5_line_0 : decode cX5_line 0 = .ok (.aload_n 0, 1) := by decide +kernel
theorem dX5_line_1 : decode cX5_line 1 = .ok (.iload_n 1, 1) := by decide +kernel
theorem dX5_line_2 : decode cX5_line 2 = .ok (.invokevirtual 160, 3) := by decide +kernel
theorem dX5_line_5 : decode cX5_line 5 = .ok (.aload_n 0, 1) := by decide +kernel
theorem dX5_line_6 : decode cX5_line 6 = .ok (.getfield 39, 3) := by decide +kernel
theorem dX5_line_9 : decode cX5_line 9 = .ok (.invokevirtual 278, 3) := by decide +kernel
theorem dX5_line_12 : decode cX5_line 12 = .ok (.iconst 0, 1) := by decide +kernel
theorem dX5_line_13 : decode cX5_line 13 = .ok (.istore_n 2, 1) := by decide +kernel
theorem dX5_line_14 : decode cX5_line 14 = .ok (.iload_n 2, 1) := by decide +kernel
theorem dX5_line_15 : decode cX5_line 15 = .ok (.aload_n 0, 1) := by decide +kernel
theorem dX5_line_16 : decode cX5_line 16 = .ok (.getfield 10, 3) := by decide +kernel
theorem dX5_line_19 : decode cX5_line 19 = .ok (.getfield 116, 3) := by decide +kernel
theorem dX5_line_22 : decode cX5_line 22 = .ok (.invokevirtual 171, 3) := by decide +kernel
theorem dX5_line_25 : decode cX5_line 25 = .ok (.if_icmp .ge 46, 3) := by decide +kernel
theorem dX5_line_28 : decode cX5_line 28 = .ok (.aload_n 0, 1) := by decide +kernel
theorem dX5_line_29 : decode cX5_line 29 = .ok (.getfield 10, 3) := by decide +kernel
theorem dX5_line_32 : decode cX5_line 32 = .ok (.iload_n 2, 1) := by decide +kernel
theorem dX5_line_33 : decode cX5_line 33 = .ok (.iload_n 1, 1) := by decide +kernel
theorem dX5_line_34 : decode cX5_line 34 = .ok (.invokevirtual 163, 3) := by decide +kernel
theorem dX5_line_37 : decode cX5_line 37 = .ok (.istore_n 3, 1) := by decide +kernel
theorem dX5_line_38 : decode cX5_line 38 = .ok (.iload_n 3, 1) := by decide +kernel
theorem dX5_line_39 : decode cX5_line 39 = .ok (.iconst (-1), 1) := by decide +kernel
theorem dX5_line_40 : decode cX5_line 40 = .ok (.if_icmp .eq 25, 3) := by decide +kernel
theorem dX5_line_43 : decode cX5_line 43 = .ok (.aload_n 0, 1) := by decide +kernel
theorem dX5_line_44 : decode cX5_line 44 = .ok (.getfield 39, 3) := by decide +kernel
theorem dX5_line_47 : decode cX5_line 47 = .ok (.iload_n 2, 1) := by decide +kernel
theorem dX5_line_48 : decode cX5_line 48 = .ok (.iload_n 3, 1) := by decide +kernel
theorem dX5_line_49 : decode cX5_line 49 = .ok (.iload_n 3, 1) := by decide +kernel
theorem dX5_line_50 : decode cX5_line 50 = .ok (.aload_n 0, 1) := by decide +kernel
theorem dX5_line_51 : decode cX5_line 51 = .ok (.getfield 10, 3) := by decide +kernel
theorem dX5_line_54 : decode cX5_line 54 = .ok (.getfield 116, 3) := by decide +kernel
theorem dX5_line_57 : decode cX5_line 57 = .ok (.iload_n 2, 1) := by decide +kernel
theorem dX5_line_58 : decode cX5_line 58 = .ok (.invokevirtual 120, 3) := by decide +kernel
theorem dX5_line_61 : decode cX5_line 61 = .ok (.isub, 1) := by decide +kernel
theorem dX5_line_62 : decode cX5_line 62 = .ok (.invokevirtual 279, 3) := by decide +kernel
theorem dX5_line_65 : decode cX5_line 65 = .ok (.iinc 2 1, 3) := by decide +kernel
theorem dX5_line_68 : decode cX5_line 68 = .ok (.goto (-54), 3) := by decide +kernel
theorem dX5_line_71 : decode cX5_line 71 = .ok (.aload_n 0, 1) := by decide +kernel
theorem dX5_line_72 : decode cX5_line 72 = .ok (.getfield 39, 3) := by decide +kernel
theorem dX5_line_75 : decode cX5_line 75 = .ok (.invokevirtual 283, 3) := by decide +kernel
theorem dX5_line_78 : decode cX5_line 78 = .ok (.ifCond .ne 13, 3) := by decide +kernel
theorem dX5_line_81 : decode cX5_line 81 = .ok (.aload_n 0, 1) := by decide +kernel
theorem dX5_line_82 : decode cX5_line 82 = .ok (.getfield 39, 3) := by decide +kernel
theorem dX5_line_85 : decode cX5_line 85 = .ok (.ldc_w 286, 3) := by decide +kernel
theorem dX5_line_88 : decode cX5_line 88 = .ok (.invokevirtual 288, 3) := by decide +kernel
theorem dX5_line_91 : decode cX5_line 91 = .ok (.aload_n 0, 1) := by decide +kernel
theorem dX5_line_92 : decode cX5_line 92 = .ok (.getfield 39, 3) := by decide +kernel
theorem dX5_line_95 : decode cX5_line 95 = .ok (.invokevirtual 283, 3) := by decide +kernel
theorem dX5_line_98 : decode cX5_line 98 = .ok (.ireturn, 1) := by decide +kernel
theorem dX5_character_0 : decode cX5_character 0 = .ok (.iload_n 1, 1) := by decide +kernel
theorem dX5_character_1 : decode cX5_character 1 = .ok (.ifCond .lt 14, 3) := by decide +kernel
theorem dX5_character_4 : decode cX5_character 4 = .ok (.iload_n 1, 1) := by decide +kernel
theorem dX5_character_5 : decode cX5_character 5 = .ok (.aload_n 0, 1) := by decide +kernel
theorem dX5_character_6 : decode cX5_character 6 = .ok (.getfield 39, 3) := by decide +kernel
theorem dX5_character_9 : decode cX5_character 9 = .ok (.invokevirtual 283, 3) := by decide +kernel
theorem dX5_character_12 : decode cX5_character 12 = .ok (.if_icmp .lt 14, 3) := by decide +kernel
theorem dX5_character_15 : decode cX5_character 15 = .ok (.new 291, 3) := by decide +kernel
theorem dX5_character_18 : decode cX5_character 18 = .ok (.dup, 1) := by decide +kernel
theorem dX5_character_19 : decode cX5_character 19 = .ok (.ldc_w 293, 3) := by decide +kernel
theorem dX5_character_22 : decode cX5_character 22 = .ok (.invokespecial 295, 3) := by decide +kernel
theorem dX5_character_25 : decode cX5_character 25 = .ok (.athrow, 1) := by decide +kernel
theorem dX5_character_26 : decode cX5_character 26 = .ok (.aload_n 0, 1) := by decide +kernel
theorem dX5_character_27 : decode cX5_character 27 = .ok (.getfield 39, 3) := by decide +kernel
theorem dX5_character_30 : decode cX5_character 30 = .ok (.iload_n 1, 1) := by decide +kernel
theorem dX5_character_31 : decode cX5_character 31 = .ok (.invokevirtual 296, 3) := by decide +kernel
theorem dX5_character_34 : decode cX5_character 34 = .ok (.ireturn, 1) := by decide +kernel
theorem dX5_meanThirst_0 : decode cX5_meanThirst 0 = .ok (.aload_n 0, 1) := by decide +kernel
theorem dX5_meanThirst_1 : decode cX5_meanThirst 1 = .ok (.getfield 10, 3) := by decide +kernel
theorem dX5_meanThirst_4 : decode cX5_meanThirst 4 = .ok (.getfield 137, 3) := by decide +kernel
theorem dX5_meanThirst_7 : decode cX5_meanThirst 7 = .ok (.invokevirtual 171, 3) := by decide +kernel
theorem dX5_meanThirst_10 : decode cX5_meanThirst 10 = .ok (.istore_n 1, 1) := by decide +kernel
theorem dX5_meanThirst_11 : decode cX5_meanThirst 11 = .ok (.iload_n 1, 1) := by decide +kernel
theorem dX5_meanThirst_12 : decode cX5_meanThirst 12 = .ok (.ifCond .gt 13, 3) := by decide +kernel
theorem dX5_meanThirst_15 : decode cX5_meanThirst 15 = .ok (.new 300, 3) := by decide +kernel
theorem dX5_meanThirst_18 : decode cX5_meanThirst 18 = .ok (.dup, 1) := by decide +kernel
theorem dX5_meanThirst_19 : decode cX5_meanThirst 19 = .ok (.ldc 223, 2) := by decide +kernel
theorem dX5_meanThirst_21 : decode cX5_meanThirst 21 = .ok (.invokespecial 302, 3) := by decide +kernel
theorem dX5_meanThirst_24 : decode cX5_meanThirst 24 = .ok (.athrow, 1) := by decide +kernel
theorem dX5_meanThirst_25 : decode cX5_meanThirst 25 = .ok (.aload_n 0, 1) := by decide +kernel
theorem dX5_meanThirst_26 : decode cX5_meanThirst 26 = .ok (.getfield 10, 3) := by decide +kernel
theorem dX5_meanThirst_29 : decode cX5_meanThirst 29 = .ok (.getfield 140, 3) := by decide +kernel
theorem dX5_meanThirst_32 : decode cX5_meanThirst 32 = .ok (.invokevirtual 303, 3) := by decide +kernel
theorem dX5_meanThirst_35 : decode cX5_meanThirst 35 = .ok (.i2f, 1) := by decide +kernel
theorem dX5_meanThirst_36 : decode cX5_meanThirst 36 = .ok (.iload_n 1, 1) := by decide +kernel
theorem dX5_meanThirst_37 : decode cX5_meanThirst 37 = .ok (.i2f, 1) := by decide +kernel
theorem dX5_meanThirst_38 : decode cX5_meanThirst 38 = .ok (.fdiv, 1) := by decide +kernel
theorem dX5_meanThirst_39 : decode cX5_meanThirst 39 = .ok (.freturn, 1) := by decide +kernel
theorem dX5_rightShare_0 : decode cX5_rightShare 0 = .ok (.aload_n 0, 1) := by decide +kernel
theorem dX5_rightShare_1 : decode cX5_rightShare 1 = .ok (.getfield 10, 3) := by decide +kernel
theorem dX5_rightShare_4 : decode cX5_rightShare 4 = .ok (.iconst 0, 1) := by decide +kernel
theorem dX5_rightShare_5 : decode cX5_rightShare 5 = .ok (.invokevirtual 306, 3) := by decide +kernel
theorem dX5_rightShare_8 : decode cX5_rightShare 8 = .ok (.istore_n 1, 1) := by decide +kernel
theorem dX5_rightShare_9 : decode cX5_rightShare 9 = .ok (.iload_n 1, 1) := by decide +kernel
theorem dX5_rightShare_10 : decode cX5_rightShare 10 = .ok (.ifCond .gt 14, 3) := by decide +kernel
theorem dX5_rightShare_13 : decode cX5_rightShare 13 = .ok (.new 300, 3) := by decide +kernel
theorem dX5_rightShare_16 : decode cX5_rightShare 16 = .ok (.dup, 1) := by decide +kernel
theorem dX5_rightShare_17 : decode cX5_rightShare 17 = .ok (.ldc_w 310, 3) := by decide +kernel
theorem dX5_rightShare_20 : decode cX5_rightShare 20 = .ok (.invokespecial 302, 3) := by decide +kernel
theorem dX5_rightShare_23 : decode cX5_rightShare 23 = .ok (.athrow, 1) := by decide +kernel
theorem dX5_rightShare_24 : decode cX5_rightShare 24 = .ok (.aload_n 0, 1) := by decide +kernel
theorem dX5_rightShare_25 : decode cX5_rightShare 25 = .ok (.getfield 10, 3) := by decide +kernel
theorem dX5_rightShare_28 : decode cX5_rightShare 28 = .ok (.iconst 1, 1) := by decide +kernel
theorem dX5_rightShare_29 : decode cX5_rightShare 29 = .ok (.invokevirtual 306, 3) := by decide +kernel
theorem dX5_rightShare_32 : decode cX5_rightShare 32 = .ok (.i2d, 1) := by decide +kernel
theorem dX5_rightShare_33 : decode cX5_rightShare 33 = .ok (.iload_n 1, 1) := by decide +kernel
theorem dX5_rightShare_34 : decode cX5_rightShare 34 = .ok (.i2d, 1) := by decide +kernel
theorem dX5_rightShare_35 : decode cX5_rightShare 35 = .ok (.ddiv, 1) := by decide +kernel
theorem dX5_rightShare_36 : decode cX5_rightShare 36 = .ok (.dreturn, 1) := by decide +kernel
theorem dX5_account_0 : decode cX5_account 0 = .ok (.iload_n 1, 1) := by decide +kernel
theorem dX5_account_1 : decode cX5_account 1 = .ok (.tableswitch 238 0 16 #[83, 91, 102, 110, 118, 129, 140, 148, 157, 168, 179, 187, 195, 206, 214, 222, 230], 83) := by decide +kernel
theorem dX5_account_84 : decode cX5_account 84 = .ok (.aload_n 0, 1) := by decide +kernel
theorem dX5_account_85 : decode cX5_account 85 = .ok (.getfield 10, 3) := by decide +kernel
theorem dX5_account_88 : decode cX5_account 88 = .ok (.getfield 204, 3) := by decide +kernel
theorem dX5_account_91 : decode cX5_account 91 = .ok (.ireturn, 1) := by decide +kernel
theorem dX5_account_92 : decode cX5_account 92 = .ok (.aload_n 0, 1) := by decide +kernel
theorem dX5_account_93 : decode cX5_account 93 = .ok (.getfield 10, 3) := by decide +kernel
theorem dX5_account_96 : decode cX5_account 96 = .ok (.getfield 204, 3) := by decide +kernel
theorem dX5_account_99 : decode cX5_account 99 = .ok (.bipush 24, 2) := by decide +kernel
theorem dX5_account_101 : decode cX5_account 101 = .ok (.irem, 1) := by decide +kernel
theorem dX5_account_102 : decode cX5_account 102 = .ok (.ireturn, 1) := by decide +kernel
theorem dX5_account_103 : decode cX5_account 103 = .ok (.aload_n 0, 1) := by decide +kernel
theorem dX5_account_104 : decode cX5_account 104 = .ok (.getfield 10, 3) := by decide +kernel
theorem dX5_account_107 : decode cX5_account 107 = .ok (.invokevirtual 185, 3) := by decide +kernel
theorem dX5_account_110 : decode cX5_account 110 = .ok (.ireturn, 1) := by decide +kernel
theorem dX5_account_111 : decode cX5_account 111 = .ok (.aload_n 0, 1) := by decide +kernel
theorem dX5_account_112 : decode cX5_account 112 = .ok (.getfield 10, 3) := by decide +kernel
theorem dX5_account_115 : decode cX5_account 115 = .ok (.getfield 312, 3) := by decide +kernel
theorem dX5_account_118 : decode cX5_account 118 = .ok (.ireturn, 1) := by decide +kernel
theorem dX5_account_119 : decode cX5_account 119 = .ok (.aload_n 0, 1) := by decide +kernel
theorem dX5_account_120 : decode cX5_account 120 = .ok (.getfield 10, 3) := by decide +kernel
theorem dX5_account_123 : decode cX5_account 123 = .ok (.getfield 116, 3) := by decide +kernel
theorem dX5_account_126 : decode cX5_account 126 = .ok (.invokevirtual 171, 3) := by decide +kernel
theorem dX5_account_129 : decode cX5_account 129 = .ok (.ireturn, 1) := by decide +kernel
theorem dX5_account_130 : decode cX5_account 130 = .ok (.aload_n 0, 1) := by decide +kernel
theorem dX5_account_131 : decode cX5_account 131 = .ok (.getfield 10, 3) := by decide +kernel
theorem dX5_account_134 : decode cX5_account 134 = .ok (.getfield 131, 3) := by decide +kernel
theorem dX5_account_137 : decode cX5_account 137 = .ok (.invokevirtual 171, 3) := by decide +kernel
theorem dX5_account_140 : decode cX5_account 140 = .ok (.ireturn, 1) := by decide +kernel
theorem dX5_account_141 : decode cX5_account 141 = .ok (.aload_n 0, 1) := by decide +kernel
theorem dX5_account_142 : decode cX5_account 142 = .ok (.getfield 10, 3) := by decide +kernel
theorem dX5_account_145 : decode cX5_account 145 = .ok (.getfield 315, 3) := by decide +kernel
theorem dX5_account_148 : decode cX5_account 148 = .ok (.ireturn, 1) := by decide +kernel
theorem dX5_account_149 : decode cX5_account 149 = .ok (.aload_n 0, 1) := by decide +kernel
theorem dX5_account_150 : decode cX5_account 150 = .ok (.getfield 10, 3) := by decide +kernel
theorem dX5_account_153 : decode cX5_account 153 = .ok (.iconst 0, 1) := by decide +kernel
theorem dX5_account_154 : decode cX5_account 154 = .ok (.invokevirtual 306, 3) := by decide +kernel
theorem dX5_account_157 : decode cX5_account 157 = .ok (.ireturn, 1) := by decide +kernel
theorem dX5_account_158 : decode cX5_account 158 = .ok (.aload_n 0, 1) := by decide +kernel
theorem dX5_account_159 : decode cX5_account 159 = .ok (.getfield 10, 3) := by decide +kernel
theorem dX5_account_162 : decode cX5_account 162 = .ok (.getfield 137, 3) := by decide +kernel
theorem dX5_account_165 : decode cX5_account 165 = .ok (.invokevirtual 171, 3) := by decide +kernel
theorem dX5_account_168 : decode cX5_account 168 = .ok (.ireturn, 1) := by decide +kernel
theorem dX5_account_169 : decode cX5_account 169 = .ok (.aload_n 0, 1) := by decide +kernel
theorem dX5_account_170 : decode cX5_account 170 = .ok (.getfield 10, 3) := by decide +kernel
theorem dX5_account_173 : decode cX5_account 173 = .ok (.getfield 143, 3) := by decide +kernel
theorem dX5_account_176 : decode cX5_account 176 = .ok (.invokevirtual 303, 3) := by decide +kernel
theorem dX5_account_179 : decode cX5_account 179 = .ok (.ireturn, 1) := by decide +kernel
theorem dX5_account_180 : decode cX5_account 180 = .ok (.aload_n 0, 1) := by decide +kernel
theorem dX5_account_181 : decode cX5_account 181 = .ok (.getfield 10, 3) := by decide +kernel
theorem dX5_account_184 : decode cX5_account 184 = .ok (.invokevirtual 318, 3) := by decide +kernel
theorem dX5_account_187 : decode cX5_account 187 = .ok (.ireturn, 1) := by decide +kernel
theorem dX5_account_188 : decode cX5_account 188 = .ok (.aload_n 0, 1) := by decide +kernel
theorem dX5_account_189 : decode cX5_account 189 = .ok (.getfield 10, 3) := by decide +kernel
theorem dX5_account_192 : decode cX5_account 192 = .ok (.getfield 321, 3) := by decide +kernel
theorem dX5_account_195 : decode cX5_account 195 = .ok (.ireturn, 1) := by decide +kernel
theorem dX5_account_196 : decode cX5_account 196 = .ok (.aload_n 0, 1) := by decide +kernel
theorem dX5_account_197 : decode cX5_account 197 = .ok (.getfield 10, 3) := by decide +kernel
theorem dX5_account_200 : decode cX5_account 200 = .ok (.getfield 150, 3) := by decide +kernel
theorem dX5_account_203 : decode cX5_account 203 = .ok (.invokevirtual 303, 3) := by decide +kernel
theorem dX5_account_206 : decode cX5_account 206 = .ok (.ireturn, 1) := by decide +kernel
theorem dX5_account_207 : decode cX5_account 207 = .ok (.aload_n 0, 1) := by decide +kernel
theorem dX5_account_208 : decode cX5_account 208 = .ok (.getfield 10, 3) := by decide +kernel
theorem dX5_account_211 : decode cX5_account 211 = .ok (.invokevirtual 324, 3) := by decide +kernel
theorem dX5_account_214 : decode cX5_account 214 = .ok (.ireturn, 1) := by decide +kernel
theorem dX5_account_215 : decode cX5_account 215 = .ok (.aload_n 0, 1) := by decide +kernel
theorem dX5_account_216 : decode cX5_account 216 = .ok (.getfield 10, 3) := by decide +kernel
theorem dX5_account_219 : decode cX5_account 219 = .ok (.getfield 327, 3) := by decide +kernel
theorem dX5_account_222 : decode cX5_account 222 = .ok (.ireturn, 1) := by decide +kernel
theorem dX5_account_223 : decode cX5_account 223 = .ok (.aload_n 0, 1) := by decide +kernel
theorem dX5_account_224 : decode cX5_account 224 = .ok (.getfield 25, 3) := by decide +kernel
theorem dX5_account_227 : decode cX5_account 227 = .ok (.invokevirtual 330, 3) := by decide +kernel
theorem dX5_account_230 : decode cX5_account 230 = .ok (.ireturn, 1) := by decide +kernel
theorem dX5_account_231 : decode cX5_account 231 = .ok (.aload_n 0, 1) := by decide +kernel
theorem dX5_account_232 : decode cX5_account 232 = .ok (.getfield 32, 3) := by decide +kernel
theorem dX5_account_235 : decode cX5_account 235 = .ok (.invokevirtual 331, 3) := by decide +kernel
theorem dX5_account_238 : decode cX5_account 238 = .ok (.ireturn, 1) := by decide +kernel
theorem dX5_account_239 : decode cX5_account 239 = .ok (.new 153, 3) := by decide +kernel
theorem dX5_account_242 : decode cX5_account 242 = .ok (.dup, 1) := by decide +kernel
theorem dX5_account_243 : decode cX5_account 243 = .ok (.ldc_w 332, 3) := by decide +kernel
theorem dX5_account_246 : decode cX5_account 246 = .ok (.invokespecial 157, 3) := by decide +kernel
theorem dX5_account_249 : decode cX5_account 249 = .ok (.athrow, 1) := by decide +kernel
theorem dX5_undo_0 : decode cX5_undo 0 = .ok (.aload_n 0, 1) := by decide +kernel
theorem dX5_undo_1 : decode cX5_undo 1 = .ok (.getfield 25, 3) := by decide +kernel
theorem dX5_undo_4 : decode cX5_undo 4 = .ok (.invokevirtual 330, 3) := by decide +kernel
theorem dX5_undo_7 : decode cX5_undo 7 = .ok (.ifCond .ne 14, 3) := by decide +kernel
theorem dX5_undo_10 : decode cX5_undo 10 = .ok (.new 229, 3) := by decide +kernel
theorem dX5_undo_13 : decode cX5_undo 13 = .ok (.dup, 1) := by decide +kernel
theorem dX5_undo_14 : decode cX5_undo 14 = .ok (.ldc_w 334, 3) := by decide +kernel
theorem dX5_undo_17 : decode cX5_undo 17 = .ok (.invokespecial 233, 3) := by decide +kernel
theorem dX5_undo_20 : decode cX5_undo 20 = .ok (.athrow, 1) := by decide +kernel
theorem dX5_undo_21 : decode cX5_undo 21 = .ok (.aload_n 0, 1) := by decide +kernel
theorem dX5_undo_22 : decode cX5_undo 22 = .ok (.getfield 25, 3) := by decide +kernel
theorem dX5_undo_25 : decode cX5_undo 25 = .ok (.aload_n 0, 1) := by decide +kernel
theorem dX5_undo_26 : decode cX5_undo 26 = .ok (.getfield 10, 3) := by decide +kernel
theorem dX5_undo_29 : decode cX5_undo 29 = .ok (.invokevirtual 336, 3) := by decide +kernel
theorem dX5_undo_32 : decode cX5_undo 32 = .ok (.aload_n 0, 1) := by decide +kernel
theorem dX5_undo_33 : decode cX5_undo 33 = .ok (.getfield 25, 3) := by decide +kernel
theorem dX5_undo_36 : decode cX5_undo 36 = .ok (.invokevirtual 330, 3) := by decide +kernel
theorem dX5_undo_39 : decode cX5_undo 39 = .ok (.ireturn, 1) := by decide +kernel
theorem dX5_save_0 : decode cX5_save 0 = .ok (.aload_n 0, 1) := by decide +kernel
theorem dX5_save_1 : decode cX5_save 1 = .ok (.getfield 19, 3) := by decide +kernel
theorem dX5_save_4 : decode cX5_save 4 = .ok (.aload_n 0, 1) := by decide +kernel
theorem dX5_save_5 : decode cX5_save 5 = .ok (.getfield 10, 3) := by decide +kernel
theorem dX5_save_8 : decode cX5_save 8 = .ok (.invokevirtual 270, 3) := by decide +kernel
theorem dX5_save_11 : decode cX5_save 11 = .ok (.aload_n 0, 1) := by decide +kernel
theorem dX5_save_12 : decode cX5_save 12 = .ok (.iconst 1, 1) := by decide +kernel
theorem dX5_save_13 : decode cX5_save 13 = .ok (.putfield 43, 3) := by decide +kernel
theorem dX5_save_16 : decode cX5_save 16 = .ok (.aload_n 0, 1) := by decide +kernel
theorem dX5_save_17 : decode cX5_save 17 = .ok (.getfield 10, 3) := by decide +kernel
theorem dX5_save_20 : decode cX5_save 20 = .ok (.getfield 204, 3) := by decide +kernel
theorem dX5_save_23 : decode cX5_save 23 = .ok (.ireturn, 1) := by decide +kernel
theorem dX5_restore_0 : decode cX5_restore 0 = .ok (.aload_n 0, 1) := by decide +kernel
theorem dX5_restore_1 : decode cX5_restore 1 = .ok (.getfield 43, 3) := by decide +kernel
theorem dX5_restore_4 : decode cX5_restore 4 = .ok (.ifCond .ne 14, 3) := by decide +kernel
theorem dX5_restore_7 : decode cX5_restore 7 = .ok (.new 229, 3) := by decide +kernel
theorem dX5_restore_10 : decode cX5_restore 10 = .ok (.dup, 1) := by decide +kernel
theorem dX5_restore_11 : decode cX5_restore 11 = .ok (.ldc_w 339, 3) := by decide +kernel
theorem dX5_restore_14 : decode cX5_restore 14 = .ok (.invokespecial 233, 3) := by decide +kernel
theorem dX5_restore_17 : decode cX5_restore 17 = .ok (.athrow, 1) := by decide +kernel
theorem dX5_restore_18 : decode cX5_restore 18 = .ok (.aload_n 0, 1) := by decide +kernel
theorem dX5_restore_19 : decode cX5_restore 19 = .ok (.getfield 10, 3) := by decide +kernel
theorem dX5_restore_22 : decode cX5_restore 22 = .ok (.aload_n 0, 1) := by decide +kernel
theorem dX5_restore_23 : decode cX5_restore 23 = .ok (.getfield 19, 3) := by decide +kernel
theorem dX5_restore_26 : decode cX5_restore 26 = .ok (.invokevirtual 270, 3) := by decide +kernel
theorem dX5_restore_29 : decode cX5_restore 29 = .ok (.aload_n 0, 1) := by decide +kernel
theorem dX5_restore_30 : decode cX5_restore 30 = .ok (.getfield 25, 3) := by decide +kernel
theorem dX5_restore_33 : decode cX5_restore 33 = .ok (.invokevirtual 341, 3) := by decide +kernel
theorem dX5_restore_36 : decode cX5_restore 36 = .ok (.aload_n 0, 1) := by decide +kernel
theorem dX5_restore_37 : decode cX5_restore 37 = .ok (.getfield 10, 3) := by decide +kernel
theorem dX5_restore_40 : decode cX5_restore 40 = .ok (.getfield 204, 3) := by decide +kernel
theorem dX5_restore_43 : decode cX5_restore 43 = .ok (.ireturn, 1) := by decide +kernel
theorem dX5_begin_0 : decode cX5_begin 0 = .ok (.aload_n 0, 1) := by decide +kernel
theorem dX5_begin_1 : decode cX5_begin 1 = .ok (.getfield 16, 3) := by decide +kernel
theorem dX5_begin_4 : decode cX5_begin 4 = .ok (.aload_n 0, 1) := by decide +kernel
theorem dX5_begin_5 : decode cX5_begin 5 = .ok (.getfield 10, 3) := by decide +kernel
theorem dX5_begin_8 : decode cX5_begin 8 = .ok (.invokevirtual 270, 3) := by decide +kernel
theorem dX5_begin_11 : decode cX5_begin 11 = .ok (.aload_n 0, 1) := by decide +kernel
theorem dX5_begin_12 : decode cX5_begin 12 = .ok (.iconst 0, 1) := by decide +kernel
theorem dX5_begin_13 : decode cX5_begin 13 = .ok (.putfield 51, 3) := by decide +kernel
theorem dX5_begin_16 : decode cX5_begin 16 = .ok (.return_, 1) := by decide +kernel
theorem dX5_refuse_0 : decode cX5_refuse 0 = .ok (.aload_n 0, 1) := by decide +kernel
theorem dX5_refuse_1 : decode cX5_refuse 1 = .ok (.iload_n 1, 1) := by decide +kernel
theorem dX5_refuse_2 : decode cX5_refuse 2 = .ok (.putfield 54, 3) := by decide +kernel
theorem dX5_refuse_5 : decode cX5_refuse 5 = .ok (.aload_n 0, 1) := by decide +kernel
theorem dX5_refuse_6 : decode cX5_refuse 6 = .ok (.iload_n 2, 1) := by decide +kernel
theorem dX5_refuse_7 : decode cX5_refuse 7 = .ok (.putfield 57, 3) := by decide +kernel
theorem dX5_refuse_10 : decode cX5_refuse 10 = .ok (.aload_n 0, 1) := by decide +kernel
theorem dX5_refuse_11 : decode cX5_refuse 11 = .ok (.aload_n 0, 1) := by decide +kernel
theorem dX5_refuse_12 : decode cX5_refuse 12 = .ok (.getfield 51, 3) := by decide +kernel
theorem dX5_refuse_15 : decode cX5_refuse 15 = .ok (.putfield 60, 3) := by decide +kernel
theorem dX5_refuse_18 : decode cX5_refuse 18 = .ok (.iconst (-1), 1) := by decide +kernel
theorem dX5_refuse_19 : decode cX5_refuse 19 = .ok (.ireturn, 1) := by decide +kernel
theorem dX5_settle_0 : decode cX5_settle 0 = .ok (.iload_n 1, 1) := by decide +kernel
theorem dX5_settle_1 : decode cX5_settle 1 = .ok (.iconst (-1), 1) := by decide +kernel
theorem dX5_settle_2 : decode cX5_settle 2 = .ok (.if_icmp .ne 14, 3) := by decide +kernel
theorem dX5_settle_5 : decode cX5_settle 5 = .ok (.new 344, 3) := by decide +kernel
theorem dX5_settle_8 : decode cX5_settle 8 = .ok (.dup, 1) := by decide +kernel
theorem dX5_settle_9 : decode cX5_settle 9 = .ok (.ldc_w 346, 3) := by decide +kernel
theorem dX5_settle_12 : decode cX5_settle 12 = .ok (.invokespecial 348, 3) := by decide +kernel
theorem dX5_settle_15 : decode cX5_settle 15 = .ok (.athrow, 1) := by decide +kernel
theorem dX5_settle_16 : decode cX5_settle 16 = .ok (.aload_n 0, 1) := by decide +kernel
theorem dX5_settle_17 : decode cX5_settle 17 = .ok (.getfield 25, 3) := by decide +kernel
theorem dX5_settle_20 : decode cX5_settle 20 = .ok (.aload_n 0, 1) := by decide +kernel
theorem dX5_settle_21 : decode cX5_settle 21 = .ok (.getfield 16, 3) := by decide +kernel
theorem dX5_settle_24 : decode cX5_settle 24 = .ok (.invokevirtual 349, 3) := by decide +kernel
theorem dX5_settle_27 : decode cX5_settle 27 = .ok (.iload_n 1, 1) := by decide +kernel
theorem dX5_settle_28 : decode cX5_settle 28 = .ok (.ireturn, 1) := by decide +kernel
theorem dX5_carryOut_0 : decode cX5_carryOut 0 = .ok (.aload_n 2, 1) := by decide +kernel
theorem dX5_carryOut_1 : decode cX5_carryOut 1 = .ok (.iconst 0, 1) := by decide +kernel
theorem dX5_carryOut_2 : decode cX5_carryOut 2 = .ok (.invokevirtual 120, 3) := by decide +kernel
theorem dX5_carryOut_5 : decode cX5_carryOut 5 = .ok (.istore_n 3, 1) := by decide +kernel
theorem dX5_carryOut_6 : decode cX5_carryOut 6 = .ok (.iload_n 1, 1) := by decide +kernel
theorem dX5_carryOut_7 : decode cX5_carryOut 7 = .ok (.tableswitch 140 98 116 #[116, 140, 134, 105, 140, 140, 140, 140, 140, 140, 128, 140, 140, 140, 140, 140, 140, 89, 122], 89) := by decide +kernel
theorem dX5_carryOut_96 : decode cX5_carryOut 96 = .ok (.aload_n 0, 1) := by decide +kernel
theorem dX5_carryOut_97 : decode cX5_carryOut 97 = .ok (.iload_n 3, 1) := by decide +kernel
theorem dX5_carryOut_98 : decode cX5_carryOut 98 = .ok (.aload_n 2, 1) := by decide +kernel
theorem dX5_carryOut_99 : decode cX5_carryOut 99 = .ok (.iconst 1, 1) := by decide +kernel
theorem dX5_carryOut_100 : decode cX5_carryOut 100 = .ok (.invokevirtual 120, 3) := by decide +kernel
theorem dX5_carryOut_103 : decode cX5_carryOut 103 = .ok (.aload_n 2, 1) := by decide +kernel
theorem dX5_carryOut_104 : decode cX5_carryOut 104 = .ok (.iconst 2, 1) := by decide +kernel
theorem dX5_carryOut_105 : decode cX5_carryOut 105 = .ok (.invokevirtual 120, 3) := by decide +kernel
theorem dX5_carryOut_108 : decode cX5_carryOut 108 = .ok (.invokevirtual 84, 3) := by decide +kernel
theorem dX5_carryOut_111 : decode cX5_carryOut 111 = .ok (.ireturn, 1) := by decide +kernel
theorem dX5_carryOut_112 : decode cX5_carryOut 112 = .ok (.aload_n 0, 1) := by decide +kernel
theorem dX5_carryOut_113 : decode cX5_carryOut 113 = .ok (.iload_n 3, 1) := by decide +kernel
theorem dX5_carryOut_114 : decode cX5_carryOut 114 = .ok (.aload_n 2, 1) := by decide +kernel
theorem dX5_carryOut_115 : decode cX5_carryOut 115 = .ok (.iconst 1, 1) := by decide +kernel
theorem dX5_carryOut_116 : decode cX5_carryOut 116 = .ok (.invokevirtual 120, 3) := by decide +kernel
theorem dX5_carryOut_119 : decode cX5_carryOut 119 = .ok (.invokevirtual 88, 3) := by decide +kernel
theorem dX5_carryOut_122 : decode cX5_carryOut 122 = .ok (.ireturn, 1) := by decide +kernel
theorem dX5_carryOut_123 : decode cX5_carryOut 123 = .ok (.aload_n 0, 1) := by decide +kernel
theorem dX5_carryOut_124 : decode cX5_carryOut 124 = .ok (.iload_n 3, 1) := by decide +kernel
theorem dX5_carryOut_125 : decode cX5_carryOut 125 = .ok (.invokevirtual 94, 3) := by decide +kernel
theorem dX5_carryOut_128 : decode cX5_carryOut 128 = .ok (.ireturn, 1) := by decide +kernel
theorem dX5_carryOut_129 : decode cX5_carryOut 129 = .ok (.aload_n 0, 1) := by decide +kernel
theorem dX5_carryOut_130 : decode cX5_carryOut 130 = .ok (.iload_n 3, 1) := by decide +kernel
theorem dX5_carryOut_131 : decode cX5_carryOut 131 = .ok (.invokevirtual 97, 3) := by decide +kernel
theorem dX5_carryOut_134 : decode cX5_carryOut 134 = .ok (.ireturn, 1) := by decide +kernel
theorem dX5_carryOut_135 : decode cX5_carryOut 135 = .ok (.aload_n 0, 1) := by decide +kernel
theorem dX5_carryOut_136 : decode cX5_carryOut 136 = .ok (.iload_n 3, 1) := by decide +kernel
theorem dX5_carryOut_137 : decode cX5_carryOut 137 = .ok (.invokevirtual 100, 3) := by decide +kernel
theorem dX5_carryOut_140 : decode cX5_carryOut 140 = .ok (.ireturn, 1) := by decide +kernel
theorem dX5_carryOut_141 : decode cX5_carryOut 141 = .ok (.aload_n 0, 1) := by decide +kernel
theorem dX5_carryOut_142 : decode cX5_carryOut 142 = .ok (.iload_n 3, 1) := by decide +kernel
theorem dX5_carryOut_143 : decode cX5_carryOut 143 = .ok (.invokevirtual 103, 3) := by decide +kernel
theorem dX5_carryOut_146 : decode cX5_carryOut 146 = .ok (.ireturn, 1) := by decide +kernel
theorem dX5_carryOut_147 : decode cX5_carryOut 147 = .ok (.aload_n 0, 1) := by decide +kernel
theorem dX5_carryOut_148 : decode cX5_carryOut 148 = .ok (.iload_n 3, 1) := by decide +kernel
theorem dX5_carryOut_149 : decode cX5_carryOut 149 = .ok (.invokevirtual 109, 3) := by decide +kernel
theorem dX5_carryOut_152 : decode cX5_carryOut 152 = .ok (.ireturn, 1) := by decide +kernel
theorem dX5_driveStake_0 : decode cX5_driveStake 0 = .ok (.iload_n 1, 1) := by decide +kernel
theorem dX5_driveStake_1 : decode cX5_driveStake 1 = .ok (.invokestatic 215, 3) := by decide +kernel
theorem dX5_driveStake_4 : decode cX5_driveStake 4 = .ok (.ifCond .ne 10, 3) := by decide +kernel
theorem dX5_driveStake_7 : decode cX5_driveStake 7 = .ok (.aload_n 0, 1) := by decide +kernel
theorem dX5_driveStake_8 : decode cX5_driveStake 8 = .ok (.iconst 1, 1) := by decide +kernel
theorem dX5_driveStake_9 : decode cX5_driveStake 9 = .ok (.iconst 0, 1) := by decide +kernel
theorem dX5_driveStake_10 : decode cX5_driveStake 10 = .ok (.invokevirtual 352, 3) := by decide +kernel
theorem dX5_driveStake_13 : decode cX5_driveStake 13 = .ok (.ireturn, 1) := by decide +kernel
theorem dX5_driveStake_14 : decode cX5_driveStake 14 = .ok (.aload_n 0, 1) := by decide +kernel
theorem dX5_driveStake_15 : decode cX5_driveStake 15 = .ok (.getfield 10, 3) := by decide +kernel
theorem dX5_driveStake_18 : decode cX5_driveStake 18 = .ok (.getfield 116, 3) := by decide +kernel
theorem dX5_driveStake_21 : decode cX5_driveStake 21 = .ok (.invokevirtual 355, 3) := by decide +kernel
theorem dX5_driveStake_24 : decode cX5_driveStake 24 = .ok (.ifCond .eq 11, 3) := by decide +kernel
theorem dX5_driveStake_27 : decode cX5_driveStake 27 = .ok (.aload_n 0, 1) := by decide +kernel
theorem dX5_driveStake_28 : decode cX5_driveStake 28 = .ok (.iconst 2, 1) := by decide +kernel
theorem dX5_driveStake_29 : decode cX5_driveStake 29 = .ok (.bipush 10, 2) := by decide +kernel
theorem dX5_driveStake_31 : decode cX5_driveStake 31 = .ok (.invokevirtual 352, 3) := by decide +kernel
theorem dX5_driveStake_34 : decode cX5_driveStake 34 = .ok (.ireturn, 1) := by decide +kernel
theorem dX5_driveStake_35 : decode cX5_driveStake 35 = .ok (.aload_n 0, 1) := by decide +kernel
theorem dX5_driveStake_36 : decode cX5_driveStake 36 = .ok (.getfield 10, 3) := by decide +kernel
theorem dX5_driveStake_39 : decode cX5_driveStake 39 = .ok (.getfield 116, 3) := by decide +kernel
theorem dX5_driveStake_42 : decode cX5_driveStake 42 = .ok (.iload_n 1, 1) := by decide +kernel
theorem dX5_driveStake_43 : decode cX5_driveStake 43 = .ok (.invokevirtual 356, 3) := by decide +kernel
theorem dX5_driveStake_46 : decode cX5_driveStake 46 = .ok (.istore_n 2, 1) := by decide +kernel
theorem dX5_driveStake_47 : decode cX5_driveStake 47 = .ok (.iload_n 2, 1) := by decide +kernel
theorem dX5_driveStake_48 : decode cX5_driveStake 48 = .ok (.iconst (-1), 1) := by decide +kernel
theorem dX5_driveStake_49 : decode cX5_driveStake 49 = .ok (.if_icmp .eq 10, 3) := by decide +kernel
theorem dX5_driveStake_52 : decode cX5_driveStake 52 = .ok (.aload_n 0, 1) := by decide +kernel
theorem dX5_driveStake_53 : decode cX5_driveStake 53 = .ok (.iconst 4, 1) := by decide +kernel
theorem dX5_driveStake_54 : decode cX5_driveStake 54 = .ok (.iload_n 2, 1) := by decide +kernel
theorem dX5_driveStake_55 : decode cX5_driveStake 55 = .ok (.invokevirtual 352, 3) := by decide +kernel
theorem dX5_driveStake_58 : decode cX5_driveStake 58 = .ok (.ireturn, 1) := by decide +kernel
theorem dX5_driveStake_59 : decode cX5_driveStake 59 = .ok (.aload_n 0, 1) := by decide +kernel
theorem dX5_driveStake_60 : decode cX5_driveStake 60 = .ok (.getfield 10, 3) := by decide +kernel
theorem dX5_driveStake_63 : decode cX5_driveStake 63 = .ok (.getfield 116, 3) := by decide +kernel
theorem dX5_driveStake_66 : decode cX5_driveStake 66 = .ok (.iload_n 1, 1) := by decide +kernel
theorem dX5_driveStake_67 : decode cX5_driveStake 67 = .ok (.invokevirtual 359, 3) := by decide +kernel
theorem dX5_driveStake_70 : decode cX5_driveStake 70 = .ok (.ireturn, 1) := by decide +kernel
theorem dX5_setUpPost_0 : decode cX5_setUpPost 0 = .ok (.iload_n 1, 1) := by decide +kernel
theorem dX5_setUpPost_1 : decode cX5_setUpPost 1 = .ok (.invokestatic 215, 3) := by decide +kernel
theorem dX5_setUpPost_4 : decode cX5_setUpPost 4 = .ok (.ifCond .eq 14, 3) := by decide +kernel
theorem dX5_setUpPost_7 : decode cX5_setUpPost 7 = .ok (.iload_n 2, 1) := by decide +kernel
theorem dX5_setUpPost_8 : decode cX5_setUpPost 8 = .ok (.iconst 1, 1) := by decide +kernel
theorem dX5_setUpPost_9 : decode cX5_setUpPost 9 = .ok (.if_icmp .lt 9, 3) := by decide +kernel
theorem dX5_setUpPost_12 : decode cX5_setUpPost 12 = .ok (.iload_n 2, 1) := by decide +kernel
theorem dX5_setUpPost_13 : decode cX5_setUpPost 13 = .ok (.bipush 9, 2) := by decide +kernel
theorem dX5_setUpPost_15 : decode cX5_setUpPost 15 = .ok (.if_icmp .le 10, 3) := by decide +kernel
theorem dX5_setUpPost_18 : decode cX5_setUpPost 18 = .ok (.aload_n 0, 1) := by decide +kernel
theorem dX5_setUpPost_19 : decode cX5_setUpPost 19 = .ok (.iconst 1, 1) := by decide +kernel
theorem dX5_setUpPost_20 : decode cX5_setUpPost 20 = .ok (.iconst 0, 1) := by decide +kernel
theorem dX5_setUpPost_21 : decode cX5_setUpPost 21 = .ok (.invokevirtual 352, 3) := by decide +kernel
theorem dX5_setUpPost_24 : decode cX5_setUpPost 24 = .ok (.ireturn, 1) := by decide +kernel
theorem dX5_setUpPost_25 : decode cX5_setUpPost 25 = .ok (.aload_n 0, 1) := by decide +kernel
theorem dX5_setUpPost_26 : decode cX5_setUpPost 26 = .ok (.getfield 10, 3) := by decide +kernel
theorem dX5_setUpPost_29 : decode cX5_setUpPost 29 = .ok (.getfield 131, 3) := by decide +kernel
theorem dX5_setUpPost_32 : decode cX5_setUpPost 32 = .ok (.invokevirtual 355, 3) := by decide +kernel
theorem dX5_setUpPost_35 : decode cX5_setUpPost 35 = .ok (.ifCond .eq 10, 3) := by decide +kernel
theorem dX5_setUpPost_38 : decode cX5_setUpPost 38 = .ok (.aload_n 0, 1) := by decide +kernel
theorem dX5_setUpPost_39 : decode cX5_setUpPost 39 = .ok (.iconst 2, 1) := by decide +kernel
theorem dX5_setUpPost_40 : decode cX5_setUpPost 40 = .ok (.iconst 4, 1) := by decide +kernel
theorem dX5_setUpPost_41 : decode cX5_setUpPost 41 = .ok (.invokevirtual 352, 3) := by decide +kernel
theorem dX5_setUpPost_44 : decode cX5_setUpPost 44 = .ok (.ireturn, 1) := by decide +kernel
theorem dX5_setUpPost_45 : decode cX5_setUpPost 45 = .ok (.aload_n 0, 1) := by decide +kernel
theorem dX5_setUpPost_46 : decode cX5_setUpPost 46 = .ok (.getfield 10, 3) := by decide +kernel
theorem dX5_setUpPost_49 : decode cX5_setUpPost 49 = .ok (.getfield 128, 3) := by decide +kernel
theorem dX5_setUpPost_52 : decode cX5_setUpPost 52 = .ok (.iload_n 2, 1) := by decide +kernel
theorem dX5_setUpPost_53 : decode cX5_setUpPost 53 = .ok (.invokevirtual 359, 3) := by decide +kernel
theorem dX5_setUpPost_56 : decode cX5_setUpPost 56 = .ok (.pop, 1) := by decide +kernel
theorem dX5_setUpPost_57 : decode cX5_setUpPost 57 = .ok (.aload_n 0, 1) := by decide +kernel
theorem dX5_setUpPost_58 : decode cX5_setUpPost 58 = .ok (.getfield 10, 3) := by decide +kernel
theorem dX5_setUpPost_61 : decode cX5_setUpPost 61 = .ok (.getfield 131, 3) := by decide +kernel
theorem dX5_setUpPost_64 : decode cX5_setUpPost 64 = .ok (.iload_n 1, 1) := by decide +kernel
theorem dX5_setUpPost_65 : decode cX5_setUpPost 65 = .ok (.invokevirtual 359, 3) := by decide +kernel
theorem dX5_setUpPost_68 : decode cX5_setUpPost 68 = .ok (.ireturn, 1) := by decide +kernel
theorem dX5_addSheet_0 : decode cX5_addSheet 0 = .ok (.aload_n 0, 1) := by decide +kernel
theorem dX5_addSheet_1 : decode cX5_addSheet 1 = .ok (.getfield 10, 3) := by decide +kernel
theorem dX5_addSheet_4 : decode cX5_addSheet 4 = .ok (.getfield 315, 3) := by decide +kernel
theorem dX5_addSheet_7 : decode cX5_addSheet 7 = .ok (.iconst 3, 1) := by decide +kernel
theorem dX5_addSheet_8 : decode cX5_addSheet 8 = .ok (.if_icmp .lt 10, 3) := by decide +kernel
theorem dX5_addSheet_11 : decode cX5_addSheet 11 = .ok (.aload_n 0, 1) := by decide +kernel
theorem dX5_addSheet_12 : decode cX5_addSheet 12 = .ok (.iconst 2, 1) := by decide +kernel
theorem dX5_addSheet_13 : decode cX5_addSheet 13 = .ok (.iconst 3, 1) := by decide +kernel
theorem dX5_addSheet_14 : decode cX5_addSheet 14 = .ok (.invokevirtual 352, 3) := by decide +kernel
theorem dX5_addSheet_17 : decode cX5_addSheet 17 = .ok (.ireturn, 1) := by decide +kernel
theorem dX5_addSheet_18 : decode cX5_addSheet 18 = .ok (.aload_n 0, 1) := by decide +kernel
theorem dX5_addSheet_19 : decode cX5_addSheet 19 = .ok (.getfield 10, 3) := by decide +kernel
theorem dX5_addSheet_22 : decode cX5_addSheet 22 = .ok (.dup, 1) := by decide +kernel
theorem dX5_addSheet_23 : decode cX5_addSheet 23 = .ok (.getfield 315, 3) := by decide +kernel
theorem dX5_addSheet_26 : decode cX5_addSheet 26 = .ok (.iconst 1, 1) := by decide +kernel
theorem dX5_addSheet_27 : decode cX5_addSheet 27 = .ok (.iadd, 1) := by decide +kernel
theorem dX5_addSheet_28 : decode cX5_addSheet 28 = .ok (.putfield 315, 3) := by decide +kernel
theorem dX5_addSheet_31 : decode cX5_addSheet 31 = .ok (.aload_n 0, 1) := by decide +kernel
theorem dX5_addSheet_32 : decode cX5_addSheet 32 = .ok (.getfield 10, 3) := by decide +kernel
theorem dX5_addSheet_35 : decode cX5_addSheet 35 = .ok (.getfield 315, 3) := by decide +kernel
theorem dX5_addSheet_38 : decode cX5_addSheet 38 = .ok (.iconst 1, 1) := by decide +kernel
theorem dX5_addSheet_39 : decode cX5_addSheet 39 = .ok (.isub, 1) := by decide +kernel
theorem dX5_addSheet_40 : decode cX5_addSheet 40 = .ok (.ireturn, 1) := by decide +kernel
theorem dX5_setDayHeat_0 : decode cX5_setDayHeat 0 = .ok (.iload_n 1, 1) := by decide +kernel
theorem dX5_setDayHeat_1 : decode cX5_setDayHeat 1 = .ok (.ifCond .lt 9, 3) := by decide +kernel
theorem dX5_setDayHeat_4 : decode cX5_setDayHeat 4 = .ok (.iload_n 1, 1) := by decide +kernel
theorem dX5_setDayHeat_5 : decode cX5_setDayHeat 5 = .ok (.bipush 9, 2) := by decide +kernel
theorem dX5_setDayHeat_7 : decode cX5_setDayHeat 7 = .ok (.if_icmp .le 10, 3) := by decide +kernel
theorem dX5_setDayHeat_10 : decode cX5_setDayHeat 10 = .ok (.aload_n 0, 1) := by decide +kernel
theorem dX5_setDayHeat_11 : decode cX5_setDayHeat 11 = .ok (.iconst 1, 1) := by decide +kernel
theorem dX5_setDayHeat_12 : decode cX5_setDayHeat 12 = .ok (.iconst 0, 1) := by decide +kernel
theorem dX5_setDayHeat_13 : decode cX5_setDayHeat 13 = .ok (.invokevirtual 352, 3) := by decide +kernel
theorem dX5_setDayHeat_16 : decode cX5_setDayHeat 16 = .ok (.ireturn, 1) := by decide +kernel
theorem dX5_setDayHeat_17 : decode cX5_setDayHeat 17 = .ok (.aload_n 0, 1) := by decide +kernel
theorem dX5_setDayHeat_18 : decode cX5_setDayHeat 18 = .ok (.getfield 10, 3) := by decide +kernel
theorem dX5_setDayHeat_21 : decode cX5_setDayHeat 21 = .ok (.iload_n 1, 1) := by decide +kernel
theorem dX5_setDayHeat_22 : decode cX5_setDayHeat 22 = .ok (.putfield 312, 3) := by decide +kernel
theorem dX5_setDayHeat_25 : decode cX5_setDayHeat 25 = .ok (.aload_n 0, 1) := by decide +kernel
theorem dX5_setDayHeat_26 : decode cX5_setDayHeat 26 = .ok (.getfield 10, 3) := by decide +kernel
theorem dX5_setDayHeat_29 : decode cX5_setDayHeat 29 = .ok (.invokevirtual 185, 3) := by decide +kernel
theorem dX5_setDayHeat_32 : decode cX5_setDayHeat 32 = .ok (.ireturn, 1) := by decide +kernel
theorem dX5_drawSighted_0 : decode cX5_drawSighted 0 = .ok (.aload_n 0, 1) := by decide +kernel
theorem dX5_drawSighted_1 : decode cX5_drawSighted 1 = .ok (.getfield 10, 3) := by decide +kernel
theorem dX5_drawSighted_4 : decode cX5_drawSighted 4 = .ok (.getfield 116, 3) := by decide +kernel
theorem dX5_drawSighted_7 : decode cX5_drawSighted 7 = .ok (.iload_n 1, 1) := by decide +kernel
theorem dX5_drawSighted_8 : decode cX5_drawSighted 8 = .ok (.invokevirtual 362, 3) := by decide +kernel
theorem dX5_drawSighted_11 : decode cX5_drawSighted 11 = .ok (.ifCond .ne 10, 3) := by decide +kernel
theorem dX5_drawSighted_14 : decode cX5_drawSighted 14 = .ok (.aload_n 0, 1) := by decide +kernel
theorem dX5_drawSighted_15 : decode cX5_drawSighted 15 = .ok (.iconst 3, 1) := by decide +kernel
theorem dX5_drawSighted_16 : decode cX5_drawSighted 16 = .ok (.iload_n 1, 1) := by decide +kernel
theorem dX5_drawSighted_17 : decode cX5_drawSighted 17 = .ok (.invokevirtual 352, 3) := by decide +kernel
theorem dX5_drawSighted_20 : decode cX5_drawSighted 20 = .ok (.ireturn, 1) := by decide +kernel
theorem dX5_drawSighted_21 : decode cX5_drawSighted 21 = .ok (.aload_n 0, 1) := by decide +kernel
theorem dX5_drawSighted_22 : decode cX5_drawSighted 22 = .ok (.getfield 10, 3) := by decide +kernel
theorem dX5_drawSighted_25 : decode cX5_drawSighted 25 = .ok (.getfield 131, 3) := by decide +kernel
theorem dX5_drawSighted_28 : decode cX5_drawSighted 28 = .ok (.iload_n 2, 1) := by decide +kernel
theorem dX5_drawSighted_29 : decode cX5_drawSighted 29 = .ok (.invokevirtual 362, 3) := by decide +kernel
theorem dX5_drawSighted_32 : decode cX5_drawSighted 32 = .ok (.ifCond .ne 10, 3) := by decide +kernel
theorem dX5_drawSighted_35 : decode cX5_drawSighted 35 = .ok (.aload_n 0, 1) := by decide +kernel
theorem dX5_drawSighted_36 : decode cX5_drawSighted 36 = .ok (.iconst 3, 1) := by decide +kernel
theorem dX5_drawSighted_37 : decode cX5_drawSighted 37 = .ok (.iload_n 2, 1) := by decide +kernel
theorem dX5_drawSighted_38 : decode cX5_drawSighted 38 = .ok (.invokevirtual 352, 3) := by decide +kernel
theorem dX5_drawSighted_41 : decode cX5_drawSighted 41 = .ok (.ireturn, 1) := by decide +kernel
theorem dX5_drawSighted_42 : decode cX5_drawSighted 42 = .ok (.aload_n 0, 1) := by decide +kernel
theorem dX5_drawSighted_43 : decode cX5_drawSighted 43 = .ok (.getfield 10, 3) := by decide +kernel
theorem dX5_drawSighted_46 : decode cX5_drawSighted 46 = .ok (.iload_n 3, 1) := by decide +kernel
theorem dX5_drawSighted_47 : decode cX5_drawSighted 47 = .ok (.invokevirtual 365, 3) := by decide +kernel
theorem dX5_drawSighted_50 : decode cX5_drawSighted 50 = .ok (.ifCond .ne 10, 3) := by decide +kernel
theorem dX5_drawSighted_53 : decode cX5_drawSighted 53 = .ok (.aload_n 0, 1) := by decide +kernel
theorem dX5_drawSighted_54 : decode cX5_drawSighted 54 = .ok (.iconst 3, 1) := by decide +kernel
theorem dX5_drawSighted_55 : decode cX5_drawSighted 55 = .ok (.iload_n 3, 1) := by decide +kernel
theorem dX5_drawSighted_56 : decode cX5_drawSighted 56 = .ok (.invokevirtual 352, 3) := by decide +kernel
theorem dX5_drawSighted_59 : decode cX5_drawSighted 59 = .ok (.ireturn, 1) := by decide +kernel
theorem dX5_drawSighted_60 : decode cX5_drawSighted 60 = .ok (.aload_n 0, 1) := by decide +kernel
theorem dX5_drawSighted_61 : decode cX5_drawSighted 61 = .ok (.getfield 10, 3) := by decide +kernel
theorem dX5_drawSighted_64 : decode cX5_drawSighted 64 = .ok (.iload_n 1, 1) := by decide +kernel
theorem dX5_drawSighted_65 : decode cX5_drawSighted 65 = .ok (.iload_n 2, 1) := by decide +kernel
theorem dX5_drawSighted_66 : decode cX5_drawSighted 66 = .ok (.invokevirtual 368, 3) := by decide +kernel
theorem dX5_drawSighted_69 : decode cX5_drawSighted 69 = .ok (.istore 4, 2) := by decide +kernel
theorem dX5_drawSighted_71 : decode cX5_drawSighted 71 = .ok (.iload 4, 2) := by decide +kernel
theorem dX5_drawSighted_73 : decode cX5_drawSighted 73 = .ok (.ifCond .le 11, 3) := by decide +kernel
theorem dX5_drawSighted_76 : decode cX5_drawSighted 76 = .ok (.aload_n 0, 1) := by decide +kernel
theorem dX5_drawSighted_77 : decode cX5_drawSighted 77 = .ok (.iconst 5, 1) := by decide +kernel
theorem dX5_drawSighted_78 : decode cX5_drawSighted 78 = .ok (.iload 4, 2) := by decide +kernel
theorem dX5_drawSighted_80 : decode cX5_drawSighted 80 = .ok (.invokevirtual 352, 3) := by decide +kernel
theorem dX5_drawSighted_83 : decode cX5_drawSighted 83 = .ok (.ireturn, 1) := by decide +kernel
theorem dX5_drawSighted_84 : decode cX5_drawSighted 84 = .ok (.aload_n 0, 1) := by decide +kernel
theorem dX5_drawSighted_85 : decode cX5_drawSighted 85 = .ok (.getfield 10, 3) := by decide +kernel
theorem dX5_drawSighted_88 : decode cX5_drawSighted 88 = .ok (.iload_n 1, 1) := by decide +kernel
theorem dX5_drawSighted_89 : decode cX5_drawSighted 89 = .ok (.iload_n 2, 1) := by decide +kernel
theorem dX5_drawSighted_90 : decode cX5_drawSighted 90 = .ok (.invokevirtual 179, 3) := by decide +kernel
theorem dX5_drawSighted_93 : decode cX5_drawSighted 93 = .ok (.istore 5, 2) := by decide +kernel
theorem dX5_drawSighted_95 : decode cX5_drawSighted 95 = .ok (.aload_n 0, 1) := by decide +kernel
theorem dX5_drawSighted_96 : decode cX5_drawSighted 96 = .ok (.getfield 10, 3) := by decide +kernel
theorem dX5_drawSighted_99 : decode cX5_drawSighted 99 = .ok (.iload_n 1, 1) := by decide +kernel
theorem dX5_drawSighted_100 : decode cX5_drawSighted 100 = .ok (.iload_n 3, 1) := by decide +kernel
theorem dX5_drawSighted_101 : decode cX5_drawSighted 101 = .ok (.iload 5, 2) := by decide +kernel
theorem dX5_drawSighted_103 : decode cX5_drawSighted 103 = .ok (.invokevirtual 371, 3) := by decide +kernel
theorem dX5_drawSighted_106 : decode cX5_drawSighted 106 = .ok (.aload_n 0, 1) := by decide +kernel
theorem dX5_drawSighted_107 : decode cX5_drawSighted 107 = .ok (.getfield 10, 3) := by decide +kernel
theorem dX5_drawSighted_110 : decode cX5_drawSighted 110 = .ok (.dup, 1) := by decide +kernel
theorem dX5_drawSighted_111 : decode cX5_drawSighted 111 = .ok (.getfield 327, 3) := by decide +kernel
theorem dX5_drawSighted_114 : decode cX5_drawSighted 114 = .ok (.iconst 1, 1) := by decide +kernel
theorem dX5_drawSighted_115 : decode cX5_drawSighted 115 = .ok (.iadd, 1) := by decide +kernel
theorem dX5_drawSighted_116 : decode cX5_drawSighted 116 = .ok (.putfield 327, 3) := by decide +kernel
theorem dX5_drawSighted_119 : decode cX5_drawSighted 119 = .ok (.iload 5, 2) := by decide +kernel
theorem dX5_drawSighted_121 : decode cX5_drawSighted 121 = .ok (.ireturn, 1) := by decide +kernel
theorem dX5_eraseDrawn_0 : decode cX5_eraseDrawn 0 = .ok (.aload_n 0, 1) := by decide +kernel
theorem dX5_eraseDrawn_1 : decode cX5_eraseDrawn 1 = .ok (.getfield 10, 3) := by decide +kernel
theorem dX5_eraseDrawn_4 : decode cX5_eraseDrawn 4 = .ok (.getfield 116, 3) := by decide +kernel
theorem dX5_eraseDrawn_7 : decode cX5_eraseDrawn 7 = .ok (.iload_n 1, 1) := by decide +kernel
theorem dX5_eraseDrawn_8 : decode cX5_eraseDrawn 8 = .ok (.invokevirtual 362, 3) := by decide +kernel
theorem dX5_eraseDrawn_11 : decode cX5_eraseDrawn 11 = .ok (.ifCond .ne 10, 3) := by decide +kernel
theorem dX5_eraseDrawn_14 : decode cX5_eraseDrawn 14 = .ok (.aload_n 0, 1) := by decide +kernel
theorem dX5_eraseDrawn_15 : decode cX5_eraseDrawn 15 = .ok (.iconst 3, 1) := by decide +kernel
theorem dX5_eraseDrawn_16 : decode cX5_eraseDrawn 16 = .ok (.iload_n 1, 1) := by decide +kernel
theorem dX5_eraseDrawn_17 : decode cX5_eraseDrawn 17 = .ok (.invokevirtual 352, 3) := by decide +kernel
theorem dX5_eraseDrawn_20 : decode cX5_eraseDrawn 20 = .ok (.ireturn, 1) := by decide +kernel
theorem dX5_eraseDrawn_21 : decode cX5_eraseDrawn 21 = .ok (.aload_n 0, 1) := by decide +kernel
theorem dX5_eraseDrawn_22 : decode cX5_eraseDrawn 22 = .ok (.getfield 10, 3) := by decide +kernel
theorem dX5_eraseDrawn_25 : decode cX5_eraseDrawn 25 = .ok (.iload_n 2, 1) := by decide +kernel
theorem dX5_eraseDrawn_26 : decode cX5_eraseDrawn 26 = .ok (.invokevirtual 365, 3) := by decide +kernel
theorem dX5_eraseDrawn_29 : decode cX5_eraseDrawn 29 = .ok (.ifCond .ne 10, 3) := by decide +kernel
theorem dX5_eraseDrawn_32 : decode cX5_eraseDrawn 32 = .ok (.aload_n 0, 1) := by decide +kernel
theorem dX5_eraseDrawn_33 : decode cX5_eraseDrawn 33 = .ok (.iconst 3, 1) := by decide +kernel
theorem dX5_eraseDrawn_34 : decode cX5_eraseDrawn 34 = .ok (.iload_n 2, 1) := by decide +kernel
theorem dX5_eraseDrawn_35 : decode cX5_eraseDrawn 35 = .ok (.invokevirtual 352, 3) := by decide +kernel
theorem dX5_eraseDrawn_38 : decode cX5_eraseDrawn 38 = .ok (.ireturn, 1) := by decide +kernel
theorem dX5_eraseDrawn_39 : decode cX5_eraseDrawn 39 = .ok (.aload_n 0, 1) := by decide +kernel
theorem dX5_eraseDrawn_40 : decode cX5_eraseDrawn 40 = .ok (.getfield 10, 3) := by decide +kernel
theorem dX5_eraseDrawn_43 : decode cX5_eraseDrawn 43 = .ok (.iload_n 1, 1) := by decide +kernel
theorem dX5_eraseDrawn_44 : decode cX5_eraseDrawn 44 = .ok (.iload_n 2, 1) := by decide +kernel
theorem dX5_eraseDrawn_45 : decode cX5_eraseDrawn 45 = .ok (.invokevirtual 163, 3) := by decide +kernel
theorem dX5_eraseDrawn_48 : decode cX5_eraseDrawn 48 = .ok (.istore_n 3, 1) := by decide +kernel
theorem dX5_eraseDrawn_49 : decode cX5_eraseDrawn 49 = .ok (.iload_n 3, 1) := by decide +kernel
theorem dX5_eraseDrawn_50 : decode cX5_eraseDrawn 50 = .ok (.iconst (-1), 1) := by decide +kernel
theorem dX5_eraseDrawn_51 : decode cX5_eraseDrawn 51 = .ok (.if_icmp .ne 11, 3) := by decide +kernel
theorem dX5_eraseDrawn_54 : decode cX5_eraseDrawn 54 = .ok (.aload_n 0, 1) := by decide +kernel
theorem dX5_eraseDrawn_55 : decode cX5_eraseDrawn 55 = .ok (.bipush 6, 2) := by decide +kernel
theorem dX5_eraseDrawn_57 : decode cX5_eraseDrawn 57 = .ok (.iload_n 1, 1) := by decide +kernel
theorem dX5_eraseDrawn_58 : decode cX5_eraseDrawn 58 = .ok (.invokevirtual 352, 3) := by decide +kernel
theorem dX5_eraseDrawn_61 : decode cX5_eraseDrawn 61 = .ok (.ireturn, 1) := by decide +kernel
theorem dX5_eraseDrawn_62 : decode cX5_eraseDrawn 62 = .ok (.aload_n 0, 1) := by decide +kernel
theorem dX5_eraseDrawn_63 : decode cX5_eraseDrawn 63 = .ok (.getfield 10, 3) := by decide +kernel
theorem dX5_eraseDrawn_66 : decode cX5_eraseDrawn 66 = .ok (.iload_n 1, 1) := by decide +kernel
theorem dX5_eraseDrawn_67 : decode cX5_eraseDrawn 67 = .ok (.iload_n 2, 1) := by decide +kernel
theorem dX5_eraseDrawn_68 : decode cX5_eraseDrawn 68 = .ok (.iconst (-1), 1) := by decide +kernel
theorem dX5_eraseDrawn_69 : decode cX5_eraseDrawn 69 = .ok (.invokevirtual 371, 3) := by decide +kernel
theorem dX5_eraseDrawn_72 : decode cX5_eraseDrawn 72 = .ok (.iload_n 3, 1) := by decide +kernel
theorem dX5_eraseDrawn_73 : decode cX5_eraseDrawn 73 = .ok (.ireturn, 1) := by decide +kernel
theorem dX5_bringCamel_0 : decode cX5_bringCamel 0 = .ok (.iload_n 1, 1) := by decide +kernel
theorem dX5_bringCamel_1 : decode cX5_bringCamel 1 = .ok (.invokestatic 215, 3) := by decide +kernel
theorem dX5_bringCamel_4 : decode cX5_bringCamel 4 = .ok (.ifCond .ne 10, 3) := by decide +kernel
theorem dX5_bringCamel_7 : decode cX5_bringCamel 7 = .ok (.aload_n 0, 1) := by decide +kernel
theorem dX5_bringCamel_8 : decode cX5_bringCamel 8 = .ok (.iconst 1, 1) := by decide +kernel
theorem dX5_bringCamel_9 : decode cX5_bringCamel 9 = .ok (.iconst 0, 1) := by decide +kernel
theorem dX5_bringCamel_10 : decode cX5_bringCamel 10 = .ok (.invokevirtual 352, 3) := by decide +kernel
theorem dX5_bringCamel_13 : decode cX5_bringCamel 13 = .ok (.ireturn, 1) := by decide +kernel
theorem dX5_bringCamel_14 : decode cX5_bringCamel 14 = .ok (.aload_n 0, 1) := by decide +kernel
theorem dX5_bringCamel_15 : decode cX5_bringCamel 15 = .ok (.getfield 10, 3) := by decide +kernel
theorem dX5_bringCamel_18 : decode cX5_bringCamel 18 = .ok (.getfield 137, 3) := by decide +kernel
theorem dX5_bringCamel_21 : decode cX5_bringCamel 21 = .ok (.invokevirtual 355, 3) := by decide +kernel
theorem dX5_bringCamel_24 : decode cX5_bringCamel 24 = .ok (.ifCond .eq 11, 3) := by decide +kernel
theorem dX5_bringCamel_27 : decode cX5_bringCamel 27 = .ok (.aload_n 0, 1) := by decide +kernel
theorem dX5_bringCamel_28 : decode cX5_bringCamel 28 = .ok (.iconst 2, 1) := by decide +kernel
theorem dX5_bringCamel_29 : decode cX5_bringCamel 29 = .ok (.bipush 6, 2) := by decide +kernel
theorem dX5_bringCamel_31 : decode cX5_bringCamel 31 = .ok (.invokevirtual 352, 3) := by decide +kernel
theorem dX5_bringCamel_34 : decode cX5_bringCamel 34 = .ok (.ireturn, 1) := by decide +kernel
theorem dX5_bringCamel_35 : decode cX5_bringCamel 35 = .ok (.aload_n 0, 1) := by decide +kernel
theorem dX5_bringCamel_36 : decode cX5_bringCamel 36 = .ok (.getfield 10, 3) := by decide +kernel
theorem dX5_bringCamel_39 : decode cX5_bringCamel 39 = .ok (.getfield 140, 3) := by decide +kernel
theorem dX5_bringCamel_42 : decode cX5_bringCamel 42 = .ok (.iconst 0, 1) := by decide +kernel
theorem dX5_bringCamel_43 : decode cX5_bringCamel 43 = .ok (.invokevirtual 359, 3) := by decide +kernel
theorem dX5_bringCamel_46 : decode cX5_bringCamel 46 = .ok (.pop, 1) := by decide +kernel
theorem dX5_bringCamel_47 : decode cX5_bringCamel 47 = .ok (.aload_n 0, 1) := by decide +kernel
theorem dX5_bringCamel_48 : decode cX5_bringCamel 48 = .ok (.getfield 10, 3) := by decide +kernel
theorem dX5_bringCamel_51 : decode cX5_bringCamel 51 = .ok (.getfield 143, 3) := by decide +kernel
theorem dX5_bringCamel_54 : decode cX5_bringCamel 54 = .ok (.iconst 0, 1) := by decide +kernel
theorem dX5_bringCamel_55 : decode cX5_bringCamel 55 = .ok (.invokevirtual 359, 3) := by decide +kernel
theorem dX5_bringCamel_58 : decode cX5_bringCamel 58 = .ok (.pop, 1) := by decide +kernel
theorem dX5_bringCamel_59 : decode cX5_bringCamel 59 = .ok (.aload_n 0, 1) := by decide +kernel
theorem dX5_bringCamel_60 : decode cX5_bringCamel 60 = .ok (.getfield 10, 3) := by decide +kernel
theorem dX5_bringCamel_63 : decode cX5_bringCamel 63 = .ok (.getfield 150, 3) := by decide +kernel
theorem dX5_bringCamel_66 : decode cX5_bringCamel 66 = .ok (.iconst 0, 1) := by decide +kernel
theorem dX5_bringCamel_67 : decode cX5_bringCamel 67 = .ok (.invokevirtual 359, 3) := by decide +kernel
theorem dX5_bringCamel_70 : decode cX5_bringCamel 70 = .ok (.pop, 1) := by decide +kernel
theorem dX5_bringCamel_71 : decode cX5_bringCamel 71 = .ok (.aload_n 0, 1) := by decide +kernel
theorem dX5_bringCamel_72 : decode cX5_bringCamel 72 = .ok (.getfield 10, 3) := by decide +kernel
theorem dX5_bringCamel_75 : decode cX5_bringCamel 75 = .ok (.getfield 137, 3) := by decide +kernel
theorem dX5_bringCamel_78 : decode cX5_bringCamel 78 = .ok (.iload_n 1, 1) := by decide +kernel
theorem dX5_bringCamel_79 : decode cX5_bringCamel 79 = .ok (.invokevirtual 359, 3) := by decide +kernel
theorem dX5_bringCamel_82 : decode cX5_bringCamel 82 = .ok (.ireturn, 1) := by decide +kernel
theorem dX5_ringBell_0 : decode cX5_ringBell 0 = .ok (.iload_n 1, 1) := by decide +kernel
theorem dX5_ringBell_1 : decode cX5_ringBell 1 = .ok (.invokestatic 215, 3) := by decide +kernel
theorem dX5_ringBell_4 : decode cX5_ringBell 4 = .ok (.ifCond .ne 10, 3) := by decide +kernel
theorem dX5_ringBell_7 : decode cX5_ringBell 7 = .ok (.aload_n 0, 1) := by decide +kernel
theorem dX5_ringBell_8 : decode cX5_ringBell 8 = .ok (.iconst 1, 1) := by decide +kernel
theorem dX5_ringBell_9 : decode cX5_ringBell 9 = .ok (.iconst 0, 1) := by decide +kernel
theorem dX5_ringBell_10 : decode cX5_ringBell 10 = .ok (.invokevirtual 352, 3) := by decide +kernel
theorem dX5_ringBell_13 : decode cX5_ringBell 13 = .ok (.ireturn, 1) := by decide +kernel
theorem dX5_ringBell_14 : decode cX5_ringBell 14 = .ok (.iconst 0, 1) := by decide +kernel
theorem dX5_ringBell_15 : decode cX5_ringBell 15 = .ok (.istore_n 2, 1) := by decide +kernel
theorem dX5_ringBell_16 : decode cX5_ringBell 16 = .ok (.iconst 0, 1) := by decide +kernel
theorem dX5_ringBell_17 : decode cX5_ringBell 17 = .ok (.istore_n 3, 1) := by decide +kernel
theorem dX5_ringBell_18 : decode cX5_ringBell 18 = .ok (.iload_n 3, 1) := by decide +kernel
theorem dX5_ringBell_19 : decode cX5_ringBell 19 = .ok (.aload_n 0, 1) := by decide +kernel
theorem dX5_ringBell_20 : decode cX5_ringBell 20 = .ok (.getfield 10, 3) := by decide +kernel
theorem dX5_ringBell_23 : decode cX5_ringBell 23 = .ok (.getfield 137, 3) := by decide +kernel
theorem dX5_ringBell_26 : decode cX5_ringBell 26 = .ok (.invokevirtual 171, 3) := by decide +kernel
theorem dX5_ringBell_29 : decode cX5_ringBell 29 = .ok (.if_icmp .ge 41, 3) := by decide +kernel
theorem dX5_ringBell_32 : decode cX5_ringBell 32 = .ok (.aload_n 0, 1) := by decide +kernel
theorem dX5_ringBell_33 : decode cX5_ringBell 33 = .ok (.getfield 10, 3) := by decide +kernel
theorem dX5_ringBell_36 : decode cX5_ringBell 36 = .ok (.iload_n 3, 1) := by decide +kernel
theorem dX5_ringBell_37 : decode cX5_ringBell 37 = .ok (.iload_n 1, 1) := by decide +kernel
theorem dX5_ringBell_38 : decode cX5_ringBell 38 = .ok (.invokevirtual 374, 3) := by decide +kernel
theorem dX5_ringBell_41 : decode cX5_ringBell 41 = .ok (.iload_n 2, 1) := by decide +kernel
theorem dX5_ringBell_42 : decode cX5_ringBell 42 = .ok (.aload_n 0, 1) := by decide +kernel
theorem dX5_ringBell_43 : decode cX5_ringBell 43 = .ok (.getfield 10, 3) := by decide +kernel
theorem dX5_ringBell_46 : decode cX5_ringBell 46 = .ok (.getfield 137, 3) := by decide +kernel
theorem dX5_ringBell_49 : decode cX5_ringBell 49 = .ok (.iload_n 3, 1) := by decide +kernel
theorem dX5_ringBell_50 : decode cX5_ringBell 50 = .ok (.invokevirtual 120, 3) := by decide +kernel
theorem dX5_ringBell_53 : decode cX5_ringBell 53 = .ok (.iload_n 1, 1) := by decide +kernel
theorem dX5_ringBell_54 : decode cX5_ringBell 54 = .ok (.if_icmp .ne 7, 3) := by decide +kernel
theorem dX5_ringBell_57 : decode cX5_ringBell 57 = .ok (.iconst 1, 1) := by decide +kernel
theorem dX5_ringBell_58 : decode cX5_ringBell 58 = .ok (.goto 4, 3) := by decide +kernel
theorem dX5_ringBell_61 : decode cX5_ringBell 61 = .ok (.iconst 0, 1) := by decide +kernel
theorem dX5_ringBell_62 : decode cX5_ringBell 62 = .ok (.iadd, 1) := by decide +kernel
theorem dX5_ringBell_63 : decode cX5_ringBell 63 = .ok (.istore_n 2, 1) := by decide +kernel
theorem dX5_ringBell_64 : decode cX5_ringBell 64 = .ok (.iinc 3 1, 3) := by decide +kernel
theorem dX5_ringBell_67 : decode cX5_ringBell 67 = .ok (.goto (-49), 3) := by decide +kernel
theorem dX5_ringBell_70 : decode cX5_ringBell 70 = .ok (.iload_n 2, 1) := by decide +kernel
theorem dX5_ringBell_71 : decode cX5_ringBell 71 = .ok (.ireturn, 1) := by decide +kernel
theorem dX5_tieCamel_0 : decode cX5_tieCamel 0 = .ok (.aload_n 0, 1) := by decide +kernel
theorem dX5_tieCamel_1 : decode cX5_tieCamel 1 = .ok (.getfield 10, 3) := by decide +kernel
theorem dX5_tieCamel_4 : decode cX5_tieCamel 4 = .ok (.getfield 137, 3) := by decide +kernel
theorem dX5_tieCamel_7 : decode cX5_tieCamel 7 = .ok (.iload_n 1, 1) := by decide +kernel
theorem dX5_tieCamel_8 : decode cX5_tieCamel 8 = .ok (.invokevirtual 362, 3) := by decide +kernel
theorem dX5_tieCamel_11 : decode cX5_tieCamel 11 = .ok (.ifCond .ne 10, 3) := by decide +kernel
theorem dX5_tieCamel_14 : decode cX5_tieCamel 14 = .ok (.aload_n 0, 1) := by decide +kernel
theorem dX5_tieCamel_15 : decode cX5_tieCamel 15 = .ok (.iconst 3, 1) := by decide +kernel
theorem dX5_tieCamel_16 : decode cX5_tieCamel 16 = .ok (.iload_n 1, 1) := by decide +kernel
theorem dX5_tieCamel_17 : decode cX5_tieCamel 17 = .ok (.invokevirtual 352, 3) := by decide +kernel
theorem dX5_tieCamel_20 : decode cX5_tieCamel 20 = .ok (.ireturn, 1) := by decide +kernel
theorem dX5_tieCamel_21 : decode cX5_tieCamel 21 = .ok (.aload_n 0, 1) := by decide +kernel
theorem dX5_tieCamel_22 : decode cX5_tieCamel 22 = .ok (.getfield 10, 3) := by decide +kernel
theorem dX5_tieCamel_25 : decode cX5_tieCamel 25 = .ok (.iload_n 1, 1) := by decide +kernel
theorem dX5_tieCamel_26 : decode cX5_tieCamel 26 = .ok (.invokevirtual 146, 3) := by decide +kernel
theorem dX5_tieCamel_29 : decode cX5_tieCamel 29 = .ok (.ifCond .eq 21, 3) := by decide +kernel
theorem dX5_tieCamel_32 : decode cX5_tieCamel 32 = .ok (.aload_n 0, 1) := by decide +kernel
theorem dX5_tieCamel_33 : decode cX5_tieCamel 33 = .ok (.bipush 8, 2) := by decide +kernel
theorem dX5_tieCamel_35 : decode cX5_tieCamel 35 = .ok (.aload_n 0, 1) := by decide +kernel
theorem dX5_tieCamel_36 : decode cX5_tieCamel 36 = .ok (.getfield 10, 3) := by decide +kernel
theorem dX5_tieCamel_39 : decode cX5_tieCamel 39 = .ok (.getfield 137, 3) := by decide +kernel
theorem dX5_tieCamel_42 : decode cX5_tieCamel 42 = .ok (.iload_n 1, 1) := by decide +kernel
theorem dX5_tieCamel_43 : decode cX5_tieCamel 43 = .ok (.invokevirtual 120, 3) := by decide +kernel
theorem dX5_tieCamel_46 : decode cX5_tieCamel 46 = .ok (.invokevirtual 352, 3) := by decide +kernel
theorem dX5_tieCamel_49 : decode cX5_tieCamel 49 = .ok (.ireturn, 1) := by decide +kernel
theorem dX5_tieCamel_50 : decode cX5_tieCamel 50 = .ok (.aload_n 0, 1) := by decide +kernel
theorem dX5_tieCamel_51 : decode cX5_tieCamel 51 = .ok (.getfield 10, 3) := by decide +kernel
theorem dX5_tieCamel_54 : decode cX5_tieCamel 54 = .ok (.getfield 143, 3) := by decide +kernel
theorem dX5_tieCamel_57 : decode cX5_tieCamel 57 = .ok (.iload_n 1, 1) := by decide +kernel
theorem dX5_tieCamel_58 : decode cX5_tieCamel 58 = .ok (.invokevirtual 120, 3) := by decide +kernel
theorem dX5_tieCamel_61 : decode cX5_tieCamel 61 = .ok (.iconst 1, 1) := by decide +kernel
theorem dX5_tieCamel_62 : decode cX5_tieCamel 62 = .ok (.if_icmp .ne 11, 3) := by decide +kernel
theorem dX5_tieCamel_65 : decode cX5_tieCamel 65 = .ok (.aload_n 0, 1) := by decide +kernel
theorem dX5_tieCamel_66 : decode cX5_tieCamel 66 = .ok (.bipush 7, 2) := by decide +kernel
theorem dX5_tieCamel_68 : decode cX5_tieCamel 68 = .ok (.iload_n 1, 1) := by decide +kernel
theorem dX5_tieCamel_69 : decode cX5_tieCamel 69 = .ok (.invokevirtual 352, 3) := by decide +kernel
theorem dX5_tieCamel_72 : decode cX5_tieCamel 72 = .ok (.ireturn, 1) := by decide +kernel
theorem dX5_tieCamel_73 : decode cX5_tieCamel 73 = .ok (.aload_n 0, 1) := by decide +kernel
theorem dX5_tieCamel_74 : decode cX5_tieCamel 74 = .ok (.getfield 10, 3) := by decide +kernel
theorem dX5_tieCamel_77 : decode cX5_tieCamel 77 = .ok (.aload_n 0, 1) := by decide +kernel
theorem dX5_tieCamel_78 : decode cX5_tieCamel 78 = .ok (.getfield 10, 3) := by decide +kernel
theorem dX5_tieCamel_81 : decode cX5_tieCamel 81 = .ok (.getfield 137, 3) := by decide +kernel
theorem dX5_tieCamel_84 : decode cX5_tieCamel 84 = .ok (.iload_n 1, 1) := by decide +kernel
theorem dX5_tieCamel_85 : decode cX5_tieCamel 85 = .ok (.invokevirtual 120, 3) := by decide +kernel
theorem dX5_tieCamel_88 : decode cX5_tieCamel 88 = .ok (.invokevirtual 378, 3) := by decide +kernel
theorem dX5_tieCamel_91 : decode cX5_tieCamel 91 = .ok (.istore_n 2, 1) := by decide +kernel
theorem dX5_tieCamel_92 : decode cX5_tieCamel 92 = .ok (.iload_n 2, 1) := by decide +kernel
theorem dX5_tieCamel_93 : decode cX5_tieCamel 93 = .ok (.iconst (-1), 1) := by decide +kernel
theorem dX5_tieCamel_94 : decode cX5_tieCamel 94 = .ok (.if_icmp .eq 8, 3) := by decide +kernel
theorem dX5_tieCamel_97 : decode cX5_tieCamel 97 = .ok (.iload_n 2, 1) := by decide +kernel
theorem dX5_tieCamel_98 : decode cX5_tieCamel 98 = .ok (.iconst 5, 1) := by decide +kernel
theorem dX5_tieCamel_99 : decode cX5_tieCamel 99 = .ok (.if_icmp .le 20, 3) := by decide +kernel
theorem dX5_tieCamel_102 : decode cX5_tieCamel 102 = .ok (.aload_n 0, 1) := by decide +kernel
theorem dX5_tieCamel_103 : decode cX5_tieCamel 103 = .ok (.bipush 11, 2) := by decide +kernel
theorem dX5_tieCamel_105 : decode cX5_tieCamel 105 = .ok (.iload_n 2, 1) := by decide +kernel
theorem dX5_tieCamel_106 : decode cX5_tieCamel 106 = .ok (.iconst (-1), 1) := by decide +kernel
theorem dX5_tieCamel_107 : decode cX5_tieCamel 107 = .ok (.if_icmp .ne 7, 3) := by decide +kernel
theorem dX5_tieCamel_110 : decode cX5_tieCamel 110 = .ok (.iconst 0, 1) := by decide +kernel
theorem dX5_tieCamel_111 : decode cX5_tieCamel 111 = .ok (.goto 4, 3) := by decide +kernel
theorem dX5_tieCamel_114 : decode cX5_tieCamel 114 = .ok (.iload_n 2, 1) := by decide +kernel
theorem dX5_tieCamel_115 : decode cX5_tieCamel 115 = .ok (.invokevirtual 352, 3) := by decide +kernel
theorem dX5_tieCamel_118 : decode cX5_tieCamel 118 = .ok (.ireturn, 1) := by decide +kernel
theorem dX5_tieCamel_119 : decode cX5_tieCamel 119 = .ok (.aload_n 0, 1) := by decide +kernel
theorem dX5_tieCamel_120 : decode cX5_tieCamel 120 = .ok (.getfield 10, 3) := by decide +kernel
theorem dX5_tieCamel_123 : decode cX5_tieCamel 123 = .ok (.getfield 143, 3) := by decide +kernel
theorem dX5_tieCamel_126 : decode cX5_tieCamel 126 = .ok (.iload_n 1, 1) := by decide +kernel
theorem dX5_tieCamel_127 : decode cX5_tieCamel 127 = .ok (.iconst 1, 1) := by decide +kernel
theorem dX5_tieCamel_128 : decode cX5_tieCamel 128 = .ok (.invokevirtual 381, 3) := by decide +kernel
theorem dX5_tieCamel_131 : decode cX5_tieCamel 131 = .ok (.aload_n 0, 1) := by decide +kernel
theorem dX5_tieCamel_132 : decode cX5_tieCamel 132 = .ok (.getfield 10, 3) := by decide +kernel
theorem dX5_tieCamel_135 : decode cX5_tieCamel 135 = .ok (.getfield 143, 3) := by decide +kernel
theorem dX5_tieCamel_138 : decode cX5_tieCamel 138 = .ok (.invokevirtual 303, 3) := by decide +kernel
theorem dX5_tieCamel_141 : decode cX5_tieCamel 141 = .ok (.ireturn, 1) := by decide +kernel
theorem dX5_loosenCamel_0 : decode cX5_loosenCamel 0 = .ok (.aload_n 0, 1) := by decide +kernel
theorem dX5_loosenCamel_1 : decode cX5_loosenCamel 1 = .ok (.getfield 10, 3) := by decide +kernel
theorem dX5_loosenCamel_4 : decode cX5_loosenCamel 4 = .ok (.getfield 137, 3) := by decide +kernel
theorem dX5_loosenCamel_7 : decode cX5_loosenCamel 7 = .ok (.iload_n 1, 1) := by decide +kernel
theorem dX5_loosenCamel_8 : decode cX5_loosenCamel 8 = .ok (.invokevirtual 362, 3) := by decide +kernel
theorem dX5_loosenCamel_11 : decode cX5_loosenCamel 11 = .ok (.ifCond .ne 10, 3) := by decide +kernel
theorem dX5_loosenCamel_14 : decode cX5_loosenCamel 14 = .ok (.aload_n 0, 1) := by decide +kernel
theorem dX5_loosenCamel_15 : decode cX5_loosenCamel 15 = .ok (.iconst 3, 1) := by decide +kernel
theorem dX5_loosenCamel_16 : decode cX5_loosenCamel 16 = .ok (.iload_n 1, 1) := by decide +kernel
theorem dX5_loosenCamel_17 : decode cX5_loosenCamel 17 = .ok (.invokevirtual 352, 3) := by decide +kernel
theorem dX5_loosenCamel_20 : decode cX5_loosenCamel 20 = .ok (.ireturn, 1) := by decide +kernel
theorem dX5_loosenCamel_21 : decode cX5_loosenCamel 21 = .ok (.aload_n 0, 1) := by decide +kernel
theorem dX5_loosenCamel_22 : decode cX5_loosenCamel 22 = .ok (.getfield 10, 3) := by decide +kernel
theorem dX5_loosenCamel_25 : decode cX5_loosenCamel 25 = .ok (.getfield 143, 3) := by decide +kernel
theorem dX5_loosenCamel_28 : decode cX5_loosenCamel 28 = .ok (.iload_n 1, 1) := by decide +kernel
theorem dX5_loosenCamel_29 : decode cX5_loosenCamel 29 = .ok (.invokevirtual 120, 3) := by decide +kernel
theorem dX5_loosenCamel_32 : decode cX5_loosenCamel 32 = .ok (.ifCond .ne 11, 3) := by decide +kernel
theorem dX5_loosenCamel_35 : decode cX5_loosenCamel 35 = .ok (.aload_n 0, 1) := by decide +kernel
theorem dX5_loosenCamel_36 : decode cX5_loosenCamel 36 = .ok (.bipush 7, 2) := by decide +kernel
theorem dX5_loosenCamel_38 : decode cX5_loosenCamel 38 = .ok (.iload_n 1, 1) := by decide +kernel
theorem dX5_loosenCamel_39 : decode cX5_loosenCamel 39 = .ok (.invokevirtual 352, 3) := by decide +kernel
theorem dX5_loosenCamel_42 : decode cX5_loosenCamel 42 = .ok (.ireturn, 1) := by decide +kernel
theorem dX5_loosenCamel_43 : decode cX5_loosenCamel 43 = .ok (.aload_n 0, 1) := by decide +kernel
theorem dX5_loosenCamel_44 : decode cX5_loosenCamel 44 = .ok (.getfield 10, 3) := by decide +kernel
theorem dX5_loosenCamel_47 : decode cX5_loosenCamel 47 = .ok (.getfield 143, 3) := by decide +kernel
theorem dX5_loosenCamel_50 : decode cX5_loosenCamel 50 = .ok (.iload_n 1, 1) := by decide +kernel
theorem dX5_loosenCamel_51 : decode cX5_loosenCamel 51 = .ok (.iconst 0, 1) := by decide +kernel
theorem dX5_loosenCamel_52 : decode cX5_loosenCamel 52 = .ok (.invokevirtual 381, 3) := by decide +kernel
theorem dX5_loosenCamel_55 : decode cX5_loosenCamel 55 = .ok (.aload_n 0, 1) := by decide +kernel
theorem dX5_loosenCamel_56 : decode cX5_loosenCamel 56 = .ok (.getfield 10, 3) := by decide +kernel
theorem dX5_loosenCamel_59 : decode cX5_loosenCamel 59 = .ok (.getfield 143, 3) := by decide +kernel
theorem dX5_loosenCamel_62 : decode cX5_loosenCamel 62 = .ok (.invokevirtual 303, 3) := by decide +kernel
theorem dX5_loosenCamel_65 : decode cX5_loosenCamel 65 = .ok (.ireturn, 1) := by decide +kernel
theorem dX5_waterCamel_0 : decode cX5_waterCamel 0 = .ok (.aload_n 0, 1) := by decide +kernel
theorem dX5_waterCamel_1 : decode cX5_waterCamel 1 = .ok (.getfield 10, 3) := by decide +kernel
theorem dX5_waterCamel_4 : decode cX5_waterCamel 4 = .ok (.getfield 137, 3) := by decide +kernel
theorem dX5_waterCamel_7 : decode cX5_waterCamel 7 = .ok (.iload_n 1, 1) := by decide +kernel
theorem dX5_waterCamel_8 : decode cX5_waterCamel 8 = .ok (.invokevirtual 362, 3) := by decide +kernel
theorem dX5_waterCamel_11 : decode cX5_waterCamel 11 = .ok (.ifCond .ne 10, 3) := by decide +kernel
theorem dX5_waterCamel_14 : decode cX5_waterCamel 14 = .ok (.aload_n 0, 1) := by decide +kernel
theorem dX5_waterCamel_15 : decode cX5_waterCamel 15 = .ok (.iconst 3, 1) := by decide +kernel
theorem dX5_waterCamel_16 : decode cX5_waterCamel 16 = .ok (.iload_n 1, 1) := by decide +kernel
theorem dX5_waterCamel_17 : decode cX5_waterCamel 17 = .ok (.invokevirtual 352, 3) := by decide +kernel
theorem dX5_waterCamel_20 : decode cX5_waterCamel 20 = .ok (.ireturn, 1) := by decide +kernel
theorem dX5_waterCamel_21 : decode cX5_waterCamel 21 = .ok (.aload_n 0, 1) := by decide +kernel
theorem dX5_waterCamel_22 : decode cX5_waterCamel 22 = .ok (.getfield 10, 3) := by decide +kernel
theorem dX5_waterCamel_25 : decode cX5_waterCamel 25 = .ok (.iload_n 1, 1) := by decide +kernel
theorem dX5_waterCamel_26 : decode cX5_waterCamel 26 = .ok (.invokevirtual 146, 3) := by decide +kernel
theorem dX5_waterCamel_29 : decode cX5_waterCamel 29 = .ok (.ifCond .eq 21, 3) := by decide +kernel
theorem dX5_waterCamel_32 : decode cX5_waterCamel 32 = .ok (.aload_n 0, 1) := by decide +kernel
theorem dX5_waterCamel_33 : decode cX5_waterCamel 33 = .ok (.bipush 8, 2) := by decide +kernel
theorem dX5_waterCamel_35 : decode cX5_waterCamel 35 = .ok (.aload_n 0, 1) := by decide +kernel
theorem dX5_waterCamel_36 : decode cX5_waterCamel 36 = .ok (.getfield 10, 3) := by decide +kernel
theorem dX5_waterCamel_39 : decode cX5_waterCamel 39 = .ok (.getfield 137, 3) := by decide +kernel
theorem dX5_waterCamel_42 : decode cX5_waterCamel 42 = .ok (.iload_n 1, 1) := by decide +kernel
theorem dX5_waterCamel_43 : decode cX5_waterCamel 43 = .ok (.invokevirtual 120, 3) := by decide +kernel
theorem dX5_waterCamel_46 : decode cX5_waterCamel 46 = .ok (.invokevirtual 352, 3) := by decide +kernel
theorem dX5_waterCamel_49 : decode cX5_waterCamel 49 = .ok (.ireturn, 1) := by decide +kernel
theorem dX5_waterCamel_50 : decode cX5_waterCamel 50 = .ok (.aload_n 0, 1) := by decide +kernel
theorem dX5_waterCamel_51 : decode cX5_waterCamel 51 = .ok (.getfield 10, 3) := by decide +kernel
theorem dX5_waterCamel_54 : decode cX5_waterCamel 54 = .ok (.getfield 140, 3) := by decide +kernel
theorem dX5_waterCamel_57 : decode cX5_waterCamel 57 = .ok (.iload_n 1, 1) := by decide +kernel
theorem dX5_waterCamel_58 : decode cX5_waterCamel 58 = .ok (.invokevirtual 120, 3) := by decide +kernel
theorem dX5_waterCamel_61 : decode cX5_waterCamel 61 = .ok (.istore_n 2, 1) := by decide +kernel
theorem dX5_waterCamel_62 : decode cX5_waterCamel 62 = .ok (.iload_n 2, 1) := by decide +kernel
theorem dX5_waterCamel_63 : decode cX5_waterCamel 63 = .ok (.ifCond .ne 11, 3) := by decide +kernel
theorem dX5_waterCamel_66 : decode cX5_waterCamel 66 = .ok (.aload_n 0, 1) := by decide +kernel
theorem dX5_waterCamel_67 : decode cX5_waterCamel 67 = .ok (.bipush 10, 2) := by decide +kernel
theorem dX5_waterCamel_69 : decode cX5_waterCamel 69 = .ok (.iload_n 1, 1) := by decide +kernel
theorem dX5_waterCamel_70 : decode cX5_waterCamel 70 = .ok (.invokevirtual 352, 3) := by decide +kernel
theorem dX5_waterCamel_73 : decode cX5_waterCamel 73 = .ok (.ireturn, 1) := by decide +kernel
theorem dX5_waterCamel_74 : decode cX5_waterCamel 74 = .ok (.iload_n 2, 1) := by decide +kernel
theorem dX5_waterCamel_75 : decode cX5_waterCamel 75 = .ok (.iconst 1, 1) := by decide +kernel
theorem dX5_waterCamel_76 : decode cX5_waterCamel 76 = .ok (.iadd, 1) := by decide +kernel
theorem dX5_waterCamel_77 : decode cX5_waterCamel 77 = .ok (.iconst 2, 1) := by decide +kernel
theorem dX5_waterCamel_78 : decode cX5_waterCamel 78 = .ok (.idiv, 1) := by decide +kernel
theorem dX5_waterCamel_79 : decode cX5_waterCamel 79 = .ok (.istore_n 3, 1) := by decide +kernel
theorem dX5_waterCamel_80 : decode cX5_waterCamel 80 = .ok (.iload_n 3, 1) := by decide +kernel
theorem dX5_waterCamel_81 : decode cX5_waterCamel 81 = .ok (.aload_n 0, 1) := by decide +kernel
theorem dX5_waterCamel_82 : decode cX5_waterCamel 82 = .ok (.getfield 10, 3) := by decide +kernel
theorem dX5_waterCamel_85 : decode cX5_waterCamel 85 = .ok (.getfield 321, 3) := by decide +kernel
theorem dX5_waterCamel_88 : decode cX5_waterCamel 88 = .ok (.if_icmp .le 19, 3) := by decide +kernel
theorem dX5_waterCamel_91 : decode cX5_waterCamel 91 = .ok (.aload_n 0, 1) := by decide +kernel
theorem dX5_waterCamel_92 : decode cX5_waterCamel 92 = .ok (.bipush 9, 2) := by decide +kernel
theorem dX5_waterCamel_94 : decode cX5_waterCamel 94 = .ok (.iload_n 3, 1) := by decide +kernel
theorem dX5_waterCamel_95 : decode cX5_waterCamel 95 = .ok (.aload_n 0, 1) := by decide +kernel
theorem dX5_waterCamel_96 : decode cX5_waterCamel 96 = .ok (.getfield 10, 3) := by decide +kernel
theorem dX5_waterCamel_99 : decode cX5_waterCamel 99 = .ok (.getfield 321, 3) := by decide +kernel
theorem dX5_waterCamel_102 : decode cX5_waterCamel 102 = .ok (.isub, 1) := by decide +kernel
theorem dX5_waterCamel_103 : decode cX5_waterCamel 103 = .ok (.invokevirtual 352, 3) := by decide +kernel
theorem dX5_waterCamel_106 : decode cX5_waterCamel 106 = .ok (.ireturn, 1) := by decide +kernel
theorem dX5_waterCamel_107 : decode cX5_waterCamel 107 = .ok (.aload_n 0, 1) := by decide +kernel
theorem dX5_waterCamel_108 : decode cX5_waterCamel 108 = .ok (.getfield 10, 3) := by decide +kernel
theorem dX5_waterCamel_111 : decode cX5_waterCamel 111 = .ok (.dup, 1) := by decide +kernel
theorem dX5_waterCamel_112 : decode cX5_waterCamel 112 = .ok (.getfield 321, 3) := by decide +kernel
theorem dX5_waterCamel_115 : decode cX5_waterCamel 115 = .ok (.iload_n 3, 1) := by decide +kernel
theorem dX5_waterCamel_116 : decode cX5_waterCamel 116 = .ok (.isub, 1) := by decide +kernel
theorem dX5_waterCamel_117 : decode cX5_waterCamel 117 = .ok (.putfield 321, 3) := by decide +kernel
theorem dX5_waterCamel_120 : decode cX5_waterCamel 120 = .ok (.aload_n 0, 1) := by decide +kernel
theorem dX5_waterCamel_121 : decode cX5_waterCamel 121 = .ok (.getfield 10, 3) := by decide +kernel
theorem dX5_waterCamel_124 : decode cX5_waterCamel 124 = .ok (.getfield 140, 3) := by decide +kernel
theorem dX5_waterCamel_127 : decode cX5_waterCamel 127 = .ok (.iload_n 1, 1) := by decide +kernel
theorem dX5_waterCamel_128 : decode cX5_waterCamel 128 = .ok (.iconst 0, 1) := by decide +kernel
theorem dX5_waterCamel_129 : decode cX5_waterCamel 129 = .ok (.invokevirtual 381, 3) := by decide +kernel
theorem dX5_waterCamel_132 : decode cX5_waterCamel 132 = .ok (.aload_n 0, 1) := by decide +kernel
theorem dX5_waterCamel_133 : decode cX5_waterCamel 133 = .ok (.getfield 10, 3) := by decide +kernel
theorem dX5_waterCamel_136 : decode cX5_waterCamel 136 = .ok (.getfield 150, 3) := by decide +kernel
theorem dX5_waterCamel_139 : decode cX5_waterCamel 139 = .ok (.iload_n 1, 1) := by decide +kernel
theorem dX5_waterCamel_140 : decode cX5_waterCamel 140 = .ok (.aload_n 0, 1) := by decide +kernel
theorem dX5_waterCamel_141 : decode cX5_waterCamel 141 = .ok (.getfield 10, 3) := by decide +kernel
theorem dX5_waterCamel_144 : decode cX5_waterCamel 144 = .ok (.getfield 150, 3) := by decide +kernel
theorem dX5_waterCamel_147 : decode cX5_waterCamel 147 = .ok (.iload_n 1, 1) := by decide +kernel
theorem dX5_waterCamel_148 : decode cX5_waterCamel 148 = .ok (.invokevirtual 120, 3) := by decide +kernel
theorem dX5_waterCamel_151 : decode cX5_waterCamel 151 = .ok (.iload_n 3, 1) := by decide +kernel
theorem dX5_waterCamel_152 : decode cX5_waterCamel 152 = .ok (.iadd, 1) := by decide +kernel
theorem dX5_waterCamel_153 : decode cX5_waterCamel 153 = .ok (.invokevirtual 381, 3) := by decide +kernel
theorem dX5_waterCamel_156 : decode cX5_waterCamel 156 = .ok (.aload_n 0, 1) := by decide +kernel
theorem dX5_waterCamel_157 : decode cX5_waterCamel 157 = .ok (.getfield 10, 3) := by decide +kernel
theorem dX5_waterCamel_160 : decode cX5_waterCamel 160 = .ok (.getfield 321, 3) := by decide +kernel
theorem dX5_waterCamel_163 : decode cX5_waterCamel 163 = .ok (.ireturn, 1) := by decide +kernel
theorem dX5_bringWater_0 : decode cX5_bringWater 0 = .ok (.iload_n 1, 1) := by decide +kernel
theorem dX5_bringWater_1 : decode cX5_bringWater 1 = .ok (.iconst 1, 1) := by decide +kernel
theorem dX5_bringWater_2 : decode cX5_bringWater 2 = .ok (.if_icmp .lt 9, 3) := by decide +kernel
theorem dX5_bringWater_5 : decode cX5_bringWater 5 = .ok (.iload_n 1, 1) := by decide +kernel
theorem dX5_bringWater_6 : decode cX5_bringWater 6 = .ok (.bipush 100, 2) := by decide +kernel
theorem dX5_bringWater_8 : decode cX5_bringWater 8 = .ok (.if_icmp .le 10, 3) := by decide +kernel
theorem dX5_bringWater_11 : decode cX5_bringWater 11 = .ok (.aload_n 0, 1) := by decide +kernel
theorem dX5_bringWater_12 : decode cX5_bringWater 12 = .ok (.iconst 1, 1) := by decide +kernel
theorem dX5_bringWater_13 : decode cX5_bringWater 13 = .ok (.iconst 0, 1) := by decide +kernel
theorem dX5_bringWater_14 : decode cX5_bringWater 14 = .ok (.invokevirtual 352, 3) := by decide +kernel
theorem dX5_bringWater_17 : decode cX5_bringWater 17 = .ok (.ireturn, 1) := by decide +kernel
theorem dX5_bringWater_18 : decode cX5_bringWater 18 = .ok (.aload_n 0, 1) := by decide +kernel
theorem dX5_bringWater_19 : decode cX5_bringWater 19 = .ok (.getfield 10, 3) := by decide +kernel
theorem dX5_bringWater_22 : decode cX5_bringWater 22 = .ok (.getfield 321, 3) := by decide +kernel
theorem dX5_bringWater_25 : decode cX5_bringWater 25 = .ok (.iload_n 1, 1) := by decide +kernel
theorem dX5_bringWater_26 : decode cX5_bringWater 26 = .ok (.iadd, 1) := by decide +kernel
theorem dX5_bringWater_27 : decode cX5_bringWater 27 = .ok (.sipush 200, 3) := by decide +kernel
theorem dX5_bringWater_30 : decode cX5_bringWater 30 = .ok (.if_icmp .le 12, 3) := by decide +kernel
theorem dX5_bringWater_33 : decode cX5_bringWater 33 = .ok (.aload_n 0, 1) := by decide +kernel
theorem dX5_bringWater_34 : decode cX5_bringWater 34 = .ok (.iconst 2, 1) := by decide +kernel
theorem dX5_bringWater_35 : decode cX5_bringWater 35 = .ok (.sipush 200, 3) := by decide +kernel
theorem dX5_bringWater_38 : decode cX5_bringWater 38 = .ok (.invokevirtual 352, 3) := by decide +kernel
theorem dX5_bringWater_41 : decode cX5_bringWater 41 = .ok (.ireturn, 1) := by decide +kernel
theorem dX5_bringWater_42 : decode cX5_bringWater 42 = .ok (.aload_n 0, 1) := by decide +kernel
theorem dX5_bringWater_43 : decode cX5_bringWater 43 = .ok (.getfield 10, 3) := by decide +kernel
theorem dX5_bringWater_46 : decode cX5_bringWater 46 = .ok (.dup, 1) := by decide +kernel
theorem dX5_bringWater_47 : decode cX5_bringWater 47 = .ok (.getfield 321, 3) := by decide +kernel
theorem dX5_bringWater_50 : decode cX5_bringWater 50 = .ok (.iload_n 1, 1) := by decide +kernel
theorem dX5_bringWater_51 : decode cX5_bringWater 51 = .ok (.iadd, 1) := by decide +kernel
theorem dX5_bringWater_52 : decode cX5_bringWater 52 = .ok (.putfield 321, 3) := by decide +kernel
theorem dX5_bringWater_55 : decode cX5_bringWater 55 = .ok (.aload_n 0, 1) := by decide +kernel
theorem dX5_bringWater_56 : decode cX5_bringWater 56 = .ok (.getfield 10, 3) := by decide +kernel
theorem dX5_bringWater_59 : decode cX5_bringWater 59 = .ok (.getfield 321, 3) := by decide +kernel
theorem dX5_bringWater_62 : decode cX5_bringWater 62 = .ok (.ireturn, 1) := by decide +kernel
theorem dX5_passHours_0 : decode cX5_passHours 0 = .ok (.iload_n 1, 1) := by decide +kernel
theorem dX5_passHours_1 : decode cX5_passHours 1 = .ok (.iconst 1, 1) := by decide +kernel
theorem dX5_passHours_2 : decode cX5_passHours 2 = .ok (.if_icmp .lt 9, 3) := by decide +kernel
theorem dX5_passHours_5 : decode cX5_passHours 5 = .ok (.iload_n 1, 1) := by decide +kernel
theorem dX5_passHours_6 : decode cX5_passHours 6 = .ok (.bipush 48, 2) := by decide +kernel
theorem dX5_passHours_8 : decode cX5_passHours 8 = .ok (.if_icmp .le 10, 3) := by decide +kernel
theorem dX5_passHours_11 : decode cX5_passHours 11 = .ok (.aload_n 0, 1) := by decide +kernel
theorem dX5_passHours_12 : decode cX5_passHours 12 = .ok (.iconst 1, 1) := by decide +kernel
theorem dX5_passHours_13 : decode cX5_passHours 13 = .ok (.iconst 0, 1) := by decide +kernel
theorem dX5_passHours_14 : decode cX5_passHours 14 = .ok (.invokevirtual 352, 3) := by decide +kernel
theorem dX5_passHours_17 : decode cX5_passHours 17 = .ok (.ireturn, 1) := by decide +kernel
theorem dX5_passHours_18 : decode cX5_passHours 18 = .ok (.aload_n 0, 1) := by decide +kernel
theorem dX5_passHours_19 : decode cX5_passHours 19 = .ok (.getfield 10, 3) := by decide +kernel
theorem dX5_passHours_22 : decode cX5_passHours 22 = .ok (.invokevirtual 318, 3) := by decide +kernel
theorem dX5_passHours_25 : decode cX5_passHours 25 = .ok (.istore_n 2, 1) := by decide +kernel
theorem dX5_passHours_26 : decode cX5_passHours 26 = .ok (.iconst 0, 1) := by decide +kernel
theorem dX5_passHours_27 : decode cX5_passHours 27 = .ok (.istore_n 3, 1) := by decide +kernel
theorem dX5_passHours_28 : decode cX5_passHours 28 = .ok (.iload_n 3, 1) := by decide +kernel
theorem dX5_passHours_29 : decode cX5_passHours 29 = .ok (.iload_n 1, 1) := by decide +kernel
theorem dX5_passHours_30 : decode cX5_passHours 30 = .ok (.if_icmp .ge 16, 3) := by decide +kernel
theorem dX5_passHours_33 : decode cX5_passHours 33 = .ok (.aload_n 0, 1) := by decide +kernel
theorem dX5_passHours_34 : decode cX5_passHours 34 = .ok (.getfield 10, 3) := by decide +kernel
theorem dX5_passHours_37 : decode cX5_passHours 37 = .ok (.invokevirtual 384, 3) := by decide +kernel
theorem dX5_passHours_40 : decode cX5_passHours 40 = .ok (.iinc 3 1, 3) := by decide +kernel
theorem dX5_passHours_43 : decode cX5_passHours 43 = .ok (.goto (-15), 3) := by decide +kernel
theorem dX5_passHours_46 : decode cX5_passHours 46 = .ok (.aload_n 0, 1) := by decide +kernel
theorem dX5_passHours_47 : decode cX5_passHours 47 = .ok (.getfield 10, 3) := by decide +kernel
theorem dX5_passHours_50 : decode cX5_passHours 50 = .ok (.invokevirtual 318, 3) := by decide +kernel
theorem dX5_passHours_53 : decode cX5_passHours 53 = .ok (.iload_n 2, 1) := by decide +kernel
theorem dX5_passHours_54 : decode cX5_passHours 54 = .ok (.isub, 1) := by decide +kernel
theorem dX5_passHours_55 : decode cX5_passHours 55 = .ok (.ireturn, 1) := by decide +kernel
theorem dX5_isPlace_0 : decode cX5_isPlace 0 = .ok (.iload_n 0, 1) := by decide +kernel
theorem dX5_isPlace_1 : decode cX5_isPlace 1 = .ok (.ifCond .lt 13, 3) := by decide +kernel
theorem dX5_isPlace_4 : decode cX5_isPlace 4 = .ok (.iload_n 0, 1) := by decide +kernel
theorem dX5_isPlace_5 : decode cX5_isPlace 5 = .ok (.bipush 100, 2) := by decide +kernel
theorem dX5_isPlace_7 : decode cX5_isPlace 7 = .ok (.if_icmp .ge 7, 3) := by decide +kernel
theorem dX5_isPlace_10 : decode cX5_isPlace 10 = .ok (.iconst 1, 1) := by decide +kernel
theorem dX5_isPlace_11 : decode cX5_isPlace 11 = .ok (.goto 4, 3) := by decide +kernel
theorem dX5_isPlace_14 : decode cX5_isPlace 14 = .ok (.iconst 0, 1) := by decide +kernel
theorem dX5_isPlace_15 : decode cX5_isPlace 15 = .ok (.ireturn, 1) := by decide +kernel
theorem dX5_nearestPlace_0 : decode cX5_nearestPlace 0 = .ok (.iconst 0, 1) := by decide +kernel
theorem dX5_nearestPlace_1 : decode cX5_nearestPlace 1 = .ok (.bipush 99, 2) := by decide +kernel
theorem dX5_nearestPlace_3 : decode cX5_nearestPlace 3 = .ok (.iload_n 0, 1) := by decide +kernel
theorem dX5_nearestPlace_4 : decode cX5_nearestPlace 4 = .ok (.invokestatic 387, 3) := by decide +kernel
theorem dX5_nearestPlace_7 : decode cX5_nearestPlace 7 = .ok (.invokestatic 390, 3) := by decide +kernel
theorem dX5_nearestPlace_10 : decode cX5_nearestPlace 10 = .ok (.ireturn, 1) := by decide +kernel
theorem dX5_wayTo_0 : decode cX5_wayTo 0 = .ok (.iload_n 0, 1) := by decide +kernel
theorem dX5_wayTo_1 : decode cX5_wayTo 1 = .ok (.iload_n 1, 1) := by decide +kernel
theorem dX5_wayTo_2 : decode cX5_wayTo 2 = .ok (.if_icmp .gt 7, 3) := by decide +kernel
theorem dX5_wayTo_5 : decode cX5_wayTo 5 = .ok (.iconst 1, 1) := by decide +kernel
theorem dX5_wayTo_6 : decode cX5_wayTo 6 = .ok (.goto 4, 3) := by decide +kernel
theorem dX5_wayTo_9 : decode cX5_wayTo 9 = .ok (.iconst (-1), 1) := by decide +kernel
theorem dX5_wayTo_10 : decode cX5_wayTo 10 = .ok (.ireturn, 1) := by decide +kernel
theorem dX5_needStake_0 : decode cX5_needStake 0 = .ok (.aload_n 0, 1) := by decide +kernel
theorem dX5_needStake_1 : decode cX5_needStake 1 = .ok (.getfield 10, 3) := by decide +kernel
theorem dX5_needStake_4 : decode cX5_needStake 4 = .ok (.getfield 116, 3) := by decide +kernel
theorem dX5_needStake_7 : decode cX5_needStake 7 = .ok (.iload_n 1, 1) := by decide +kernel
theorem dX5_needStake_8 : decode cX5_needStake 8 = .ok (.invokevirtual 362, 3) := by decide +kernel
theorem dX5_needStake_11 : decode cX5_needStake 11 = .ok (.ifCond .ne 14, 3) := by decide +kernel
theorem dX5_needStake_14 : decode cX5_needStake 14 = .ok (.new 291, 3) := by decide +kernel
theorem dX5_needStake_17 : decode cX5_needStake 17 = .ok (.dup, 1) := by decide +kernel
theorem dX5_needStake_18 : decode cX5_needStake 18 = .ok (.ldc_w 393, 3) := by decide +kernel
theorem dX5_needStake_21 : decode cX5_needStake 21 = .ok (.invokespecial 295, 3) := by decide +kernel
theorem dX5_needStake_24 : decode cX5_needStake 24 = .ok (.athrow, 1) := by decide +kernel
theorem dX5_needStake_25 : decode cX5_needStake 25 = .ok (.return_, 1) := by decide +kernel
theorem dX5_needPost_0 : decode cX5_needPost 0 = .ok (.aload_n 0, 1) := by decide +kernel
theorem dX5_needPost_1 : decode cX5_needPost 1 = .ok (.getfield 10, 3) := by decide +kernel
theorem dX5_needPost_4 : decode cX5_needPost 4 = .ok (.getfield 131, 3) := by decide +kernel
theorem dX5_needPost_7 : decode cX5_needPost 7 = .ok (.iload_n 1, 1) := by decide +kernel
theorem dX5_needPost_8 : decode cX5_needPost 8 = .ok (.invokevirtual 362, 3) := by decide +kernel
theorem dX5_needPost_11 : decode cX5_needPost 11 = .ok (.ifCond .ne 14, 3) := by decide +kernel
theorem dX5_needPost_14 : decode cX5_needPost 14 = .ok (.new 291, 3) := by decide +kernel
theorem dX5_needPost_17 : decode cX5_needPost 17 = .ok (.dup, 1) := by decide +kernel
theorem dX5_needPost_18 : decode cX5_needPost 18 = .ok (.ldc_w 395, 3) := by decide +kernel
theorem dX5_needPost_21 : decode cX5_needPost 21 = .ok (.invokespecial 295, 3) := by decide +kernel
theorem dX5_needPost_24 : decode cX5_needPost 24 = .ok (.athrow, 1) := by decide +kernel
theorem dX5_needPost_25 : decode cX5_needPost 25 = .ok (.return_, 1) := by decide +kernel
theorem dX5_needSheet_0 : decode cX5_needSheet 0 = .ok (.aload_n 0, 1) := by decide +kernel
theorem dX5_needSheet_1 : decode cX5_needSheet 1 = .ok (.getfield 10, 3) := by decide +kernel
theorem dX5_needSheet_4 : decode cX5_needSheet 4 = .ok (.iload_n 1, 1) := by decide +kernel
theorem dX5_needSheet_5 : decode cX5_needSheet 5 = .ok (.invokevirtual 365, 3) := by decide +kernel
theorem dX5_needSheet_8 : decode cX5_needSheet 8 = .ok (.ifCond .ne 14, 3) := by decide +kernel
theorem dX5_needSheet_11 : decode cX5_needSheet 11 = .ok (.new 291, 3) := by decide +kernel
theorem dX5_needSheet_14 : decode cX5_needSheet 14 = .ok (.dup, 1) := by decide +kernel
theorem dX5_needSheet_15 : decode cX5_needSheet 15 = .ok (.ldc_w 397, 3) := by decide +kernel
theorem dX5_needSheet_18 : decode cX5_needSheet 18 = .ok (.invokespecial 295, 3) := by decide +kernel
theorem dX5_needSheet_21 : decode cX5_needSheet 21 = .ok (.athrow, 1) := by decide +kernel
theorem dX5_needSheet_22 : decode cX5_needSheet 22 = .ok (.return_, 1) := by decide +kernel
theorem dX5_needCamel_0 : decode cX5_needCamel 0 = .ok (.aload_n 0, 1) := by decide +kernel
theorem dX5_needCamel_1 : decode cX5_needCamel 1 = .ok (.getfield 10, 3) := by decide +kernel
theorem dX5_needCamel_4 : decode cX5_needCamel 4 = .ok (.getfield 137, 3) := by decide +kernel
theorem dX5_needCamel_7 : decode cX5_needCamel 7 = .ok (.iload_n 1, 1) := by decide +kernel
theorem dX5_needCamel_8 : decode cX5_needCamel 8 = .ok (.invokevirtual 362, 3) := by decide +kernel
theorem dX5_needCamel_11 : decode cX5_needCamel 11 = .ok (.ifCond .ne 14, 3) := by decide +kernel
theorem dX5_needCamel_14 : decode cX5_needCamel 14 = .ok (.new 291, 3) := by decide +kernel
theorem dX5_needCamel_17 : decode cX5_needCamel 17 = .ok (.dup, 1) := by decide +kernel
theorem dX5_needCamel_18 : decode cX5_needCamel 18 = .ok (.ldc_w 399, 3) := by decide +kernel
theorem dX5_needCamel_21 : decode cX5_needCamel 21 = .ok (.invokespecial 295, 3) := by decide +kernel
theorem dX5_needCamel_24 : decode cX5_needCamel 24 = .ok (.athrow, 1) := by decide +kernel
theorem dX5_needCamel_25 : decode cX5_needCamel 25 = .ok (.return_, 1) := by decide +kernel
