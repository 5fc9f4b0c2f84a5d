theorem dX5_lowest_36 : decode cX5_lowest 36 = .ok (.iinc 2 1, 3) := by decide +kernel
theorem dX5_lowest_39 : decode cX5_lowest 39 = .ok (.goto (-35), 3) := by decide +kernel
theorem dX5_lowest_42 : decode cX5_lowest 42 = .ok (.iload_n 1, 1) := by decide +kernel
theorem dX5_lowest_43 : decode cX5_lowest 43 = .ok (.ireturn, 1) := by decide +kernel
theorem dX5_highest_0 : decode cX5_highest 0 = .ok (.iconst (-1), 1) := by decide +kernel
theorem dX5_highest_1 : decode cX5_highest 1 = .ok (.istore_n 1, 1) := by decide +kernel
theorem dX5_highest_2 : decode cX5_highest 2 = .ok (.iconst 0, 1) := by decide +kernel
theorem dX5_highest_3 : decode cX5_highest 3 = .ok (.istore_n 2, 1) := by decide +kernel
theorem dX5_highest_4 : decode cX5_highest 4 = .ok (.iload_n 2, 1) := by decide +kernel
theorem dX5_highest_5 : decode cX5_highest 5 = .ok (.aload_n 0, 1) := by decide +kernel
theorem dX5_highest_6 : decode cX5_highest 6 = .ok (.getfield 25, 3) := by decide +kernel
theorem dX5_highest_9 : decode cX5_highest 9 = .ok (.if_icmp .ge 20, 3) := by decide +kernel
theorem dX5_highest_12 : decode cX5_highest 12 = .ok (.iload_n 1, 1) := by decide +kernel
theorem dX5_highest_13 : decode cX5_highest 13 = .ok (.aload_n 0, 1) := by decide +kernel
theorem dX5_highest_14 : decode cX5_highest 14 = .ok (.getfield 15, 3) := by decide +kernel
theorem dX5_highest_17 : decode cX5_highest 17 = .ok (.iload_n 2, 1) := by decide +kernel
theorem dX5_highest_18 : decode cX5_highest 18 = .ok (.iaload, 1) := by decide +kernel
theorem dX5_highest_19 : decode cX5_highest 19 = .ok (.invokestatic 47, 3) := by decide +kernel
theorem dX5_highest_22 : decode cX5_highest 22 = .ok (.istore_n 1, 1) := by decide +kernel
theorem dX5_highest_23 : decode cX5_highest 23 = .ok (.iinc 2 1, 3) := by decide +kernel
theorem dX5_highest_26 : decode cX5_highest 26 = .ok (.goto (-22), 3) := by decide +kernel
theorem dX5_highest_29 : decode cX5_highest 29 = .ok (.iload_n 1, 1) := by decide +kernel
theorem dX5_highest_30 : decode cX5_highest 30 = .ok (.ireturn, 1) := by decide +kernel
theorem dX5_takeUnit_0 : decode cX5_takeUnit 0 = .ok (.aload_n 0, 1) := by decide +kernel
theorem dX5_takeUnit_1 : decode cX5_takeUnit 1 = .ok (.aload_n 1, 1) := by decide +kernel
theorem dX5_takeUnit_2 : decode cX5_takeUnit 2 = .ok (.iload_n 2, 1) := by decide +kernel
theorem dX5_takeUnit_3 : decode cX5_takeUnit 3 = .ok (.invokevirtual 50, 3) := by decide +kernel
theorem dX5_takeUnit_6 : decode cX5_takeUnit 6 = .ok (.istore_n 3, 1) := by decide +kernel
theorem dX5_takeUnit_7 : decode cX5_takeUnit 7 = .ok (.iload_n 3, 1) := by decide +kernel
theorem dX5_takeUnit_8 : decode cX5_takeUnit 8 = .ok (.bipush 114, 2) := by decide +kernel
theorem dX5_takeUnit_10 : decode cX5_takeUnit 10 = .ok (.if_icmp .ne 16, 3) := by decide +kernel
theorem dX5_takeUnit_13 : decode cX5_takeUnit 13 = .ok (.aload_n 0, 1) := by decide +kernel
theorem dX5_takeUnit_14 : decode cX5_takeUnit 14 = .ok (.dup, 1) := by decide +kernel
theorem dX5_takeUnit_15 : decode cX5_takeUnit 15 = .ok (.getfield 31, 3) := by decide +kernel
theorem dX5_takeUnit_18 : decode cX5_takeUnit 18 = .ok (.iconst 1, 1) := by decide +kernel
theorem dX5_takeUnit_19 : decode cX5_takeUnit 19 = .ok (.iadd, 1) := by decide +kernel
theorem dX5_takeUnit_20 : decode cX5_takeUnit 20 = .ok (.putfield 31, 3) := by decide +kernel
theorem dX5_takeUnit_23 : decode cX5_takeUnit 23 = .ok (.goto 34, 3) := by decide +kernel
theorem dX5_takeUnit_26 : decode cX5_takeUnit 26 = .ok (.iload_n 3, 1) := by decide +kernel
theorem dX5_takeUnit_27 : decode cX5_takeUnit 27 = .ok (.bipush 40, 2) := by decide +kernel
theorem dX5_takeUnit_29 : decode cX5_takeUnit 29 = .ok (.if_icmp .ne 22, 3) := by decide +kernel
theorem dX5_takeUnit_32 : decode cX5_takeUnit 32 = .ok (.aload_n 0, 1) := by decide +kernel
theorem dX5_takeUnit_33 : decode cX5_takeUnit 33 = .ok (.dup, 1) := by decide +kernel
theorem dX5_takeUnit_34 : decode cX5_takeUnit 34 = .ok (.getfield 31, 3) := by decide +kernel
theorem dX5_takeUnit_37 : decode cX5_takeUnit 37 = .ok (.iconst 1, 1) := by decide +kernel
theorem dX5_takeUnit_38 : decode cX5_takeUnit 38 = .ok (.iadd, 1) := by decide +kernel
theorem dX5_takeUnit_39 : decode cX5_takeUnit 39 = .ok (.putfield 31, 3) := by decide +kernel
theorem dX5_takeUnit_42 : decode cX5_takeUnit 42 = .ok (.aload_n 0, 1) := by decide +kernel
theorem dX5_takeUnit_43 : decode cX5_takeUnit 43 = .ok (.aload_n 1, 1) := by decide +kernel
theorem dX5_takeUnit_44 : decode cX5_takeUnit 44 = .ok (.iload_n 2, 1) := by decide +kernel
theorem dX5_takeUnit_45 : decode cX5_takeUnit 45 = .ok (.invokevirtual 54, 3) := by decide +kernel
theorem dX5_takeUnit_48 : decode cX5_takeUnit 48 = .ok (.goto 9, 3) := by decide +kernel
theorem dX5_takeUnit_51 : decode cX5_takeUnit 51 = .ok (.aload_n 0, 1) := by decide +kernel
theorem dX5_takeUnit_52 : decode cX5_takeUnit 52 = .ok (.aload_n 1, 1) := by decide +kernel
theorem dX5_takeUnit_53 : decode cX5_takeUnit 53 = .ok (.iload_n 2, 1) := by decide +kernel
theorem dX5_takeUnit_54 : decode cX5_takeUnit 54 = .ok (.invokevirtual 57, 3) := by decide +kernel
theorem dX5_takeUnit_57 : decode cX5_takeUnit 57 = .ok (.aload_n 0, 1) := by decide +kernel
theorem dX5_takeUnit_58 : decode cX5_takeUnit 58 = .ok (.getfield 34, 3) := by decide +kernel
theorem dX5_takeUnit_61 : decode cX5_takeUnit 61 = .ok (.ifCond .ne 9, 3) := by decide +kernel
theorem dX5_takeUnit_64 : decode cX5_takeUnit 64 = .ok (.aload_n 0, 1) := by decide +kernel
theorem dX5_takeUnit_65 : decode cX5_takeUnit 65 = .ok (.aload_n 1, 1) := by decide +kernel
theorem dX5_takeUnit_66 : decode cX5_takeUnit 66 = .ok (.iload_n 2, 1) := by decide +kernel
theorem dX5_takeUnit_67 : decode cX5_takeUnit 67 = .ok (.invokevirtual 60, 3) := by decide +kernel
theorem dX5_takeUnit_70 : decode cX5_takeUnit 70 = .ok (.return_, 1) := by decide +kernel
theorem dX5_takeChord_0 : decode cX5_takeChord 0 = .ok (.iconst 0, 1) := by decide +kernel
theorem dX5_takeChord_1 : decode cX5_takeChord 1 = .ok (.istore_n 3, 1) := by decide +kernel
theorem dX5_takeChord_2 : decode cX5_takeChord 2 = .ok (.iload_n 3, 1) := by decide +kernel
theorem dX5_takeChord_3 : decode cX5_takeChord 3 = .ok (.iconst 4, 1) := by decide +kernel
theorem dX5_takeChord_4 : decode cX5_takeChord 4 = .ok (.if_icmp .gt 82, 3) := by decide +kernel
theorem dX5_takeChord_7 : decode cX5_takeChord 7 = .ok (.aload_n 0, 1) := by decide +kernel
theorem dX5_takeChord_8 : decode cX5_takeChord 8 = .ok (.getfield 34, 3) := by decide +kernel
theorem dX5_takeChord_11 : decode cX5_takeChord 11 = .ok (.ifCond .ne 75, 3) := by decide +kernel
theorem dX5_takeChord_14 : decode cX5_takeChord 14 = .ok (.aload_n 0, 1) := by decide +kernel
theorem dX5_takeChord_15 : decode cX5_takeChord 15 = .ok (.aload_n 1, 1) := by decide +kernel
theorem dX5_takeChord_16 : decode cX5_takeChord 16 = .ok (.iload_n 2, 1) := by decide +kernel
theorem dX5_takeChord_17 : decode cX5_takeChord 17 = .ok (.invokevirtual 50, 3) := by decide +kernel
theorem dX5_takeChord_20 : decode cX5_takeChord 20 = .ok (.istore 4, 2) := by decide +kernel
theorem dX5_takeChord_22 : decode cX5_takeChord 22 = .ok (.iload_n 3, 1) := by decide +kernel
theorem dX5_takeChord_23 : decode cX5_takeChord 23 = .ok (.iconst 2, 1) := by decide +kernel
theorem dX5_takeChord_24 : decode cX5_takeChord 24 = .ok (.if_icmp .lt 21, 3) := by decide +kernel
theorem dX5_takeChord_27 : decode cX5_takeChord 27 = .ok (.iload 4, 2) := by decide +kernel
theorem dX5_takeChord_29 : decode cX5_takeChord 29 = .ok (.bipush 41, 2) := by decide +kernel
theorem dX5_takeChord_31 : decode cX5_takeChord 31 = .ok (.if_icmp .ne 14, 3) := by decide +kernel
theorem dX5_takeChord_34 : decode cX5_takeChord 34 = .ok (.aload_n 0, 1) := by decide +kernel
theorem dX5_takeChord_35 : decode cX5_takeChord 35 = .ok (.dup, 1) := by decide +kernel
theorem dX5_takeChord_36 : decode cX5_takeChord 36 = .ok (.getfield 31, 3) := by decide +kernel
theorem dX5_takeChord_39 : decode cX5_takeChord 39 = .ok (.iconst 1, 1) := by decide +kernel
theorem dX5_takeChord_40 : decode cX5_takeChord 40 = .ok (.iadd, 1) := by decide +kernel
theorem dX5_takeChord_41 : decode cX5_takeChord 41 = .ok (.putfield 31, 3) := by decide +kernel
theorem dX5_takeChord_44 : decode cX5_takeChord 44 = .ok (.return_, 1) := by decide +kernel
theorem dX5_takeChord_45 : decode cX5_takeChord 45 = .ok (.iload_n 3, 1) := by decide +kernel
theorem dX5_takeChord_46 : decode cX5_takeChord 46 = .ok (.iconst 4, 1) := by decide +kernel
theorem dX5_takeChord_47 : decode cX5_takeChord 47 = .ok (.if_icmp .ne 27, 3) := by decide +kernel
theorem dX5_takeChord_50 : decode cX5_takeChord 50 = .ok (.aload_n 0, 1) := by decide +kernel
theorem dX5_takeChord_51 : decode cX5_takeChord 51 = .ok (.iload 4, 2) := by decide +kernel
theorem dX5_takeChord_53 : decode cX5_takeChord 53 = .ok (.invokestatic 63, 3) := by decide +kernel
theorem dX5_takeChord_56 : decode cX5_takeChord 56 = .ok (.ifCond .eq 7, 3) := by decide +kernel
theorem dX5_takeChord_59 : decode cX5_takeChord 59 = .ok (.iconst 2, 1) := by decide +kernel
theorem dX5_takeChord_60 : decode cX5_takeChord 60 = .ok (.goto 4, 3) := by decide +kernel
theorem dX5_takeChord_63 : decode cX5_takeChord 63 = .ok (.iconst 1, 1) := by decide +kernel
theorem dX5_takeChord_64 : decode cX5_takeChord 64 = .ok (.aload_n 0, 1) := by decide +kernel
theorem dX5_takeChord_65 : decode cX5_takeChord 65 = .ok (.getfield 31, 3) := by decide +kernel
theorem dX5_takeChord_68 : decode cX5_takeChord 68 = .ok (.invokevirtual 67, 3) := by decide +kernel
theorem dX5_takeChord_71 : decode cX5_takeChord 71 = .ok (.goto 9, 3) := by decide +kernel
theorem dX5_takeChord_74 : decode cX5_takeChord 74 = .ok (.aload_n 0, 1) := by decide +kernel
theorem dX5_takeChord_75 : decode cX5_takeChord 75 = .ok (.aload_n 1, 1) := by decide +kernel
theorem dX5_takeChord_76 : decode cX5_takeChord 76 = .ok (.iload_n 2, 1) := by decide +kernel
theorem dX5_takeChord_77 : decode cX5_takeChord 77 = .ok (.invokevirtual 57, 3) := by decide +kernel
theorem dX5_takeChord_80 : decode cX5_takeChord 80 = .ok (.iinc 3 1, 3) := by decide +kernel
theorem dX5_takeChord_83 : decode cX5_takeChord 83 = .ok (.goto (-81), 3) := by decide +kernel
theorem dX5_takeChord_86 : decode cX5_takeChord 86 = .ok (.return_, 1) := by decide +kernel
theorem dX5_takeNote_0 : decode cX5_takeNote 0 = .ok (.aload_n 0, 1) := by decide +kernel
theorem dX5_takeNote_1 : decode cX5_takeNote 1 = .ok (.getfield 31, 3) := by decide +kernel
theorem dX5_takeNote_4 : decode cX5_takeNote 4 = .ok (.istore_n 3, 1) := by decide +kernel
theorem dX5_takeNote_5 : decode cX5_takeNote 5 = .ok (.aload_n 0, 1) := by decide +kernel
theorem dX5_takeNote_6 : decode cX5_takeNote 6 = .ok (.aload_n 1, 1) := by decide +kernel
theorem dX5_takeNote_7 : decode cX5_takeNote 7 = .ok (.iload_n 2, 1) := by decide +kernel
theorem dX5_takeNote_8 : decode cX5_takeNote 8 = .ok (.invokevirtual 50, 3) := by decide +kernel
theorem dX5_takeNote_11 : decode cX5_takeNote 11 = .ok (.istore 4, 2) := by decide +kernel
theorem dX5_takeNote_13 : decode cX5_takeNote 13 = .ok (.iload 4, 2) := by decide +kernel
theorem dX5_takeNote_15 : decode cX5_takeNote 15 = .ok (.invokestatic 63, 3) := by decide +kernel
theorem dX5_takeNote_18 : decode cX5_takeNote 18 = .ok (.ifCond .eq 12, 3) := by decide +kernel
theorem dX5_takeNote_21 : decode cX5_takeNote 21 = .ok (.aload_n 0, 1) := by decide +kernel
theorem dX5_takeNote_22 : decode cX5_takeNote 22 = .ok (.getfield 25, 3) := by decide +kernel
theorem dX5_takeNote_25 : decode cX5_takeNote 25 = .ok (.bipush 30, 2) := by decide +kernel
theorem dX5_takeNote_27 : decode cX5_takeNote 27 = .ok (.if_icmp .lt 13, 3) := by decide +kernel
theorem dX5_takeNote_30 : decode cX5_takeNote 30 = .ok (.aload_n 0, 1) := by decide +kernel
theorem dX5_takeNote_31 : decode cX5_takeNote 31 = .ok (.iconst 1, 1) := by decide +kernel
theorem dX5_takeNote_32 : decode cX5_takeNote 32 = .ok (.aload_n 0, 1) := by decide +kernel
theorem dX5_takeNote_33 : decode cX5_takeNote 33 = .ok (.getfield 31, 3) := by decide +kernel
theorem dX5_takeNote_36 : decode cX5_takeNote 36 = .ok (.invokevirtual 67, 3) := by decide +kernel
theorem dX5_takeNote_39 : decode cX5_takeNote 39 = .ok (.return_, 1) := by decide +kernel
theorem dX5_takeNote_40 : decode cX5_takeNote 40 = .ok (.aload_n 0, 1) := by decide +kernel
theorem dX5_takeNote_41 : decode cX5_takeNote 41 = .ok (.dup, 1) := by decide +kernel
theorem dX5_takeNote_42 : decode cX5_takeNote 42 = .ok (.getfield 31, 3) := by decide +kernel
theorem dX5_takeNote_45 : decode cX5_takeNote 45 = .ok (.iconst 1, 1) := by decide +kernel
theorem dX5_takeNote_46 : decode cX5_takeNote 46 = .ok (.iadd, 1) := by decide +kernel
theorem dX5_takeNote_47 : decode cX5_takeNote 47 = .ok (.putfield 31, 3) := by decide +kernel
theorem dX5_takeNote_50 : decode cX5_takeNote 50 = .ok (.getstatic 71, 3) := by decide +kernel
theorem dX5_takeNote_53 : decode cX5_takeNote 53 = .ok (.iload 4, 2) := by decide +kernel
theorem dX5_takeNote_55 : decode cX5_takeNote 55 = .ok (.bipush 97, 2) := by decide +kernel
theorem dX5_takeNote_57 : decode cX5_takeNote 57 = .ok (.isub, 1) := by decide +kernel
theorem dX5_takeNote_58 : decode cX5_takeNote 58 = .ok (.iaload, 1) := by decide +kernel
theorem dX5_takeNote_59 : decode cX5_takeNote 59 = .ok (.istore 5, 2) := by decide +kernel
theorem dX5_takeNote_61 : decode cX5_takeNote 61 = .ok (.aload_n 0, 1) := by decide +kernel
theorem dX5_takeNote_62 : decode cX5_takeNote 62 = .ok (.aload_n 1, 1) := by decide +kernel
theorem dX5_takeNote_63 : decode cX5_takeNote 63 = .ok (.iload_n 2, 1) := by decide +kernel
theorem dX5_takeNote_64 : decode cX5_takeNote 64 = .ok (.invokevirtual 50, 3) := by decide +kernel
theorem dX5_takeNote_67 : decode cX5_takeNote 67 = .ok (.bipush 35, 2) := by decide +kernel
theorem dX5_takeNote_69 : decode cX5_takeNote 69 = .ok (.if_icmp .ne 16, 3) := by decide +kernel
theorem dX5_takeNote_72 : decode cX5_takeNote 72 = .ok (.iinc 5 1, 3) := by decide +kernel
theorem dX5_takeNote_75 : decode cX5_takeNote 75 = .ok (.aload_n 0, 1) := by decide +kernel
theorem dX5_takeNote_76 : decode cX5_takeNote 76 = .ok (.dup, 1) := by decide +kernel
theorem dX5_takeNote_77 : decode cX5_takeNote 77 = .ok (.getfield 31, 3) := by decide +kernel
theorem dX5_takeNote_80 : decode cX5_takeNote 80 = .ok (.iconst 1, 1) := by decide +kernel
theorem dX5_takeNote_81 : decode cX5_takeNote 81 = .ok (.iadd, 1) := by decide +kernel
theorem dX5_takeNote_82 : decode cX5_takeNote 82 = .ok (.putfield 31, 3) := by decide +kernel
theorem dX5_takeNote_85 : decode cX5_takeNote 85 = .ok (.aload_n 0, 1) := by decide +kernel
theorem dX5_takeNote_86 : decode cX5_takeNote 86 = .ok (.aload_n 1, 1) := by decide +kernel
theorem dX5_takeNote_87 : decode cX5_takeNote 87 = .ok (.iload_n 2, 1) := by decide +kernel
theorem dX5_takeNote_88 : decode cX5_takeNote 88 = .ok (.invokevirtual 50, 3) := by decide +kernel
theorem dX5_takeNote_91 : decode cX5_takeNote 91 = .ok (.istore 6, 2) := by decide +kernel
theorem dX5_takeNote_93 : decode cX5_takeNote 93 = .ok (.iload 6, 2) := by decide +kernel
theorem dX5_takeNote_95 : decode cX5_takeNote 95 = .ok (.bipush 48, 2) := by decide +kernel
theorem dX5_takeNote_97 : decode cX5_takeNote 97 = .ok (.if_icmp .lt 10, 3) := by decide +kernel
theorem dX5_takeNote_100 : decode cX5_takeNote 100 = .ok (.iload 6, 2) := by decide +kernel
theorem dX5_takeNote_102 : decode cX5_takeNote 102 = .ok (.bipush 51, 2) := by decide +kernel
theorem dX5_takeNote_104 : decode cX5_takeNote 104 = .ok (.if_icmp .le 13, 3) := by decide +kernel
theorem dX5_takeNote_107 : decode cX5_takeNote 107 = .ok (.aload_n 0, 1) := by decide +kernel
theorem dX5_takeNote_108 : decode cX5_takeNote 108 = .ok (.iconst 1, 1) := by decide +kernel
theorem dX5_takeNote_109 : decode cX5_takeNote 109 = .ok (.aload_n 0, 1) := by decide +kernel
theorem dX5_takeNote_110 : decode cX5_takeNote 110 = .ok (.getfield 31, 3) := by decide +kernel
theorem dX5_takeNote_113 : decode cX5_takeNote 113 = .ok (.invokevirtual 67, 3) := by decide +kernel
theorem dX5_takeNote_116 : decode cX5_takeNote 116 = .ok (.return_, 1) := by decide +kernel
theorem dX5_takeNote_117 : decode cX5_takeNote 117 = .ok (.aload_n 0, 1) := by decide +kernel
theorem dX5_takeNote_118 : decode cX5_takeNote 118 = .ok (.dup, 1) := by decide +kernel
theorem dX5_takeNote_119 : decode cX5_takeNote 119 = .ok (.getfield 31, 3) := by decide +kernel
theorem dX5_takeNote_122 : decode cX5_takeNote 122 = .ok (.iconst 1, 1) := by decide +kernel
theorem dX5_takeNote_123 : decode cX5_takeNote 123 = .ok (.iadd, 1) := by decide +kernel
theorem dX5_takeNote_124 : decode cX5_takeNote 124 = .ok (.putfield 31, 3) := by decide +kernel
theorem dX5_takeNote_127 : decode cX5_takeNote 127 = .ok (.aload_n 0, 1) := by decide +kernel
theorem dX5_takeNote_128 : decode cX5_takeNote 128 = .ok (.bipush 12, 2) := by decide +kernel
theorem dX5_takeNote_130 : decode cX5_takeNote 130 = .ok (.iload 6, 2) := by decide +kernel
theorem dX5_takeNote_132 : decode cX5_takeNote 132 = .ok (.bipush 48, 2) := by decide +kernel
theorem dX5_takeNote_134 : decode cX5_takeNote 134 = .ok (.isub, 1) := by decide +kernel
theorem dX5_takeNote_135 : decode cX5_takeNote 135 = .ok (.imul, 1) := by decide +kernel
theorem dX5_takeNote_136 : decode cX5_takeNote 136 = .ok (.iload 5, 2) := by decide +kernel
theorem dX5_takeNote_138 : decode cX5_takeNote 138 = .ok (.iadd, 1) := by decide +kernel
theorem dX5_takeNote_139 : decode cX5_takeNote 139 = .ok (.iload_n 3, 1) := by decide +kernel
theorem dX5_takeNote_140 : decode cX5_takeNote 140 = .ok (.invokevirtual 74, 3) := by decide +kernel
theorem dX5_takeNote_143 : decode cX5_takeNote 143 = .ok (.return_, 1) := by decide +kernel
theorem dX5_keepNote_0 : decode cX5_keepNote 0 = .ok (.aload_n 0, 1) := by decide +kernel
theorem dX5_keepNote_1 : decode cX5_keepNote 1 = .ok (.getfield 25, 3) := by decide +kernel
theorem dX5_keepNote_4 : decode cX5_keepNote 4 = .ok (.iconst 1, 1) := by decide +kernel
theorem dX5_keepNote_5 : decode cX5_keepNote 5 = .ok (.isub, 1) := by decide +kernel
theorem dX5_keepNote_6 : decode cX5_keepNote 6 = .ok (.istore_n 3, 1) := by decide +kernel
theorem dX5_keepNote_7 : decode cX5_keepNote 7 = .ok (.iload_n 3, 1) := by decide +kernel
theorem dX5_keepNote_8 : decode cX5_keepNote 8 = .ok (.ifCond .lt 38, 3) := by decide +kernel
theorem dX5_keepNote_11 : decode cX5_keepNote 11 = .ok (.aload_n 0, 1) := by decide +kernel
theorem dX5_keepNote_12 : decode cX5_keepNote 12 = .ok (.getfield 18, 3) := by decide +kernel
theorem dX5_keepNote_15 : decode cX5_keepNote 15 = .ok (.iload_n 3, 1) := by decide +kernel
theorem dX5_keepNote_16 : decode cX5_keepNote 16 = .ok (.iaload, 1) := by decide +kernel
theorem dX5_keepNote_17 : decode cX5_keepNote 17 = .ok (.aload_n 0, 1) := by decide +kernel
theorem dX5_keepNote_18 : decode cX5_keepNote 18 = .ok (.getfield 21, 3) := by decide +kernel
theorem dX5_keepNote_21 : decode cX5_keepNote 21 = .ok (.if_icmp .ne 25, 3) := by decide +kernel
theorem dX5_keepNote_24 : decode cX5_keepNote 24 = .ok (.aload_n 0, 1) := by decide +kernel
theorem dX5_keepNote_25 : decode cX5_keepNote 25 = .ok (.getfield 15, 3) := by decide +kernel
theorem dX5_keepNote_28 : decode cX5_keepNote 28 = .ok (.iload_n 3, 1) := by decide +kernel
theorem dX5_keepNote_29 : decode cX5_keepNote 29 = .ok (.iaload, 1) := by decide +kernel
theorem dX5_keepNote_30 : decode cX5_keepNote 30 = .ok (.iload_n 1, 1) := by decide +kernel
theorem dX5_keepNote_31 : decode cX5_keepNote 31 = .ok (.if_icmp .ne 9, 3) := by decide +kernel
theorem dX5_keepNote_34 : decode cX5_keepNote 34 = .ok (.aload_n 0, 1) := by decide +kernel
theorem dX5_keepNote_35 : decode cX5_keepNote 35 = .ok (.iconst 3, 1) := by decide +kernel
theorem dX5_keepNote_36 : decode cX5_keepNote 36 = .ok (.iload_n 2, 1) := by decide +kernel
theorem dX5_keepNote_37 : decode cX5_keepNote 37 = .ok (.invokevirtual 67, 3) := by decide +kernel
theorem dX5_keepNote_40 : decode cX5_keepNote 40 = .ok (.iinc 3 (-1), 3) := by decide +kernel
theorem dX5_keepNote_43 : decode cX5_keepNote 43 = .ok (.goto (-36), 3) := by decide +kernel
theorem dX5_keepNote_46 : decode cX5_keepNote 46 = .ok (.aload_n 0, 1) := by decide +kernel
theorem dX5_keepNote_47 : decode cX5_keepNote 47 = .ok (.getfield 15, 3) := by decide +kernel
theorem dX5_keepNote_50 : decode cX5_keepNote 50 = .ok (.aload_n 0, 1) := by decide +kernel
theorem dX5_keepNote_51 : decode cX5_keepNote 51 = .ok (.getfield 25, 3) := by decide +kernel
theorem dX5_keepNote_54 : decode cX5_keepNote 54 = .ok (.iload_n 1, 1) := by decide +kernel
theorem dX5_keepNote_55 : decode cX5_keepNote 55 = .ok (.iastore, 1) := by decide +kernel
theorem dX5_keepNote_56 : decode cX5_keepNote 56 = .ok (.aload_n 0, 1) := by decide +kernel
theorem dX5_keepNote_57 : decode cX5_keepNote 57 = .ok (.getfield 18, 3) := by decide +kernel
theorem dX5_keepNote_60 : decode cX5_keepNote 60 = .ok (.aload_n 0, 1) := by decide +kernel
theorem dX5_keepNote_61 : decode cX5_keepNote 61 = .ok (.getfield 25, 3) := by decide +kernel
theorem dX5_keepNote_64 : decode cX5_keepNote 64 = .ok (.aload_n 0, 1) := by decide +kernel
theorem dX5_keepNote_65 : decode cX5_keepNote 65 = .ok (.getfield 21, 3) := by decide +kernel
theorem dX5_keepNote_68 : decode cX5_keepNote 68 = .ok (.iastore, 1) := by decide +kernel
theorem dX5_keepNote_69 : decode cX5_keepNote 69 = .ok (.aload_n 0, 1) := by decide +kernel
theorem dX5_keepNote_70 : decode cX5_keepNote 70 = .ok (.dup, 1) := by decide +kernel
theorem dX5_keepNote_71 : decode cX5_keepNote 71 = .ok (.getfield 25, 3) := by decide +kernel
theorem dX5_keepNote_74 : decode cX5_keepNote 74 = .ok (.iconst 1, 1) := by decide +kernel
theorem dX5_keepNote_75 : decode cX5_keepNote 75 = .ok (.iadd, 1) := by decide +kernel
theorem dX5_keepNote_76 : decode cX5_keepNote 76 = .ok (.putfield 25, 3) := by decide +kernel
theorem dX5_keepNote_79 : decode cX5_keepNote 79 = .ok (.return_, 1) := by decide +kernel
theorem dX5_takeLength_0 : decode cX5_takeLength 0 = .ok (.aload_n 0, 1) := by decide +kernel
theorem dX5_takeLength_1 : decode cX5_takeLength 1 = .ok (.aload_n 1, 1) := by decide +kernel
theorem dX5_takeLength_2 : decode cX5_takeLength 2 = .ok (.iload_n 2, 1) := by decide +kernel
theorem dX5_takeLength_3 : decode cX5_takeLength 3 = .ok (.invokevirtual 50, 3) := by decide +kernel
theorem dX5_takeLength_6 : decode cX5_takeLength 6 = .ok (.istore_n 3, 1) := by decide +kernel
theorem dX5_takeLength_7 : decode cX5_takeLength 7 = .ok (.iload_n 3, 1) := by decide +kernel
theorem dX5_takeLength_8 : decode cX5_takeLength 8 = .ok (.bipush 49, 2) := by decide +kernel
theorem dX5_takeLength_10 : decode cX5_takeLength 10 = .ok (.if_icmp .lt 9, 3) := by decide +kernel
theorem dX5_takeLength_13 : decode cX5_takeLength 13 = .ok (.iload_n 3, 1) := by decide +kernel
theorem dX5_takeLength_14 : decode cX5_takeLength 14 = .ok (.bipush 57, 2) := by decide +kernel
theorem dX5_takeLength_16 : decode cX5_takeLength 16 = .ok (.if_icmp .le 13, 3) := by decide +kernel
theorem dX5_takeLength_19 : decode cX5_takeLength 19 = .ok (.aload_n 0, 1) := by decide +kernel
theorem dX5_takeLength_20 : decode cX5_takeLength 20 = .ok (.iconst 1, 1) := by decide +kernel
theorem dX5_takeLength_21 : decode cX5_takeLength 21 = .ok (.aload_n 0, 1) := by decide +kernel
theorem dX5_takeLength_22 : decode cX5_takeLength 22 = .ok (.getfield 31, 3) := by decide +kernel
theorem dX5_takeLength_25 : decode cX5_takeLength 25 = .ok (.invokevirtual 67, 3) := by decide +kernel
theorem dX5_takeLength_28 : decode cX5_takeLength 28 = .ok (.return_, 1) := by decide +kernel
theorem dX5_takeLength_29 : decode cX5_takeLength 29 = .ok (.aload_n 0, 1) := by decide +kernel
theorem dX5_takeLength_30 : decode cX5_takeLength 30 = .ok (.dup, 1) := by decide +kernel
theorem dX5_takeLength_31 : decode cX5_takeLength 31 = .ok (.getfield 28, 3) := by decide +kernel
theorem dX5_takeLength_34 : decode cX5_takeLength 34 = .ok (.iload_n 3, 1) := by decide +kernel
theorem dX5_takeLength_35 : decode cX5_takeLength 35 = .ok (.bipush 48, 2) := by decide +kernel
theorem dX5_takeLength_37 : decode cX5_takeLength 37 = .ok (.isub, 1) := by decide +kernel
theorem dX5_takeLength_38 : decode cX5_takeLength 38 = .ok (.iadd, 1) := by decide +kernel
theorem dX5_takeLength_39 : decode cX5_takeLength 39 = .ok (.putfield 28, 3) := by decide +kernel
theorem dX5_takeLength_42 : decode cX5_takeLength 42 = .ok (.aload_n 0, 1) := by decide +kernel
theorem dX5_takeLength_43 : decode cX5_takeLength 43 = .ok (.getfield 28, 3) := by decide +kernel
theorem dX5_takeLength_46 : decode cX5_takeLength 46 = .ok (.bipush 64, 2) := by decide +kernel
theorem dX5_takeLength_48 : decode cX5_takeLength 48 = .ok (.if_icmp .le 13, 3) := by decide +kernel
theorem dX5_takeLength_51 : decode cX5_takeLength 51 = .ok (.aload_n 0, 1) := by decide +kernel
theorem dX5_takeLength_52 : decode cX5_takeLength 52 = .ok (.iconst 4, 1) := by decide +kernel
theorem dX5_takeLength_53 : decode cX5_takeLength 53 = .ok (.aload_n 0, 1) := by decide +kernel
theorem dX5_takeLength_54 : decode cX5_takeLength 54 = .ok (.getfield 31, 3) := by decide +kernel
theorem dX5_takeLength_57 : decode cX5_takeLength 57 = .ok (.invokevirtual 67, 3) := by decide +kernel
theorem dX5_takeLength_60 : decode cX5_takeLength 60 = .ok (.return_, 1) := by decide +kernel
theorem dX5_takeLength_61 : decode cX5_takeLength 61 = .ok (.aload_n 0, 1) := by decide +kernel
theorem dX5_takeLength_62 : decode cX5_takeLength 62 = .ok (.getfield 11, 3) := by decide +kernel
theorem dX5_takeLength_65 : decode cX5_takeLength 65 = .ok (.aload_n 0, 1) := by decide +kernel
theorem dX5_takeLength_66 : decode cX5_takeLength 66 = .ok (.getfield 21, 3) := by decide +kernel
theorem dX5_takeLength_69 : decode cX5_takeLength 69 = .ok (.iload_n 3, 1) := by decide +kernel
theorem dX5_takeLength_70 : decode cX5_takeLength 70 = .ok (.bipush 48, 2) := by decide +kernel
theorem dX5_takeLength_72 : decode cX5_takeLength 72 = .ok (.isub, 1) := by decide +kernel
theorem dX5_takeLength_73 : decode cX5_takeLength 73 = .ok (.iastore, 1) := by decide +kernel
theorem dX5_takeLength_74 : decode cX5_takeLength 74 = .ok (.aload_n 0, 1) := by decide +kernel
theorem dX5_takeLength_75 : decode cX5_takeLength 75 = .ok (.dup, 1) := by decide +kernel
theorem dX5_takeLength_76 : decode cX5_takeLength 76 = .ok (.getfield 21, 3) := by decide +kernel
theorem dX5_takeLength_79 : decode cX5_takeLength 79 = .ok (.iconst 1, 1) := by decide +kernel
theorem dX5_takeLength_80 : decode cX5_takeLength 80 = .ok (.iadd, 1) := by decide +kernel
theorem dX5_takeLength_81 : decode cX5_takeLength 81 = .ok (.putfield 21, 3) := by decide +kernel
theorem dX5_takeLength_84 : decode cX5_takeLength 84 = .ok (.aload_n 0, 1) := by decide +kernel
theorem dX5_takeLength_85 : decode cX5_takeLength 85 = .ok (.dup, 1) := by decide +kernel
theorem dX5_takeLength_86 : decode cX5_takeLength 86 = .ok (.getfield 31, 3) := by decide +kernel
theorem dX5_takeLength_89 : decode cX5_takeLength 89 = .ok (.iconst 1, 1) := by decide +kernel
theorem dX5_takeLength_90 : decode cX5_takeLength 90 = .ok (.iadd, 1) := by decide +kernel
theorem dX5_takeLength_91 : decode cX5_takeLength 91 = .ok (.putfield 31, 3) := by decide +kernel
theorem dX5_takeLength_94 : decode cX5_takeLength 94 = .ok (.return_, 1) := by decide +kernel
theorem dX5_byteAt_0 : decode cX5_byteAt 0 = .ok (.aload_n 0, 1) := by decide +kernel
theorem dX5_byteAt_1 : decode cX5_byteAt 1 = .ok (.getfield 31, 3) := by decide +kernel
theorem dX5_byteAt_4 : decode cX5_byteAt 4 = .ok (.iload_n 2, 1) := by decide +kernel
theorem dX5_byteAt_5 : decode cX5_byteAt 5 = .ok (.if_icmp .ge 21, 3) := by decide +kernel
theorem dX5_byteAt_8 : decode cX5_byteAt 8 = .ok (.aload_n 0, 1) := by decide +kernel
theorem dX5_byteAt_9 : decode cX5_byteAt 9 = .ok (.getfield 31, 3) := by decide +kernel
theorem dX5_byteAt_12 : decode cX5_byteAt 12 = .ok (.aload_n 1, 1) := by decide +kernel
theorem dX5_byteAt_13 : decode cX5_byteAt 13 = .ok (.arraylength, 1) := by decide +kernel
theorem dX5_byteAt_14 : decode cX5_byteAt 14 = .ok (.if_icmp .ge 12, 3) := by decide +kernel
theorem dX5_byteAt_17 : decode cX5_byteAt 17 = .ok (.aload_n 1, 1) := by decide +kernel
theorem dX5_byteAt_18 : decode cX5_byteAt 18 = .ok (.aload_n 0, 1) := by decide +kernel
theorem dX5_byteAt_19 : decode cX5_byteAt 19 = .ok (.getfield 31, 3) := by decide +kernel
theorem dX5_byteAt_22 : decode cX5_byteAt 22 = .ok (.iaload, 1) := by decide +kernel
theorem dX5_byteAt_23 : decode cX5_byteAt 23 = .ok (.goto 4, 3) := by decide +kernel
theorem dX5_byteAt_26 : decode cX5_byteAt 26 = .ok (.iconst (-1), 1) := by decide +kernel
theorem dX5_byteAt_27 : decode cX5_byteAt 27 = .ok (.ireturn, 1) := by decide +kernel
theorem dX5_isLetter_0 : decode cX5_isLetter 0 = .ok (.iload_n 0, 1) := by decide +kernel
theorem dX5_isLetter_1 : decode cX5_isLetter 1 = .ok (.bipush 97, 2) := by decide +kernel
theorem dX5_isLetter_3 : decode cX5_isLetter 3 = .ok (.if_icmp .lt 13, 3) := by decide +kernel
theorem dX5_isLetter_6 : decode cX5_isLetter 6 = .ok (.iload_n 0, 1) := by decide +kernel
theorem dX5_isLetter_7 : decode cX5_isLetter 7 = .ok (.bipush 103, 2) := by decide +kernel
theorem dX5_isLetter_9 : decode cX5_isLetter 9 = .ok (.if_icmp .gt 7, 3) := by decide +kernel
theorem dX5_isLetter_12 : decode cX5_isLetter 12 = .ok (.iconst 1, 1) := by decide +kernel
theorem dX5_isLetter_13 : decode cX5_isLetter 13 = .ok (.goto 4, 3) := by decide +kernel
theorem dX5_isLetter_16 : decode cX5_isLetter 16 = .ok (.iconst 0, 1) := by decide +kernel
theorem dX5_isLetter_17 : decode cX5_isLetter 17 = .ok (.ireturn, 1) := by decide +kernel
theorem dX5_blame_0 : decode cX5_blame 0 = .ok (.aload_n 0, 1) := by decide +kernel
theorem dX5_blame_1 : decode cX5_blame 1 = .ok (.bipush 100, 2) := by decide +kernel
theorem dX5_blame_3 : decode cX5_blame 3 = .ok (.iload_n 1, 1) := by decide +kernel
theorem dX5_blame_4 : decode cX5_blame 4 = .ok (.imul, 1) := by decide +kernel
theorem dX5_blame_5 : decode cX5_blame 5 = .ok (.iload_n 2, 1) := by decide +kernel
theorem dX5_blame_6 : decode cX5_blame 6 = .ok (.iadd, 1) := by decide +kernel
theorem dX5_blame_7 : decode cX5_blame 7 = .ok (.putfield 34, 3) := by decide +kernel
theorem dX5_blame_10 : decode cX5_blame 10 = .ok (.return_, 1) := by decide +kernel
theorem dX6_init_0 : decode cX6_init 0 = .ok (.aload_n 0, 1) := by decide +kernel
theorem dX6_init_1 : decode cX6_init 1 = .ok (.invokespecial 1, 3) := by decide +kernel
theorem dX6_init_4 : decode cX6_init 4 = .ok (.aload_n 0, 1) := by decide +kernel
theorem dX6_init_5 : decode cX6_init 5 = .ok (.new 7, 3) := by decide +kernel
theorem dX6_init_8 : decode cX6_init 8 = .ok (.dup, 1) := by decide +kernel
theorem dX6_init_9 : decode cX6_init 9 = .ok (.invokespecial 9, 3) := by decide +kernel
theorem dX6_init_12 : decode cX6_init 12 = .ok (.putfield 10, 3) := by decide +kernel
theorem dX6_init_15 : decode cX6_init 15 = .ok (.aload_n 0, 1) := by decide +kernel
theorem dX6_init_16 : decode cX6_init 16 = .ok (.new 16, 3) := by decide +kernel
theorem dX6_init_19 : decode cX6_init 19 = .ok (.dup, 1) := by decide +kernel
theorem dX6_init_20 : decode cX6_init 20 = .ok (.invokespecial 18, 3) := by decide +kernel
theorem dX6_init_23 : decode cX6_init 23 = .ok (.putfield 19, 3) := by decide +kernel
theorem dX6_init_26 : decode cX6_init 26 = .ok (.aload_n 0, 1) := by decide +kernel
theorem dX6_init_27 : decode cX6_init 27 = .ok (.new 23, 3) := by decide +kernel
theorem dX6_init_30 : decode cX6_init 30 = .ok (.dup, 1) := by decide +kernel
theorem dX6_init_31 : decode cX6_init 31 = .ok (.invokespecial 25, 3) := by decide +kernel
theorem dX6_init_34 : decode cX6_init 34 = .ok (.putfield 26, 3) := by decide +kernel
theorem dX6_init_37 : decode cX6_init 37 = .ok (.aload_n 0, 1) := by decide +kernel
theorem dX6_init_38 : decode cX6_init 38 = .ok (.new 30, 3) := by decide +kernel
theorem dX6_init_41 : decode cX6_init 41 = .ok (.dup, 1) := by decide +kernel
theorem dX6_init_42 : decode cX6_init 42 = .ok (.invokespecial 32, 3) := by decide +kernel
theorem dX6_init_45 : decode cX6_init 45 = .ok (.putfield 33, 3) := by decide +kernel
theorem dX6_init_48 : decode cX6_init 48 = .ok (.aload_n 0, 1) := by decide +kernel
theorem dX6_init_49 : decode cX6_init 49 = .ok (.bipush 6, 2) := by decide +kernel
theorem dX6_init_51 : decode cX6_init 51 = .ok (.anewarray 37, 3) := by decide +kernel
theorem dX6_init_54 : decode cX6_init 54 = .ok (.putfield 39, 3) := by decide +kernel
theorem dX6_init_57 : decode cX6_init 57 = .ok (.iconst 0, 1) := by decide +kernel
theorem dX6_init_58 : decode cX6_init 58 = .ok (.istore_n 1, 1) := by decide +kernel
theorem dX6_init_59 : decode cX6_init 59 = .ok (.iload_n 1, 1) := by decide +kernel
theorem dX6_init_60 : decode cX6_init 60 = .ok (.bipush 6, 2) := by decide +kernel
theorem dX6_init_62 : decode cX6_init 62 = .ok (.if_icmp .ge 22, 3) := by decide +kernel
theorem dX6_init_65 : decode cX6_init 65 = .ok (.aload_n 0, 1) := by decide +kernel
theorem dX6_init_66 : decode cX6_init 66 = .ok (.getfield 39, 3) := by decide +kernel
theorem dX6_init_69 : decode cX6_init 69 = .ok (.iload_n 1, 1) := by decide +kernel
theorem dX6_init_70 : decode cX6_init 70 = .ok (.new 37, 3) := by decide +kernel
theorem dX6_init_73 : decode cX6_init 73 = .ok (.dup, 1) := by decide +kernel
theorem dX6_init_74 : decode cX6_init 74 = .ok (.invokespecial 43, 3) := by decide +kernel
theorem dX6_init_77 : decode cX6_init 77 = .ok (.aastore, 1) := by decide +kernel
theorem dX6_init_78 : decode cX6_init 78 = .ok (.iinc 1 1, 3) := by decide +kernel
theorem dX6_init_81 : decode cX6_init 81 = .ok (.goto (-22), 3) := by decide +kernel
theorem dX6_init_84 : decode cX6_init 84 = .ok (.aload_n 0, 1) := by decide +kernel
theorem dX6_init_85 : decode cX6_init 85 = .ok (.new 37, 3) := by decide +kernel
theorem dX6_init_88 : decode cX6_init 88 = .ok (.dup, 1) := by decide +kernel
theorem dX6_init_89 : decode cX6_init 89 = .ok (.invokespecial 43, 3) := by decide +kernel
theorem dX6_init_92 : decode cX6_init 92 = .ok (.putfield 44, 3) := by decide +kernel
theorem dX6_init_95 : decode cX6_init 95 = .ok (.aload_n 0, 1) := by decide +kernel
theorem dX6_init_96 : decode cX6_init 96 = .ok (.bipush 80, 2) := by decide +kernel
theorem dX6_init_98 : decode cX6_init 98 = .ok (.newarray .int, 2) := by decide +kernel
theorem dX6_init_100 : decode cX6_init 100 = .ok (.putfield 48, 3) := by decide +kernel
theorem dX6_init_103 : decode cX6_init 103 = .ok (.aload_n 0, 1) := by decide +kernel
theorem dX6_init_104 : decode cX6_init 104 = .ok (.iconst 0, 1) := by decide +kernel
theorem dX6_init_105 : decode cX6_init 105 = .ok (.putfield 52, 3) := by decide +kernel
theorem dX6_init_108 : decode cX6_init 108 = .ok (.aload_n 0, 1) := by decide +kernel
theorem dX6_init_109 : decode cX6_init 109 = .ok (.sipush 200, 3) := by decide +kernel
theorem dX6_init_112 : decode cX6_init 112 = .ok (.putfield 56, 3) := by decide +kernel
theorem dX6_init_115 : decode cX6_init 115 = .ok (.aload_n 0, 1) := by decide +kernel
theorem dX6_init_116 : decode cX6_init 116 = .ok (.iconst 0, 1) := by decide +kernel
theorem dX6_init_117 : decode cX6_init 117 = .ok (.putfield 59, 3) := by decide +kernel
theorem dX6_init_120 : decode cX6_init 120 = .ok (.return_, 1) := by decide +kernel
theorem dX6_bell_0 : decode cX6_bell 0 = .ok (.iload_n 1, 1) := by decide +kernel
theorem dX6_bell_1 : decode cX6_bell 1 = .ok (.iconst 0, 1) := by decide +kernel
theorem dX6_bell_2 : decode cX6_bell 2 = .ok (.bipush 47, 2) := by decide +kernel
theorem dX6_bell_4 : decode cX6_bell 4 = .ok (.invokestatic 62, 3) := by decide +kernel
theorem dX6_bell_7 : decode cX6_bell 7 = .ok (.ifCond .eq 26, 3) := by decide +kernel
theorem dX6_bell_10 : decode cX6_bell 10 = .ok (.iload_n 2, 1) := by decide +kernel
theorem dX6_bell_11 : decode cX6_bell 11 = .ok (.iconst 1, 1) := by decide +kernel
theorem dX6_bell_12 : decode cX6_bell 12 = .ok (.bipush 99, 2) := by decide +kernel
theorem dX6_bell_14 : decode cX6_bell 14 = .ok (.invokestatic 62, 3) := by decide +kernel
theorem dX6_bell_17 : decode cX6_bell 17 = .ok (.ifCond .eq 16, 3) := by decide +kernel
theorem dX6_bell_20 : decode cX6_bell 20 = .ok (.iload_n 3, 1) := by decide +kernel
theorem dX6_bell_21 : decode cX6_bell 21 = .ok (.iconst 1, 1) := by decide +kernel
theorem dX6_bell_22 : decode cX6_bell 22 = .ok (.iconst 3, 1) := by decide +kernel
theorem dX6_bell_23 : decode cX6_bell 23 = .ok (.invokestatic 62, 3) := by decide +kernel
theorem dX6_bell_26 : decode cX6_bell 26 = .ok (.ifCond .eq 7, 3) := by decide +kernel
theorem dX6_bell_29 : decode cX6_bell 29 = .ok (.iconst 1, 1) := by decide +kernel
theorem dX6_bell_30 : decode cX6_bell 30 = .ok (.goto 4, 3) := by decide +kernel
theorem dX6_bell_33 : decode cX6_bell 33 = .ok (.iconst 0, 1) := by decide +kernel
theorem dX6_bell_34 : decode cX6_bell 34 = .ok (.istore 4, 2) := by decide +kernel
theorem dX6_bell_36 : decode cX6_bell 36 = .ok (.iload 4, 2) := by decide +kernel
theorem dX6_bell_38 : decode cX6_bell 38 = .ok (.ifCond .eq 16, 3) := by decide +kernel
theorem dX6_bell_41 : decode cX6_bell 41 = .ok (.aload_n 0, 1) := by decide +kernel
theorem dX6_bell_42 : decode cX6_bell 42 = .ok (.getfield 10, 3) := by decide +kernel
theorem dX6_bell_45 : decode cX6_bell 45 = .ok (.iload_n 1, 1) := by decide +kernel
theorem dX6_bell_46 : decode cX6_bell 46 = .ok (.iload_n 2, 1) := by decide +kernel
theorem dX6_bell_47 : decode cX6_bell 47 = .ok (.iload_n 3, 1) := by decide +kernel
theorem dX6_bell_48 : decode cX6_bell 48 = .ok (.invokevirtual 66, 3) := by decide +kernel
theorem dX6_bell_51 : decode cX6_bell 51 = .ok (.goto 4, 3) := by decide +kernel
theorem dX6_bell_54 : decode cX6_bell 54 = .ok (.iconst (-1), 1) := by decide +kernel
theorem dX6_bell_55 : decode cX6_bell 55 = .ok (.ireturn, 1) := by decide +kernel
theorem dX6_crack_0 : decode cX6_crack 0 = .ok (.aload_n 0, 1) := by decide +kernel
theorem dX6_crack_1 : decode cX6_crack 1 = .ok (.getfield 10, 3) := by decide +kernel
theorem dX6_crack_4 : decode cX6_crack 4 = .ok (.iload_n 1, 1) := by decide +kernel
theorem dX6_crack_5 : decode cX6_crack 5 = .ok (.invokevirtual 70, 3) := by decide +kernel
theorem dX6_crack_8 : decode cX6_crack 8 = .ok (.ifCond .eq 16, 3) := by decide +kernel
theorem dX6_crack_11 : decode cX6_crack 11 = .ok (.aload_n 0, 1) := by decide +kernel
theorem dX6_crack_12 : decode cX6_crack 12 = .ok (.getfield 10, 3) := by decide +kernel
theorem dX6_crack_15 : decode cX6_crack 15 = .ok (.getfield 74, 3) := by decide +kernel
theorem dX6_crack_18 : decode cX6_crack 18 = .ok (.iload_n 1, 1) := by decide +kernel
theorem dX6_crack_19 : decode cX6_crack 19 = .ok (.baload, 1) := by decide +kernel
theorem dX6_crack_20 : decode cX6_crack 20 = .ok (.iload_n 2, 1) := by decide +kernel
theorem dX6_crack_21 : decode cX6_crack 21 = .ok (.if_icmp .ne 5, 3) := by decide +kernel
theorem dX6_crack_24 : decode cX6_crack 24 = .ok (.iconst 0, 1) := by decide +kernel
theorem dX6_crack_25 : decode cX6_crack 25 = .ok (.ireturn, 1) := by decide +kernel
theorem dX6_crack_26 : decode cX6_crack 26 = .ok (.aload_n 0, 1) := by decide +kernel
theorem dX6_crack_27 : decode cX6_crack 27 = .ok (.getfield 10, 3) := by decide +kernel
theorem dX6_crack_30 : decode cX6_crack 30 = .ok (.getfield 74, 3) := by decide +kernel
theorem dX6_crack_33 : decode cX6_crack 33 = .ok (.iload_n 1, 1) := by decide +kernel
theorem dX6_crack_34 : decode cX6_crack 34 = .ok (.iload_n 2, 1) := by decide +kernel
theorem dX6_crack_35 : decode cX6_crack 35 = .ok (.bastore, 1) := by decide +kernel
theorem dX6_crack_36 : decode cX6_crack 36 = .ok (.iconst 1, 1) := by decide +kernel
theorem dX6_crack_37 : decode cX6_crack 37 = .ok (.ireturn, 1) := by decide +kernel
theorem dX6_holes_0 : decode cX6_holes 0 = .ok (.iload_n 1, 1) := by decide +kernel
theorem dX6_holes_1 : decode cX6_holes 1 = .ok (.bipush 8, 2) := by decide +kernel
theorem dX6_holes_3 : decode cX6_holes 3 = .ok (.bipush 64, 2) := by decide +kernel
theorem dX6_holes_5 : decode cX6_holes 5 = .ok (.invokestatic 62, 3) := by decide +kernel
theorem dX6_holes_8 : decode cX6_holes 8 = .ok (.ifCond .ne 5, 3) := by decide +kernel
theorem dX6_holes_11 : decode cX6_holes 11 = .ok (.iconst 0, 1) := by decide +kernel
theorem dX6_holes_12 : decode cX6_holes 12 = .ok (.ireturn, 1) := by decide +kernel
theorem dX6_holes_13 : decode cX6_holes 13 = .ok (.aload_n 0, 1) := by decide +kernel
theorem dX6_holes_14 : decode cX6_holes 14 = .ok (.getfield 19, 3) := by decide +kernel
theorem dX6_holes_17 : decode cX6_holes 17 = .ok (.iload_n 1, 1) := by decide +kernel
theorem dX6_holes_18 : decode cX6_holes 18 = .ok (.putfield 78, 3) := by decide +kernel
theorem dX6_holes_21 : decode cX6_holes 21 = .ok (.aload_n 0, 1) := by decide +kernel
theorem dX6_holes_22 : decode cX6_holes 22 = .ok (.getfield 19, 3) := by decide +kernel
theorem dX6_holes_25 : decode cX6_holes 25 = .ok (.invokevirtual 81, 3) := by decide +kernel
theorem dX6_holes_28 : decode cX6_holes 28 = .ok (.iconst 1, 1) := by decide +kernel
theorem dX6_holes_29 : decode cX6_holes 29 = .ok (.ireturn, 1) := by decide +kernel
theorem dX6_rest_0 : decode cX6_rest 0 = .ok (.iload_n 1, 1) := by decide +kernel
theorem dX6_rest_1 : decode cX6_rest 1 = .ok (.iconst 1, 1) := by decide +kernel
theorem dX6_rest_2 : decode cX6_rest 2 = .ok (.bipush 8, 2) := by decide +kernel
theorem dX6_rest_4 : decode cX6_rest 4 = .ok (.invokestatic 62, 3) := by decide +kernel
theorem dX6_rest_7 : decode cX6_rest 7 = .ok (.ifCond .ne 5, 3) := by decide +kernel
theorem dX6_rest_10 : decode cX6_rest 10 = .ok (.iconst 0, 1) := by decide +kernel
theorem dX6_rest_11 : decode cX6_rest 11 = .ok (.ireturn, 1) := by decide +kernel
theorem dX6_rest_12 : decode cX6_rest 12 = .ok (.aload_n 0, 1) := by decide +kernel
theorem dX6_rest_13 : decode cX6_rest 13 = .ok (.getfield 19, 3) := by decide +kernel
theorem dX6_rest_16 : decode cX6_rest 16 = .ok (.iload_n 1, 1) := by decide +kernel
theorem dX6_rest_17 : decode cX6_rest 17 = .ok (.putfield 84, 3) := by decide +kernel
theorem dX6_rest_20 : decode cX6_rest 20 = .ok (.iconst 1, 1) := by decide +kernel
theorem dX6_rest_21 : decode cX6_rest 21 = .ok (.ireturn, 1) := by decide +kernel
theorem dX6_force_0 : decode cX6_force 0 = .ok (.iload_n 1, 1) := by decide +kernel
theorem dX6_force_1 : decode cX6_force 1 = .ok (.iconst 1, 1) := by decide +kernel
theorem dX6_force_2 : decode cX6_force 2 = .ok (.sipush 999, 3) := by decide +kernel
theorem dX6_force_5 : decode cX6_force 5 = .ok (.invokestatic 62, 3) := by decide +kernel
theorem dX6_force_8 : decode cX6_force 8 = .ok (.ifCond .ne 5, 3) := by decide +kernel
theorem dX6_force_11 : decode cX6_force 11 = .ok (.iconst 0, 1) := by decide +kernel
theorem dX6_force_12 : decode cX6_force 12 = .ok (.ireturn, 1) := by decide +kernel
theorem dX6_force_13 : decode cX6_force 13 = .ok (.aload_n 0, 1) := by decide +kernel
theorem dX6_force_14 : decode cX6_force 14 = .ok (.iload_n 1, 1) := by decide +kernel
theorem dX6_force_15 : decode cX6_force 15 = .ok (.putfield 56, 3) := by decide +kernel
theorem dX6_force_18 : decode cX6_force 18 = .ok (.iconst 1, 1) := by decide +kernel
theorem dX6_force_19 : decode cX6_force 19 = .ok (.ireturn, 1) := by decide +kernel
theorem dX6_life_0 : decode cX6_life 0 = .ok (.iload_n 1, 1) := by decide +kernel
theorem dX6_life_1 : decode cX6_life 1 = .ok (.iconst 1, 1) := by decide +kernel
theorem dX6_life_2 : decode cX6_life 2 = .ok (.sipush 10000, 3) := by decide +kernel
theorem dX6_life_5 : decode cX6_life 5 = .ok (.invokestatic 62, 3) := by decide +kernel
theorem dX6_life_8 : decode cX6_life 8 = .ok (.ifCond .ne 5, 3) := by decide +kernel
theorem dX6_life_11 : decode cX6_life 11 = .ok (.iconst 0, 1) := by decide +kernel
theorem dX6_life_12 : decode cX6_life 12 = .ok (.ireturn, 1) := by decide +kernel
theorem dX6_life_13 : decode cX6_life 13 = .ok (.aload_n 0, 1) := by decide +kernel
theorem dX6_life_14 : decode cX6_life 14 = .ok (.getfield 19, 3) := by decide +kernel
theorem dX6_life_17 : decode cX6_life 17 = .ok (.iload_n 1, 1) := by decide +kernel
theorem dX6_life_18 : decode cX6_life 18 = .ok (.putfield 87, 3) := by decide +kernel
theorem dX6_life_21 : decode cX6_life 21 = .ok (.iconst 1, 1) := by decide +kernel
theorem dX6_life_22 : decode cX6_life 22 = .ok (.ireturn, 1) := by decide +kernel
theorem dX6_feed_0 : decode cX6_feed 0 = .ok (.aload_n 0, 1) := by decide +kernel
theorem dX6_feed_1 : decode cX6_feed 1 = .ok (.getfield 52, 3) := by decide +kernel
theorem dX6_feed_4 : decode cX6_feed 4 = .ok (.bipush 20, 2) := by decide +kernel
theorem dX6_feed_6 : decode cX6_feed 6 = .ok (.iadd, 1) := by decide +kernel
theorem dX6_feed_7 : decode cX6_feed 7 = .ok (.bipush 80, 2) := by decide +kernel
theorem dX6_feed_9 : decode cX6_feed 9 = .ok (.if_icmp .le 5, 3) := by decide +kernel
theorem dX6_feed_12 : decode cX6_feed 12 = .ok (.iconst (-1), 1) := by decide +kernel
theorem dX6_feed_13 : decode cX6_feed 13 = .ok (.ireturn, 1) := by decide +kernel
theorem dX6_feed_14 : decode cX6_feed 14 = .ok (.aload_n 0, 1) := by decide +kernel
theorem dX6_feed_15 : decode cX6_feed 15 = .ok (.iload_n 1, 1) := by decide +kernel
theorem dX6_feed_16 : decode cX6_feed 16 = .ok (.invokevirtual 90, 3) := by decide +kernel
theorem dX6_feed_19 : decode cX6_feed 19 = .ok (.aload_n 0, 1) := by decide +kernel
theorem dX6_feed_20 : decode cX6_feed 20 = .ok (.iload_n 2, 1) := by decide +kernel
theorem dX6_feed_21 : decode cX6_feed 21 = .ok (.invokevirtual 90, 3) := by decide +kernel
theorem dX6_feed_24 : decode cX6_feed 24 = .ok (.aload_n 0, 1) := by decide +kernel
theorem dX6_feed_25 : decode cX6_feed 25 = .ok (.iload_n 3, 1) := by decide +kernel
theorem dX6_feed_26 : decode cX6_feed 26 = .ok (.invokevirtual 90, 3) := by decide +kernel
theorem dX6_feed_29 : decode cX6_feed 29 = .ok (.aload_n 0, 1) := by decide +kernel
theorem dX6_feed_30 : decode cX6_feed 30 = .ok (.iload 4, 2) := by decide +kernel
theorem dX6_feed_32 : decode cX6_feed 32 = .ok (.invokevirtual 90, 3) := by decide +kernel
theorem dX6_feed_35 : decode cX6_feed 35 = .ok (.aload_n 0, 1) := by decide +kernel
theorem dX6_feed_36 : decode cX6_feed 36 = .ok (.iload 5, 2) := by decide +kernel
theorem dX6_feed_38 : decode cX6_feed 38 = .ok (.invokevirtual 90, 3) := by decide +kernel
theorem dX6_feed_41 : decode cX6_feed 41 = .ok (.aload_n 0, 1) := by decide +kernel
theorem dX6_feed_42 : decode cX6_feed 42 = .ok (.getfield 52, 3) := by decide +kernel
theorem dX6_feed_45 : decode cX6_feed 45 = .ok (.ireturn, 1) := by decide +kernel
theorem dX6_tune_0 : decode cX6_tune 0 = .ok (.iload_n 1, 1) := by decide +kernel
theorem dX6_tune_1 : decode cX6_tune 1 = .ok (.iconst 0, 1) := by decide +kernel
theorem dX6_tune_2 : decode cX6_tune 2 = .ok (.iconst 5, 1) := by decide +kernel
theorem dX6_tune_3 : decode cX6_tune 3 = .ok (.invokestatic 62, 3) := by decide +kernel
theorem dX6_tune_6 : decode cX6_tune 6 = .ok (.ifCond .eq 21, 3) := by decide +kernel
theorem dX6_tune_9 : decode cX6_tune 9 = .ok (.iload_n 2, 1) := by decide +kernel
theorem dX6_tune_10 : decode cX6_tune 10 = .ok (.iconst 0, 1) := by decide +kernel
theorem dX6_tune_11 : decode cX6_tune 11 = .ok (.bipush 60, 2) := by decide +kernel
theorem dX6_tune_13 : decode cX6_tune 13 = .ok (.invokestatic 62, 3) := by decide +kernel
theorem dX6_tune_16 : decode cX6_tune 16 = .ok (.ifCond .eq 11, 3) := by decide +kernel
theorem dX6_tune_19 : decode cX6_tune 19 = .ok (.iload_n 2, 1) := by decide +kernel
theorem dX6_tune_20 : decode cX6_tune 20 = .ok (.aload_n 0, 1) := by decide +kernel
theorem dX6_tune_21 : decode cX6_tune 21 = .ok (.getfield 52, 3) := by decide +kernel
theorem dX6_tune_24 : decode cX6_tune 24 = .ok (.if_icmp .le 5, 3) := by decide +kernel
theorem dX6_tune_27 : decode cX6_tune 27 = .ok (.iconst (-1), 1) := by decide +kernel
theorem dX6_tune_28 : decode cX6_tune 28 = .ok (.ireturn, 1) := by decide +kernel
theorem dX6_tune_29 : decode cX6_tune 29 = .ok (.aload_n 0, 1) := by decide +kernel
theorem dX6_tune_30 : decode cX6_tune 30 = .ok (.getfield 44, 3) := by decide +kernel
theorem dX6_tune_33 : decode cX6_tune 33 = .ok (.aload_n 0, 1) := by decide +kernel
theorem dX6_tune_34 : decode cX6_tune 34 = .ok (.getfield 48, 3) := by decide +kernel
theorem dX6_tune_37 : decode cX6_tune 37 = .ok (.iload_n 2, 1) := by decide +kernel
theorem dX6_tune_38 : decode cX6_tune 38 = .ok (.invokevirtual 94, 3) := by decide +kernel
theorem dX6_tune_41 : decode cX6_tune 41 = .ok (.istore_n 3, 1) := by decide +kernel
theorem dX6_tune_42 : decode cX6_tune 42 = .ok (.aload_n 0, 1) := by decide +kernel
theorem dX6_tune_43 : decode cX6_tune 43 = .ok (.iconst 0, 1) := by decide +kernel
theorem dX6_tune_44 : decode cX6_tune 44 = .ok (.putfield 52, 3) := by decide +kernel
theorem dX6_tune_47 : decode cX6_tune 47 = .ok (.iload_n 3, 1) := by decide +kernel
theorem dX6_tune_48 : decode cX6_tune 48 = .ok (.ifCond .ne 27, 3) := by decide +kernel
theorem dX6_tune_51 : decode cX6_tune 51 = .ok (.aload_n 0, 1) := by decide +kernel
theorem dX6_tune_52 : decode cX6_tune 52 = .ok (.getfield 39, 3) := by decide +kernel
theorem dX6_tune_55 : decode cX6_tune 55 = .ok (.iload_n 1, 1) := by decide +kernel
theorem dX6_tune_56 : decode cX6_tune 56 = .ok (.aaload, 1) := by decide +kernel
theorem dX6_tune_57 : decode cX6_tune 57 = .ok (.astore 4, 2) := by decide +kernel
theorem dX6_tune_59 : decode cX6_tune 59 = .ok (.aload_n 0, 1) := by decide +kernel
theorem dX6_tune_60 : decode cX6_tune 60 = .ok (.getfield 39, 3) := by decide +kernel
theorem dX6_tune_63 : decode cX6_tune 63 = .ok (.iload_n 1, 1) := by decide +kernel
theorem dX6_tune_64 : decode cX6_tune 64 = .ok (.aload_n 0, 1) := by decide +kernel
theorem dX6_tune_65 : decode cX6_tune 65 = .ok (.getfield 44, 3) := by decide +kernel
theorem dX6_tune_68 : decode cX6_tune 68 = .ok (.aastore, 1) := by decide +kernel
theorem dX6_tune_69 : decode cX6_tune 69 = .ok (.aload_n 0, 1) := by decide +kernel
theorem dX6_tune_70 : decode cX6_tune 70 = .ok (.aload 4, 2) := by decide +kernel
theorem dX6_tune_72 : decode cX6_tune 72 = .ok (.putfield 44, 3) := by decide +kernel
theorem dX6_tune_75 : decode cX6_tune 75 = .ok (.iload_n 3, 1) := by decide +kernel
theorem dX6_tune_76 : decode cX6_tune 76 = .ok (.ireturn, 1) := by decide +kernel
theorem dX6_shift_0 : decode cX6_shift 0 = .ok (.aload_n 0, 1) := by decide +kernel
theorem dX6_shift_1 : decode cX6_shift 1 = .ok (.iload_n 1, 1) := by decide +kernel
theorem dX6_shift_2 : decode cX6_shift 2 = .ok (.invokevirtual 98, 3) := by decide +kernel
theorem dX6_shift_5 : decode cX6_shift 5 = .ok (.ifCond .eq 19, 3) := by decide +kernel
theorem dX6_shift_8 : decode cX6_shift 8 = .ok (.aload_n 0, 1) := by decide +kernel
theorem dX6_shift_9 : decode cX6_shift 9 = .ok (.getfield 10, 3) := by decide +kernel
theorem dX6_shift_12 : decode cX6_shift 12 = .ok (.aload_n 0, 1) := by decide +kernel
theorem dX6_shift_13 : decode cX6_shift 13 = .ok (.getfield 39, 3) := by decide +kernel
theorem dX6_shift_16 : decode cX6_shift 16 = .ok (.iload_n 1, 1) := by decide +kernel
theorem dX6_shift_17 : decode cX6_shift 17 = .ok (.aaload, 1) := by decide +kernel
theorem dX6_shift_18 : decode cX6_shift 18 = .ok (.invokevirtual 101, 3) := by decide +kernel
theorem dX6_shift_21 : decode cX6_shift 21 = .ok (.goto 5, 3) := by decide +kernel
theorem dX6_shift_24 : decode cX6_shift 24 = .ok (.bipush (-101), 2) := by decide +kernel
theorem dX6_shift_26 : decode cX6_shift 26 = .ok (.ireturn, 1) := by decide +kernel
theorem dX6_set_0 : decode cX6_set 0 = .ok (.aload_n 0, 1) := by decide +kernel
theorem dX6_set_1 : decode cX6_set 1 = .ok (.iload_n 1, 1) := by decide +kernel
theorem dX6_set_2 : decode cX6_set 2 = .ok (.iload_n 2, 1) := by decide +kernel
theorem dX6_set_3 : decode cX6_set 3 = .ok (.invokevirtual 105, 3) := by decide +kernel
theorem dX6_set_6 : decode cX6_set 6 = .ok (.istore_n 3, 1) := by decide +kernel
theorem dX6_set_7 : decode cX6_set 7 = .ok (.iload_n 3, 1) := by decide +kernel
theorem dX6_set_8 : decode cX6_set 8 = .ok (.iconst (-1), 1) := by decide +kernel
theorem dX6_set_9 : decode cX6_set 9 = .ok (.if_icmp .eq 34, 3) := by decide +kernel
theorem dX6_set_12 : decode cX6_set 12 = .ok (.aload_n 0, 1) := by decide +kernel
theorem dX6_set_13 : decode cX6_set 13 = .ok (.getfield 19, 3) := by decide +kernel
theorem dX6_set_16 : decode cX6_set 16 = .ok (.aload_n 0, 1) := by decide +kernel
theorem dX6_set_17 : decode cX6_set 17 = .ok (.getfield 26, 3) := by decide +kernel
theorem dX6_set_20 : decode cX6_set 20 = .ok (.getfield 109, 3) := by decide +kernel
theorem dX6_set_23 : decode cX6_set 23 = .ok (.aload_n 0, 1) := by decide +kernel
theorem dX6_set_24 : decode cX6_set 24 = .ok (.getfield 26, 3) := by decide +kernel
theorem dX6_set_27 : decode cX6_set 27 = .ok (.getfield 112, 3) := by decide +kernel
theorem dX6_set_30 : decode cX6_set 30 = .ok (.invokevirtual 115, 3) := by decide +kernel
theorem dX6_set_33 : decode cX6_set 33 = .ok (.aload_n 0, 1) := by decide +kernel
theorem dX6_set_34 : decode cX6_set 34 = .ok (.dup, 1) := by decide +kernel
theorem dX6_set_35 : decode cX6_set 35 = .ok (.getfield 59, 3) := by decide +kernel
theorem dX6_set_38 : decode cX6_set 38 = .ok (.iload_n 3, 1) := by decide +kernel
theorem dX6_set_39 : decode cX6_set 39 = .ok (.iadd, 1) := by decide +kernel
theorem dX6_set_40 : decode cX6_set 40 = .ok (.putfield 59, 3) := by decide +kernel
theorem dX6_set_43 : decode cX6_set 43 = .ok (.iload_n 3, 1) := by decide +kernel
theorem dX6_set_44 : decode cX6_set 44 = .ok (.ireturn, 1) := by decide +kernel
theorem dX6_moves_0 : decode cX6_moves 0 = .ok (.aload_n 0, 1) := by decide +kernel
theorem dX6_moves_1 : decode cX6_moves 1 = .ok (.iload_n 1, 1) := by decide +kernel
theorem dX6_moves_2 : decode cX6_moves 2 = .ok (.iload_n 2, 1) := by decide +kernel
theorem dX6_moves_3 : decode cX6_moves 3 = .ok (.invokevirtual 105, 3) := by decide +kernel
theorem dX6_moves_6 : decode cX6_moves 6 = .ok (.ireturn, 1) := by decide +kernel
theorem dX6_why_0 : decode cX6_why 0 = .ok (.aload_n 0, 1) := by decide +kernel
theorem dX6_why_1 : decode cX6_why 1 = .ok (.iload_n 1, 1) := by decide +kernel
theorem dX6_why_2 : decode cX6_why 2 = .ok (.invokevirtual 98, 3) := by decide +kernel
theorem dX6_why_5 : decode cX6_why 5 = .ok (.ifCond .eq 14, 3) := by decide +kernel
theorem dX6_why_8 : decode cX6_why 8 = .ok (.aload_n 0, 1) := by decide +kernel
theorem dX6_why_9 : decode cX6_why 9 = .ok (.getfield 19, 3) := by decide +kernel
theorem dX6_why_12 : decode cX6_why 12 = .ok (.iload_n 2, 1) := by decide +kernel
theorem dX6_why_13 : decode cX6_why 13 = .ok (.invokevirtual 119, 3) := by decide +kernel
theorem dX6_why_16 : decode cX6_why 16 = .ok (.ifCond .ne 5, 3) := by decide +kernel
theorem dX6_why_19 : decode cX6_why 19 = .ok (.iconst (-1), 1) := by decide +kernel
theorem dX6_why_20 : decode cX6_why 20 = .ok (.ireturn, 1) := by decide +kernel
theorem dX6_why_21 : decode cX6_why 21 = .ok (.aload_n 0, 1) := by decide +kernel
theorem dX6_why_22 : decode cX6_why 22 = .ok (.getfield 26, 3) := by decide +kernel
theorem dX6_why_25 : decode cX6_why 25 = .ok (.aload_n 0, 1) := by decide +kernel
theorem dX6_why_26 : decode cX6_why 26 = .ok (.getfield 39, 3) := by decide +kernel
theorem dX6_why_29 : decode cX6_why 29 = .ok (.iload_n 1, 1) := by decide +kernel
theorem dX6_why_30 : decode cX6_why 30 = .ok (.aaload, 1) := by decide +kernel
theorem dX6_why_31 : decode cX6_why 31 = .ok (.iload_n 2, 1) := by decide +kernel
theorem dX6_why_32 : decode cX6_why 32 = .ok (.aload_n 0, 1) := by decide +kernel
theorem dX6_why_33 : decode cX6_why 33 = .ok (.getfield 10, 3) := by decide +kernel
theorem dX6_why_36 : decode cX6_why 36 = .ok (.aload_n 0, 1) := by decide +kernel
theorem dX6_why_37 : decode cX6_why 37 = .ok (.getfield 19, 3) := by decide +kernel
theorem dX6_why_40 : decode cX6_why 40 = .ok (.aload_n 0, 1) := by decide +kernel
theorem dX6_why_41 : decode cX6_why 41 = .ok (.getfield 56, 3) := by decide +kernel
theorem dX6_why_44 : decode cX6_why 44 = .ok (.invokevirtual 122, 3) := by decide +kernel
theorem dX6_why_47 : decode cX6_why 47 = .ok (.ireturn, 1) := by decide +kernel
theorem dX6_nearest_0 : decode cX6_nearest 0 = .ok (.iconst (-1), 1) := by decide +kernel
theorem dX6_nearest_1 : decode cX6_nearest 1 = .ok (.istore_n 2, 1) := by decide +kernel
theorem dX6_nearest_2 : decode cX6_nearest 2 = .ok (.iconst 0, 1) := by decide +kernel
theorem dX6_nearest_3 : decode cX6_nearest 3 = .ok (.istore_n 3, 1) := by decide +kernel
theorem dX6_nearest_4 : decode cX6_nearest 4 = .ok (.iconst 0, 1) := by decide +kernel
theorem dX6_nearest_5 : decode cX6_nearest 5 = .ok (.istore 4, 2) := by decide +kernel
theorem dX6_nearest_7 : decode cX6_nearest 7 = .ok (.iload 4, 2) := by decide +kernel
theorem dX6_nearest_9 : decode cX6_nearest 9 = .ok (.bipush 6, 2) := by decide +kernel
theorem dX6_nearest_11 : decode cX6_nearest 11 = .ok (.if_icmp .ge 41, 3) := by decide +kernel
theorem dX6_nearest_14 : decode cX6_nearest 14 = .ok (.aload_n 0, 1) := by decide +kernel
theorem dX6_nearest_15 : decode cX6_nearest 15 = .ok (.iload 4, 2) := by decide +kernel
theorem dX6_nearest_17 : decode cX6_nearest 17 = .ok (.iload_n 1, 1) := by decide +kernel
theorem dX6_nearest_18 : decode cX6_nearest 18 = .ok (.invokevirtual 105, 3) := by decide +kernel
theorem dX6_nearest_21 : decode cX6_nearest 21 = .ok (.istore 5, 2) := by decide +kernel
theorem dX6_nearest_23 : decode cX6_nearest 23 = .ok (.iload 5, 2) := by decide +kernel
theorem dX6_nearest_25 : decode cX6_nearest 25 = .ok (.iconst (-1), 1) := by decide +kernel
theorem dX6_nearest_26 : decode cX6_nearest 26 = .ok (.if_icmp .eq 20, 3) := by decide +kernel
theorem dX6_nearest_29 : decode cX6_nearest 29 = .ok (.iload_n 2, 1) := by decide +kernel
theorem dX6_nearest_30 : decode cX6_nearest 30 = .ok (.iconst (-1), 1) := by decide +kernel
theorem dX6_nearest_31 : decode cX6_nearest 31 = .ok (.if_icmp .eq 9, 3) := by decide +kernel
theorem dX6_nearest_34 : decode cX6_nearest 34 = .ok (.iload 5, 2) := by decide +kernel
theorem dX6_nearest_36 : decode cX6_nearest 36 = .ok (.iload_n 3, 1) := by decide +kernel
theorem dX6_nearest_37 : decode cX6_nearest 37 = .ok (.if_icmp .ge 9, 3) := by decide +kernel
theorem dX6_nearest_40 : decode cX6_nearest 40 = .ok (.iload 4, 2) := by decide +kernel
theorem dX6_nearest_42 : decode cX6_nearest 42 = .ok (.istore_n 2, 1) := by decide +kernel
theorem dX6_nearest_43 : decode cX6_nearest 43 = .ok (.iload 5, 2) := by decide +kernel
theorem dX6_nearest_45 : decode cX6_nearest 45 = .ok (.istore_n 3, 1) := by decide +kernel
theorem dX6_nearest_46 : decode cX6_nearest 46 = .ok (.iinc 4 1, 3) := by decide +kernel
theorem dX6_nearest_49 : decode cX6_nearest 49 = .ok (.goto (-42), 3) := by decide +kernel
theorem dX6_nearest_52 : decode cX6_nearest 52 = .ok (.iload_n 2, 1) := by decide +kernel
theorem dX6_nearest_53 : decode cX6_nearest 53 = .ok (.ireturn, 1) := by decide +kernel
theorem dX6_pin_0 : decode cX6_pin 0 = .ok (.aload_n 0, 1) := by decide +kernel
theorem dX6_pin_1 : decode cX6_pin 1 = .ok (.iload_n 1, 1) := by decide +kernel
theorem dX6_pin_2 : decode cX6_pin 2 = .ok (.iload_n 2, 1) := by decide +kernel
theorem dX6_pin_3 : decode cX6_pin 3 = .ok (.invokevirtual 126, 3) := by decide +kernel
theorem dX6_pin_6 : decode cX6_pin 6 = .ok (.ifCond .eq 16, 3) := by decide +kernel
theorem dX6_pin_9 : decode cX6_pin 9 = .ok (.aload_n 0, 1) := by decide +kernel
theorem dX6_pin_10 : decode cX6_pin 10 = .ok (.getfield 19, 3) := by decide +kernel
theorem dX6_pin_13 : decode cX6_pin 13 = .ok (.iload_n 1, 1) := by decide +kernel
theorem dX6_pin_14 : decode cX6_pin 14 = .ok (.iload_n 2, 1) := by decide +kernel
theorem dX6_pin_15 : decode cX6_pin 15 = .ok (.invokevirtual 130, 3) := by decide +kernel
theorem dX6_pin_18 : decode cX6_pin 18 = .ok (.iload_n 3, 1) := by decide +kernel
theorem dX6_pin_19 : decode cX6_pin 19 = .ok (.if_icmp .ne 5, 3) := by decide +kernel
theorem dX6_pin_22 : decode cX6_pin 22 = .ok (.iconst 0, 1) := by decide +kernel
theorem dX6_pin_23 : decode cX6_pin 23 = .ok (.ireturn, 1) := by decide +kernel
theorem dX6_pin_24 : decode cX6_pin 24 = .ok (.iload_n 3, 1) := by decide +kernel
theorem dX6_pin_25 : decode cX6_pin 25 = .ok (.ifCond .ne 14, 3) := by decide +kernel
theorem dX6_pin_28 : decode cX6_pin 28 = .ok (.aload_n 0, 1) := by decide +kernel
theorem dX6_pin_29 : decode cX6_pin 29 = .ok (.getfield 19, 3) := by decide +kernel
theorem dX6_pin_32 : decode cX6_pin 32 = .ok (.iload_n 1, 1) := by decide +kernel
theorem dX6_pin_33 : decode cX6_pin 33 = .ok (.iload_n 2, 1) := by decide +kernel
theorem dX6_pin_34 : decode cX6_pin 34 = .ok (.invokevirtual 133, 3) := by decide +kernel
theorem dX6_pin_37 : decode cX6_pin 37 = .ok (.iconst 1, 1) := by decide +kernel
theorem dX6_pin_38 : decode cX6_pin 38 = .ok (.ireturn, 1) := by decide +kernel
theorem dX6_pin_39 : decode cX6_pin 39 = .ok (.aload_n 0, 1) := by decide +kernel
theorem dX6_pin_40 : decode cX6_pin 40 = .ok (.getfield 19, 3) := by decide +kernel
theorem dX6_pin_43 : decode cX6_pin 43 = .ok (.iload_n 1, 1) := by decide +kernel
theorem dX6_pin_44 : decode cX6_pin 44 = .ok (.iload_n 2, 1) := by decide +kernel
theorem dX6_pin_45 : decode cX6_pin 45 = .ok (.invokevirtual 137, 3) := by decide +kernel
theorem dX6_pin_48 : decode cX6_pin 48 = .ok (.ifCond .eq 5, 3) := by decide +kernel
theorem dX6_pin_51 : decode cX6_pin 51 = .ok (.iconst 0, 1) := by decide +kernel
theorem dX6_pin_52 : decode cX6_pin 52 = .ok (.ireturn, 1) := by decide +kernel
theorem dX6_pin_53 : decode cX6_pin 53 = .ok (.aload_n 0, 1) := by decide +kernel
theorem dX6_pin_54 : decode cX6_pin 54 = .ok (.getfield 19, 3) := by decide +kernel
theorem dX6_pin_57 : decode cX6_pin 57 = .ok (.iload_n 1, 1) := by decide +kernel
theorem dX6_pin_58 : decode cX6_pin 58 = .ok (.iload_n 2, 1) := by decide +kernel
theorem dX6_pin_59 : decode cX6_pin 59 = .ok (.invokevirtual 140, 3) := by decide +kernel
theorem dX6_pin_62 : decode cX6_pin 62 = .ok (.iconst 1, 1) := by decide +kernel
theorem dX6_pin_63 : decode cX6_pin 63 = .ok (.ireturn, 1) := by decide +kernel
theorem dX6_mend_0 : decode cX6_mend 0 = .ok (.aload_n 0, 1) := by decide +kernel
theorem dX6_mend_1 : decode cX6_mend 1 = .ok (.iload_n 1, 1) := by decide +kernel
theorem dX6_mend_2 : decode cX6_mend 2 = .ok (.iload_n 2, 1) := by decide +kernel
theorem dX6_mend_3 : decode cX6_mend 3 = .ok (.invokevirtual 143, 3) := by decide +kernel
theorem dX6_mend_6 : decode cX6_mend 6 = .ok (.istore_n 3, 1) := by decide +kernel
theorem dX6_mend_7 : decode cX6_mend 7 = .ok (.iload_n 3, 1) := by decide +kernel
theorem dX6_mend_8 : decode cX6_mend 8 = .ok (.iconst (-1), 1) := by decide +kernel
theorem dX6_mend_9 : decode cX6_mend 9 = .ok (.if_icmp .eq 17, 3) := by decide +kernel
theorem dX6_mend_12 : decode cX6_mend 12 = .ok (.aload_n 0, 1) := by decide +kernel
theorem dX6_mend_13 : decode cX6_mend 13 = .ok (.getfield 19, 3) := by decide +kernel
theorem dX6_mend_16 : decode cX6_mend 16 = .ok (.getfield 146, 3) := by decide +kernel
theorem dX6_mend_19 : decode cX6_mend 19 = .ok (.iload_n 1, 1) := by decide +kernel
theorem dX6_mend_20 : decode cX6_mend 20 = .ok (.iload_n 2, 1) := by decide +kernel
theorem dX6_mend_21 : decode cX6_mend 21 = .ok (.invokestatic 149, 3) := by decide +kernel
theorem dX6_mend_24 : decode cX6_mend 24 = .ok (.iconst 0, 1) := by decide +kernel
theorem dX6_mend_25 : decode cX6_mend 25 = .ok (.iastore, 1) := by decide +kernel
theorem dX6_mend_26 : decode cX6_mend 26 = .ok (.iload_n 3, 1) := by decide +kernel
theorem dX6_mend_27 : decode cX6_mend 27 = .ok (.ireturn, 1) := by decide +kernel
theorem dX6_turn_0 : decode cX6_turn 0 = .ok (.aload_n 0, 1) := by decide +kernel
theorem dX6_turn_1 : decode cX6_turn 1 = .ok (.getfield 19, 3) := by decide +kernel
theorem dX6_turn_4 : decode cX6_turn 4 = .ok (.iload_n 1, 1) := by decide +kernel
theorem dX6_turn_5 : decode cX6_turn 5 = .ok (.invokevirtual 119, 3) := by decide +kernel
theorem dX6_turn_8 : decode cX6_turn 8 = .ok (.ifCond .eq 14, 3) := by decide +kernel
theorem dX6_turn_11 : decode cX6_turn 11 = .ok (.iload_n 2, 1) := by decide +kernel
theorem dX6_turn_12 : decode cX6_turn 12 = .ok (.iconst 1, 1) := by decide +kernel
theorem dX6_turn_13 : decode cX6_turn 13 = .ok (.sipush 640, 3) := by decide +kernel
theorem dX6_turn_16 : decode cX6_turn 16 = .ok (.invokestatic 62, 3) := by decide +kernel
theorem dX6_turn_19 : decode cX6_turn 19 = .ok (.ifCond .ne 5, 3) := by decide +kernel
theorem dX6_turn_22 : decode cX6_turn 22 = .ok (.iconst (-1), 1) := by decide +kernel
theorem dX6_turn_23 : decode cX6_turn 23 = .ok (.ireturn, 1) := by decide +kernel
theorem dX6_turn_24 : decode cX6_turn 24 = .ok (.iconst 0, 1) := by decide +kernel
theorem dX6_turn_25 : decode cX6_turn 25 = .ok (.istore_n 3, 1) := by decide +kernel
theorem dX6_turn_26 : decode cX6_turn 26 = .ok (.iload_n 1, 1) := by decide +kernel
theorem dX6_turn_27 : decode cX6_turn 27 = .ok (.istore 4, 2) := by decide +kernel
theorem dX6_turn_29 : decode cX6_turn 29 = .ok (.iconst 0, 1) := by decide +kernel
theorem dX6_turn_30 : decode cX6_turn 30 = .ok (.istore 5, 2) := by decide +kernel
theorem dX6_turn_32 : decode cX6_turn 32 = .ok (.iload 5, 2) := by decide +kernel
theorem dX6_turn_34 : decode cX6_turn 34 = .ok (.iload_n 2, 1) := by decide +kernel
theorem dX6_turn_35 : decode cX6_turn 35 = .ok (.if_icmp .ge 36, 3) := by decide +kernel
theorem dX6_turn_38 : decode cX6_turn 38 = .ok (.iload_n 3, 1) := by decide +kernel
theorem dX6_turn_39 : decode cX6_turn 39 = .ok (.aload_n 0, 1) := by decide +kernel
theorem dX6_turn_40 : decode cX6_turn 40 = .ok (.getfield 19, 3) := by decide +kernel
theorem dX6_turn_43 : decode cX6_turn 43 = .ok (.iload 4, 2) := by decide +kernel
theorem dX6_turn_45 : decode cX6_turn 45 = .ok (.aload_n 0, 1) := by decide +kernel
theorem dX6_turn_46 : decode cX6_turn 46 = .ok (.getfield 10, 3) := by decide +kernel
theorem dX6_turn_49 : decode cX6_turn 49 = .ok (.invokevirtual 152, 3) := by decide +kernel
theorem dX6_turn_52 : decode cX6_turn 52 = .ok (.iadd, 1) := by decide +kernel
theorem dX6_turn_53 : decode cX6_turn 53 = .ok (.istore_n 3, 1) := by decide +kernel
theorem dX6_turn_54 : decode cX6_turn 54 = .ok (.aload_n 0, 1) := by decide +kernel
theorem dX6_turn_55 : decode cX6_turn 55 = .ok (.getfield 19, 3) := by decide +kernel
theorem dX6_turn_58 : decode cX6_turn 58 = .ok (.iload 4, 2) := by decide +kernel
theorem dX6_turn_60 : decode cX6_turn 60 = .ok (.invokevirtual 156, 3) := by decide +kernel
theorem dX6_turn_63 : decode cX6_turn 63 = .ok (.istore 4, 2) := by decide +kernel
theorem dX6_turn_65 : decode cX6_turn 65 = .ok (.iinc 5 1, 3) := by decide +kernel
theorem dX6_turn_68 : decode cX6_turn 68 = .ok (.goto (-36), 3) := by decide +kernel
theorem dX6_turn_71 : decode cX6_turn 71 = .ok (.iload_n 3, 1) := by decide +kernel
theorem dX6_turn_72 : decode cX6_turn 72 = .ok (.ireturn, 1) := by decide +kernel
theorem dX6_read_0 : decode cX6_read 0 = .ok (.aload_n 0, 1) := by decide +kernel
theorem dX6_read_1 : decode cX6_read 1 = .ok (.getfield 19, 3) := by decide +kernel
theorem dX6_read_4 : decode cX6_read 4 = .ok (.iload_n 1, 1) := by decide +kernel
theorem dX6_read_5 : decode cX6_read 5 = .ok (.invokevirtual 119, 3) := by decide +kernel
theorem dX6_read_8 : decode cX6_read 8 = .ok (.ifCond .eq 18, 3) := by decide +kernel
theorem dX6_read_11 : decode cX6_read 11 = .ok (.iload_n 2, 1) := by decide +kernel
theorem dX6_read_12 : decode cX6_read 12 = .ok (.iconst 1, 1) := by decide +kernel
theorem dX6_read_13 : decode cX6_read 13 = .ok (.aload_n 0, 1) := by decide +kernel
theorem dX6_read_14 : decode cX6_read 14 = .ok (.getfield 19, 3) := by decide +kernel
theorem dX6_read_17 : decode cX6_read 17 = .ok (.getfield 78, 3) := by decide +kernel
theorem dX6_read_20 : decode cX6_read 20 = .ok (.invokestatic 62, 3) := by decide +kernel
theorem dX6_read_23 : decode cX6_read 23 = .ok (.ifCond .ne 5, 3) := by decide +kernel
theorem dX6_read_26 : decode cX6_read 26 = .ok (.iconst (-1), 1) := by decide +kernel
theorem dX6_read_27 : decode cX6_read 27 = .ok (.ireturn, 1) := by decide +kernel
theorem dX6_read_28 : decode cX6_read 28 = .ok (.aload_n 0, 1) := by decide +kernel
theorem dX6_read_29 : decode cX6_read 29 = .ok (.getfield 33, 3) := by decide +kernel
theorem dX6_read_32 : decode cX6_read 32 = .ok (.iconst 0, 1) := by decide +kernel
theorem dX6_read_33 : decode cX6_read 33 = .ok (.putfield 160, 3) := by decide +kernel
theorem dX6_read_36 : decode cX6_read 36 = .ok (.aload_n 0, 1) := by decide +kernel
theorem dX6_read_37 : decode cX6_read 37 = .ok (.getfield 19, 3) := by decide +kernel
theorem dX6_read_40 : decode cX6_read 40 = .ok (.iload_n 1, 1) := by decide +kernel
theorem dX6_read_41 : decode cX6_read 41 = .ok (.aload_n 0, 1) := by decide +kernel
theorem dX6_read_42 : decode cX6_read 42 = .ok (.getfield 10, 3) := by decide +kernel
theorem dX6_read_45 : decode cX6_read 45 = .ok (.invokevirtual 163, 3) := by decide +kernel
theorem dX6_read_48 : decode cX6_read 48 = .ok (.lstore_n 3, 1) := by decide +kernel
theorem dX6_read_49 : decode cX6_read 49 = .ok (.iconst 1, 1) := by decide +kernel
theorem dX6_read_50 : decode cX6_read 50 = .ok (.istore 5, 2) := by decide +kernel
theorem dX6_read_52 : decode cX6_read 52 = .ok (.iload_n 1, 1) := by decide +kernel
theorem dX6_read_53 : decode cX6_read 53 = .ok (.istore 6, 2) := by decide +kernel
theorem dX6_read_55 : decode cX6_read 55 = .ok (.iconst 1, 1) := by decide +kernel
theorem dX6_read_56 : decode cX6_read 56 = .ok (.istore 7, 2) := by decide +kernel
theorem dX6_read_58 : decode cX6_read 58 = .ok (.iload 7, 2) := by decide +kernel
theorem dX6_read_60 : decode cX6_read 60 = .ok (.iload_n 2, 1) := by decide +kernel
theorem dX6_read_61 : decode cX6_read 61 = .ok (.if_icmp .ge 61, 3) := by decide +kernel
theorem dX6_read_64 : decode cX6_read 64 = .ok (.aload_n 0, 1) := by decide +kernel
theorem dX6_read_65 : decode cX6_read 65 = .ok (.getfield 19, 3) := by decide +kernel
theorem dX6_read_68 : decode cX6_read 68 = .ok (.iload 6, 2) := by decide +kernel
theorem dX6_read_70 : decode cX6_read 70 = .ok (.invokevirtual 156, 3) := by decide +kernel
theorem dX6_read_73 : decode cX6_read 73 = .ok (.istore 6, 2) := by decide +kernel
theorem dX6_read_75 : decode cX6_read 75 = .ok (.aload_n 0, 1) := by decide +kernel
theorem dX6_read_76 : decode cX6_read 76 = .ok (.getfield 19, 3) := by decide +kernel
theorem dX6_read_79 : decode cX6_read 79 = .ok (.iload 6, 2) := by decide +kernel
theorem dX6_read_81 : decode cX6_read 81 = .ok (.aload_n 0, 1) := by decide +kernel
theorem dX6_read_82 : decode cX6_read 82 = .ok (.getfield 10, 3) := by decide +kernel
theorem dX6_read_85 : decode cX6_read 85 = .ok (.invokevirtual 163, 3) := by decide +kernel
theorem dX6_read_88 : decode cX6_read 88 = .ok (.lstore 8, 2) := by decide +kernel
theorem dX6_read_90 : decode cX6_read 90 = .ok (.lload 8, 2) := by decide +kernel
theorem dX6_read_92 : decode cX6_read 92 = .ok (.lconst 0, 1) := by decide +kernel
theorem dX6_read_93 : decode cX6_read 93 = .ok (.lcmp, 1) := by decide +kernel
theorem dX6_read_94 : decode cX6_read 94 = .ok (.ifCond .eq 19, 3) := by decide +kernel
theorem dX6_read_97 : decode cX6_read 97 = .ok (.aload_n 0, 1) := by decide +kernel
theorem dX6_read_98 : decode cX6_read 98 = .ok (.getfield 33, 3) := by decide +kernel
theorem dX6_read_101 : decode cX6_read 101 = .ok (.lload_n 3, 1) := by decide +kernel
theorem dX6_read_102 : decode cX6_read 102 = .ok (.iload 5, 2) := by decide +kernel
theorem dX6_read_104 : decode cX6_read 104 = .ok (.invokevirtual 167, 3) := by decide +kernel
theorem dX6_read_107 : decode cX6_read 107 = .ok (.lload 8, 2) := by decide +kernel
theorem dX6_read_109 : decode cX6_read 109 = .ok (.lstore_n 3, 1) := by decide +kernel
theorem dX6_read_110 : decode cX6_read 110 = .ok (.iconst 0, 1) := by decide +kernel
theorem dX6_read_111 : decode cX6_read 111 = .ok (.istore 5, 2) := by decide +kernel
theorem dX6_read_113 : decode cX6_read 113 = .ok (.iinc 5 1, 3) := by decide +kernel
theorem dX6_read_116 : decode cX6_read 116 = .ok (.iinc 7 1, 3) := by decide +kernel
theorem dX6_read_119 : decode cX6_read 119 = .ok (.goto (-61), 3) := by decide +kernel
theorem dX6_read_122 : decode cX6_read 122 = .ok (.aload_n 0, 1) := by decide +kernel
theorem dX6_read_123 : decode cX6_read 123 = .ok (.getfield 33, 3) := by decide +kernel
theorem dX6_read_126 : decode cX6_read 126 = .ok (.lload_n 3, 1) := by decide +kernel
theorem dX6_read_127 : decode cX6_read 127 = .ok (.iload 5, 2) := by decide +kernel
theorem dX6_read_129 : decode cX6_read 129 = .ok (.invokevirtual 167, 3) := by decide +kernel
theorem dX6_read_132 : decode cX6_read 132 = .ok (.aload_n 0, 1) := by decide +kernel
theorem dX6_read_133 : decode cX6_read 133 = .ok (.getfield 33, 3) := by decide +kernel
theorem dX6_read_136 : decode cX6_read 136 = .ok (.getfield 160, 3) := by decide +kernel
theorem dX6_read_139 : decode cX6_read 139 = .ok (.ireturn, 1) := by decide +kernel
theorem dX6_octet_0 : decode cX6_octet 0 = .ok (.iload_n 1, 1) := by decide +kernel
theorem dX6_octet_1 : decode cX6_octet 1 = .ok (.iconst 0, 1) := by decide +kernel
theorem dX6_octet_2 : decode cX6_octet 2 = .ok (.aload_n 0, 1) := by decide +kernel
theorem dX6_octet_3 : decode cX6_octet 3 = .ok (.getfield 33, 3) := by decide +kernel
theorem dX6_octet_6 : decode cX6_octet 6 = .ok (.getfield 160, 3) := by decide +kernel
theorem dX6_octet_9 : decode cX6_octet 9 = .ok (.iconst 1, 1) := by decide +kernel
theorem dX6_octet_10 : decode cX6_octet 10 = .ok (.isub, 1) := by decide +kernel
theorem dX6_octet_11 : decode cX6_octet 11 = .ok (.invokestatic 62, 3) := by decide +kernel
theorem dX6_octet_14 : decode cX6_octet 14 = .ok (.ifCond .eq 15, 3) := by decide +kernel
theorem dX6_octet_17 : decode cX6_octet 17 = .ok (.aload_n 0, 1) := by decide +kernel
theorem dX6_octet_18 : decode cX6_octet 18 = .ok (.getfield 33, 3) := by decide +kernel
theorem dX6_octet_21 : decode cX6_octet 21 = .ok (.getfield 171, 3) := by decide +kernel
theorem dX6_octet_24 : decode cX6_octet 24 = .ok (.iload_n 1, 1) := by decide +kernel
theorem dX6_octet_25 : decode cX6_octet 25 = .ok (.iaload, 1) := by decide +kernel
theorem dX6_octet_26 : decode cX6_octet 26 = .ok (.goto 4, 3) := by decide +kernel
theorem dX6_octet_29 : decode cX6_octet 29 = .ok (.iconst (-1), 1) := by decide +kernel
theorem dX6_octet_30 : decode cX6_octet 30 = .ok (.ireturn, 1) := by decide +kernel
theorem dX6_strikes_0 : decode cX6_strikes 0 = .ok (.aload_n 0, 1) := by decide +kernel
theorem dX6_strikes_1 : decode cX6_strikes 1 = .ok (.iload_n 1, 1) := by decide +kernel
theorem dX6_strikes_2 : decode cX6_strikes 2 = .ok (.iload_n 2, 1) := by decide +kernel
theorem dX6_strikes_3 : decode cX6_strikes 3 = .ok (.invokevirtual 143, 3) := by decide +kernel
theorem dX6_strikes_6 : decode cX6_strikes 6 = .ok (.ireturn, 1) := by decide +kernel
theorem dX6_look_0 : decode cX6_look 0 = .ok (.aload_n 0, 1) := by decide +kernel
theorem dX6_look_1 : decode cX6_look 1 = .ok (.getfield 10, 3) := by decide +kernel
theorem dX6_look_4 : decode cX6_look 4 = .ok (.iload_n 1, 1) := by decide +kernel
theorem dX6_look_5 : decode cX6_look 5 = .ok (.invokevirtual 70, 3) := by decide +kernel
theorem dX6_look_8 : decode cX6_look 8 = .ok (.ifCond .ne 5, 3) := by decide +kernel
theorem dX6_look_11 : decode cX6_look 11 = .ok (.iconst (-1), 1) := by decide +kernel
theorem dX6_look_12 : decode cX6_look 12 = .ok (.ireturn, 1) := by decide +kernel
theorem dX6_look_13 : decode cX6_look 13 = .ok (.aload_n 0, 1) := by decide +kernel
theorem dX6_look_14 : decode cX6_look 14 = .ok (.getfield 10, 3) := by decide +kernel
theorem dX6_look_17 : decode cX6_look 17 = .ok (.getfield 174, 3) := by decide +kernel
theorem dX6_look_20 : decode cX6_look 20 = .ok (.iload_n 1, 1) := by decide +kernel
theorem dX6_look_21 : decode cX6_look 21 = .ok (.iaload, 1) := by decide +kernel
theorem dX6_look_22 : decode cX6_look 22 = .ok (.istore_n 3, 1) := by decide +kernel
theorem dX6_look_23 : decode cX6_look 23 = .ok (.iload_n 3, 1) := by decide +kernel
theorem dX6_look_24 : decode cX6_look 24 = .ok (.aload_n 0, 1) := by decide +kernel
theorem dX6_look_25 : decode cX6_look 25 = .ok (.getfield 10, 3) := by decide +kernel
theorem dX6_look_28 : decode cX6_look 28 = .ok (.getfield 177, 3) := by decide +kernel
theorem dX6_look_31 : decode cX6_look 31 = .ok (.iload_n 1, 1) := by decide +kernel
theorem dX6_look_32 : decode cX6_look 32 = .ok (.iaload, 1) := by decide +kernel
theorem dX6_look_33 : decode cX6_look 33 = .ok (.iadd, 1) := by decide +kernel
theorem dX6_look_34 : decode cX6_look 34 = .ok (.istore 4, 2) := by decide +kernel
theorem dX6_look_36 : decode cX6_look 36 = .ok (.iload_n 2, 1) := by decide +kernel
theorem dX6_look_37 : decode cX6_look 37 = .ok (.tableswitch 123 0 6 #[43, 53, 63, 73, 91, 93, 105], 43) := by decide +kernel
theorem dX6_look_80 : decode cX6_look 80 = .ok (.aload_n 0, 1) := by decide +kernel
theorem dX6_look_81 : decode cX6_look 81 = .ok (.getfield 10, 3) := by decide +kernel
theorem dX6_look_84 : decode cX6_look 84 = .ok (.getfield 180, 3) := by decide +kernel
theorem dX6_look_87 : decode cX6_look 87 = .ok (.iload_n 1, 1) := by decide +kernel
theorem dX6_look_88 : decode cX6_look 88 = .ok (.iaload, 1) := by decide +kernel
theorem dX6_look_89 : decode cX6_look 89 = .ok (.ireturn, 1) := by decide +kernel
theorem dX6_look_90 : decode cX6_look 90 = .ok (.aload_n 0, 1) := by decide +kernel
theorem dX6_look_91 : decode cX6_look 91 = .ok (.getfield 10, 3) := by decide +kernel
theorem dX6_look_94 : decode cX6_look 94 = .ok (.getfield 183, 3) := by decide +kernel
theorem dX6_look_97 : decode cX6_look 97 = .ok (.iload_n 1, 1) := by decide +kernel
theorem dX6_look_98 : decode cX6_look 98 = .ok (.iaload, 1) := by decide +kernel
theorem dX6_look_99 : decode cX6_look 99 = .ok (.ireturn, 1) := by decide +kernel
theorem dX6_look_100 : decode cX6_look 100 = .ok (.aload_n 0, 1) := by decide +kernel
theorem dX6_look_101 : decode cX6_look 101 = .ok (.getfield 10, 3) := by decide +kernel
theorem dX6_look_104 : decode cX6_look 104 = .ok (.getfield 177, 3) := by decide +kernel
theorem dX6_look_107 : decode cX6_look 107 = .ok (.iload_n 1, 1) := by decide +kernel
theorem dX6_look_108 : decode cX6_look 108 = .ok (.iaload, 1) := by decide +kernel
theorem dX6_look_109 : decode cX6_look 109 = .ok (.ireturn, 1) := by decide +kernel
theorem dX6_look_110 : decode cX6_look 110 = .ok (.aload_n 0, 1) := by decide +kernel
theorem dX6_look_111 : decode cX6_look 111 = .ok (.getfield 10, 3) := by decide +kernel
theorem dX6_look_114 : decode cX6_look 114 = .ok (.getfield 74, 3) := by decide +kernel
theorem dX6_look_117 : decode cX6_look 117 = .ok (.iload_n 1, 1) := by decide +kernel
theorem dX6_look_118 : decode cX6_look 118 = .ok (.baload, 1) := by decide +kernel
theorem dX6_look_119 : decode cX6_look 119 = .ok (.ifCond .eq 7, 3) := by decide +kernel
theorem dX6_look_122 : decode cX6_look 122 = .ok (.iconst 1, 1) := by decide +kernel
theorem dX6_look_123 : decode cX6_look 123 = .ok (.goto 4, 3) := by decide +kernel
theorem dX6_look_126 : decode cX6_look 126 = .ok (.iconst 0, 1) := by decide +kernel
theorem dX6_look_127 : decode cX6_look 127 = .ok (.ireturn, 1) := by decide +kernel
theorem dX6_look_128 : decode cX6_look 128 = .ok (.iload_n 3, 1) := by decide +kernel
theorem dX6_look_129 : decode cX6_look 129 = .ok (.ireturn, 1) := by decide +kernel
theorem dX6_look_130 : decode cX6_look 130 = .ok (.aload_n 0, 1) := by decide +kernel
theorem dX6_look_131 : decode cX6_look 131 = .ok (.getfield 19, 3) := by decide +kernel
theorem dX6_look_134 : decode cX6_look 134 = .ok (.iload_n 3, 1) := by decide +kernel
theorem dX6_look_135 : decode cX6_look 135 = .ok (.iload 4, 2) := by decide +kernel
theorem dX6_look_137 : decode cX6_look 137 = .ok (.iconst 0, 1) := by decide +kernel
theorem dX6_look_138 : decode cX6_look 138 = .ok (.invokevirtual 186, 3) := by decide +kernel
theorem dX6_look_141 : decode cX6_look 141 = .ok (.ireturn, 1) := by decide +kernel
theorem dX6_look_142 : decode cX6_look 142 = .ok (.aload_n 0, 1) := by decide +kernel
theorem dX6_look_143 : decode cX6_look 143 = .ok (.getfield 19, 3) := by decide +kernel
theorem dX6_look_146 : decode cX6_look 146 = .ok (.iload_n 3, 1) := by decide +kernel
theorem dX6_look_147 : decode cX6_look 147 = .ok (.iload 4, 2) := by decide +kernel
theorem dX6_look_149 : decode cX6_look 149 = .ok (.aload_n 0, 1) := by decide +kernel
theorem dX6_look_150 : decode cX6_look 150 = .ok (.getfield 19, 3) := by decide +kernel
theorem dX6_look_153 : decode cX6_look 153 = .ok (.getfield 87, 3) := by decide +kernel
theorem dX6_look_156 : decode cX6_look 156 = .ok (.invokevirtual 186, 3) := by decide +kernel
theorem dX6_look_159 : decode cX6_look 159 = .ok (.ireturn, 1) := by decide +kernel
theorem dX6_look_160 : decode cX6_look 160 = .ok (.iconst (-1), 1) := by decide +kernel
theorem dX6_look_161 : decode cX6_look 161 = .ok (.ireturn, 1) := by decide +kernel
theorem dX6_told_0 : decode cX6_told 0 = .ok (.iload_n 1, 1) := by decide +kernel
theorem dX6_told_1 : decode cX6_told 1 = .ok (.iconst 0, 1) := by decide +kernel
theorem dX6_told_2 : decode cX6_told 2 = .ok (.iconst 5, 1) := by decide +kernel
theorem dX6_told_3 : decode cX6_told 3 = .ok (.invokestatic 62, 3) := by decide +kernel
theorem dX6_told_6 : decode cX6_told 6 = .ok (.ifCond .ne 5, 3) := by decide +kernel
theorem dX6_told_9 : decode cX6_told 9 = .ok (.iconst (-1), 1) := by decide +kernel
theorem dX6_told_10 : decode cX6_told 10 = .ok (.ireturn, 1) := by decide +kernel
theorem dX6_told_11 : decode cX6_told 11 = .ok (.aload_n 0, 1) := by decide +kernel
theorem dX6_told_12 : decode cX6_told 12 = .ok (.getfield 39, 3) := by decide +kernel
theorem dX6_told_15 : decode cX6_told 15 = .ok (.iload_n 1, 1) := by decide +kernel
theorem dX6_told_16 : decode cX6_told 16 = .ok (.aaload, 1) := by decide +kernel
theorem dX6_told_17 : decode cX6_told 17 = .ok (.astore_n 3, 1) := by decide +kernel
theorem dX6_told_18 : decode cX6_told 18 = .ok (.iload_n 2, 1) := by decide +kernel
theorem dX6_told_19 : decode cX6_told 19 = .ok (.tableswitch 58 0 4 #[33, 38, 43, 48, 53], 33) := by decide +kernel
theorem dX6_told_52 : decode cX6_told 52 = .ok (.aload_n 3, 1) := by decide +kernel
theorem dX6_told_53 : decode cX6_told 53 = .ok (.getfield 189, 3) := by decide +kernel
theorem dX6_told_56 : decode cX6_told 56 = .ok (.ireturn, 1) := by decide +kernel
theorem dX6_told_57 : decode cX6_told 57 = .ok (.aload_n 3, 1) := by decide +kernel
theorem dX6_told_58 : decode cX6_told 58 = .ok (.getfield 192, 3) := by decide +kernel
theorem dX6_told_61 : decode cX6_told 61 = .ok (.ireturn, 1) := by decide +kernel
theorem dX6_told_62 : decode cX6_told 62 = .ok (.aload_n 3, 1) := by decide +kernel
theorem dX6_told_63 : decode cX6_told 63 = .ok (.getfield 195, 3) := by decide +kernel
theorem dX6_told_66 : decode cX6_told 66 = .ok (.ireturn, 1) := by decide +kernel
theorem dX6_told_67 : decode cX6_told 67 = .ok (.aload_n 3, 1) := by decide +kernel
theorem dX6_told_68 : decode cX6_told 68 = .ok (.invokevirtual 198, 3) := by decide +kernel
theorem dX6_told_71 : decode cX6_told 71 = .ok (.ireturn, 1) := by decide +kernel
theorem dX6_told_72 : decode cX6_told 72 = .ok (.aload_n 3, 1) := by decide +kernel
theorem dX6_told_73 : decode cX6_told 73 = .ok (.invokevirtual 202, 3) := by decide +kernel
theorem dX6_told_76 : decode cX6_told 76 = .ok (.ireturn, 1) := by decide +kernel
theorem dX6_told_77 : decode cX6_told 77 = .ok (.iconst (-1), 1) := by decide +kernel
theorem dX6_told_78 : decode cX6_told 78 = .ok (.ireturn, 1) := by decide +kernel
theorem dX6_count_0 : decode cX6_count 0 = .ok (.iload_n 1, 1) := by decide +kernel
theorem dX6_count_1 : decode cX6_count 1 = .ok (.tableswitch 141 0 9 #[55, 63, 71, 79, 87, 92, 100, 108, 131, 136], 55) := by decide +kernel
theorem dX6_count_56 : decode cX6_count 56 = .ok (.aload_n 0, 1) := by decide +kernel
theorem dX6_count_57 : decode cX6_count 57 = .ok (.getfield 10, 3) := by decide +kernel
theorem dX6_count_60 : decode cX6_count 60 = .ok (.getfield 205, 3) := by decide +kernel
theorem dX6_count_63 : decode cX6_count 63 = .ok (.ireturn, 1) := by decide +kernel
theorem dX6_count_64 : decode cX6_count 64 = .ok (.aload_n 0, 1) := by decide +kernel
theorem dX6_count_65 : decode cX6_count 65 = .ok (.getfield 10, 3) := by decide +kernel
theorem dX6_count_68 : decode cX6_count 68 = .ok (.getfield 206, 3) := by decide +kernel
theorem dX6_count_71 : decode cX6_count 71 = .ok (.ireturn, 1) := by decide +kernel
theorem dX6_count_72 : decode cX6_count 72 = .ok (.aload_n 0, 1) := by decide +kernel
theorem dX6_count_73 : decode cX6_count 73 = .ok (.getfield 19, 3) := by decide +kernel
theorem dX6_count_76 : decode cX6_count 76 = .ok (.getfield 78, 3) := by decide +kernel
theorem dX6_count_79 : decode cX6_count 79 = .ok (.ireturn, 1) := by decide +kernel
theorem dX6_count_80 : decode cX6_count 80 = .ok (.aload_n 0, 1) := by decide +kernel
theorem dX6_count_81 : decode cX6_count 81 = .ok (.getfield 19, 3) := by decide +kernel
theorem dX6_count_84 : decode cX6_count 84 = .ok (.getfield 84, 3) := by decide +kernel
theorem dX6_count_87 : decode cX6_count 87 = .ok (.ireturn, 1) := by decide +kernel
theorem dX6_count_88 : decode cX6_count 88 = .ok (.aload_n 0, 1) := by decide +kernel
theorem dX6_count_89 : decode cX6_count 89 = .ok (.getfield 56, 3) := by decide +kernel
theorem dX6_count_92 : decode cX6_count 92 = .ok (.ireturn, 1) := by decide +kernel
theorem dX6_count_93 : decode cX6_count 93 = .ok (.aload_n 0, 1) := by decide +kernel
theorem dX6_count_94 : decode cX6_count 94 = .ok (.getfield 19, 3) := by decide +kernel
theorem dX6_count_97 : decode cX6_count 97 = .ok (.getfield 87, 3) := by decide +kernel
theorem dX6_count_100 : decode cX6_count 100 = .ok (.ireturn, 1) := by decide +kernel
theorem dX6_count_101 : decode cX6_count 101 = .ok (.aload_n 0, 1) := by decide +kernel
theorem dX6_count_102 : decode cX6_count 102 = .ok (.getfield 19, 3) := by decide +kernel
theorem dX6_count_105 : decode cX6_count 105 = .ok (.getfield 209, 3) := by decide +kernel
theorem dX6_count_108 : decode cX6_count 108 = .ok (.ireturn, 1) := by decide +kernel
theorem dX6_count_109 : decode cX6_count 109 = .ok (.aload_n 0, 1) := by decide +kernel
theorem dX6_count_110 : decode cX6_count 110 = .ok (.getfield 19, 3) := by decide +kernel
theorem dX6_count_113 : decode cX6_count 113 = .ok (.iconst 0, 1) := by decide +kernel
theorem dX6_count_114 : decode cX6_count 114 = .ok (.aload_n 0, 1) := by decide +kernel
theorem dX6_count_115 : decode cX6_count 115 = .ok (.getfield 10, 3) := by decide +kernel
theorem dX6_count_118 : decode cX6_count 118 = .ok (.getfield 206, 3) := by decide +kernel
theorem dX6_count_121 : decode cX6_count 121 = .ok (.aload_n 0, 1) := by decide +kernel
theorem dX6_count_122 : decode cX6_count 122 = .ok (.getfield 19, 3) := by decide +kernel
theorem dX6_count_125 : decode cX6_count 125 = .ok (.getfield 87, 3) := by decide +kernel
theorem dX6_count_128 : decode cX6_count 128 = .ok (.invokevirtual 186, 3) := by decide +kernel
theorem dX6_count_131 : decode cX6_count 131 = .ok (.ireturn, 1) := by decide +kernel
theorem dX6_count_132 : decode cX6_count 132 = .ok (.aload_n 0, 1) := by decide +kernel
theorem dX6_count_133 : decode cX6_count 133 = .ok (.getfield 52, 3) := by decide +kernel
theorem dX6_count_136 : decode cX6_count 136 = .ok (.ireturn, 1) := by decide +kernel
theorem dX6_count_137 : decode cX6_count 137 = .ok (.aload_n 0, 1) := by decide +kernel
theorem dX6_count_138 : decode cX6_count 138 = .ok (.getfield 59, 3) := by decide +kernel
theorem dX6_count_141 : decode cX6_count 141 = .ok (.ireturn, 1) := by decide +kernel
theorem dX6_count_142 : decode cX6_count 142 = .ok (.iconst (-1), 1) := by decide +kernel
theorem dX6_count_143 : decode cX6_count 143 = .ok (.ireturn, 1) := by decide +kernel
theorem dX6_isWithin_0 : decode cX6_isWithin 0 = .ok (.iload_n 0, 1) := by decide +kernel
theorem dX6_isWithin_1 : decode cX6_isWithin 1 = .ok (.iload_n 1, 1) := by decide +kernel
theorem dX6_isWithin_2 : decode cX6_isWithin 2 = .ok (.if_icmp .lt 12, 3) := by decide +kernel
theorem dX6_isWithin_5 : decode cX6_isWithin 5 = .ok (.iload_n 0, 1) := by decide +kernel
theorem dX6_isWithin_6 : decode cX6_isWithin 6 = .ok (.iload_n 2, 1) := by decide +kernel
theorem dX6_isWithin_7 : decode cX6_isWithin 7 = .ok (.if_icmp .gt 7, 3) := by decide +kernel
theorem dX6_isWithin_10 : decode cX6_isWithin 10 = .ok (.iconst 1, 1) := by decide +kernel
theorem dX6_isWithin_11 : decode cX6_isWithin 11 = .ok (.goto 4, 3) := by decide +kernel
theorem dX6_isWithin_14 : decode cX6_isWithin 14 = .ok (.iconst 0, 1) := by decide +kernel
theorem dX6_isWithin_15 : decode cX6_isWithin 15 = .ok (.ireturn, 1) := by decide +kernel
theorem dX6_isTold_0 : decode cX6_isTold 0 = .ok (.iload_n 1, 1) := by decide +kernel
theorem dX6_isTold_1 : decode cX6_isTold 1 = .ok (.iconst 0, 1) := by decide +kernel
theorem dX6_isTold_2 : decode cX6_isTold 2 = .ok (.iconst 5, 1) := by decide +kernel
theorem dX6_isTold_3 : decode cX6_isTold 3 = .ok (.invokestatic 62, 3) := by decide +kernel
theorem dX6_isTold_6 : decode cX6_isTold 6 = .ok (.ifCond .eq 19, 3) := by decide +kernel
theorem dX6_isTold_9 : decode cX6_isTold 9 = .ok (.aload_n 0, 1) := by decide +kernel
theorem dX6_isTold_10 : decode cX6_isTold 10 = .ok (.getfield 39, 3) := by decide +kernel
theorem dX6_isTold_13 : decode cX6_isTold 13 = .ok (.iload_n 1, 1) := by decide +kernel
theorem dX6_isTold_14 : decode cX6_isTold 14 = .ok (.aaload, 1) := by decide +kernel
theorem dX6_isTold_15 : decode cX6_isTold 15 = .ok (.getfield 189, 3) := by decide +kernel
theorem dX6_isTold_18 : decode cX6_isTold 18 = .ok (.ifCond .le 7, 3) := by decide +kernel
theorem dX6_isTold_21 : decode cX6_isTold 21 = .ok (.iconst 1, 1) := by decide +kernel
theorem dX6_isTold_22 : decode cX6_isTold 22 = .ok (.goto 4, 3) := by decide +kernel
theorem dX6_isTold_25 : decode cX6_isTold 25 = .ok (.iconst 0, 1) := by decide +kernel
theorem dX6_isTold_26 : decode cX6_isTold 26 = .ok (.ireturn, 1) := by decide +kernel
theorem dX6_isPlace_0 : decode cX6_isPlace 0 = .ok (.iload_n 1, 1) := by decide +kernel
theorem dX6_isPlace_1 : decode cX6_isPlace 1 = .ok (.iconst 0, 1) := by decide +kernel
theorem dX6_isPlace_2 : decode cX6_isPlace 2 = .ok (.aload_n 0, 1) := by decide +kernel
theorem dX6_isPlace_3 : decode cX6_isPlace 3 = .ok (.getfield 10, 3) := by decide +kernel
theorem dX6_isPlace_6 : decode cX6_isPlace 6 = .ok (.getfield 206, 3) := by decide +kernel
theorem dX6_isPlace_9 : decode cX6_isPlace 9 = .ok (.iconst 1, 1) := by decide +kernel
theorem dX6_isPlace_10 : decode cX6_isPlace 10 = .ok (.isub, 1) := by decide +kernel
theorem dX6_isPlace_11 : decode cX6_isPlace 11 = .ok (.invokestatic 62, 3) := by decide +kernel
theorem dX6_isPlace_14 : decode cX6_isPlace 14 = .ok (.ifCond .eq 18, 3) := by decide +kernel
theorem dX6_isPlace_17 : decode cX6_isPlace 17 = .ok (.aload_n 0, 1) := by decide +kernel
theorem dX6_isPlace_18 : decode cX6_isPlace 18 = .ok (.getfield 19, 3) := by decide +kernel
theorem dX6_isPlace_21 : decode cX6_isPlace 21 = .ok (.iload_n 2, 1) := by decide +kernel
theorem dX6_isPlace_22 : decode cX6_isPlace 22 = .ok (.invokevirtual 119, 3) := by decide +kernel
theorem dX6_isPlace_25 : decode cX6_isPlace 25 = .ok (.ifCond .eq 7, 3) := by decide +kernel
theorem dX6_isPlace_28 : decode cX6_isPlace 28 = .ok (.iconst 1, 1) := by decide +kernel
theorem dX6_isPlace_29 : decode cX6_isPlace 29 = .ok (.goto 4, 3) := by decide +kernel
theorem dX6_isPlace_32 : decode cX6_isPlace 32 = .ok (.iconst 0, 1) := by decide +kernel
theorem dX6_isPlace_33 : decode cX6_isPlace 33 = .ok (.ireturn, 1) := by decide +kernel
theorem dX6_strikesAt_0 : decode cX6_strikesAt 0 = .ok (.aload_n 0, 1) := by decide +kernel
theorem dX6_strikesAt_1 : decode cX6_strikesAt 1 = .ok (.iload_n 1, 1) := by decide +kernel
theorem dX6_strikesAt_2 : decode cX6_strikesAt 2 = .ok (.iload_n 2, 1) := by decide +kernel
theorem dX6_strikesAt_3 : decode cX6_strikesAt 3 = .ok (.invokevirtual 126, 3) := by decide +kernel
theorem dX6_strikesAt_6 : decode cX6_strikesAt 6 = .ok (.ifCond .eq 19, 3) := by decide +kernel
theorem dX6_strikesAt_9 : decode cX6_strikesAt 9 = .ok (.aload_n 0, 1) := by decide +kernel
theorem dX6_strikesAt_10 : decode cX6_strikesAt 10 = .ok (.getfield 19, 3) := by decide +kernel
theorem dX6_strikesAt_13 : decode cX6_strikesAt 13 = .ok (.getfield 146, 3) := by decide +kernel
theorem dX6_strikesAt_16 : decode cX6_strikesAt 16 = .ok (.iload_n 1, 1) := by decide +kernel
theorem dX6_strikesAt_17 : decode cX6_strikesAt 17 = .ok (.iload_n 2, 1) := by decide +kernel
theorem dX6_strikesAt_18 : decode cX6_strikesAt 18 = .ok (.invokestatic 149, 3) := by decide +kernel
theorem dX6_strikesAt_21 : decode cX6_strikesAt 21 = .ok (.iaload, 1) := by decide +kernel
theorem dX6_strikesAt_22 : decode cX6_strikesAt 22 = .ok (.goto 4, 3) := by decide +kernel
theorem dX6_strikesAt_25 : decode cX6_strikesAt 25 = .ok (.iconst (-1), 1) := by decide +kernel
theorem dX6_strikesAt_26 : decode cX6_strikesAt 26 = .ok (.ireturn, 1) := by decide +kernel
theorem dX6_feedWord_0 : decode cX6_feedWord 0 = .ok (.bipush 24, 2) := by decide +kernel
theorem dX6_feedWord_2 : decode cX6_feedWord 2 = .ok (.istore_n 2, 1) := by decide +kernel
theorem dX6_feedWord_3 : decode cX6_feedWord 3 = .ok (.iload_n 2, 1) := by decide +kernel
theorem dX6_feedWord_4 : decode cX6_feedWord 4 = .ok (.ifCond .lt 44, 3) := by decide +kernel
theorem dX6_feedWord_7 : decode cX6_feedWord 7 = .ok (.aload_n 0, 1) := by decide +kernel
theorem dX6_feedWord_8 : decode cX6_feedWord 8 = .ok (.getfield 52, 3) := by decide +kernel
theorem dX6_feedWord_11 : decode cX6_feedWord 11 = .ok (.bipush 80, 2) := by decide +kernel
theorem dX6_feedWord_13 : decode cX6_feedWord 13 = .ok (.if_icmp .ge 35, 3) := by decide +kernel
theorem dX6_feedWord_16 : decode cX6_feedWord 16 = .ok (.aload_n 0, 1) := by decide +kernel
theorem dX6_feedWord_17 : decode cX6_feedWord 17 = .ok (.getfield 48, 3) := by decide +kernel
theorem dX6_feedWord_20 : decode cX6_feedWord 20 = .ok (.aload_n 0, 1) := by decide +kernel
theorem dX6_feedWord_21 : decode cX6_feedWord 21 = .ok (.getfield 52, 3) := by decide +kernel
theorem dX6_feedWord_24 : decode cX6_feedWord 24 = .ok (.iload_n 1, 1) := by decide +kernel
theorem dX6_feedWord_25 : decode cX6_feedWord 25 = .ok (.iload_n 2, 1) := by decide +kernel
theorem dX6_feedWord_26 : decode cX6_feedWord 26 = .ok (.ishr, 1) := by decide +kernel
theorem dX6_feedWord_27 : decode cX6_feedWord 27 = .ok (.sipush 255, 3) := by decide +kernel
theorem dX6_feedWord_30 : decode cX6_feedWord 30 = .ok (.iand, 1) := by decide +kernel
theorem dX6_feedWord_31 : decode cX6_feedWord 31 = .ok (.iastore, 1) := by decide +kernel
theorem dX6_feedWord_32 : decode cX6_feedWord 32 = .ok (.aload_n 0, 1) := by decide +kernel
theorem dX6_feedWord_33 : decode cX6_feedWord 33 = .ok (.dup, 1) := by decide +kernel
theorem dX6_feedWord_34 : decode cX6_feedWord 34 = .ok (.getfield 52, 3) := by decide +kernel
theorem dX6_feedWord_37 : decode cX6_feedWord 37 = .ok (.iconst 1, 1) := by decide +kernel
theorem dX6_feedWord_38 : decode cX6_feedWord 38 = .ok (.iadd, 1) := by decide +kernel
theorem dX6_feedWord_39 : decode cX6_feedWord 39 = .ok (.putfield 52, 3) := by decide +kernel
theorem dX6_feedWord_42 : decode cX6_feedWord 42 = .ok (.iinc 2 (-8), 3) := by decide +kernel
theorem dX6_feedWord_45 : decode cX6_feedWord 45 = .ok (.goto (-42), 3) := by decide +kernel
theorem dX6_feedWord_48 : decode cX6_feedWord 48 = .ok (.return_, 1) := by decide +kernel
theorem dX6_movedBy_0 : decode cX6_movedBy 0 = .ok (.aload_n 0, 1) := by decide +kernel
theorem dX6_movedBy_1 : decode cX6_movedBy 1 = .ok (.iload_n 1, 1) := by decide +kernel
theorem dX6_movedBy_2 : decode cX6_movedBy 2 = .ok (.invokevirtual 98, 3) := by decide +kernel
theorem dX6_movedBy_5 : decode cX6_movedBy 5 = .ok (.ifCond .eq 14, 3) := by decide +kernel
theorem dX6_movedBy_8 : decode cX6_movedBy 8 = .ok (.aload_n 0, 1) := by decide +kernel
theorem dX6_movedBy_9 : decode cX6_movedBy 9 = .ok (.getfield 19, 3) := by decide +kernel
theorem dX6_movedBy_12 : decode cX6_movedBy 12 = .ok (.iload_n 2, 1) := by decide +kernel
theorem dX6_movedBy_13 : decode cX6_movedBy 13 = .ok (.invokevirtual 119, 3) := by decide +kernel
theorem dX6_movedBy_16 : decode cX6_movedBy 16 = .ok (.ifCond .ne 5, 3) := by decide +kernel
theorem dX6_movedBy_19 : decode cX6_movedBy 19 = .ok (.iconst (-1), 1) := by decide +kernel
theorem dX6_movedBy_20 : decode cX6_movedBy 20 = .ok (.ireturn, 1) := by decide +kernel
theorem dX6_movedBy_21 : decode cX6_movedBy 21 = .ok (.aload_n 0, 1) := by decide +kernel
theorem dX6_movedBy_22 : decode cX6_movedBy 22 = .ok (.getfield 26, 3) := by decide +kernel
theorem dX6_movedBy_25 : decode cX6_movedBy 25 = .ok (.aload_n 0, 1) := by decide +kernel
theorem dX6_movedBy_26 : decode cX6_movedBy 26 = .ok (.getfield 39, 3) := by decide +kernel
theorem dX6_movedBy_29 : decode cX6_movedBy 29 = .ok (.iload_n 1, 1) := by decide +kernel
theorem dX6_movedBy_30 : decode cX6_movedBy 30 = .ok (.aaload, 1) := by decide +kernel
theorem dX6_movedBy_31 : decode cX6_movedBy 31 = .ok (.iload_n 2, 1) := by decide +kernel
theorem dX6_movedBy_32 : decode cX6_movedBy 32 = .ok (.aload_n 0, 1) := by decide +kernel
theorem dX6_movedBy_33 : decode cX6_movedBy 33 = .ok (.getfield 10, 3) := by decide +kernel
theorem dX6_movedBy_36 : decode cX6_movedBy 36 = .ok (.aload_n 0, 1) := by decide +kernel
theorem dX6_movedBy_37 : decode cX6_movedBy 37 = .ok (.getfield 19, 3) := by decide +kernel
theorem dX6_movedBy_40 : decode cX6_movedBy 40 = .ok (.aload_n 0, 1) := by decide +kernel
theorem dX6_movedBy_41 : decode cX6_movedBy 41 = .ok (.getfield 56, 3) := by decide +kernel
theorem dX6_movedBy_44 : decode cX6_movedBy 44 = .ok (.invokevirtual 122, 3) := by decide +kernel
theorem dX6_movedBy_47 : decode cX6_movedBy 47 = .ok (.ifCond .eq 5, 3) := by decide +kernel
theorem dX6_movedBy_50 : decode cX6_movedBy 50 = .ok (.iconst (-1), 1) := by decide +kernel
theorem dX6_movedBy_51 : decode cX6_movedBy 51 = .ok (.ireturn, 1) := by decide +kernel
theorem dX6_movedBy_52 : decode cX6_movedBy 52 = .ok (.aload_n 0, 1) := by decide +kernel
theorem dX6_movedBy_53 : decode cX6_movedBy 53 = .ok (.getfield 26, 3) := by decide +kernel
theorem dX6_movedBy_56 : decode cX6_movedBy 56 = .ok (.getfield 112, 3) := by decide +kernel
theorem dX6_movedBy_59 : decode cX6_movedBy 59 = .ok (.aload_n 0, 1) := by decide +kernel
theorem dX6_movedBy_60 : decode cX6_movedBy 60 = .ok (.getfield 26, 3) := by decide +kernel
theorem dX6_movedBy_63 : decode cX6_movedBy 63 = .ok (.getfield 212, 3) := by decide +kernel
theorem dX6_movedBy_66 : decode cX6_movedBy 66 = .ok (.isub, 1) := by decide +kernel
theorem dX6_movedBy_67 : decode cX6_movedBy 67 = .ok (.istore_n 3, 1) := by decide +kernel
theorem dX6_movedBy_68 : decode cX6_movedBy 68 = .ok (.aload_n 0, 1) := by decide +kernel
theorem dX6_movedBy_69 : decode cX6_movedBy 69 = .ok (.getfield 19, 3) := by decide +kernel
theorem dX6_movedBy_72 : decode cX6_movedBy 72 = .ok (.getfield 209, 3) := by decide +kernel
theorem dX6_movedBy_75 : decode cX6_movedBy 75 = .ok (.iload_n 3, 1) := by decide +kernel
theorem dX6_movedBy_76 : decode cX6_movedBy 76 = .ok (.isub, 1) := by decide +kernel
theorem dX6_movedBy_77 : decode cX6_movedBy 77 = .ok (.aload_n 0, 1) := by decide +kernel
theorem dX6_movedBy_78 : decode cX6_movedBy 78 = .ok (.getfield 26, 3) := by decide +kernel
theorem dX6_movedBy_81 : decode cX6_movedBy 81 = .ok (.getfield 212, 3) := by decide +kernel
theorem dX6_movedBy_84 : decode cX6_movedBy 84 = .ok (.iadd, 1) := by decide +kernel
theorem dX6_movedBy_85 : decode cX6_movedBy 85 = .ok (.ireturn, 1) := by decide +kernel
theorem dX7_init_0 : decode cX7_init 0 = .ok (.aload_n 0, 1) := by decide +kernel
theorem dX7_init_1 : decode cX7_init 1 = .ok (.invokespecial 1, 3) := by decide +kernel
theorem dX7_init_4 : decode cX7_init 4 = .ok (.aload_n 0, 1) := by decide +kernel
theorem dX7_init_5 : decode cX7_init 5 = .ok (.bipush 32, 2) := by decide +kernel
theorem dX7_init_7 : decode cX7_init 7 = .ok (.putfield 7, 3) := by decide +kernel
theorem dX7_init_10 : decode cX7_init 10 = .ok (.aload_n 0, 1) := by decide +kernel
theorem dX7_init_11 : decode cX7_init 11 = .ok (.iconst 3, 1) := by decide +kernel
theorem dX7_init_12 : decode cX7_init 12 = .ok (.putfield 13, 3) := by decide +kernel
theorem dX7_init_15 : decode cX7_init 15 = .ok (.aload_n 0, 1) := by decide +kernel
theorem dX7_init_16 : decode cX7_init 16 = .ok (.sipush 200, 3) := by decide +kernel
theorem dX7_init_19 : decode cX7_init 19 = .ok (.putfield 16, 3) := by decide +kernel
theorem dX7_init_22 : decode cX7_init 22 = .ok (.aload_n 0, 1) := by decide +kernel
theorem dX7_init_23 : decode cX7_init 23 = .ok (.sipush 1000, 3) := by decide +kernel
theorem dX7_init_26 : decode cX7_init 26 = .ok (.putfield 19, 3) := by decide +kernel
theorem dX7_init_29 : decode cX7_init 29 = .ok (.aload_n 0, 1) := by decide +kernel
theorem dX7_init_30 : decode cX7_init 30 = .ok (.bipush 12, 2) := by decide +kernel
theorem dX7_init_32 : decode cX7_init 32 = .ok (.newarray .int, 2) := by decide +kernel
theorem dX7_init_34 : decode cX7_init 34 = .ok (.putfield 22, 3) := by decide +kernel
theorem dX7_init_37 : decode cX7_init 37 = .ok (.aload_n 0, 1) := by decide +kernel
theorem dX7_init_38 : decode cX7_init 38 = .ok (.bipush 12, 2) := by decide +kernel
theorem dX7_init_40 : decode cX7_init 40 = .ok (.newarray .int, 2) := by decide +kernel
theorem dX7_init_42 : decode cX7_init 42 = .ok (.putfield 26, 3) := by decide +kernel
theorem dX7_init_45 : decode cX7_init 45 = .ok (.aload_n 0, 1) := by decide +kernel
theorem dX7_init_46 : decode cX7_init 46 = .ok (.bipush 12, 2) := by decide +kernel
theorem dX7_init_48 : decode cX7_init 48 = .ok (.newarray .int, 2) := by decide +kernel
theorem dX7_init_50 : decode cX7_init 50 = .ok (.putfield 29, 3) := by decide +kernel
theorem dX7_init_53 : decode cX7_init 53 = .ok (.aload_n 0, 1) := by decide +kernel
theorem dX7_init_54 : decode cX7_init 54 = .ok (.bipush 12, 2) := by decide +kernel
theorem dX7_init_56 : decode cX7_init 56 = .ok (.newarray .int, 2) := by decide +kernel
theorem dX7_init_58 : decode cX7_init 58 = .ok (.putfield 32, 3) := by decide +kernel
theorem dX7_init_61 : decode cX7_init 61 = .ok (.aload_n 0, 1) := by decide +kernel
theorem dX7_init_62 : decode cX7_init 62 = .ok (.bipush 36, 2) := by decide +kernel
theorem dX7_init_64 : decode cX7_init 64 = .ok (.newarray .int, 2) := by decide +kernel
theorem dX7_init_66 : decode cX7_init 66 = .ok (.putfield 35, 3) := by decide +kernel
theorem dX7_init_69 : decode cX7_init 69 = .ok (.aload_n 0, 1) := by decide +kernel
theorem dX7_init_70 : decode cX7_init 70 = .ok (.bipush 12, 2) := by decide +kernel
theorem dX7_init_72 : decode cX7_init 72 = .ok (.newarray .boolean, 2) := by decide +kernel
theorem dX7_init_74 : decode cX7_init 74 = .ok (.putfield 38, 3) := by decide +kernel
theorem dX7_init_77 : decode cX7_init 77 = .ok (.aload_n 0, 1) := by decide +kernel
theorem dX7_init_78 : decode cX7_init 78 = .ok (.sipush 2304, 3) := by decide +kernel
theorem dX7_init_81 : decode cX7_init 81 = .ok (.newarray .boolean, 2) := by decide +kernel
theorem dX7_init_83 : decode cX7_init 83 = .ok (.putfield 42, 3) := by decide +kernel
theorem dX7_init_86 : decode cX7_init 86 = .ok (.aload_n 0, 1) := by decide +kernel
theorem dX7_init_87 : decode cX7_init 87 = .ok (.sipush 2304, 3) := by decide +kernel
theorem dX7_init_90 : decode cX7_init 90 = .ok (.newarray .int, 2) := by decide +kernel
theorem dX7_init_92 : decode cX7_init 92 = .ok (.putfield 45, 3) := by decide +kernel
theorem dX7_init_95 : decode cX7_init 95 = .ok (.aload_n 0, 1) := by decide +kernel
theorem dX7_init_96 : decode cX7_init 96 = .ok (.bipush 80, 2) := by decide +kernel
theorem dX7_init_98 : decode cX7_init 98 = .ok (.newarray .byte, 2) := by decide +kernel
theorem dX7_init_100 : decode cX7_init 100 = .ok (.putfield 48, 3) := by decide +kernel
theorem dX7_init_103 : decode cX7_init 103 = .ok (.aload_n 0, 1) := by decide +kernel
theorem dX7_init_104 : decode cX7_init 104 = .ok (.bipush 6, 2) := by decide +kernel
theorem dX7_init_106 : decode cX7_init 106 = .ok (.newarray .int, 2) := by decide +kernel
theorem dX7_init_108 : decode cX7_init 108 = .ok (.putfield 52, 3) := by decide +kernel
theorem dX7_init_111 : decode cX7_init 111 = .ok (.aload_n 0, 1) := by decide +kernel
theorem dX7_init_112 : decode cX7_init 112 = .ok (.bipush 6, 2) := by decide +kernel
theorem dX7_init_114 : decode cX7_init 114 = .ok (.newarray .int, 2) := by decide +kernel
theorem dX7_init_116 : decode cX7_init 116 = .ok (.putfield 55, 3) := by decide +kernel
theorem dX7_init_119 : decode cX7_init 119 = .ok (.aload_n 0, 1) := by decide +kernel
theorem dX7_init_120 : decode cX7_init 120 = .ok (.bipush 6, 2) := by decide +kernel
theorem dX7_init_122 : decode cX7_init 122 = .ok (.newarray .int, 2) := by decide +kernel
theorem dX7_init_124 : decode cX7_init 124 = .ok (.putfield 58, 3) := by decide +kernel
theorem dX7_init_127 : decode cX7_init 127 = .ok (.aload_n 0, 1) := by decide +kernel
theorem dX7_init_128 : decode cX7_init 128 = .ok (.sipush 180, 3) := by decide +kernel
theorem dX7_init_131 : decode cX7_init 131 = .ok (.newarray .int, 2) := by decide +kernel
theorem dX7_init_133 : decode cX7_init 133 = .ok (.putfield 61, 3) := by decide +kernel
theorem dX7_init_136 : decode cX7_init 136 = .ok (.aload_n 0, 1) := by decide +kernel
theorem dX7_init_137 : decode cX7_init 137 = .ok (.sipush 192, 3) := by decide +kernel
theorem dX7_init_140 : decode cX7_init 140 = .ok (.newarray .int, 2) := by decide +kernel
theorem dX7_init_142 : decode cX7_init 142 = .ok (.putfield 64, 3) := by decide +kernel
theorem dX7_init_145 : decode cX7_init 145 = .ok (.aload_n 0, 1) := by decide +kernel
theorem dX7_init_146 : decode cX7_init 146 = .ok (.sipush 192, 3) := by decide +kernel
theorem dX7_init_149 : decode cX7_init 149 = .ok (.newarray .int, 2) := by decide +kernel
theorem dX7_init_151 : decode cX7_init 151 = .ok (.putfield 67, 3) := by decide +kernel
theorem dX7_init_154 : decode cX7_init 154 = .ok (.aload_n 0, 1) := by decide +kernel
theorem dX7_init_155 : decode cX7_init 155 = .ok (.bipush 30, 2) := by decide +kernel
theorem dX7_init_157 : decode cX7_init 157 = .ok (.newarray .int, 2) := by decide +kernel
theorem dX7_init_159 : decode cX7_init 159 = .ok (.putfield 70, 3) := by decide +kernel
theorem dX7_init_162 : decode cX7_init 162 = .ok (.aload_n 0, 1) := by decide +kernel
theorem dX7_init_163 : decode cX7_init 163 = .ok (.bipush 32, 2) := by decide +kernel
theorem dX7_init_165 : decode cX7_init 165 = .ok (.newarray .int, 2) := by decide +kernel
theorem dX7_init_167 : decode cX7_init 167 = .ok (.putfield 73, 3) := by decide +kernel
theorem dX7_init_170 : decode cX7_init 170 = .ok (.aload_n 0, 1) := by decide +kernel
theorem dX7_init_171 : decode cX7_init 171 = .ok (.bipush 32, 2) := by decide +kernel
theorem dX7_init_173 : decode cX7_init 173 = .ok (.newarray .int, 2) := by decide +kernel
theorem dX7_init_175 : decode cX7_init 175 = .ok (.putfield 76, 3) := by decide +kernel
theorem dX7_init_178 : decode cX7_init 178 = .ok (.aload_n 0, 1) := by decide +kernel
theorem dX7_init_179 : decode cX7_init 179 = .ok (.sipush 2304, 3) := by decide +kernel
theorem dX7_init_182 : decode cX7_init 182 = .ok (.newarray .boolean, 2) := by decide +kernel
theorem dX7_init_184 : decode cX7_init 184 = .ok (.putfield 79, 3) := by decide +kernel
theorem dX7_init_187 : decode cX7_init 187 = .ok (.aload_n 0, 1) := by decide +kernel
theorem dX7_init_188 : decode cX7_init 188 = .ok (.bipush 32, 2) := by decide +kernel
theorem dX7_init_190 : decode cX7_init 190 = .ok (.newarray .int, 2) := by decide +kernel
theorem dX7_init_192 : decode cX7_init 192 = .ok (.putfield 82, 3) := by decide +kernel
theorem dX7_init_195 : decode cX7_init 195 = .ok (.aload_n 0, 1) := by decide +kernel
theorem dX7_init_196 : decode cX7_init 196 = .ok (.bipush 32, 2) := by decide +kernel
theorem dX7_init_198 : decode cX7_init 198 = .ok (.newarray .int, 2) := by decide +kernel
theorem dX7_init_200 : decode cX7_init 200 = .ok (.putfield 85, 3) := by decide +kernel
theorem dX7_init_203 : decode cX7_init 203 = .ok (.aload_n 0, 1) := by decide +kernel
theorem dX7_init_204 : decode cX7_init 204 = .ok (.bipush 32, 2) := by decide +kernel
theorem dX7_init_206 : decode cX7_init 206 = .ok (.newarray .int, 2) := by decide +kernel
theorem dX7_init_208 : decode cX7_init 208 = .ok (.putfield 88, 3) := by decide +kernel
theorem dX7_init_211 : decode cX7_init 211 = .ok (.aload_n 0, 1) := by decide +kernel
theorem dX7_init_212 : decode cX7_init 212 = .ok (.sipush 2600, 3) := by decide +kernel
theorem dX7_init_215 : decode cX7_init 215 = .ok (.newarray .byte, 2) := by decide +kernel
theorem dX7_init_217 : decode cX7_init 217 = .ok (.putfield 91, 3) := by decide +kernel
theorem dX7_init_220 : decode cX7_init 220 = .ok (.return_, 1) := by decide +kernel
theorem dX7_in_0 : decode cX7_in 0 = .ok (.iload_n 0, 1) := by decide +kernel
theorem dX7_in_1 : decode cX7_in 1 = .ok (.iload_n 1, 1) := by decide +kernel
theorem dX7_in_2 : decode cX7_in 2 = .ok (.if_icmp .lt 12, 3) := by decide +kernel
theorem dX7_in_5 : decode cX7_in 5 = .ok (.iload_n 0, 1) := by decide +kernel
theorem dX7_in_6 : decode cX7_in 6 = .ok (.iload_n 2, 1) := by decide +kernel
theorem dX7_in_7 : decode cX7_in 7 = .ok (.if_icmp .gt 7, 3) := by decide +kernel
theorem dX7_in_10 : decode cX7_in 10 = .ok (.iconst 1, 1) := by decide +kernel
theorem dX7_in_11 : decode cX7_in 11 = .ok (.goto 4, 3) := by decide +kernel
theorem dX7_in_14 : decode cX7_in 14 = .ok (.iconst 0, 1) := by decide +kernel
theorem dX7_in_15 : decode cX7_in 15 = .ok (.ireturn, 1) := by decide +kernel
theorem dX7_bell_0 : decode cX7_bell 0 = .ok (.iload_n 1, 1) := by decide +kernel
theorem dX7_bell_1 : decode cX7_bell 1 = .ok (.iconst 0, 1) := by decide +kernel
theorem dX7_bell_2 : decode cX7_bell 2 = .ok (.bipush 47, 2) := by decide +kernel
theorem dX7_bell_4 : decode cX7_bell 4 = .ok (.invokestatic 94, 3) := by decide +kernel
theorem dX7_bell_7 : decode cX7_bell 7 = .ok (.ifCond .eq 40, 3) := by decide +kernel
theorem dX7_bell_10 : decode cX7_bell 10 = .ok (.iload_n 2, 1) := by decide +kernel
theorem dX7_bell_11 : decode cX7_bell 11 = .ok (.iconst 1, 1) := by decide +kernel
theorem dX7_bell_12 : decode cX7_bell 12 = .ok (.bipush 99, 2) := by decide +kernel
theorem dX7_bell_14 : decode cX7_bell 14 = .ok (.invokestatic 94, 3) := by decide +kernel
theorem dX7_bell_17 : decode cX7_bell 17 = .ok (.ifCond .eq 30, 3) := by decide +kernel
theorem dX7_bell_20 : decode cX7_bell 20 = .ok (.iload_n 3, 1) := by decide +kernel
theorem dX7_bell_21 : decode cX7_bell 21 = .ok (.iconst 1, 1) := by decide +kernel
theorem dX7_bell_22 : decode cX7_bell 22 = .ok (.iconst 3, 1) := by decide +kernel
theorem dX7_bell_23 : decode cX7_bell 23 = .ok (.invokestatic 94, 3) := by decide +kernel
theorem dX7_bell_26 : decode cX7_bell 26 = .ok (.ifCond .eq 21, 3) := by decide +kernel
theorem dX7_bell_29 : decode cX7_bell 29 = .ok (.aload_n 0, 1) := by decide +kernel
theorem dX7_bell_30 : decode cX7_bell 30 = .ok (.getfield 98, 3) := by decide +kernel
theorem dX7_bell_33 : decode cX7_bell 33 = .ok (.bipush 12, 2) := by decide +kernel
theorem dX7_bell_35 : decode cX7_bell 35 = .ok (.if_icmp .eq 12, 3) := by decide +kernel
theorem dX7_bell_38 : decode cX7_bell 38 = .ok (.aload_n 0, 1) := by decide +kernel
theorem dX7_bell_39 : decode cX7_bell 39 = .ok (.iload_n 1, 1) := by decide +kernel
theorem dX7_bell_40 : decode cX7_bell 40 = .ok (.invokevirtual 101, 3) := by decide +kernel
theorem dX7_bell_43 : decode cX7_bell 43 = .ok (.iconst (-1), 1) := by decide +kernel
theorem dX7_bell_44 : decode cX7_bell 44 = .ok (.if_icmp .eq 5, 3) := by decide +kernel
theorem dX7_bell_47 : decode cX7_bell 47 = .ok (.iconst (-1), 1) := by decide +kernel
theorem dX7_bell_48 : decode cX7_bell 48 = .ok (.ireturn, 1) := by decide +kernel
theorem dX7_bell_49 : decode cX7_bell 49 = .ok (.aload_n 0, 1) := by decide +kernel
theorem dX7_bell_50 : decode cX7_bell 50 = .ok (.getfield 22, 3) := by decide +kernel
theorem dX7_bell_53 : decode cX7_bell 53 = .ok (.aload_n 0, 1) := by decide +kernel
theorem dX7_bell_54 : decode cX7_bell 54 = .ok (.getfield 98, 3) := by decide +kernel
theorem dX7_bell_57 : decode cX7_bell 57 = .ok (.iload_n 1, 1) := by decide +kernel
theorem dX7_bell_58 : decode cX7_bell 58 = .ok (.iastore, 1) := by decide +kernel
theorem dX7_bell_59 : decode cX7_bell 59 = .ok (.aload_n 0, 1) := by decide +kernel
theorem dX7_bell_60 : decode cX7_bell 60 = .ok (.getfield 26, 3) := by decide +kernel
theorem dX7_bell_63 : decode cX7_bell 63 = .ok (.aload_n 0, 1) := by decide +kernel
theorem dX7_bell_64 : decode cX7_bell 64 = .ok (.getfield 98, 3) := by decide +kernel
theorem dX7_bell_67 : decode cX7_bell 67 = .ok (.iload_n 2, 1) := by decide +kernel
theorem dX7_bell_68 : decode cX7_bell 68 = .ok (.iastore, 1) := by decide +kernel
theorem dX7_bell_69 : decode cX7_bell 69 = .ok (.aload_n 0, 1) := by decide +kernel
theorem dX7_bell_70 : decode cX7_bell 70 = .ok (.getfield 29, 3) := by decide +kernel
theorem dX7_bell_73 : decode cX7_bell 73 = .ok (.aload_n 0, 1) := by decide +kernel
theorem dX7_bell_74 : decode cX7_bell 74 = .ok (.getfield 98, 3) := by decide +kernel
theorem dX7_bell_77 : decode cX7_bell 77 = .ok (.iload_n 3, 1) := by decide +kernel
theorem dX7_bell_78 : decode cX7_bell 78 = .ok (.iastore, 1) := by decide +kernel
theorem dX7_bell_79 : decode cX7_bell 79 = .ok (.aload_n 0, 1) := by decide +kernel
theorem dX7_bell_80 : decode cX7_bell 80 = .ok (.getfield 32, 3) := by decide +kernel
theorem dX7_bell_83 : decode cX7_bell 83 = .ok (.aload_n 0, 1) := by decide +kernel
theorem dX7_bell_84 : decode cX7_bell 84 = .ok (.getfield 98, 3) := by decide +kernel
theorem dX7_bell_87 : decode cX7_bell 87 = .ok (.aload_n 0, 1) := by decide +kernel
theorem dX7_bell_88 : decode cX7_bell 88 = .ok (.getfield 105, 3) := by decide +kernel
theorem dX7_bell_91 : decode cX7_bell 91 = .ok (.iastore, 1) := by decide +kernel
theorem dX7_bell_92 : decode cX7_bell 92 = .ok (.iconst 0, 1) := by decide +kernel
theorem dX7_bell_93 : decode cX7_bell 93 = .ok (.istore 4, 2) := by decide +kernel
theorem dX7_bell_95 : decode cX7_bell 95 = .ok (.iload 4, 2) := by decide +kernel
theorem dX7_bell_97 : decode cX7_bell 97 = .ok (.iload_n 3, 1) := by decide +kernel
theorem dX7_bell_98 : decode cX7_bell 98 = .ok (.if_icmp .ge 25, 3) := by decide +kernel
theorem dX7_bell_101 : decode cX7_bell 101 = .ok (.aload_n 0, 1) := by decide +kernel
theorem dX7_bell_102 : decode cX7_bell 102 = .ok (.getfield 35, 3) := by decide +kernel
theorem dX7_bell_105 : decode cX7_bell 105 = .ok (.aload_n 0, 1) := by decide +kernel
theorem dX7_bell_106 : decode cX7_bell 106 = .ok (.getfield 105, 3) := by decide +kernel
theorem dX7_bell_109 : decode cX7_bell 109 = .ok (.iload 4, 2) := by decide +kernel
theorem dX7_bell_111 : decode cX7_bell 111 = .ok (.iadd, 1) := by decide +kernel
theorem dX7_bell_112 : decode cX7_bell 112 = .ok (.aload_n 0, 1) := by decide +kernel
theorem dX7_bell_113 : decode cX7_bell 113 = .ok (.getfield 98, 3) := by decide +kernel
theorem dX7_bell_116 : decode cX7_bell 116 = .ok (.iastore, 1) := by decide +kernel
theorem dX7_bell_117 : decode cX7_bell 117 = .ok (.iinc 4 1, 3) := by decide +kernel
theorem dX7_bell_120 : decode cX7_bell 120 = .ok (.goto (-25), 3) := by decide +kernel
theorem dX7_bell_123 : decode cX7_bell 123 = .ok (.aload_n 0, 1) := by decide +kernel
theorem dX7_bell_124 : decode cX7_bell 124 = .ok (.aload_n 0, 1) := by decide +kernel
theorem dX7_bell_125 : decode cX7_bell 125 = .ok (.getfield 105, 3) := by decide +kernel
theorem dX7_bell_128 : decode cX7_bell 128 = .ok (.iload_n 3, 1) := by decide +kernel
theorem dX7_bell_129 : decode cX7_bell 129 = .ok (.iadd, 1) := by decide +kernel
theorem dX7_bell_130 : decode cX7_bell 130 = .ok (.putfield 105, 3) := by decide +kernel
theorem dX7_bell_133 : decode cX7_bell 133 = .ok (.aload_n 0, 1) := by decide +kernel
theorem dX7_bell_134 : decode cX7_bell 134 = .ok (.aload_n 0, 1) := by decide +kernel
theorem dX7_bell_135 : decode cX7_bell 135 = .ok (.getfield 98, 3) := by decide +kernel
theorem dX7_bell_138 : decode cX7_bell 138 = .ok (.iconst 1, 1) := by decide +kernel
theorem dX7_bell_139 : decode cX7_bell 139 = .ok (.iadd, 1) := by decide +kernel
theorem dX7_bell_140 : decode cX7_bell 140 = .ok (.putfield 98, 3) := by decide +kernel
theorem dX7_bell_143 : decode cX7_bell 143 = .ok (.aload_n 0, 1) := by decide +kernel
theorem dX7_bell_144 : decode cX7_bell 144 = .ok (.getfield 98, 3) := by decide +kernel
theorem dX7_bell_147 : decode cX7_bell 147 = .ok (.iconst 1, 1) := by decide +kernel
theorem dX7_bell_148 : decode cX7_bell 148 = .ok (.isub, 1) := by decide +kernel
theorem dX7_bell_149 : decode cX7_bell 149 = .ok (.ireturn, 1) := by decide +kernel
theorem dX7_bellAt_0 : decode cX7_bellAt 0 = .ok (.iconst 0, 1) := by decide +kernel
theorem dX7_bellAt_1 : decode cX7_bellAt 1 = .ok (.istore_n 2, 1) := by decide +kernel
theorem dX7_bellAt_2 : decode cX7_bellAt 2 = .ok (.iload_n 2, 1) := by decide +kernel
theorem dX7_bellAt_3 : decode cX7_bellAt 3 = .ok (.aload_n 0, 1) := by decide +kernel
theorem dX7_bellAt_4 : decode cX7_bellAt 4 = .ok (.getfield 98, 3) := by decide +kernel
theorem dX7_bellAt_7 : decode cX7_bellAt 7 = .ok (.if_icmp .ge 21, 3) := by decide +kernel
theorem dX7_bellAt_10 : decode cX7_bellAt 10 = .ok (.aload_n 0, 1) := by decide +kernel
theorem dX7_bellAt_11 : decode cX7_bellAt 11 = .ok (.getfield 22, 3) := by decide +kernel
theorem dX7_bellAt_14 : decode cX7_bellAt 14 = .ok (.iload_n 2, 1) := by decide +kernel
theorem dX7_bellAt_15 : decode cX7_bellAt 15 = .ok (.iaload, 1) := by decide +kernel
theorem dX7_bellAt_16 : decode cX7_bellAt 16 = .ok (.iload_n 1, 1) := by decide +kernel
theorem dX7_bellAt_17 : decode cX7_bellAt 17 = .ok (.if_icmp .ne 5, 3) := by decide +kernel
theorem dX7_bellAt_20 : decode cX7_bellAt 20 = .ok (.iload_n 2, 1) := by decide +kernel
theorem dX7_bellAt_21 : decode cX7_bellAt 21 = .ok (.ireturn, 1) := by decide +kernel
theorem dX7_bellAt_22 : decode cX7_bellAt 22 = .ok (.iinc 2 1, 3) := by decide +kernel
theorem dX7_bellAt_25 : decode cX7_bellAt 25 = .ok (.goto (-23), 3) := by decide +kernel
theorem dX7_bellAt_28 : decode cX7_bellAt 28 = .ok (.iconst (-1), 1) := by decide +kernel
theorem dX7_bellAt_29 : decode cX7_bellAt 29 = .ok (.ireturn, 1) := by decide +kernel
theorem dX7_isBell_0 : decode cX7_isBell 0 = .ok (.iload_n 1, 1) := by decide +kernel
theorem dX7_isBell_1 : decode cX7_isBell 1 = .ok (.ifCond .lt 15, 3) := by decide +kernel
theorem dX7_isBell_4 : decode cX7_isBell 4 = .ok (.iload_n 1, 1) := by decide +kernel
theorem dX7_isBell_5 : decode cX7_isBell 5 = .ok (.aload_n 0, 1) := by decide +kernel
theorem dX7_isBell_6 : decode cX7_isBell 6 = .ok (.getfield 98, 3) := by decide +kernel
theorem dX7_isBell_9 : decode cX7_isBell 9 = .ok (.if_icmp .ge 7, 3) := by decide +kernel
theorem dX7_isBell_12 : decode cX7_isBell 12 = .ok (.iconst 1, 1) := by decide +kernel
theorem dX7_isBell_13 : decode cX7_isBell 13 = .ok (.goto 4, 3) := by decide +kernel
theorem dX7_isBell_16 : decode cX7_isBell 16 = .ok (.iconst 0, 1) := by decide +kernel
theorem dX7_isBell_17 : decode cX7_isBell 17 = .ok (.ireturn, 1) := by decide +kernel
theorem dX7_isHole_0 : decode cX7_isHole 0 = .ok (.iload_n 1, 1) := by decide +kernel
theorem dX7_isHole_1 : decode cX7_isHole 1 = .ok (.ifCond .lt 15, 3) := by decide +kernel
theorem dX7_isHole_4 : decode cX7_isHole 4 = .ok (.iload_n 1, 1) := by decide +kernel
theorem dX7_isHole_5 : decode cX7_isHole 5 = .ok (.aload_n 0, 1) := by decide +kernel
theorem dX7_isHole_6 : decode cX7_isHole 6 = .ok (.getfield 7, 3) := by decide +kernel
theorem dX7_isHole_9 : decode cX7_isHole 9 = .ok (.if_icmp .ge 7, 3) := by decide +kernel
theorem dX7_isHole_12 : decode cX7_isHole 12 = .ok (.iconst 1, 1) := by decide +kernel
theorem dX7_isHole_13 : decode cX7_isHole 13 = .ok (.goto 4, 3) := by decide +kernel
theorem dX7_isHole_16 : decode cX7_isHole 16 = .ok (.iconst 0, 1) := by decide +kernel
theorem dX7_isHole_17 : decode cX7_isHole 17 = .ok (.ireturn, 1) := by decide +kernel
theorem dX7_crack_0 : decode cX7_crack 0 = .ok (.aload_n 0, 1) := by decide +kernel
theorem dX7_crack_1 : decode cX7_crack 1 = .ok (.iload_n 1, 1) := by decide +kernel
theorem dX7_crack_2 : decode cX7_crack 2 = .ok (.invokevirtual 108, 3) := by decide +kernel
theorem dX7_crack_5 : decode cX7_crack 5 = .ok (.ifCond .eq 13, 3) := by decide +kernel
theorem dX7_crack_8 : decode cX7_crack 8 = .ok (.aload_n 0, 1) := by decide +kernel
theorem dX7_crack_9 : decode cX7_crack 9 = .ok (.getfield 38, 3) := by decide +kernel
theorem dX7_crack_12 : decode cX7_crack 12 = .ok (.iload_n 1, 1) := by decide +kernel
theorem dX7_crack_13 : decode cX7_crack 13 = .ok (.baload, 1) := by decide +kernel
theorem dX7_crack_14 : decode cX7_crack 14 = .ok (.iload_n 2, 1) := by decide +kernel
theorem dX7_crack_15 : decode cX7_crack 15 = .ok (.if_icmp .ne 5, 3) := by decide +kernel
theorem dX7_crack_18 : decode cX7_crack 18 = .ok (.iconst 0, 1) := by decide +kernel
theorem dX7_crack_19 : decode cX7_crack 19 = .ok (.ireturn, 1) := by decide +kernel
theorem dX7_crack_20 : decode cX7_crack 20 = .ok (.aload_n 0, 1) := by decide +kernel
theorem dX7_crack_21 : decode cX7_crack 21 = .ok (.getfield 38, 3) := by decide +kernel
theorem dX7_crack_24 : decode cX7_crack 24 = .ok (.iload_n 1, 1) := by decide +kernel
theorem dX7_crack_25 : decode cX7_crack 25 = .ok (.iload_n 2, 1) := by decide +kernel
theorem dX7_crack_26 : decode cX7_crack 26 = .ok (.bastore, 1) := by decide +kernel
theorem dX7_crack_27 : decode cX7_crack 27 = .ok (.iconst 1, 1) := by decide +kernel
theorem dX7_crack_28 : decode cX7_crack 28 = .ok (.ireturn, 1) := by decide +kernel
theorem dX7_holes_0 : decode cX7_holes 0 = .ok (.iload_n 1, 1) := by decide +kernel
theorem dX7_holes_1 : decode cX7_holes 1 = .ok (.bipush 8, 2) := by decide +kernel
theorem dX7_holes_3 : decode cX7_holes 3 = .ok (.bipush 64, 2) := by decide +kernel
theorem dX7_holes_5 : decode cX7_holes 5 = .ok (.invokestatic 94, 3) := by decide +kernel
theorem dX7_holes_8 : decode cX7_holes 8 = .ok (.ifCond .ne 5, 3) := by decide +kernel
theorem dX7_holes_11 : decode cX7_holes 11 = .ok (.iconst 0, 1) := by decide +kernel
theorem dX7_holes_12 : decode cX7_holes 12 = .ok (.ireturn, 1) := by decide +kernel
theorem dX7_holes_13 : decode cX7_holes 13 = .ok (.aload_n 0, 1) := by decide +kernel
theorem dX7_holes_14 : decode cX7_holes 14 = .ok (.iload_n 1, 1) := by decide +kernel
theorem dX7_holes_15 : decode cX7_holes 15 = .ok (.putfield 7, 3) := by decide +kernel
theorem dX7_holes_18 : decode cX7_holes 18 = .ok (.iconst 0, 1) := by decide +kernel
theorem dX7_holes_19 : decode cX7_holes 19 = .ok (.istore_n 2, 1) := by decide +kernel
theorem dX7_holes_20 : decode cX7_holes 20 = .ok (.iload_n 2, 1) := by decide +kernel
theorem dX7_holes_21 : decode cX7_holes 21 = .ok (.sipush 2304, 3) := by decide +kernel
theorem dX7_holes_24 : decode cX7_holes 24 = .ok (.if_icmp .ge 16, 3) := by decide +kernel
theorem dX7_holes_27 : decode cX7_holes 27 = .ok (.aload_n 0, 1) := by decide +kernel
theorem dX7_holes_28 : decode cX7_holes 28 = .ok (.getfield 42, 3) := by decide +kernel
theorem dX7_holes_31 : decode cX7_holes 31 = .ok (.iload_n 2, 1) := by decide +kernel
theorem dX7_holes_32 : decode cX7_holes 32 = .ok (.iconst 0, 1) := by decide +kernel
theorem dX7_holes_33 : decode cX7_holes 33 = .ok (.bastore, 1) := by decide +kernel
theorem dX7_holes_34 : decode cX7_holes 34 = .ok (.iinc 2 1, 3) := by decide +kernel
theorem dX7_holes_37 : decode cX7_holes 37 = .ok (.goto (-17), 3) := by decide +kernel
theorem dX7_holes_40 : decode cX7_holes 40 = .ok (.iconst 1, 1) := by decide +kernel
theorem dX7_holes_41 : decode cX7_holes 41 = .ok (.ireturn, 1) := by decide +kernel
theorem dX7_rest_0 : decode cX7_rest 0 = .ok (.iload_n 1, 1) := by decide +kernel
theorem dX7_rest_1 : decode cX7_rest 1 = .ok (.iconst 1, 1) := by decide +kernel
theorem dX7_rest_2 : decode cX7_rest 2 = .ok (.bipush 8, 2) := by decide +kernel
theorem dX7_rest_4 : decode cX7_rest 4 = .ok (.invokestatic 94, 3) := by decide +kernel
theorem dX7_rest_7 : decode cX7_rest 7 = .ok (.ifCond .ne 5, 3) := by decide +kernel
theorem dX7_rest_10 : decode cX7_rest 10 = .ok (.iconst 0, 1) := by decide +kernel
theorem dX7_rest_11 : decode cX7_rest 11 = .ok (.ireturn, 1) := by decide +kernel
theorem dX7_rest_12 : decode cX7_rest 12 = .ok (.aload_n 0, 1) := by decide +kernel
theorem dX7_rest_13 : decode cX7_rest 13 = .ok (.iload_n 1, 1) := by decide +kernel
theorem dX7_rest_14 : decode cX7_rest 14 = .ok (.putfield 13, 3) := by decide +kernel
theorem dX7_rest_17 : decode cX7_rest 17 = .ok (.iconst 1, 1) := by decide +kernel
theorem dX7_rest_18 : decode cX7_rest 18 = .ok (.ireturn, 1) := by decide +kernel
theorem dX7_force_0 : decode cX7_force 0 = .ok (.iload_n 1, 1) := by decide +kernel
theorem dX7_force_1 : decode cX7_force 1 = .ok (.iconst 1, 1) := by decide +kernel
theorem dX7_force_2 : decode cX7_force 2 = .ok (.sipush 999, 3) := by decide +kernel
theorem dX7_force_5 : decode cX7_force 5 = .ok (.invokestatic 94, 3) := by decide +kernel
theorem dX7_force_8 : decode cX7_force 8 = .ok (.ifCond .ne 5, 3) := by decide +kernel
theorem dX7_force_11 : decode cX7_force 11 = .ok (.iconst 0, 1) := by decide +kernel
theorem dX7_force_12 : decode cX7_force 12 = .ok (.ireturn, 1) := by decide +kernel
theorem dX7_force_13 : decode cX7_force 13 = .ok (.aload_n 0, 1) := by decide +kernel
theorem dX7_force_14 : decode cX7_force 14 = .ok (.iload_n 1, 1) := by decide +kernel
theorem dX7_force_15 : decode cX7_force 15 = .ok (.putfield 16, 3) := by decide +kernel
theorem dX7_force_18 : decode cX7_force 18 = .ok (.iconst 1, 1) := by decide +kernel
theorem dX7_force_19 : decode cX7_force 19 = .ok (.ireturn, 1) := by decide +kernel
theorem dX7_life_0 : decode cX7_life 0 = .ok (.iload_n 1, 1) := by decide +kernel
theorem dX7_life_1 : decode cX7_life 1 = .ok (.iconst 1, 1) := by decide +kernel
theorem dX7_life_2 : decode cX7_life 2 = .ok (.sipush 10000, 3) := by decide +kernel
theorem dX7_life_5 : decode cX7_life 5 = .ok (.invokestatic 94, 3) := by decide +kernel
theorem dX7_life_8 : decode cX7_life 8 = .ok (.ifCond .ne 5, 3) := by decide +kernel
theorem dX7_life_11 : decode cX7_life 11 = .ok (.iconst 0, 1) := by decide +kernel
theorem dX7_life_12 : decode cX7_life 12 = .ok (.ireturn, 1) := by decide +kernel
theorem dX7_life_13 : decode cX7_life 13 = .ok (.aload_n 0, 1) := by decide +kernel
theorem dX7_life_14 : decode cX7_life 14 = .ok (.iload_n 1, 1) := by decide +kernel
theorem dX7_life_15 : decode cX7_life 15 = .ok (.putfield 19, 3) := by decide +kernel
theorem dX7_life_18 : decode cX7_life 18 = .ok (.iconst 1, 1) := by decide +kernel
theorem dX7_life_19 : decode cX7_life 19 = .ok (.ireturn, 1) := by decide +kernel
theorem dX7_apart_0 : decode cX7_apart 0 = .ok (.iload_n 1, 1) := by decide +kernel
theorem dX7_apart_1 : decode cX7_apart 1 = .ok (.iload_n 2, 1) := by decide +kernel
theorem dX7_apart_2 : decode cX7_apart 2 = .ok (.if_icmp .le 9, 3) := by decide +kernel
theorem dX7_apart_5 : decode cX7_apart 5 = .ok (.iload_n 1, 1) := by decide +kernel
theorem dX7_apart_6 : decode cX7_apart 6 = .ok (.iload_n 2, 1) := by decide +kernel
theorem dX7_apart_7 : decode cX7_apart 7 = .ok (.isub, 1) := by decide +kernel
theorem dX7_apart_8 : decode cX7_apart 8 = .ok (.goto 6, 3) := by decide +kernel
theorem dX7_apart_11 : decode cX7_apart 11 = .ok (.iload_n 2, 1) := by decide +kernel
theorem dX7_apart_12 : decode cX7_apart 12 = .ok (.iload_n 1, 1) := by decide +kernel
theorem dX7_apart_13 : decode cX7_apart 13 = .ok (.isub, 1) := by decide +kernel
theorem dX7_apart_14 : decode cX7_apart 14 = .ok (.istore_n 3, 1) := by decide +kernel
theorem dX7_apart_15 : decode cX7_apart 15 = .ok (.iload_n 3, 1) := by decide +kernel
theorem dX7_apart_16 : decode cX7_apart 16 = .ok (.aload_n 0, 1) := by decide +kernel
theorem dX7_apart_17 : decode cX7_apart 17 = .ok (.getfield 7, 3) := by decide +kernel
theorem dX7_apart_20 : decode cX7_apart 20 = .ok (.iload_n 3, 1) := by decide +kernel
theorem dX7_apart_21 : decode cX7_apart 21 = .ok (.isub, 1) := by decide +kernel
theorem dX7_apart_22 : decode cX7_apart 22 = .ok (.if_icmp .ge 7, 3) := by decide +kernel
theorem dX7_apart_25 : decode cX7_apart 25 = .ok (.iload_n 3, 1) := by decide +kernel
theorem dX7_apart_26 : decode cX7_apart 26 = .ok (.goto 9, 3) := by decide +kernel
theorem dX7_apart_29 : decode cX7_apart 29 = .ok (.aload_n 0, 1) := by decide +kernel
theorem dX7_apart_30 : decode cX7_apart 30 = .ok (.getfield 7, 3) := by decide +kernel
theorem dX7_apart_33 : decode cX7_apart 33 = .ok (.iload_n 3, 1) := by decide +kernel
theorem dX7_apart_34 : decode cX7_apart 34 = .ok (.isub, 1) := by decide +kernel
theorem dX7_apart_35 : decode cX7_apart 35 = .ok (.ireturn, 1) := by decide +kernel
theorem dX7_isThere_0 : decode cX7_isThere 0 = .ok (.iload_n 1, 1) := by decide +kernel
theorem dX7_isThere_1 : decode cX7_isThere 1 = .ok (.ifCond .lt 23, 3) := by decide +kernel
theorem dX7_isThere_4 : decode cX7_isThere 4 = .ok (.iload_n 1, 1) := by decide +kernel
theorem dX7_isThere_5 : decode cX7_isThere 5 = .ok (.aload_n 0, 1) := by decide +kernel
theorem dX7_isThere_6 : decode cX7_isThere 6 = .ok (.getfield 105, 3) := by decide +kernel
theorem dX7_isThere_9 : decode cX7_isThere 9 = .ok (.if_icmp .ge 15, 3) := by decide +kernel
theorem dX7_isThere_12 : decode cX7_isThere 12 = .ok (.aload_n 0, 1) := by decide +kernel
theorem dX7_isThere_13 : decode cX7_isThere 13 = .ok (.iload_n 2, 1) := by decide +kernel
theorem dX7_isThere_14 : decode cX7_isThere 14 = .ok (.invokevirtual 112, 3) := by decide +kernel
theorem dX7_isThere_17 : decode cX7_isThere 17 = .ok (.ifCond .eq 7, 3) := by decide +kernel
theorem dX7_isThere_20 : decode cX7_isThere 20 = .ok (.iconst 1, 1) := by decide +kernel
theorem dX7_isThere_21 : decode cX7_isThere 21 = .ok (.goto 4, 3) := by decide +kernel
theorem dX7_isThere_24 : decode cX7_isThere 24 = .ok (.iconst 0, 1) := by decide +kernel
theorem dX7_isThere_25 : decode cX7_isThere 25 = .ok (.ireturn, 1) := by decide +kernel
theorem dX7_puts_0 : decode cX7_puts 0 = .ok (.aload_n 0, 1) := by decide +kernel
theorem dX7_puts_1 : decode cX7_puts 1 = .ok (.getfield 42, 3) := by decide +kernel
theorem dX7_puts_4 : decode cX7_puts 4 = .ok (.bipush 64, 2) := by decide +kernel
theorem dX7_puts_6 : decode cX7_puts 6 = .ok (.iload_n 1, 1) := by decide +kernel
theorem dX7_puts_7 : decode cX7_puts 7 = .ok (.imul, 1) := by decide +kernel
theorem dX7_puts_8 : decode cX7_puts 8 = .ok (.iload_n 2, 1) := by decide +kernel
theorem dX7_puts_9 : decode cX7_puts 9 = .ok (.iadd, 1) := by decide +kernel
theorem dX7_puts_10 : decode cX7_puts 10 = .ok (.iconst 1, 1) := by decide +kernel
theorem dX7_puts_11 : decode cX7_puts 11 = .ok (.bastore, 1) := by decide +kernel
theorem dX7_puts_12 : decode cX7_puts 12 = .ok (.aload_n 0, 1) := by decide +kernel
theorem dX7_puts_13 : decode cX7_puts 13 = .ok (.getfield 45, 3) := by decide +kernel
theorem dX7_puts_16 : decode cX7_puts 16 = .ok (.bipush 64, 2) := by decide +kernel
