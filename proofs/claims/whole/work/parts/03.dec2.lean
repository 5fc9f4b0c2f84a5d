theorem dX7_puts_18 : decode cX7_puts 18 = .ok (.iload_n 1, 1) := by decide +kernel
theorem dX7_puts_19 : decode cX7_puts 19 = .ok (.imul, 1) := by decide +kernel
theorem dX7_puts_20 : decode cX7_puts 20 = .ok (.iload_n 2, 1) := by decide +kernel
theorem dX7_puts_21 : decode cX7_puts 21 = .ok (.iadd, 1) := by decide +kernel
theorem dX7_puts_22 : decode cX7_puts 22 = .ok (.iconst 0, 1) := by decide +kernel
theorem dX7_puts_23 : decode cX7_puts 23 = .ok (.iastore, 1) := by decide +kernel
theorem dX7_puts_24 : decode cX7_puts 24 = .ok (.return_, 1) := by decide +kernel
theorem dX7_pin_0 : decode cX7_pin 0 = .ok (.aload_n 0, 1) := by decide +kernel
theorem dX7_pin_1 : decode cX7_pin 1 = .ok (.iload_n 1, 1) := by decide +kernel
theorem dX7_pin_2 : decode cX7_pin 2 = .ok (.iload_n 2, 1) := by decide +kernel
theorem dX7_pin_3 : decode cX7_pin 3 = .ok (.invokevirtual 115, 3) := by decide +kernel
theorem dX7_pin_6 : decode cX7_pin 6 = .ok (.ifCond .eq 18, 3) := by decide +kernel
theorem dX7_pin_9 : decode cX7_pin 9 = .ok (.aload_n 0, 1) := by decide +kernel
theorem dX7_pin_10 : decode cX7_pin 10 = .ok (.getfield 42, 3) := by decide +kernel
theorem dX7_pin_13 : decode cX7_pin 13 = .ok (.bipush 64, 2) := by decide +kernel
theorem dX7_pin_15 : decode cX7_pin 15 = .ok (.iload_n 1, 1) := by decide +kernel
theorem dX7_pin_16 : decode cX7_pin 16 = .ok (.imul, 1) := by decide +kernel
theorem dX7_pin_17 : decode cX7_pin 17 = .ok (.iload_n 2, 1) := by decide +kernel
theorem dX7_pin_18 : decode cX7_pin 18 = .ok (.iadd, 1) := by decide +kernel
theorem dX7_pin_19 : decode cX7_pin 19 = .ok (.baload, 1) := by decide +kernel
theorem dX7_pin_20 : decode cX7_pin 20 = .ok (.iload_n 3, 1) := by decide +kernel
theorem dX7_pin_21 : decode cX7_pin 21 = .ok (.if_icmp .ne 5, 3) := by decide +kernel
theorem dX7_pin_24 : decode cX7_pin 24 = .ok (.iconst 0, 1) := by decide +kernel
theorem dX7_pin_25 : decode cX7_pin 25 = .ok (.ireturn, 1) := by decide +kernel
theorem dX7_pin_26 : decode cX7_pin 26 = .ok (.iload_n 3, 1) := by decide +kernel
theorem dX7_pin_27 : decode cX7_pin 27 = .ok (.ifCond .ne 17, 3) := by decide +kernel
theorem dX7_pin_30 : decode cX7_pin 30 = .ok (.aload_n 0, 1) := by decide +kernel
theorem dX7_pin_31 : decode cX7_pin 31 = .ok (.getfield 42, 3) := by decide +kernel
theorem dX7_pin_34 : decode cX7_pin 34 = .ok (.bipush 64, 2) := by decide +kernel
theorem dX7_pin_36 : decode cX7_pin 36 = .ok (.iload_n 1, 1) := by decide +kernel
theorem dX7_pin_37 : decode cX7_pin 37 = .ok (.imul, 1) := by decide +kernel
theorem dX7_pin_38 : decode cX7_pin 38 = .ok (.iload_n 2, 1) := by decide +kernel
theorem dX7_pin_39 : decode cX7_pin 39 = .ok (.iadd, 1) := by decide +kernel
theorem dX7_pin_40 : decode cX7_pin 40 = .ok (.iconst 0, 1) := by decide +kernel
theorem dX7_pin_41 : decode cX7_pin 41 = .ok (.bastore, 1) := by decide +kernel
theorem dX7_pin_42 : decode cX7_pin 42 = .ok (.iconst 1, 1) := by decide +kernel
theorem dX7_pin_43 : decode cX7_pin 43 = .ok (.ireturn, 1) := by decide +kernel
theorem dX7_pin_44 : decode cX7_pin 44 = .ok (.iconst 0, 1) := by decide +kernel
theorem dX7_pin_45 : decode cX7_pin 45 = .ok (.istore 4, 2) := by decide +kernel
theorem dX7_pin_47 : decode cX7_pin 47 = .ok (.iload 4, 2) := by decide +kernel
theorem dX7_pin_49 : decode cX7_pin 49 = .ok (.aload_n 0, 1) := by decide +kernel
theorem dX7_pin_50 : decode cX7_pin 50 = .ok (.getfield 7, 3) := by decide +kernel
theorem dX7_pin_53 : decode cX7_pin 53 = .ok (.if_icmp .ge 40, 3) := by decide +kernel
theorem dX7_pin_56 : decode cX7_pin 56 = .ok (.aload_n 0, 1) := by decide +kernel
theorem dX7_pin_57 : decode cX7_pin 57 = .ok (.getfield 42, 3) := by decide +kernel
theorem dX7_pin_60 : decode cX7_pin 60 = .ok (.bipush 64, 2) := by decide +kernel
theorem dX7_pin_62 : decode cX7_pin 62 = .ok (.iload_n 1, 1) := by decide +kernel
theorem dX7_pin_63 : decode cX7_pin 63 = .ok (.imul, 1) := by decide +kernel
theorem dX7_pin_64 : decode cX7_pin 64 = .ok (.iload 4, 2) := by decide +kernel
theorem dX7_pin_66 : decode cX7_pin 66 = .ok (.iadd, 1) := by decide +kernel
theorem dX7_pin_67 : decode cX7_pin 67 = .ok (.baload, 1) := by decide +kernel
theorem dX7_pin_68 : decode cX7_pin 68 = .ok (.ifCond .eq 19, 3) := by decide +kernel
theorem dX7_pin_71 : decode cX7_pin 71 = .ok (.aload_n 0, 1) := by decide +kernel
theorem dX7_pin_72 : decode cX7_pin 72 = .ok (.iload 4, 2) := by decide +kernel
theorem dX7_pin_74 : decode cX7_pin 74 = .ok (.iload_n 2, 1) := by decide +kernel
theorem dX7_pin_75 : decode cX7_pin 75 = .ok (.invokevirtual 119, 3) := by decide +kernel
theorem dX7_pin_78 : decode cX7_pin 78 = .ok (.aload_n 0, 1) := by decide +kernel
theorem dX7_pin_79 : decode cX7_pin 79 = .ok (.getfield 13, 3) := by decide +kernel
theorem dX7_pin_82 : decode cX7_pin 82 = .ok (.if_icmp .ge 5, 3) := by decide +kernel
theorem dX7_pin_85 : decode cX7_pin 85 = .ok (.iconst 0, 1) := by decide +kernel
theorem dX7_pin_86 : decode cX7_pin 86 = .ok (.ireturn, 1) := by decide +kernel
theorem dX7_pin_87 : decode cX7_pin 87 = .ok (.iinc 4 1, 3) := by decide +kernel
theorem dX7_pin_90 : decode cX7_pin 90 = .ok (.goto (-43), 3) := by decide +kernel
theorem dX7_pin_93 : decode cX7_pin 93 = .ok (.aload_n 0, 1) := by decide +kernel
theorem dX7_pin_94 : decode cX7_pin 94 = .ok (.iload_n 1, 1) := by decide +kernel
theorem dX7_pin_95 : decode cX7_pin 95 = .ok (.iload_n 2, 1) := by decide +kernel
theorem dX7_pin_96 : decode cX7_pin 96 = .ok (.invokevirtual 123, 3) := by decide +kernel
theorem dX7_pin_99 : decode cX7_pin 99 = .ok (.iconst 1, 1) := by decide +kernel
theorem dX7_pin_100 : decode cX7_pin 100 = .ok (.ireturn, 1) := by decide +kernel
theorem dX7_mend_0 : decode cX7_mend 0 = .ok (.aload_n 0, 1) := by decide +kernel
theorem dX7_mend_1 : decode cX7_mend 1 = .ok (.iload_n 1, 1) := by decide +kernel
theorem dX7_mend_2 : decode cX7_mend 2 = .ok (.iload_n 2, 1) := by decide +kernel
theorem dX7_mend_3 : decode cX7_mend 3 = .ok (.invokevirtual 115, 3) := by decide +kernel
theorem dX7_mend_6 : decode cX7_mend 6 = .ok (.ifCond .eq 17, 3) := by decide +kernel
theorem dX7_mend_9 : decode cX7_mend 9 = .ok (.aload_n 0, 1) := by decide +kernel
theorem dX7_mend_10 : decode cX7_mend 10 = .ok (.getfield 42, 3) := by decide +kernel
theorem dX7_mend_13 : decode cX7_mend 13 = .ok (.bipush 64, 2) := by decide +kernel
theorem dX7_mend_15 : decode cX7_mend 15 = .ok (.iload_n 1, 1) := by decide +kernel
theorem dX7_mend_16 : decode cX7_mend 16 = .ok (.imul, 1) := by decide +kernel
theorem dX7_mend_17 : decode cX7_mend 17 = .ok (.iload_n 2, 1) := by decide +kernel
theorem dX7_mend_18 : decode cX7_mend 18 = .ok (.iadd, 1) := by decide +kernel
theorem dX7_mend_19 : decode cX7_mend 19 = .ok (.baload, 1) := by decide +kernel
theorem dX7_mend_20 : decode cX7_mend 20 = .ok (.ifCond .ne 5, 3) := by decide +kernel
theorem dX7_mend_23 : decode cX7_mend 23 = .ok (.iconst (-1), 1) := by decide +kernel
theorem dX7_mend_24 : decode cX7_mend 24 = .ok (.ireturn, 1) := by decide +kernel
theorem dX7_mend_25 : decode cX7_mend 25 = .ok (.aload_n 0, 1) := by decide +kernel
theorem dX7_mend_26 : decode cX7_mend 26 = .ok (.getfield 45, 3) := by decide +kernel
theorem dX7_mend_29 : decode cX7_mend 29 = .ok (.bipush 64, 2) := by decide +kernel
theorem dX7_mend_31 : decode cX7_mend 31 = .ok (.iload_n 1, 1) := by decide +kernel
theorem dX7_mend_32 : decode cX7_mend 32 = .ok (.imul, 1) := by decide +kernel
theorem dX7_mend_33 : decode cX7_mend 33 = .ok (.iload_n 2, 1) := by decide +kernel
theorem dX7_mend_34 : decode cX7_mend 34 = .ok (.iadd, 1) := by decide +kernel
theorem dX7_mend_35 : decode cX7_mend 35 = .ok (.iaload, 1) := by decide +kernel
theorem dX7_mend_36 : decode cX7_mend 36 = .ok (.istore_n 3, 1) := by decide +kernel
theorem dX7_mend_37 : decode cX7_mend 37 = .ok (.aload_n 0, 1) := by decide +kernel
theorem dX7_mend_38 : decode cX7_mend 38 = .ok (.getfield 45, 3) := by decide +kernel
theorem dX7_mend_41 : decode cX7_mend 41 = .ok (.bipush 64, 2) := by decide +kernel
theorem dX7_mend_43 : decode cX7_mend 43 = .ok (.iload_n 1, 1) := by decide +kernel
theorem dX7_mend_44 : decode cX7_mend 44 = .ok (.imul, 1) := by decide +kernel
theorem dX7_mend_45 : decode cX7_mend 45 = .ok (.iload_n 2, 1) := by decide +kernel
theorem dX7_mend_46 : decode cX7_mend 46 = .ok (.iadd, 1) := by decide +kernel
theorem dX7_mend_47 : decode cX7_mend 47 = .ok (.iconst 0, 1) := by decide +kernel
theorem dX7_mend_48 : decode cX7_mend 48 = .ok (.iastore, 1) := by decide +kernel
theorem dX7_mend_49 : decode cX7_mend 49 = .ok (.iload_n 3, 1) := by decide +kernel
theorem dX7_mend_50 : decode cX7_mend 50 = .ok (.ireturn, 1) := by decide +kernel
theorem dX7_strikes_0 : decode cX7_strikes 0 = .ok (.aload_n 0, 1) := by decide +kernel
theorem dX7_strikes_1 : decode cX7_strikes 1 = .ok (.iload_n 1, 1) := by decide +kernel
theorem dX7_strikes_2 : decode cX7_strikes 2 = .ok (.iload_n 2, 1) := by decide +kernel
theorem dX7_strikes_3 : decode cX7_strikes 3 = .ok (.invokevirtual 115, 3) := by decide +kernel
theorem dX7_strikes_6 : decode cX7_strikes 6 = .ok (.ifCond .eq 31, 3) := by decide +kernel
theorem dX7_strikes_9 : decode cX7_strikes 9 = .ok (.aload_n 0, 1) := by decide +kernel
theorem dX7_strikes_10 : decode cX7_strikes 10 = .ok (.getfield 42, 3) := by decide +kernel
theorem dX7_strikes_13 : decode cX7_strikes 13 = .ok (.bipush 64, 2) := by decide +kernel
theorem dX7_strikes_15 : decode cX7_strikes 15 = .ok (.iload_n 1, 1) := by decide +kernel
theorem dX7_strikes_16 : decode cX7_strikes 16 = .ok (.imul, 1) := by decide +kernel
theorem dX7_strikes_17 : decode cX7_strikes 17 = .ok (.iload_n 2, 1) := by decide +kernel
theorem dX7_strikes_18 : decode cX7_strikes 18 = .ok (.iadd, 1) := by decide +kernel
theorem dX7_strikes_19 : decode cX7_strikes 19 = .ok (.baload, 1) := by decide +kernel
theorem dX7_strikes_20 : decode cX7_strikes 20 = .ok (.ifCond .eq 17, 3) := by decide +kernel
theorem dX7_strikes_23 : decode cX7_strikes 23 = .ok (.aload_n 0, 1) := by decide +kernel
theorem dX7_strikes_24 : decode cX7_strikes 24 = .ok (.getfield 45, 3) := by decide +kernel
theorem dX7_strikes_27 : decode cX7_strikes 27 = .ok (.bipush 64, 2) := by decide +kernel
theorem dX7_strikes_29 : decode cX7_strikes 29 = .ok (.iload_n 1, 1) := by decide +kernel
theorem dX7_strikes_30 : decode cX7_strikes 30 = .ok (.imul, 1) := by decide +kernel
theorem dX7_strikes_31 : decode cX7_strikes 31 = .ok (.iload_n 2, 1) := by decide +kernel
theorem dX7_strikes_32 : decode cX7_strikes 32 = .ok (.iadd, 1) := by decide +kernel
theorem dX7_strikes_33 : decode cX7_strikes 33 = .ok (.iaload, 1) := by decide +kernel
theorem dX7_strikes_34 : decode cX7_strikes 34 = .ok (.goto 4, 3) := by decide +kernel
theorem dX7_strikes_37 : decode cX7_strikes 37 = .ok (.iconst (-1), 1) := by decide +kernel
theorem dX7_strikes_38 : decode cX7_strikes 38 = .ok (.ireturn, 1) := by decide +kernel
theorem dX7_types_0 : decode cX7_types 0 = .ok (.iconst 3, 1) := by decide +kernel
theorem dX7_types_1 : decode cX7_types 1 = .ok (.istore_n 2, 1) := by decide +kernel
theorem dX7_types_2 : decode cX7_types 2 = .ok (.iload_n 2, 1) := by decide +kernel
theorem dX7_types_3 : decode cX7_types 3 = .ok (.ifCond .lt 35, 3) := by decide +kernel
theorem dX7_types_6 : decode cX7_types 6 = .ok (.aload_n 0, 1) := by decide +kernel
theorem dX7_types_7 : decode cX7_types 7 = .ok (.getfield 48, 3) := by decide +kernel
theorem dX7_types_10 : decode cX7_types 10 = .ok (.aload_n 0, 1) := by decide +kernel
theorem dX7_types_11 : decode cX7_types 11 = .ok (.getfield 127, 3) := by decide +kernel
theorem dX7_types_14 : decode cX7_types 14 = .ok (.iload_n 1, 1) := by decide +kernel
theorem dX7_types_15 : decode cX7_types 15 = .ok (.bipush 8, 2) := by decide +kernel
theorem dX7_types_17 : decode cX7_types 17 = .ok (.iload_n 2, 1) := by decide +kernel
theorem dX7_types_18 : decode cX7_types 18 = .ok (.imul, 1) := by decide +kernel
theorem dX7_types_19 : decode cX7_types 19 = .ok (.ishr, 1) := by decide +kernel
theorem dX7_types_20 : decode cX7_types 20 = .ok (.i2b, 1) := by decide +kernel
theorem dX7_types_21 : decode cX7_types 21 = .ok (.bastore, 1) := by decide +kernel
theorem dX7_types_22 : decode cX7_types 22 = .ok (.aload_n 0, 1) := by decide +kernel
theorem dX7_types_23 : decode cX7_types 23 = .ok (.aload_n 0, 1) := by decide +kernel
theorem dX7_types_24 : decode cX7_types 24 = .ok (.getfield 127, 3) := by decide +kernel
theorem dX7_types_27 : decode cX7_types 27 = .ok (.iconst 1, 1) := by decide +kernel
theorem dX7_types_28 : decode cX7_types 28 = .ok (.iadd, 1) := by decide +kernel
theorem dX7_types_29 : decode cX7_types 29 = .ok (.putfield 127, 3) := by decide +kernel
theorem dX7_types_32 : decode cX7_types 32 = .ok (.iinc 2 (-1), 3) := by decide +kernel
theorem dX7_types_35 : decode cX7_types 35 = .ok (.goto (-33), 3) := by decide +kernel
theorem dX7_types_38 : decode cX7_types 38 = .ok (.return_, 1) := by decide +kernel
theorem dX7_feed_0 : decode cX7_feed 0 = .ok (.aload_n 0, 1) := by decide +kernel
theorem dX7_feed_1 : decode cX7_feed 1 = .ok (.getfield 127, 3) := by decide +kernel
theorem dX7_feed_4 : decode cX7_feed 4 = .ok (.bipush 20, 2) := by decide +kernel
theorem dX7_feed_6 : decode cX7_feed 6 = .ok (.iadd, 1) := by decide +kernel
theorem dX7_feed_7 : decode cX7_feed 7 = .ok (.bipush 80, 2) := by decide +kernel
theorem dX7_feed_9 : decode cX7_feed 9 = .ok (.if_icmp .le 5, 3) := by decide +kernel
theorem dX7_feed_12 : decode cX7_feed 12 = .ok (.iconst (-1), 1) := by decide +kernel
theorem dX7_feed_13 : decode cX7_feed 13 = .ok (.ireturn, 1) := by decide +kernel
theorem dX7_feed_14 : decode cX7_feed 14 = .ok (.aload_n 0, 1) := by decide +kernel
theorem dX7_feed_15 : decode cX7_feed 15 = .ok (.iload_n 1, 1) := by decide +kernel
theorem dX7_feed_16 : decode cX7_feed 16 = .ok (.invokevirtual 130, 3) := by decide +kernel
theorem dX7_feed_19 : decode cX7_feed 19 = .ok (.aload_n 0, 1) := by decide +kernel
theorem dX7_feed_20 : decode cX7_feed 20 = .ok (.iload_n 2, 1) := by decide +kernel
theorem dX7_feed_21 : decode cX7_feed 21 = .ok (.invokevirtual 130, 3) := by decide +kernel
theorem dX7_feed_24 : decode cX7_feed 24 = .ok (.aload_n 0, 1) := by decide +kernel
theorem dX7_feed_25 : decode cX7_feed 25 = .ok (.iload_n 3, 1) := by decide +kernel
theorem dX7_feed_26 : decode cX7_feed 26 = .ok (.invokevirtual 130, 3) := by decide +kernel
theorem dX7_feed_29 : decode cX7_feed 29 = .ok (.aload_n 0, 1) := by decide +kernel
theorem dX7_feed_30 : decode cX7_feed 30 = .ok (.iload 4, 2) := by decide +kernel
theorem dX7_feed_32 : decode cX7_feed 32 = .ok (.invokevirtual 130, 3) := by decide +kernel
theorem dX7_feed_35 : decode cX7_feed 35 = .ok (.aload_n 0, 1) := by decide +kernel
theorem dX7_feed_36 : decode cX7_feed 36 = .ok (.iload 5, 2) := by decide +kernel
theorem dX7_feed_38 : decode cX7_feed 38 = .ok (.invokevirtual 130, 3) := by decide +kernel
theorem dX7_feed_41 : decode cX7_feed 41 = .ok (.aload_n 0, 1) := by decide +kernel
theorem dX7_feed_42 : decode cX7_feed 42 = .ok (.getfield 127, 3) := by decide +kernel
theorem dX7_feed_45 : decode cX7_feed 45 = .ok (.ireturn, 1) := by decide +kernel
theorem dX7_sign_0 : decode cX7_sign 0 = .ok (.aload_n 0, 1) := by decide +kernel
theorem dX7_sign_1 : decode cX7_sign 1 = .ok (.getfield 134, 3) := by decide +kernel
theorem dX7_sign_4 : decode cX7_sign 4 = .ok (.aload_n 0, 1) := by decide +kernel
theorem dX7_sign_5 : decode cX7_sign 5 = .ok (.getfield 137, 3) := by decide +kernel
theorem dX7_sign_8 : decode cX7_sign 8 = .ok (.if_icmp .ge 19, 3) := by decide +kernel
theorem dX7_sign_11 : decode cX7_sign 11 = .ok (.aload_n 0, 1) := by decide +kernel
theorem dX7_sign_12 : decode cX7_sign 12 = .ok (.getfield 48, 3) := by decide +kernel
theorem dX7_sign_15 : decode cX7_sign 15 = .ok (.aload_n 0, 1) := by decide +kernel
theorem dX7_sign_16 : decode cX7_sign 16 = .ok (.getfield 134, 3) := by decide +kernel
theorem dX7_sign_19 : decode cX7_sign 19 = .ok (.baload, 1) := by decide +kernel
theorem dX7_sign_20 : decode cX7_sign 20 = .ok (.sipush 255, 3) := by decide +kernel
theorem dX7_sign_23 : decode cX7_sign 23 = .ok (.iand, 1) := by decide +kernel
theorem dX7_sign_24 : decode cX7_sign 24 = .ok (.goto 4, 3) := by decide +kernel
theorem dX7_sign_27 : decode cX7_sign 27 = .ok (.iconst 0, 1) := by decide +kernel
theorem dX7_sign_28 : decode cX7_sign 28 = .ok (.ireturn, 1) := by decide +kernel
theorem dX7_wrong_0 : decode cX7_wrong 0 = .ok (.aload_n 0, 1) := by decide +kernel
theorem dX7_wrong_1 : decode cX7_wrong 1 = .ok (.bipush 100, 2) := by decide +kernel
theorem dX7_wrong_3 : decode cX7_wrong 3 = .ok (.iload_n 1, 1) := by decide +kernel
theorem dX7_wrong_4 : decode cX7_wrong 4 = .ok (.imul, 1) := by decide +kernel
theorem dX7_wrong_5 : decode cX7_wrong 5 = .ok (.iload_n 2, 1) := by decide +kernel
theorem dX7_wrong_6 : decode cX7_wrong 6 = .ok (.iadd, 1) := by decide +kernel
theorem dX7_wrong_7 : decode cX7_wrong 7 = .ok (.putfield 140, 3) := by decide +kernel
theorem dX7_wrong_10 : decode cX7_wrong 10 = .ok (.iconst 0, 1) := by decide +kernel
theorem dX7_wrong_11 : decode cX7_wrong 11 = .ok (.ireturn, 1) := by decide +kernel
theorem dX7_stepOf_0 : decode cX7_stepOf 0 = .ok (.iload_n 0, 1) := by decide +kernel
theorem dX7_stepOf_1 : decode cX7_stepOf 1 = .ok (.bipush 99, 2) := by decide +kernel
theorem dX7_stepOf_3 : decode cX7_stepOf 3 = .ok (.if_icmp .ne 7, 3) := by decide +kernel
theorem dX7_stepOf_6 : decode cX7_stepOf 6 = .ok (.iconst 0, 1) := by decide +kernel
theorem dX7_stepOf_7 : decode cX7_stepOf 7 = .ok (.goto 67, 3) := by decide +kernel
theorem dX7_stepOf_10 : decode cX7_stepOf 10 = .ok (.iload_n 0, 1) := by decide +kernel
theorem dX7_stepOf_11 : decode cX7_stepOf 11 = .ok (.bipush 100, 2) := by decide +kernel
theorem dX7_stepOf_13 : decode cX7_stepOf 13 = .ok (.if_icmp .ne 7, 3) := by decide +kernel
theorem dX7_stepOf_16 : decode cX7_stepOf 16 = .ok (.iconst 2, 1) := by decide +kernel
theorem dX7_stepOf_17 : decode cX7_stepOf 17 = .ok (.goto 57, 3) := by decide +kernel
theorem dX7_stepOf_20 : decode cX7_stepOf 20 = .ok (.iload_n 0, 1) := by decide +kernel
theorem dX7_stepOf_21 : decode cX7_stepOf 21 = .ok (.bipush 101, 2) := by decide +kernel
theorem dX7_stepOf_23 : decode cX7_stepOf 23 = .ok (.if_icmp .ne 7, 3) := by decide +kernel
theorem dX7_stepOf_26 : decode cX7_stepOf 26 = .ok (.iconst 4, 1) := by decide +kernel
theorem dX7_stepOf_27 : decode cX7_stepOf 27 = .ok (.goto 47, 3) := by decide +kernel
theorem dX7_stepOf_30 : decode cX7_stepOf 30 = .ok (.iload_n 0, 1) := by decide +kernel
theorem dX7_stepOf_31 : decode cX7_stepOf 31 = .ok (.bipush 102, 2) := by decide +kernel
theorem dX7_stepOf_33 : decode cX7_stepOf 33 = .ok (.if_icmp .ne 7, 3) := by decide +kernel
theorem dX7_stepOf_36 : decode cX7_stepOf 36 = .ok (.iconst 5, 1) := by decide +kernel
theorem dX7_stepOf_37 : decode cX7_stepOf 37 = .ok (.goto 37, 3) := by decide +kernel
theorem dX7_stepOf_40 : decode cX7_stepOf 40 = .ok (.iload_n 0, 1) := by decide +kernel
theorem dX7_stepOf_41 : decode cX7_stepOf 41 = .ok (.bipush 103, 2) := by decide +kernel
theorem dX7_stepOf_43 : decode cX7_stepOf 43 = .ok (.if_icmp .ne 8, 3) := by decide +kernel
theorem dX7_stepOf_46 : decode cX7_stepOf 46 = .ok (.bipush 7, 2) := by decide +kernel
theorem dX7_stepOf_48 : decode cX7_stepOf 48 = .ok (.goto 26, 3) := by decide +kernel
theorem dX7_stepOf_51 : decode cX7_stepOf 51 = .ok (.iload_n 0, 1) := by decide +kernel
theorem dX7_stepOf_52 : decode cX7_stepOf 52 = .ok (.bipush 97, 2) := by decide +kernel
theorem dX7_stepOf_54 : decode cX7_stepOf 54 = .ok (.if_icmp .ne 8, 3) := by decide +kernel
theorem dX7_stepOf_57 : decode cX7_stepOf 57 = .ok (.bipush 9, 2) := by decide +kernel
theorem dX7_stepOf_59 : decode cX7_stepOf 59 = .ok (.goto 15, 3) := by decide +kernel
theorem dX7_stepOf_62 : decode cX7_stepOf 62 = .ok (.iload_n 0, 1) := by decide +kernel
theorem dX7_stepOf_63 : decode cX7_stepOf 63 = .ok (.bipush 98, 2) := by decide +kernel
theorem dX7_stepOf_65 : decode cX7_stepOf 65 = .ok (.if_icmp .ne 8, 3) := by decide +kernel
theorem dX7_stepOf_68 : decode cX7_stepOf 68 = .ok (.bipush 11, 2) := by decide +kernel
theorem dX7_stepOf_70 : decode cX7_stepOf 70 = .ok (.goto 4, 3) := by decide +kernel
theorem dX7_stepOf_73 : decode cX7_stepOf 73 = .ok (.iconst (-1), 1) := by decide +kernel
theorem dX7_stepOf_74 : decode cX7_stepOf 74 = .ok (.ireturn, 1) := by decide +kernel
theorem dX7_readsNote_0 : decode cX7_readsNote 0 = .ok (.aload_n 0, 1) := by decide +kernel
theorem dX7_readsNote_1 : decode cX7_readsNote 1 = .ok (.getfield 134, 3) := by decide +kernel
theorem dX7_readsNote_4 : decode cX7_readsNote 4 = .ok (.istore_n 2, 1) := by decide +kernel
theorem dX7_readsNote_5 : decode cX7_readsNote 5 = .ok (.aload_n 0, 1) := by decide +kernel
theorem dX7_readsNote_6 : decode cX7_readsNote 6 = .ok (.invokevirtual 143, 3) := by decide +kernel
theorem dX7_readsNote_9 : decode cX7_readsNote 9 = .ok (.invokestatic 147, 3) := by decide +kernel
theorem dX7_readsNote_12 : decode cX7_readsNote 12 = .ok (.istore_n 3, 1) := by decide +kernel
theorem dX7_readsNote_13 : decode cX7_readsNote 13 = .ok (.iload_n 3, 1) := by decide +kernel
theorem dX7_readsNote_14 : decode cX7_readsNote 14 = .ok (.iconst (-1), 1) := by decide +kernel
theorem dX7_readsNote_15 : decode cX7_readsNote 15 = .ok (.if_icmp .ne 13, 3) := by decide +kernel
theorem dX7_readsNote_18 : decode cX7_readsNote 18 = .ok (.aload_n 0, 1) := by decide +kernel
theorem dX7_readsNote_19 : decode cX7_readsNote 19 = .ok (.iconst 1, 1) := by decide +kernel
theorem dX7_readsNote_20 : decode cX7_readsNote 20 = .ok (.aload_n 0, 1) := by decide +kernel
theorem dX7_readsNote_21 : decode cX7_readsNote 21 = .ok (.getfield 134, 3) := by decide +kernel
theorem dX7_readsNote_24 : decode cX7_readsNote 24 = .ok (.invokevirtual 150, 3) := by decide +kernel
theorem dX7_readsNote_27 : decode cX7_readsNote 27 = .ok (.ireturn, 1) := by decide +kernel
theorem dX7_readsNote_28 : decode cX7_readsNote 28 = .ok (.aload_n 0, 1) := by decide +kernel
theorem dX7_readsNote_29 : decode cX7_readsNote 29 = .ok (.aload_n 0, 1) := by decide +kernel
theorem dX7_readsNote_30 : decode cX7_readsNote 30 = .ok (.getfield 134, 3) := by decide +kernel
theorem dX7_readsNote_33 : decode cX7_readsNote 33 = .ok (.iconst 1, 1) := by decide +kernel
theorem dX7_readsNote_34 : decode cX7_readsNote 34 = .ok (.iadd, 1) := by decide +kernel
theorem dX7_readsNote_35 : decode cX7_readsNote 35 = .ok (.putfield 134, 3) := by decide +kernel
theorem dX7_readsNote_38 : decode cX7_readsNote 38 = .ok (.aload_n 0, 1) := by decide +kernel
theorem dX7_readsNote_39 : decode cX7_readsNote 39 = .ok (.invokevirtual 143, 3) := by decide +kernel
theorem dX7_readsNote_42 : decode cX7_readsNote 42 = .ok (.bipush 35, 2) := by decide +kernel
theorem dX7_readsNote_44 : decode cX7_readsNote 44 = .ok (.if_icmp .ne 17, 3) := by decide +kernel
theorem dX7_readsNote_47 : decode cX7_readsNote 47 = .ok (.iload_n 3, 1) := by decide +kernel
theorem dX7_readsNote_48 : decode cX7_readsNote 48 = .ok (.iconst 1, 1) := by decide +kernel
theorem dX7_readsNote_49 : decode cX7_readsNote 49 = .ok (.iadd, 1) := by decide +kernel
theorem dX7_readsNote_50 : decode cX7_readsNote 50 = .ok (.istore_n 3, 1) := by decide +kernel
theorem dX7_readsNote_51 : decode cX7_readsNote 51 = .ok (.aload_n 0, 1) := by decide +kernel
theorem dX7_readsNote_52 : decode cX7_readsNote 52 = .ok (.aload_n 0, 1) := by decide +kernel
theorem dX7_readsNote_53 : decode cX7_readsNote 53 = .ok (.getfield 134, 3) := by decide +kernel
theorem dX7_readsNote_56 : decode cX7_readsNote 56 = .ok (.iconst 1, 1) := by decide +kernel
theorem dX7_readsNote_57 : decode cX7_readsNote 57 = .ok (.iadd, 1) := by decide +kernel
theorem dX7_readsNote_58 : decode cX7_readsNote 58 = .ok (.putfield 134, 3) := by decide +kernel
theorem dX7_readsNote_61 : decode cX7_readsNote 61 = .ok (.aload_n 0, 1) := by decide +kernel
theorem dX7_readsNote_62 : decode cX7_readsNote 62 = .ok (.invokevirtual 143, 3) := by decide +kernel
theorem dX7_readsNote_65 : decode cX7_readsNote 65 = .ok (.bipush 48, 2) := by decide +kernel
theorem dX7_readsNote_67 : decode cX7_readsNote 67 = .ok (.if_icmp .lt 12, 3) := by decide +kernel
theorem dX7_readsNote_70 : decode cX7_readsNote 70 = .ok (.aload_n 0, 1) := by decide +kernel
theorem dX7_readsNote_71 : decode cX7_readsNote 71 = .ok (.invokevirtual 143, 3) := by decide +kernel
theorem dX7_readsNote_74 : decode cX7_readsNote 74 = .ok (.bipush 51, 2) := by decide +kernel
theorem dX7_readsNote_76 : decode cX7_readsNote 76 = .ok (.if_icmp .le 13, 3) := by decide +kernel
theorem dX7_readsNote_79 : decode cX7_readsNote 79 = .ok (.aload_n 0, 1) := by decide +kernel
theorem dX7_readsNote_80 : decode cX7_readsNote 80 = .ok (.iconst 1, 1) := by decide +kernel
theorem dX7_readsNote_81 : decode cX7_readsNote 81 = .ok (.aload_n 0, 1) := by decide +kernel
theorem dX7_readsNote_82 : decode cX7_readsNote 82 = .ok (.getfield 134, 3) := by decide +kernel
theorem dX7_readsNote_85 : decode cX7_readsNote 85 = .ok (.invokevirtual 150, 3) := by decide +kernel
theorem dX7_readsNote_88 : decode cX7_readsNote 88 = .ok (.ireturn, 1) := by decide +kernel
theorem dX7_readsNote_89 : decode cX7_readsNote 89 = .ok (.bipush 12, 2) := by decide +kernel
theorem dX7_readsNote_91 : decode cX7_readsNote 91 = .ok (.aload_n 0, 1) := by decide +kernel
theorem dX7_readsNote_92 : decode cX7_readsNote 92 = .ok (.invokevirtual 143, 3) := by decide +kernel
theorem dX7_readsNote_95 : decode cX7_readsNote 95 = .ok (.bipush 48, 2) := by decide +kernel
theorem dX7_readsNote_97 : decode cX7_readsNote 97 = .ok (.isub, 1) := by decide +kernel
theorem dX7_readsNote_98 : decode cX7_readsNote 98 = .ok (.imul, 1) := by decide +kernel
theorem dX7_readsNote_99 : decode cX7_readsNote 99 = .ok (.iload_n 3, 1) := by decide +kernel
theorem dX7_readsNote_100 : decode cX7_readsNote 100 = .ok (.iadd, 1) := by decide +kernel
theorem dX7_readsNote_101 : decode cX7_readsNote 101 = .ok (.istore 4, 2) := by decide +kernel
theorem dX7_readsNote_103 : decode cX7_readsNote 103 = .ok (.aload_n 0, 1) := by decide +kernel
theorem dX7_readsNote_104 : decode cX7_readsNote 104 = .ok (.aload_n 0, 1) := by decide +kernel
theorem dX7_readsNote_105 : decode cX7_readsNote 105 = .ok (.getfield 134, 3) := by decide +kernel
theorem dX7_readsNote_108 : decode cX7_readsNote 108 = .ok (.iconst 1, 1) := by decide +kernel
theorem dX7_readsNote_109 : decode cX7_readsNote 109 = .ok (.iadd, 1) := by decide +kernel
theorem dX7_readsNote_110 : decode cX7_readsNote 110 = .ok (.putfield 134, 3) := by decide +kernel
theorem dX7_readsNote_113 : decode cX7_readsNote 113 = .ok (.iload_n 1, 1) := by decide +kernel
theorem dX7_readsNote_114 : decode cX7_readsNote 114 = .ok (.istore 5, 2) := by decide +kernel
theorem dX7_readsNote_116 : decode cX7_readsNote 116 = .ok (.iload 5, 2) := by decide +kernel
theorem dX7_readsNote_118 : decode cX7_readsNote 118 = .ok (.aload_n 0, 1) := by decide +kernel
theorem dX7_readsNote_119 : decode cX7_readsNote 119 = .ok (.getfield 153, 3) := by decide +kernel
theorem dX7_readsNote_122 : decode cX7_readsNote 122 = .ok (.if_icmp .ge 28, 3) := by decide +kernel
theorem dX7_readsNote_125 : decode cX7_readsNote 125 = .ok (.aload_n 0, 1) := by decide +kernel
theorem dX7_readsNote_126 : decode cX7_readsNote 126 = .ok (.getfield 76, 3) := by decide +kernel
theorem dX7_readsNote_129 : decode cX7_readsNote 129 = .ok (.iload 5, 2) := by decide +kernel
theorem dX7_readsNote_131 : decode cX7_readsNote 131 = .ok (.iaload, 1) := by decide +kernel
theorem dX7_readsNote_132 : decode cX7_readsNote 132 = .ok (.iload 4, 2) := by decide +kernel
theorem dX7_readsNote_134 : decode cX7_readsNote 134 = .ok (.if_icmp .ne 10, 3) := by decide +kernel
theorem dX7_readsNote_137 : decode cX7_readsNote 137 = .ok (.aload_n 0, 1) := by decide +kernel
theorem dX7_readsNote_138 : decode cX7_readsNote 138 = .ok (.iconst 3, 1) := by decide +kernel
theorem dX7_readsNote_139 : decode cX7_readsNote 139 = .ok (.iload_n 2, 1) := by decide +kernel
theorem dX7_readsNote_140 : decode cX7_readsNote 140 = .ok (.invokevirtual 150, 3) := by decide +kernel
theorem dX7_readsNote_143 : decode cX7_readsNote 143 = .ok (.ireturn, 1) := by decide +kernel
theorem dX7_readsNote_144 : decode cX7_readsNote 144 = .ok (.iinc 5 1, 3) := by decide +kernel
theorem dX7_readsNote_147 : decode cX7_readsNote 147 = .ok (.goto (-31), 3) := by decide +kernel
theorem dX7_readsNote_150 : decode cX7_readsNote 150 = .ok (.aload_n 0, 1) := by decide +kernel
theorem dX7_readsNote_151 : decode cX7_readsNote 151 = .ok (.getfield 73, 3) := by decide +kernel
theorem dX7_readsNote_154 : decode cX7_readsNote 154 = .ok (.aload_n 0, 1) := by decide +kernel
theorem dX7_readsNote_155 : decode cX7_readsNote 155 = .ok (.getfield 153, 3) := by decide +kernel
theorem dX7_readsNote_158 : decode cX7_readsNote 158 = .ok (.aload_n 0, 1) := by decide +kernel
theorem dX7_readsNote_159 : decode cX7_readsNote 159 = .ok (.getfield 156, 3) := by decide +kernel
theorem dX7_readsNote_162 : decode cX7_readsNote 162 = .ok (.iastore, 1) := by decide +kernel
theorem dX7_readsNote_163 : decode cX7_readsNote 163 = .ok (.aload_n 0, 1) := by decide +kernel
theorem dX7_readsNote_164 : decode cX7_readsNote 164 = .ok (.getfield 76, 3) := by decide +kernel
theorem dX7_readsNote_167 : decode cX7_readsNote 167 = .ok (.aload_n 0, 1) := by decide +kernel
theorem dX7_readsNote_168 : decode cX7_readsNote 168 = .ok (.getfield 153, 3) := by decide +kernel
theorem dX7_readsNote_171 : decode cX7_readsNote 171 = .ok (.iload 4, 2) := by decide +kernel
theorem dX7_readsNote_173 : decode cX7_readsNote 173 = .ok (.iastore, 1) := by decide +kernel
theorem dX7_readsNote_174 : decode cX7_readsNote 174 = .ok (.aload_n 0, 1) := by decide +kernel
theorem dX7_readsNote_175 : decode cX7_readsNote 175 = .ok (.aload_n 0, 1) := by decide +kernel
theorem dX7_readsNote_176 : decode cX7_readsNote 176 = .ok (.getfield 153, 3) := by decide +kernel
theorem dX7_readsNote_179 : decode cX7_readsNote 179 = .ok (.iconst 1, 1) := by decide +kernel
theorem dX7_readsNote_180 : decode cX7_readsNote 180 = .ok (.iadd, 1) := by decide +kernel
theorem dX7_readsNote_181 : decode cX7_readsNote 181 = .ok (.putfield 153, 3) := by decide +kernel
theorem dX7_readsNote_184 : decode cX7_readsNote 184 = .ok (.iconst 1, 1) := by decide +kernel
theorem dX7_readsNote_185 : decode cX7_readsNote 185 = .ok (.ireturn, 1) := by decide +kernel
theorem dX7_readsChord_0 : decode cX7_readsChord 0 = .ok (.aload_n 0, 1) := by decide +kernel
theorem dX7_readsChord_1 : decode cX7_readsChord 1 = .ok (.getfield 153, 3) := by decide +kernel
theorem dX7_readsChord_4 : decode cX7_readsChord 4 = .ok (.istore_n 1, 1) := by decide +kernel
theorem dX7_readsChord_5 : decode cX7_readsChord 5 = .ok (.aload_n 0, 1) := by decide +kernel
theorem dX7_readsChord_6 : decode cX7_readsChord 6 = .ok (.aload_n 0, 1) := by decide +kernel
theorem dX7_readsChord_7 : decode cX7_readsChord 7 = .ok (.getfield 134, 3) := by decide +kernel
theorem dX7_readsChord_10 : decode cX7_readsChord 10 = .ok (.iconst 1, 1) := by decide +kernel
theorem dX7_readsChord_11 : decode cX7_readsChord 11 = .ok (.iadd, 1) := by decide +kernel
theorem dX7_readsChord_12 : decode cX7_readsChord 12 = .ok (.putfield 134, 3) := by decide +kernel
theorem dX7_readsChord_15 : decode cX7_readsChord 15 = .ok (.aload_n 0, 1) := by decide +kernel
theorem dX7_readsChord_16 : decode cX7_readsChord 16 = .ok (.invokevirtual 143, 3) := by decide +kernel
theorem dX7_readsChord_19 : decode cX7_readsChord 19 = .ok (.bipush 41, 2) := by decide +kernel
theorem dX7_readsChord_21 : decode cX7_readsChord 21 = .ok (.if_icmp .ne 13, 3) := by decide +kernel
theorem dX7_readsChord_24 : decode cX7_readsChord 24 = .ok (.aload_n 0, 1) := by decide +kernel
theorem dX7_readsChord_25 : decode cX7_readsChord 25 = .ok (.getfield 153, 3) := by decide +kernel
theorem dX7_readsChord_28 : decode cX7_readsChord 28 = .ok (.iload_n 1, 1) := by decide +kernel
theorem dX7_readsChord_29 : decode cX7_readsChord 29 = .ok (.isub, 1) := by decide +kernel
theorem dX7_readsChord_30 : decode cX7_readsChord 30 = .ok (.iconst 2, 1) := by decide +kernel
theorem dX7_readsChord_31 : decode cX7_readsChord 31 = .ok (.if_icmp .ge 54, 3) := by decide +kernel
theorem dX7_readsChord_34 : decode cX7_readsChord 34 = .ok (.aload_n 0, 1) := by decide +kernel
theorem dX7_readsChord_35 : decode cX7_readsChord 35 = .ok (.invokevirtual 143, 3) := by decide +kernel
theorem dX7_readsChord_38 : decode cX7_readsChord 38 = .ok (.invokestatic 147, 3) := by decide +kernel
theorem dX7_readsChord_41 : decode cX7_readsChord 41 = .ok (.iconst (-1), 1) := by decide +kernel
theorem dX7_readsChord_42 : decode cX7_readsChord 42 = .ok (.if_icmp .ne 13, 3) := by decide +kernel
theorem dX7_readsChord_45 : decode cX7_readsChord 45 = .ok (.aload_n 0, 1) := by decide +kernel
theorem dX7_readsChord_46 : decode cX7_readsChord 46 = .ok (.iconst 1, 1) := by decide +kernel
theorem dX7_readsChord_47 : decode cX7_readsChord 47 = .ok (.aload_n 0, 1) := by decide +kernel
theorem dX7_readsChord_48 : decode cX7_readsChord 48 = .ok (.getfield 134, 3) := by decide +kernel
theorem dX7_readsChord_51 : decode cX7_readsChord 51 = .ok (.invokevirtual 150, 3) := by decide +kernel
theorem dX7_readsChord_54 : decode cX7_readsChord 54 = .ok (.ireturn, 1) := by decide +kernel
theorem dX7_readsChord_55 : decode cX7_readsChord 55 = .ok (.aload_n 0, 1) := by decide +kernel
theorem dX7_readsChord_56 : decode cX7_readsChord 56 = .ok (.getfield 153, 3) := by decide +kernel
theorem dX7_readsChord_59 : decode cX7_readsChord 59 = .ok (.iload_n 1, 1) := by decide +kernel
theorem dX7_readsChord_60 : decode cX7_readsChord 60 = .ok (.isub, 1) := by decide +kernel
theorem dX7_readsChord_61 : decode cX7_readsChord 61 = .ok (.iconst 4, 1) := by decide +kernel
theorem dX7_readsChord_62 : decode cX7_readsChord 62 = .ok (.if_icmp .ne 13, 3) := by decide +kernel
theorem dX7_readsChord_65 : decode cX7_readsChord 65 = .ok (.aload_n 0, 1) := by decide +kernel
theorem dX7_readsChord_66 : decode cX7_readsChord 66 = .ok (.iconst 2, 1) := by decide +kernel
theorem dX7_readsChord_67 : decode cX7_readsChord 67 = .ok (.aload_n 0, 1) := by decide +kernel
theorem dX7_readsChord_68 : decode cX7_readsChord 68 = .ok (.getfield 134, 3) := by decide +kernel
theorem dX7_readsChord_71 : decode cX7_readsChord 71 = .ok (.invokevirtual 150, 3) := by decide +kernel
theorem dX7_readsChord_74 : decode cX7_readsChord 74 = .ok (.ireturn, 1) := by decide +kernel
theorem dX7_readsChord_75 : decode cX7_readsChord 75 = .ok (.aload_n 0, 1) := by decide +kernel
theorem dX7_readsChord_76 : decode cX7_readsChord 76 = .ok (.iload_n 1, 1) := by decide +kernel
theorem dX7_readsChord_77 : decode cX7_readsChord 77 = .ok (.invokevirtual 159, 3) := by decide +kernel
theorem dX7_readsChord_80 : decode cX7_readsChord 80 = .ok (.ifCond .ne (-65), 3) := by decide +kernel
theorem dX7_readsChord_83 : decode cX7_readsChord 83 = .ok (.iconst 0, 1) := by decide +kernel
theorem dX7_readsChord_84 : decode cX7_readsChord 84 = .ok (.ireturn, 1) := by decide +kernel
theorem dX7_readsChord_85 : decode cX7_readsChord 85 = .ok (.aload_n 0, 1) := by decide +kernel
theorem dX7_readsChord_86 : decode cX7_readsChord 86 = .ok (.aload_n 0, 1) := by decide +kernel
theorem dX7_readsChord_87 : decode cX7_readsChord 87 = .ok (.getfield 134, 3) := by decide +kernel
theorem dX7_readsChord_90 : decode cX7_readsChord 90 = .ok (.iconst 1, 1) := by decide +kernel
theorem dX7_readsChord_91 : decode cX7_readsChord 91 = .ok (.iadd, 1) := by decide +kernel
theorem dX7_readsChord_92 : decode cX7_readsChord 92 = .ok (.putfield 134, 3) := by decide +kernel
theorem dX7_readsChord_95 : decode cX7_readsChord 95 = .ok (.iconst 1, 1) := by decide +kernel
theorem dX7_readsChord_96 : decode cX7_readsChord 96 = .ok (.ireturn, 1) := by decide +kernel
theorem dX7_readsUnit_0 : decode cX7_readsUnit 0 = .ok (.iconst 1, 1) := by decide +kernel
theorem dX7_readsUnit_1 : decode cX7_readsUnit 1 = .ok (.istore_n 1, 1) := by decide +kernel
theorem dX7_readsUnit_2 : decode cX7_readsUnit 2 = .ok (.aload_n 0, 1) := by decide +kernel
theorem dX7_readsUnit_3 : decode cX7_readsUnit 3 = .ok (.invokevirtual 143, 3) := by decide +kernel
theorem dX7_readsUnit_6 : decode cX7_readsUnit 6 = .ok (.bipush 114, 2) := by decide +kernel
theorem dX7_readsUnit_8 : decode cX7_readsUnit 8 = .ok (.if_icmp .ne 16, 3) := by decide +kernel
theorem dX7_readsUnit_11 : decode cX7_readsUnit 11 = .ok (.aload_n 0, 1) := by decide +kernel
theorem dX7_readsUnit_12 : decode cX7_readsUnit 12 = .ok (.aload_n 0, 1) := by decide +kernel
theorem dX7_readsUnit_13 : decode cX7_readsUnit 13 = .ok (.getfield 134, 3) := by decide +kernel
theorem dX7_readsUnit_16 : decode cX7_readsUnit 16 = .ok (.iconst 1, 1) := by decide +kernel
theorem dX7_readsUnit_17 : decode cX7_readsUnit 17 = .ok (.iadd, 1) := by decide +kernel
theorem dX7_readsUnit_18 : decode cX7_readsUnit 18 = .ok (.putfield 134, 3) := by decide +kernel
theorem dX7_readsUnit_21 : decode cX7_readsUnit 21 = .ok (.goto 28, 3) := by decide +kernel
theorem dX7_readsUnit_24 : decode cX7_readsUnit 24 = .ok (.aload_n 0, 1) := by decide +kernel
theorem dX7_readsUnit_25 : decode cX7_readsUnit 25 = .ok (.invokevirtual 143, 3) := by decide +kernel
theorem dX7_readsUnit_28 : decode cX7_readsUnit 28 = .ok (.bipush 40, 2) := by decide +kernel
theorem dX7_readsUnit_30 : decode cX7_readsUnit 30 = .ok (.if_icmp .ne 10, 3) := by decide +kernel
theorem dX7_readsUnit_33 : decode cX7_readsUnit 33 = .ok (.aload_n 0, 1) := by decide +kernel
theorem dX7_readsUnit_34 : decode cX7_readsUnit 34 = .ok (.invokevirtual 162, 3) := by decide +kernel
theorem dX7_readsUnit_37 : decode cX7_readsUnit 37 = .ok (.goto 11, 3) := by decide +kernel
theorem dX7_readsUnit_40 : decode cX7_readsUnit 40 = .ok (.aload_n 0, 1) := by decide +kernel
theorem dX7_readsUnit_41 : decode cX7_readsUnit 41 = .ok (.aload_n 0, 1) := by decide +kernel
theorem dX7_readsUnit_42 : decode cX7_readsUnit 42 = .ok (.getfield 153, 3) := by decide +kernel
theorem dX7_readsUnit_45 : decode cX7_readsUnit 45 = .ok (.invokevirtual 159, 3) := by decide +kernel
theorem dX7_readsUnit_48 : decode cX7_readsUnit 48 = .ok (.istore_n 1, 1) := by decide +kernel
theorem dX7_readsUnit_49 : decode cX7_readsUnit 49 = .ok (.iload_n 1, 1) := by decide +kernel
theorem dX7_readsUnit_50 : decode cX7_readsUnit 50 = .ok (.ifCond .ne 5, 3) := by decide +kernel
theorem dX7_readsUnit_53 : decode cX7_readsUnit 53 = .ok (.iconst 0, 1) := by decide +kernel
theorem dX7_readsUnit_54 : decode cX7_readsUnit 54 = .ok (.ireturn, 1) := by decide +kernel
theorem dX7_readsUnit_55 : decode cX7_readsUnit 55 = .ok (.aload_n 0, 1) := by decide +kernel
theorem dX7_readsUnit_56 : decode cX7_readsUnit 56 = .ok (.invokevirtual 143, 3) := by decide +kernel
theorem dX7_readsUnit_59 : decode cX7_readsUnit 59 = .ok (.bipush 49, 2) := by decide +kernel
theorem dX7_readsUnit_61 : decode cX7_readsUnit 61 = .ok (.if_icmp .lt 12, 3) := by decide +kernel
theorem dX7_readsUnit_64 : decode cX7_readsUnit 64 = .ok (.aload_n 0, 1) := by decide +kernel
theorem dX7_readsUnit_65 : decode cX7_readsUnit 65 = .ok (.invokevirtual 143, 3) := by decide +kernel
theorem dX7_readsUnit_68 : decode cX7_readsUnit 68 = .ok (.bipush 57, 2) := by decide +kernel
theorem dX7_readsUnit_70 : decode cX7_readsUnit 70 = .ok (.if_icmp .le 13, 3) := by decide +kernel
theorem dX7_readsUnit_73 : decode cX7_readsUnit 73 = .ok (.aload_n 0, 1) := by decide +kernel
theorem dX7_readsUnit_74 : decode cX7_readsUnit 74 = .ok (.iconst 1, 1) := by decide +kernel
theorem dX7_readsUnit_75 : decode cX7_readsUnit 75 = .ok (.aload_n 0, 1) := by decide +kernel
theorem dX7_readsUnit_76 : decode cX7_readsUnit 76 = .ok (.getfield 134, 3) := by decide +kernel
theorem dX7_readsUnit_79 : decode cX7_readsUnit 79 = .ok (.invokevirtual 150, 3) := by decide +kernel
theorem dX7_readsUnit_82 : decode cX7_readsUnit 82 = .ok (.ireturn, 1) := by decide +kernel
theorem dX7_readsUnit_83 : decode cX7_readsUnit 83 = .ok (.aload_n 0, 1) := by decide +kernel
theorem dX7_readsUnit_84 : decode cX7_readsUnit 84 = .ok (.invokevirtual 143, 3) := by decide +kernel
theorem dX7_readsUnit_87 : decode cX7_readsUnit 87 = .ok (.bipush 48, 2) := by decide +kernel
theorem dX7_readsUnit_89 : decode cX7_readsUnit 89 = .ok (.isub, 1) := by decide +kernel
theorem dX7_readsUnit_90 : decode cX7_readsUnit 90 = .ok (.istore_n 2, 1) := by decide +kernel
theorem dX7_readsUnit_91 : decode cX7_readsUnit 91 = .ok (.aload_n 0, 1) := by decide +kernel
theorem dX7_readsUnit_92 : decode cX7_readsUnit 92 = .ok (.getfield 166, 3) := by decide +kernel
theorem dX7_readsUnit_95 : decode cX7_readsUnit 95 = .ok (.iload_n 2, 1) := by decide +kernel
theorem dX7_readsUnit_96 : decode cX7_readsUnit 96 = .ok (.iadd, 1) := by decide +kernel
theorem dX7_readsUnit_97 : decode cX7_readsUnit 97 = .ok (.bipush 64, 2) := by decide +kernel
theorem dX7_readsUnit_99 : decode cX7_readsUnit 99 = .ok (.if_icmp .le 13, 3) := by decide +kernel
theorem dX7_readsUnit_102 : decode cX7_readsUnit 102 = .ok (.aload_n 0, 1) := by decide +kernel
theorem dX7_readsUnit_103 : decode cX7_readsUnit 103 = .ok (.iconst 4, 1) := by decide +kernel
theorem dX7_readsUnit_104 : decode cX7_readsUnit 104 = .ok (.aload_n 0, 1) := by decide +kernel
theorem dX7_readsUnit_105 : decode cX7_readsUnit 105 = .ok (.getfield 134, 3) := by decide +kernel
theorem dX7_readsUnit_108 : decode cX7_readsUnit 108 = .ok (.invokevirtual 150, 3) := by decide +kernel
theorem dX7_readsUnit_111 : decode cX7_readsUnit 111 = .ok (.ireturn, 1) := by decide +kernel
theorem dX7_readsUnit_112 : decode cX7_readsUnit 112 = .ok (.aload_n 0, 1) := by decide +kernel
theorem dX7_readsUnit_113 : decode cX7_readsUnit 113 = .ok (.getfield 70, 3) := by decide +kernel
theorem dX7_readsUnit_116 : decode cX7_readsUnit 116 = .ok (.aload_n 0, 1) := by decide +kernel
theorem dX7_readsUnit_117 : decode cX7_readsUnit 117 = .ok (.getfield 156, 3) := by decide +kernel
theorem dX7_readsUnit_120 : decode cX7_readsUnit 120 = .ok (.aload_n 0, 1) := by decide +kernel
theorem dX7_readsUnit_121 : decode cX7_readsUnit 121 = .ok (.getfield 166, 3) := by decide +kernel
theorem dX7_readsUnit_124 : decode cX7_readsUnit 124 = .ok (.iastore, 1) := by decide +kernel
theorem dX7_readsUnit_125 : decode cX7_readsUnit 125 = .ok (.aload_n 0, 1) := by decide +kernel
theorem dX7_readsUnit_126 : decode cX7_readsUnit 126 = .ok (.aload_n 0, 1) := by decide +kernel
theorem dX7_readsUnit_127 : decode cX7_readsUnit 127 = .ok (.getfield 156, 3) := by decide +kernel
theorem dX7_readsUnit_130 : decode cX7_readsUnit 130 = .ok (.iconst 1, 1) := by decide +kernel
theorem dX7_readsUnit_131 : decode cX7_readsUnit 131 = .ok (.iadd, 1) := by decide +kernel
theorem dX7_readsUnit_132 : decode cX7_readsUnit 132 = .ok (.putfield 156, 3) := by decide +kernel
theorem dX7_readsUnit_135 : decode cX7_readsUnit 135 = .ok (.aload_n 0, 1) := by decide +kernel
theorem dX7_readsUnit_136 : decode cX7_readsUnit 136 = .ok (.aload_n 0, 1) := by decide +kernel
theorem dX7_readsUnit_137 : decode cX7_readsUnit 137 = .ok (.getfield 166, 3) := by decide +kernel
theorem dX7_readsUnit_140 : decode cX7_readsUnit 140 = .ok (.iload_n 2, 1) := by decide +kernel
theorem dX7_readsUnit_141 : decode cX7_readsUnit 141 = .ok (.iadd, 1) := by decide +kernel
theorem dX7_readsUnit_142 : decode cX7_readsUnit 142 = .ok (.putfield 166, 3) := by decide +kernel
theorem dX7_readsUnit_145 : decode cX7_readsUnit 145 = .ok (.aload_n 0, 1) := by decide +kernel
theorem dX7_readsUnit_146 : decode cX7_readsUnit 146 = .ok (.aload_n 0, 1) := by decide +kernel
theorem dX7_readsUnit_147 : decode cX7_readsUnit 147 = .ok (.getfield 134, 3) := by decide +kernel
theorem dX7_readsUnit_150 : decode cX7_readsUnit 150 = .ok (.iconst 1, 1) := by decide +kernel
theorem dX7_readsUnit_151 : decode cX7_readsUnit 151 = .ok (.iadd, 1) := by decide +kernel
theorem dX7_readsUnit_152 : decode cX7_readsUnit 152 = .ok (.putfield 134, 3) := by decide +kernel
theorem dX7_readsUnit_155 : decode cX7_readsUnit 155 = .ok (.iconst 1, 1) := by decide +kernel
theorem dX7_readsUnit_156 : decode cX7_readsUnit 156 = .ok (.ireturn, 1) := by decide +kernel
theorem dX7_tune_0 : decode cX7_tune 0 = .ok (.iload_n 1, 1) := by decide +kernel
theorem dX7_tune_1 : decode cX7_tune 1 = .ok (.ifCond .lt 27, 3) := by decide +kernel
theorem dX7_tune_4 : decode cX7_tune 4 = .ok (.iload_n 1, 1) := by decide +kernel
theorem dX7_tune_5 : decode cX7_tune 5 = .ok (.bipush 6, 2) := by decide +kernel
theorem dX7_tune_7 : decode cX7_tune 7 = .ok (.if_icmp .ge 21, 3) := by decide +kernel
theorem dX7_tune_10 : decode cX7_tune 10 = .ok (.iload_n 2, 1) := by decide +kernel
theorem dX7_tune_11 : decode cX7_tune 11 = .ok (.ifCond .lt 17, 3) := by decide +kernel
theorem dX7_tune_14 : decode cX7_tune 14 = .ok (.iload_n 2, 1) := by decide +kernel
theorem dX7_tune_15 : decode cX7_tune 15 = .ok (.bipush 60, 2) := by decide +kernel
theorem dX7_tune_17 : decode cX7_tune 17 = .ok (.if_icmp .gt 11, 3) := by decide +kernel
theorem dX7_tune_20 : decode cX7_tune 20 = .ok (.iload_n 2, 1) := by decide +kernel
theorem dX7_tune_21 : decode cX7_tune 21 = .ok (.aload_n 0, 1) := by decide +kernel
theorem dX7_tune_22 : decode cX7_tune 22 = .ok (.getfield 127, 3) := by decide +kernel
theorem dX7_tune_25 : decode cX7_tune 25 = .ok (.if_icmp .le 5, 3) := by decide +kernel
theorem dX7_tune_28 : decode cX7_tune 28 = .ok (.iconst (-1), 1) := by decide +kernel
theorem dX7_tune_29 : decode cX7_tune 29 = .ok (.ireturn, 1) := by decide +kernel
theorem dX7_tune_30 : decode cX7_tune 30 = .ok (.aload_n 0, 1) := by decide +kernel
theorem dX7_tune_31 : decode cX7_tune 31 = .ok (.iconst 0, 1) := by decide +kernel
theorem dX7_tune_32 : decode cX7_tune 32 = .ok (.putfield 134, 3) := by decide +kernel
theorem dX7_tune_35 : decode cX7_tune 35 = .ok (.aload_n 0, 1) := by decide +kernel
theorem dX7_tune_36 : decode cX7_tune 36 = .ok (.iload_n 2, 1) := by decide +kernel
theorem dX7_tune_37 : decode cX7_tune 37 = .ok (.putfield 137, 3) := by decide +kernel
theorem dX7_tune_40 : decode cX7_tune 40 = .ok (.aload_n 0, 1) := by decide +kernel
theorem dX7_tune_41 : decode cX7_tune 41 = .ok (.iconst 0, 1) := by decide +kernel
theorem dX7_tune_42 : decode cX7_tune 42 = .ok (.putfield 156, 3) := by decide +kernel
theorem dX7_tune_45 : decode cX7_tune 45 = .ok (.aload_n 0, 1) := by decide +kernel
theorem dX7_tune_46 : decode cX7_tune 46 = .ok (.iconst 0, 1) := by decide +kernel
theorem dX7_tune_47 : decode cX7_tune 47 = .ok (.putfield 153, 3) := by decide +kernel
theorem dX7_tune_50 : decode cX7_tune 50 = .ok (.aload_n 0, 1) := by decide +kernel
theorem dX7_tune_51 : decode cX7_tune 51 = .ok (.iconst 0, 1) := by decide +kernel
theorem dX7_tune_52 : decode cX7_tune 52 = .ok (.putfield 166, 3) := by decide +kernel
theorem dX7_tune_55 : decode cX7_tune 55 = .ok (.aload_n 0, 1) := by decide +kernel
theorem dX7_tune_56 : decode cX7_tune 56 = .ok (.iconst 0, 1) := by decide +kernel
theorem dX7_tune_57 : decode cX7_tune 57 = .ok (.putfield 140, 3) := by decide +kernel
theorem dX7_tune_60 : decode cX7_tune 60 = .ok (.aload_n 0, 1) := by decide +kernel
theorem dX7_tune_61 : decode cX7_tune 61 = .ok (.invokevirtual 169, 3) := by decide +kernel
theorem dX7_tune_64 : decode cX7_tune 64 = .ok (.istore_n 3, 1) := by decide +kernel
theorem dX7_tune_65 : decode cX7_tune 65 = .ok (.iload_n 3, 1) := by decide +kernel
theorem dX7_tune_66 : decode cX7_tune 66 = .ok (.ifCond .eq 22, 3) := by decide +kernel
theorem dX7_tune_69 : decode cX7_tune 69 = .ok (.aload_n 0, 1) := by decide +kernel
theorem dX7_tune_70 : decode cX7_tune 70 = .ok (.getfield 134, 3) := by decide +kernel
theorem dX7_tune_73 : decode cX7_tune 73 = .ok (.aload_n 0, 1) := by decide +kernel
theorem dX7_tune_74 : decode cX7_tune 74 = .ok (.getfield 137, 3) := by decide +kernel
theorem dX7_tune_77 : decode cX7_tune 77 = .ok (.if_icmp .ge 11, 3) := by decide +kernel
theorem dX7_tune_80 : decode cX7_tune 80 = .ok (.aload_n 0, 1) := by decide +kernel
theorem dX7_tune_81 : decode cX7_tune 81 = .ok (.invokevirtual 169, 3) := by decide +kernel
theorem dX7_tune_84 : decode cX7_tune 84 = .ok (.istore_n 3, 1) := by decide +kernel
theorem dX7_tune_85 : decode cX7_tune 85 = .ok (.goto (-20), 3) := by decide +kernel
theorem dX7_tune_88 : decode cX7_tune 88 = .ok (.aload_n 0, 1) := by decide +kernel
theorem dX7_tune_89 : decode cX7_tune 89 = .ok (.iconst 0, 1) := by decide +kernel
theorem dX7_tune_90 : decode cX7_tune 90 = .ok (.putfield 127, 3) := by decide +kernel
theorem dX7_tune_93 : decode cX7_tune 93 = .ok (.iload_n 3, 1) := by decide +kernel
theorem dX7_tune_94 : decode cX7_tune 94 = .ok (.ifCond .ne 8, 3) := by decide +kernel
theorem dX7_tune_97 : decode cX7_tune 97 = .ok (.aload_n 0, 1) := by decide +kernel
theorem dX7_tune_98 : decode cX7_tune 98 = .ok (.getfield 140, 3) := by decide +kernel
theorem dX7_tune_101 : decode cX7_tune 101 = .ok (.ireturn, 1) := by decide +kernel
theorem dX7_tune_102 : decode cX7_tune 102 = .ok (.aload_n 0, 1) := by decide +kernel
theorem dX7_tune_103 : decode cX7_tune 103 = .ok (.getfield 52, 3) := by decide +kernel
theorem dX7_tune_106 : decode cX7_tune 106 = .ok (.iload_n 1, 1) := by decide +kernel
theorem dX7_tune_107 : decode cX7_tune 107 = .ok (.aload_n 0, 1) := by decide +kernel
theorem dX7_tune_108 : decode cX7_tune 108 = .ok (.getfield 156, 3) := by decide +kernel
theorem dX7_tune_111 : decode cX7_tune 111 = .ok (.iastore, 1) := by decide +kernel
theorem dX7_tune_112 : decode cX7_tune 112 = .ok (.aload_n 0, 1) := by decide +kernel
theorem dX7_tune_113 : decode cX7_tune 113 = .ok (.getfield 55, 3) := by decide +kernel
theorem dX7_tune_116 : decode cX7_tune 116 = .ok (.iload_n 1, 1) := by decide +kernel
theorem dX7_tune_117 : decode cX7_tune 117 = .ok (.aload_n 0, 1) := by decide +kernel
theorem dX7_tune_118 : decode cX7_tune 118 = .ok (.getfield 153, 3) := by decide +kernel
theorem dX7_tune_121 : decode cX7_tune 121 = .ok (.iastore, 1) := by decide +kernel
theorem dX7_tune_122 : decode cX7_tune 122 = .ok (.aload_n 0, 1) := by decide +kernel
theorem dX7_tune_123 : decode cX7_tune 123 = .ok (.getfield 58, 3) := by decide +kernel
theorem dX7_tune_126 : decode cX7_tune 126 = .ok (.iload_n 1, 1) := by decide +kernel
theorem dX7_tune_127 : decode cX7_tune 127 = .ok (.aload_n 0, 1) := by decide +kernel
theorem dX7_tune_128 : decode cX7_tune 128 = .ok (.getfield 166, 3) := by decide +kernel
theorem dX7_tune_131 : decode cX7_tune 131 = .ok (.iastore, 1) := by decide +kernel
theorem dX7_tune_132 : decode cX7_tune 132 = .ok (.iconst 0, 1) := by decide +kernel
theorem dX7_tune_133 : decode cX7_tune 133 = .ok (.istore 4, 2) := by decide +kernel
theorem dX7_tune_135 : decode cX7_tune 135 = .ok (.iload 4, 2) := by decide +kernel
theorem dX7_tune_137 : decode cX7_tune 137 = .ok (.aload_n 0, 1) := by decide +kernel
theorem dX7_tune_138 : decode cX7_tune 138 = .ok (.getfield 156, 3) := by decide +kernel
theorem dX7_tune_141 : decode cX7_tune 141 = .ok (.if_icmp .ge 28, 3) := by decide +kernel
theorem dX7_tune_144 : decode cX7_tune 144 = .ok (.aload_n 0, 1) := by decide +kernel
theorem dX7_tune_145 : decode cX7_tune 145 = .ok (.getfield 61, 3) := by decide +kernel
theorem dX7_tune_148 : decode cX7_tune 148 = .ok (.bipush 30, 2) := by decide +kernel
theorem dX7_tune_150 : decode cX7_tune 150 = .ok (.iload_n 1, 1) := by decide +kernel
theorem dX7_tune_151 : decode cX7_tune 151 = .ok (.imul, 1) := by decide +kernel
theorem dX7_tune_152 : decode cX7_tune 152 = .ok (.iload 4, 2) := by decide +kernel
theorem dX7_tune_154 : decode cX7_tune 154 = .ok (.iadd, 1) := by decide +kernel
theorem dX7_tune_155 : decode cX7_tune 155 = .ok (.aload_n 0, 1) := by decide +kernel
theorem dX7_tune_156 : decode cX7_tune 156 = .ok (.getfield 70, 3) := by decide +kernel
theorem dX7_tune_159 : decode cX7_tune 159 = .ok (.iload 4, 2) := by decide +kernel
theorem dX7_tune_161 : decode cX7_tune 161 = .ok (.iaload, 1) := by decide +kernel
theorem dX7_tune_162 : decode cX7_tune 162 = .ok (.iastore, 1) := by decide +kernel
theorem dX7_tune_163 : decode cX7_tune 163 = .ok (.iinc 4 1, 3) := by decide +kernel
theorem dX7_tune_166 : decode cX7_tune 166 = .ok (.goto (-31), 3) := by decide +kernel
theorem dX7_tune_169 : decode cX7_tune 169 = .ok (.iconst 0, 1) := by decide +kernel
theorem dX7_tune_170 : decode cX7_tune 170 = .ok (.istore 4, 2) := by decide +kernel
theorem dX7_tune_172 : decode cX7_tune 172 = .ok (.iload 4, 2) := by decide +kernel
theorem dX7_tune_174 : decode cX7_tune 174 = .ok (.aload_n 0, 1) := by decide +kernel
theorem dX7_tune_175 : decode cX7_tune 175 = .ok (.getfield 153, 3) := by decide +kernel
theorem dX7_tune_178 : decode cX7_tune 178 = .ok (.if_icmp .ge 47, 3) := by decide +kernel
theorem dX7_tune_181 : decode cX7_tune 181 = .ok (.aload_n 0, 1) := by decide +kernel
theorem dX7_tune_182 : decode cX7_tune 182 = .ok (.getfield 64, 3) := by decide +kernel
theorem dX7_tune_185 : decode cX7_tune 185 = .ok (.bipush 32, 2) := by decide +kernel
theorem dX7_tune_187 : decode cX7_tune 187 = .ok (.iload_n 1, 1) := by decide +kernel
theorem dX7_tune_188 : decode cX7_tune 188 = .ok (.imul, 1) := by decide +kernel
theorem dX7_tune_189 : decode cX7_tune 189 = .ok (.iload 4, 2) := by decide +kernel
theorem dX7_tune_191 : decode cX7_tune 191 = .ok (.iadd, 1) := by decide +kernel
theorem dX7_tune_192 : decode cX7_tune 192 = .ok (.aload_n 0, 1) := by decide +kernel
theorem dX7_tune_193 : decode cX7_tune 193 = .ok (.getfield 73, 3) := by decide +kernel
theorem dX7_tune_196 : decode cX7_tune 196 = .ok (.iload 4, 2) := by decide +kernel
theorem dX7_tune_198 : decode cX7_tune 198 = .ok (.iaload, 1) := by decide +kernel
theorem dX7_tune_199 : decode cX7_tune 199 = .ok (.iastore, 1) := by decide +kernel
theorem dX7_tune_200 : decode cX7_tune 200 = .ok (.aload_n 0, 1) := by decide +kernel
theorem dX7_tune_201 : decode cX7_tune 201 = .ok (.getfield 67, 3) := by decide +kernel
theorem dX7_tune_204 : decode cX7_tune 204 = .ok (.bipush 32, 2) := by decide +kernel
theorem dX7_tune_206 : decode cX7_tune 206 = .ok (.iload_n 1, 1) := by decide +kernel
theorem dX7_tune_207 : decode cX7_tune 207 = .ok (.imul, 1) := by decide +kernel
theorem dX7_tune_208 : decode cX7_tune 208 = .ok (.iload 4, 2) := by decide +kernel
theorem dX7_tune_210 : decode cX7_tune 210 = .ok (.iadd, 1) := by decide +kernel
theorem dX7_tune_211 : decode cX7_tune 211 = .ok (.aload_n 0, 1) := by decide +kernel
theorem dX7_tune_212 : decode cX7_tune 212 = .ok (.getfield 76, 3) := by decide +kernel
theorem dX7_tune_215 : decode cX7_tune 215 = .ok (.iload 4, 2) := by decide +kernel
theorem dX7_tune_217 : decode cX7_tune 217 = .ok (.iaload, 1) := by decide +kernel
theorem dX7_tune_218 : decode cX7_tune 218 = .ok (.iastore, 1) := by decide +kernel
theorem dX7_tune_219 : decode cX7_tune 219 = .ok (.iinc 4 1, 3) := by decide +kernel
theorem dX7_tune_222 : decode cX7_tune 222 = .ok (.goto (-50), 3) := by decide +kernel
theorem dX7_tune_225 : decode cX7_tune 225 = .ok (.iconst 0, 1) := by decide +kernel
theorem dX7_tune_226 : decode cX7_tune 226 = .ok (.ireturn, 1) := by decide +kernel
theorem dX7_isTune_0 : decode cX7_isTune 0 = .ok (.iload_n 1, 1) := by decide +kernel
theorem dX7_isTune_1 : decode cX7_isTune 1 = .ok (.ifCond .lt 22, 3) := by decide +kernel
theorem dX7_isTune_4 : decode cX7_isTune 4 = .ok (.iload_n 1, 1) := by decide +kernel
theorem dX7_isTune_5 : decode cX7_isTune 5 = .ok (.bipush 6, 2) := by decide +kernel
theorem dX7_isTune_7 : decode cX7_isTune 7 = .ok (.if_icmp .ge 16, 3) := by decide +kernel
theorem dX7_isTune_10 : decode cX7_isTune 10 = .ok (.aload_n 0, 1) := by decide +kernel
theorem dX7_isTune_11 : decode cX7_isTune 11 = .ok (.getfield 52, 3) := by decide +kernel
theorem dX7_isTune_14 : decode cX7_isTune 14 = .ok (.iload_n 1, 1) := by decide +kernel
theorem dX7_isTune_15 : decode cX7_isTune 15 = .ok (.iaload, 1) := by decide +kernel
theorem dX7_isTune_16 : decode cX7_isTune 16 = .ok (.ifCond .le 7, 3) := by decide +kernel
theorem dX7_isTune_19 : decode cX7_isTune 19 = .ok (.iconst 1, 1) := by decide +kernel
theorem dX7_isTune_20 : decode cX7_isTune 20 = .ok (.goto 4, 3) := by decide +kernel
theorem dX7_isTune_23 : decode cX7_isTune 23 = .ok (.iconst 0, 1) := by decide +kernel
theorem dX7_isTune_24 : decode cX7_isTune 24 = .ok (.ireturn, 1) := by decide +kernel
theorem dX7_isGood_0 : decode cX7_isGood 0 = .ok (.bipush 32, 2) := by decide +kernel
theorem dX7_isGood_2 : decode cX7_isGood 2 = .ok (.iload_n 1, 1) := by decide +kernel
theorem dX7_isGood_3 : decode cX7_isGood 3 = .ok (.imul, 1) := by decide +kernel
theorem dX7_isGood_4 : decode cX7_isGood 4 = .ok (.istore_n 3, 1) := by decide +kernel
theorem dX7_isGood_5 : decode cX7_isGood 5 = .ok (.iload_n 3, 1) := by decide +kernel
theorem dX7_isGood_6 : decode cX7_isGood 6 = .ok (.bipush 32, 2) := by decide +kernel
theorem dX7_isGood_8 : decode cX7_isGood 8 = .ok (.iload_n 1, 1) := by decide +kernel
theorem dX7_isGood_9 : decode cX7_isGood 9 = .ok (.imul, 1) := by decide +kernel
theorem dX7_isGood_10 : decode cX7_isGood 10 = .ok (.aload_n 0, 1) := by decide +kernel
theorem dX7_isGood_11 : decode cX7_isGood 11 = .ok (.getfield 55, 3) := by decide +kernel
theorem dX7_isGood_14 : decode cX7_isGood 14 = .ok (.iload_n 1, 1) := by decide +kernel
theorem dX7_isGood_15 : decode cX7_isGood 15 = .ok (.iaload, 1) := by decide +kernel
theorem dX7_isGood_16 : decode cX7_isGood 16 = .ok (.iadd, 1) := by decide +kernel
theorem dX7_isGood_17 : decode cX7_isGood 17 = .ok (.if_icmp .ge 41, 3) := by decide +kernel
theorem dX7_isGood_20 : decode cX7_isGood 20 = .ok (.aload_n 0, 1) := by decide +kernel
theorem dX7_isGood_21 : decode cX7_isGood 21 = .ok (.aload_n 0, 1) := by decide +kernel
theorem dX7_isGood_22 : decode cX7_isGood 22 = .ok (.getfield 67, 3) := by decide +kernel
theorem dX7_isGood_25 : decode cX7_isGood 25 = .ok (.iload_n 3, 1) := by decide +kernel
theorem dX7_isGood_26 : decode cX7_isGood 26 = .ok (.iaload, 1) := by decide +kernel
theorem dX7_isGood_27 : decode cX7_isGood 27 = .ok (.iload_n 2, 1) := by decide +kernel
theorem dX7_isGood_28 : decode cX7_isGood 28 = .ok (.iadd, 1) := by decide +kernel
theorem dX7_isGood_29 : decode cX7_isGood 29 = .ok (.invokevirtual 101, 3) := by decide +kernel
theorem dX7_isGood_32 : decode cX7_isGood 32 = .ok (.istore 4, 2) := by decide +kernel
theorem dX7_isGood_34 : decode cX7_isGood 34 = .ok (.iload 4, 2) := by decide +kernel
theorem dX7_isGood_36 : decode cX7_isGood 36 = .ok (.iconst (-1), 1) := by decide +kernel
theorem dX7_isGood_37 : decode cX7_isGood 37 = .ok (.if_icmp .eq 13, 3) := by decide +kernel
theorem dX7_isGood_40 : decode cX7_isGood 40 = .ok (.aload_n 0, 1) := by decide +kernel
theorem dX7_isGood_41 : decode cX7_isGood 41 = .ok (.getfield 38, 3) := by decide +kernel
theorem dX7_isGood_44 : decode cX7_isGood 44 = .ok (.iload 4, 2) := by decide +kernel
theorem dX7_isGood_46 : decode cX7_isGood 46 = .ok (.baload, 1) := by decide +kernel
theorem dX7_isGood_47 : decode cX7_isGood 47 = .ok (.ifCond .eq 5, 3) := by decide +kernel
theorem dX7_isGood_50 : decode cX7_isGood 50 = .ok (.iconst 0, 1) := by decide +kernel
theorem dX7_isGood_51 : decode cX7_isGood 51 = .ok (.ireturn, 1) := by decide +kernel
theorem dX7_isGood_52 : decode cX7_isGood 52 = .ok (.iinc 3 1, 3) := by decide +kernel
theorem dX7_isGood_55 : decode cX7_isGood 55 = .ok (.goto (-50), 3) := by decide +kernel
theorem dX7_isGood_58 : decode cX7_isGood 58 = .ok (.iconst 1, 1) := by decide +kernel
theorem dX7_isGood_59 : decode cX7_isGood 59 = .ok (.ireturn, 1) := by decide +kernel
theorem dX7_shift_0 : decode cX7_shift 0 = .ok (.aload_n 0, 1) := by decide +kernel
theorem dX7_shift_1 : decode cX7_shift 1 = .ok (.iload_n 1, 1) := by decide +kernel
theorem dX7_shift_2 : decode cX7_shift 2 = .ok (.invokevirtual 172, 3) := by decide +kernel
theorem dX7_shift_5 : decode cX7_shift 5 = .ok (.ifCond .ne 6, 3) := by decide +kernel
theorem dX7_shift_8 : decode cX7_shift 8 = .ok (.bipush (-101), 2) := by decide +kernel
theorem dX7_shift_10 : decode cX7_shift 10 = .ok (.ireturn, 1) := by decide +kernel
theorem dX7_shift_11 : decode cX7_shift 11 = .ok (.iconst 0, 1) := by decide +kernel
theorem dX7_shift_12 : decode cX7_shift 12 = .ok (.istore_n 2, 1) := by decide +kernel
theorem dX7_shift_13 : decode cX7_shift 13 = .ok (.iload_n 2, 1) := by decide +kernel
theorem dX7_shift_14 : decode cX7_shift 14 = .ok (.bipush 24, 2) := by decide +kernel
theorem dX7_shift_16 : decode cX7_shift 16 = .ok (.if_icmp .gt 33, 3) := by decide +kernel
theorem dX7_shift_19 : decode cX7_shift 19 = .ok (.aload_n 0, 1) := by decide +kernel
theorem dX7_shift_20 : decode cX7_shift 20 = .ok (.iload_n 1, 1) := by decide +kernel
theorem dX7_shift_21 : decode cX7_shift 21 = .ok (.iload_n 2, 1) := by decide +kernel
theorem dX7_shift_22 : decode cX7_shift 22 = .ok (.invokevirtual 175, 3) := by decide +kernel
theorem dX7_shift_25 : decode cX7_shift 25 = .ok (.ifCond .eq 5, 3) := by decide +kernel
theorem dX7_shift_28 : decode cX7_shift 28 = .ok (.iload_n 2, 1) := by decide +kernel
theorem dX7_shift_29 : decode cX7_shift 29 = .ok (.ireturn, 1) := by decide +kernel
theorem dX7_shift_30 : decode cX7_shift 30 = .ok (.aload_n 0, 1) := by decide +kernel
theorem dX7_shift_31 : decode cX7_shift 31 = .ok (.iload_n 1, 1) := by decide +kernel
theorem dX7_shift_32 : decode cX7_shift 32 = .ok (.iload_n 2, 1) := by decide +kernel
theorem dX7_shift_33 : decode cX7_shift 33 = .ok (.ineg, 1) := by decide +kernel
theorem dX7_shift_34 : decode cX7_shift 34 = .ok (.invokevirtual 175, 3) := by decide +kernel
theorem dX7_shift_37 : decode cX7_shift 37 = .ok (.ifCond .eq 6, 3) := by decide +kernel
theorem dX7_shift_40 : decode cX7_shift 40 = .ok (.iload_n 2, 1) := by decide +kernel
theorem dX7_shift_41 : decode cX7_shift 41 = .ok (.ineg, 1) := by decide +kernel
theorem dX7_shift_42 : decode cX7_shift 42 = .ok (.ireturn, 1) := by decide +kernel
theorem dX7_shift_43 : decode cX7_shift 43 = .ok (.iinc 2 1, 3) := by decide +kernel
theorem dX7_shift_46 : decode cX7_shift 46 = .ok (.goto (-33), 3) := by decide +kernel
theorem dX7_shift_49 : decode cX7_shift 49 = .ok (.bipush (-100), 2) := by decide +kernel
theorem dX7_shift_51 : decode cX7_shift 51 = .ok (.ireturn, 1) := by decide +kernel
theorem dX7_holeOf_0 : decode cX7_holeOf 0 = .ok (.iload_n 2, 1) := by decide +kernel
theorem dX7_holeOf_1 : decode cX7_holeOf 1 = .ok (.aload_n 0, 1) := by decide +kernel
theorem dX7_holeOf_2 : decode cX7_holeOf 2 = .ok (.getfield 61, 3) := by decide +kernel
theorem dX7_holeOf_5 : decode cX7_holeOf 5 = .ok (.bipush 30, 2) := by decide +kernel
theorem dX7_holeOf_7 : decode cX7_holeOf 7 = .ok (.iload_n 1, 1) := by decide +kernel
theorem dX7_holeOf_8 : decode cX7_holeOf 8 = .ok (.imul, 1) := by decide +kernel
theorem dX7_holeOf_9 : decode cX7_holeOf 9 = .ok (.iload_n 3, 1) := by decide +kernel
theorem dX7_holeOf_10 : decode cX7_holeOf 10 = .ok (.iadd, 1) := by decide +kernel
theorem dX7_holeOf_11 : decode cX7_holeOf 11 = .ok (.iaload, 1) := by decide +kernel
theorem dX7_holeOf_12 : decode cX7_holeOf 12 = .ok (.iadd, 1) := by decide +kernel
theorem dX7_holeOf_13 : decode cX7_holeOf 13 = .ok (.aload_n 0, 1) := by decide +kernel
theorem dX7_holeOf_14 : decode cX7_holeOf 14 = .ok (.getfield 7, 3) := by decide +kernel
theorem dX7_holeOf_17 : decode cX7_holeOf 17 = .ok (.irem, 1) := by decide +kernel
theorem dX7_holeOf_18 : decode cX7_holeOf 18 = .ok (.ireturn, 1) := by decide +kernel
theorem dX7_finds_0 : decode cX7_finds 0 = .ok (.aload_n 0, 1) := by decide +kernel
theorem dX7_finds_1 : decode cX7_finds 1 = .ok (.iconst 0, 1) := by decide +kernel
theorem dX7_finds_2 : decode cX7_finds 2 = .ok (.putfield 178, 3) := by decide +kernel
theorem dX7_finds_5 : decode cX7_finds 5 = .ok (.bipush 32, 2) := by decide +kernel
theorem dX7_finds_7 : decode cX7_finds 7 = .ok (.iload_n 1, 1) := by decide +kernel
theorem dX7_finds_8 : decode cX7_finds 8 = .ok (.imul, 1) := by decide +kernel
theorem dX7_finds_9 : decode cX7_finds 9 = .ok (.istore 5, 2) := by decide +kernel
theorem dX7_finds_11 : decode cX7_finds 11 = .ok (.iload 5, 2) := by decide +kernel
theorem dX7_finds_13 : decode cX7_finds 13 = .ok (.bipush 32, 2) := by decide +kernel
theorem dX7_finds_15 : decode cX7_finds 15 = .ok (.iload_n 1, 1) := by decide +kernel
theorem dX7_finds_16 : decode cX7_finds 16 = .ok (.imul, 1) := by decide +kernel
theorem dX7_finds_17 : decode cX7_finds 17 = .ok (.aload_n 0, 1) := by decide +kernel
theorem dX7_finds_18 : decode cX7_finds 18 = .ok (.getfield 55, 3) := by decide +kernel
theorem dX7_finds_21 : decode cX7_finds 21 = .ok (.iload_n 1, 1) := by decide +kernel
theorem dX7_finds_22 : decode cX7_finds 22 = .ok (.iaload, 1) := by decide +kernel
theorem dX7_finds_23 : decode cX7_finds 23 = .ok (.iadd, 1) := by decide +kernel
theorem dX7_finds_24 : decode cX7_finds 24 = .ok (.if_icmp .ge 63, 3) := by decide +kernel
theorem dX7_finds_27 : decode cX7_finds 27 = .ok (.aload_n 0, 1) := by decide +kernel
theorem dX7_finds_28 : decode cX7_finds 28 = .ok (.getfield 67, 3) := by decide +kernel
theorem dX7_finds_31 : decode cX7_finds 31 = .ok (.iload 5, 2) := by decide +kernel
theorem dX7_finds_33 : decode cX7_finds 33 = .ok (.iaload, 1) := by decide +kernel
theorem dX7_finds_34 : decode cX7_finds 34 = .ok (.iload 4, 2) := by decide +kernel
theorem dX7_finds_36 : decode cX7_finds 36 = .ok (.iadd, 1) := by decide +kernel
theorem dX7_finds_37 : decode cX7_finds 37 = .ok (.aload_n 0, 1) := by decide +kernel
theorem dX7_finds_38 : decode cX7_finds 38 = .ok (.getfield 22, 3) := by decide +kernel
theorem dX7_finds_41 : decode cX7_finds 41 = .ok (.iload_n 3, 1) := by decide +kernel
theorem dX7_finds_42 : decode cX7_finds 42 = .ok (.iaload, 1) := by decide +kernel
theorem dX7_finds_43 : decode cX7_finds 43 = .ok (.if_icmp .eq 6, 3) := by decide +kernel
theorem dX7_finds_46 : decode cX7_finds 46 = .ok (.goto 35, 3) := by decide +kernel
theorem dX7_finds_49 : decode cX7_finds 49 = .ok (.aload_n 0, 1) := by decide +kernel
theorem dX7_finds_50 : decode cX7_finds 50 = .ok (.getfield 82, 3) := by decide +kernel
theorem dX7_finds_53 : decode cX7_finds 53 = .ok (.aload_n 0, 1) := by decide +kernel
theorem dX7_finds_54 : decode cX7_finds 54 = .ok (.getfield 178, 3) := by decide +kernel
theorem dX7_finds_57 : decode cX7_finds 57 = .ok (.aload_n 0, 1) := by decide +kernel
theorem dX7_finds_58 : decode cX7_finds 58 = .ok (.iload_n 1, 1) := by decide +kernel
theorem dX7_finds_59 : decode cX7_finds 59 = .ok (.iload_n 2, 1) := by decide +kernel
theorem dX7_finds_60 : decode cX7_finds 60 = .ok (.aload_n 0, 1) := by decide +kernel
theorem dX7_finds_61 : decode cX7_finds 61 = .ok (.getfield 64, 3) := by decide +kernel
theorem dX7_finds_64 : decode cX7_finds 64 = .ok (.iload 5, 2) := by decide +kernel
theorem dX7_finds_66 : decode cX7_finds 66 = .ok (.iaload, 1) := by decide +kernel
theorem dX7_finds_67 : decode cX7_finds 67 = .ok (.invokevirtual 181, 3) := by decide +kernel
theorem dX7_finds_70 : decode cX7_finds 70 = .ok (.iastore, 1) := by decide +kernel
theorem dX7_finds_71 : decode cX7_finds 71 = .ok (.aload_n 0, 1) := by decide +kernel
theorem dX7_finds_72 : decode cX7_finds 72 = .ok (.aload_n 0, 1) := by decide +kernel
theorem dX7_finds_73 : decode cX7_finds 73 = .ok (.getfield 178, 3) := by decide +kernel
theorem dX7_finds_76 : decode cX7_finds 76 = .ok (.iconst 1, 1) := by decide +kernel
theorem dX7_finds_77 : decode cX7_finds 77 = .ok (.iadd, 1) := by decide +kernel
theorem dX7_finds_78 : decode cX7_finds 78 = .ok (.putfield 178, 3) := by decide +kernel
theorem dX7_finds_81 : decode cX7_finds 81 = .ok (.iinc 5 1, 3) := by decide +kernel
theorem dX7_finds_84 : decode cX7_finds 84 = .ok (.goto (-73), 3) := by decide +kernel
theorem dX7_finds_87 : decode cX7_finds 87 = .ok (.return_, 1) := by decide +kernel
theorem dX7_areApart_0 : decode cX7_areApart 0 = .ok (.iconst 0, 1) := by decide +kernel
theorem dX7_areApart_1 : decode cX7_areApart 1 = .ok (.istore_n 1, 1) := by decide +kernel
theorem dX7_areApart_2 : decode cX7_areApart 2 = .ok (.iload_n 1, 1) := by decide +kernel
theorem dX7_areApart_3 : decode cX7_areApart 3 = .ok (.aload_n 0, 1) := by decide +kernel
theorem dX7_areApart_4 : decode cX7_areApart 4 = .ok (.getfield 178, 3) := by decide +kernel
theorem dX7_areApart_7 : decode cX7_areApart 7 = .ok (.if_icmp .ge 62, 3) := by decide +kernel
theorem dX7_areApart_10 : decode cX7_areApart 10 = .ok (.iconst 0, 1) := by decide +kernel
theorem dX7_areApart_11 : decode cX7_areApart 11 = .ok (.istore_n 2, 1) := by decide +kernel
theorem dX7_areApart_12 : decode cX7_areApart 12 = .ok (.iload_n 2, 1) := by decide +kernel
theorem dX7_areApart_13 : decode cX7_areApart 13 = .ok (.iload_n 1, 1) := by decide +kernel
theorem dX7_areApart_14 : decode cX7_areApart 14 = .ok (.if_icmp .ge 49, 3) := by decide +kernel
theorem dX7_areApart_17 : decode cX7_areApart 17 = .ok (.aload_n 0, 1) := by decide +kernel
theorem dX7_areApart_18 : decode cX7_areApart 18 = .ok (.getfield 85, 3) := by decide +kernel
theorem dX7_areApart_21 : decode cX7_areApart 21 = .ok (.iload_n 1, 1) := by decide +kernel
theorem dX7_areApart_22 : decode cX7_areApart 22 = .ok (.iaload, 1) := by decide +kernel
theorem dX7_areApart_23 : decode cX7_areApart 23 = .ok (.aload_n 0, 1) := by decide +kernel
theorem dX7_areApart_24 : decode cX7_areApart 24 = .ok (.getfield 85, 3) := by decide +kernel
theorem dX7_areApart_27 : decode cX7_areApart 27 = .ok (.iload_n 2, 1) := by decide +kernel
theorem dX7_areApart_28 : decode cX7_areApart 28 = .ok (.iaload, 1) := by decide +kernel
theorem dX7_areApart_29 : decode cX7_areApart 29 = .ok (.if_icmp .ne 28, 3) := by decide +kernel
theorem dX7_areApart_32 : decode cX7_areApart 32 = .ok (.aload_n 0, 1) := by decide +kernel
theorem dX7_areApart_33 : decode cX7_areApart 33 = .ok (.aload_n 0, 1) := by decide +kernel
theorem dX7_areApart_34 : decode cX7_areApart 34 = .ok (.getfield 82, 3) := by decide +kernel
theorem dX7_areApart_37 : decode cX7_areApart 37 = .ok (.iload_n 1, 1) := by decide +kernel
theorem dX7_areApart_38 : decode cX7_areApart 38 = .ok (.iaload, 1) := by decide +kernel
theorem dX7_areApart_39 : decode cX7_areApart 39 = .ok (.aload_n 0, 1) := by decide +kernel
theorem dX7_areApart_40 : decode cX7_areApart 40 = .ok (.getfield 82, 3) := by decide +kernel
theorem dX7_areApart_43 : decode cX7_areApart 43 = .ok (.iload_n 2, 1) := by decide +kernel
theorem dX7_areApart_44 : decode cX7_areApart 44 = .ok (.iaload, 1) := by decide +kernel
theorem dX7_areApart_45 : decode cX7_areApart 45 = .ok (.invokevirtual 119, 3) := by decide +kernel
theorem dX7_areApart_48 : decode cX7_areApart 48 = .ok (.aload_n 0, 1) := by decide +kernel
theorem dX7_areApart_49 : decode cX7_areApart 49 = .ok (.getfield 13, 3) := by decide +kernel
theorem dX7_areApart_52 : decode cX7_areApart 52 = .ok (.if_icmp .ge 5, 3) := by decide +kernel
theorem dX7_areApart_55 : decode cX7_areApart 55 = .ok (.iconst 0, 1) := by decide +kernel
theorem dX7_areApart_56 : decode cX7_areApart 56 = .ok (.ireturn, 1) := by decide +kernel
theorem dX7_areApart_57 : decode cX7_areApart 57 = .ok (.iinc 2 1, 3) := by decide +kernel
theorem dX7_areApart_60 : decode cX7_areApart 60 = .ok (.goto (-48), 3) := by decide +kernel
theorem dX7_areApart_63 : decode cX7_areApart 63 = .ok (.iinc 1 1, 3) := by decide +kernel
theorem dX7_areApart_66 : decode cX7_areApart 66 = .ok (.goto (-64), 3) := by decide +kernel
theorem dX7_areApart_69 : decode cX7_areApart 69 = .ok (.iconst 1, 1) := by decide +kernel
theorem dX7_areApart_70 : decode cX7_areApart 70 = .ok (.ireturn, 1) := by decide +kernel
theorem dX7_chooses_0 : decode cX7_chooses 0 = .ok (.aload_n 0, 1) := by decide +kernel
theorem dX7_chooses_1 : decode cX7_chooses 1 = .ok (.iconst (-1), 1) := by decide +kernel
theorem dX7_chooses_2 : decode cX7_chooses 2 = .ok (.putfield 185, 3) := by decide +kernel
theorem dX7_chooses_5 : decode cX7_chooses 5 = .ok (.iconst 1, 1) := by decide +kernel
theorem dX7_chooses_6 : decode cX7_chooses 6 = .ok (.istore_n 2, 1) := by decide +kernel
theorem dX7_chooses_7 : decode cX7_chooses 7 = .ok (.iconst 0, 1) := by decide +kernel
theorem dX7_chooses_8 : decode cX7_chooses 8 = .ok (.istore_n 3, 1) := by decide +kernel
theorem dX7_chooses_9 : decode cX7_chooses 9 = .ok (.iload_n 3, 1) := by decide +kernel
theorem dX7_chooses_10 : decode cX7_chooses 10 = .ok (.aload_n 0, 1) := by decide +kernel
theorem dX7_chooses_11 : decode cX7_chooses 11 = .ok (.getfield 178, 3) := by decide +kernel
theorem dX7_chooses_14 : decode cX7_chooses 14 = .ok (.if_icmp .ge 18, 3) := by decide +kernel
theorem dX7_chooses_17 : decode cX7_chooses 17 = .ok (.iload_n 2, 1) := by decide +kernel
theorem dX7_chooses_18 : decode cX7_chooses 18 = .ok (.aload_n 0, 1) := by decide +kernel
theorem dX7_chooses_19 : decode cX7_chooses 19 = .ok (.getfield 29, 3) := by decide +kernel
theorem dX7_chooses_22 : decode cX7_chooses 22 = .ok (.iload_n 1, 1) := by decide +kernel
theorem dX7_chooses_23 : decode cX7_chooses 23 = .ok (.iaload, 1) := by decide +kernel
theorem dX7_chooses_24 : decode cX7_chooses 24 = .ok (.imul, 1) := by decide +kernel
theorem dX7_chooses_25 : decode cX7_chooses 25 = .ok (.istore_n 2, 1) := by decide +kernel
theorem dX7_chooses_26 : decode cX7_chooses 26 = .ok (.iinc 3 1, 3) := by decide +kernel
theorem dX7_chooses_29 : decode cX7_chooses 29 = .ok (.goto (-20), 3) := by decide +kernel
theorem dX7_chooses_32 : decode cX7_chooses 32 = .ok (.iconst 0, 1) := by decide +kernel
theorem dX7_chooses_33 : decode cX7_chooses 33 = .ok (.istore_n 3, 1) := by decide +kernel
theorem dX7_chooses_34 : decode cX7_chooses 34 = .ok (.iload_n 3, 1) := by decide +kernel
theorem dX7_chooses_35 : decode cX7_chooses 35 = .ok (.iload_n 2, 1) := by decide +kernel
theorem dX7_chooses_36 : decode cX7_chooses 36 = .ok (.if_icmp .ge 169, 3) := by decide +kernel
theorem dX7_chooses_39 : decode cX7_chooses 39 = .ok (.iload_n 3, 1) := by decide +kernel
theorem dX7_chooses_40 : decode cX7_chooses 40 = .ok (.istore 4, 2) := by decide +kernel
theorem dX7_chooses_42 : decode cX7_chooses 42 = .ok (.iconst 0, 1) := by decide +kernel
theorem dX7_chooses_43 : decode cX7_chooses 43 = .ok (.istore 5, 2) := by decide +kernel
theorem dX7_chooses_45 : decode cX7_chooses 45 = .ok (.aload_n 0, 1) := by decide +kernel
theorem dX7_chooses_46 : decode cX7_chooses 46 = .ok (.getfield 178, 3) := by decide +kernel
theorem dX7_chooses_49 : decode cX7_chooses 49 = .ok (.iconst 1, 1) := by decide +kernel
theorem dX7_chooses_50 : decode cX7_chooses 50 = .ok (.isub, 1) := by decide +kernel
theorem dX7_chooses_51 : decode cX7_chooses 51 = .ok (.istore 6, 2) := by decide +kernel
theorem dX7_chooses_53 : decode cX7_chooses 53 = .ok (.iload 6, 2) := by decide +kernel
theorem dX7_chooses_55 : decode cX7_chooses 55 = .ok (.ifCond .lt 79, 3) := by decide +kernel
theorem dX7_chooses_58 : decode cX7_chooses 58 = .ok (.aload_n 0, 1) := by decide +kernel
theorem dX7_chooses_59 : decode cX7_chooses 59 = .ok (.getfield 85, 3) := by decide +kernel
theorem dX7_chooses_62 : decode cX7_chooses 62 = .ok (.iload 6, 2) := by decide +kernel
theorem dX7_chooses_64 : decode cX7_chooses 64 = .ok (.iload 4, 2) := by decide +kernel
theorem dX7_chooses_66 : decode cX7_chooses 66 = .ok (.aload_n 0, 1) := by decide +kernel
theorem dX7_chooses_67 : decode cX7_chooses 67 = .ok (.getfield 29, 3) := by decide +kernel
theorem dX7_chooses_70 : decode cX7_chooses 70 = .ok (.iload_n 1, 1) := by decide +kernel
theorem dX7_chooses_71 : decode cX7_chooses 71 = .ok (.iaload, 1) := by decide +kernel
theorem dX7_chooses_72 : decode cX7_chooses 72 = .ok (.irem, 1) := by decide +kernel
theorem dX7_chooses_73 : decode cX7_chooses 73 = .ok (.iastore, 1) := by decide +kernel
theorem dX7_chooses_74 : decode cX7_chooses 74 = .ok (.iload 4, 2) := by decide +kernel
theorem dX7_chooses_76 : decode cX7_chooses 76 = .ok (.aload_n 0, 1) := by decide +kernel
theorem dX7_chooses_77 : decode cX7_chooses 77 = .ok (.getfield 29, 3) := by decide +kernel
theorem dX7_chooses_80 : decode cX7_chooses 80 = .ok (.iload_n 1, 1) := by decide +kernel
theorem dX7_chooses_81 : decode cX7_chooses 81 = .ok (.iaload, 1) := by decide +kernel
theorem dX7_chooses_82 : decode cX7_chooses 82 = .ok (.idiv, 1) := by decide +kernel
theorem dX7_chooses_83 : decode cX7_chooses 83 = .ok (.istore 4, 2) := by decide +kernel
theorem dX7_chooses_85 : decode cX7_chooses 85 = .ok (.iload 5, 2) := by decide +kernel
theorem dX7_chooses_87 : decode cX7_chooses 87 = .ok (.aload_n 0, 1) := by decide +kernel
theorem dX7_chooses_88 : decode cX7_chooses 88 = .ok (.getfield 42, 3) := by decide +kernel
theorem dX7_chooses_91 : decode cX7_chooses 91 = .ok (.bipush 64, 2) := by decide +kernel
theorem dX7_chooses_93 : decode cX7_chooses 93 = .ok (.aload_n 0, 1) := by decide +kernel
theorem dX7_chooses_94 : decode cX7_chooses 94 = .ok (.getfield 32, 3) := by decide +kernel
theorem dX7_chooses_97 : decode cX7_chooses 97 = .ok (.iload_n 1, 1) := by decide +kernel
theorem dX7_chooses_98 : decode cX7_chooses 98 = .ok (.iaload, 1) := by decide +kernel
theorem dX7_chooses_99 : decode cX7_chooses 99 = .ok (.aload_n 0, 1) := by decide +kernel
theorem dX7_chooses_100 : decode cX7_chooses 100 = .ok (.getfield 85, 3) := by decide +kernel
theorem dX7_chooses_103 : decode cX7_chooses 103 = .ok (.iload 6, 2) := by decide +kernel
theorem dX7_chooses_105 : decode cX7_chooses 105 = .ok (.iaload, 1) := by decide +kernel
theorem dX7_chooses_106 : decode cX7_chooses 106 = .ok (.iadd, 1) := by decide +kernel
theorem dX7_chooses_107 : decode cX7_chooses 107 = .ok (.imul, 1) := by decide +kernel
theorem dX7_chooses_108 : decode cX7_chooses 108 = .ok (.aload_n 0, 1) := by decide +kernel
theorem dX7_chooses_109 : decode cX7_chooses 109 = .ok (.getfield 82, 3) := by decide +kernel
theorem dX7_chooses_112 : decode cX7_chooses 112 = .ok (.iload 6, 2) := by decide +kernel
theorem dX7_chooses_114 : decode cX7_chooses 114 = .ok (.iaload, 1) := by decide +kernel
theorem dX7_chooses_115 : decode cX7_chooses 115 = .ok (.iadd, 1) := by decide +kernel
theorem dX7_chooses_116 : decode cX7_chooses 116 = .ok (.baload, 1) := by decide +kernel
theorem dX7_chooses_117 : decode cX7_chooses 117 = .ok (.ifCond .eq 7, 3) := by decide +kernel
theorem dX7_chooses_120 : decode cX7_chooses 120 = .ok (.iconst 0, 1) := by decide +kernel
theorem dX7_chooses_121 : decode cX7_chooses 121 = .ok (.goto 4, 3) := by decide +kernel
theorem dX7_chooses_124 : decode cX7_chooses 124 = .ok (.iconst 1, 1) := by decide +kernel
theorem dX7_chooses_125 : decode cX7_chooses 125 = .ok (.iadd, 1) := by decide +kernel
theorem dX7_chooses_126 : decode cX7_chooses 126 = .ok (.istore 5, 2) := by decide +kernel
theorem dX7_chooses_128 : decode cX7_chooses 128 = .ok (.iinc 6 (-1), 3) := by decide +kernel
theorem dX7_chooses_131 : decode cX7_chooses 131 = .ok (.goto (-78), 3) := by decide +kernel
theorem dX7_chooses_134 : decode cX7_chooses 134 = .ok (.aload_n 0, 1) := by decide +kernel
theorem dX7_chooses_135 : decode cX7_chooses 135 = .ok (.getfield 185, 3) := by decide +kernel
theorem dX7_chooses_138 : decode cX7_chooses 138 = .ok (.iconst (-1), 1) := by decide +kernel
theorem dX7_chooses_139 : decode cX7_chooses 139 = .ok (.if_icmp .eq 12, 3) := by decide +kernel
theorem dX7_chooses_142 : decode cX7_chooses 142 = .ok (.iload 5, 2) := by decide +kernel
theorem dX7_chooses_144 : decode cX7_chooses 144 = .ok (.aload_n 0, 1) := by decide +kernel
theorem dX7_chooses_145 : decode cX7_chooses 145 = .ok (.getfield 185, 3) := by decide +kernel
theorem dX7_chooses_148 : decode cX7_chooses 148 = .ok (.if_icmp .ge 51, 3) := by decide +kernel
theorem dX7_chooses_151 : decode cX7_chooses 151 = .ok (.aload_n 0, 1) := by decide +kernel
theorem dX7_chooses_152 : decode cX7_chooses 152 = .ok (.invokevirtual 188, 3) := by decide +kernel
theorem dX7_chooses_155 : decode cX7_chooses 155 = .ok (.ifCond .ne 6, 3) := by decide +kernel
theorem dX7_chooses_158 : decode cX7_chooses 158 = .ok (.goto 41, 3) := by decide +kernel
theorem dX7_chooses_161 : decode cX7_chooses 161 = .ok (.aload_n 0, 1) := by decide +kernel
theorem dX7_chooses_162 : decode cX7_chooses 162 = .ok (.iload 5, 2) := by decide +kernel
theorem dX7_chooses_164 : decode cX7_chooses 164 = .ok (.putfield 185, 3) := by decide +kernel
theorem dX7_chooses_167 : decode cX7_chooses 167 = .ok (.iconst 0, 1) := by decide +kernel
theorem dX7_chooses_168 : decode cX7_chooses 168 = .ok (.istore 6, 2) := by decide +kernel
theorem dX7_chooses_170 : decode cX7_chooses 170 = .ok (.iload 6, 2) := by decide +kernel
theorem dX7_chooses_172 : decode cX7_chooses 172 = .ok (.aload_n 0, 1) := by decide +kernel
theorem dX7_chooses_173 : decode cX7_chooses 173 = .ok (.getfield 178, 3) := by decide +kernel
theorem dX7_chooses_176 : decode cX7_chooses 176 = .ok (.if_icmp .ge 23, 3) := by decide +kernel
theorem dX7_chooses_179 : decode cX7_chooses 179 = .ok (.aload_n 0, 1) := by decide +kernel
theorem dX7_chooses_180 : decode cX7_chooses 180 = .ok (.getfield 88, 3) := by decide +kernel
theorem dX7_chooses_183 : decode cX7_chooses 183 = .ok (.iload 6, 2) := by decide +kernel
theorem dX7_chooses_185 : decode cX7_chooses 185 = .ok (.aload_n 0, 1) := by decide +kernel
theorem dX7_chooses_186 : decode cX7_chooses 186 = .ok (.getfield 85, 3) := by decide +kernel
theorem dX7_chooses_189 : decode cX7_chooses 189 = .ok (.iload 6, 2) := by decide +kernel
theorem dX7_chooses_191 : decode cX7_chooses 191 = .ok (.iaload, 1) := by decide +kernel
theorem dX7_chooses_192 : decode cX7_chooses 192 = .ok (.iastore, 1) := by decide +kernel
theorem dX7_chooses_193 : decode cX7_chooses 193 = .ok (.iinc 6 1, 3) := by decide +kernel
theorem dX7_chooses_196 : decode cX7_chooses 196 = .ok (.goto (-26), 3) := by decide +kernel
theorem dX7_chooses_199 : decode cX7_chooses 199 = .ok (.iinc 3 1, 3) := by decide +kernel
theorem dX7_chooses_202 : decode cX7_chooses 202 = .ok (.goto (-168), 3) := by decide +kernel
theorem dX7_chooses_205 : decode cX7_chooses 205 = .ok (.aload_n 0, 1) := by decide +kernel
theorem dX7_chooses_206 : decode cX7_chooses 206 = .ok (.getfield 185, 3) := by decide +kernel
theorem dX7_chooses_209 : decode cX7_chooses 209 = .ok (.iconst (-1), 1) := by decide +kernel
theorem dX7_chooses_210 : decode cX7_chooses 210 = .ok (.if_icmp .eq 7, 3) := by decide +kernel
theorem dX7_chooses_213 : decode cX7_chooses 213 = .ok (.iconst 1, 1) := by decide +kernel
theorem dX7_chooses_214 : decode cX7_chooses 214 = .ok (.goto 4, 3) := by decide +kernel
theorem dX7_chooses_217 : decode cX7_chooses 217 = .ok (.iconst 0, 1) := by decide +kernel
theorem dX7_chooses_218 : decode cX7_chooses 218 = .ok (.ireturn, 1) := by decide +kernel
theorem dX7_isTooHeavy_0 : decode cX7_isTooHeavy 0 = .ok (.iconst 0, 1) := by decide +kernel
theorem dX7_isTooHeavy_1 : decode cX7_isTooHeavy 1 = .ok (.istore_n 3, 1) := by decide +kernel
theorem dX7_isTooHeavy_2 : decode cX7_isTooHeavy 2 = .ok (.iload_n 3, 1) := by decide +kernel
theorem dX7_isTooHeavy_3 : decode cX7_isTooHeavy 3 = .ok (.aload_n 0, 1) := by decide +kernel
theorem dX7_isTooHeavy_4 : decode cX7_isTooHeavy 4 = .ok (.getfield 52, 3) := by decide +kernel
theorem dX7_isTooHeavy_7 : decode cX7_isTooHeavy 7 = .ok (.iload_n 1, 1) := by decide +kernel
theorem dX7_isTooHeavy_8 : decode cX7_isTooHeavy 8 = .ok (.iaload, 1) := by decide +kernel
theorem dX7_isTooHeavy_9 : decode cX7_isTooHeavy 9 = .ok (.if_icmp .ge 89, 3) := by decide +kernel
theorem dX7_isTooHeavy_12 : decode cX7_isTooHeavy 12 = .ok (.iconst 0, 1) := by decide +kernel
theorem dX7_isTooHeavy_13 : decode cX7_isTooHeavy 13 = .ok (.istore 4, 2) := by decide +kernel
theorem dX7_isTooHeavy_15 : decode cX7_isTooHeavy 15 = .ok (.bipush 32, 2) := by decide +kernel
theorem dX7_isTooHeavy_17 : decode cX7_isTooHeavy 17 = .ok (.iload_n 1, 1) := by decide +kernel
theorem dX7_isTooHeavy_18 : decode cX7_isTooHeavy 18 = .ok (.imul, 1) := by decide +kernel
theorem dX7_isTooHeavy_19 : decode cX7_isTooHeavy 19 = .ok (.istore 5, 2) := by decide +kernel
theorem dX7_isTooHeavy_21 : decode cX7_isTooHeavy 21 = .ok (.iload 5, 2) := by decide +kernel
theorem dX7_isTooHeavy_23 : decode cX7_isTooHeavy 23 = .ok (.bipush 32, 2) := by decide +kernel
theorem dX7_isTooHeavy_25 : decode cX7_isTooHeavy 25 = .ok (.iload_n 1, 1) := by decide +kernel
theorem dX7_isTooHeavy_26 : decode cX7_isTooHeavy 26 = .ok (.imul, 1) := by decide +kernel
theorem dX7_isTooHeavy_27 : decode cX7_isTooHeavy 27 = .ok (.aload_n 0, 1) := by decide +kernel
theorem dX7_isTooHeavy_28 : decode cX7_isTooHeavy 28 = .ok (.getfield 55, 3) := by decide +kernel
theorem dX7_isTooHeavy_31 : decode cX7_isTooHeavy 31 = .ok (.iload_n 1, 1) := by decide +kernel
theorem dX7_isTooHeavy_32 : decode cX7_isTooHeavy 32 = .ok (.iaload, 1) := by decide +kernel
theorem dX7_isTooHeavy_33 : decode cX7_isTooHeavy 33 = .ok (.iadd, 1) := by decide +kernel
theorem dX7_isTooHeavy_34 : decode cX7_isTooHeavy 34 = .ok (.if_icmp .ge 47, 3) := by decide +kernel
theorem dX7_isTooHeavy_37 : decode cX7_isTooHeavy 37 = .ok (.iload 4, 2) := by decide +kernel
theorem dX7_isTooHeavy_39 : decode cX7_isTooHeavy 39 = .ok (.aload_n 0, 1) := by decide +kernel
theorem dX7_isTooHeavy_40 : decode cX7_isTooHeavy 40 = .ok (.getfield 64, 3) := by decide +kernel
theorem dX7_isTooHeavy_43 : decode cX7_isTooHeavy 43 = .ok (.iload 5, 2) := by decide +kernel
theorem dX7_isTooHeavy_45 : decode cX7_isTooHeavy 45 = .ok (.iaload, 1) := by decide +kernel
theorem dX7_isTooHeavy_46 : decode cX7_isTooHeavy 46 = .ok (.iload_n 3, 1) := by decide +kernel
theorem dX7_isTooHeavy_47 : decode cX7_isTooHeavy 47 = .ok (.if_icmp .ne 24, 3) := by decide +kernel
theorem dX7_isTooHeavy_50 : decode cX7_isTooHeavy 50 = .ok (.aload_n 0, 1) := by decide +kernel
theorem dX7_isTooHeavy_51 : decode cX7_isTooHeavy 51 = .ok (.getfield 26, 3) := by decide +kernel
theorem dX7_isTooHeavy_54 : decode cX7_isTooHeavy 54 = .ok (.aload_n 0, 1) := by decide +kernel
theorem dX7_isTooHeavy_55 : decode cX7_isTooHeavy 55 = .ok (.aload_n 0, 1) := by decide +kernel
theorem dX7_isTooHeavy_56 : decode cX7_isTooHeavy 56 = .ok (.getfield 67, 3) := by decide +kernel
theorem dX7_isTooHeavy_59 : decode cX7_isTooHeavy 59 = .ok (.iload 5, 2) := by decide +kernel
theorem dX7_isTooHeavy_61 : decode cX7_isTooHeavy 61 = .ok (.iaload, 1) := by decide +kernel
theorem dX7_isTooHeavy_62 : decode cX7_isTooHeavy 62 = .ok (.iload_n 2, 1) := by decide +kernel
theorem dX7_isTooHeavy_63 : decode cX7_isTooHeavy 63 = .ok (.iadd, 1) := by decide +kernel
theorem dX7_isTooHeavy_64 : decode cX7_isTooHeavy 64 = .ok (.invokevirtual 101, 3) := by decide +kernel
theorem dX7_isTooHeavy_67 : decode cX7_isTooHeavy 67 = .ok (.iaload, 1) := by decide +kernel
theorem dX7_isTooHeavy_68 : decode cX7_isTooHeavy 68 = .ok (.goto 4, 3) := by decide +kernel
theorem dX7_isTooHeavy_71 : decode cX7_isTooHeavy 71 = .ok (.iconst 0, 1) := by decide +kernel
theorem dX7_isTooHeavy_72 : decode cX7_isTooHeavy 72 = .ok (.iadd, 1) := by decide +kernel
theorem dX7_isTooHeavy_73 : decode cX7_isTooHeavy 73 = .ok (.istore 4, 2) := by decide +kernel
theorem dX7_isTooHeavy_75 : decode cX7_isTooHeavy 75 = .ok (.iinc 5 1, 3) := by decide +kernel
theorem dX7_isTooHeavy_78 : decode cX7_isTooHeavy 78 = .ok (.goto (-57), 3) := by decide +kernel
theorem dX7_isTooHeavy_81 : decode cX7_isTooHeavy 81 = .ok (.iload 4, 2) := by decide +kernel
theorem dX7_isTooHeavy_83 : decode cX7_isTooHeavy 83 = .ok (.aload_n 0, 1) := by decide +kernel
theorem dX7_isTooHeavy_84 : decode cX7_isTooHeavy 84 = .ok (.getfield 16, 3) := by decide +kernel
theorem dX7_isTooHeavy_87 : decode cX7_isTooHeavy 87 = .ok (.if_icmp .le 5, 3) := by decide +kernel
theorem dX7_isTooHeavy_90 : decode cX7_isTooHeavy 90 = .ok (.iconst 1, 1) := by decide +kernel
theorem dX7_isTooHeavy_91 : decode cX7_isTooHeavy 91 = .ok (.ireturn, 1) := by decide +kernel
theorem dX7_isTooHeavy_92 : decode cX7_isTooHeavy 92 = .ok (.iinc 3 1, 3) := by decide +kernel
theorem dX7_isTooHeavy_95 : decode cX7_isTooHeavy 95 = .ok (.goto (-93), 3) := by decide +kernel
theorem dX7_isTooHeavy_98 : decode cX7_isTooHeavy 98 = .ok (.iconst 0, 1) := by decide +kernel
theorem dX7_isTooHeavy_99 : decode cX7_isTooHeavy 99 = .ok (.ireturn, 1) := by decide +kernel
theorem dX7_isTooMany_0 : decode cX7_isTooMany 0 = .ok (.iconst 0, 1) := by decide +kernel
theorem dX7_isTooMany_1 : decode cX7_isTooMany 1 = .ok (.istore 4, 2) := by decide +kernel
theorem dX7_isTooMany_3 : decode cX7_isTooMany 3 = .ok (.iload 4, 2) := by decide +kernel
theorem dX7_isTooMany_5 : decode cX7_isTooMany 5 = .ok (.aload_n 0, 1) := by decide +kernel
theorem dX7_isTooMany_6 : decode cX7_isTooMany 6 = .ok (.getfield 98, 3) := by decide +kernel
theorem dX7_isTooMany_9 : decode cX7_isTooMany 9 = .ok (.if_icmp .ge 29, 3) := by decide +kernel
theorem dX7_isTooMany_12 : decode cX7_isTooMany 12 = .ok (.aload_n 0, 1) := by decide +kernel
theorem dX7_isTooMany_13 : decode cX7_isTooMany 13 = .ok (.iload_n 1, 1) := by decide +kernel
theorem dX7_isTooMany_14 : decode cX7_isTooMany 14 = .ok (.iload_n 2, 1) := by decide +kernel
theorem dX7_isTooMany_15 : decode cX7_isTooMany 15 = .ok (.iload 4, 2) := by decide +kernel
theorem dX7_isTooMany_17 : decode cX7_isTooMany 17 = .ok (.iload_n 3, 1) := by decide +kernel
theorem dX7_isTooMany_18 : decode cX7_isTooMany 18 = .ok (.invokevirtual 191, 3) := by decide +kernel
theorem dX7_isTooMany_21 : decode cX7_isTooMany 21 = .ok (.aload_n 0, 1) := by decide +kernel
theorem dX7_isTooMany_22 : decode cX7_isTooMany 22 = .ok (.getfield 178, 3) := by decide +kernel
theorem dX7_isTooMany_25 : decode cX7_isTooMany 25 = .ok (.bipush 12, 2) := by decide +kernel
theorem dX7_isTooMany_27 : decode cX7_isTooMany 27 = .ok (.if_icmp .le 5, 3) := by decide +kernel
theorem dX7_isTooMany_30 : decode cX7_isTooMany 30 = .ok (.iconst 1, 1) := by decide +kernel
theorem dX7_isTooMany_31 : decode cX7_isTooMany 31 = .ok (.ireturn, 1) := by decide +kernel
theorem dX7_isTooMany_32 : decode cX7_isTooMany 32 = .ok (.iinc 4 1, 3) := by decide +kernel
theorem dX7_isTooMany_35 : decode cX7_isTooMany 35 = .ok (.goto (-32), 3) := by decide +kernel
theorem dX7_isTooMany_38 : decode cX7_isTooMany 38 = .ok (.iconst 0, 1) := by decide +kernel
theorem dX7_isTooMany_39 : decode cX7_isTooMany 39 = .ok (.ireturn, 1) := by decide +kernel
theorem dX7_tries_0 : decode cX7_tries 0 = .ok (.aload_n 0, 1) := by decide +kernel
theorem dX7_tries_1 : decode cX7_tries 1 = .ok (.iload_n 1, 1) := by decide +kernel
theorem dX7_tries_2 : decode cX7_tries 2 = .ok (.invokevirtual 195, 3) := by decide +kernel
theorem dX7_tries_5 : decode cX7_tries 5 = .ok (.istore_n 3, 1) := by decide +kernel
theorem dX7_tries_6 : decode cX7_tries 6 = .ok (.iload_n 3, 1) := by decide +kernel
theorem dX7_tries_7 : decode cX7_tries 7 = .ok (.bipush (-100), 2) := by decide +kernel
theorem dX7_tries_9 : decode cX7_tries 9 = .ok (.if_icmp .ne 5, 3) := by decide +kernel
theorem dX7_tries_12 : decode cX7_tries 12 = .ok (.iconst 1, 1) := by decide +kernel
theorem dX7_tries_13 : decode cX7_tries 13 = .ok (.ireturn, 1) := by decide +kernel
theorem dX7_tries_14 : decode cX7_tries 14 = .ok (.aload_n 0, 1) := by decide +kernel
theorem dX7_tries_15 : decode cX7_tries 15 = .ok (.getfield 58, 3) := by decide +kernel
theorem dX7_tries_18 : decode cX7_tries 18 = .ok (.iload_n 1, 1) := by decide +kernel
theorem dX7_tries_19 : decode cX7_tries 19 = .ok (.iaload, 1) := by decide +kernel
theorem dX7_tries_20 : decode cX7_tries 20 = .ok (.aload_n 0, 1) := by decide +kernel
theorem dX7_tries_21 : decode cX7_tries 21 = .ok (.getfield 7, 3) := by decide +kernel
theorem dX7_tries_24 : decode cX7_tries 24 = .ok (.if_icmp .le 5, 3) := by decide +kernel
theorem dX7_tries_27 : decode cX7_tries 27 = .ok (.iconst 2, 1) := by decide +kernel
theorem dX7_tries_28 : decode cX7_tries 28 = .ok (.ireturn, 1) := by decide +kernel
theorem dX7_tries_29 : decode cX7_tries 29 = .ok (.aload_n 0, 1) := by decide +kernel
theorem dX7_tries_30 : decode cX7_tries 30 = .ok (.iload_n 1, 1) := by decide +kernel
theorem dX7_tries_31 : decode cX7_tries 31 = .ok (.iload_n 3, 1) := by decide +kernel
theorem dX7_tries_32 : decode cX7_tries 32 = .ok (.invokevirtual 198, 3) := by decide +kernel
theorem dX7_tries_35 : decode cX7_tries 35 = .ok (.ifCond .eq 5, 3) := by decide +kernel
theorem dX7_tries_38 : decode cX7_tries 38 = .ok (.iconst 3, 1) := by decide +kernel
theorem dX7_tries_39 : decode cX7_tries 39 = .ok (.ireturn, 1) := by decide +kernel
theorem dX7_tries_40 : decode cX7_tries 40 = .ok (.aload_n 0, 1) := by decide +kernel
theorem dX7_tries_41 : decode cX7_tries 41 = .ok (.iload_n 1, 1) := by decide +kernel
theorem dX7_tries_42 : decode cX7_tries 42 = .ok (.iload_n 2, 1) := by decide +kernel
theorem dX7_tries_43 : decode cX7_tries 43 = .ok (.iload_n 3, 1) := by decide +kernel
theorem dX7_tries_44 : decode cX7_tries 44 = .ok (.invokevirtual 201, 3) := by decide +kernel
theorem dX7_tries_47 : decode cX7_tries 47 = .ok (.ifCond .eq 5, 3) := by decide +kernel
theorem dX7_tries_50 : decode cX7_tries 50 = .ok (.iconst 4, 1) := by decide +kernel
theorem dX7_tries_51 : decode cX7_tries 51 = .ok (.ireturn, 1) := by decide +kernel
theorem dX7_tries_52 : decode cX7_tries 52 = .ok (.iconst 0, 1) := by decide +kernel
theorem dX7_tries_53 : decode cX7_tries 53 = .ok (.istore 4, 2) := by decide +kernel
theorem dX7_tries_55 : decode cX7_tries 55 = .ok (.iload 4, 2) := by decide +kernel
theorem dX7_tries_57 : decode cX7_tries 57 = .ok (.sipush 2304, 3) := by decide +kernel
theorem dX7_tries_60 : decode cX7_tries 60 = .ok (.if_icmp .ge 17, 3) := by decide +kernel
theorem dX7_tries_63 : decode cX7_tries 63 = .ok (.aload_n 0, 1) := by decide +kernel
theorem dX7_tries_64 : decode cX7_tries 64 = .ok (.getfield 79, 3) := by decide +kernel
theorem dX7_tries_67 : decode cX7_tries 67 = .ok (.iload 4, 2) := by decide +kernel
theorem dX7_tries_69 : decode cX7_tries 69 = .ok (.iconst 0, 1) := by decide +kernel
theorem dX7_tries_70 : decode cX7_tries 70 = .ok (.bastore, 1) := by decide +kernel
theorem dX7_tries_71 : decode cX7_tries 71 = .ok (.iinc 4 1, 3) := by decide +kernel
theorem dX7_tries_74 : decode cX7_tries 74 = .ok (.goto (-19), 3) := by decide +kernel
theorem dX7_tries_77 : decode cX7_tries 77 = .ok (.iconst 0, 1) := by decide +kernel
theorem dX7_tries_78 : decode cX7_tries 78 = .ok (.istore 4, 2) := by decide +kernel
theorem dX7_tries_80 : decode cX7_tries 80 = .ok (.iload 4, 2) := by decide +kernel
theorem dX7_tries_82 : decode cX7_tries 82 = .ok (.aload_n 0, 1) := by decide +kernel
theorem dX7_tries_83 : decode cX7_tries 83 = .ok (.getfield 98, 3) := by decide +kernel
theorem dX7_tries_86 : decode cX7_tries 86 = .ok (.if_icmp .ge 79, 3) := by decide +kernel
theorem dX7_tries_89 : decode cX7_tries 89 = .ok (.aload_n 0, 1) := by decide +kernel
theorem dX7_tries_90 : decode cX7_tries 90 = .ok (.iload_n 1, 1) := by decide +kernel
theorem dX7_tries_91 : decode cX7_tries 91 = .ok (.iload_n 2, 1) := by decide +kernel
theorem dX7_tries_92 : decode cX7_tries 92 = .ok (.iload 4, 2) := by decide +kernel
theorem dX7_tries_94 : decode cX7_tries 94 = .ok (.iload_n 3, 1) := by decide +kernel
theorem dX7_tries_95 : decode cX7_tries 95 = .ok (.invokevirtual 191, 3) := by decide +kernel
theorem dX7_tries_98 : decode cX7_tries 98 = .ok (.aload_n 0, 1) := by decide +kernel
theorem dX7_tries_99 : decode cX7_tries 99 = .ok (.iload 4, 2) := by decide +kernel
theorem dX7_tries_101 : decode cX7_tries 101 = .ok (.invokevirtual 204, 3) := by decide +kernel
theorem dX7_tries_104 : decode cX7_tries 104 = .ok (.ifCond .ne 5, 3) := by decide +kernel
theorem dX7_tries_107 : decode cX7_tries 107 = .ok (.iconst 5, 1) := by decide +kernel
theorem dX7_tries_108 : decode cX7_tries 108 = .ok (.ireturn, 1) := by decide +kernel
theorem dX7_tries_109 : decode cX7_tries 109 = .ok (.iconst 0, 1) := by decide +kernel
theorem dX7_tries_110 : decode cX7_tries 110 = .ok (.istore 5, 2) := by decide +kernel
theorem dX7_tries_112 : decode cX7_tries 112 = .ok (.iload 5, 2) := by decide +kernel
theorem dX7_tries_114 : decode cX7_tries 114 = .ok (.aload_n 0, 1) := by decide +kernel
theorem dX7_tries_115 : decode cX7_tries 115 = .ok (.getfield 178, 3) := by decide +kernel
theorem dX7_tries_118 : decode cX7_tries 118 = .ok (.if_icmp .ge 41, 3) := by decide +kernel
theorem dX7_tries_121 : decode cX7_tries 121 = .ok (.aload_n 0, 1) := by decide +kernel
theorem dX7_tries_122 : decode cX7_tries 122 = .ok (.getfield 79, 3) := by decide +kernel
theorem dX7_tries_125 : decode cX7_tries 125 = .ok (.bipush 64, 2) := by decide +kernel
theorem dX7_tries_127 : decode cX7_tries 127 = .ok (.aload_n 0, 1) := by decide +kernel
theorem dX7_tries_128 : decode cX7_tries 128 = .ok (.getfield 32, 3) := by decide +kernel
theorem dX7_tries_131 : decode cX7_tries 131 = .ok (.iload 4, 2) := by decide +kernel
theorem dX7_tries_133 : decode cX7_tries 133 = .ok (.iaload, 1) := by decide +kernel
theorem dX7_tries_134 : decode cX7_tries 134 = .ok (.aload_n 0, 1) := by decide +kernel
theorem dX7_tries_135 : decode cX7_tries 135 = .ok (.getfield 88, 3) := by decide +kernel
theorem dX7_tries_138 : decode cX7_tries 138 = .ok (.iload 5, 2) := by decide +kernel
theorem dX7_tries_140 : decode cX7_tries 140 = .ok (.iaload, 1) := by decide +kernel
theorem dX7_tries_141 : decode cX7_tries 141 = .ok (.iadd, 1) := by decide +kernel
theorem dX7_tries_142 : decode cX7_tries 142 = .ok (.imul, 1) := by decide +kernel
theorem dX7_tries_143 : decode cX7_tries 143 = .ok (.aload_n 0, 1) := by decide +kernel
theorem dX7_tries_144 : decode cX7_tries 144 = .ok (.getfield 82, 3) := by decide +kernel
theorem dX7_tries_147 : decode cX7_tries 147 = .ok (.iload 5, 2) := by decide +kernel
theorem dX7_tries_149 : decode cX7_tries 149 = .ok (.iaload, 1) := by decide +kernel
theorem dX7_tries_150 : decode cX7_tries 150 = .ok (.iadd, 1) := by decide +kernel
theorem dX7_tries_151 : decode cX7_tries 151 = .ok (.iconst 1, 1) := by decide +kernel
theorem dX7_tries_152 : decode cX7_tries 152 = .ok (.bastore, 1) := by decide +kernel
theorem dX7_tries_153 : decode cX7_tries 153 = .ok (.iinc 5 1, 3) := by decide +kernel
theorem dX7_tries_156 : decode cX7_tries 156 = .ok (.goto (-44), 3) := by decide +kernel
theorem dX7_tries_159 : decode cX7_tries 159 = .ok (.iinc 4 1, 3) := by decide +kernel
theorem dX7_tries_162 : decode cX7_tries 162 = .ok (.goto (-82), 3) := by decide +kernel
theorem dX7_tries_165 : decode cX7_tries 165 = .ok (.iconst 0, 1) := by decide +kernel
theorem dX7_tries_166 : decode cX7_tries 166 = .ok (.ireturn, 1) := by decide +kernel
theorem dX7_why_0 : decode cX7_why 0 = .ok (.aload_n 0, 1) := by decide +kernel
theorem dX7_why_1 : decode cX7_why 1 = .ok (.iload_n 1, 1) := by decide +kernel
theorem dX7_why_2 : decode cX7_why 2 = .ok (.invokevirtual 172, 3) := by decide +kernel
theorem dX7_why_5 : decode cX7_why 5 = .ok (.ifCond .eq 20, 3) := by decide +kernel
theorem dX7_why_8 : decode cX7_why 8 = .ok (.aload_n 0, 1) := by decide +kernel
theorem dX7_why_9 : decode cX7_why 9 = .ok (.iload_n 2, 1) := by decide +kernel
theorem dX7_why_10 : decode cX7_why 10 = .ok (.invokevirtual 112, 3) := by decide +kernel
theorem dX7_why_13 : decode cX7_why 13 = .ok (.ifCond .eq 12, 3) := by decide +kernel
theorem dX7_why_16 : decode cX7_why 16 = .ok (.aload_n 0, 1) := by decide +kernel
theorem dX7_why_17 : decode cX7_why 17 = .ok (.iload_n 1, 1) := by decide +kernel
theorem dX7_why_18 : decode cX7_why 18 = .ok (.iload_n 2, 1) := by decide +kernel
theorem dX7_why_19 : decode cX7_why 19 = .ok (.invokevirtual 207, 3) := by decide +kernel
theorem dX7_why_22 : decode cX7_why 22 = .ok (.goto 4, 3) := by decide +kernel
theorem dX7_why_25 : decode cX7_why 25 = .ok (.iconst (-1), 1) := by decide +kernel
theorem dX7_why_26 : decode cX7_why 26 = .ok (.ireturn, 1) := by decide +kernel
theorem dX7_moved_0 : decode cX7_moved 0 = .ok (.iconst 0, 1) := by decide +kernel
theorem dX7_moved_1 : decode cX7_moved 1 = .ok (.istore_n 1, 1) := by decide +kernel
theorem dX7_moved_2 : decode cX7_moved 2 = .ok (.iconst 0, 1) := by decide +kernel
theorem dX7_moved_3 : decode cX7_moved 3 = .ok (.istore_n 2, 1) := by decide +kernel
theorem dX7_moved_4 : decode cX7_moved 4 = .ok (.iload_n 2, 1) := by decide +kernel
theorem dX7_moved_5 : decode cX7_moved 5 = .ok (.sipush 2304, 3) := by decide +kernel
theorem dX7_moved_8 : decode cX7_moved 8 = .ok (.if_icmp .ge 32, 3) := by decide +kernel
theorem dX7_moved_11 : decode cX7_moved 11 = .ok (.iload_n 1, 1) := by decide +kernel
theorem dX7_moved_12 : decode cX7_moved 12 = .ok (.aload_n 0, 1) := by decide +kernel
theorem dX7_moved_13 : decode cX7_moved 13 = .ok (.getfield 79, 3) := by decide +kernel
theorem dX7_moved_16 : decode cX7_moved 16 = .ok (.iload_n 2, 1) := by decide +kernel
theorem dX7_moved_17 : decode cX7_moved 17 = .ok (.baload, 1) := by decide +kernel
theorem dX7_moved_18 : decode cX7_moved 18 = .ok (.aload_n 0, 1) := by decide +kernel
theorem dX7_moved_19 : decode cX7_moved 19 = .ok (.getfield 42, 3) := by decide +kernel
theorem dX7_moved_22 : decode cX7_moved 22 = .ok (.iload_n 2, 1) := by decide +kernel
theorem dX7_moved_23 : decode cX7_moved 23 = .ok (.baload, 1) := by decide +kernel
theorem dX7_moved_24 : decode cX7_moved 24 = .ok (.if_icmp .eq 7, 3) := by decide +kernel
theorem dX7_moved_27 : decode cX7_moved 27 = .ok (.iconst 1, 1) := by decide +kernel
theorem dX7_moved_28 : decode cX7_moved 28 = .ok (.goto 4, 3) := by decide +kernel
theorem dX7_moved_31 : decode cX7_moved 31 = .ok (.iconst 0, 1) := by decide +kernel
theorem dX7_moved_32 : decode cX7_moved 32 = .ok (.iadd, 1) := by decide +kernel
theorem dX7_moved_33 : decode cX7_moved 33 = .ok (.istore_n 1, 1) := by decide +kernel
theorem dX7_moved_34 : decode cX7_moved 34 = .ok (.iinc 2 1, 3) := by decide +kernel
theorem dX7_moved_37 : decode cX7_moved 37 = .ok (.goto (-33), 3) := by decide +kernel
theorem dX7_moved_40 : decode cX7_moved 40 = .ok (.iload_n 1, 1) := by decide +kernel
theorem dX7_moved_41 : decode cX7_moved 41 = .ok (.ireturn, 1) := by decide +kernel
theorem dX7_moves_0 : decode cX7_moves 0 = .ok (.aload_n 0, 1) := by decide +kernel
theorem dX7_moves_1 : decode cX7_moves 1 = .ok (.iload_n 1, 1) := by decide +kernel
theorem dX7_moves_2 : decode cX7_moves 2 = .ok (.iload_n 2, 1) := by decide +kernel
theorem dX7_moves_3 : decode cX7_moves 3 = .ok (.invokevirtual 210, 3) := by decide +kernel
theorem dX7_moves_6 : decode cX7_moves 6 = .ok (.ifCond .ne 10, 3) := by decide +kernel
theorem dX7_moves_9 : decode cX7_moves 9 = .ok (.aload_n 0, 1) := by decide +kernel
theorem dX7_moves_10 : decode cX7_moves 10 = .ok (.invokevirtual 213, 3) := by decide +kernel
theorem dX7_moves_13 : decode cX7_moves 13 = .ok (.goto 4, 3) := by decide +kernel
theorem dX7_moves_16 : decode cX7_moves 16 = .ok (.iconst (-1), 1) := by decide +kernel
theorem dX7_moves_17 : decode cX7_moves 17 = .ok (.ireturn, 1) := by decide +kernel
theorem dX7_set_0 : decode cX7_set 0 = .ok (.aload_n 0, 1) := by decide +kernel
theorem dX7_set_1 : decode cX7_set 1 = .ok (.iload_n 1, 1) := by decide +kernel
theorem dX7_set_2 : decode cX7_set 2 = .ok (.iload_n 2, 1) := by decide +kernel
theorem dX7_set_3 : decode cX7_set 3 = .ok (.invokevirtual 216, 3) := by decide +kernel
theorem dX7_set_6 : decode cX7_set 6 = .ok (.istore_n 3, 1) := by decide +kernel
theorem dX7_set_7 : decode cX7_set 7 = .ok (.iload_n 3, 1) := by decide +kernel
theorem dX7_set_8 : decode cX7_set 8 = .ok (.iconst (-1), 1) := by decide +kernel
theorem dX7_set_9 : decode cX7_set 9 = .ok (.if_icmp .ne 5, 3) := by decide +kernel
theorem dX7_set_12 : decode cX7_set 12 = .ok (.iconst (-1), 1) := by decide +kernel
theorem dX7_set_13 : decode cX7_set 13 = .ok (.ireturn, 1) := by decide +kernel
theorem dX7_set_14 : decode cX7_set 14 = .ok (.iconst 0, 1) := by decide +kernel
theorem dX7_set_15 : decode cX7_set 15 = .ok (.istore 4, 2) := by decide +kernel
theorem dX7_set_17 : decode cX7_set 17 = .ok (.iload 4, 2) := by decide +kernel
theorem dX7_set_19 : decode cX7_set 19 = .ok (.sipush 2304, 3) := by decide +kernel
theorem dX7_set_22 : decode cX7_set 22 = .ok (.if_icmp .ge 51, 3) := by decide +kernel
theorem dX7_set_25 : decode cX7_set 25 = .ok (.aload_n 0, 1) := by decide +kernel
theorem dX7_set_26 : decode cX7_set 26 = .ok (.getfield 79, 3) := by decide +kernel
theorem dX7_set_29 : decode cX7_set 29 = .ok (.iload 4, 2) := by decide +kernel
theorem dX7_set_31 : decode cX7_set 31 = .ok (.baload, 1) := by decide +kernel
theorem dX7_set_32 : decode cX7_set 32 = .ok (.ifCond .eq 21, 3) := by decide +kernel
theorem dX7_set_35 : decode cX7_set 35 = .ok (.aload_n 0, 1) := by decide +kernel
theorem dX7_set_36 : decode cX7_set 36 = .ok (.getfield 42, 3) := by decide +kernel
theorem dX7_set_39 : decode cX7_set 39 = .ok (.iload 4, 2) := by decide +kernel
theorem dX7_set_41 : decode cX7_set 41 = .ok (.baload, 1) := by decide +kernel
theorem dX7_set_42 : decode cX7_set 42 = .ok (.ifCond .ne 11, 3) := by decide +kernel
theorem dX7_set_45 : decode cX7_set 45 = .ok (.aload_n 0, 1) := by decide +kernel
theorem dX7_set_46 : decode cX7_set 46 = .ok (.getfield 45, 3) := by decide +kernel
theorem dX7_set_49 : decode cX7_set 49 = .ok (.iload 4, 2) := by decide +kernel
theorem dX7_set_51 : decode cX7_set 51 = .ok (.iconst 0, 1) := by decide +kernel
theorem dX7_set_52 : decode cX7_set 52 = .ok (.iastore, 1) := by decide +kernel
theorem dX7_set_53 : decode cX7_set 53 = .ok (.aload_n 0, 1) := by decide +kernel
theorem dX7_set_54 : decode cX7_set 54 = .ok (.getfield 42, 3) := by decide +kernel
theorem dX7_set_57 : decode cX7_set 57 = .ok (.iload 4, 2) := by decide +kernel
theorem dX7_set_59 : decode cX7_set 59 = .ok (.aload_n 0, 1) := by decide +kernel
theorem dX7_set_60 : decode cX7_set 60 = .ok (.getfield 79, 3) := by decide +kernel
theorem dX7_set_63 : decode cX7_set 63 = .ok (.iload 4, 2) := by decide +kernel
theorem dX7_set_65 : decode cX7_set 65 = .ok (.baload, 1) := by decide +kernel
theorem dX7_set_66 : decode cX7_set 66 = .ok (.bastore, 1) := by decide +kernel
theorem dX7_set_67 : decode cX7_set 67 = .ok (.iinc 4 1, 3) := by decide +kernel
theorem dX7_set_70 : decode cX7_set 70 = .ok (.goto (-53), 3) := by decide +kernel
theorem dX7_set_73 : decode cX7_set 73 = .ok (.aload_n 0, 1) := by decide +kernel
theorem dX7_set_74 : decode cX7_set 74 = .ok (.aload_n 0, 1) := by decide +kernel
theorem dX7_set_75 : decode cX7_set 75 = .ok (.getfield 219, 3) := by decide +kernel
theorem dX7_set_78 : decode cX7_set 78 = .ok (.iload_n 3, 1) := by decide +kernel
theorem dX7_set_79 : decode cX7_set 79 = .ok (.iadd, 1) := by decide +kernel
theorem dX7_set_80 : decode cX7_set 80 = .ok (.putfield 219, 3) := by decide +kernel
theorem dX7_set_83 : decode cX7_set 83 = .ok (.iload_n 3, 1) := by decide +kernel
theorem dX7_set_84 : decode cX7_set 84 = .ok (.ireturn, 1) := by decide +kernel
theorem dX7_nearest_0 : decode cX7_nearest 0 = .ok (.iconst (-1), 1) := by decide +kernel
theorem dX7_nearest_1 : decode cX7_nearest 1 = .ok (.istore_n 2, 1) := by decide +kernel
theorem dX7_nearest_2 : decode cX7_nearest 2 = .ok (.iconst 0, 1) := by decide +kernel
theorem dX7_nearest_3 : decode cX7_nearest 3 = .ok (.istore_n 3, 1) := by decide +kernel
theorem dX7_nearest_4 : decode cX7_nearest 4 = .ok (.iconst 0, 1) := by decide +kernel
theorem dX7_nearest_5 : decode cX7_nearest 5 = .ok (.istore 4, 2) := by decide +kernel
theorem dX7_nearest_7 : decode cX7_nearest 7 = .ok (.iload 4, 2) := by decide +kernel
theorem dX7_nearest_9 : decode cX7_nearest 9 = .ok (.bipush 6, 2) := by decide +kernel
theorem dX7_nearest_11 : decode cX7_nearest 11 = .ok (.if_icmp .ge 44, 3) := by decide +kernel
theorem dX7_nearest_14 : decode cX7_nearest 14 = .ok (.aload_n 0, 1) := by decide +kernel
theorem dX7_nearest_15 : decode cX7_nearest 15 = .ok (.iload 4, 2) := by decide +kernel
theorem dX7_nearest_17 : decode cX7_nearest 17 = .ok (.iload_n 1, 1) := by decide +kernel
theorem dX7_nearest_18 : decode cX7_nearest 18 = .ok (.invokevirtual 216, 3) := by decide +kernel
theorem dX7_nearest_21 : decode cX7_nearest 21 = .ok (.istore 5, 2) := by decide +kernel
theorem dX7_nearest_23 : decode cX7_nearest 23 = .ok (.iload 5, 2) := by decide +kernel
theorem dX7_nearest_25 : decode cX7_nearest 25 = .ok (.iconst (-1), 1) := by decide +kernel
theorem dX7_nearest_26 : decode cX7_nearest 26 = .ok (.if_icmp .eq 23, 3) := by decide +kernel
theorem dX7_nearest_29 : decode cX7_nearest 29 = .ok (.iload_n 2, 1) := by decide +kernel
theorem dX7_nearest_30 : decode cX7_nearest 30 = .ok (.iconst (-1), 1) := by decide +kernel
theorem dX7_nearest_31 : decode cX7_nearest 31 = .ok (.if_icmp .eq 12, 3) := by decide +kernel
theorem dX7_nearest_34 : decode cX7_nearest 34 = .ok (.iload 5, 2) := by decide +kernel
theorem dX7_nearest_36 : decode cX7_nearest 36 = .ok (.iload_n 3, 1) := by decide +kernel
theorem dX7_nearest_37 : decode cX7_nearest 37 = .ok (.if_icmp .lt 6, 3) := by decide +kernel
theorem dX7_nearest_40 : decode cX7_nearest 40 = .ok (.goto 9, 3) := by decide +kernel
theorem dX7_nearest_43 : decode cX7_nearest 43 = .ok (.iload 4, 2) := by decide +kernel
theorem dX7_nearest_45 : decode cX7_nearest 45 = .ok (.istore_n 2, 1) := by decide +kernel
theorem dX7_nearest_46 : decode cX7_nearest 46 = .ok (.iload 5, 2) := by decide +kernel
theorem dX7_nearest_48 : decode cX7_nearest 48 = .ok (.istore_n 3, 1) := by decide +kernel
theorem dX7_nearest_49 : decode cX7_nearest 49 = .ok (.iinc 4 1, 3) := by decide +kernel
theorem dX7_nearest_52 : decode cX7_nearest 52 = .ok (.goto (-45), 3) := by decide +kernel
theorem dX7_nearest_55 : decode cX7_nearest 55 = .ok (.iload_n 2, 1) := by decide +kernel
theorem dX7_nearest_56 : decode cX7_nearest 56 = .ok (.ireturn, 1) := by decide +kernel
theorem dX7_strikesNow_0 : decode cX7_strikesNow 0 = .ok (.aload_n 0, 1) := by decide +kernel
theorem dX7_strikesNow_1 : decode cX7_strikesNow 1 = .ok (.getfield 42, 3) := by decide +kernel
theorem dX7_strikesNow_4 : decode cX7_strikesNow 4 = .ok (.bipush 64, 2) := by decide +kernel
theorem dX7_strikesNow_6 : decode cX7_strikesNow 6 = .ok (.iload_n 1, 1) := by decide +kernel
theorem dX7_strikesNow_7 : decode cX7_strikesNow 7 = .ok (.imul, 1) := by decide +kernel
theorem dX7_strikesNow_8 : decode cX7_strikesNow 8 = .ok (.iload_n 2, 1) := by decide +kernel
theorem dX7_strikesNow_9 : decode cX7_strikesNow 9 = .ok (.iadd, 1) := by decide +kernel
theorem dX7_strikesNow_10 : decode cX7_strikesNow 10 = .ok (.baload, 1) := by decide +kernel
theorem dX7_strikesNow_11 : decode cX7_strikesNow 11 = .ok (.ifCond .eq 25, 3) := by decide +kernel
theorem dX7_strikesNow_14 : decode cX7_strikesNow 14 = .ok (.aload_n 0, 1) := by decide +kernel
theorem dX7_strikesNow_15 : decode cX7_strikesNow 15 = .ok (.getfield 45, 3) := by decide +kernel
theorem dX7_strikesNow_18 : decode cX7_strikesNow 18 = .ok (.bipush 64, 2) := by decide +kernel
theorem dX7_strikesNow_20 : decode cX7_strikesNow 20 = .ok (.iload_n 1, 1) := by decide +kernel
theorem dX7_strikesNow_21 : decode cX7_strikesNow 21 = .ok (.imul, 1) := by decide +kernel
theorem dX7_strikesNow_22 : decode cX7_strikesNow 22 = .ok (.iload_n 2, 1) := by decide +kernel
theorem dX7_strikesNow_23 : decode cX7_strikesNow 23 = .ok (.iadd, 1) := by decide +kernel
theorem dX7_strikesNow_24 : decode cX7_strikesNow 24 = .ok (.iaload, 1) := by decide +kernel
theorem dX7_strikesNow_25 : decode cX7_strikesNow 25 = .ok (.aload_n 0, 1) := by decide +kernel
theorem dX7_strikesNow_26 : decode cX7_strikesNow 26 = .ok (.getfield 19, 3) := by decide +kernel
theorem dX7_strikesNow_29 : decode cX7_strikesNow 29 = .ok (.if_icmp .ge 7, 3) := by decide +kernel
theorem dX7_strikesNow_32 : decode cX7_strikesNow 32 = .ok (.iconst 1, 1) := by decide +kernel
theorem dX7_strikesNow_33 : decode cX7_strikesNow 33 = .ok (.goto 4, 3) := by decide +kernel
theorem dX7_strikesNow_36 : decode cX7_strikesNow 36 = .ok (.iconst 0, 1) := by decide +kernel
theorem dX7_strikesNow_37 : decode cX7_strikesNow 37 = .ok (.ireturn, 1) := by decide +kernel
theorem dX7_turn_0 : decode cX7_turn 0 = .ok (.aload_n 0, 1) := by decide +kernel
theorem dX7_turn_1 : decode cX7_turn 1 = .ok (.iload_n 1, 1) := by decide +kernel
theorem dX7_turn_2 : decode cX7_turn 2 = .ok (.invokevirtual 112, 3) := by decide +kernel
theorem dX7_turn_5 : decode cX7_turn 5 = .ok (.ifCond .eq 14, 3) := by decide +kernel
theorem dX7_turn_8 : decode cX7_turn 8 = .ok (.iload_n 2, 1) := by decide +kernel
theorem dX7_turn_9 : decode cX7_turn 9 = .ok (.iconst 1, 1) := by decide +kernel
theorem dX7_turn_10 : decode cX7_turn 10 = .ok (.sipush 640, 3) := by decide +kernel
theorem dX7_turn_13 : decode cX7_turn 13 = .ok (.invokestatic 94, 3) := by decide +kernel
theorem dX7_turn_16 : decode cX7_turn 16 = .ok (.ifCond .ne 5, 3) := by decide +kernel
theorem dX7_turn_19 : decode cX7_turn 19 = .ok (.iconst (-1), 1) := by decide +kernel
theorem dX7_turn_20 : decode cX7_turn 20 = .ok (.ireturn, 1) := by decide +kernel
theorem dX7_turn_21 : decode cX7_turn 21 = .ok (.iconst 0, 1) := by decide +kernel
theorem dX7_turn_22 : decode cX7_turn 22 = .ok (.istore_n 3, 1) := by decide +kernel
theorem dX7_turn_23 : decode cX7_turn 23 = .ok (.iconst 0, 1) := by decide +kernel
theorem dX7_turn_24 : decode cX7_turn 24 = .ok (.istore 4, 2) := by decide +kernel
theorem dX7_turn_26 : decode cX7_turn 26 = .ok (.iload 4, 2) := by decide +kernel
theorem dX7_turn_28 : decode cX7_turn 28 = .ok (.iload_n 2, 1) := by decide +kernel
theorem dX7_turn_29 : decode cX7_turn 29 = .ok (.if_icmp .ge 103, 3) := by decide +kernel
theorem dX7_turn_32 : decode cX7_turn 32 = .ok (.iload_n 1, 1) := by decide +kernel
theorem dX7_turn_33 : decode cX7_turn 33 = .ok (.iload 4, 2) := by decide +kernel
theorem dX7_turn_35 : decode cX7_turn 35 = .ok (.iadd, 1) := by decide +kernel
theorem dX7_turn_36 : decode cX7_turn 36 = .ok (.aload_n 0, 1) := by decide +kernel
theorem dX7_turn_37 : decode cX7_turn 37 = .ok (.getfield 7, 3) := by decide +kernel
theorem dX7_turn_40 : decode cX7_turn 40 = .ok (.irem, 1) := by decide +kernel
theorem dX7_turn_41 : decode cX7_turn 41 = .ok (.istore 5, 2) := by decide +kernel
theorem dX7_turn_43 : decode cX7_turn 43 = .ok (.iconst 0, 1) := by decide +kernel
theorem dX7_turn_44 : decode cX7_turn 44 = .ok (.istore 6, 2) := by decide +kernel
theorem dX7_turn_46 : decode cX7_turn 46 = .ok (.iload 6, 2) := by decide +kernel
theorem dX7_turn_48 : decode cX7_turn 48 = .ok (.aload_n 0, 1) := by decide +kernel
theorem dX7_turn_49 : decode cX7_turn 49 = .ok (.getfield 105, 3) := by decide +kernel
theorem dX7_turn_52 : decode cX7_turn 52 = .ok (.if_icmp .ge 74, 3) := by decide +kernel
theorem dX7_turn_55 : decode cX7_turn 55 = .ok (.aload_n 0, 1) := by decide +kernel
theorem dX7_turn_56 : decode cX7_turn 56 = .ok (.iload 6, 2) := by decide +kernel
theorem dX7_turn_58 : decode cX7_turn 58 = .ok (.iload 5, 2) := by decide +kernel
theorem dX7_turn_60 : decode cX7_turn 60 = .ok (.invokevirtual 222, 3) := by decide +kernel
theorem dX7_turn_63 : decode cX7_turn 63 = .ok (.ifCond .ne 6, 3) := by decide +kernel
theorem dX7_turn_66 : decode cX7_turn 66 = .ok (.goto 54, 3) := by decide +kernel
theorem dX7_turn_69 : decode cX7_turn 69 = .ok (.aload_n 0, 1) := by decide +kernel
theorem dX7_turn_70 : decode cX7_turn 70 = .ok (.getfield 45, 3) := by decide +kernel
theorem dX7_turn_73 : decode cX7_turn 73 = .ok (.bipush 64, 2) := by decide +kernel
theorem dX7_turn_75 : decode cX7_turn 75 = .ok (.iload 6, 2) := by decide +kernel
theorem dX7_turn_77 : decode cX7_turn 77 = .ok (.imul, 1) := by decide +kernel
theorem dX7_turn_78 : decode cX7_turn 78 = .ok (.iload 5, 2) := by decide +kernel
theorem dX7_turn_80 : decode cX7_turn 80 = .ok (.iadd, 1) := by decide +kernel
theorem dX7_turn_81 : decode cX7_turn 81 = .ok (.aload_n 0, 1) := by decide +kernel
theorem dX7_turn_82 : decode cX7_turn 82 = .ok (.getfield 45, 3) := by decide +kernel
theorem dX7_turn_85 : decode cX7_turn 85 = .ok (.bipush 64, 2) := by decide +kernel
theorem dX7_turn_87 : decode cX7_turn 87 = .ok (.iload 6, 2) := by decide +kernel
theorem dX7_turn_89 : decode cX7_turn 89 = .ok (.imul, 1) := by decide +kernel
theorem dX7_turn_90 : decode cX7_turn 90 = .ok (.iload 5, 2) := by decide +kernel
theorem dX7_turn_92 : decode cX7_turn 92 = .ok (.iadd, 1) := by decide +kernel
theorem dX7_turn_93 : decode cX7_turn 93 = .ok (.iaload, 1) := by decide +kernel
theorem dX7_turn_94 : decode cX7_turn 94 = .ok (.iconst 1, 1) := by decide +kernel
theorem dX7_turn_95 : decode cX7_turn 95 = .ok (.iadd, 1) := by decide +kernel
theorem dX7_turn_96 : decode cX7_turn 96 = .ok (.iastore, 1) := by decide +kernel
theorem dX7_turn_97 : decode cX7_turn 97 = .ok (.iload_n 3, 1) := by decide +kernel
theorem dX7_turn_98 : decode cX7_turn 98 = .ok (.aload_n 0, 1) := by decide +kernel
theorem dX7_turn_99 : decode cX7_turn 99 = .ok (.getfield 38, 3) := by decide +kernel
theorem dX7_turn_102 : decode cX7_turn 102 = .ok (.aload_n 0, 1) := by decide +kernel
theorem dX7_turn_103 : decode cX7_turn 103 = .ok (.getfield 35, 3) := by decide +kernel
theorem dX7_turn_106 : decode cX7_turn 106 = .ok (.iload 6, 2) := by decide +kernel
theorem dX7_turn_108 : decode cX7_turn 108 = .ok (.iaload, 1) := by decide +kernel
theorem dX7_turn_109 : decode cX7_turn 109 = .ok (.baload, 1) := by decide +kernel
theorem dX7_turn_110 : decode cX7_turn 110 = .ok (.ifCond .eq 7, 3) := by decide +kernel
theorem dX7_turn_113 : decode cX7_turn 113 = .ok (.iconst 0, 1) := by decide +kernel
theorem dX7_turn_114 : decode cX7_turn 114 = .ok (.goto 4, 3) := by decide +kernel
theorem dX7_turn_117 : decode cX7_turn 117 = .ok (.iconst 1, 1) := by decide +kernel
theorem dX7_turn_118 : decode cX7_turn 118 = .ok (.iadd, 1) := by decide +kernel
theorem dX7_turn_119 : decode cX7_turn 119 = .ok (.istore_n 3, 1) := by decide +kernel
theorem dX7_turn_120 : decode cX7_turn 120 = .ok (.iinc 6 1, 3) := by decide +kernel
theorem dX7_turn_123 : decode cX7_turn 123 = .ok (.goto (-77), 3) := by decide +kernel
theorem dX7_turn_126 : decode cX7_turn 126 = .ok (.iinc 4 1, 3) := by decide +kernel
theorem dX7_turn_129 : decode cX7_turn 129 = .ok (.goto (-103), 3) := by decide +kernel
theorem dX7_turn_132 : decode cX7_turn 132 = .ok (.iload_n 3, 1) := by decide +kernel
theorem dX7_turn_133 : decode cX7_turn 133 = .ok (.ireturn, 1) := by decide +kernel
theorem dX7_says_0 : decode cX7_says 0 = .ok (.aload_n 0, 1) := by decide +kernel
theorem dX7_says_1 : decode cX7_says 1 = .ok (.getfield 91, 3) := by decide +kernel
theorem dX7_says_4 : decode cX7_says 4 = .ok (.aload_n 0, 1) := by decide +kernel
theorem dX7_says_5 : decode cX7_says 5 = .ok (.getfield 225, 3) := by decide +kernel
theorem dX7_says_8 : decode cX7_says 8 = .ok (.iload_n 1, 1) := by decide +kernel
theorem dX7_says_9 : decode cX7_says 9 = .ok (.i2b, 1) := by decide +kernel
theorem dX7_says_10 : decode cX7_says 10 = .ok (.bastore, 1) := by decide +kernel
theorem dX7_says_11 : decode cX7_says 11 = .ok (.aload_n 0, 1) := by decide +kernel
theorem dX7_says_12 : decode cX7_says 12 = .ok (.aload_n 0, 1) := by decide +kernel
theorem dX7_says_13 : decode cX7_says 13 = .ok (.getfield 225, 3) := by decide +kernel
theorem dX7_says_16 : decode cX7_says 16 = .ok (.iconst 1, 1) := by decide +kernel
theorem dX7_says_17 : decode cX7_says 17 = .ok (.iadd, 1) := by decide +kernel
theorem dX7_says_18 : decode cX7_says 18 = .ok (.putfield 225, 3) := by decide +kernel
theorem dX7_says_21 : decode cX7_says 21 = .ok (.return_, 1) := by decide +kernel
theorem dX7_isHeard_0 : decode cX7_isHeard 0 = .ok (.aload_n 0, 1) := by decide +kernel
theorem dX7_isHeard_1 : decode cX7_isHeard 1 = .ok (.getfield 38, 3) := by decide +kernel
theorem dX7_isHeard_4 : decode cX7_isHeard 4 = .ok (.iload_n 1, 1) := by decide +kernel
theorem dX7_isHeard_5 : decode cX7_isHeard 5 = .ok (.baload, 1) := by decide +kernel
theorem dX7_isHeard_6 : decode cX7_isHeard 6 = .ok (.ifCond .eq 5, 3) := by decide +kernel
theorem dX7_isHeard_9 : decode cX7_isHeard 9 = .ok (.iconst 0, 1) := by decide +kernel
theorem dX7_isHeard_10 : decode cX7_isHeard 10 = .ok (.ireturn, 1) := by decide +kernel
theorem dX7_isHeard_11 : decode cX7_isHeard 11 = .ok (.aload_n 0, 1) := by decide +kernel
theorem dX7_isHeard_12 : decode cX7_isHeard 12 = .ok (.getfield 32, 3) := by decide +kernel
theorem dX7_isHeard_15 : decode cX7_isHeard 15 = .ok (.iload_n 1, 1) := by decide +kernel
theorem dX7_isHeard_16 : decode cX7_isHeard 16 = .ok (.iaload, 1) := by decide +kernel
theorem dX7_isHeard_17 : decode cX7_isHeard 17 = .ok (.istore_n 3, 1) := by decide +kernel
theorem dX7_isHeard_18 : decode cX7_isHeard 18 = .ok (.iload_n 3, 1) := by decide +kernel
theorem dX7_isHeard_19 : decode cX7_isHeard 19 = .ok (.aload_n 0, 1) := by decide +kernel
theorem dX7_isHeard_20 : decode cX7_isHeard 20 = .ok (.getfield 32, 3) := by decide +kernel
theorem dX7_isHeard_23 : decode cX7_isHeard 23 = .ok (.iload_n 1, 1) := by decide +kernel
theorem dX7_isHeard_24 : decode cX7_isHeard 24 = .ok (.iaload, 1) := by decide +kernel
theorem dX7_isHeard_25 : decode cX7_isHeard 25 = .ok (.aload_n 0, 1) := by decide +kernel
theorem dX7_isHeard_26 : decode cX7_isHeard 26 = .ok (.getfield 29, 3) := by decide +kernel
theorem dX7_isHeard_29 : decode cX7_isHeard 29 = .ok (.iload_n 1, 1) := by decide +kernel
theorem dX7_isHeard_30 : decode cX7_isHeard 30 = .ok (.iaload, 1) := by decide +kernel
theorem dX7_isHeard_31 : decode cX7_isHeard 31 = .ok (.iadd, 1) := by decide +kernel
theorem dX7_isHeard_32 : decode cX7_isHeard 32 = .ok (.if_icmp .ge 20, 3) := by decide +kernel
theorem dX7_isHeard_35 : decode cX7_isHeard 35 = .ok (.aload_n 0, 1) := by decide +kernel
theorem dX7_isHeard_36 : decode cX7_isHeard 36 = .ok (.iload_n 3, 1) := by decide +kernel
theorem dX7_isHeard_37 : decode cX7_isHeard 37 = .ok (.iload_n 2, 1) := by decide +kernel
theorem dX7_isHeard_38 : decode cX7_isHeard 38 = .ok (.invokevirtual 222, 3) := by decide +kernel
theorem dX7_isHeard_41 : decode cX7_isHeard 41 = .ok (.ifCond .eq 5, 3) := by decide +kernel
theorem dX7_isHeard_44 : decode cX7_isHeard 44 = .ok (.iconst 1, 1) := by decide +kernel
theorem dX7_isHeard_45 : decode cX7_isHeard 45 = .ok (.ireturn, 1) := by decide +kernel
theorem dX7_isHeard_46 : decode cX7_isHeard 46 = .ok (.iinc 3 1, 3) := by decide +kernel
theorem dX7_isHeard_49 : decode cX7_isHeard 49 = .ok (.goto (-31), 3) := by decide +kernel
theorem dX7_isHeard_52 : decode cX7_isHeard 52 = .ok (.iconst 0, 1) := by decide +kernel
theorem dX7_isHeard_53 : decode cX7_isHeard 53 = .ok (.ireturn, 1) := by decide +kernel
theorem dX7_heardIn_0 : decode cX7_heardIn 0 = .ok (.iconst 0, 1) := by decide +kernel
theorem dX7_heardIn_1 : decode cX7_heardIn 1 = .ok (.istore_n 2, 1) := by decide +kernel
theorem dX7_heardIn_2 : decode cX7_heardIn 2 = .ok (.iconst 0, 1) := by decide +kernel
theorem dX7_heardIn_3 : decode cX7_heardIn 3 = .ok (.istore_n 3, 1) := by decide +kernel
theorem dX7_heardIn_4 : decode cX7_heardIn 4 = .ok (.iload_n 3, 1) := by decide +kernel
theorem dX7_heardIn_5 : decode cX7_heardIn 5 = .ok (.aload_n 0, 1) := by decide +kernel
theorem dX7_heardIn_6 : decode cX7_heardIn 6 = .ok (.getfield 98, 3) := by decide +kernel
theorem dX7_heardIn_9 : decode cX7_heardIn 9 = .ok (.if_icmp .ge 26, 3) := by decide +kernel
theorem dX7_heardIn_12 : decode cX7_heardIn 12 = .ok (.iload_n 2, 1) := by decide +kernel
theorem dX7_heardIn_13 : decode cX7_heardIn 13 = .ok (.aload_n 0, 1) := by decide +kernel
theorem dX7_heardIn_14 : decode cX7_heardIn 14 = .ok (.iload_n 3, 1) := by decide +kernel
theorem dX7_heardIn_15 : decode cX7_heardIn 15 = .ok (.iload_n 1, 1) := by decide +kernel
theorem dX7_heardIn_16 : decode cX7_heardIn 16 = .ok (.invokevirtual 228, 3) := by decide +kernel
theorem dX7_heardIn_19 : decode cX7_heardIn 19 = .ok (.ifCond .eq 7, 3) := by decide +kernel
theorem dX7_heardIn_22 : decode cX7_heardIn 22 = .ok (.iconst 1, 1) := by decide +kernel
theorem dX7_heardIn_23 : decode cX7_heardIn 23 = .ok (.goto 4, 3) := by decide +kernel
theorem dX7_heardIn_26 : decode cX7_heardIn 26 = .ok (.iconst 0, 1) := by decide +kernel
theorem dX7_heardIn_27 : decode cX7_heardIn 27 = .ok (.iadd, 1) := by decide +kernel
theorem dX7_heardIn_28 : decode cX7_heardIn 28 = .ok (.istore_n 2, 1) := by decide +kernel
theorem dX7_heardIn_29 : decode cX7_heardIn 29 = .ok (.iinc 3 1, 3) := by decide +kernel
theorem dX7_heardIn_32 : decode cX7_heardIn 32 = .ok (.goto (-28), 3) := by decide +kernel
theorem dX7_heardIn_35 : decode cX7_heardIn 35 = .ok (.iload_n 2, 1) := by decide +kernel
theorem dX7_heardIn_36 : decode cX7_heardIn 36 = .ok (.ireturn, 1) := by decide +kernel
theorem dX7_saysNote_0 : decode cX7_saysNote 0 = .ok (.iload_n 1, 1) := by decide +kernel
theorem dX7_saysNote_1 : decode cX7_saysNote 1 = .ok (.bipush 12, 2) := by decide +kernel
theorem dX7_saysNote_3 : decode cX7_saysNote 3 = .ok (.irem, 1) := by decide +kernel
theorem dX7_saysNote_4 : decode cX7_saysNote 4 = .ok (.istore_n 2, 1) := by decide +kernel
theorem dX7_saysNote_5 : decode cX7_saysNote 5 = .ok (.aload_n 0, 1) := by decide +kernel
theorem dX7_saysNote_6 : decode cX7_saysNote 6 = .ok (.iload_n 2, 1) := by decide +kernel
theorem dX7_saysNote_7 : decode cX7_saysNote 7 = .ok (.iconst 2, 1) := by decide +kernel
theorem dX7_saysNote_8 : decode cX7_saysNote 8 = .ok (.if_icmp .ge 8, 3) := by decide +kernel
theorem dX7_saysNote_11 : decode cX7_saysNote 11 = .ok (.bipush 99, 2) := by decide +kernel
theorem dX7_saysNote_13 : decode cX7_saysNote 13 = .ok (.goto 58, 3) := by decide +kernel
theorem dX7_saysNote_16 : decode cX7_saysNote 16 = .ok (.iload_n 2, 1) := by decide +kernel
theorem dX7_saysNote_17 : decode cX7_saysNote 17 = .ok (.iconst 4, 1) := by decide +kernel
theorem dX7_saysNote_18 : decode cX7_saysNote 18 = .ok (.if_icmp .ge 8, 3) := by decide +kernel
theorem dX7_saysNote_21 : decode cX7_saysNote 21 = .ok (.bipush 100, 2) := by decide +kernel
theorem dX7_saysNote_23 : decode cX7_saysNote 23 = .ok (.goto 48, 3) := by decide +kernel
theorem dX7_saysNote_26 : decode cX7_saysNote 26 = .ok (.iload_n 2, 1) := by decide +kernel
theorem dX7_saysNote_27 : decode cX7_saysNote 27 = .ok (.iconst 4, 1) := by decide +kernel
theorem dX7_saysNote_28 : decode cX7_saysNote 28 = .ok (.if_icmp .ne 8, 3) := by decide +kernel
theorem dX7_saysNote_31 : decode cX7_saysNote 31 = .ok (.bipush 101, 2) := by decide +kernel
theorem dX7_saysNote_33 : decode cX7_saysNote 33 = .ok (.goto 38, 3) := by decide +kernel
theorem dX7_saysNote_36 : decode cX7_saysNote 36 = .ok (.iload_n 2, 1) := by decide +kernel
theorem dX7_saysNote_37 : decode cX7_saysNote 37 = .ok (.bipush 7, 2) := by decide +kernel
theorem dX7_saysNote_39 : decode cX7_saysNote 39 = .ok (.if_icmp .ge 8, 3) := by decide +kernel
theorem dX7_saysNote_42 : decode cX7_saysNote 42 = .ok (.bipush 102, 2) := by decide +kernel
theorem dX7_saysNote_44 : decode cX7_saysNote 44 = .ok (.goto 27, 3) := by decide +kernel
theorem dX7_saysNote_47 : decode cX7_saysNote 47 = .ok (.iload_n 2, 1) := by decide +kernel
theorem dX7_saysNote_48 : decode cX7_saysNote 48 = .ok (.bipush 9, 2) := by decide +kernel
theorem dX7_saysNote_50 : decode cX7_saysNote 50 = .ok (.if_icmp .ge 8, 3) := by decide +kernel
theorem dX7_saysNote_53 : decode cX7_saysNote 53 = .ok (.bipush 103, 2) := by decide +kernel
theorem dX7_saysNote_55 : decode cX7_saysNote 55 = .ok (.goto 16, 3) := by decide +kernel
theorem dX7_saysNote_58 : decode cX7_saysNote 58 = .ok (.iload_n 2, 1) := by decide +kernel
theorem dX7_saysNote_59 : decode cX7_saysNote 59 = .ok (.bipush 11, 2) := by decide +kernel
theorem dX7_saysNote_61 : decode cX7_saysNote 61 = .ok (.if_icmp .ge 8, 3) := by decide +kernel
theorem dX7_saysNote_64 : decode cX7_saysNote 64 = .ok (.bipush 97, 2) := by decide +kernel
theorem dX7_saysNote_66 : decode cX7_saysNote 66 = .ok (.goto 5, 3) := by decide +kernel
theorem dX7_saysNote_69 : decode cX7_saysNote 69 = .ok (.bipush 98, 2) := by decide +kernel
theorem dX7_saysNote_71 : decode cX7_saysNote 71 = .ok (.invokevirtual 231, 3) := by decide +kernel
theorem dX7_saysNote_74 : decode cX7_saysNote 74 = .ok (.iload_n 2, 1) := by decide +kernel
theorem dX7_saysNote_75 : decode cX7_saysNote 75 = .ok (.iconst 1, 1) := by decide +kernel
theorem dX7_saysNote_76 : decode cX7_saysNote 76 = .ok (.if_icmp .eq 26, 3) := by decide +kernel
theorem dX7_saysNote_79 : decode cX7_saysNote 79 = .ok (.iload_n 2, 1) := by decide +kernel
theorem dX7_saysNote_80 : decode cX7_saysNote 80 = .ok (.iconst 3, 1) := by decide +kernel
theorem dX7_saysNote_81 : decode cX7_saysNote 81 = .ok (.if_icmp .eq 21, 3) := by decide +kernel
theorem dX7_saysNote_84 : decode cX7_saysNote 84 = .ok (.iload_n 2, 1) := by decide +kernel
theorem dX7_saysNote_85 : decode cX7_saysNote 85 = .ok (.bipush 6, 2) := by decide +kernel
theorem dX7_saysNote_87 : decode cX7_saysNote 87 = .ok (.if_icmp .eq 15, 3) := by decide +kernel
theorem dX7_saysNote_90 : decode cX7_saysNote 90 = .ok (.iload_n 2, 1) := by decide +kernel
theorem dX7_saysNote_91 : decode cX7_saysNote 91 = .ok (.bipush 8, 2) := by decide +kernel
theorem dX7_saysNote_93 : decode cX7_saysNote 93 = .ok (.if_icmp .eq 9, 3) := by decide +kernel
theorem dX7_saysNote_96 : decode cX7_saysNote 96 = .ok (.iload_n 2, 1) := by decide +kernel
theorem dX7_saysNote_97 : decode cX7_saysNote 97 = .ok (.bipush 10, 2) := by decide +kernel
theorem dX7_saysNote_99 : decode cX7_saysNote 99 = .ok (.if_icmp .ne 9, 3) := by decide +kernel
theorem dX7_saysNote_102 : decode cX7_saysNote 102 = .ok (.aload_n 0, 1) := by decide +kernel
theorem dX7_saysNote_103 : decode cX7_saysNote 103 = .ok (.bipush 35, 2) := by decide +kernel
theorem dX7_saysNote_105 : decode cX7_saysNote 105 = .ok (.invokevirtual 231, 3) := by decide +kernel
theorem dX7_saysNote_108 : decode cX7_saysNote 108 = .ok (.aload_n 0, 1) := by decide +kernel
theorem dX7_saysNote_109 : decode cX7_saysNote 109 = .ok (.bipush 48, 2) := by decide +kernel
theorem dX7_saysNote_111 : decode cX7_saysNote 111 = .ok (.iload_n 1, 1) := by decide +kernel
theorem dX7_saysNote_112 : decode cX7_saysNote 112 = .ok (.bipush 12, 2) := by decide +kernel
theorem dX7_saysNote_114 : decode cX7_saysNote 114 = .ok (.idiv, 1) := by decide +kernel
theorem dX7_saysNote_115 : decode cX7_saysNote 115 = .ok (.iadd, 1) := by decide +kernel
theorem dX7_saysNote_116 : decode cX7_saysNote 116 = .ok (.invokevirtual 231, 3) := by decide +kernel
theorem dX7_saysNote_119 : decode cX7_saysNote 119 = .ok (.return_, 1) := by decide +kernel
theorem dX7_saysHole_0 : decode cX7_saysHole 0 = .ok (.aload_n 0, 1) := by decide +kernel
theorem dX7_saysHole_1 : decode cX7_saysHole 1 = .ok (.iload_n 1, 1) := by decide +kernel
theorem dX7_saysHole_2 : decode cX7_saysHole 2 = .ok (.invokevirtual 234, 3) := by decide +kernel
theorem dX7_saysHole_5 : decode cX7_saysHole 5 = .ok (.istore_n 2, 1) := by decide +kernel
theorem dX7_saysHole_6 : decode cX7_saysHole 6 = .ok (.iload_n 2, 1) := by decide +kernel
theorem dX7_saysHole_7 : decode cX7_saysHole 7 = .ok (.ifCond .ne 9, 3) := by decide +kernel
theorem dX7_saysHole_10 : decode cX7_saysHole 10 = .ok (.aload_n 0, 1) := by decide +kernel
theorem dX7_saysHole_11 : decode cX7_saysHole 11 = .ok (.bipush 114, 2) := by decide +kernel
theorem dX7_saysHole_13 : decode cX7_saysHole 13 = .ok (.invokevirtual 231, 3) := by decide +kernel
theorem dX7_saysHole_16 : decode cX7_saysHole 16 = .ok (.iload_n 2, 1) := by decide +kernel
theorem dX7_saysHole_17 : decode cX7_saysHole 17 = .ok (.iconst 1, 1) := by decide +kernel
theorem dX7_saysHole_18 : decode cX7_saysHole 18 = .ok (.if_icmp .le 9, 3) := by decide +kernel
theorem dX7_saysHole_21 : decode cX7_saysHole 21 = .ok (.aload_n 0, 1) := by decide +kernel
theorem dX7_saysHole_22 : decode cX7_saysHole 22 = .ok (.bipush 40, 2) := by decide +kernel
theorem dX7_saysHole_24 : decode cX7_saysHole 24 = .ok (.invokevirtual 231, 3) := by decide +kernel
theorem dX7_saysHole_27 : decode cX7_saysHole 27 = .ok (.iconst 0, 1) := by decide +kernel
theorem dX7_saysHole_28 : decode cX7_saysHole 28 = .ok (.istore_n 3, 1) := by decide +kernel
theorem dX7_saysHole_29 : decode cX7_saysHole 29 = .ok (.iload_n 3, 1) := by decide +kernel
theorem dX7_saysHole_30 : decode cX7_saysHole 30 = .ok (.bipush 48, 2) := by decide +kernel
theorem dX7_saysHole_32 : decode cX7_saysHole 32 = .ok (.if_icmp .ge 41, 3) := by decide +kernel
theorem dX7_saysHole_35 : decode cX7_saysHole 35 = .ok (.iload_n 2, 1) := by decide +kernel
theorem dX7_saysHole_36 : decode cX7_saysHole 36 = .ok (.ifCond .le 37, 3) := by decide +kernel
theorem dX7_saysHole_39 : decode cX7_saysHole 39 = .ok (.aload_n 0, 1) := by decide +kernel
theorem dX7_saysHole_40 : decode cX7_saysHole 40 = .ok (.iload_n 3, 1) := by decide +kernel
theorem dX7_saysHole_41 : decode cX7_saysHole 41 = .ok (.invokevirtual 101, 3) := by decide +kernel
theorem dX7_saysHole_44 : decode cX7_saysHole 44 = .ok (.istore 4, 2) := by decide +kernel
theorem dX7_saysHole_46 : decode cX7_saysHole 46 = .ok (.iload 4, 2) := by decide +kernel
theorem dX7_saysHole_48 : decode cX7_saysHole 48 = .ok (.iconst (-1), 1) := by decide +kernel
theorem dX7_saysHole_49 : decode cX7_saysHole 49 = .ok (.if_icmp .eq 18, 3) := by decide +kernel
theorem dX7_saysHole_52 : decode cX7_saysHole 52 = .ok (.aload_n 0, 1) := by decide +kernel
theorem dX7_saysHole_53 : decode cX7_saysHole 53 = .ok (.iload 4, 2) := by decide +kernel
theorem dX7_saysHole_55 : decode cX7_saysHole 55 = .ok (.iload_n 1, 1) := by decide +kernel
theorem dX7_saysHole_56 : decode cX7_saysHole 56 = .ok (.invokevirtual 228, 3) := by decide +kernel
theorem dX7_saysHole_59 : decode cX7_saysHole 59 = .ok (.ifCond .eq 8, 3) := by decide +kernel
