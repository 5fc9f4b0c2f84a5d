theorem dX0_init_0 : decode cX0_init 0 = .ok (.aload_n 0, 1) := by decide +kernel
theorem dX0_init_1 : decode cX0_init 1 = .ok (.invokespecial 3, 3) := by decide +kernel
theorem dX0_init_4 : decode cX0_init 4 = .ok (.aload_n 0, 1) := by decide +kernel
theorem dX0_init_5 : decode cX0_init 5 = .ok (.sipush 2304, 3) := by decide +kernel
theorem dX0_init_8 : decode cX0_init 8 = .ok (.newarray .int, 2) := by decide +kernel
theorem dX0_init_10 : decode cX0_init 10 = .ok (.putfield 13, 3) := by decide +kernel
theorem dX0_init_13 : decode cX0_init 13 = .ok (.aload_n 0, 1) := by decide +kernel
theorem dX0_init_14 : decode cX0_init 14 = .ok (.bipush 30, 2) := by decide +kernel
theorem dX0_init_16 : decode cX0_init 16 = .ok (.newarray .int, 2) := by decide +kernel
theorem dX0_init_18 : decode cX0_init 18 = .ok (.putfield 19, 3) := by decide +kernel
theorem dX0_init_21 : decode cX0_init 21 = .ok (.aload_n 0, 1) := by decide +kernel
theorem dX0_init_22 : decode cX0_init 22 = .ok (.bipush 32, 2) := by decide +kernel
theorem dX0_init_24 : decode cX0_init 24 = .ok (.putfield 22, 3) := by decide +kernel
theorem dX0_init_27 : decode cX0_init 27 = .ok (.aload_n 0, 1) := by decide +kernel
theorem dX0_init_28 : decode cX0_init 28 = .ok (.iconst 3, 1) := by decide +kernel
theorem dX0_init_29 : decode cX0_init 29 = .ok (.putfield 26, 3) := by decide +kernel
theorem dX0_init_32 : decode cX0_init 32 = .ok (.aload_n 0, 1) := by decide +kernel
theorem dX0_init_33 : decode cX0_init 33 = .ok (.sipush 1000, 3) := by decide +kernel
theorem dX0_init_36 : decode cX0_init 36 = .ok (.putfield 29, 3) := by decide +kernel
theorem dX0_init_39 : decode cX0_init 39 = .ok (.aload_n 0, 1) := by decide +kernel
theorem dX0_init_40 : decode cX0_init 40 = .ok (.getfield 13, 3) := by decide +kernel
theorem dX0_init_43 : decode cX0_init 43 = .ok (.iconst (-1), 1) := by decide +kernel
theorem dX0_init_44 : decode cX0_init 44 = .ok (.invokestatic 32, 3) := by decide +kernel
theorem dX0_init_47 : decode cX0_init 47 = .ok (.return_, 1) := by decide +kernel
theorem dX0_cell_0 : decode cX0_cell 0 = .ok (.iload_n 0, 1) := by decide +kernel
theorem dX0_cell_1 : decode cX0_cell 1 = .ok (.bipush 64, 2) := by decide +kernel
theorem dX0_cell_3 : decode cX0_cell 3 = .ok (.imul, 1) := by decide +kernel
theorem dX0_cell_4 : decode cX0_cell 4 = .ok (.iload_n 1, 1) := by decide +kernel
theorem dX0_cell_5 : decode cX0_cell 5 = .ok (.iadd, 1) := by decide +kernel
theorem dX0_cell_6 : decode cX0_cell 6 = .ok (.ireturn, 1) := by decide +kernel
theorem dX0_hasHole_0 : decode cX0_hasHole 0 = .ok (.iload_n 1, 1) := by decide +kernel
theorem dX0_hasHole_1 : decode cX0_hasHole 1 = .ok (.ifCond .lt 15, 3) := by decide +kernel
theorem dX0_hasHole_4 : decode cX0_hasHole 4 = .ok (.iload_n 1, 1) := by decide +kernel
theorem dX0_hasHole_5 : decode cX0_hasHole 5 = .ok (.aload_n 0, 1) := by decide +kernel
theorem dX0_hasHole_6 : decode cX0_hasHole 6 = .ok (.getfield 22, 3) := by decide +kernel
theorem dX0_hasHole_9 : decode cX0_hasHole 9 = .ok (.if_icmp .ge 7, 3) := by decide +kernel
theorem dX0_hasHole_12 : decode cX0_hasHole 12 = .ok (.iconst 1, 1) := by decide +kernel
theorem dX0_hasHole_13 : decode cX0_hasHole 13 = .ok (.goto 4, 3) := by decide +kernel
theorem dX0_hasHole_16 : decode cX0_hasHole 16 = .ok (.iconst 0, 1) := by decide +kernel
theorem dX0_hasHole_17 : decode cX0_hasHole 17 = .ok (.ireturn, 1) := by decide +kernel
theorem dX0_hasPin_0 : decode cX0_hasPin 0 = .ok (.aload_n 0, 1) := by decide +kernel
theorem dX0_hasPin_1 : decode cX0_hasPin 1 = .ok (.getfield 13, 3) := by decide +kernel
theorem dX0_hasPin_4 : decode cX0_hasPin 4 = .ok (.iload_n 1, 1) := by decide +kernel
theorem dX0_hasPin_5 : decode cX0_hasPin 5 = .ok (.iload_n 2, 1) := by decide +kernel
theorem dX0_hasPin_6 : decode cX0_hasPin 6 = .ok (.invokestatic 38, 3) := by decide +kernel
theorem dX0_hasPin_9 : decode cX0_hasPin 9 = .ok (.iaload, 1) := by decide +kernel
theorem dX0_hasPin_10 : decode cX0_hasPin 10 = .ok (.iconst (-1), 1) := by decide +kernel
theorem dX0_hasPin_11 : decode cX0_hasPin 11 = .ok (.if_icmp .eq 7, 3) := by decide +kernel
theorem dX0_hasPin_14 : decode cX0_hasPin 14 = .ok (.iconst 1, 1) := by decide +kernel
theorem dX0_hasPin_15 : decode cX0_hasPin 15 = .ok (.goto 4, 3) := by decide +kernel
theorem dX0_hasPin_18 : decode cX0_hasPin 18 = .ok (.iconst 0, 1) := by decide +kernel
theorem dX0_hasPin_19 : decode cX0_hasPin 19 = .ok (.ireturn, 1) := by decide +kernel
theorem dX0_next_0 : decode cX0_next 0 = .ok (.iload_n 1, 1) := by decide +kernel
theorem dX0_next_1 : decode cX0_next 1 = .ok (.iconst 1, 1) := by decide +kernel
theorem dX0_next_2 : decode cX0_next 2 = .ok (.iadd, 1) := by decide +kernel
theorem dX0_next_3 : decode cX0_next 3 = .ok (.aload_n 0, 1) := by decide +kernel
theorem dX0_next_4 : decode cX0_next 4 = .ok (.getfield 22, 3) := by decide +kernel
theorem dX0_next_7 : decode cX0_next 7 = .ok (.if_icmp .ge 9, 3) := by decide +kernel
theorem dX0_next_10 : decode cX0_next 10 = .ok (.iload_n 1, 1) := by decide +kernel
theorem dX0_next_11 : decode cX0_next 11 = .ok (.iconst 1, 1) := by decide +kernel
theorem dX0_next_12 : decode cX0_next 12 = .ok (.iadd, 1) := by decide +kernel
theorem dX0_next_13 : decode cX0_next 13 = .ok (.goto 4, 3) := by decide +kernel
theorem dX0_next_16 : decode cX0_next 16 = .ok (.iconst 0, 1) := by decide +kernel
theorem dX0_next_17 : decode cX0_next 17 = .ok (.ireturn, 1) := by decide +kernel
theorem dX0_isTooNear_0 : decode cX0_isTooNear 0 = .ok (.iload_n 1, 1) := by decide +kernel
theorem dX0_isTooNear_1 : decode cX0_isTooNear 1 = .ok (.iload_n 2, 1) := by decide +kernel
theorem dX0_isTooNear_2 : decode cX0_isTooNear 2 = .ok (.if_icmp .ge 9, 3) := by decide +kernel
theorem dX0_isTooNear_5 : decode cX0_isTooNear 5 = .ok (.iload_n 2, 1) := by decide +kernel
theorem dX0_isTooNear_6 : decode cX0_isTooNear 6 = .ok (.iload_n 1, 1) := by decide +kernel
theorem dX0_isTooNear_7 : decode cX0_isTooNear 7 = .ok (.isub, 1) := by decide +kernel
theorem dX0_isTooNear_8 : decode cX0_isTooNear 8 = .ok (.goto 6, 3) := by decide +kernel
theorem dX0_isTooNear_11 : decode cX0_isTooNear 11 = .ok (.iload_n 1, 1) := by decide +kernel
theorem dX0_isTooNear_12 : decode cX0_isTooNear 12 = .ok (.iload_n 2, 1) := by decide +kernel
theorem dX0_isTooNear_13 : decode cX0_isTooNear 13 = .ok (.isub, 1) := by decide +kernel
theorem dX0_isTooNear_14 : decode cX0_isTooNear 14 = .ok (.istore_n 3, 1) := by decide +kernel
theorem dX0_isTooNear_15 : decode cX0_isTooNear 15 = .ok (.iload_n 3, 1) := by decide +kernel
theorem dX0_isTooNear_16 : decode cX0_isTooNear 16 = .ok (.aload_n 0, 1) := by decide +kernel
theorem dX0_isTooNear_17 : decode cX0_isTooNear 17 = .ok (.getfield 26, 3) := by decide +kernel
theorem dX0_isTooNear_20 : decode cX0_isTooNear 20 = .ok (.if_icmp .lt 16, 3) := by decide +kernel
theorem dX0_isTooNear_23 : decode cX0_isTooNear 23 = .ok (.aload_n 0, 1) := by decide +kernel
theorem dX0_isTooNear_24 : decode cX0_isTooNear 24 = .ok (.getfield 22, 3) := by decide +kernel
theorem dX0_isTooNear_27 : decode cX0_isTooNear 27 = .ok (.iload_n 3, 1) := by decide +kernel
theorem dX0_isTooNear_28 : decode cX0_isTooNear 28 = .ok (.isub, 1) := by decide +kernel
theorem dX0_isTooNear_29 : decode cX0_isTooNear 29 = .ok (.aload_n 0, 1) := by decide +kernel
theorem dX0_isTooNear_30 : decode cX0_isTooNear 30 = .ok (.getfield 26, 3) := by decide +kernel
theorem dX0_isTooNear_33 : decode cX0_isTooNear 33 = .ok (.if_icmp .ge 7, 3) := by decide +kernel
theorem dX0_isTooNear_36 : decode cX0_isTooNear 36 = .ok (.iconst 1, 1) := by decide +kernel
theorem dX0_isTooNear_37 : decode cX0_isTooNear 37 = .ok (.goto 4, 3) := by decide +kernel
theorem dX0_isTooNear_40 : decode cX0_isTooNear 40 = .ok (.iconst 0, 1) := by decide +kernel
theorem dX0_isTooNear_41 : decode cX0_isTooNear 41 = .ok (.ireturn, 1) := by decide +kernel
theorem dX0_clear_0 : decode cX0_clear 0 = .ok (.aload_n 0, 1) := by decide +kernel
theorem dX0_clear_1 : decode cX0_clear 1 = .ok (.getfield 13, 3) := by decide +kernel
theorem dX0_clear_4 : decode cX0_clear 4 = .ok (.iconst (-1), 1) := by decide +kernel
theorem dX0_clear_5 : decode cX0_clear 5 = .ok (.invokestatic 32, 3) := by decide +kernel
theorem dX0_clear_8 : decode cX0_clear 8 = .ok (.aload_n 0, 1) := by decide +kernel
theorem dX0_clear_9 : decode cX0_clear 9 = .ok (.iconst 0, 1) := by decide +kernel
theorem dX0_clear_10 : decode cX0_clear 10 = .ok (.putfield 42, 3) := by decide +kernel
theorem dX0_clear_13 : decode cX0_clear 13 = .ok (.return_, 1) := by decide +kernel
theorem dX0_putIn_0 : decode cX0_putIn 0 = .ok (.aload_n 0, 1) := by decide +kernel
theorem dX0_putIn_1 : decode cX0_putIn 1 = .ok (.getfield 13, 3) := by decide +kernel
theorem dX0_putIn_4 : decode cX0_putIn 4 = .ok (.iload_n 1, 1) := by decide +kernel
theorem dX0_putIn_5 : decode cX0_putIn 5 = .ok (.iload_n 2, 1) := by decide +kernel
theorem dX0_putIn_6 : decode cX0_putIn 6 = .ok (.invokestatic 38, 3) := by decide +kernel
theorem dX0_putIn_9 : decode cX0_putIn 9 = .ok (.iconst 0, 1) := by decide +kernel
theorem dX0_putIn_10 : decode cX0_putIn 10 = .ok (.iastore, 1) := by decide +kernel
theorem dX0_putIn_11 : decode cX0_putIn 11 = .ok (.aload_n 0, 1) := by decide +kernel
theorem dX0_putIn_12 : decode cX0_putIn 12 = .ok (.dup, 1) := by decide +kernel
theorem dX0_putIn_13 : decode cX0_putIn 13 = .ok (.getfield 42, 3) := by decide +kernel
theorem dX0_putIn_16 : decode cX0_putIn 16 = .ok (.iconst 1, 1) := by decide +kernel
theorem dX0_putIn_17 : decode cX0_putIn 17 = .ok (.iadd, 1) := by decide +kernel
theorem dX0_putIn_18 : decode cX0_putIn 18 = .ok (.putfield 42, 3) := by decide +kernel
theorem dX0_putIn_21 : decode cX0_putIn 21 = .ok (.return_, 1) := by decide +kernel
theorem dX0_takeOut_0 : decode cX0_takeOut 0 = .ok (.aload_n 0, 1) := by decide +kernel
theorem dX0_takeOut_1 : decode cX0_takeOut 1 = .ok (.getfield 13, 3) := by decide +kernel
theorem dX0_takeOut_4 : decode cX0_takeOut 4 = .ok (.iload_n 1, 1) := by decide +kernel
theorem dX0_takeOut_5 : decode cX0_takeOut 5 = .ok (.iload_n 2, 1) := by decide +kernel
theorem dX0_takeOut_6 : decode cX0_takeOut 6 = .ok (.invokestatic 38, 3) := by decide +kernel
theorem dX0_takeOut_9 : decode cX0_takeOut 9 = .ok (.iconst (-1), 1) := by decide +kernel
theorem dX0_takeOut_10 : decode cX0_takeOut 10 = .ok (.iastore, 1) := by decide +kernel
theorem dX0_takeOut_11 : decode cX0_takeOut 11 = .ok (.aload_n 0, 1) := by decide +kernel
theorem dX0_takeOut_12 : decode cX0_takeOut 12 = .ok (.dup, 1) := by decide +kernel
theorem dX0_takeOut_13 : decode cX0_takeOut 13 = .ok (.getfield 42, 3) := by decide +kernel
theorem dX0_takeOut_16 : decode cX0_takeOut 16 = .ok (.iconst 1, 1) := by decide +kernel
theorem dX0_takeOut_17 : decode cX0_takeOut 17 = .ok (.isub, 1) := by decide +kernel
theorem dX0_takeOut_18 : decode cX0_takeOut 18 = .ok (.putfield 42, 3) := by decide +kernel
theorem dX0_takeOut_21 : decode cX0_takeOut 21 = .ok (.return_, 1) := by decide +kernel
theorem dX0_isCrowded_0 : decode cX0_isCrowded 0 = .ok (.iconst 0, 1) := by decide +kernel
theorem dX0_isCrowded_1 : decode cX0_isCrowded 1 = .ok (.istore_n 3, 1) := by decide +kernel
theorem dX0_isCrowded_2 : decode cX0_isCrowded 2 = .ok (.iload_n 3, 1) := by decide +kernel
theorem dX0_isCrowded_3 : decode cX0_isCrowded 3 = .ok (.aload_n 0, 1) := by decide +kernel
theorem dX0_isCrowded_4 : decode cX0_isCrowded 4 = .ok (.getfield 22, 3) := by decide +kernel
theorem dX0_isCrowded_7 : decode cX0_isCrowded 7 = .ok (.if_icmp .ge 34, 3) := by decide +kernel
theorem dX0_isCrowded_10 : decode cX0_isCrowded 10 = .ok (.iload_n 3, 1) := by decide +kernel
theorem dX0_isCrowded_11 : decode cX0_isCrowded 11 = .ok (.iload_n 2, 1) := by decide +kernel
theorem dX0_isCrowded_12 : decode cX0_isCrowded 12 = .ok (.if_icmp .eq 23, 3) := by decide +kernel
theorem dX0_isCrowded_15 : decode cX0_isCrowded 15 = .ok (.aload_n 0, 1) := by decide +kernel
theorem dX0_isCrowded_16 : decode cX0_isCrowded 16 = .ok (.iload_n 1, 1) := by decide +kernel
theorem dX0_isCrowded_17 : decode cX0_isCrowded 17 = .ok (.iload_n 3, 1) := by decide +kernel
theorem dX0_isCrowded_18 : decode cX0_isCrowded 18 = .ok (.invokevirtual 45, 3) := by decide +kernel
theorem dX0_isCrowded_21 : decode cX0_isCrowded 21 = .ok (.ifCond .eq 14, 3) := by decide +kernel
theorem dX0_isCrowded_24 : decode cX0_isCrowded 24 = .ok (.aload_n 0, 1) := by decide +kernel
theorem dX0_isCrowded_25 : decode cX0_isCrowded 25 = .ok (.iload_n 2, 1) := by decide +kernel
theorem dX0_isCrowded_26 : decode cX0_isCrowded 26 = .ok (.iload_n 3, 1) := by decide +kernel
theorem dX0_isCrowded_27 : decode cX0_isCrowded 27 = .ok (.invokevirtual 49, 3) := by decide +kernel
theorem dX0_isCrowded_30 : decode cX0_isCrowded 30 = .ok (.ifCond .eq 5, 3) := by decide +kernel
theorem dX0_isCrowded_33 : decode cX0_isCrowded 33 = .ok (.iconst 1, 1) := by decide +kernel
theorem dX0_isCrowded_34 : decode cX0_isCrowded 34 = .ok (.ireturn, 1) := by decide +kernel
theorem dX0_isCrowded_35 : decode cX0_isCrowded 35 = .ok (.iinc 3 1, 3) := by decide +kernel
theorem dX0_isCrowded_38 : decode cX0_isCrowded 38 = .ok (.goto (-36), 3) := by decide +kernel
theorem dX0_isCrowded_41 : decode cX0_isCrowded 41 = .ok (.iconst 0, 1) := by decide +kernel
theorem dX0_isCrowded_42 : decode cX0_isCrowded 42 = .ok (.ireturn, 1) := by decide +kernel
theorem dX0_pinsWith_0 : decode cX0_pinsWith 0 = .ok (.iconst 0, 1) := by decide +kernel
theorem dX0_pinsWith_1 : decode cX0_pinsWith 1 = .ok (.istore 4, 2) := by decide +kernel
theorem dX0_pinsWith_3 : decode cX0_pinsWith 3 = .ok (.iload_n 1, 1) := by decide +kernel
theorem dX0_pinsWith_4 : decode cX0_pinsWith 4 = .ok (.istore 5, 2) := by decide +kernel
theorem dX0_pinsWith_6 : decode cX0_pinsWith 6 = .ok (.iload 5, 2) := by decide +kernel
theorem dX0_pinsWith_8 : decode cX0_pinsWith 8 = .ok (.iload_n 2, 1) := by decide +kernel
theorem dX0_pinsWith_9 : decode cX0_pinsWith 9 = .ok (.if_icmp .ge 46, 3) := by decide +kernel
theorem dX0_pinsWith_12 : decode cX0_pinsWith 12 = .ok (.iconst 0, 1) := by decide +kernel
theorem dX0_pinsWith_13 : decode cX0_pinsWith 13 = .ok (.istore 6, 2) := by decide +kernel
theorem dX0_pinsWith_15 : decode cX0_pinsWith 15 = .ok (.iload 6, 2) := by decide +kernel
theorem dX0_pinsWith_17 : decode cX0_pinsWith 17 = .ok (.aload_n 0, 1) := by decide +kernel
theorem dX0_pinsWith_18 : decode cX0_pinsWith 18 = .ok (.getfield 22, 3) := by decide +kernel
theorem dX0_pinsWith_21 : decode cX0_pinsWith 21 = .ok (.if_icmp .ge 28, 3) := by decide +kernel
theorem dX0_pinsWith_24 : decode cX0_pinsWith 24 = .ok (.aload_n 0, 1) := by decide +kernel
theorem dX0_pinsWith_25 : decode cX0_pinsWith 25 = .ok (.getfield 13, 3) := by decide +kernel
theorem dX0_pinsWith_28 : decode cX0_pinsWith 28 = .ok (.iload 5, 2) := by decide +kernel
theorem dX0_pinsWith_30 : decode cX0_pinsWith 30 = .ok (.iload 6, 2) := by decide +kernel
theorem dX0_pinsWith_32 : decode cX0_pinsWith 32 = .ok (.invokestatic 38, 3) := by decide +kernel
theorem dX0_pinsWith_35 : decode cX0_pinsWith 35 = .ok (.iaload, 1) := by decide +kernel
theorem dX0_pinsWith_36 : decode cX0_pinsWith 36 = .ok (.iload_n 3, 1) := by decide +kernel
theorem dX0_pinsWith_37 : decode cX0_pinsWith 37 = .ok (.if_icmp .lt 6, 3) := by decide +kernel
theorem dX0_pinsWith_40 : decode cX0_pinsWith 40 = .ok (.iinc 4 1, 3) := by decide +kernel
theorem dX0_pinsWith_43 : decode cX0_pinsWith 43 = .ok (.iinc 6 1, 3) := by decide +kernel
theorem dX0_pinsWith_46 : decode cX0_pinsWith 46 = .ok (.goto (-31), 3) := by decide +kernel
theorem dX0_pinsWith_49 : decode cX0_pinsWith 49 = .ok (.iinc 5 1, 3) := by decide +kernel
theorem dX0_pinsWith_52 : decode cX0_pinsWith 52 = .ok (.goto (-46), 3) := by decide +kernel
theorem dX0_pinsWith_55 : decode cX0_pinsWith 55 = .ok (.iload 4, 2) := by decide +kernel
theorem dX0_pinsWith_57 : decode cX0_pinsWith 57 = .ok (.ireturn, 1) := by decide +kernel
theorem dX0_keepOnly_0 : decode cX0_keepOnly 0 = .ok (.iconst 0, 1) := by decide +kernel
theorem dX0_keepOnly_1 : decode cX0_keepOnly 1 = .ok (.istore_n 3, 1) := by decide +kernel
theorem dX0_keepOnly_2 : decode cX0_keepOnly 2 = .ok (.iload_n 3, 1) := by decide +kernel
theorem dX0_keepOnly_3 : decode cX0_keepOnly 3 = .ok (.iload_n 2, 1) := by decide +kernel
theorem dX0_keepOnly_4 : decode cX0_keepOnly 4 = .ok (.if_icmp .ge 27, 3) := by decide +kernel
theorem dX0_keepOnly_7 : decode cX0_keepOnly 7 = .ok (.aload_n 0, 1) := by decide +kernel
theorem dX0_keepOnly_8 : decode cX0_keepOnly 8 = .ok (.getfield 19, 3) := by decide +kernel
theorem dX0_keepOnly_11 : decode cX0_keepOnly 11 = .ok (.iload_n 3, 1) := by decide +kernel
theorem dX0_keepOnly_12 : decode cX0_keepOnly 12 = .ok (.iconst 0, 1) := by decide +kernel
theorem dX0_keepOnly_13 : decode cX0_keepOnly 13 = .ok (.aload_n 0, 1) := by decide +kernel
theorem dX0_keepOnly_14 : decode cX0_keepOnly 14 = .ok (.getfield 13, 3) := by decide +kernel
theorem dX0_keepOnly_17 : decode cX0_keepOnly 17 = .ok (.aload_n 1, 1) := by decide +kernel
theorem dX0_keepOnly_18 : decode cX0_keepOnly 18 = .ok (.iload_n 3, 1) := by decide +kernel
theorem dX0_keepOnly_19 : decode cX0_keepOnly 19 = .ok (.iaload, 1) := by decide +kernel
theorem dX0_keepOnly_20 : decode cX0_keepOnly 20 = .ok (.iaload, 1) := by decide +kernel
theorem dX0_keepOnly_21 : decode cX0_keepOnly 21 = .ok (.invokestatic 52, 3) := by decide +kernel
theorem dX0_keepOnly_24 : decode cX0_keepOnly 24 = .ok (.iastore, 1) := by decide +kernel
theorem dX0_keepOnly_25 : decode cX0_keepOnly 25 = .ok (.iinc 3 1, 3) := by decide +kernel
theorem dX0_keepOnly_28 : decode cX0_keepOnly 28 = .ok (.goto (-26), 3) := by decide +kernel
theorem dX0_keepOnly_31 : decode cX0_keepOnly 31 = .ok (.aload_n 0, 1) := by decide +kernel
theorem dX0_keepOnly_32 : decode cX0_keepOnly 32 = .ok (.invokevirtual 57, 3) := by decide +kernel
theorem dX0_keepOnly_35 : decode cX0_keepOnly 35 = .ok (.iconst 0, 1) := by decide +kernel
theorem dX0_keepOnly_36 : decode cX0_keepOnly 36 = .ok (.istore_n 3, 1) := by decide +kernel
theorem dX0_keepOnly_37 : decode cX0_keepOnly 37 = .ok (.iload_n 3, 1) := by decide +kernel
theorem dX0_keepOnly_38 : decode cX0_keepOnly 38 = .ok (.iload_n 2, 1) := by decide +kernel
theorem dX0_keepOnly_39 : decode cX0_keepOnly 39 = .ok (.if_icmp .ge 23, 3) := by decide +kernel
theorem dX0_keepOnly_42 : decode cX0_keepOnly 42 = .ok (.aload_n 0, 1) := by decide +kernel
theorem dX0_keepOnly_43 : decode cX0_keepOnly 43 = .ok (.getfield 13, 3) := by decide +kernel
theorem dX0_keepOnly_46 : decode cX0_keepOnly 46 = .ok (.aload_n 1, 1) := by decide +kernel
theorem dX0_keepOnly_47 : decode cX0_keepOnly 47 = .ok (.iload_n 3, 1) := by decide +kernel
theorem dX0_keepOnly_48 : decode cX0_keepOnly 48 = .ok (.iaload, 1) := by decide +kernel
theorem dX0_keepOnly_49 : decode cX0_keepOnly 49 = .ok (.aload_n 0, 1) := by decide +kernel
theorem dX0_keepOnly_50 : decode cX0_keepOnly 50 = .ok (.getfield 19, 3) := by decide +kernel
theorem dX0_keepOnly_53 : decode cX0_keepOnly 53 = .ok (.iload_n 3, 1) := by decide +kernel
theorem dX0_keepOnly_54 : decode cX0_keepOnly 54 = .ok (.iaload, 1) := by decide +kernel
theorem dX0_keepOnly_55 : decode cX0_keepOnly 55 = .ok (.iastore, 1) := by decide +kernel
theorem dX0_keepOnly_56 : decode cX0_keepOnly 56 = .ok (.iinc 3 1, 3) := by decide +kernel
theorem dX0_keepOnly_59 : decode cX0_keepOnly 59 = .ok (.goto (-22), 3) := by decide +kernel
theorem dX0_keepOnly_62 : decode cX0_keepOnly 62 = .ok (.aload_n 0, 1) := by decide +kernel
theorem dX0_keepOnly_63 : decode cX0_keepOnly 63 = .ok (.iload_n 2, 1) := by decide +kernel
theorem dX0_keepOnly_64 : decode cX0_keepOnly 64 = .ok (.putfield 42, 3) := by decide +kernel
theorem dX0_keepOnly_67 : decode cX0_keepOnly 67 = .ok (.return_, 1) := by decide +kernel
theorem dX0_willStrike_0 : decode cX0_willStrike 0 = .ok (.aload_n 0, 1) := by decide +kernel
theorem dX0_willStrike_1 : decode cX0_willStrike 1 = .ok (.iload_n 1, 1) := by decide +kernel
theorem dX0_willStrike_2 : decode cX0_willStrike 2 = .ok (.iload_n 2, 1) := by decide +kernel
theorem dX0_willStrike_3 : decode cX0_willStrike 3 = .ok (.invokevirtual 45, 3) := by decide +kernel
theorem dX0_willStrike_6 : decode cX0_willStrike 6 = .ok (.ifCond .eq 24, 3) := by decide +kernel
theorem dX0_willStrike_9 : decode cX0_willStrike 9 = .ok (.aload_n 0, 1) := by decide +kernel
theorem dX0_willStrike_10 : decode cX0_willStrike 10 = .ok (.getfield 13, 3) := by decide +kernel
theorem dX0_willStrike_13 : decode cX0_willStrike 13 = .ok (.iload_n 1, 1) := by decide +kernel
theorem dX0_willStrike_14 : decode cX0_willStrike 14 = .ok (.iload_n 2, 1) := by decide +kernel
theorem dX0_willStrike_15 : decode cX0_willStrike 15 = .ok (.invokestatic 38, 3) := by decide +kernel
theorem dX0_willStrike_18 : decode cX0_willStrike 18 = .ok (.iaload, 1) := by decide +kernel
theorem dX0_willStrike_19 : decode cX0_willStrike 19 = .ok (.aload_n 0, 1) := by decide +kernel
theorem dX0_willStrike_20 : decode cX0_willStrike 20 = .ok (.getfield 29, 3) := by decide +kernel
theorem dX0_willStrike_23 : decode cX0_willStrike 23 = .ok (.if_icmp .ge 7, 3) := by decide +kernel
theorem dX0_willStrike_26 : decode cX0_willStrike 26 = .ok (.iconst 1, 1) := by decide +kernel
theorem dX0_willStrike_27 : decode cX0_willStrike 27 = .ok (.goto 4, 3) := by decide +kernel
theorem dX0_willStrike_30 : decode cX0_willStrike 30 = .ok (.iconst 0, 1) := by decide +kernel
theorem dX0_willStrike_31 : decode cX0_willStrike 31 = .ok (.ireturn, 1) := by decide +kernel
theorem dX0_strikeHole_0 : decode cX0_strikeHole 0 = .ok (.iconst 0, 1) := by decide +kernel
theorem dX0_strikeHole_1 : decode cX0_strikeHole 1 = .ok (.istore_n 3, 1) := by decide +kernel
theorem dX0_strikeHole_2 : decode cX0_strikeHole 2 = .ok (.iconst 0, 1) := by decide +kernel
theorem dX0_strikeHole_3 : decode cX0_strikeHole 3 = .ok (.istore 4, 2) := by decide +kernel
theorem dX0_strikeHole_5 : decode cX0_strikeHole 5 = .ok (.iload 4, 2) := by decide +kernel
theorem dX0_strikeHole_7 : decode cX0_strikeHole 7 = .ok (.aload_n 2, 1) := by decide +kernel
theorem dX0_strikeHole_8 : decode cX0_strikeHole 8 = .ok (.getfield 60, 3) := by decide +kernel
theorem dX0_strikeHole_11 : decode cX0_strikeHole 11 = .ok (.if_icmp .ge 57, 3) := by decide +kernel
theorem dX0_strikeHole_14 : decode cX0_strikeHole 14 = .ok (.aload_n 0, 1) := by decide +kernel
theorem dX0_strikeHole_15 : decode cX0_strikeHole 15 = .ok (.iload 4, 2) := by decide +kernel
theorem dX0_strikeHole_17 : decode cX0_strikeHole 17 = .ok (.iload_n 1, 1) := by decide +kernel
theorem dX0_strikeHole_18 : decode cX0_strikeHole 18 = .ok (.invokevirtual 63, 3) := by decide +kernel
theorem dX0_strikeHole_21 : decode cX0_strikeHole 21 = .ok (.ifCond .eq 41, 3) := by decide +kernel
theorem dX0_strikeHole_24 : decode cX0_strikeHole 24 = .ok (.aload_n 0, 1) := by decide +kernel
theorem dX0_strikeHole_25 : decode cX0_strikeHole 25 = .ok (.getfield 13, 3) := by decide +kernel
theorem dX0_strikeHole_28 : decode cX0_strikeHole 28 = .ok (.iload 4, 2) := by decide +kernel
theorem dX0_strikeHole_30 : decode cX0_strikeHole 30 = .ok (.iload_n 1, 1) := by decide +kernel
theorem dX0_strikeHole_31 : decode cX0_strikeHole 31 = .ok (.invokestatic 38, 3) := by decide +kernel
theorem dX0_strikeHole_34 : decode cX0_strikeHole 34 = .ok (.dup2, 1) := by decide +kernel
theorem dX0_strikeHole_35 : decode cX0_strikeHole 35 = .ok (.iaload, 1) := by decide +kernel
theorem dX0_strikeHole_36 : decode cX0_strikeHole 36 = .ok (.iconst 1, 1) := by decide +kernel
theorem dX0_strikeHole_37 : decode cX0_strikeHole 37 = .ok (.iadd, 1) := by decide +kernel
theorem dX0_strikeHole_38 : decode cX0_strikeHole 38 = .ok (.iastore, 1) := by decide +kernel
theorem dX0_strikeHole_39 : decode cX0_strikeHole 39 = .ok (.iload_n 3, 1) := by decide +kernel
theorem dX0_strikeHole_40 : decode cX0_strikeHole 40 = .ok (.aload_n 2, 1) := by decide +kernel
theorem dX0_strikeHole_41 : decode cX0_strikeHole 41 = .ok (.getfield 66, 3) := by decide +kernel
theorem dX0_strikeHole_44 : decode cX0_strikeHole 44 = .ok (.aload_n 2, 1) := by decide +kernel
theorem dX0_strikeHole_45 : decode cX0_strikeHole 45 = .ok (.getfield 70, 3) := by decide +kernel
theorem dX0_strikeHole_48 : decode cX0_strikeHole 48 = .ok (.iload 4, 2) := by decide +kernel
theorem dX0_strikeHole_50 : decode cX0_strikeHole 50 = .ok (.iaload, 1) := by decide +kernel
theorem dX0_strikeHole_51 : decode cX0_strikeHole 51 = .ok (.baload, 1) := by decide +kernel
theorem dX0_strikeHole_52 : decode cX0_strikeHole 52 = .ok (.ifCond .eq 7, 3) := by decide +kernel
theorem dX0_strikeHole_55 : decode cX0_strikeHole 55 = .ok (.iconst 0, 1) := by decide +kernel
theorem dX0_strikeHole_56 : decode cX0_strikeHole 56 = .ok (.goto 4, 3) := by decide +kernel
theorem dX0_strikeHole_59 : decode cX0_strikeHole 59 = .ok (.iconst 1, 1) := by decide +kernel
theorem dX0_strikeHole_60 : decode cX0_strikeHole 60 = .ok (.iadd, 1) := by decide +kernel
theorem dX0_strikeHole_61 : decode cX0_strikeHole 61 = .ok (.istore_n 3, 1) := by decide +kernel
theorem dX0_strikeHole_62 : decode cX0_strikeHole 62 = .ok (.iinc 4 1, 3) := by decide +kernel
theorem dX0_strikeHole_65 : decode cX0_strikeHole 65 = .ok (.goto (-60), 3) := by decide +kernel
theorem dX0_strikeHole_68 : decode cX0_strikeHole 68 = .ok (.iload_n 3, 1) := by decide +kernel
theorem dX0_strikeHole_69 : decode cX0_strikeHole 69 = .ok (.ireturn, 1) := by decide +kernel
theorem dX0_soundAt_0 : decode cX0_soundAt 0 = .ok (.lconst 0, 1) := by decide +kernel
theorem dX0_soundAt_1 : decode cX0_soundAt 1 = .ok (.lstore_n 3, 1) := by decide +kernel
theorem dX0_soundAt_2 : decode cX0_soundAt 2 = .ok (.iconst 0, 1) := by decide +kernel
theorem dX0_soundAt_3 : decode cX0_soundAt 3 = .ok (.istore 5, 2) := by decide +kernel
theorem dX0_soundAt_5 : decode cX0_soundAt 5 = .ok (.iload 5, 2) := by decide +kernel
theorem dX0_soundAt_7 : decode cX0_soundAt 7 = .ok (.aload_n 2, 1) := by decide +kernel
theorem dX0_soundAt_8 : decode cX0_soundAt 8 = .ok (.getfield 60, 3) := by decide +kernel
theorem dX0_soundAt_11 : decode cX0_soundAt 11 = .ok (.if_icmp .ge 50, 3) := by decide +kernel
theorem dX0_soundAt_14 : decode cX0_soundAt 14 = .ok (.aload_n 2, 1) := by decide +kernel
theorem dX0_soundAt_15 : decode cX0_soundAt 15 = .ok (.getfield 70, 3) := by decide +kernel
theorem dX0_soundAt_18 : decode cX0_soundAt 18 = .ok (.iload 5, 2) := by decide +kernel
theorem dX0_soundAt_20 : decode cX0_soundAt 20 = .ok (.iaload, 1) := by decide +kernel
theorem dX0_soundAt_21 : decode cX0_soundAt 21 = .ok (.istore 6, 2) := by decide +kernel
theorem dX0_soundAt_23 : decode cX0_soundAt 23 = .ok (.aload_n 2, 1) := by decide +kernel
theorem dX0_soundAt_24 : decode cX0_soundAt 24 = .ok (.getfield 66, 3) := by decide +kernel
theorem dX0_soundAt_27 : decode cX0_soundAt 27 = .ok (.iload 6, 2) := by decide +kernel
theorem dX0_soundAt_29 : decode cX0_soundAt 29 = .ok (.baload, 1) := by decide +kernel
theorem dX0_soundAt_30 : decode cX0_soundAt 30 = .ok (.ifCond .ne 25, 3) := by decide +kernel
theorem dX0_soundAt_33 : decode cX0_soundAt 33 = .ok (.aload_n 0, 1) := by decide +kernel
theorem dX0_soundAt_34 : decode cX0_soundAt 34 = .ok (.iload 5, 2) := by decide +kernel
theorem dX0_soundAt_36 : decode cX0_soundAt 36 = .ok (.iload_n 1, 1) := by decide +kernel
theorem dX0_soundAt_37 : decode cX0_soundAt 37 = .ok (.invokevirtual 63, 3) := by decide +kernel
theorem dX0_soundAt_40 : decode cX0_soundAt 40 = .ok (.ifCond .eq 15, 3) := by decide +kernel
theorem dX0_soundAt_43 : decode cX0_soundAt 43 = .ok (.lload_n 3, 1) := by decide +kernel
theorem dX0_soundAt_44 : decode cX0_soundAt 44 = .ok (.lconst 1, 1) := by decide +kernel
theorem dX0_soundAt_45 : decode cX0_soundAt 45 = .ok (.aload_n 2, 1) := by decide +kernel
theorem dX0_soundAt_46 : decode cX0_soundAt 46 = .ok (.getfield 73, 3) := by decide +kernel
theorem dX0_soundAt_49 : decode cX0_soundAt 49 = .ok (.iload 6, 2) := by decide +kernel
theorem dX0_soundAt_51 : decode cX0_soundAt 51 = .ok (.iaload, 1) := by decide +kernel
theorem dX0_soundAt_52 : decode cX0_soundAt 52 = .ok (.lshl, 1) := by decide +kernel
theorem dX0_soundAt_53 : decode cX0_soundAt 53 = .ok (.lor, 1) := by decide +kernel
theorem dX0_soundAt_54 : decode cX0_soundAt 54 = .ok (.lstore_n 3, 1) := by decide +kernel
theorem dX0_soundAt_55 : decode cX0_soundAt 55 = .ok (.iinc 5 1, 3) := by decide +kernel
theorem dX0_soundAt_58 : decode cX0_soundAt 58 = .ok (.goto (-53), 3) := by decide +kernel
theorem dX0_soundAt_61 : decode cX0_soundAt 61 = .ok (.lload_n 3, 1) := by decide +kernel
theorem dX0_soundAt_62 : decode cX0_soundAt 62 = .ok (.lreturn, 1) := by decide +kernel
theorem dX1_init_0 : decode cX1_init 0 = .ok (.aload_n 0, 1) := by decide +kernel
theorem dX1_init_1 : decode cX1_init 1 = .ok (.invokespecial 3, 3) := by decide +kernel
theorem dX1_init_4 : decode cX1_init 4 = .ok (.aload_n 0, 1) := by decide +kernel
theorem dX1_init_5 : decode cX1_init 5 = .ok (.bipush 12, 2) := by decide +kernel
theorem dX1_init_7 : decode cX1_init 7 = .ok (.newarray .int, 2) := by decide +kernel
theorem dX1_init_9 : decode cX1_init 9 = .ok (.putfield 11, 3) := by decide +kernel
theorem dX1_init_12 : decode cX1_init 12 = .ok (.aload_n 0, 1) := by decide +kernel
theorem dX1_init_13 : decode cX1_init 13 = .ok (.bipush 12, 2) := by decide +kernel
theorem dX1_init_15 : decode cX1_init 15 = .ok (.newarray .int, 2) := by decide +kernel
theorem dX1_init_17 : decode cX1_init 17 = .ok (.putfield 15, 3) := by decide +kernel
theorem dX1_init_20 : decode cX1_init 20 = .ok (.aload_n 0, 1) := by decide +kernel
theorem dX1_init_21 : decode cX1_init 21 = .ok (.bipush 12, 2) := by decide +kernel
theorem dX1_init_23 : decode cX1_init 23 = .ok (.newarray .int, 2) := by decide +kernel
theorem dX1_init_25 : decode cX1_init 25 = .ok (.putfield 18, 3) := by decide +kernel
theorem dX1_init_28 : decode cX1_init 28 = .ok (.aload_n 0, 1) := by decide +kernel
theorem dX1_init_29 : decode cX1_init 29 = .ok (.bipush 12, 2) := by decide +kernel
theorem dX1_init_31 : decode cX1_init 31 = .ok (.newarray .int, 2) := by decide +kernel
theorem dX1_init_33 : decode cX1_init 33 = .ok (.putfield 21, 3) := by decide +kernel
theorem dX1_init_36 : decode cX1_init 36 = .ok (.aload_n 0, 1) := by decide +kernel
theorem dX1_init_37 : decode cX1_init 37 = .ok (.bipush 12, 2) := by decide +kernel
theorem dX1_init_39 : decode cX1_init 39 = .ok (.newarray .boolean, 2) := by decide +kernel
theorem dX1_init_41 : decode cX1_init 41 = .ok (.putfield 24, 3) := by decide +kernel
theorem dX1_init_44 : decode cX1_init 44 = .ok (.aload_n 0, 1) := by decide +kernel
theorem dX1_init_45 : decode cX1_init 45 = .ok (.bipush 36, 2) := by decide +kernel
theorem dX1_init_47 : decode cX1_init 47 = .ok (.newarray .int, 2) := by decide +kernel
theorem dX1_init_49 : decode cX1_init 49 = .ok (.putfield 28, 3) := by decide +kernel
theorem dX1_init_52 : decode cX1_init 52 = .ok (.aload_n 0, 1) := by decide +kernel
theorem dX1_init_53 : decode cX1_init 53 = .ok (.bipush 48, 2) := by decide +kernel
theorem dX1_init_55 : decode cX1_init 55 = .ok (.newarray .int, 2) := by decide +kernel
theorem dX1_init_57 : decode cX1_init 57 = .ok (.putfield 31, 3) := by decide +kernel
theorem dX1_init_60 : decode cX1_init 60 = .ok (.aload_n 0, 1) := by decide +kernel
theorem dX1_init_61 : decode cX1_init 61 = .ok (.getfield 31, 3) := by decide +kernel
theorem dX1_init_64 : decode cX1_init 64 = .ok (.iconst (-1), 1) := by decide +kernel
theorem dX1_init_65 : decode cX1_init 65 = .ok (.invokestatic 34, 3) := by decide +kernel
theorem dX1_init_68 : decode cX1_init 68 = .ok (.return_, 1) := by decide +kernel
theorem dX1_has_0 : decode cX1_has 0 = .ok (.iload_n 1, 1) := by decide +kernel
theorem dX1_has_1 : decode cX1_has 1 = .ok (.ifCond .lt 15, 3) := by decide +kernel
theorem dX1_has_4 : decode cX1_has 4 = .ok (.iload_n 1, 1) := by decide +kernel
theorem dX1_has_5 : decode cX1_has 5 = .ok (.aload_n 0, 1) := by decide +kernel
theorem dX1_has_6 : decode cX1_has 6 = .ok (.getfield 40, 3) := by decide +kernel
theorem dX1_has_9 : decode cX1_has 9 = .ok (.if_icmp .ge 7, 3) := by decide +kernel
theorem dX1_has_12 : decode cX1_has 12 = .ok (.iconst 1, 1) := by decide +kernel
theorem dX1_has_13 : decode cX1_has 13 = .ok (.goto 4, 3) := by decide +kernel
theorem dX1_has_16 : decode cX1_has 16 = .ok (.iconst 0, 1) := by decide +kernel
theorem dX1_has_17 : decode cX1_has 17 = .ok (.ireturn, 1) := by decide +kernel
theorem dX1_hang_0 : decode cX1_hang 0 = .ok (.aload_n 0, 1) := by decide +kernel
theorem dX1_hang_1 : decode cX1_hang 1 = .ok (.getfield 40, 3) := by decide +kernel
theorem dX1_hang_4 : decode cX1_hang 4 = .ok (.bipush 12, 2) := by decide +kernel
theorem dX1_hang_6 : decode cX1_hang 6 = .ok (.if_icmp .ge 13, 3) := by decide +kernel
theorem dX1_hang_9 : decode cX1_hang 9 = .ok (.aload_n 0, 1) := by decide +kernel
theorem dX1_hang_10 : decode cX1_hang 10 = .ok (.getfield 31, 3) := by decide +kernel
theorem dX1_hang_13 : decode cX1_hang 13 = .ok (.iload_n 1, 1) := by decide +kernel
theorem dX1_hang_14 : decode cX1_hang 14 = .ok (.iaload, 1) := by decide +kernel
theorem dX1_hang_15 : decode cX1_hang 15 = .ok (.iconst (-1), 1) := by decide +kernel
theorem dX1_hang_16 : decode cX1_hang 16 = .ok (.if_icmp .eq 5, 3) := by decide +kernel
theorem dX1_hang_19 : decode cX1_hang 19 = .ok (.iconst (-1), 1) := by decide +kernel
theorem dX1_hang_20 : decode cX1_hang 20 = .ok (.ireturn, 1) := by decide +kernel
theorem dX1_hang_21 : decode cX1_hang 21 = .ok (.aload_n 0, 1) := by decide +kernel
theorem dX1_hang_22 : decode cX1_hang 22 = .ok (.getfield 40, 3) := by decide +kernel
theorem dX1_hang_25 : decode cX1_hang 25 = .ok (.istore 4, 2) := by decide +kernel
theorem dX1_hang_27 : decode cX1_hang 27 = .ok (.aload_n 0, 1) := by decide +kernel
theorem dX1_hang_28 : decode cX1_hang 28 = .ok (.getfield 11, 3) := by decide +kernel
theorem dX1_hang_31 : decode cX1_hang 31 = .ok (.iload 4, 2) := by decide +kernel
theorem dX1_hang_33 : decode cX1_hang 33 = .ok (.iload_n 1, 1) := by decide +kernel
theorem dX1_hang_34 : decode cX1_hang 34 = .ok (.iastore, 1) := by decide +kernel
theorem dX1_hang_35 : decode cX1_hang 35 = .ok (.aload_n 0, 1) := by decide +kernel
theorem dX1_hang_36 : decode cX1_hang 36 = .ok (.getfield 15, 3) := by decide +kernel
theorem dX1_hang_39 : decode cX1_hang 39 = .ok (.iload 4, 2) := by decide +kernel
theorem dX1_hang_41 : decode cX1_hang 41 = .ok (.iload_n 2, 1) := by decide +kernel
theorem dX1_hang_42 : decode cX1_hang 42 = .ok (.iastore, 1) := by decide +kernel
theorem dX1_hang_43 : decode cX1_hang 43 = .ok (.aload_n 0, 1) := by decide +kernel
theorem dX1_hang_44 : decode cX1_hang 44 = .ok (.getfield 18, 3) := by decide +kernel
theorem dX1_hang_47 : decode cX1_hang 47 = .ok (.iload 4, 2) := by decide +kernel
theorem dX1_hang_49 : decode cX1_hang 49 = .ok (.iload_n 3, 1) := by decide +kernel
theorem dX1_hang_50 : decode cX1_hang 50 = .ok (.iastore, 1) := by decide +kernel
theorem dX1_hang_51 : decode cX1_hang 51 = .ok (.aload_n 0, 1) := by decide +kernel
theorem dX1_hang_52 : decode cX1_hang 52 = .ok (.getfield 21, 3) := by decide +kernel
theorem dX1_hang_55 : decode cX1_hang 55 = .ok (.iload 4, 2) := by decide +kernel
theorem dX1_hang_57 : decode cX1_hang 57 = .ok (.aload_n 0, 1) := by decide +kernel
theorem dX1_hang_58 : decode cX1_hang 58 = .ok (.getfield 44, 3) := by decide +kernel
theorem dX1_hang_61 : decode cX1_hang 61 = .ok (.iastore, 1) := by decide +kernel
theorem dX1_hang_62 : decode cX1_hang 62 = .ok (.iconst 0, 1) := by decide +kernel
theorem dX1_hang_63 : decode cX1_hang 63 = .ok (.istore 5, 2) := by decide +kernel
theorem dX1_hang_65 : decode cX1_hang 65 = .ok (.iload 5, 2) := by decide +kernel
theorem dX1_hang_67 : decode cX1_hang 67 = .ok (.iload_n 3, 1) := by decide +kernel
theorem dX1_hang_68 : decode cX1_hang 68 = .ok (.if_icmp .ge 39, 3) := by decide +kernel
theorem dX1_hang_71 : decode cX1_hang 71 = .ok (.aload_n 0, 1) := by decide +kernel
theorem dX1_hang_72 : decode cX1_hang 72 = .ok (.getfield 44, 3) := by decide +kernel
theorem dX1_hang_75 : decode cX1_hang 75 = .ok (.bipush 36, 2) := by decide +kernel
theorem dX1_hang_77 : decode cX1_hang 77 = .ok (.if_icmp .ge 30, 3) := by decide +kernel
theorem dX1_hang_80 : decode cX1_hang 80 = .ok (.aload_n 0, 1) := by decide +kernel
theorem dX1_hang_81 : decode cX1_hang 81 = .ok (.getfield 28, 3) := by decide +kernel
theorem dX1_hang_84 : decode cX1_hang 84 = .ok (.aload_n 0, 1) := by decide +kernel
theorem dX1_hang_85 : decode cX1_hang 85 = .ok (.getfield 44, 3) := by decide +kernel
theorem dX1_hang_88 : decode cX1_hang 88 = .ok (.iload 4, 2) := by decide +kernel
theorem dX1_hang_90 : decode cX1_hang 90 = .ok (.iastore, 1) := by decide +kernel
theorem dX1_hang_91 : decode cX1_hang 91 = .ok (.aload_n 0, 1) := by decide +kernel
theorem dX1_hang_92 : decode cX1_hang 92 = .ok (.dup, 1) := by decide +kernel
theorem dX1_hang_93 : decode cX1_hang 93 = .ok (.getfield 44, 3) := by decide +kernel
theorem dX1_hang_96 : decode cX1_hang 96 = .ok (.iconst 1, 1) := by decide +kernel
theorem dX1_hang_97 : decode cX1_hang 97 = .ok (.iadd, 1) := by decide +kernel
theorem dX1_hang_98 : decode cX1_hang 98 = .ok (.putfield 44, 3) := by decide +kernel
theorem dX1_hang_101 : decode cX1_hang 101 = .ok (.iinc 5 1, 3) := by decide +kernel
theorem dX1_hang_104 : decode cX1_hang 104 = .ok (.goto (-39), 3) := by decide +kernel
theorem dX1_hang_107 : decode cX1_hang 107 = .ok (.aload_n 0, 1) := by decide +kernel
theorem dX1_hang_108 : decode cX1_hang 108 = .ok (.getfield 31, 3) := by decide +kernel
theorem dX1_hang_111 : decode cX1_hang 111 = .ok (.iload_n 1, 1) := by decide +kernel
theorem dX1_hang_112 : decode cX1_hang 112 = .ok (.iload 4, 2) := by decide +kernel
theorem dX1_hang_114 : decode cX1_hang 114 = .ok (.iastore, 1) := by decide +kernel
theorem dX1_hang_115 : decode cX1_hang 115 = .ok (.aload_n 0, 1) := by decide +kernel
theorem dX1_hang_116 : decode cX1_hang 116 = .ok (.dup, 1) := by decide +kernel
theorem dX1_hang_117 : decode cX1_hang 117 = .ok (.getfield 40, 3) := by decide +kernel
theorem dX1_hang_120 : decode cX1_hang 120 = .ok (.iconst 1, 1) := by decide +kernel
theorem dX1_hang_121 : decode cX1_hang 121 = .ok (.iadd, 1) := by decide +kernel
theorem dX1_hang_122 : decode cX1_hang 122 = .ok (.putfield 40, 3) := by decide +kernel
theorem dX1_hang_125 : decode cX1_hang 125 = .ok (.iload 4, 2) := by decide +kernel
theorem dX1_hang_127 : decode cX1_hang 127 = .ok (.ireturn, 1) := by decide +kernel
theorem dX1_wholeAt_0 : decode cX1_wholeAt 0 = .ok (.iload_n 1, 1) := by decide +kernel
theorem dX1_wholeAt_1 : decode cX1_wholeAt 1 = .ok (.ifCond .lt 9, 3) := by decide +kernel
theorem dX1_wholeAt_4 : decode cX1_wholeAt 4 = .ok (.iload_n 1, 1) := by decide +kernel
theorem dX1_wholeAt_5 : decode cX1_wholeAt 5 = .ok (.bipush 48, 2) := by decide +kernel
theorem dX1_wholeAt_7 : decode cX1_wholeAt 7 = .ok (.if_icmp .lt 5, 3) := by decide +kernel
theorem dX1_wholeAt_10 : decode cX1_wholeAt 10 = .ok (.iconst (-1), 1) := by decide +kernel
theorem dX1_wholeAt_11 : decode cX1_wholeAt 11 = .ok (.ireturn, 1) := by decide +kernel
theorem dX1_wholeAt_12 : decode cX1_wholeAt 12 = .ok (.aload_n 0, 1) := by decide +kernel
theorem dX1_wholeAt_13 : decode cX1_wholeAt 13 = .ok (.getfield 31, 3) := by decide +kernel
theorem dX1_wholeAt_16 : decode cX1_wholeAt 16 = .ok (.iload_n 1, 1) := by decide +kernel
theorem dX1_wholeAt_17 : decode cX1_wholeAt 17 = .ok (.iaload, 1) := by decide +kernel
theorem dX1_wholeAt_18 : decode cX1_wholeAt 18 = .ok (.istore_n 2, 1) := by decide +kernel
theorem dX1_wholeAt_19 : decode cX1_wholeAt 19 = .ok (.iload_n 2, 1) := by decide +kernel
theorem dX1_wholeAt_20 : decode cX1_wholeAt 20 = .ok (.iconst (-1), 1) := by decide +kernel
theorem dX1_wholeAt_21 : decode cX1_wholeAt 21 = .ok (.if_icmp .eq 12, 3) := by decide +kernel
theorem dX1_wholeAt_24 : decode cX1_wholeAt 24 = .ok (.aload_n 0, 1) := by decide +kernel
theorem dX1_wholeAt_25 : decode cX1_wholeAt 25 = .ok (.getfield 24, 3) := by decide +kernel
theorem dX1_wholeAt_28 : decode cX1_wholeAt 28 = .ok (.iload_n 2, 1) := by decide +kernel
theorem dX1_wholeAt_29 : decode cX1_wholeAt 29 = .ok (.baload, 1) := by decide +kernel
theorem dX1_wholeAt_30 : decode cX1_wholeAt 30 = .ok (.ifCond .eq 7, 3) := by decide +kernel
theorem dX1_wholeAt_33 : decode cX1_wholeAt 33 = .ok (.iconst (-1), 1) := by decide +kernel
theorem dX1_wholeAt_34 : decode cX1_wholeAt 34 = .ok (.goto 4, 3) := by decide +kernel
theorem dX1_wholeAt_37 : decode cX1_wholeAt 37 = .ok (.iload_n 2, 1) := by decide +kernel
theorem dX1_wholeAt_38 : decode cX1_wholeAt 38 = .ok (.ireturn, 1) := by decide +kernel
theorem dX1_bestShift_0 : decode cX1_bestShift 0 = .ok (.iconst 0, 1) := by decide +kernel
theorem dX1_bestShift_1 : decode cX1_bestShift 1 = .ok (.istore_n 2, 1) := by decide +kernel
theorem dX1_bestShift_2 : decode cX1_bestShift 2 = .ok (.iload_n 2, 1) := by decide +kernel
theorem dX1_bestShift_3 : decode cX1_bestShift 3 = .ok (.bipush 24, 2) := by decide +kernel
theorem dX1_bestShift_5 : decode cX1_bestShift 5 = .ok (.if_icmp .gt 33, 3) := by decide +kernel
theorem dX1_bestShift_8 : decode cX1_bestShift 8 = .ok (.aload_n 0, 1) := by decide +kernel
theorem dX1_bestShift_9 : decode cX1_bestShift 9 = .ok (.aload_n 1, 1) := by decide +kernel
theorem dX1_bestShift_10 : decode cX1_bestShift 10 = .ok (.iload_n 2, 1) := by decide +kernel
theorem dX1_bestShift_11 : decode cX1_bestShift 11 = .ok (.invokevirtual 47, 3) := by decide +kernel
theorem dX1_bestShift_14 : decode cX1_bestShift 14 = .ok (.ifCond .eq 5, 3) := by decide +kernel
theorem dX1_bestShift_17 : decode cX1_bestShift 17 = .ok (.iload_n 2, 1) := by decide +kernel
theorem dX1_bestShift_18 : decode cX1_bestShift 18 = .ok (.ireturn, 1) := by decide +kernel
theorem dX1_bestShift_19 : decode cX1_bestShift 19 = .ok (.aload_n 0, 1) := by decide +kernel
theorem dX1_bestShift_20 : decode cX1_bestShift 20 = .ok (.aload_n 1, 1) := by decide +kernel
theorem dX1_bestShift_21 : decode cX1_bestShift 21 = .ok (.iload_n 2, 1) := by decide +kernel
theorem dX1_bestShift_22 : decode cX1_bestShift 22 = .ok (.ineg, 1) := by decide +kernel
theorem dX1_bestShift_23 : decode cX1_bestShift 23 = .ok (.invokevirtual 47, 3) := by decide +kernel
theorem dX1_bestShift_26 : decode cX1_bestShift 26 = .ok (.ifCond .eq 6, 3) := by decide +kernel
theorem dX1_bestShift_29 : decode cX1_bestShift 29 = .ok (.iload_n 2, 1) := by decide +kernel
theorem dX1_bestShift_30 : decode cX1_bestShift 30 = .ok (.ineg, 1) := by decide +kernel
theorem dX1_bestShift_31 : decode cX1_bestShift 31 = .ok (.ireturn, 1) := by decide +kernel
theorem dX1_bestShift_32 : decode cX1_bestShift 32 = .ok (.iinc 2 1, 3) := by decide +kernel
theorem dX1_bestShift_35 : decode cX1_bestShift 35 = .ok (.goto (-33), 3) := by decide +kernel
theorem dX1_bestShift_38 : decode cX1_bestShift 38 = .ok (.bipush (-100), 2) := by decide +kernel
theorem dX1_bestShift_40 : decode cX1_bestShift 40 = .ok (.ireturn, 1) := by decide +kernel
theorem dX1_canPlay_0 : decode cX1_canPlay 0 = .ok (.iconst 0, 1) := by decide +kernel
theorem dX1_canPlay_1 : decode cX1_canPlay 1 = .ok (.istore_n 3, 1) := by decide +kernel
theorem dX1_canPlay_2 : decode cX1_canPlay 2 = .ok (.iload_n 3, 1) := by decide +kernel
theorem dX1_canPlay_3 : decode cX1_canPlay 3 = .ok (.aload_n 1, 1) := by decide +kernel
theorem dX1_canPlay_4 : decode cX1_canPlay 4 = .ok (.getfield 51, 3) := by decide +kernel
theorem dX1_canPlay_7 : decode cX1_canPlay 7 = .ok (.if_icmp .ge 27, 3) := by decide +kernel
theorem dX1_canPlay_10 : decode cX1_canPlay 10 = .ok (.aload_n 0, 1) := by decide +kernel
theorem dX1_canPlay_11 : decode cX1_canPlay 11 = .ok (.aload_n 1, 1) := by decide +kernel
theorem dX1_canPlay_12 : decode cX1_canPlay 12 = .ok (.getfield 56, 3) := by decide +kernel
theorem dX1_canPlay_15 : decode cX1_canPlay 15 = .ok (.iload_n 3, 1) := by decide +kernel
theorem dX1_canPlay_16 : decode cX1_canPlay 16 = .ok (.iaload, 1) := by decide +kernel
theorem dX1_canPlay_17 : decode cX1_canPlay 17 = .ok (.iload_n 2, 1) := by decide +kernel
theorem dX1_canPlay_18 : decode cX1_canPlay 18 = .ok (.iadd, 1) := by decide +kernel
theorem dX1_canPlay_19 : decode cX1_canPlay 19 = .ok (.invokevirtual 57, 3) := by decide +kernel
theorem dX1_canPlay_22 : decode cX1_canPlay 22 = .ok (.iconst (-1), 1) := by decide +kernel
theorem dX1_canPlay_23 : decode cX1_canPlay 23 = .ok (.if_icmp .ne 5, 3) := by decide +kernel
theorem dX1_canPlay_26 : decode cX1_canPlay 26 = .ok (.iconst 0, 1) := by decide +kernel
theorem dX1_canPlay_27 : decode cX1_canPlay 27 = .ok (.ireturn, 1) := by decide +kernel
theorem dX1_canPlay_28 : decode cX1_canPlay 28 = .ok (.iinc 3 1, 3) := by decide +kernel
theorem dX1_canPlay_31 : decode cX1_canPlay 31 = .ok (.goto (-29), 3) := by decide +kernel
theorem dX1_canPlay_34 : decode cX1_canPlay 34 = .ok (.iconst 1, 1) := by decide +kernel
theorem dX1_canPlay_35 : decode cX1_canPlay 35 = .ok (.ireturn, 1) := by decide +kernel
theorem dX2_init_0 : decode cX2_init 0 = .ok (.aload_n 0, 1) := by decide +kernel
theorem dX2_init_1 : decode cX2_init 1 = .ok (.invokespecial 1, 3) := by decide +kernel
theorem dX2_init_4 : decode cX2_init 4 = .ok (.aload_n 0, 1) := by decide +kernel
theorem dX2_init_5 : decode cX2_init 5 = .ok (.bipush 12, 2) := by decide +kernel
theorem dX2_init_7 : decode cX2_init 7 = .ok (.newarray .int, 2) := by decide +kernel
theorem dX2_init_9 : decode cX2_init 9 = .ok (.putfield 9, 3) := by decide +kernel
theorem dX2_init_12 : decode cX2_init 12 = .ok (.aload_n 0, 1) := by decide +kernel
theorem dX2_init_13 : decode cX2_init 13 = .ok (.bipush 12, 2) := by decide +kernel
theorem dX2_init_15 : decode cX2_init 15 = .ok (.newarray .int, 2) := by decide +kernel
theorem dX2_init_17 : decode cX2_init 17 = .ok (.putfield 13, 3) := by decide +kernel
theorem dX2_init_20 : decode cX2_init 20 = .ok (.aload_n 0, 1) := by decide +kernel
theorem dX2_init_21 : decode cX2_init 21 = .ok (.bipush 12, 2) := by decide +kernel
theorem dX2_init_23 : decode cX2_init 23 = .ok (.newarray .int, 2) := by decide +kernel
theorem dX2_init_25 : decode cX2_init 25 = .ok (.putfield 16, 3) := by decide +kernel
theorem dX2_init_28 : decode cX2_init 28 = .ok (.aload_n 0, 1) := by decide +kernel
theorem dX2_init_29 : decode cX2_init 29 = .ok (.bipush 12, 2) := by decide +kernel
theorem dX2_init_31 : decode cX2_init 31 = .ok (.newarray .int, 2) := by decide +kernel
theorem dX2_init_33 : decode cX2_init 33 = .ok (.putfield 19, 3) := by decide +kernel
theorem dX2_init_36 : decode cX2_init 36 = .ok (.aload_n 0, 1) := by decide +kernel
theorem dX2_init_37 : decode cX2_init 37 = .ok (.sipush 972, 3) := by decide +kernel
theorem dX2_init_40 : decode cX2_init 40 = .ok (.newarray .int, 2) := by decide +kernel
theorem dX2_init_42 : decode cX2_init 42 = .ok (.putfield 22, 3) := by decide +kernel
theorem dX2_init_45 : decode cX2_init 45 = .ok (.aload_n 0, 1) := by decide +kernel
theorem dX2_init_46 : decode cX2_init 46 = .ok (.sipush 972, 3) := by decide +kernel
theorem dX2_init_49 : decode cX2_init 49 = .ok (.newarray .int, 2) := by decide +kernel
theorem dX2_init_51 : decode cX2_init 51 = .ok (.putfield 25, 3) := by decide +kernel
theorem dX2_init_54 : decode cX2_init 54 = .ok (.return_, 1) := by decide +kernel
theorem dX2_begin_0 : decode cX2_begin 0 = .ok (.aload_n 0, 1) := by decide +kernel
theorem dX2_begin_1 : decode cX2_begin 1 = .ok (.iload_n 1, 1) := by decide +kernel
theorem dX2_begin_2 : decode cX2_begin 2 = .ok (.putfield 28, 3) := by decide +kernel
theorem dX2_begin_5 : decode cX2_begin 5 = .ok (.aload_n 0, 1) := by decide +kernel
theorem dX2_begin_6 : decode cX2_begin 6 = .ok (.iconst 0, 1) := by decide +kernel
theorem dX2_begin_7 : decode cX2_begin 7 = .ok (.putfield 32, 3) := by decide +kernel
theorem dX2_begin_10 : decode cX2_begin 10 = .ok (.return_, 1) := by decide +kernel
theorem dX2_add_0 : decode cX2_add 0 = .ok (.iconst 0, 1) := by decide +kernel
theorem dX2_add_1 : decode cX2_add 1 = .ok (.istore 4, 2) := by decide +kernel
theorem dX2_add_3 : decode cX2_add 3 = .ok (.iconst 0, 1) := by decide +kernel
theorem dX2_add_4 : decode cX2_add 4 = .ok (.istore 5, 2) := by decide +kernel
theorem dX2_add_6 : decode cX2_add 6 = .ok (.iload 5, 2) := by decide +kernel
theorem dX2_add_8 : decode cX2_add 8 = .ok (.aload_n 0, 1) := by decide +kernel
theorem dX2_add_9 : decode cX2_add 9 = .ok (.getfield 28, 3) := by decide +kernel
theorem dX2_add_12 : decode cX2_add 12 = .ok (.if_icmp .ge 30, 3) := by decide +kernel
theorem dX2_add_15 : decode cX2_add 15 = .ok (.aload_n 3, 1) := by decide +kernel
theorem dX2_add_16 : decode cX2_add 16 = .ok (.iload_n 2, 1) := by decide +kernel
theorem dX2_add_17 : decode cX2_add 17 = .ok (.iload 5, 2) := by decide +kernel
theorem dX2_add_19 : decode cX2_add 19 = .ok (.iadd, 1) := by decide +kernel
theorem dX2_add_20 : decode cX2_add 20 = .ok (.iload_n 1, 1) := by decide +kernel
theorem dX2_add_21 : decode cX2_add 21 = .ok (.invokevirtual 35, 3) := by decide +kernel
theorem dX2_add_24 : decode cX2_add 24 = .ok (.ifCond .ne 12, 3) := by decide +kernel
theorem dX2_add_27 : decode cX2_add 27 = .ok (.iload 4, 2) := by decide +kernel
theorem dX2_add_29 : decode cX2_add 29 = .ok (.iconst 1, 1) := by decide +kernel
theorem dX2_add_30 : decode cX2_add 30 = .ok (.iload 5, 2) := by decide +kernel
theorem dX2_add_32 : decode cX2_add 32 = .ok (.ishl, 1) := by decide +kernel
theorem dX2_add_33 : decode cX2_add 33 = .ok (.ior, 1) := by decide +kernel
theorem dX2_add_34 : decode cX2_add 34 = .ok (.istore 4, 2) := by decide +kernel
theorem dX2_add_36 : decode cX2_add 36 = .ok (.iinc 5 1, 3) := by decide +kernel
theorem dX2_add_39 : decode cX2_add 39 = .ok (.goto (-33), 3) := by decide +kernel
theorem dX2_add_42 : decode cX2_add 42 = .ok (.aload_n 0, 1) := by decide +kernel
theorem dX2_add_43 : decode cX2_add 43 = .ok (.getfield 13, 3) := by decide +kernel
theorem dX2_add_46 : decode cX2_add 46 = .ok (.aload_n 0, 1) := by decide +kernel
theorem dX2_add_47 : decode cX2_add 47 = .ok (.getfield 32, 3) := by decide +kernel
theorem dX2_add_50 : decode cX2_add 50 = .ok (.iload_n 1, 1) := by decide +kernel
theorem dX2_add_51 : decode cX2_add 51 = .ok (.iastore, 1) := by decide +kernel
theorem dX2_add_52 : decode cX2_add 52 = .ok (.aload_n 0, 1) := by decide +kernel
theorem dX2_add_53 : decode cX2_add 53 = .ok (.getfield 16, 3) := by decide +kernel
theorem dX2_add_56 : decode cX2_add 56 = .ok (.aload_n 0, 1) := by decide +kernel
theorem dX2_add_57 : decode cX2_add 57 = .ok (.getfield 32, 3) := by decide +kernel
theorem dX2_add_60 : decode cX2_add 60 = .ok (.iload 4, 2) := by decide +kernel
theorem dX2_add_62 : decode cX2_add 62 = .ok (.iastore, 1) := by decide +kernel
theorem dX2_add_63 : decode cX2_add 63 = .ok (.aload_n 0, 1) := by decide +kernel
theorem dX2_add_64 : decode cX2_add 64 = .ok (.dup, 1) := by decide +kernel
theorem dX2_add_65 : decode cX2_add 65 = .ok (.getfield 32, 3) := by decide +kernel
theorem dX2_add_68 : decode cX2_add 68 = .ok (.iconst 1, 1) := by decide +kernel
theorem dX2_add_69 : decode cX2_add 69 = .ok (.iadd, 1) := by decide +kernel
theorem dX2_add_70 : decode cX2_add 70 = .ok (.putfield 32, 3) := by decide +kernel
theorem dX2_add_73 : decode cX2_add 73 = .ok (.return_, 1) := by decide +kernel
theorem dX2_choose_0 : decode cX2_choose 0 = .ok (.aload_n 0, 1) := by decide +kernel
theorem dX2_choose_1 : decode cX2_choose 1 = .ok (.getfield 32, 3) := by decide +kernel
theorem dX2_choose_4 : decode cX2_choose 4 = .ok (.ifCond .ne 5, 3) := by decide +kernel
theorem dX2_choose_7 : decode cX2_choose 7 = .ok (.iconst 0, 1) := by decide +kernel
theorem dX2_choose_8 : decode cX2_choose 8 = .ok (.ireturn, 1) := by decide +kernel
theorem dX2_choose_9 : decode cX2_choose 9 = .ok (.aload_n 0, 1) := by decide +kernel
theorem dX2_choose_10 : decode cX2_choose 10 = .ok (.aload_n 1, 1) := by decide +kernel
theorem dX2_choose_11 : decode cX2_choose 11 = .ok (.invokevirtual 41, 3) := by decide +kernel
theorem dX2_choose_14 : decode cX2_choose 14 = .ok (.ifCond .ne 7, 3) := by decide +kernel
theorem dX2_choose_17 : decode cX2_choose 17 = .ok (.sipush 1000, 3) := by decide +kernel
theorem dX2_choose_20 : decode cX2_choose 20 = .ok (.ireturn, 1) := by decide +kernel
theorem dX2_choose_21 : decode cX2_choose 21 = .ok (.aload_n 0, 1) := by decide +kernel
theorem dX2_choose_22 : decode cX2_choose 22 = .ok (.getfield 32, 3) := by decide +kernel
theorem dX2_choose_25 : decode cX2_choose 25 = .ok (.iconst 1, 1) := by decide +kernel
theorem dX2_choose_26 : decode cX2_choose 26 = .ok (.isub, 1) := by decide +kernel
theorem dX2_choose_27 : decode cX2_choose 27 = .ok (.istore_n 2, 1) := by decide +kernel
theorem dX2_choose_28 : decode cX2_choose 28 = .ok (.iload_n 2, 1) := by decide +kernel
theorem dX2_choose_29 : decode cX2_choose 29 = .ok (.ifCond .lt 14, 3) := by decide +kernel
theorem dX2_choose_32 : decode cX2_choose 32 = .ok (.aload_n 0, 1) := by decide +kernel
theorem dX2_choose_33 : decode cX2_choose 33 = .ok (.iload_n 2, 1) := by decide +kernel
theorem dX2_choose_34 : decode cX2_choose 34 = .ok (.invokevirtual 45, 3) := by decide +kernel
theorem dX2_choose_37 : decode cX2_choose 37 = .ok (.iinc 2 (-1), 3) := by decide +kernel
theorem dX2_choose_40 : decode cX2_choose 40 = .ok (.goto (-12), 3) := by decide +kernel
theorem dX2_choose_43 : decode cX2_choose 43 = .ok (.aload_n 0, 1) := by decide +kernel
theorem dX2_choose_44 : decode cX2_choose 44 = .ok (.getfield 22, 3) := by decide +kernel
theorem dX2_choose_47 : decode cX2_choose 47 = .ok (.iconst 0, 1) := by decide +kernel
theorem dX2_choose_48 : decode cX2_choose 48 = .ok (.iaload, 1) := by decide +kernel
theorem dX2_choose_49 : decode cX2_choose 49 = .ok (.sipush 1000, 3) := by decide +kernel
theorem dX2_choose_52 : decode cX2_choose 52 = .ok (.if_icmp .ge 7, 3) := by decide +kernel
theorem dX2_choose_55 : decode cX2_choose 55 = .ok (.aload_n 0, 1) := by decide +kernel
theorem dX2_choose_56 : decode cX2_choose 56 = .ok (.invokevirtual 49, 3) := by decide +kernel
theorem dX2_choose_59 : decode cX2_choose 59 = .ok (.aload_n 0, 1) := by decide +kernel
theorem dX2_choose_60 : decode cX2_choose 60 = .ok (.getfield 22, 3) := by decide +kernel
theorem dX2_choose_63 : decode cX2_choose 63 = .ok (.iconst 0, 1) := by decide +kernel
theorem dX2_choose_64 : decode cX2_choose 64 = .ok (.iaload, 1) := by decide +kernel
theorem dX2_choose_65 : decode cX2_choose 65 = .ok (.ireturn, 1) := by decide +kernel
theorem dX2_findClashes_0 : decode cX2_findClashes 0 = .ok (.iconst 0, 1) := by decide +kernel
theorem dX2_findClashes_1 : decode cX2_findClashes 1 = .ok (.istore_n 2, 1) := by decide +kernel
theorem dX2_findClashes_2 : decode cX2_findClashes 2 = .ok (.iload_n 2, 1) := by decide +kernel
theorem dX2_findClashes_3 : decode cX2_findClashes 3 = .ok (.aload_n 0, 1) := by decide +kernel
theorem dX2_findClashes_4 : decode cX2_findClashes 4 = .ok (.getfield 32, 3) := by decide +kernel
theorem dX2_findClashes_7 : decode cX2_findClashes 7 = .ok (.if_icmp .ge 83, 3) := by decide +kernel
theorem dX2_findClashes_10 : decode cX2_findClashes 10 = .ok (.aload_n 0, 1) := by decide +kernel
theorem dX2_findClashes_11 : decode cX2_findClashes 11 = .ok (.getfield 19, 3) := by decide +kernel
theorem dX2_findClashes_14 : decode cX2_findClashes 14 = .ok (.iload_n 2, 1) := by decide +kernel
theorem dX2_findClashes_15 : decode cX2_findClashes 15 = .ok (.iconst 0, 1) := by decide +kernel
theorem dX2_findClashes_16 : decode cX2_findClashes 16 = .ok (.iastore, 1) := by decide +kernel
theorem dX2_findClashes_17 : decode cX2_findClashes 17 = .ok (.iconst 0, 1) := by decide +kernel
theorem dX2_findClashes_18 : decode cX2_findClashes 18 = .ok (.istore_n 3, 1) := by decide +kernel
theorem dX2_findClashes_19 : decode cX2_findClashes 19 = .ok (.iload_n 3, 1) := by decide +kernel
theorem dX2_findClashes_20 : decode cX2_findClashes 20 = .ok (.iload_n 2, 1) := by decide +kernel
theorem dX2_findClashes_21 : decode cX2_findClashes 21 = .ok (.if_icmp .ge 63, 3) := by decide +kernel
theorem dX2_findClashes_24 : decode cX2_findClashes 24 = .ok (.aload_n 1, 1) := by decide +kernel
theorem dX2_findClashes_25 : decode cX2_findClashes 25 = .ok (.aload_n 0, 1) := by decide +kernel
theorem dX2_findClashes_26 : decode cX2_findClashes 26 = .ok (.getfield 13, 3) := by decide +kernel
theorem dX2_findClashes_29 : decode cX2_findClashes 29 = .ok (.iload_n 2, 1) := by decide +kernel
theorem dX2_findClashes_30 : decode cX2_findClashes 30 = .ok (.iaload, 1) := by decide +kernel
theorem dX2_findClashes_31 : decode cX2_findClashes 31 = .ok (.aload_n 0, 1) := by decide +kernel
theorem dX2_findClashes_32 : decode cX2_findClashes 32 = .ok (.getfield 13, 3) := by decide +kernel
theorem dX2_findClashes_35 : decode cX2_findClashes 35 = .ok (.iload_n 3, 1) := by decide +kernel
theorem dX2_findClashes_36 : decode cX2_findClashes 36 = .ok (.iaload, 1) := by decide +kernel
theorem dX2_findClashes_37 : decode cX2_findClashes 37 = .ok (.invokevirtual 52, 3) := by decide +kernel
theorem dX2_findClashes_40 : decode cX2_findClashes 40 = .ok (.ifCond .eq 38, 3) := by decide +kernel
theorem dX2_findClashes_43 : decode cX2_findClashes 43 = .ok (.aload_n 0, 1) := by decide +kernel
theorem dX2_findClashes_44 : decode cX2_findClashes 44 = .ok (.getfield 19, 3) := by decide +kernel
theorem dX2_findClashes_47 : decode cX2_findClashes 47 = .ok (.iload_n 2, 1) := by decide +kernel
theorem dX2_findClashes_48 : decode cX2_findClashes 48 = .ok (.dup2, 1) := by decide +kernel
theorem dX2_findClashes_49 : decode cX2_findClashes 49 = .ok (.iaload, 1) := by decide +kernel
theorem dX2_findClashes_50 : decode cX2_findClashes 50 = .ok (.iconst 1, 1) := by decide +kernel
theorem dX2_findClashes_51 : decode cX2_findClashes 51 = .ok (.iload_n 3, 1) := by decide +kernel
theorem dX2_findClashes_52 : decode cX2_findClashes 52 = .ok (.ishl, 1) := by decide +kernel
theorem dX2_findClashes_53 : decode cX2_findClashes 53 = .ok (.ior, 1) := by decide +kernel
theorem dX2_findClashes_54 : decode cX2_findClashes 54 = .ok (.iastore, 1) := by decide +kernel
theorem dX2_findClashes_55 : decode cX2_findClashes 55 = .ok (.iload_n 2, 1) := by decide +kernel
theorem dX2_findClashes_56 : decode cX2_findClashes 56 = .ok (.iload_n 3, 1) := by decide +kernel
theorem dX2_findClashes_57 : decode cX2_findClashes 57 = .ok (.isub, 1) := by decide +kernel
theorem dX2_findClashes_58 : decode cX2_findClashes 58 = .ok (.aload_n 0, 1) := by decide +kernel
theorem dX2_findClashes_59 : decode cX2_findClashes 59 = .ok (.getfield 32, 3) := by decide +kernel
theorem dX2_findClashes_62 : decode cX2_findClashes 62 = .ok (.iload_n 2, 1) := by decide +kernel
theorem dX2_findClashes_63 : decode cX2_findClashes 63 = .ok (.isub, 1) := by decide +kernel
theorem dX2_findClashes_64 : decode cX2_findClashes 64 = .ok (.iload_n 3, 1) := by decide +kernel
theorem dX2_findClashes_65 : decode cX2_findClashes 65 = .ok (.iadd, 1) := by decide +kernel
theorem dX2_findClashes_66 : decode cX2_findClashes 66 = .ok (.invokestatic 55, 3) := by decide +kernel
theorem dX2_findClashes_69 : decode cX2_findClashes 69 = .ok (.aload_n 0, 1) := by decide +kernel
theorem dX2_findClashes_70 : decode cX2_findClashes 70 = .ok (.getfield 28, 3) := by decide +kernel
theorem dX2_findClashes_73 : decode cX2_findClashes 73 = .ok (.if_icmp .lt 5, 3) := by decide +kernel
theorem dX2_findClashes_76 : decode cX2_findClashes 76 = .ok (.iconst 0, 1) := by decide +kernel
theorem dX2_findClashes_77 : decode cX2_findClashes 77 = .ok (.ireturn, 1) := by decide +kernel
theorem dX2_findClashes_78 : decode cX2_findClashes 78 = .ok (.iinc 3 1, 3) := by decide +kernel
theorem dX2_findClashes_81 : decode cX2_findClashes 81 = .ok (.goto (-62), 3) := by decide +kernel
theorem dX2_findClashes_84 : decode cX2_findClashes 84 = .ok (.iinc 2 1, 3) := by decide +kernel
theorem dX2_findClashes_87 : decode cX2_findClashes 87 = .ok (.goto (-85), 3) := by decide +kernel
theorem dX2_findClashes_90 : decode cX2_findClashes 90 = .ok (.iconst 1, 1) := by decide +kernel
theorem dX2_findClashes_91 : decode cX2_findClashes 91 = .ok (.ireturn, 1) := by decide +kernel
theorem dX2_decideStroke_0 : decode cX2_decideStroke 0 = .ok (.iload_n 1, 1) := by decide +kernel
theorem dX2_decideStroke_1 : decode cX2_decideStroke 1 = .ok (.ifCond .le 10, 3) := by decide +kernel
theorem dX2_decideStroke_4 : decode cX2_decideStroke 4 = .ok (.aload_n 0, 1) := by decide +kernel
theorem dX2_decideStroke_5 : decode cX2_decideStroke 5 = .ok (.getfield 28, 3) := by decide +kernel
theorem dX2_decideStroke_8 : decode cX2_decideStroke 8 = .ok (.goto 4, 3) := by decide +kernel
theorem dX2_decideStroke_11 : decode cX2_decideStroke 11 = .ok (.iconst 1, 1) := by decide +kernel
theorem dX2_decideStroke_12 : decode cX2_decideStroke 12 = .ok (.istore_n 2, 1) := by decide +kernel
theorem dX2_decideStroke_13 : decode cX2_decideStroke 13 = .ok (.iload_n 1, 1) := by decide +kernel
theorem dX2_decideStroke_14 : decode cX2_decideStroke 14 = .ok (.iconst 1, 1) := by decide +kernel
theorem dX2_decideStroke_15 : decode cX2_decideStroke 15 = .ok (.if_icmp .le 10, 3) := by decide +kernel
theorem dX2_decideStroke_18 : decode cX2_decideStroke 18 = .ok (.aload_n 0, 1) := by decide +kernel
theorem dX2_decideStroke_19 : decode cX2_decideStroke 19 = .ok (.getfield 28, 3) := by decide +kernel
theorem dX2_decideStroke_22 : decode cX2_decideStroke 22 = .ok (.goto 4, 3) := by decide +kernel
theorem dX2_decideStroke_25 : decode cX2_decideStroke 25 = .ok (.iconst 1, 1) := by decide +kernel
theorem dX2_decideStroke_26 : decode cX2_decideStroke 26 = .ok (.istore_n 3, 1) := by decide +kernel
theorem dX2_decideStroke_27 : decode cX2_decideStroke 27 = .ok (.iload_n 1, 1) := by decide +kernel
theorem dX2_decideStroke_28 : decode cX2_decideStroke 28 = .ok (.iconst 3, 1) := by decide +kernel
theorem dX2_decideStroke_29 : decode cX2_decideStroke 29 = .ok (.if_icmp .le 10, 3) := by decide +kernel
theorem dX2_decideStroke_32 : decode cX2_decideStroke 32 = .ok (.aload_n 0, 1) := by decide +kernel
theorem dX2_decideStroke_33 : decode cX2_decideStroke 33 = .ok (.getfield 28, 3) := by decide +kernel
theorem dX2_decideStroke_36 : decode cX2_decideStroke 36 = .ok (.goto 4, 3) := by decide +kernel
theorem dX2_decideStroke_39 : decode cX2_decideStroke 39 = .ok (.iconst 1, 1) := by decide +kernel
theorem dX2_decideStroke_40 : decode cX2_decideStroke 40 = .ok (.istore 4, 2) := by decide +kernel
theorem dX2_decideStroke_42 : decode cX2_decideStroke 42 = .ok (.iload_n 1, 1) := by decide +kernel
theorem dX2_decideStroke_43 : decode cX2_decideStroke 43 = .ok (.iconst 2, 1) := by decide +kernel
theorem dX2_decideStroke_44 : decode cX2_decideStroke 44 = .ok (.if_icmp .le 10, 3) := by decide +kernel
theorem dX2_decideStroke_47 : decode cX2_decideStroke 47 = .ok (.aload_n 0, 1) := by decide +kernel
theorem dX2_decideStroke_48 : decode cX2_decideStroke 48 = .ok (.getfield 28, 3) := by decide +kernel
theorem dX2_decideStroke_51 : decode cX2_decideStroke 51 = .ok (.goto 4, 3) := by decide +kernel
theorem dX2_decideStroke_54 : decode cX2_decideStroke 54 = .ok (.iconst 1, 1) := by decide +kernel
theorem dX2_decideStroke_55 : decode cX2_decideStroke 55 = .ok (.istore 5, 2) := by decide +kernel
theorem dX2_decideStroke_57 : decode cX2_decideStroke 57 = .ok (.iconst 0, 1) := by decide +kernel
theorem dX2_decideStroke_58 : decode cX2_decideStroke 58 = .ok (.istore 6, 2) := by decide +kernel
theorem dX2_decideStroke_60 : decode cX2_decideStroke 60 = .ok (.iload 6, 2) := by decide +kernel
theorem dX2_decideStroke_62 : decode cX2_decideStroke 62 = .ok (.iload_n 2, 1) := by decide +kernel
theorem dX2_decideStroke_63 : decode cX2_decideStroke 63 = .ok (.if_icmp .ge 91, 3) := by decide +kernel
theorem dX2_decideStroke_66 : decode cX2_decideStroke 66 = .ok (.iconst 0, 1) := by decide +kernel
theorem dX2_decideStroke_67 : decode cX2_decideStroke 67 = .ok (.istore 7, 2) := by decide +kernel
theorem dX2_decideStroke_69 : decode cX2_decideStroke 69 = .ok (.iload 7, 2) := by decide +kernel
theorem dX2_decideStroke_71 : decode cX2_decideStroke 71 = .ok (.iload_n 3, 1) := by decide +kernel
theorem dX2_decideStroke_72 : decode cX2_decideStroke 72 = .ok (.if_icmp .ge 76, 3) := by decide +kernel
theorem dX2_decideStroke_75 : decode cX2_decideStroke 75 = .ok (.iconst 0, 1) := by decide +kernel
theorem dX2_decideStroke_76 : decode cX2_decideStroke 76 = .ok (.istore 8, 2) := by decide +kernel
theorem dX2_decideStroke_78 : decode cX2_decideStroke 78 = .ok (.iload 8, 2) := by decide +kernel
theorem dX2_decideStroke_80 : decode cX2_decideStroke 80 = .ok (.iload 4, 2) := by decide +kernel
theorem dX2_decideStroke_82 : decode cX2_decideStroke 82 = .ok (.if_icmp .ge 60, 3) := by decide +kernel
theorem dX2_decideStroke_85 : decode cX2_decideStroke 85 = .ok (.iconst 0, 1) := by decide +kernel
theorem dX2_decideStroke_86 : decode cX2_decideStroke 86 = .ok (.istore 9, 2) := by decide +kernel
theorem dX2_decideStroke_88 : decode cX2_decideStroke 88 = .ok (.iload 9, 2) := by decide +kernel
theorem dX2_decideStroke_90 : decode cX2_decideStroke 90 = .ok (.iload 5, 2) := by decide +kernel
theorem dX2_decideStroke_92 : decode cX2_decideStroke 92 = .ok (.if_icmp .ge 44, 3) := by decide +kernel
theorem dX2_decideStroke_95 : decode cX2_decideStroke 95 = .ok (.bipush 27, 2) := by decide +kernel
theorem dX2_decideStroke_97 : decode cX2_decideStroke 97 = .ok (.iload 6, 2) := by decide +kernel
theorem dX2_decideStroke_99 : decode cX2_decideStroke 99 = .ok (.imul, 1) := by decide +kernel
theorem dX2_decideStroke_100 : decode cX2_decideStroke 100 = .ok (.bipush 9, 2) := by decide +kernel
theorem dX2_decideStroke_102 : decode cX2_decideStroke 102 = .ok (.iload 7, 2) := by decide +kernel
theorem dX2_decideStroke_104 : decode cX2_decideStroke 104 = .ok (.imul, 1) := by decide +kernel
theorem dX2_decideStroke_105 : decode cX2_decideStroke 105 = .ok (.iadd, 1) := by decide +kernel
theorem dX2_decideStroke_106 : decode cX2_decideStroke 106 = .ok (.iconst 3, 1) := by decide +kernel
theorem dX2_decideStroke_107 : decode cX2_decideStroke 107 = .ok (.iload 8, 2) := by decide +kernel
theorem dX2_decideStroke_109 : decode cX2_decideStroke 109 = .ok (.imul, 1) := by decide +kernel
theorem dX2_decideStroke_110 : decode cX2_decideStroke 110 = .ok (.iadd, 1) := by decide +kernel
theorem dX2_decideStroke_111 : decode cX2_decideStroke 111 = .ok (.iload 9, 2) := by decide +kernel
theorem dX2_decideStroke_113 : decode cX2_decideStroke 113 = .ok (.iadd, 1) := by decide +kernel
theorem dX2_decideStroke_114 : decode cX2_decideStroke 114 = .ok (.istore 10, 2) := by decide +kernel
theorem dX2_decideStroke_116 : decode cX2_decideStroke 116 = .ok (.aload_n 0, 1) := by decide +kernel
theorem dX2_decideStroke_117 : decode cX2_decideStroke 117 = .ok (.iload_n 1, 1) := by decide +kernel
theorem dX2_decideStroke_118 : decode cX2_decideStroke 118 = .ok (.iload 10, 2) := by decide +kernel
theorem dX2_decideStroke_120 : decode cX2_decideStroke 120 = .ok (.aload_n 0, 1) := by decide +kernel
theorem dX2_decideStroke_121 : decode cX2_decideStroke 121 = .ok (.iload_n 1, 1) := by decide +kernel
theorem dX2_decideStroke_122 : decode cX2_decideStroke 122 = .ok (.iload 10, 2) := by decide +kernel
theorem dX2_decideStroke_124 : decode cX2_decideStroke 124 = .ok (.invokevirtual 61, 3) := by decide +kernel
theorem dX2_decideStroke_127 : decode cX2_decideStroke 127 = .ok (.invokevirtual 64, 3) := by decide +kernel
theorem dX2_decideStroke_130 : decode cX2_decideStroke 130 = .ok (.iinc 9 1, 3) := by decide +kernel
theorem dX2_decideStroke_133 : decode cX2_decideStroke 133 = .ok (.goto (-45), 3) := by decide +kernel
theorem dX2_decideStroke_136 : decode cX2_decideStroke 136 = .ok (.iinc 8 1, 3) := by decide +kernel
theorem dX2_decideStroke_139 : decode cX2_decideStroke 139 = .ok (.goto (-61), 3) := by decide +kernel
theorem dX2_decideStroke_142 : decode cX2_decideStroke 142 = .ok (.iinc 7 1, 3) := by decide +kernel
theorem dX2_decideStroke_145 : decode cX2_decideStroke 145 = .ok (.goto (-76), 3) := by decide +kernel
theorem dX2_decideStroke_148 : decode cX2_decideStroke 148 = .ok (.iinc 6 1, 3) := by decide +kernel
theorem dX2_decideStroke_151 : decode cX2_decideStroke 151 = .ok (.goto (-91), 3) := by decide +kernel
theorem dX2_decideStroke_154 : decode cX2_decideStroke 154 = .ok (.return_, 1) := by decide +kernel
theorem dX2_busyHammers_0 : decode cX2_busyHammers 0 = .ok (.aload_n 0, 1) := by decide +kernel
theorem dX2_busyHammers_1 : decode cX2_busyHammers 1 = .ok (.getfield 19, 3) := by decide +kernel
theorem dX2_busyHammers_4 : decode cX2_busyHammers 4 = .ok (.iload_n 1, 1) := by decide +kernel
theorem dX2_busyHammers_5 : decode cX2_busyHammers 5 = .ok (.iaload, 1) := by decide +kernel
theorem dX2_busyHammers_6 : decode cX2_busyHammers 6 = .ok (.istore_n 3, 1) := by decide +kernel
theorem dX2_busyHammers_7 : decode cX2_busyHammers 7 = .ok (.iconst 0, 1) := by decide +kernel
theorem dX2_busyHammers_8 : decode cX2_busyHammers 8 = .ok (.istore 4, 2) := by decide +kernel
theorem dX2_busyHammers_10 : decode cX2_busyHammers 10 = .ok (.iload_n 3, 1) := by decide +kernel
theorem dX2_busyHammers_11 : decode cX2_busyHammers 11 = .ok (.iconst 1, 1) := by decide +kernel
theorem dX2_busyHammers_12 : decode cX2_busyHammers 12 = .ok (.iand, 1) := by decide +kernel
theorem dX2_busyHammers_13 : decode cX2_busyHammers 13 = .ok (.ifCond .eq 14, 3) := by decide +kernel
theorem dX2_busyHammers_16 : decode cX2_busyHammers 16 = .ok (.iload 4, 2) := by decide +kernel
theorem dX2_busyHammers_18 : decode cX2_busyHammers 18 = .ok (.iconst 1, 1) := by decide +kernel
theorem dX2_busyHammers_19 : decode cX2_busyHammers 19 = .ok (.iload_n 2, 1) := by decide +kernel
theorem dX2_busyHammers_20 : decode cX2_busyHammers 20 = .ok (.bipush 27, 2) := by decide +kernel
theorem dX2_busyHammers_22 : decode cX2_busyHammers 22 = .ok (.idiv, 1) := by decide +kernel
theorem dX2_busyHammers_23 : decode cX2_busyHammers 23 = .ok (.ishl, 1) := by decide +kernel
theorem dX2_busyHammers_24 : decode cX2_busyHammers 24 = .ok (.ior, 1) := by decide +kernel
theorem dX2_busyHammers_25 : decode cX2_busyHammers 25 = .ok (.istore 4, 2) := by decide +kernel
theorem dX2_busyHammers_27 : decode cX2_busyHammers 27 = .ok (.iload_n 3, 1) := by decide +kernel
theorem dX2_busyHammers_28 : decode cX2_busyHammers 28 = .ok (.iconst 2, 1) := by decide +kernel
theorem dX2_busyHammers_29 : decode cX2_busyHammers 29 = .ok (.iand, 1) := by decide +kernel
theorem dX2_busyHammers_30 : decode cX2_busyHammers 30 = .ok (.ifCond .eq 16, 3) := by decide +kernel
theorem dX2_busyHammers_33 : decode cX2_busyHammers 33 = .ok (.iload 4, 2) := by decide +kernel
theorem dX2_busyHammers_35 : decode cX2_busyHammers 35 = .ok (.iconst 1, 1) := by decide +kernel
theorem dX2_busyHammers_36 : decode cX2_busyHammers 36 = .ok (.iload_n 2, 1) := by decide +kernel
theorem dX2_busyHammers_37 : decode cX2_busyHammers 37 = .ok (.bipush 9, 2) := by decide +kernel
theorem dX2_busyHammers_39 : decode cX2_busyHammers 39 = .ok (.idiv, 1) := by decide +kernel
theorem dX2_busyHammers_40 : decode cX2_busyHammers 40 = .ok (.iconst 3, 1) := by decide +kernel
theorem dX2_busyHammers_41 : decode cX2_busyHammers 41 = .ok (.irem, 1) := by decide +kernel
theorem dX2_busyHammers_42 : decode cX2_busyHammers 42 = .ok (.ishl, 1) := by decide +kernel
theorem dX2_busyHammers_43 : decode cX2_busyHammers 43 = .ok (.ior, 1) := by decide +kernel
theorem dX2_busyHammers_44 : decode cX2_busyHammers 44 = .ok (.istore 4, 2) := by decide +kernel
theorem dX2_busyHammers_46 : decode cX2_busyHammers 46 = .ok (.iload_n 1, 1) := by decide +kernel
theorem dX2_busyHammers_47 : decode cX2_busyHammers 47 = .ok (.iconst 3, 1) := by decide +kernel
theorem dX2_busyHammers_48 : decode cX2_busyHammers 48 = .ok (.if_icmp .le 25, 3) := by decide +kernel
theorem dX2_busyHammers_51 : decode cX2_busyHammers 51 = .ok (.iload_n 3, 1) := by decide +kernel
theorem dX2_busyHammers_52 : decode cX2_busyHammers 52 = .ok (.iload_n 1, 1) := by decide +kernel
theorem dX2_busyHammers_53 : decode cX2_busyHammers 53 = .ok (.iconst 2, 1) := by decide +kernel
theorem dX2_busyHammers_54 : decode cX2_busyHammers 54 = .ok (.isub, 1) := by decide +kernel
theorem dX2_busyHammers_55 : decode cX2_busyHammers 55 = .ok (.ishr, 1) := by decide +kernel
theorem dX2_busyHammers_56 : decode cX2_busyHammers 56 = .ok (.iconst 1, 1) := by decide +kernel
theorem dX2_busyHammers_57 : decode cX2_busyHammers 57 = .ok (.iand, 1) := by decide +kernel
theorem dX2_busyHammers_58 : decode cX2_busyHammers 58 = .ok (.ifCond .eq 15, 3) := by decide +kernel
theorem dX2_busyHammers_61 : decode cX2_busyHammers 61 = .ok (.iload 4, 2) := by decide +kernel
theorem dX2_busyHammers_63 : decode cX2_busyHammers 63 = .ok (.iconst 1, 1) := by decide +kernel
theorem dX2_busyHammers_64 : decode cX2_busyHammers 64 = .ok (.iload_n 2, 1) := by decide +kernel
theorem dX2_busyHammers_65 : decode cX2_busyHammers 65 = .ok (.iconst 3, 1) := by decide +kernel
theorem dX2_busyHammers_66 : decode cX2_busyHammers 66 = .ok (.idiv, 1) := by decide +kernel
theorem dX2_busyHammers_67 : decode cX2_busyHammers 67 = .ok (.iconst 3, 1) := by decide +kernel
theorem dX2_busyHammers_68 : decode cX2_busyHammers 68 = .ok (.irem, 1) := by decide +kernel
theorem dX2_busyHammers_69 : decode cX2_busyHammers 69 = .ok (.ishl, 1) := by decide +kernel
theorem dX2_busyHammers_70 : decode cX2_busyHammers 70 = .ok (.ior, 1) := by decide +kernel
theorem dX2_busyHammers_71 : decode cX2_busyHammers 71 = .ok (.istore 4, 2) := by decide +kernel
theorem dX2_busyHammers_73 : decode cX2_busyHammers 73 = .ok (.iload_n 1, 1) := by decide +kernel
theorem dX2_busyHammers_74 : decode cX2_busyHammers 74 = .ok (.iconst 2, 1) := by decide +kernel
theorem dX2_busyHammers_75 : decode cX2_busyHammers 75 = .ok (.if_icmp .le 23, 3) := by decide +kernel
theorem dX2_busyHammers_78 : decode cX2_busyHammers 78 = .ok (.iload_n 3, 1) := by decide +kernel
theorem dX2_busyHammers_79 : decode cX2_busyHammers 79 = .ok (.iload_n 1, 1) := by decide +kernel
theorem dX2_busyHammers_80 : decode cX2_busyHammers 80 = .ok (.iconst 1, 1) := by decide +kernel
theorem dX2_busyHammers_81 : decode cX2_busyHammers 81 = .ok (.isub, 1) := by decide +kernel
theorem dX2_busyHammers_82 : decode cX2_busyHammers 82 = .ok (.ishr, 1) := by decide +kernel
theorem dX2_busyHammers_83 : decode cX2_busyHammers 83 = .ok (.iconst 1, 1) := by decide +kernel
theorem dX2_busyHammers_84 : decode cX2_busyHammers 84 = .ok (.iand, 1) := by decide +kernel
theorem dX2_busyHammers_85 : decode cX2_busyHammers 85 = .ok (.ifCond .eq 13, 3) := by decide +kernel
theorem dX2_busyHammers_88 : decode cX2_busyHammers 88 = .ok (.iload 4, 2) := by decide +kernel
theorem dX2_busyHammers_90 : decode cX2_busyHammers 90 = .ok (.iconst 1, 1) := by decide +kernel
theorem dX2_busyHammers_91 : decode cX2_busyHammers 91 = .ok (.iload_n 2, 1) := by decide +kernel
theorem dX2_busyHammers_92 : decode cX2_busyHammers 92 = .ok (.iconst 3, 1) := by decide +kernel
theorem dX2_busyHammers_93 : decode cX2_busyHammers 93 = .ok (.irem, 1) := by decide +kernel
theorem dX2_busyHammers_94 : decode cX2_busyHammers 94 = .ok (.ishl, 1) := by decide +kernel
theorem dX2_busyHammers_95 : decode cX2_busyHammers 95 = .ok (.ior, 1) := by decide +kernel
theorem dX2_busyHammers_96 : decode cX2_busyHammers 96 = .ok (.istore 4, 2) := by decide +kernel
theorem dX2_busyHammers_98 : decode cX2_busyHammers 98 = .ok (.iload 4, 2) := by decide +kernel
theorem dX2_busyHammers_100 : decode cX2_busyHammers 100 = .ok (.ireturn, 1) := by decide +kernel
theorem dX2_decide_0 : decode cX2_decide 0 = .ok (.sipush 1000, 3) := by decide +kernel
theorem dX2_decide_3 : decode cX2_decide 3 = .ok (.istore 4, 2) := by decide +kernel
theorem dX2_decide_5 : decode cX2_decide 5 = .ok (.iload_n 2, 1) := by decide +kernel
theorem dX2_decide_6 : decode cX2_decide 6 = .ok (.istore 5, 2) := by decide +kernel
theorem dX2_decide_8 : decode cX2_decide 8 = .ok (.iload_n 1, 1) := by decide +kernel
theorem dX2_decide_9 : decode cX2_decide 9 = .ok (.iconst 2, 1) := by decide +kernel
theorem dX2_decide_10 : decode cX2_decide 10 = .ok (.if_icmp .ge 7, 3) := by decide +kernel
theorem dX2_decide_13 : decode cX2_decide 13 = .ok (.iload_n 2, 1) := by decide +kernel
theorem dX2_decide_14 : decode cX2_decide 14 = .ok (.goto 16, 3) := by decide +kernel
theorem dX2_decide_17 : decode cX2_decide 17 = .ok (.iload_n 2, 1) := by decide +kernel
theorem dX2_decide_18 : decode cX2_decide 18 = .ok (.bipush 9, 2) := by decide +kernel
theorem dX2_decide_20 : decode cX2_decide 20 = .ok (.idiv, 1) := by decide +kernel
theorem dX2_decide_21 : decode cX2_decide 21 = .ok (.bipush 9, 2) := by decide +kernel
theorem dX2_decide_23 : decode cX2_decide 23 = .ok (.imul, 1) := by decide +kernel
theorem dX2_decide_24 : decode cX2_decide 24 = .ok (.iload_n 2, 1) := by decide +kernel
theorem dX2_decide_25 : decode cX2_decide 25 = .ok (.iconst 3, 1) := by decide +kernel
theorem dX2_decide_26 : decode cX2_decide 26 = .ok (.irem, 1) := by decide +kernel
theorem dX2_decide_27 : decode cX2_decide 27 = .ok (.iconst 3, 1) := by decide +kernel
theorem dX2_decide_28 : decode cX2_decide 28 = .ok (.imul, 1) := by decide +kernel
theorem dX2_decide_29 : decode cX2_decide 29 = .ok (.iadd, 1) := by decide +kernel
theorem dX2_decide_30 : decode cX2_decide 30 = .ok (.istore 6, 2) := by decide +kernel
theorem dX2_decide_32 : decode cX2_decide 32 = .ok (.iconst 0, 1) := by decide +kernel
theorem dX2_decide_33 : decode cX2_decide 33 = .ok (.istore 7, 2) := by decide +kernel
theorem dX2_decide_35 : decode cX2_decide 35 = .ok (.iload 7, 2) := by decide +kernel
theorem dX2_decide_37 : decode cX2_decide 37 = .ok (.aload_n 0, 1) := by decide +kernel
theorem dX2_decide_38 : decode cX2_decide 38 = .ok (.getfield 28, 3) := by decide +kernel
theorem dX2_decide_41 : decode cX2_decide 41 = .ok (.if_icmp .ge 88, 3) := by decide +kernel
theorem dX2_decide_44 : decode cX2_decide 44 = .ok (.iload_n 3, 1) := by decide +kernel
theorem dX2_decide_45 : decode cX2_decide 45 = .ok (.iload 7, 2) := by decide +kernel
theorem dX2_decide_47 : decode cX2_decide 47 = .ok (.ishr, 1) := by decide +kernel
theorem dX2_decide_48 : decode cX2_decide 48 = .ok (.iconst 1, 1) := by decide +kernel
theorem dX2_decide_49 : decode cX2_decide 49 = .ok (.iand, 1) := by decide +kernel
theorem dX2_decide_50 : decode cX2_decide 50 = .ok (.ifCond .ne 73, 3) := by decide +kernel
theorem dX2_decide_53 : decode cX2_decide 53 = .ok (.iload 6, 2) := by decide +kernel
theorem dX2_decide_55 : decode cX2_decide 55 = .ok (.getstatic 68, 3) := by decide +kernel
theorem dX2_decide_58 : decode cX2_decide 58 = .ok (.iload_n 1, 1) := by decide +kernel
theorem dX2_decide_59 : decode cX2_decide 59 = .ok (.iaload, 1) := by decide +kernel
theorem dX2_decide_60 : decode cX2_decide 60 = .ok (.iload 7, 2) := by decide +kernel
theorem dX2_decide_62 : decode cX2_decide 62 = .ok (.imul, 1) := by decide +kernel
theorem dX2_decide_63 : decode cX2_decide 63 = .ok (.iadd, 1) := by decide +kernel
theorem dX2_decide_64 : decode cX2_decide 64 = .ok (.istore 8, 2) := by decide +kernel
theorem dX2_decide_66 : decode cX2_decide 66 = .ok (.aload_n 0, 1) := by decide +kernel
theorem dX2_decide_67 : decode cX2_decide 67 = .ok (.getfield 16, 3) := by decide +kernel
theorem dX2_decide_70 : decode cX2_decide 70 = .ok (.iload_n 1, 1) := by decide +kernel
theorem dX2_decide_71 : decode cX2_decide 71 = .ok (.iaload, 1) := by decide +kernel
theorem dX2_decide_72 : decode cX2_decide 72 = .ok (.iload 7, 2) := by decide +kernel
theorem dX2_decide_74 : decode cX2_decide 74 = .ok (.ishr, 1) := by decide +kernel
theorem dX2_decide_75 : decode cX2_decide 75 = .ok (.iconst 1, 1) := by decide +kernel
theorem dX2_decide_76 : decode cX2_decide 76 = .ok (.iand, 1) := by decide +kernel
theorem dX2_decide_77 : decode cX2_decide 77 = .ok (.istore 9, 2) := by decide +kernel
theorem dX2_decide_79 : decode cX2_decide 79 = .ok (.iload_n 1, 1) := by decide +kernel
theorem dX2_decide_80 : decode cX2_decide 80 = .ok (.iconst 1, 1) := by decide +kernel
theorem dX2_decide_81 : decode cX2_decide 81 = .ok (.iadd, 1) := by decide +kernel
theorem dX2_decide_82 : decode cX2_decide 82 = .ok (.aload_n 0, 1) := by decide +kernel
theorem dX2_decide_83 : decode cX2_decide 83 = .ok (.getfield 32, 3) := by decide +kernel
theorem dX2_decide_86 : decode cX2_decide 86 = .ok (.if_icmp .ge 22, 3) := by decide +kernel
theorem dX2_decide_89 : decode cX2_decide 89 = .ok (.iload 9, 2) := by decide +kernel
theorem dX2_decide_91 : decode cX2_decide 91 = .ok (.aload_n 0, 1) := by decide +kernel
theorem dX2_decide_92 : decode cX2_decide 92 = .ok (.getfield 22, 3) := by decide +kernel
theorem dX2_decide_95 : decode cX2_decide 95 = .ok (.iload_n 1, 1) := by decide +kernel
theorem dX2_decide_96 : decode cX2_decide 96 = .ok (.iconst 1, 1) := by decide +kernel
theorem dX2_decide_97 : decode cX2_decide 97 = .ok (.iadd, 1) := by decide +kernel
theorem dX2_decide_98 : decode cX2_decide 98 = .ok (.bipush 81, 2) := by decide +kernel
theorem dX2_decide_100 : decode cX2_decide 100 = .ok (.imul, 1) := by decide +kernel
theorem dX2_decide_101 : decode cX2_decide 101 = .ok (.iload 8, 2) := by decide +kernel
theorem dX2_decide_103 : decode cX2_decide 103 = .ok (.iadd, 1) := by decide +kernel
theorem dX2_decide_104 : decode cX2_decide 104 = .ok (.iaload, 1) := by decide +kernel
theorem dX2_decide_105 : decode cX2_decide 105 = .ok (.iadd, 1) := by decide +kernel
theorem dX2_decide_106 : decode cX2_decide 106 = .ok (.istore 9, 2) := by decide +kernel
theorem dX2_decide_108 : decode cX2_decide 108 = .ok (.iload 9, 2) := by decide +kernel
theorem dX2_decide_110 : decode cX2_decide 110 = .ok (.iload 4, 2) := by decide +kernel
theorem dX2_decide_112 : decode cX2_decide 112 = .ok (.if_icmp .ge 11, 3) := by decide +kernel
theorem dX2_decide_115 : decode cX2_decide 115 = .ok (.iload 9, 2) := by decide +kernel
theorem dX2_decide_117 : decode cX2_decide 117 = .ok (.istore 4, 2) := by decide +kernel
theorem dX2_decide_119 : decode cX2_decide 119 = .ok (.iload 8, 2) := by decide +kernel
theorem dX2_decide_121 : decode cX2_decide 121 = .ok (.istore 5, 2) := by decide +kernel
theorem dX2_decide_123 : decode cX2_decide 123 = .ok (.iinc 7 1, 3) := by decide +kernel
theorem dX2_decide_126 : decode cX2_decide 126 = .ok (.goto (-91), 3) := by decide +kernel
theorem dX2_decide_129 : decode cX2_decide 129 = .ok (.aload_n 0, 1) := by decide +kernel
theorem dX2_decide_130 : decode cX2_decide 130 = .ok (.getfield 22, 3) := by decide +kernel
theorem dX2_decide_133 : decode cX2_decide 133 = .ok (.iload_n 1, 1) := by decide +kernel
theorem dX2_decide_134 : decode cX2_decide 134 = .ok (.bipush 81, 2) := by decide +kernel
theorem dX2_decide_136 : decode cX2_decide 136 = .ok (.imul, 1) := by decide +kernel
theorem dX2_decide_137 : decode cX2_decide 137 = .ok (.iload_n 2, 1) := by decide +kernel
theorem dX2_decide_138 : decode cX2_decide 138 = .ok (.iadd, 1) := by decide +kernel
theorem dX2_decide_139 : decode cX2_decide 139 = .ok (.iload 4, 2) := by decide +kernel
theorem dX2_decide_141 : decode cX2_decide 141 = .ok (.iastore, 1) := by decide +kernel
theorem dX2_decide_142 : decode cX2_decide 142 = .ok (.aload_n 0, 1) := by decide +kernel
theorem dX2_decide_143 : decode cX2_decide 143 = .ok (.getfield 25, 3) := by decide +kernel
theorem dX2_decide_146 : decode cX2_decide 146 = .ok (.iload_n 1, 1) := by decide +kernel
theorem dX2_decide_147 : decode cX2_decide 147 = .ok (.bipush 81, 2) := by decide +kernel
theorem dX2_decide_149 : decode cX2_decide 149 = .ok (.imul, 1) := by decide +kernel
theorem dX2_decide_150 : decode cX2_decide 150 = .ok (.iload_n 2, 1) := by decide +kernel
theorem dX2_decide_151 : decode cX2_decide 151 = .ok (.iadd, 1) := by decide +kernel
theorem dX2_decide_152 : decode cX2_decide 152 = .ok (.iload 5, 2) := by decide +kernel
theorem dX2_decide_154 : decode cX2_decide 154 = .ok (.iastore, 1) := by decide +kernel
theorem dX2_decide_155 : decode cX2_decide 155 = .ok (.return_, 1) := by decide +kernel
theorem dX2_followBest_0 : decode cX2_followBest 0 = .ok (.iconst 0, 1) := by decide +kernel
theorem dX2_followBest_1 : decode cX2_followBest 1 = .ok (.istore_n 1, 1) := by decide +kernel
theorem dX2_followBest_2 : decode cX2_followBest 2 = .ok (.iconst 0, 1) := by decide +kernel
theorem dX2_followBest_3 : decode cX2_followBest 3 = .ok (.istore_n 2, 1) := by decide +kernel
theorem dX2_followBest_4 : decode cX2_followBest 4 = .ok (.iload_n 2, 1) := by decide +kernel
theorem dX2_followBest_5 : decode cX2_followBest 5 = .ok (.aload_n 0, 1) := by decide +kernel
theorem dX2_followBest_6 : decode cX2_followBest 6 = .ok (.getfield 32, 3) := by decide +kernel
theorem dX2_followBest_9 : decode cX2_followBest 9 = .ok (.if_icmp .ge 32, 3) := by decide +kernel
theorem dX2_followBest_12 : decode cX2_followBest 12 = .ok (.aload_n 0, 1) := by decide +kernel
theorem dX2_followBest_13 : decode cX2_followBest 13 = .ok (.getfield 25, 3) := by decide +kernel
theorem dX2_followBest_16 : decode cX2_followBest 16 = .ok (.iload_n 2, 1) := by decide +kernel
theorem dX2_followBest_17 : decode cX2_followBest 17 = .ok (.bipush 81, 2) := by decide +kernel
theorem dX2_followBest_19 : decode cX2_followBest 19 = .ok (.imul, 1) := by decide +kernel
theorem dX2_followBest_20 : decode cX2_followBest 20 = .ok (.iload_n 1, 1) := by decide +kernel
theorem dX2_followBest_21 : decode cX2_followBest 21 = .ok (.iadd, 1) := by decide +kernel
theorem dX2_followBest_22 : decode cX2_followBest 22 = .ok (.iaload, 1) := by decide +kernel
theorem dX2_followBest_23 : decode cX2_followBest 23 = .ok (.istore_n 1, 1) := by decide +kernel
theorem dX2_followBest_24 : decode cX2_followBest 24 = .ok (.aload_n 0, 1) := by decide +kernel
theorem dX2_followBest_25 : decode cX2_followBest 25 = .ok (.getfield 9, 3) := by decide +kernel
theorem dX2_followBest_28 : decode cX2_followBest 28 = .ok (.iload_n 2, 1) := by decide +kernel
theorem dX2_followBest_29 : decode cX2_followBest 29 = .ok (.iload_n 2, 1) := by decide +kernel
theorem dX2_followBest_30 : decode cX2_followBest 30 = .ok (.iload_n 1, 1) := by decide +kernel
theorem dX2_followBest_31 : decode cX2_followBest 31 = .ok (.invokestatic 71, 3) := by decide +kernel
theorem dX2_followBest_34 : decode cX2_followBest 34 = .ok (.iastore, 1) := by decide +kernel
theorem dX2_followBest_35 : decode cX2_followBest 35 = .ok (.iinc 2 1, 3) := by decide +kernel
theorem dX2_followBest_38 : decode cX2_followBest 38 = .ok (.goto (-34), 3) := by decide +kernel
theorem dX2_followBest_41 : decode cX2_followBest 41 = .ok (.return_, 1) := by decide +kernel
theorem dX2_hammerOf_0 : decode cX2_hammerOf 0 = .ok (.iload_n 0, 1) := by decide +kernel
theorem dX2_hammerOf_1 : decode cX2_hammerOf 1 = .ok (.ifCond .ne 8, 3) := by decide +kernel
theorem dX2_hammerOf_4 : decode cX2_hammerOf 4 = .ok (.iload_n 1, 1) := by decide +kernel
theorem dX2_hammerOf_5 : decode cX2_hammerOf 5 = .ok (.bipush 27, 2) := by decide +kernel
theorem dX2_hammerOf_7 : decode cX2_hammerOf 7 = .ok (.idiv, 1) := by decide +kernel
theorem dX2_hammerOf_8 : decode cX2_hammerOf 8 = .ok (.ireturn, 1) := by decide +kernel
theorem dX2_hammerOf_9 : decode cX2_hammerOf 9 = .ok (.iload_n 0, 1) := by decide +kernel
theorem dX2_hammerOf_10 : decode cX2_hammerOf 10 = .ok (.iconst 1, 1) := by decide +kernel
theorem dX2_hammerOf_11 : decode cX2_hammerOf 11 = .ok (.if_icmp .ne 12, 3) := by decide +kernel
theorem dX2_hammerOf_14 : decode cX2_hammerOf 14 = .ok (.iload_n 1, 1) := by decide +kernel
theorem dX2_hammerOf_15 : decode cX2_hammerOf 15 = .ok (.bipush 9, 2) := by decide +kernel
theorem dX2_hammerOf_17 : decode cX2_hammerOf 17 = .ok (.idiv, 1) := by decide +kernel
theorem dX2_hammerOf_18 : decode cX2_hammerOf 18 = .ok (.iconst 3, 1) := by decide +kernel
theorem dX2_hammerOf_19 : decode cX2_hammerOf 19 = .ok (.irem, 1) := by decide +kernel
theorem dX2_hammerOf_20 : decode cX2_hammerOf 20 = .ok (.goto 6, 3) := by decide +kernel
theorem dX2_hammerOf_23 : decode cX2_hammerOf 23 = .ok (.iload_n 1, 1) := by decide +kernel
theorem dX2_hammerOf_24 : decode cX2_hammerOf 24 = .ok (.iconst 3, 1) := by decide +kernel
theorem dX2_hammerOf_25 : decode cX2_hammerOf 25 = .ok (.irem, 1) := by decide +kernel
theorem dX2_hammerOf_26 : decode cX2_hammerOf 26 = .ok (.ireturn, 1) := by decide +kernel
theorem dX3_init_0 : decode cX3_init 0 = .ok (.aload_n 0, 1) := by decide +kernel
theorem dX3_init_1 : decode cX3_init 1 = .ok (.invokespecial 3, 3) := by decide +kernel
theorem dX3_init_4 : decode cX3_init 4 = .ok (.aload_n 0, 1) := by decide +kernel
theorem dX3_init_5 : decode cX3_init 5 = .ok (.bipush 30, 2) := by decide +kernel
theorem dX3_init_7 : decode cX3_init 7 = .ok (.newarray .int, 2) := by decide +kernel
theorem dX3_init_9 : decode cX3_init 9 = .ok (.putfield 11, 3) := by decide +kernel
theorem dX3_init_12 : decode cX3_init 12 = .ok (.aload_n 0, 1) := by decide +kernel
theorem dX3_init_13 : decode cX3_init 13 = .ok (.bipush 30, 2) := by decide +kernel
theorem dX3_init_15 : decode cX3_init 15 = .ok (.newarray .int, 2) := by decide +kernel
theorem dX3_init_17 : decode cX3_init 17 = .ok (.putfield 17, 3) := by decide +kernel
theorem dX3_init_20 : decode cX3_init 20 = .ok (.aload_n 0, 1) := by decide +kernel
theorem dX3_init_21 : decode cX3_init 21 = .ok (.bipush 30, 2) := by decide +kernel
theorem dX3_init_23 : decode cX3_init 23 = .ok (.newarray .int, 2) := by decide +kernel
theorem dX3_init_25 : decode cX3_init 25 = .ok (.putfield 20, 3) := by decide +kernel
theorem dX3_init_28 : decode cX3_init 28 = .ok (.aload_n 0, 1) := by decide +kernel
theorem dX3_init_29 : decode cX3_init 29 = .ok (.bipush 12, 2) := by decide +kernel
theorem dX3_init_31 : decode cX3_init 31 = .ok (.newarray .int, 2) := by decide +kernel
theorem dX3_init_33 : decode cX3_init 33 = .ok (.putfield 25, 3) := by decide +kernel
theorem dX3_init_36 : decode cX3_init 36 = .ok (.aload_n 0, 1) := by decide +kernel
theorem dX3_init_37 : decode cX3_init 37 = .ok (.new 23, 3) := by decide +kernel
theorem dX3_init_40 : decode cX3_init 40 = .ok (.dup, 1) := by decide +kernel
theorem dX3_init_41 : decode cX3_init 41 = .ok (.invokespecial 28, 3) := by decide +kernel
theorem dX3_init_44 : decode cX3_init 44 = .ok (.putfield 29, 3) := by decide +kernel
theorem dX3_init_47 : decode cX3_init 47 = .ok (.return_, 1) := by decide +kernel
theorem dX3_plan_0 : decode cX3_plan 0 = .ok (.aload_n 3, 1) := by decide +kernel
theorem dX3_plan_1 : decode cX3_plan 1 = .ok (.aload_n 1, 1) := by decide +kernel
theorem dX3_plan_2 : decode cX3_plan 2 = .ok (.invokevirtual 33, 3) := by decide +kernel
theorem dX3_plan_5 : decode cX3_plan 5 = .ok (.istore 6, 2) := by decide +kernel
theorem dX3_plan_7 : decode cX3_plan 7 = .ok (.iload 6, 2) := by decide +kernel
theorem dX3_plan_9 : decode cX3_plan 9 = .ok (.bipush (-100), 2) := by decide +kernel
theorem dX3_plan_11 : decode cX3_plan 11 = .ok (.if_icmp .ne 5, 3) := by decide +kernel
theorem dX3_plan_14 : decode cX3_plan 14 = .ok (.iconst 1, 1) := by decide +kernel
theorem dX3_plan_15 : decode cX3_plan 15 = .ok (.ireturn, 1) := by decide +kernel
theorem dX3_plan_16 : decode cX3_plan 16 = .ok (.aload_n 1, 1) := by decide +kernel
theorem dX3_plan_17 : decode cX3_plan 17 = .ok (.getfield 39, 3) := by decide +kernel
theorem dX3_plan_20 : decode cX3_plan 20 = .ok (.aload 4, 2) := by decide +kernel
theorem dX3_plan_22 : decode cX3_plan 22 = .ok (.getfield 43, 3) := by decide +kernel
theorem dX3_plan_25 : decode cX3_plan 25 = .ok (.if_icmp .le 5, 3) := by decide +kernel
theorem dX3_plan_28 : decode cX3_plan 28 = .ok (.iconst 2, 1) := by decide +kernel
theorem dX3_plan_29 : decode cX3_plan 29 = .ok (.ireturn, 1) := by decide +kernel
theorem dX3_plan_30 : decode cX3_plan 30 = .ok (.aload_n 0, 1) := by decide +kernel
theorem dX3_plan_31 : decode cX3_plan 31 = .ok (.aload_n 1, 1) := by decide +kernel
theorem dX3_plan_32 : decode cX3_plan 32 = .ok (.iload 6, 2) := by decide +kernel
theorem dX3_plan_34 : decode cX3_plan 34 = .ok (.aload_n 3, 1) := by decide +kernel
theorem dX3_plan_35 : decode cX3_plan 35 = .ok (.invokevirtual 48, 3) := by decide +kernel
theorem dX3_plan_38 : decode cX3_plan 38 = .ok (.aload_n 0, 1) := by decide +kernel
theorem dX3_plan_39 : decode cX3_plan 39 = .ok (.aload_n 1, 1) := by decide +kernel
theorem dX3_plan_40 : decode cX3_plan 40 = .ok (.iload_n 2, 1) := by decide +kernel
theorem dX3_plan_41 : decode cX3_plan 41 = .ok (.aload 4, 2) := by decide +kernel
theorem dX3_plan_43 : decode cX3_plan 43 = .ok (.invokevirtual 52, 3) := by decide +kernel
theorem dX3_plan_46 : decode cX3_plan 46 = .ok (.aload_n 0, 1) := by decide +kernel
theorem dX3_plan_47 : decode cX3_plan 47 = .ok (.aload_n 1, 1) := by decide +kernel
theorem dX3_plan_48 : decode cX3_plan 48 = .ok (.aload_n 3, 1) := by decide +kernel
theorem dX3_plan_49 : decode cX3_plan 49 = .ok (.iload 5, 2) := by decide +kernel
theorem dX3_plan_51 : decode cX3_plan 51 = .ok (.invokevirtual 56, 3) := by decide +kernel
theorem dX3_plan_54 : decode cX3_plan 54 = .ok (.ifCond .eq 5, 3) := by decide +kernel
theorem dX3_plan_57 : decode cX3_plan 57 = .ok (.iconst 3, 1) := by decide +kernel
theorem dX3_plan_58 : decode cX3_plan 58 = .ok (.ireturn, 1) := by decide +kernel
theorem dX3_plan_59 : decode cX3_plan 59 = .ok (.aload_n 0, 1) := by decide +kernel
theorem dX3_plan_60 : decode cX3_plan 60 = .ok (.aload_n 3, 1) := by decide +kernel
theorem dX3_plan_61 : decode cX3_plan 61 = .ok (.invokevirtual 60, 3) := by decide +kernel
theorem dX3_plan_64 : decode cX3_plan 64 = .ok (.ifCond .eq 5, 3) := by decide +kernel
theorem dX3_plan_67 : decode cX3_plan 67 = .ok (.iconst 4, 1) := by decide +kernel
theorem dX3_plan_68 : decode cX3_plan 68 = .ok (.ireturn, 1) := by decide +kernel
theorem dX3_plan_69 : decode cX3_plan 69 = .ok (.aload_n 0, 1) := by decide +kernel
theorem dX3_plan_70 : decode cX3_plan 70 = .ok (.aload_n 3, 1) := by decide +kernel
theorem dX3_plan_71 : decode cX3_plan 71 = .ok (.aload 4, 2) := by decide +kernel
theorem dX3_plan_73 : decode cX3_plan 73 = .ok (.invokevirtual 64, 3) := by decide +kernel
theorem dX3_plan_76 : decode cX3_plan 76 = .ok (.ifCond .eq 7, 3) := by decide +kernel
theorem dX3_plan_79 : decode cX3_plan 79 = .ok (.iconst 0, 1) := by decide +kernel
theorem dX3_plan_80 : decode cX3_plan 80 = .ok (.goto 4, 3) := by decide +kernel
theorem dX3_plan_83 : decode cX3_plan 83 = .ok (.iconst 5, 1) := by decide +kernel
theorem dX3_plan_84 : decode cX3_plan 84 = .ok (.ireturn, 1) := by decide +kernel
theorem dX3_giveStrokesBells_0 : decode cX3_giveStrokesBells 0 = .ok (.aload_n 0, 1) := by decide +kernel
theorem dX3_giveStrokesBells_1 : decode cX3_giveStrokesBells 1 = .ok (.aload_n 1, 1) := by decide +kernel
theorem dX3_giveStrokesBells_2 : decode cX3_giveStrokesBells 2 = .ok (.getfield 68, 3) := by decide +kernel
theorem dX3_giveStrokesBells_5 : decode cX3_giveStrokesBells 5 = .ok (.putfield 71, 3) := by decide +kernel
theorem dX3_giveStrokesBells_8 : decode cX3_giveStrokesBells 8 = .ok (.iconst 0, 1) := by decide +kernel
theorem dX3_giveStrokesBells_9 : decode cX3_giveStrokesBells 9 = .ok (.istore 4, 2) := by decide +kernel
theorem dX3_giveStrokesBells_11 : decode cX3_giveStrokesBells 11 = .ok (.iload 4, 2) := by decide +kernel
theorem dX3_giveStrokesBells_13 : decode cX3_giveStrokesBells 13 = .ok (.aload_n 0, 1) := by decide +kernel
theorem dX3_giveStrokesBells_14 : decode cX3_giveStrokesBells 14 = .ok (.getfield 71, 3) := by decide +kernel
theorem dX3_giveStrokesBells_17 : decode cX3_giveStrokesBells 17 = .ok (.if_icmp .ge 29, 3) := by decide +kernel
theorem dX3_giveStrokesBells_20 : decode cX3_giveStrokesBells 20 = .ok (.aload_n 0, 1) := by decide +kernel
theorem dX3_giveStrokesBells_21 : decode cX3_giveStrokesBells 21 = .ok (.getfield 17, 3) := by decide +kernel
theorem dX3_giveStrokesBells_24 : decode cX3_giveStrokesBells 24 = .ok (.iload 4, 2) := by decide +kernel
theorem dX3_giveStrokesBells_26 : decode cX3_giveStrokesBells 26 = .ok (.aload_n 3, 1) := by decide +kernel
theorem dX3_giveStrokesBells_27 : decode cX3_giveStrokesBells 27 = .ok (.aload_n 1, 1) := by decide +kernel
theorem dX3_giveStrokesBells_28 : decode cX3_giveStrokesBells 28 = .ok (.getfield 74, 3) := by decide +kernel
theorem dX3_giveStrokesBells_31 : decode cX3_giveStrokesBells 31 = .ok (.iload 4, 2) := by decide +kernel
theorem dX3_giveStrokesBells_33 : decode cX3_giveStrokesBells 33 = .ok (.iaload, 1) := by decide +kernel
theorem dX3_giveStrokesBells_34 : decode cX3_giveStrokesBells 34 = .ok (.iload_n 2, 1) := by decide +kernel
theorem dX3_giveStrokesBells_35 : decode cX3_giveStrokesBells 35 = .ok (.iadd, 1) := by decide +kernel
theorem dX3_giveStrokesBells_36 : decode cX3_giveStrokesBells 36 = .ok (.invokevirtual 77, 3) := by decide +kernel
theorem dX3_giveStrokesBells_39 : decode cX3_giveStrokesBells 39 = .ok (.iastore, 1) := by decide +kernel
theorem dX3_giveStrokesBells_40 : decode cX3_giveStrokesBells 40 = .ok (.iinc 4 1, 3) := by decide +kernel
theorem dX3_giveStrokesBells_43 : decode cX3_giveStrokesBells 43 = .ok (.goto (-32), 3) := by decide +kernel
theorem dX3_giveStrokesBells_46 : decode cX3_giveStrokesBells 46 = .ok (.return_, 1) := by decide +kernel
theorem dX3_giveStrokesHoles_0 : decode cX3_giveStrokesHoles 0 = .ok (.iload_n 2, 1) := by decide +kernel
theorem dX3_giveStrokesHoles_1 : decode cX3_giveStrokesHoles 1 = .ok (.istore 4, 2) := by decide +kernel
theorem dX3_giveStrokesHoles_3 : decode cX3_giveStrokesHoles 3 = .ok (.iconst 0, 1) := by decide +kernel
theorem dX3_giveStrokesHoles_4 : decode cX3_giveStrokesHoles 4 = .ok (.istore 5, 2) := by decide +kernel
theorem dX3_giveStrokesHoles_6 : decode cX3_giveStrokesHoles 6 = .ok (.iconst 0, 1) := by decide +kernel
theorem dX3_giveStrokesHoles_7 : decode cX3_giveStrokesHoles 7 = .ok (.istore 6, 2) := by decide +kernel
theorem dX3_giveStrokesHoles_9 : decode cX3_giveStrokesHoles 9 = .ok (.iload 6, 2) := by decide +kernel
theorem dX3_giveStrokesHoles_11 : decode cX3_giveStrokesHoles 11 = .ok (.aload_n 0, 1) := by decide +kernel
theorem dX3_giveStrokesHoles_12 : decode cX3_giveStrokesHoles 12 = .ok (.getfield 71, 3) := by decide +kernel
theorem dX3_giveStrokesHoles_15 : decode cX3_giveStrokesHoles 15 = .ok (.if_icmp .ge 67, 3) := by decide +kernel
theorem dX3_giveStrokesHoles_18 : decode cX3_giveStrokesHoles 18 = .ok (.iload 5, 2) := by decide +kernel
theorem dX3_giveStrokesHoles_20 : decode cX3_giveStrokesHoles 20 = .ok (.aload_n 1, 1) := by decide +kernel
theorem dX3_giveStrokesHoles_21 : decode cX3_giveStrokesHoles 21 = .ok (.getfield 81, 3) := by decide +kernel
theorem dX3_giveStrokesHoles_24 : decode cX3_giveStrokesHoles 24 = .ok (.iload 6, 2) := by decide +kernel
theorem dX3_giveStrokesHoles_26 : decode cX3_giveStrokesHoles 26 = .ok (.iaload, 1) := by decide +kernel
theorem dX3_giveStrokesHoles_27 : decode cX3_giveStrokesHoles 27 = .ok (.if_icmp .ge 21, 3) := by decide +kernel
theorem dX3_giveStrokesHoles_30 : decode cX3_giveStrokesHoles 30 = .ok (.iload 4, 2) := by decide +kernel
theorem dX3_giveStrokesHoles_32 : decode cX3_giveStrokesHoles 32 = .ok (.aload_n 1, 1) := by decide +kernel
theorem dX3_giveStrokesHoles_33 : decode cX3_giveStrokesHoles 33 = .ok (.getfield 84, 3) := by decide +kernel
theorem dX3_giveStrokesHoles_36 : decode cX3_giveStrokesHoles 36 = .ok (.iload 5, 2) := by decide +kernel
theorem dX3_giveStrokesHoles_38 : decode cX3_giveStrokesHoles 38 = .ok (.iaload, 1) := by decide +kernel
theorem dX3_giveStrokesHoles_39 : decode cX3_giveStrokesHoles 39 = .ok (.iadd, 1) := by decide +kernel
theorem dX3_giveStrokesHoles_40 : decode cX3_giveStrokesHoles 40 = .ok (.istore 4, 2) := by decide +kernel
theorem dX3_giveStrokesHoles_42 : decode cX3_giveStrokesHoles 42 = .ok (.iinc 5 1, 3) := by decide +kernel
theorem dX3_giveStrokesHoles_45 : decode cX3_giveStrokesHoles 45 = .ok (.goto (-27), 3) := by decide +kernel
theorem dX3_giveStrokesHoles_48 : decode cX3_giveStrokesHoles 48 = .ok (.aload_n 0, 1) := by decide +kernel
theorem dX3_giveStrokesHoles_49 : decode cX3_giveStrokesHoles 49 = .ok (.getfield 20, 3) := by decide +kernel
theorem dX3_giveStrokesHoles_52 : decode cX3_giveStrokesHoles 52 = .ok (.iload 6, 2) := by decide +kernel
theorem dX3_giveStrokesHoles_54 : decode cX3_giveStrokesHoles 54 = .ok (.iload 4, 2) := by decide +kernel
theorem dX3_giveStrokesHoles_56 : decode cX3_giveStrokesHoles 56 = .ok (.aload_n 3, 1) := by decide +kernel
theorem dX3_giveStrokesHoles_57 : decode cX3_giveStrokesHoles 57 = .ok (.getfield 43, 3) := by decide +kernel
theorem dX3_giveStrokesHoles_60 : decode cX3_giveStrokesHoles 60 = .ok (.if_icmp .ge 8, 3) := by decide +kernel
theorem dX3_giveStrokesHoles_63 : decode cX3_giveStrokesHoles 63 = .ok (.iload 4, 2) := by decide +kernel
theorem dX3_giveStrokesHoles_65 : decode cX3_giveStrokesHoles 65 = .ok (.goto 10, 3) := by decide +kernel
theorem dX3_giveStrokesHoles_68 : decode cX3_giveStrokesHoles 68 = .ok (.iload 4, 2) := by decide +kernel
theorem dX3_giveStrokesHoles_70 : decode cX3_giveStrokesHoles 70 = .ok (.aload_n 3, 1) := by decide +kernel
theorem dX3_giveStrokesHoles_71 : decode cX3_giveStrokesHoles 71 = .ok (.getfield 43, 3) := by decide +kernel
theorem dX3_giveStrokesHoles_74 : decode cX3_giveStrokesHoles 74 = .ok (.isub, 1) := by decide +kernel
theorem dX3_giveStrokesHoles_75 : decode cX3_giveStrokesHoles 75 = .ok (.iastore, 1) := by decide +kernel
theorem dX3_giveStrokesHoles_76 : decode cX3_giveStrokesHoles 76 = .ok (.iinc 6 1, 3) := by decide +kernel
theorem dX3_giveStrokesHoles_79 : decode cX3_giveStrokesHoles 79 = .ok (.goto (-70), 3) := by decide +kernel
theorem dX3_giveStrokesHoles_82 : decode cX3_giveStrokesHoles 82 = .ok (.return_, 1) := by decide +kernel
theorem dX3_isTooHeavy_0 : decode cX3_isTooHeavy 0 = .ok (.iconst 0, 1) := by decide +kernel
theorem dX3_isTooHeavy_1 : decode cX3_isTooHeavy 1 = .ok (.istore 4, 2) := by decide +kernel
theorem dX3_isTooHeavy_3 : decode cX3_isTooHeavy 3 = .ok (.iconst 0, 1) := by decide +kernel
theorem dX3_isTooHeavy_4 : decode cX3_isTooHeavy 4 = .ok (.istore 5, 2) := by decide +kernel
theorem dX3_isTooHeavy_6 : decode cX3_isTooHeavy 6 = .ok (.iload 5, 2) := by decide +kernel
theorem dX3_isTooHeavy_8 : decode cX3_isTooHeavy 8 = .ok (.aload_n 0, 1) := by decide +kernel
theorem dX3_isTooHeavy_9 : decode cX3_isTooHeavy 9 = .ok (.getfield 71, 3) := by decide +kernel
theorem dX3_isTooHeavy_12 : decode cX3_isTooHeavy 12 = .ok (.if_icmp .ge 61, 3) := by decide +kernel
theorem dX3_isTooHeavy_15 : decode cX3_isTooHeavy 15 = .ok (.iload 5, 2) := by decide +kernel
theorem dX3_isTooHeavy_17 : decode cX3_isTooHeavy 17 = .ok (.ifCond .le 25, 3) := by decide +kernel
theorem dX3_isTooHeavy_20 : decode cX3_isTooHeavy 20 = .ok (.aload_n 1, 1) := by decide +kernel
theorem dX3_isTooHeavy_21 : decode cX3_isTooHeavy 21 = .ok (.getfield 81, 3) := by decide +kernel
theorem dX3_isTooHeavy_24 : decode cX3_isTooHeavy 24 = .ok (.iload 5, 2) := by decide +kernel
theorem dX3_isTooHeavy_26 : decode cX3_isTooHeavy 26 = .ok (.iaload, 1) := by decide +kernel
theorem dX3_isTooHeavy_27 : decode cX3_isTooHeavy 27 = .ok (.aload_n 1, 1) := by decide +kernel
theorem dX3_isTooHeavy_28 : decode cX3_isTooHeavy 28 = .ok (.getfield 81, 3) := by decide +kernel
theorem dX3_isTooHeavy_31 : decode cX3_isTooHeavy 31 = .ok (.iload 5, 2) := by decide +kernel
theorem dX3_isTooHeavy_33 : decode cX3_isTooHeavy 33 = .ok (.iconst 1, 1) := by decide +kernel
theorem dX3_isTooHeavy_34 : decode cX3_isTooHeavy 34 = .ok (.isub, 1) := by decide +kernel
theorem dX3_isTooHeavy_35 : decode cX3_isTooHeavy 35 = .ok (.iaload, 1) := by decide +kernel
theorem dX3_isTooHeavy_36 : decode cX3_isTooHeavy 36 = .ok (.if_icmp .eq 6, 3) := by decide +kernel
theorem dX3_isTooHeavy_39 : decode cX3_isTooHeavy 39 = .ok (.iconst 0, 1) := by decide +kernel
theorem dX3_isTooHeavy_40 : decode cX3_isTooHeavy 40 = .ok (.istore 4, 2) := by decide +kernel
theorem dX3_isTooHeavy_42 : decode cX3_isTooHeavy 42 = .ok (.iload 4, 2) := by decide +kernel
theorem dX3_isTooHeavy_44 : decode cX3_isTooHeavy 44 = .ok (.aload_n 2, 1) := by decide +kernel
theorem dX3_isTooHeavy_45 : decode cX3_isTooHeavy 45 = .ok (.getfield 87, 3) := by decide +kernel
theorem dX3_isTooHeavy_48 : decode cX3_isTooHeavy 48 = .ok (.aload_n 0, 1) := by decide +kernel
theorem dX3_isTooHeavy_49 : decode cX3_isTooHeavy 49 = .ok (.getfield 17, 3) := by decide +kernel
theorem dX3_isTooHeavy_52 : decode cX3_isTooHeavy 52 = .ok (.iload 5, 2) := by decide +kernel
theorem dX3_isTooHeavy_54 : decode cX3_isTooHeavy 54 = .ok (.iaload, 1) := by decide +kernel
theorem dX3_isTooHeavy_55 : decode cX3_isTooHeavy 55 = .ok (.iaload, 1) := by decide +kernel
theorem dX3_isTooHeavy_56 : decode cX3_isTooHeavy 56 = .ok (.iadd, 1) := by decide +kernel
theorem dX3_isTooHeavy_57 : decode cX3_isTooHeavy 57 = .ok (.istore 4, 2) := by decide +kernel
theorem dX3_isTooHeavy_59 : decode cX3_isTooHeavy 59 = .ok (.iload 4, 2) := by decide +kernel
theorem dX3_isTooHeavy_61 : decode cX3_isTooHeavy 61 = .ok (.iload_n 3, 1) := by decide +kernel
theorem dX3_isTooHeavy_62 : decode cX3_isTooHeavy 62 = .ok (.if_icmp .le 5, 3) := by decide +kernel
theorem dX3_isTooHeavy_65 : decode cX3_isTooHeavy 65 = .ok (.iconst 1, 1) := by decide +kernel
theorem dX3_isTooHeavy_66 : decode cX3_isTooHeavy 66 = .ok (.ireturn, 1) := by decide +kernel
theorem dX3_isTooHeavy_67 : decode cX3_isTooHeavy 67 = .ok (.iinc 5 1, 3) := by decide +kernel
theorem dX3_isTooHeavy_70 : decode cX3_isTooHeavy 70 = .ok (.goto (-64), 3) := by decide +kernel
theorem dX3_isTooHeavy_73 : decode cX3_isTooHeavy 73 = .ok (.iconst 0, 1) := by decide +kernel
theorem dX3_isTooHeavy_74 : decode cX3_isTooHeavy 74 = .ok (.ireturn, 1) := by decide +kernel
theorem dX3_isTooOften_0 : decode cX3_isTooOften 0 = .ok (.iconst 0, 1) := by decide +kernel
theorem dX3_isTooOften_1 : decode cX3_isTooOften 1 = .ok (.istore_n 2, 1) := by decide +kernel
theorem dX3_isTooOften_2 : decode cX3_isTooOften 2 = .ok (.iload_n 2, 1) := by decide +kernel
theorem dX3_isTooOften_3 : decode cX3_isTooOften 3 = .ok (.aload_n 1, 1) := by decide +kernel
theorem dX3_isTooOften_4 : decode cX3_isTooOften 4 = .ok (.getfield 90, 3) := by decide +kernel
theorem dX3_isTooOften_7 : decode cX3_isTooOften 7 = .ok (.if_icmp .ge 56, 3) := by decide +kernel
theorem dX3_isTooOften_10 : decode cX3_isTooOften 10 = .ok (.iconst 0, 1) := by decide +kernel
theorem dX3_isTooOften_11 : decode cX3_isTooOften 11 = .ok (.istore_n 3, 1) := by decide +kernel
theorem dX3_isTooOften_12 : decode cX3_isTooOften 12 = .ok (.iconst 0, 1) := by decide +kernel
theorem dX3_isTooOften_13 : decode cX3_isTooOften 13 = .ok (.istore 4, 2) := by decide +kernel
theorem dX3_isTooOften_15 : decode cX3_isTooOften 15 = .ok (.iload 4, 2) := by decide +kernel
theorem dX3_isTooOften_17 : decode cX3_isTooOften 17 = .ok (.aload_n 0, 1) := by decide +kernel
theorem dX3_isTooOften_18 : decode cX3_isTooOften 18 = .ok (.getfield 71, 3) := by decide +kernel
theorem dX3_isTooOften_21 : decode cX3_isTooOften 21 = .ok (.if_icmp .ge 28, 3) := by decide +kernel
theorem dX3_isTooOften_24 : decode cX3_isTooOften 24 = .ok (.iload_n 3, 1) := by decide +kernel
theorem dX3_isTooOften_25 : decode cX3_isTooOften 25 = .ok (.aload_n 0, 1) := by decide +kernel
theorem dX3_isTooOften_26 : decode cX3_isTooOften 26 = .ok (.getfield 17, 3) := by decide +kernel
theorem dX3_isTooOften_29 : decode cX3_isTooOften 29 = .ok (.iload 4, 2) := by decide +kernel
theorem dX3_isTooOften_31 : decode cX3_isTooOften 31 = .ok (.iaload, 1) := by decide +kernel
theorem dX3_isTooOften_32 : decode cX3_isTooOften 32 = .ok (.iload_n 2, 1) := by decide +kernel
theorem dX3_isTooOften_33 : decode cX3_isTooOften 33 = .ok (.if_icmp .ne 7, 3) := by decide +kernel
theorem dX3_isTooOften_36 : decode cX3_isTooOften 36 = .ok (.iconst 1, 1) := by decide +kernel
theorem dX3_isTooOften_37 : decode cX3_isTooOften 37 = .ok (.goto 4, 3) := by decide +kernel
theorem dX3_isTooOften_40 : decode cX3_isTooOften 40 = .ok (.iconst 0, 1) := by decide +kernel
theorem dX3_isTooOften_41 : decode cX3_isTooOften 41 = .ok (.iadd, 1) := by decide +kernel
theorem dX3_isTooOften_42 : decode cX3_isTooOften 42 = .ok (.istore_n 3, 1) := by decide +kernel
theorem dX3_isTooOften_43 : decode cX3_isTooOften 43 = .ok (.iinc 4 1, 3) := by decide +kernel
theorem dX3_isTooOften_46 : decode cX3_isTooOften 46 = .ok (.goto (-31), 3) := by decide +kernel
theorem dX3_isTooOften_49 : decode cX3_isTooOften 49 = .ok (.iload_n 3, 1) := by decide +kernel
theorem dX3_isTooOften_50 : decode cX3_isTooOften 50 = .ok (.bipush 12, 2) := by decide +kernel
theorem dX3_isTooOften_52 : decode cX3_isTooOften 52 = .ok (.if_icmp .le 5, 3) := by decide +kernel
theorem dX3_isTooOften_55 : decode cX3_isTooOften 55 = .ok (.iconst 1, 1) := by decide +kernel
theorem dX3_isTooOften_56 : decode cX3_isTooOften 56 = .ok (.ireturn, 1) := by decide +kernel
theorem dX3_isTooOften_57 : decode cX3_isTooOften 57 = .ok (.iinc 2 1, 3) := by decide +kernel
theorem dX3_isTooOften_60 : decode cX3_isTooOften 60 = .ok (.goto (-58), 3) := by decide +kernel
theorem dX3_isTooOften_63 : decode cX3_isTooOften 63 = .ok (.iconst 0, 1) := by decide +kernel
theorem dX3_isTooOften_64 : decode cX3_isTooOften 64 = .ok (.ireturn, 1) := by decide +kernel
theorem dX3_giveStrokesHammers_0 : decode cX3_giveStrokesHammers 0 = .ok (.aload_n 0, 1) := by decide +kernel
theorem dX3_giveStrokesHammers_1 : decode cX3_giveStrokesHammers 1 = .ok (.iconst 0, 1) := by decide +kernel
theorem dX3_giveStrokesHammers_2 : decode cX3_giveStrokesHammers 2 = .ok (.putfield 93, 3) := by decide +kernel
theorem dX3_giveStrokesHammers_5 : decode cX3_giveStrokesHammers 5 = .ok (.iconst 0, 1) := by decide +kernel
theorem dX3_giveStrokesHammers_6 : decode cX3_giveStrokesHammers 6 = .ok (.istore_n 3, 1) := by decide +kernel
theorem dX3_giveStrokesHammers_7 : decode cX3_giveStrokesHammers 7 = .ok (.iload_n 3, 1) := by decide +kernel
theorem dX3_giveStrokesHammers_8 : decode cX3_giveStrokesHammers 8 = .ok (.aload_n 1, 1) := by decide +kernel
theorem dX3_giveStrokesHammers_9 : decode cX3_giveStrokesHammers 9 = .ok (.getfield 90, 3) := by decide +kernel
theorem dX3_giveStrokesHammers_12 : decode cX3_giveStrokesHammers 12 = .ok (.if_icmp .ge 111, 3) := by decide +kernel
theorem dX3_giveStrokesHammers_15 : decode cX3_giveStrokesHammers 15 = .ok (.aload_n 0, 1) := by decide +kernel
theorem dX3_giveStrokesHammers_16 : decode cX3_giveStrokesHammers 16 = .ok (.iload_n 3, 1) := by decide +kernel
theorem dX3_giveStrokesHammers_17 : decode cX3_giveStrokesHammers 17 = .ok (.aload_n 1, 1) := by decide +kernel
theorem dX3_giveStrokesHammers_18 : decode cX3_giveStrokesHammers 18 = .ok (.aload_n 2, 1) := by decide +kernel
theorem dX3_giveStrokesHammers_19 : decode cX3_giveStrokesHammers 19 = .ok (.invokevirtual 96, 3) := by decide +kernel
theorem dX3_giveStrokesHammers_22 : decode cX3_giveStrokesHammers 22 = .ok (.aload_n 0, 1) := by decide +kernel
theorem dX3_giveStrokesHammers_23 : decode cX3_giveStrokesHammers 23 = .ok (.getfield 29, 3) := by decide +kernel
theorem dX3_giveStrokesHammers_26 : decode cX3_giveStrokesHammers 26 = .ok (.aload_n 2, 1) := by decide +kernel
theorem dX3_giveStrokesHammers_27 : decode cX3_giveStrokesHammers 27 = .ok (.invokevirtual 100, 3) := by decide +kernel
theorem dX3_giveStrokesHammers_30 : decode cX3_giveStrokesHammers 30 = .ok (.istore 4, 2) := by decide +kernel
theorem dX3_giveStrokesHammers_32 : decode cX3_giveStrokesHammers 32 = .ok (.iload 4, 2) := by decide +kernel
theorem dX3_giveStrokesHammers_34 : decode cX3_giveStrokesHammers 34 = .ok (.sipush 1000, 3) := by decide +kernel
theorem dX3_giveStrokesHammers_37 : decode cX3_giveStrokesHammers 37 = .ok (.if_icmp .lt 5, 3) := by decide +kernel
theorem dX3_giveStrokesHammers_40 : decode cX3_giveStrokesHammers 40 = .ok (.iconst 0, 1) := by decide +kernel
theorem dX3_giveStrokesHammers_41 : decode cX3_giveStrokesHammers 41 = .ok (.ireturn, 1) := by decide +kernel
theorem dX3_giveStrokesHammers_42 : decode cX3_giveStrokesHammers 42 = .ok (.aload_n 0, 1) := by decide +kernel
theorem dX3_giveStrokesHammers_43 : decode cX3_giveStrokesHammers 43 = .ok (.dup, 1) := by decide +kernel
theorem dX3_giveStrokesHammers_44 : decode cX3_giveStrokesHammers 44 = .ok (.getfield 93, 3) := by decide +kernel
theorem dX3_giveStrokesHammers_47 : decode cX3_giveStrokesHammers 47 = .ok (.iload 4, 2) := by decide +kernel
theorem dX3_giveStrokesHammers_49 : decode cX3_giveStrokesHammers 49 = .ok (.iadd, 1) := by decide +kernel
theorem dX3_giveStrokesHammers_50 : decode cX3_giveStrokesHammers 50 = .ok (.putfield 93, 3) := by decide +kernel
theorem dX3_giveStrokesHammers_53 : decode cX3_giveStrokesHammers 53 = .ok (.iconst 0, 1) := by decide +kernel
theorem dX3_giveStrokesHammers_54 : decode cX3_giveStrokesHammers 54 = .ok (.istore 5, 2) := by decide +kernel
theorem dX3_giveStrokesHammers_56 : decode cX3_giveStrokesHammers 56 = .ok (.iload 5, 2) := by decide +kernel
theorem dX3_giveStrokesHammers_58 : decode cX3_giveStrokesHammers 58 = .ok (.aload_n 0, 1) := by decide +kernel
theorem dX3_giveStrokesHammers_59 : decode cX3_giveStrokesHammers 59 = .ok (.getfield 29, 3) := by decide +kernel
theorem dX3_giveStrokesHammers_62 : decode cX3_giveStrokesHammers 62 = .ok (.getfield 104, 3) := by decide +kernel
theorem dX3_giveStrokesHammers_65 : decode cX3_giveStrokesHammers 65 = .ok (.if_icmp .ge 52, 3) := by decide +kernel
theorem dX3_giveStrokesHammers_68 : decode cX3_giveStrokesHammers 68 = .ok (.aload_n 0, 1) := by decide +kernel
theorem dX3_giveStrokesHammers_69 : decode cX3_giveStrokesHammers 69 = .ok (.getfield 25, 3) := by decide +kernel
theorem dX3_giveStrokesHammers_72 : decode cX3_giveStrokesHammers 72 = .ok (.iload 5, 2) := by decide +kernel
theorem dX3_giveStrokesHammers_74 : decode cX3_giveStrokesHammers 74 = .ok (.iaload, 1) := by decide +kernel
theorem dX3_giveStrokesHammers_75 : decode cX3_giveStrokesHammers 75 = .ok (.istore 6, 2) := by decide +kernel
theorem dX3_giveStrokesHammers_77 : decode cX3_giveStrokesHammers 77 = .ok (.aload_n 0, 1) := by decide +kernel
theorem dX3_giveStrokesHammers_78 : decode cX3_giveStrokesHammers 78 = .ok (.getfield 11, 3) := by decide +kernel
theorem dX3_giveStrokesHammers_81 : decode cX3_giveStrokesHammers 81 = .ok (.iload 6, 2) := by decide +kernel
theorem dX3_giveStrokesHammers_83 : decode cX3_giveStrokesHammers 83 = .ok (.aload_n 1, 1) := by decide +kernel
theorem dX3_giveStrokesHammers_84 : decode cX3_giveStrokesHammers 84 = .ok (.getfield 105, 3) := by decide +kernel
theorem dX3_giveStrokesHammers_87 : decode cX3_giveStrokesHammers 87 = .ok (.iload_n 3, 1) := by decide +kernel
theorem dX3_giveStrokesHammers_88 : decode cX3_giveStrokesHammers 88 = .ok (.iaload, 1) := by decide +kernel
theorem dX3_giveStrokesHammers_89 : decode cX3_giveStrokesHammers 89 = .ok (.aload_n 0, 1) := by decide +kernel
theorem dX3_giveStrokesHammers_90 : decode cX3_giveStrokesHammers 90 = .ok (.getfield 29, 3) := by decide +kernel
theorem dX3_giveStrokesHammers_93 : decode cX3_giveStrokesHammers 93 = .ok (.getfield 108, 3) := by decide +kernel
theorem dX3_giveStrokesHammers_96 : decode cX3_giveStrokesHammers 96 = .ok (.iload 5, 2) := by decide +kernel
theorem dX3_giveStrokesHammers_98 : decode cX3_giveStrokesHammers 98 = .ok (.iaload, 1) := by decide +kernel
theorem dX3_giveStrokesHammers_99 : decode cX3_giveStrokesHammers 99 = .ok (.iadd, 1) := by decide +kernel
theorem dX3_giveStrokesHammers_100 : decode cX3_giveStrokesHammers 100 = .ok (.aload_n 0, 1) := by decide +kernel
theorem dX3_giveStrokesHammers_101 : decode cX3_giveStrokesHammers 101 = .ok (.getfield 20, 3) := by decide +kernel
theorem dX3_giveStrokesHammers_104 : decode cX3_giveStrokesHammers 104 = .ok (.iload 6, 2) := by decide +kernel
theorem dX3_giveStrokesHammers_106 : decode cX3_giveStrokesHammers 106 = .ok (.iaload, 1) := by decide +kernel
theorem dX3_giveStrokesHammers_107 : decode cX3_giveStrokesHammers 107 = .ok (.invokestatic 111, 3) := by decide +kernel
theorem dX3_giveStrokesHammers_110 : decode cX3_giveStrokesHammers 110 = .ok (.iastore, 1) := by decide +kernel
theorem dX3_giveStrokesHammers_111 : decode cX3_giveStrokesHammers 111 = .ok (.iinc 5 1, 3) := by decide +kernel
theorem dX3_giveStrokesHammers_114 : decode cX3_giveStrokesHammers 114 = .ok (.goto (-58), 3) := by decide +kernel
theorem dX3_giveStrokesHammers_117 : decode cX3_giveStrokesHammers 117 = .ok (.iinc 3 1, 3) := by decide +kernel
theorem dX3_giveStrokesHammers_120 : decode cX3_giveStrokesHammers 120 = .ok (.goto (-113), 3) := by decide +kernel
theorem dX3_giveStrokesHammers_123 : decode cX3_giveStrokesHammers 123 = .ok (.iconst 1, 1) := by decide +kernel
theorem dX3_giveStrokesHammers_124 : decode cX3_giveStrokesHammers 124 = .ok (.ireturn, 1) := by decide +kernel
theorem dX3_gather_0 : decode cX3_gather 0 = .ok (.aload_n 0, 1) := by decide +kernel
theorem dX3_gather_1 : decode cX3_gather 1 = .ok (.getfield 29, 3) := by decide +kernel
theorem dX3_gather_4 : decode cX3_gather 4 = .ok (.aload_n 2, 1) := by decide +kernel
theorem dX3_gather_5 : decode cX3_gather 5 = .ok (.getfield 115, 3) := by decide +kernel
theorem dX3_gather_8 : decode cX3_gather 8 = .ok (.iload_n 1, 1) := by decide +kernel
theorem dX3_gather_9 : decode cX3_gather 9 = .ok (.iaload, 1) := by decide +kernel
theorem dX3_gather_10 : decode cX3_gather 10 = .ok (.invokevirtual 118, 3) := by decide +kernel
theorem dX3_gather_13 : decode cX3_gather 13 = .ok (.iconst 0, 1) := by decide +kernel
theorem dX3_gather_14 : decode cX3_gather 14 = .ok (.istore 4, 2) := by decide +kernel
theorem dX3_gather_16 : decode cX3_gather 16 = .ok (.iload 4, 2) := by decide +kernel
theorem dX3_gather_18 : decode cX3_gather 18 = .ok (.aload_n 0, 1) := by decide +kernel
theorem dX3_gather_19 : decode cX3_gather 19 = .ok (.getfield 71, 3) := by decide +kernel
theorem dX3_gather_22 : decode cX3_gather 22 = .ok (.if_icmp .ge 67, 3) := by decide +kernel
theorem dX3_gather_25 : decode cX3_gather 25 = .ok (.aload_n 0, 1) := by decide +kernel
theorem dX3_gather_26 : decode cX3_gather 26 = .ok (.getfield 17, 3) := by decide +kernel
theorem dX3_gather_29 : decode cX3_gather 29 = .ok (.iload 4, 2) := by decide +kernel
theorem dX3_gather_31 : decode cX3_gather 31 = .ok (.iaload, 1) := by decide +kernel
theorem dX3_gather_32 : decode cX3_gather 32 = .ok (.iload_n 1, 1) := by decide +kernel
theorem dX3_gather_33 : decode cX3_gather 33 = .ok (.if_icmp .ne 50, 3) := by decide +kernel
theorem dX3_gather_36 : decode cX3_gather 36 = .ok (.aload_n 0, 1) := by decide +kernel
theorem dX3_gather_37 : decode cX3_gather 37 = .ok (.getfield 29, 3) := by decide +kernel
theorem dX3_gather_40 : decode cX3_gather 40 = .ok (.getfield 104, 3) := by decide +kernel
theorem dX3_gather_43 : decode cX3_gather 43 = .ok (.bipush 12, 2) := by decide +kernel
theorem dX3_gather_45 : decode cX3_gather 45 = .ok (.if_icmp .ge 38, 3) := by decide +kernel
theorem dX3_gather_48 : decode cX3_gather 48 = .ok (.aload_n 0, 1) := by decide +kernel
theorem dX3_gather_49 : decode cX3_gather 49 = .ok (.getfield 25, 3) := by decide +kernel
theorem dX3_gather_52 : decode cX3_gather 52 = .ok (.aload_n 0, 1) := by decide +kernel
theorem dX3_gather_53 : decode cX3_gather 53 = .ok (.getfield 29, 3) := by decide +kernel
theorem dX3_gather_56 : decode cX3_gather 56 = .ok (.getfield 104, 3) := by decide +kernel
theorem dX3_gather_59 : decode cX3_gather 59 = .ok (.iload 4, 2) := by decide +kernel
theorem dX3_gather_61 : decode cX3_gather 61 = .ok (.iastore, 1) := by decide +kernel
theorem dX3_gather_62 : decode cX3_gather 62 = .ok (.aload_n 0, 1) := by decide +kernel
theorem dX3_gather_63 : decode cX3_gather 63 = .ok (.getfield 29, 3) := by decide +kernel
theorem dX3_gather_66 : decode cX3_gather 66 = .ok (.aload_n 0, 1) := by decide +kernel
theorem dX3_gather_67 : decode cX3_gather 67 = .ok (.getfield 20, 3) := by decide +kernel
theorem dX3_gather_70 : decode cX3_gather 70 = .ok (.iload 4, 2) := by decide +kernel
theorem dX3_gather_72 : decode cX3_gather 72 = .ok (.iaload, 1) := by decide +kernel
theorem dX3_gather_73 : decode cX3_gather 73 = .ok (.aload_n 2, 1) := by decide +kernel
theorem dX3_gather_74 : decode cX3_gather 74 = .ok (.getfield 105, 3) := by decide +kernel
theorem dX3_gather_77 : decode cX3_gather 77 = .ok (.iload_n 1, 1) := by decide +kernel
theorem dX3_gather_78 : decode cX3_gather 78 = .ok (.iaload, 1) := by decide +kernel
theorem dX3_gather_79 : decode cX3_gather 79 = .ok (.aload_n 3, 1) := by decide +kernel
theorem dX3_gather_80 : decode cX3_gather 80 = .ok (.invokevirtual 122, 3) := by decide +kernel
theorem dX3_gather_83 : decode cX3_gather 83 = .ok (.iinc 4 1, 3) := by decide +kernel
theorem dX3_gather_86 : decode cX3_gather 86 = .ok (.goto (-70), 3) := by decide +kernel
theorem dX3_gather_89 : decode cX3_gather 89 = .ok (.return_, 1) := by decide +kernel
theorem dX4_init_0 : decode cX4_init 0 = .ok (.aload_n 0, 1) := by decide +kernel
theorem dX4_init_1 : decode cX4_init 1 = .ok (.invokespecial 1, 3) := by decide +kernel
theorem dX4_init_4 : decode cX4_init 4 = .ok (.aload_n 0, 1) := by decide +kernel
theorem dX4_init_5 : decode cX4_init 5 = .ok (.sipush 2496, 3) := by decide +kernel
theorem dX4_init_8 : decode cX4_init 8 = .ok (.newarray .int, 2) := by decide +kernel
theorem dX4_init_10 : decode cX4_init 10 = .ok (.putfield 9, 3) := by decide +kernel
theorem dX4_init_13 : decode cX4_init 13 = .ok (.return_, 1) := by decide +kernel
theorem dX4_addUnit_0 : decode cX4_addUnit 0 = .ok (.lload_n 1, 1) := by decide +kernel
theorem dX4_addUnit_1 : decode cX4_addUnit 1 = .ok (.lconst 0, 1) := by decide +kernel
theorem dX4_addUnit_2 : decode cX4_addUnit 2 = .ok (.lcmp, 1) := by decide +kernel
theorem dX4_addUnit_3 : decode cX4_addUnit 3 = .ok (.ifCond .ne 12, 3) := by decide +kernel
theorem dX4_addUnit_6 : decode cX4_addUnit 6 = .ok (.aload_n 0, 1) := by decide +kernel
theorem dX4_addUnit_7 : decode cX4_addUnit 7 = .ok (.bipush 114, 2) := by decide +kernel
theorem dX4_addUnit_9 : decode cX4_addUnit 9 = .ok (.invokevirtual 13, 3) := by decide +kernel
theorem dX4_addUnit_12 : decode cX4_addUnit 12 = .ok (.goto 38, 3) := by decide +kernel
theorem dX4_addUnit_15 : decode cX4_addUnit 15 = .ok (.lload_n 1, 1) := by decide +kernel
theorem dX4_addUnit_16 : decode cX4_addUnit 16 = .ok (.lload_n 1, 1) := by decide +kernel
theorem dX4_addUnit_17 : decode cX4_addUnit 17 = .ok (.lconst 1, 1) := by decide +kernel
theorem dX4_addUnit_18 : decode cX4_addUnit 18 = .ok (.lsub, 1) := by decide +kernel
theorem dX4_addUnit_19 : decode cX4_addUnit 19 = .ok (.land, 1) := by decide +kernel
theorem dX4_addUnit_20 : decode cX4_addUnit 20 = .ok (.lconst 0, 1) := by decide +kernel
theorem dX4_addUnit_21 : decode cX4_addUnit 21 = .ok (.lcmp, 1) := by decide +kernel
theorem dX4_addUnit_22 : decode cX4_addUnit 22 = .ok (.ifCond .ne 11, 3) := by decide +kernel
theorem dX4_addUnit_25 : decode cX4_addUnit 25 = .ok (.aload_n 0, 1) := by decide +kernel
theorem dX4_addUnit_26 : decode cX4_addUnit 26 = .ok (.lload_n 1, 1) := by decide +kernel
theorem dX4_addUnit_27 : decode cX4_addUnit 27 = .ok (.invokevirtual 17, 3) := by decide +kernel
theorem dX4_addUnit_30 : decode cX4_addUnit 30 = .ok (.goto 20, 3) := by decide +kernel
theorem dX4_addUnit_33 : decode cX4_addUnit 33 = .ok (.aload_n 0, 1) := by decide +kernel
theorem dX4_addUnit_34 : decode cX4_addUnit 34 = .ok (.bipush 40, 2) := by decide +kernel
theorem dX4_addUnit_36 : decode cX4_addUnit 36 = .ok (.invokevirtual 13, 3) := by decide +kernel
theorem dX4_addUnit_39 : decode cX4_addUnit 39 = .ok (.aload_n 0, 1) := by decide +kernel
theorem dX4_addUnit_40 : decode cX4_addUnit 40 = .ok (.lload_n 1, 1) := by decide +kernel
theorem dX4_addUnit_41 : decode cX4_addUnit 41 = .ok (.invokevirtual 17, 3) := by decide +kernel
theorem dX4_addUnit_44 : decode cX4_addUnit 44 = .ok (.aload_n 0, 1) := by decide +kernel
theorem dX4_addUnit_45 : decode cX4_addUnit 45 = .ok (.bipush 41, 2) := by decide +kernel
theorem dX4_addUnit_47 : decode cX4_addUnit 47 = .ok (.invokevirtual 13, 3) := by decide +kernel
theorem dX4_addUnit_50 : decode cX4_addUnit 50 = .ok (.aload_n 0, 1) := by decide +kernel
theorem dX4_addUnit_51 : decode cX4_addUnit 51 = .ok (.bipush 48, 2) := by decide +kernel
theorem dX4_addUnit_53 : decode cX4_addUnit 53 = .ok (.iload_n 3, 1) := by decide +kernel
theorem dX4_addUnit_54 : decode cX4_addUnit 54 = .ok (.bipush 9, 2) := by decide +kernel
theorem dX4_addUnit_56 : decode cX4_addUnit 56 = .ok (.invokestatic 21, 3) := by decide +kernel
theorem dX4_addUnit_59 : decode cX4_addUnit 59 = .ok (.iadd, 1) := by decide +kernel
theorem dX4_addUnit_60 : decode cX4_addUnit 60 = .ok (.invokevirtual 13, 3) := by decide +kernel
theorem dX4_addUnit_63 : decode cX4_addUnit 63 = .ok (.iload_n 3, 1) := by decide +kernel
theorem dX4_addUnit_64 : decode cX4_addUnit 64 = .ok (.bipush 9, 2) := by decide +kernel
theorem dX4_addUnit_66 : decode cX4_addUnit 66 = .ok (.isub, 1) := by decide +kernel
theorem dX4_addUnit_67 : decode cX4_addUnit 67 = .ok (.istore 4, 2) := by decide +kernel
theorem dX4_addUnit_69 : decode cX4_addUnit 69 = .ok (.iload 4, 2) := by decide +kernel
theorem dX4_addUnit_71 : decode cX4_addUnit 71 = .ok (.ifCond .le 29, 3) := by decide +kernel
theorem dX4_addUnit_74 : decode cX4_addUnit 74 = .ok (.aload_n 0, 1) := by decide +kernel
theorem dX4_addUnit_75 : decode cX4_addUnit 75 = .ok (.bipush 114, 2) := by decide +kernel
theorem dX4_addUnit_77 : decode cX4_addUnit 77 = .ok (.invokevirtual 13, 3) := by decide +kernel
theorem dX4_addUnit_80 : decode cX4_addUnit 80 = .ok (.aload_n 0, 1) := by decide +kernel
theorem dX4_addUnit_81 : decode cX4_addUnit 81 = .ok (.bipush 48, 2) := by decide +kernel
theorem dX4_addUnit_83 : decode cX4_addUnit 83 = .ok (.iload 4, 2) := by decide +kernel
theorem dX4_addUnit_85 : decode cX4_addUnit 85 = .ok (.bipush 9, 2) := by decide +kernel
theorem dX4_addUnit_87 : decode cX4_addUnit 87 = .ok (.invokestatic 21, 3) := by decide +kernel
theorem dX4_addUnit_90 : decode cX4_addUnit 90 = .ok (.iadd, 1) := by decide +kernel
theorem dX4_addUnit_91 : decode cX4_addUnit 91 = .ok (.invokevirtual 13, 3) := by decide +kernel
theorem dX4_addUnit_94 : decode cX4_addUnit 94 = .ok (.iinc 4 (-9), 3) := by decide +kernel
theorem dX4_addUnit_97 : decode cX4_addUnit 97 = .ok (.goto (-28), 3) := by decide +kernel
theorem dX4_addUnit_100 : decode cX4_addUnit 100 = .ok (.return_, 1) := by decide +kernel
theorem dX4_addNotes_0 : decode cX4_addNotes 0 = .ok (.iconst 0, 1) := by decide +kernel
theorem dX4_addNotes_1 : decode cX4_addNotes 1 = .ok (.istore_n 3, 1) := by decide +kernel
theorem dX4_addNotes_2 : decode cX4_addNotes 2 = .ok (.iload_n 3, 1) := by decide +kernel
theorem dX4_addNotes_3 : decode cX4_addNotes 3 = .ok (.bipush 48, 2) := by decide +kernel
theorem dX4_addNotes_5 : decode cX4_addNotes 5 = .ok (.if_icmp .ge 65, 3) := by decide +kernel
theorem dX4_addNotes_8 : decode cX4_addNotes 8 = .ok (.lload_n 1, 1) := by decide +kernel
theorem dX4_addNotes_9 : decode cX4_addNotes 9 = .ok (.iload_n 3, 1) := by decide +kernel
theorem dX4_addNotes_10 : decode cX4_addNotes 10 = .ok (.lshr, 1) := by decide +kernel
theorem dX4_addNotes_11 : decode cX4_addNotes 11 = .ok (.lconst 1, 1) := by decide +kernel
theorem dX4_addNotes_12 : decode cX4_addNotes 12 = .ok (.land, 1) := by decide +kernel
theorem dX4_addNotes_13 : decode cX4_addNotes 13 = .ok (.lconst 0, 1) := by decide +kernel
theorem dX4_addNotes_14 : decode cX4_addNotes 14 = .ok (.lcmp, 1) := by decide +kernel
theorem dX4_addNotes_15 : decode cX4_addNotes 15 = .ok (.ifCond .eq 49, 3) := by decide +kernel
theorem dX4_addNotes_18 : decode cX4_addNotes 18 = .ok (.iload_n 3, 1) := by decide +kernel
theorem dX4_addNotes_19 : decode cX4_addNotes 19 = .ok (.bipush 12, 2) := by decide +kernel
theorem dX4_addNotes_21 : decode cX4_addNotes 21 = .ok (.irem, 1) := by decide +kernel
theorem dX4_addNotes_22 : decode cX4_addNotes 22 = .ok (.istore 4, 2) := by decide +kernel
theorem dX4_addNotes_24 : decode cX4_addNotes 24 = .ok (.aload_n 0, 1) := by decide +kernel
theorem dX4_addNotes_25 : decode cX4_addNotes 25 = .ok (.ldc 29, 2) := by decide +kernel
theorem dX4_addNotes_27 : decode cX4_addNotes 27 = .ok (.iload 4, 2) := by decide +kernel
theorem dX4_addNotes_29 : decode cX4_addNotes 29 = .ok (.invokevirtual 31, 3) := by decide +kernel
theorem dX4_addNotes_32 : decode cX4_addNotes 32 = .ok (.invokevirtual 13, 3) := by decide +kernel
theorem dX4_addNotes_35 : decode cX4_addNotes 35 = .ok (.ldc 37, 2) := by decide +kernel
theorem dX4_addNotes_37 : decode cX4_addNotes 37 = .ok (.iload 4, 2) := by decide +kernel
theorem dX4_addNotes_39 : decode cX4_addNotes 39 = .ok (.invokevirtual 31, 3) := by decide +kernel
theorem dX4_addNotes_42 : decode cX4_addNotes 42 = .ok (.bipush 35, 2) := by decide +kernel
theorem dX4_addNotes_44 : decode cX4_addNotes 44 = .ok (.if_icmp .ne 9, 3) := by decide +kernel
theorem dX4_addNotes_47 : decode cX4_addNotes 47 = .ok (.aload_n 0, 1) := by decide +kernel
theorem dX4_addNotes_48 : decode cX4_addNotes 48 = .ok (.bipush 35, 2) := by decide +kernel
theorem dX4_addNotes_50 : decode cX4_addNotes 50 = .ok (.invokevirtual 13, 3) := by decide +kernel
theorem dX4_addNotes_53 : decode cX4_addNotes 53 = .ok (.aload_n 0, 1) := by decide +kernel
theorem dX4_addNotes_54 : decode cX4_addNotes 54 = .ok (.bipush 48, 2) := by decide +kernel
theorem dX4_addNotes_56 : decode cX4_addNotes 56 = .ok (.iload_n 3, 1) := by decide +kernel
theorem dX4_addNotes_57 : decode cX4_addNotes 57 = .ok (.bipush 12, 2) := by decide +kernel
theorem dX4_addNotes_59 : decode cX4_addNotes 59 = .ok (.idiv, 1) := by decide +kernel
theorem dX4_addNotes_60 : decode cX4_addNotes 60 = .ok (.iadd, 1) := by decide +kernel
theorem dX4_addNotes_61 : decode cX4_addNotes 61 = .ok (.invokevirtual 13, 3) := by decide +kernel
theorem dX4_addNotes_64 : decode cX4_addNotes 64 = .ok (.iinc 3 1, 3) := by decide +kernel
theorem dX4_addNotes_67 : decode cX4_addNotes 67 = .ok (.goto (-65), 3) := by decide +kernel
theorem dX4_addNotes_70 : decode cX4_addNotes 70 = .ok (.return_, 1) := by decide +kernel
theorem dX4_add_0 : decode cX4_add 0 = .ok (.aload_n 0, 1) := by decide +kernel
theorem dX4_add_1 : decode cX4_add 1 = .ok (.getfield 39, 3) := by decide +kernel
theorem dX4_add_4 : decode cX4_add 4 = .ok (.sipush 2496, 3) := by decide +kernel
theorem dX4_add_7 : decode cX4_add 7 = .ok (.if_icmp .ge 23, 3) := by decide +kernel
theorem dX4_add_10 : decode cX4_add 10 = .ok (.aload_n 0, 1) := by decide +kernel
theorem dX4_add_11 : decode cX4_add 11 = .ok (.getfield 9, 3) := by decide +kernel
theorem dX4_add_14 : decode cX4_add 14 = .ok (.aload_n 0, 1) := by decide +kernel
theorem dX4_add_15 : decode cX4_add 15 = .ok (.getfield 39, 3) := by decide +kernel
theorem dX4_add_18 : decode cX4_add 18 = .ok (.iload_n 1, 1) := by decide +kernel
theorem dX4_add_19 : decode cX4_add 19 = .ok (.iastore, 1) := by decide +kernel
theorem dX4_add_20 : decode cX4_add 20 = .ok (.aload_n 0, 1) := by decide +kernel
theorem dX4_add_21 : decode cX4_add 21 = .ok (.dup, 1) := by decide +kernel
theorem dX4_add_22 : decode cX4_add 22 = .ok (.getfield 39, 3) := by decide +kernel
theorem dX4_add_25 : decode cX4_add 25 = .ok (.iconst 1, 1) := by decide +kernel
theorem dX4_add_26 : decode cX4_add 26 = .ok (.iadd, 1) := by decide +kernel
theorem dX4_add_27 : decode cX4_add 27 = .ok (.putfield 39, 3) := by decide +kernel
theorem dX4_add_30 : decode cX4_add 30 = .ok (.return_, 1) := by decide +kernel
theorem dX5_init_0 : decode cX5_init 0 = .ok (.aload_n 0, 1) := by decide +kernel
theorem dX5_init_1 : decode cX5_init 1 = .ok (.invokespecial 5, 3) := by decide +kernel
theorem dX5_init_4 : decode cX5_init 4 = .ok (.aload_n 0, 1) := by decide +kernel
theorem dX5_init_5 : decode cX5_init 5 = .ok (.bipush 30, 2) := by decide +kernel
theorem dX5_init_7 : decode cX5_init 7 = .ok (.newarray .int, 2) := by decide +kernel
theorem dX5_init_9 : decode cX5_init 9 = .ok (.putfield 11, 3) := by decide +kernel
theorem dX5_init_12 : decode cX5_init 12 = .ok (.aload_n 0, 1) := by decide +kernel
theorem dX5_init_13 : decode cX5_init 13 = .ok (.bipush 30, 2) := by decide +kernel
theorem dX5_init_15 : decode cX5_init 15 = .ok (.newarray .int, 2) := by decide +kernel
theorem dX5_init_17 : decode cX5_init 17 = .ok (.putfield 15, 3) := by decide +kernel
theorem dX5_init_20 : decode cX5_init 20 = .ok (.aload_n 0, 1) := by decide +kernel
theorem dX5_init_21 : decode cX5_init 21 = .ok (.bipush 30, 2) := by decide +kernel
theorem dX5_init_23 : decode cX5_init 23 = .ok (.newarray .int, 2) := by decide +kernel
theorem dX5_init_25 : decode cX5_init 25 = .ok (.putfield 18, 3) := by decide +kernel
theorem dX5_init_28 : decode cX5_init 28 = .ok (.return_, 1) := by decide +kernel
theorem dX5_take_0 : decode cX5_take 0 = .ok (.aload_n 0, 1) := by decide +kernel
theorem dX5_take_1 : decode cX5_take 1 = .ok (.iconst 0, 1) := by decide +kernel
theorem dX5_take_2 : decode cX5_take 2 = .ok (.putfield 21, 3) := by decide +kernel
theorem dX5_take_5 : decode cX5_take 5 = .ok (.aload_n 0, 1) := by decide +kernel
theorem dX5_take_6 : decode cX5_take 6 = .ok (.iconst 0, 1) := by decide +kernel
theorem dX5_take_7 : decode cX5_take 7 = .ok (.putfield 25, 3) := by decide +kernel
theorem dX5_take_10 : decode cX5_take 10 = .ok (.aload_n 0, 1) := by decide +kernel
theorem dX5_take_11 : decode cX5_take 11 = .ok (.iconst 0, 1) := by decide +kernel
theorem dX5_take_12 : decode cX5_take 12 = .ok (.putfield 28, 3) := by decide +kernel
theorem dX5_take_15 : decode cX5_take 15 = .ok (.aload_n 0, 1) := by decide +kernel
theorem dX5_take_16 : decode cX5_take 16 = .ok (.iconst 0, 1) := by decide +kernel
theorem dX5_take_17 : decode cX5_take 17 = .ok (.putfield 31, 3) := by decide +kernel
theorem dX5_take_20 : decode cX5_take 20 = .ok (.aload_n 0, 1) := by decide +kernel
theorem dX5_take_21 : decode cX5_take 21 = .ok (.iconst 0, 1) := by decide +kernel
theorem dX5_take_22 : decode cX5_take 22 = .ok (.putfield 34, 3) := by decide +kernel
theorem dX5_take_25 : decode cX5_take 25 = .ok (.iconst 0, 1) := by decide +kernel
theorem dX5_take_26 : decode cX5_take 26 = .ok (.istore_n 3, 1) := by decide +kernel
theorem dX5_take_27 : decode cX5_take 27 = .ok (.iload_n 3, 1) := by decide +kernel
theorem dX5_take_28 : decode cX5_take 28 = .ok (.bipush 30, 2) := by decide +kernel
theorem dX5_take_30 : decode cX5_take 30 = .ok (.if_icmp .ge 34, 3) := by decide +kernel
theorem dX5_take_33 : decode cX5_take 33 = .ok (.aload_n 0, 1) := by decide +kernel
theorem dX5_take_34 : decode cX5_take 34 = .ok (.getfield 34, 3) := by decide +kernel
theorem dX5_take_37 : decode cX5_take 37 = .ok (.ifCond .ne 27, 3) := by decide +kernel
theorem dX5_take_40 : decode cX5_take 40 = .ok (.iload_n 3, 1) := by decide +kernel
theorem dX5_take_41 : decode cX5_take 41 = .ok (.ifCond .eq 11, 3) := by decide +kernel
theorem dX5_take_44 : decode cX5_take 44 = .ok (.aload_n 0, 1) := by decide +kernel
theorem dX5_take_45 : decode cX5_take 45 = .ok (.getfield 31, 3) := by decide +kernel
theorem dX5_take_48 : decode cX5_take 48 = .ok (.iload_n 2, 1) := by decide +kernel
theorem dX5_take_49 : decode cX5_take 49 = .ok (.if_icmp .ge 15, 3) := by decide +kernel
theorem dX5_take_52 : decode cX5_take 52 = .ok (.aload_n 0, 1) := by decide +kernel
theorem dX5_take_53 : decode cX5_take 53 = .ok (.aload_n 1, 1) := by decide +kernel
theorem dX5_take_54 : decode cX5_take 54 = .ok (.iload_n 2, 1) := by decide +kernel
theorem dX5_take_55 : decode cX5_take 55 = .ok (.invokevirtual 37, 3) := by decide +kernel
theorem dX5_take_58 : decode cX5_take 58 = .ok (.iinc 3 1, 3) := by decide +kernel
theorem dX5_take_61 : decode cX5_take 61 = .ok (.goto (-34), 3) := by decide +kernel
theorem dX5_take_64 : decode cX5_take 64 = .ok (.aload_n 0, 1) := by decide +kernel
theorem dX5_take_65 : decode cX5_take 65 = .ok (.getfield 34, 3) := by decide +kernel
theorem dX5_take_68 : decode cX5_take 68 = .ok (.ireturn, 1) := by decide +kernel
theorem dX5_lowest_0 : decode cX5_lowest 0 = .ok (.iconst (-1), 1) := by decide +kernel
theorem dX5_lowest_1 : decode cX5_lowest 1 = .ok (.istore_n 1, 1) := by decide +kernel
theorem dX5_lowest_2 : decode cX5_lowest 2 = .ok (.iconst 0, 1) := by decide +kernel
theorem dX5_lowest_3 : decode cX5_lowest 3 = .ok (.istore_n 2, 1) := by decide +kernel
theorem dX5_lowest_4 : decode cX5_lowest 4 = .ok (.iload_n 2, 1) := by decide +kernel
theorem dX5_lowest_5 : decode cX5_lowest 5 = .ok (.aload_n 0, 1) := by decide +kernel
theorem dX5_lowest_6 : decode cX5_lowest 6 = .ok (.getfield 25, 3) := by decide +kernel
theorem dX5_lowest_9 : decode cX5_lowest 9 = .ok (.if_icmp .ge 33, 3) := by decide +kernel
theorem dX5_lowest_12 : decode cX5_lowest 12 = .ok (.iload_n 2, 1) := by decide +kernel
theorem dX5_lowest_13 : decode cX5_lowest 13 = .ok (.ifCond .ne 12, 3) := by decide +kernel
theorem dX5_lowest_16 : decode cX5_lowest 16 = .ok (.aload_n 0, 1) := by decide +kernel
theorem dX5_lowest_17 : decode cX5_lowest 17 = .ok (.getfield 15, 3) := by decide +kernel
theorem dX5_lowest_20 : decode cX5_lowest 20 = .ok (.iload_n 2, 1) := by decide +kernel
theorem dX5_lowest_21 : decode cX5_lowest 21 = .ok (.iaload, 1) := by decide +kernel
theorem dX5_lowest_22 : decode cX5_lowest 22 = .ok (.goto 13, 3) := by decide +kernel
theorem dX5_lowest_25 : decode cX5_lowest 25 = .ok (.iload_n 1, 1) := by decide +kernel
theorem dX5_lowest_26 : decode cX5_lowest 26 = .ok (.aload_n 0, 1) := by decide +kernel
theorem dX5_lowest_27 : decode cX5_lowest 27 = .ok (.getfield 15, 3) := by decide +kernel
theorem dX5_lowest_30 : decode cX5_lowest 30 = .ok (.iload_n 2, 1) := by decide +kernel
theorem dX5_lowest_31 : decode cX5_lowest 31 = .ok (.iaload, 1) := by decide +kernel
theorem dX5_lowest_32 : decode cX5_lowest 32 = .ok (.invokestatic 41, 3) := by decide +kernel
theorem dX5_lowest_35 : decode cX5_lowest 35 = .ok (.istore_n 1, 1) := by decide +kernel
