theorem d_B_init_0 : decode b_B_init 0 = .ok (.aload_n 0, 1) := by decide +kernel
theorem d_B_init_1 : decode b_B_init 1 = .ok (.invokespecial 1, 3) := by decide +kernel
theorem d_B_init_4 : decode b_B_init 4 = .ok (.aload_n 0, 1) := by decide +kernel
theorem d_B_init_5 : decode b_B_init 5 = .ok (.iload_n 1, 1) := by decide +kernel
theorem d_B_init_6 : decode b_B_init 6 = .ok (.newarray .byte, 2) := by decide +kernel
theorem d_B_init_8 : decode b_B_init 8 = .ok (.putfield 7, 3) := by decide +kernel
theorem d_B_init_11 : decode b_B_init 11 = .ok (.return_, 1) := by decide +kernel
theorem d_B_byteAt_0 : decode b_B_byteAt 0 = .ok (.aload_n 0, 1) := by decide +kernel
theorem d_B_byteAt_1 : decode b_B_byteAt 1 = .ok (.getfield 7, 3) := by decide +kernel
theorem d_B_byteAt_4 : decode b_B_byteAt 4 = .ok (.iload_n 1, 1) := by decide +kernel
theorem d_B_byteAt_5 : decode b_B_byteAt 5 = .ok (.baload, 1) := by decide +kernel
theorem d_B_byteAt_6 : decode b_B_byteAt 6 = .ok (.sipush 255, 3) := by decide +kernel
theorem d_B_byteAt_9 : decode b_B_byteAt 9 = .ok (.iand, 1) := by decide +kernel
theorem d_B_byteAt_10 : decode b_B_byteAt 10 = .ok (.ireturn, 1) := by decide +kernel
theorem d_B_number_0 : decode b_B_number 0 = .ok (.lconst 0, 1) := by decide +kernel
theorem d_B_number_1 : decode b_B_number 1 = .ok (.lstore_n 3, 1) := by decide +kernel
theorem d_B_number_2 : decode b_B_number 2 = .ok (.iload_n 2, 1) := by decide +kernel
theorem d_B_number_3 : decode b_B_number 3 = .ok (.iconst 1, 1) := by decide +kernel
theorem d_B_number_4 : decode b_B_number 4 = .ok (.isub, 1) := by decide +kernel
theorem d_B_number_5 : decode b_B_number 5 = .ok (.istore 5, 2) := by decide +kernel
theorem d_B_number_7 : decode b_B_number 7 = .ok (.iload 5, 2) := by decide +kernel
theorem d_B_number_9 : decode b_B_number 9 = .ok (.ifCond .lt 29, 3) := by decide +kernel
theorem d_B_number_12 : decode b_B_number 12 = .ok (.lload_n 3, 1) := by decide +kernel
theorem d_B_number_13 : decode b_B_number 13 = .ok (.bipush 8, 2) := by decide +kernel
theorem d_B_number_15 : decode b_B_number 15 = .ok (.lshl, 1) := by decide +kernel
theorem d_B_number_16 : decode b_B_number 16 = .ok (.aload_n 0, 1) := by decide +kernel
theorem d_B_number_17 : decode b_B_number 17 = .ok (.getfield 7, 3) := by decide +kernel
theorem d_B_number_20 : decode b_B_number 20 = .ok (.iload_n 1, 1) := by decide +kernel
theorem d_B_number_21 : decode b_B_number 21 = .ok (.iload 5, 2) := by decide +kernel
theorem d_B_number_23 : decode b_B_number 23 = .ok (.iadd, 1) := by decide +kernel
theorem d_B_number_24 : decode b_B_number 24 = .ok (.baload, 1) := by decide +kernel
theorem d_B_number_25 : decode b_B_number 25 = .ok (.sipush 255, 3) := by decide +kernel
theorem d_B_number_28 : decode b_B_number 28 = .ok (.iand, 1) := by decide +kernel
theorem d_B_number_29 : decode b_B_number 29 = .ok (.i2l, 1) := by decide +kernel
theorem d_B_number_30 : decode b_B_number 30 = .ok (.lor, 1) := by decide +kernel
theorem d_B_number_31 : decode b_B_number 31 = .ok (.lstore_n 3, 1) := by decide +kernel
theorem d_B_number_32 : decode b_B_number 32 = .ok (.iinc 5 (-1), 3) := by decide +kernel
theorem d_B_number_35 : decode b_B_number 35 = .ok (.goto (-28), 3) := by decide +kernel
theorem d_B_number_38 : decode b_B_number 38 = .ok (.lload_n 3, 1) := by decide +kernel
theorem d_B_number_39 : decode b_B_number 39 = .ok (.lreturn, 1) := by decide +kernel
theorem d_B_setNumber_0 : decode b_B_setNumber 0 = .ok (.iconst 0, 1) := by decide +kernel
theorem d_B_setNumber_1 : decode b_B_setNumber 1 = .ok (.istore 5, 2) := by decide +kernel
theorem d_B_setNumber_3 : decode b_B_setNumber 3 = .ok (.iload 5, 2) := by decide +kernel
theorem d_B_setNumber_5 : decode b_B_setNumber 5 = .ok (.iload_n 2, 1) := by decide +kernel
theorem d_B_setNumber_6 : decode b_B_setNumber 6 = .ok (.if_icmp .ge 27, 3) := by decide +kernel
theorem d_B_setNumber_9 : decode b_B_setNumber 9 = .ok (.aload_n 0, 1) := by decide +kernel
theorem d_B_setNumber_10 : decode b_B_setNumber 10 = .ok (.getfield 7, 3) := by decide +kernel
theorem d_B_setNumber_13 : decode b_B_setNumber 13 = .ok (.iload_n 1, 1) := by decide +kernel
theorem d_B_setNumber_14 : decode b_B_setNumber 14 = .ok (.iload 5, 2) := by decide +kernel
theorem d_B_setNumber_16 : decode b_B_setNumber 16 = .ok (.iadd, 1) := by decide +kernel
theorem d_B_setNumber_17 : decode b_B_setNumber 17 = .ok (.lload_n 3, 1) := by decide +kernel
theorem d_B_setNumber_18 : decode b_B_setNumber 18 = .ok (.bipush 8, 2) := by decide +kernel
theorem d_B_setNumber_20 : decode b_B_setNumber 20 = .ok (.iload 5, 2) := by decide +kernel
theorem d_B_setNumber_22 : decode b_B_setNumber 22 = .ok (.imul, 1) := by decide +kernel
theorem d_B_setNumber_23 : decode b_B_setNumber 23 = .ok (.lushr, 1) := by decide +kernel
theorem d_B_setNumber_24 : decode b_B_setNumber 24 = .ok (.l2i, 1) := by decide +kernel
theorem d_B_setNumber_25 : decode b_B_setNumber 25 = .ok (.i2b, 1) := by decide +kernel
theorem d_B_setNumber_26 : decode b_B_setNumber 26 = .ok (.bastore, 1) := by decide +kernel
theorem d_B_setNumber_27 : decode b_B_setNumber 27 = .ok (.iinc 5 1, 3) := by decide +kernel
theorem d_B_setNumber_30 : decode b_B_setNumber 30 = .ok (.goto (-27), 3) := by decide +kernel
theorem d_B_setNumber_33 : decode b_B_setNumber 33 = .ok (.return_, 1) := by decide +kernel
theorem d_B_isZero_0 : decode b_B_isZero 0 = .ok (.iconst 0, 1) := by decide +kernel
theorem d_B_isZero_1 : decode b_B_isZero 1 = .ok (.istore_n 3, 1) := by decide +kernel
theorem d_B_isZero_2 : decode b_B_isZero 2 = .ok (.iload_n 3, 1) := by decide +kernel
theorem d_B_isZero_3 : decode b_B_isZero 3 = .ok (.iload_n 2, 1) := by decide +kernel
theorem d_B_isZero_4 : decode b_B_isZero 4 = .ok (.if_icmp .ge 22, 3) := by decide +kernel
theorem d_B_isZero_7 : decode b_B_isZero 7 = .ok (.aload_n 0, 1) := by decide +kernel
theorem d_B_isZero_8 : decode b_B_isZero 8 = .ok (.getfield 7, 3) := by decide +kernel
theorem d_B_isZero_11 : decode b_B_isZero 11 = .ok (.iload_n 1, 1) := by decide +kernel
theorem d_B_isZero_12 : decode b_B_isZero 12 = .ok (.iload_n 3, 1) := by decide +kernel
theorem d_B_isZero_13 : decode b_B_isZero 13 = .ok (.iadd, 1) := by decide +kernel
theorem d_B_isZero_14 : decode b_B_isZero 14 = .ok (.baload, 1) := by decide +kernel
theorem d_B_isZero_15 : decode b_B_isZero 15 = .ok (.ifCond .eq 5, 3) := by decide +kernel
theorem d_B_isZero_18 : decode b_B_isZero 18 = .ok (.iconst 0, 1) := by decide +kernel
theorem d_B_isZero_19 : decode b_B_isZero 19 = .ok (.ireturn, 1) := by decide +kernel
theorem d_B_isZero_20 : decode b_B_isZero 20 = .ok (.iinc 3 1, 3) := by decide +kernel
theorem d_B_isZero_23 : decode b_B_isZero 23 = .ok (.goto (-21), 3) := by decide +kernel
theorem d_B_isZero_26 : decode b_B_isZero 26 = .ok (.iconst 1, 1) := by decide +kernel
theorem d_B_isZero_27 : decode b_B_isZero 27 = .ok (.ireturn, 1) := by decide +kernel
theorem d_B_areAlike_0 : decode b_B_areAlike 0 = .ok (.iconst 0, 1) := by decide +kernel
theorem d_B_areAlike_1 : decode b_B_areAlike 1 = .ok (.istore 4, 2) := by decide +kernel
theorem d_B_areAlike_3 : decode b_B_areAlike 3 = .ok (.iload 4, 2) := by decide +kernel
theorem d_B_areAlike_5 : decode b_B_areAlike 5 = .ok (.iload_n 3, 1) := by decide +kernel
theorem d_B_areAlike_6 : decode b_B_areAlike 6 = .ok (.if_icmp .ge 32, 3) := by decide +kernel
theorem d_B_areAlike_9 : decode b_B_areAlike 9 = .ok (.aload_n 0, 1) := by decide +kernel
theorem d_B_areAlike_10 : decode b_B_areAlike 10 = .ok (.getfield 7, 3) := by decide +kernel
theorem d_B_areAlike_13 : decode b_B_areAlike 13 = .ok (.iload_n 1, 1) := by decide +kernel
theorem d_B_areAlike_14 : decode b_B_areAlike 14 = .ok (.iload 4, 2) := by decide +kernel
theorem d_B_areAlike_16 : decode b_B_areAlike 16 = .ok (.iadd, 1) := by decide +kernel
theorem d_B_areAlike_17 : decode b_B_areAlike 17 = .ok (.baload, 1) := by decide +kernel
theorem d_B_areAlike_18 : decode b_B_areAlike 18 = .ok (.aload_n 0, 1) := by decide +kernel
theorem d_B_areAlike_19 : decode b_B_areAlike 19 = .ok (.getfield 7, 3) := by decide +kernel
theorem d_B_areAlike_22 : decode b_B_areAlike 22 = .ok (.iload_n 2, 1) := by decide +kernel
theorem d_B_areAlike_23 : decode b_B_areAlike 23 = .ok (.iload 4, 2) := by decide +kernel
theorem d_B_areAlike_25 : decode b_B_areAlike 25 = .ok (.iadd, 1) := by decide +kernel
theorem d_B_areAlike_26 : decode b_B_areAlike 26 = .ok (.baload, 1) := by decide +kernel
theorem d_B_areAlike_27 : decode b_B_areAlike 27 = .ok (.if_icmp .eq 5, 3) := by decide +kernel
theorem d_B_areAlike_30 : decode b_B_areAlike 30 = .ok (.iconst 0, 1) := by decide +kernel
theorem d_B_areAlike_31 : decode b_B_areAlike 31 = .ok (.ireturn, 1) := by decide +kernel
theorem d_B_areAlike_32 : decode b_B_areAlike 32 = .ok (.iinc 4 1, 3) := by decide +kernel
theorem d_B_areAlike_35 : decode b_B_areAlike 35 = .ok (.goto (-32), 3) := by decide +kernel
theorem d_B_areAlike_38 : decode b_B_areAlike 38 = .ok (.iconst 1, 1) := by decide +kernel
theorem d_B_areAlike_39 : decode b_B_areAlike 39 = .ok (.ireturn, 1) := by decide +kernel
theorem d_B_clear_0 : decode b_B_clear 0 = .ok (.iconst 0, 1) := by decide +kernel
theorem d_B_clear_1 : decode b_B_clear 1 = .ok (.istore_n 3, 1) := by decide +kernel
theorem d_B_clear_2 : decode b_B_clear 2 = .ok (.iload_n 3, 1) := by decide +kernel
theorem d_B_clear_3 : decode b_B_clear 3 = .ok (.iload_n 2, 1) := by decide +kernel
theorem d_B_clear_4 : decode b_B_clear 4 = .ok (.if_icmp .ge 18, 3) := by decide +kernel
theorem d_B_clear_7 : decode b_B_clear 7 = .ok (.aload_n 0, 1) := by decide +kernel
theorem d_B_clear_8 : decode b_B_clear 8 = .ok (.getfield 7, 3) := by decide +kernel
theorem d_B_clear_11 : decode b_B_clear 11 = .ok (.iload_n 1, 1) := by decide +kernel
theorem d_B_clear_12 : decode b_B_clear 12 = .ok (.iload_n 3, 1) := by decide +kernel
theorem d_B_clear_13 : decode b_B_clear 13 = .ok (.iadd, 1) := by decide +kernel
theorem d_B_clear_14 : decode b_B_clear 14 = .ok (.iconst 0, 1) := by decide +kernel
theorem d_B_clear_15 : decode b_B_clear 15 = .ok (.bastore, 1) := by decide +kernel
theorem d_B_clear_16 : decode b_B_clear 16 = .ok (.iinc 3 1, 3) := by decide +kernel
theorem d_B_clear_19 : decode b_B_clear 19 = .ok (.goto (-17), 3) := by decide +kernel
theorem d_B_clear_22 : decode b_B_clear 22 = .ok (.return_, 1) := by decide +kernel
theorem d_B_carry_0 : decode b_B_carry 0 = .ok (.aload_n 0, 1) := by decide +kernel
theorem d_B_carry_1 : decode b_B_carry 1 = .ok (.getfield 7, 3) := by decide +kernel
theorem d_B_carry_4 : decode b_B_carry 4 = .ok (.iload_n 1, 1) := by decide +kernel
theorem d_B_carry_5 : decode b_B_carry 5 = .ok (.aload_n 0, 1) := by decide +kernel
theorem d_B_carry_6 : decode b_B_carry 6 = .ok (.getfield 7, 3) := by decide +kernel
theorem d_B_carry_9 : decode b_B_carry 9 = .ok (.iload_n 2, 1) := by decide +kernel
theorem d_B_carry_10 : decode b_B_carry 10 = .ok (.iload_n 3, 1) := by decide +kernel
theorem d_B_carry_11 : decode b_B_carry 11 = .ok (.invokestatic 13, 3) := by decide +kernel
theorem d_B_carry_14 : decode b_B_carry 14 = .ok (.return_, 1) := by decide +kernel
theorem d_B_sumOf_0 : decode b_B_sumOf 0 = .ok (.iconst (-1), 1) := by decide +kernel
theorem d_B_sumOf_1 : decode b_B_sumOf 1 = .ok (.aload_n 0, 1) := by decide +kernel
theorem d_B_sumOf_2 : decode b_B_sumOf 2 = .ok (.iconst (-1), 1) := by decide +kernel
theorem d_B_sumOf_3 : decode b_B_sumOf 3 = .ok (.iload_n 1, 1) := by decide +kernel
theorem d_B_sumOf_4 : decode b_B_sumOf 4 = .ok (.iload_n 2, 1) := by decide +kernel
theorem d_B_sumOf_5 : decode b_B_sumOf 5 = .ok (.invokevirtual 19, 3) := by decide +kernel
theorem d_B_sumOf_8 : decode b_B_sumOf 8 = .ok (.isub, 1) := by decide +kernel
theorem d_B_sumOf_9 : decode b_B_sumOf 9 = .ok (.ireturn, 1) := by decide +kernel
theorem d_B_sumWithout_0 : decode b_B_sumWithout 0 = .ok (.aload_n 0, 1) := by decide +kernel
theorem d_B_sumWithout_1 : decode b_B_sumWithout 1 = .ok (.iconst (-1), 1) := by decide +kernel
theorem d_B_sumWithout_2 : decode b_B_sumWithout 2 = .ok (.iload_n 2, 1) := by decide +kernel
theorem d_B_sumWithout_3 : decode b_B_sumWithout 3 = .ok (.iload_n 1, 1) := by decide +kernel
theorem d_B_sumWithout_4 : decode b_B_sumWithout 4 = .ok (.iload_n 2, 1) := by decide +kernel
theorem d_B_sumWithout_5 : decode b_B_sumWithout 5 = .ok (.isub, 1) := by decide +kernel
theorem d_B_sumWithout_6 : decode b_B_sumWithout 6 = .ok (.invokevirtual 19, 3) := by decide +kernel
theorem d_B_sumWithout_9 : decode b_B_sumWithout 9 = .ok (.istore 4, 2) := by decide +kernel
theorem d_B_sumWithout_11 : decode b_B_sumWithout 11 = .ok (.iconst 0, 1) := by decide +kernel
theorem d_B_sumWithout_12 : decode b_B_sumWithout 12 = .ok (.istore 5, 2) := by decide +kernel
theorem d_B_sumWithout_14 : decode b_B_sumWithout 14 = .ok (.iload 5, 2) := by decide +kernel
theorem d_B_sumWithout_16 : decode b_B_sumWithout 16 = .ok (.iconst 4, 1) := by decide +kernel
theorem d_B_sumWithout_17 : decode b_B_sumWithout 17 = .ok (.if_icmp .ge 17, 3) := by decide +kernel
theorem d_B_sumWithout_20 : decode b_B_sumWithout 20 = .ok (.iload 4, 2) := by decide +kernel
theorem d_B_sumWithout_22 : decode b_B_sumWithout 22 = .ok (.iconst 0, 1) := by decide +kernel
theorem d_B_sumWithout_23 : decode b_B_sumWithout 23 = .ok (.invokestatic 23, 3) := by decide +kernel
theorem d_B_sumWithout_26 : decode b_B_sumWithout 26 = .ok (.istore 4, 2) := by decide +kernel
theorem d_B_sumWithout_28 : decode b_B_sumWithout 28 = .ok (.iinc 5 1, 3) := by decide +kernel
theorem d_B_sumWithout_31 : decode b_B_sumWithout 31 = .ok (.goto (-17), 3) := by decide +kernel
theorem d_B_sumWithout_34 : decode b_B_sumWithout 34 = .ok (.iconst (-1), 1) := by decide +kernel
theorem d_B_sumWithout_35 : decode b_B_sumWithout 35 = .ok (.aload_n 0, 1) := by decide +kernel
theorem d_B_sumWithout_36 : decode b_B_sumWithout 36 = .ok (.iload 4, 2) := by decide +kernel
theorem d_B_sumWithout_38 : decode b_B_sumWithout 38 = .ok (.iload_n 1, 1) := by decide +kernel
theorem d_B_sumWithout_39 : decode b_B_sumWithout 39 = .ok (.iconst 4, 1) := by decide +kernel
theorem d_B_sumWithout_40 : decode b_B_sumWithout 40 = .ok (.iadd, 1) := by decide +kernel
theorem d_B_sumWithout_41 : decode b_B_sumWithout 41 = .ok (.iload_n 2, 1) := by decide +kernel
theorem d_B_sumWithout_42 : decode b_B_sumWithout 42 = .ok (.iload_n 3, 1) := by decide +kernel
theorem d_B_sumWithout_43 : decode b_B_sumWithout 43 = .ok (.iadd, 1) := by decide +kernel
theorem d_B_sumWithout_44 : decode b_B_sumWithout 44 = .ok (.iload_n 1, 1) := by decide +kernel
theorem d_B_sumWithout_45 : decode b_B_sumWithout 45 = .ok (.isub, 1) := by decide +kernel
theorem d_B_sumWithout_46 : decode b_B_sumWithout 46 = .ok (.iconst 4, 1) := by decide +kernel
theorem d_B_sumWithout_47 : decode b_B_sumWithout 47 = .ok (.isub, 1) := by decide +kernel
theorem d_B_sumWithout_48 : decode b_B_sumWithout 48 = .ok (.invokevirtual 19, 3) := by decide +kernel
theorem d_B_sumWithout_51 : decode b_B_sumWithout 51 = .ok (.isub, 1) := by decide +kernel
theorem d_B_sumWithout_52 : decode b_B_sumWithout 52 = .ok (.ireturn, 1) := by decide +kernel
theorem d_B_addBytes_0 : decode b_B_addBytes 0 = .ok (.iload_n 1, 1) := by decide +kernel
theorem d_B_addBytes_1 : decode b_B_addBytes 1 = .ok (.istore 4, 2) := by decide +kernel
theorem d_B_addBytes_3 : decode b_B_addBytes 3 = .ok (.iconst 0, 1) := by decide +kernel
theorem d_B_addBytes_4 : decode b_B_addBytes 4 = .ok (.istore 5, 2) := by decide +kernel
theorem d_B_addBytes_6 : decode b_B_addBytes 6 = .ok (.iload 5, 2) := by decide +kernel
theorem d_B_addBytes_8 : decode b_B_addBytes 8 = .ok (.iload_n 3, 1) := by decide +kernel
theorem d_B_addBytes_9 : decode b_B_addBytes 9 = .ok (.if_icmp .ge 29, 3) := by decide +kernel
theorem d_B_addBytes_12 : decode b_B_addBytes 12 = .ok (.iload 4, 2) := by decide +kernel
theorem d_B_addBytes_14 : decode b_B_addBytes 14 = .ok (.aload_n 0, 1) := by decide +kernel
theorem d_B_addBytes_15 : decode b_B_addBytes 15 = .ok (.getfield 7, 3) := by decide +kernel
theorem d_B_addBytes_18 : decode b_B_addBytes 18 = .ok (.iload_n 2, 1) := by decide +kernel
theorem d_B_addBytes_19 : decode b_B_addBytes 19 = .ok (.iload 5, 2) := by decide +kernel
theorem d_B_addBytes_21 : decode b_B_addBytes 21 = .ok (.iadd, 1) := by decide +kernel
theorem d_B_addBytes_22 : decode b_B_addBytes 22 = .ok (.baload, 1) := by decide +kernel
theorem d_B_addBytes_23 : decode b_B_addBytes 23 = .ok (.sipush 255, 3) := by decide +kernel
theorem d_B_addBytes_26 : decode b_B_addBytes 26 = .ok (.iand, 1) := by decide +kernel
theorem d_B_addBytes_27 : decode b_B_addBytes 27 = .ok (.invokestatic 23, 3) := by decide +kernel
theorem d_B_addBytes_30 : decode b_B_addBytes 30 = .ok (.istore 4, 2) := by decide +kernel
theorem d_B_addBytes_32 : decode b_B_addBytes 32 = .ok (.iinc 5 1, 3) := by decide +kernel
theorem d_B_addBytes_35 : decode b_B_addBytes 35 = .ok (.goto (-29), 3) := by decide +kernel
theorem d_B_addBytes_38 : decode b_B_addBytes 38 = .ok (.iload 4, 2) := by decide +kernel
theorem d_B_addBytes_40 : decode b_B_addBytes 40 = .ok (.ireturn, 1) := by decide +kernel
theorem d_B_addByte_0 : decode b_B_addByte 0 = .ok (.iload_n 0, 1) := by decide +kernel
theorem d_B_addByte_1 : decode b_B_addByte 1 = .ok (.iload_n 1, 1) := by decide +kernel
theorem d_B_addByte_2 : decode b_B_addByte 2 = .ok (.ixor, 1) := by decide +kernel
theorem d_B_addByte_3 : decode b_B_addByte 3 = .ok (.istore_n 2, 1) := by decide +kernel
theorem d_B_addByte_4 : decode b_B_addByte 4 = .ok (.iload_n 2, 1) := by decide +kernel
theorem d_B_addByte_5 : decode b_B_addByte 5 = .ok (.iconst 4, 1) := by decide +kernel
theorem d_B_addByte_6 : decode b_B_addByte 6 = .ok (.iushr, 1) := by decide +kernel
theorem d_B_addByte_7 : decode b_B_addByte 7 = .ok (.getstatic 27, 3) := by decide +kernel
theorem d_B_addByte_10 : decode b_B_addByte 10 = .ok (.iload_n 2, 1) := by decide +kernel
theorem d_B_addByte_11 : decode b_B_addByte 11 = .ok (.bipush 15, 2) := by decide +kernel
theorem d_B_addByte_13 : decode b_B_addByte 13 = .ok (.iand, 1) := by decide +kernel
theorem d_B_addByte_14 : decode b_B_addByte 14 = .ok (.iaload, 1) := by decide +kernel
theorem d_B_addByte_15 : decode b_B_addByte 15 = .ok (.ixor, 1) := by decide +kernel
theorem d_B_addByte_16 : decode b_B_addByte 16 = .ok (.istore_n 3, 1) := by decide +kernel
theorem d_B_addByte_17 : decode b_B_addByte 17 = .ok (.iload_n 3, 1) := by decide +kernel
theorem d_B_addByte_18 : decode b_B_addByte 18 = .ok (.iconst 4, 1) := by decide +kernel
theorem d_B_addByte_19 : decode b_B_addByte 19 = .ok (.iushr, 1) := by decide +kernel
theorem d_B_addByte_20 : decode b_B_addByte 20 = .ok (.getstatic 27, 3) := by decide +kernel
theorem d_B_addByte_23 : decode b_B_addByte 23 = .ok (.iload_n 3, 1) := by decide +kernel
theorem d_B_addByte_24 : decode b_B_addByte 24 = .ok (.bipush 15, 2) := by decide +kernel
theorem d_B_addByte_26 : decode b_B_addByte 26 = .ok (.iand, 1) := by decide +kernel
theorem d_B_addByte_27 : decode b_B_addByte 27 = .ok (.iaload, 1) := by decide +kernel
theorem d_B_addByte_28 : decode b_B_addByte 28 = .ok (.ixor, 1) := by decide +kernel
theorem d_B_addByte_29 : decode b_B_addByte 29 = .ok (.ireturn, 1) := by decide +kernel
theorem d_C_init_0 : decode b_C_init 0 = .ok (.aload_n 0, 1) := by decide +kernel
theorem d_C_init_1 : decode b_C_init 1 = .ok (.invokespecial 5, 3) := by decide +kernel
theorem d_C_init_4 : decode b_C_init 4 = .ok (.aload_n 0, 1) := by decide +kernel
theorem d_C_init_5 : decode b_C_init 5 = .ok (.iload_n 3, 1) := by decide +kernel
theorem d_C_init_6 : decode b_C_init 6 = .ok (.putfield 11, 3) := by decide +kernel
theorem d_C_init_9 : decode b_C_init 9 = .ok (.aload_n 0, 1) := by decide +kernel
theorem d_C_init_10 : decode b_C_init 10 = .ok (.aload_n 1, 1) := by decide +kernel
theorem d_C_init_11 : decode b_C_init 11 = .ok (.putfield 17, 3) := by decide +kernel
theorem d_C_init_14 : decode b_C_init 14 = .ok (.aload_n 0, 1) := by decide +kernel
theorem d_C_init_15 : decode b_C_init 15 = .ok (.iload_n 3, 1) := by decide +kernel
theorem d_C_init_16 : decode b_C_init 16 = .ok (.ifCond .ne 7, 3) := by decide +kernel
theorem d_C_init_19 : decode b_C_init 19 = .ok (.iconst 1, 1) := by decide +kernel
theorem d_C_init_20 : decode b_C_init 20 = .ok (.goto 6, 3) := by decide +kernel
theorem d_C_init_23 : decode b_C_init 23 = .ok (.iload_n 2, 1) := by decide +kernel
theorem d_C_init_24 : decode b_C_init 24 = .ok (.iconst 1, 1) := by decide +kernel
theorem d_C_init_25 : decode b_C_init 25 = .ok (.isub, 1) := by decide +kernel
theorem d_C_init_26 : decode b_C_init 26 = .ok (.putfield 21, 3) := by decide +kernel
theorem d_C_init_29 : decode b_C_init 29 = .ok (.aload_n 0, 1) := by decide +kernel
theorem d_C_init_30 : decode b_C_init 30 = .ok (.iload_n 3, 1) := by decide +kernel
theorem d_C_init_31 : decode b_C_init 31 = .ok (.ifCond .ne 9, 3) := by decide +kernel
theorem d_C_init_34 : decode b_C_init 34 = .ok (.iload_n 2, 1) := by decide +kernel
theorem d_C_init_35 : decode b_C_init 35 = .ok (.iconst 1, 1) := by decide +kernel
theorem d_C_init_36 : decode b_C_init 36 = .ok (.isub, 1) := by decide +kernel
theorem d_C_init_37 : decode b_C_init 37 = .ok (.goto 4, 3) := by decide +kernel
theorem d_C_init_40 : decode b_C_init 40 = .ok (.iconst 1, 1) := by decide +kernel
theorem d_C_init_41 : decode b_C_init 41 = .ok (.putfield 24, 3) := by decide +kernel
theorem d_C_init_44 : decode b_C_init 44 = .ok (.aload_n 0, 1) := by decide +kernel
theorem d_C_init_45 : decode b_C_init 45 = .ok (.iload_n 3, 1) := by decide +kernel
theorem d_C_init_46 : decode b_C_init 46 = .ok (.ifCond .ne 7, 3) := by decide +kernel
theorem d_C_init_49 : decode b_C_init 49 = .ok (.iconst 2, 1) := by decide +kernel
theorem d_C_init_50 : decode b_C_init 50 = .ok (.goto 6, 3) := by decide +kernel
theorem d_C_init_53 : decode b_C_init 53 = .ok (.iload_n 2, 1) := by decide +kernel
theorem d_C_init_54 : decode b_C_init 54 = .ok (.iconst 3, 1) := by decide +kernel
theorem d_C_init_55 : decode b_C_init 55 = .ok (.isub, 1) := by decide +kernel
theorem d_C_init_56 : decode b_C_init 56 = .ok (.putfield 27, 3) := by decide +kernel
theorem d_C_init_59 : decode b_C_init 59 = .ok (.aload_n 0, 1) := by decide +kernel
theorem d_C_init_60 : decode b_C_init 60 = .ok (.iload_n 2, 1) := by decide +kernel
theorem d_C_init_61 : decode b_C_init 61 = .ok (.iconst 4, 1) := by decide +kernel
theorem d_C_init_62 : decode b_C_init 62 = .ok (.isub, 1) := by decide +kernel
theorem d_C_init_63 : decode b_C_init 63 = .ok (.putfield 30, 3) := by decide +kernel
theorem d_C_init_66 : decode b_C_init 66 = .ok (.aload_n 0, 1) := by decide +kernel
theorem d_C_init_67 : decode b_C_init 67 = .ok (.aload_n 0, 1) := by decide +kernel
theorem d_C_init_68 : decode b_C_init 68 = .ok (.getfield 21, 3) := by decide +kernel
theorem d_C_init_71 : decode b_C_init 71 = .ok (.sipush 512, 3) := by decide +kernel
theorem d_C_init_74 : decode b_C_init 74 = .ok (.imul, 1) := by decide +kernel
theorem d_C_init_75 : decode b_C_init 75 = .ok (.putfield 33, 3) := by decide +kernel
theorem d_C_init_78 : decode b_C_init 78 = .ok (.aload_n 0, 1) := by decide +kernel
theorem d_C_init_79 : decode b_C_init 79 = .ok (.aload_n 0, 1) := by decide +kernel
theorem d_C_init_80 : decode b_C_init 80 = .ok (.getfield 27, 3) := by decide +kernel
theorem d_C_init_83 : decode b_C_init 83 = .ok (.sipush 512, 3) := by decide +kernel
theorem d_C_init_86 : decode b_C_init 86 = .ok (.imul, 1) := by decide +kernel
theorem d_C_init_87 : decode b_C_init 87 = .ok (.putfield 36, 3) := by decide +kernel
theorem d_C_init_90 : decode b_C_init 90 = .ok (.return_, 1) := by decide +kernel
theorem d_C_firstFault_0 : decode b_C_firstFault 0 = .ok (.aload_n 0, 1) := by decide +kernel
theorem d_C_firstFault_1 : decode b_C_firstFault 1 = .ok (.getfield 17, 3) := by decide +kernel
theorem d_C_firstFault_4 : decode b_C_firstFault 4 = .ok (.aload_n 0, 1) := by decide +kernel
theorem d_C_firstFault_5 : decode b_C_firstFault 5 = .ok (.getfield 33, 3) := by decide +kernel
theorem d_C_firstFault_8 : decode b_C_firstFault 8 = .ok (.iconst 0, 1) := by decide +kernel
theorem d_C_firstFault_9 : decode b_C_firstFault 9 = .ok (.iadd, 1) := by decide +kernel
theorem d_C_firstFault_10 : decode b_C_firstFault 10 = .ok (.bipush 8, 2) := by decide +kernel
theorem d_C_firstFault_12 : decode b_C_firstFault 12 = .ok (.invokevirtual 41, 3) := by decide +kernel
theorem d_C_firstFault_15 : decode b_C_firstFault 15 = .ok (.ldc2_w 47, 3) := by decide +kernel
theorem d_C_firstFault_18 : decode b_C_firstFault 18 = .ok (.lcmp, 1) := by decide +kernel
theorem d_C_firstFault_19 : decode b_C_firstFault 19 = .ok (.ifCond .eq 5, 3) := by decide +kernel
theorem d_C_firstFault_22 : decode b_C_firstFault 22 = .ok (.iconst 1, 1) := by decide +kernel
theorem d_C_firstFault_23 : decode b_C_firstFault 23 = .ok (.ireturn, 1) := by decide +kernel
theorem d_C_firstFault_24 : decode b_C_firstFault 24 = .ok (.aload_n 0, 1) := by decide +kernel
theorem d_C_firstFault_25 : decode b_C_firstFault 25 = .ok (.invokevirtual 49, 3) := by decide +kernel
theorem d_C_firstFault_28 : decode b_C_firstFault 28 = .ok (.ifCond .ne 5, 3) := by decide +kernel
theorem d_C_firstFault_31 : decode b_C_firstFault 31 = .ok (.iconst 2, 1) := by decide +kernel
theorem d_C_firstFault_32 : decode b_C_firstFault 32 = .ok (.ireturn, 1) := by decide +kernel
theorem d_C_firstFault_33 : decode b_C_firstFault 33 = .ok (.aload_n 0, 1) := by decide +kernel
theorem d_C_firstFault_34 : decode b_C_firstFault 34 = .ok (.getfield 17, 3) := by decide +kernel
theorem d_C_firstFault_37 : decode b_C_firstFault 37 = .ok (.aload_n 0, 1) := by decide +kernel
theorem d_C_firstFault_38 : decode b_C_firstFault 38 = .ok (.getfield 33, 3) := by decide +kernel
theorem d_C_firstFault_41 : decode b_C_firstFault 41 = .ok (.bipush 16, 2) := by decide +kernel
theorem d_C_firstFault_43 : decode b_C_firstFault 43 = .ok (.iadd, 1) := by decide +kernel
theorem d_C_firstFault_44 : decode b_C_firstFault 44 = .ok (.iconst 4, 1) := by decide +kernel
theorem d_C_firstFault_45 : decode b_C_firstFault 45 = .ok (.invokevirtual 41, 3) := by decide +kernel
theorem d_C_firstFault_48 : decode b_C_firstFault 48 = .ok (.l2i, 1) := by decide +kernel
theorem d_C_firstFault_49 : decode b_C_firstFault 49 = .ok (.aload_n 0, 1) := by decide +kernel
theorem d_C_firstFault_50 : decode b_C_firstFault 50 = .ok (.invokevirtual 53, 3) := by decide +kernel
theorem d_C_firstFault_53 : decode b_C_firstFault 53 = .ok (.if_icmp .eq 5, 3) := by decide +kernel
theorem d_C_firstFault_56 : decode b_C_firstFault 56 = .ok (.iconst 3, 1) := by decide +kernel
theorem d_C_firstFault_57 : decode b_C_firstFault 57 = .ok (.ireturn, 1) := by decide +kernel
theorem d_C_firstFault_58 : decode b_C_firstFault 58 = .ok (.aload_n 0, 1) := by decide +kernel
theorem d_C_firstFault_59 : decode b_C_firstFault 59 = .ok (.getfield 17, 3) := by decide +kernel
theorem d_C_firstFault_62 : decode b_C_firstFault 62 = .ok (.aload_n 0, 1) := by decide +kernel
theorem d_C_firstFault_63 : decode b_C_firstFault 63 = .ok (.getfield 33, 3) := by decide +kernel
theorem d_C_firstFault_66 : decode b_C_firstFault 66 = .ok (.bipush 24, 2) := by decide +kernel
theorem d_C_firstFault_68 : decode b_C_firstFault 68 = .ok (.iadd, 1) := by decide +kernel
theorem d_C_firstFault_69 : decode b_C_firstFault 69 = .ok (.bipush 8, 2) := by decide +kernel
theorem d_C_firstFault_71 : decode b_C_firstFault 71 = .ok (.invokevirtual 41, 3) := by decide +kernel
theorem d_C_firstFault_74 : decode b_C_firstFault 74 = .ok (.aload_n 0, 1) := by decide +kernel
theorem d_C_firstFault_75 : decode b_C_firstFault 75 = .ok (.getfield 21, 3) := by decide +kernel
theorem d_C_firstFault_78 : decode b_C_firstFault 78 = .ok (.i2l, 1) := by decide +kernel
theorem d_C_firstFault_79 : decode b_C_firstFault 79 = .ok (.lcmp, 1) := by decide +kernel
theorem d_C_firstFault_80 : decode b_C_firstFault 80 = .ok (.ifCond .eq 5, 3) := by decide +kernel
theorem d_C_firstFault_83 : decode b_C_firstFault 83 = .ok (.iconst 4, 1) := by decide +kernel
theorem d_C_firstFault_84 : decode b_C_firstFault 84 = .ok (.ireturn, 1) := by decide +kernel
theorem d_C_firstFault_85 : decode b_C_firstFault 85 = .ok (.aload_n 0, 1) := by decide +kernel
theorem d_C_firstFault_86 : decode b_C_firstFault 86 = .ok (.invokevirtual 57, 3) := by decide +kernel
theorem d_C_firstFault_89 : decode b_C_firstFault 89 = .ok (.ifCond .ne 5, 3) := by decide +kernel
theorem d_C_firstFault_92 : decode b_C_firstFault 92 = .ok (.iconst 5, 1) := by decide +kernel
theorem d_C_firstFault_93 : decode b_C_firstFault 93 = .ok (.ireturn, 1) := by decide +kernel
theorem d_C_firstFault_94 : decode b_C_firstFault 94 = .ok (.aload_n 0, 1) := by decide +kernel
theorem d_C_firstFault_95 : decode b_C_firstFault 95 = .ok (.getfield 17, 3) := by decide +kernel
theorem d_C_firstFault_98 : decode b_C_firstFault 98 = .ok (.aload_n 0, 1) := by decide +kernel
theorem d_C_firstFault_99 : decode b_C_firstFault 99 = .ok (.getfield 33, 3) := by decide +kernel
theorem d_C_firstFault_102 : decode b_C_firstFault 102 = .ok (.bipush 88, 2) := by decide +kernel
theorem d_C_firstFault_104 : decode b_C_firstFault 104 = .ok (.iadd, 1) := by decide +kernel
theorem d_C_firstFault_105 : decode b_C_firstFault 105 = .ok (.iconst 4, 1) := by decide +kernel
theorem d_C_firstFault_106 : decode b_C_firstFault 106 = .ok (.invokevirtual 41, 3) := by decide +kernel
theorem d_C_firstFault_109 : decode b_C_firstFault 109 = .ok (.l2i, 1) := by decide +kernel
theorem d_C_firstFault_110 : decode b_C_firstFault 110 = .ok (.aload_n 0, 1) := by decide +kernel
theorem d_C_firstFault_111 : decode b_C_firstFault 111 = .ok (.invokevirtual 60, 3) := by decide +kernel
theorem d_C_firstFault_114 : decode b_C_firstFault 114 = .ok (.if_icmp .eq 6, 3) := by decide +kernel
theorem d_C_firstFault_117 : decode b_C_firstFault 117 = .ok (.bipush 6, 2) := by decide +kernel
theorem d_C_firstFault_119 : decode b_C_firstFault 119 = .ok (.ireturn, 1) := by decide +kernel
theorem d_C_firstFault_120 : decode b_C_firstFault 120 = .ok (.aload_n 0, 1) := by decide +kernel
theorem d_C_firstFault_121 : decode b_C_firstFault 121 = .ok (.invokevirtual 63, 3) := by decide +kernel
theorem d_C_firstFault_124 : decode b_C_firstFault 124 = .ok (.ifCond .eq 7, 3) := by decide +kernel
theorem d_C_firstFault_127 : decode b_C_firstFault 127 = .ok (.iconst 0, 1) := by decide +kernel
theorem d_C_firstFault_128 : decode b_C_firstFault 128 = .ok (.goto 5, 3) := by decide +kernel
theorem d_C_firstFault_131 : decode b_C_firstFault 131 = .ok (.bipush 7, 2) := by decide +kernel
theorem d_C_firstFault_133 : decode b_C_firstFault 133 = .ok (.ireturn, 1) := by decide +kernel
theorem d_C_isKindRight_0 : decode b_C_isKindRight 0 = .ok (.aload_n 0, 1) := by decide +kernel
theorem d_C_isKindRight_1 : decode b_C_isKindRight 1 = .ok (.getfield 17, 3) := by decide +kernel
theorem d_C_isKindRight_4 : decode b_C_isKindRight 4 = .ok (.aload_n 0, 1) := by decide +kernel
theorem d_C_isKindRight_5 : decode b_C_isKindRight 5 = .ok (.getfield 33, 3) := by decide +kernel
theorem d_C_isKindRight_8 : decode b_C_isKindRight 8 = .ok (.bipush 8, 2) := by decide +kernel
theorem d_C_isKindRight_10 : decode b_C_isKindRight 10 = .ok (.iadd, 1) := by decide +kernel
theorem d_C_isKindRight_11 : decode b_C_isKindRight 11 = .ok (.iconst 4, 1) := by decide +kernel
theorem d_C_isKindRight_12 : decode b_C_isKindRight 12 = .ok (.invokevirtual 41, 3) := by decide +kernel
theorem d_C_isKindRight_15 : decode b_C_isKindRight 15 = .ok (.ldc2_w 66, 3) := by decide +kernel
theorem d_C_isKindRight_18 : decode b_C_isKindRight 18 = .ok (.lcmp, 1) := by decide +kernel
theorem d_C_isKindRight_19 : decode b_C_isKindRight 19 = .ok (.ifCond .ne 49, 3) := by decide +kernel
theorem d_C_isKindRight_22 : decode b_C_isKindRight 22 = .ok (.aload_n 0, 1) := by decide +kernel
theorem d_C_isKindRight_23 : decode b_C_isKindRight 23 = .ok (.getfield 17, 3) := by decide +kernel
theorem d_C_isKindRight_26 : decode b_C_isKindRight 26 = .ok (.aload_n 0, 1) := by decide +kernel
theorem d_C_isKindRight_27 : decode b_C_isKindRight 27 = .ok (.getfield 33, 3) := by decide +kernel
theorem d_C_isKindRight_30 : decode b_C_isKindRight 30 = .ok (.bipush 12, 2) := by decide +kernel
theorem d_C_isKindRight_32 : decode b_C_isKindRight 32 = .ok (.iadd, 1) := by decide +kernel
theorem d_C_isKindRight_33 : decode b_C_isKindRight 33 = .ok (.iconst 4, 1) := by decide +kernel
theorem d_C_isKindRight_34 : decode b_C_isKindRight 34 = .ok (.invokevirtual 41, 3) := by decide +kernel
theorem d_C_isKindRight_37 : decode b_C_isKindRight 37 = .ok (.ldc2_w 68, 3) := by decide +kernel
theorem d_C_isKindRight_40 : decode b_C_isKindRight 40 = .ok (.lcmp, 1) := by decide +kernel
theorem d_C_isKindRight_41 : decode b_C_isKindRight 41 = .ok (.ifCond .ne 27, 3) := by decide +kernel
theorem d_C_isKindRight_44 : decode b_C_isKindRight 44 = .ok (.aload_n 0, 1) := by decide +kernel
theorem d_C_isKindRight_45 : decode b_C_isKindRight 45 = .ok (.getfield 17, 3) := by decide +kernel
theorem d_C_isKindRight_48 : decode b_C_isKindRight 48 = .ok (.aload_n 0, 1) := by decide +kernel
theorem d_C_isKindRight_49 : decode b_C_isKindRight 49 = .ok (.getfield 33, 3) := by decide +kernel
theorem d_C_isKindRight_52 : decode b_C_isKindRight 52 = .ok (.bipush 20, 2) := by decide +kernel
theorem d_C_isKindRight_54 : decode b_C_isKindRight 54 = .ok (.iadd, 1) := by decide +kernel
theorem d_C_isKindRight_55 : decode b_C_isKindRight 55 = .ok (.iconst 4, 1) := by decide +kernel
theorem d_C_isKindRight_56 : decode b_C_isKindRight 56 = .ok (.invokevirtual 41, 3) := by decide +kernel
theorem d_C_isKindRight_59 : decode b_C_isKindRight 59 = .ok (.lconst 0, 1) := by decide +kernel
theorem d_C_isKindRight_60 : decode b_C_isKindRight 60 = .ok (.lcmp, 1) := by decide +kernel
theorem d_C_isKindRight_61 : decode b_C_isKindRight 61 = .ok (.ifCond .ne 7, 3) := by decide +kernel
theorem d_C_isKindRight_64 : decode b_C_isKindRight 64 = .ok (.iconst 1, 1) := by decide +kernel
theorem d_C_isKindRight_65 : decode b_C_isKindRight 65 = .ok (.goto 4, 3) := by decide +kernel
theorem d_C_isKindRight_68 : decode b_C_isKindRight 68 = .ok (.iconst 0, 1) := by decide +kernel
theorem d_C_isKindRight_69 : decode b_C_isKindRight 69 = .ok (.ireturn, 1) := by decide +kernel
theorem d_C_isLayoutRight_0 : decode b_C_isLayoutRight 0 = .ok (.aload_n 0, 1) := by decide +kernel
theorem d_C_isLayoutRight_1 : decode b_C_isLayoutRight 1 = .ok (.getfield 17, 3) := by decide +kernel
theorem d_C_isLayoutRight_4 : decode b_C_isLayoutRight 4 = .ok (.aload_n 0, 1) := by decide +kernel
theorem d_C_isLayoutRight_5 : decode b_C_isLayoutRight 5 = .ok (.getfield 33, 3) := by decide +kernel
theorem d_C_isLayoutRight_8 : decode b_C_isLayoutRight 8 = .ok (.bipush 32, 2) := by decide +kernel
theorem d_C_isLayoutRight_10 : decode b_C_isLayoutRight 10 = .ok (.iadd, 1) := by decide +kernel
theorem d_C_isLayoutRight_11 : decode b_C_isLayoutRight 11 = .ok (.bipush 8, 2) := by decide +kernel
theorem d_C_isLayoutRight_13 : decode b_C_isLayoutRight 13 = .ok (.invokevirtual 41, 3) := by decide +kernel
theorem d_C_isLayoutRight_16 : decode b_C_isLayoutRight 16 = .ok (.aload_n 0, 1) := by decide +kernel
theorem d_C_isLayoutRight_17 : decode b_C_isLayoutRight 17 = .ok (.getfield 24, 3) := by decide +kernel
theorem d_C_isLayoutRight_20 : decode b_C_isLayoutRight 20 = .ok (.i2l, 1) := by decide +kernel
theorem d_C_isLayoutRight_21 : decode b_C_isLayoutRight 21 = .ok (.lcmp, 1) := by decide +kernel
theorem d_C_isLayoutRight_22 : decode b_C_isLayoutRight 22 = .ok (.ifCond .ne 124, 3) := by decide +kernel
theorem d_C_isLayoutRight_25 : decode b_C_isLayoutRight 25 = .ok (.aload_n 0, 1) := by decide +kernel
theorem d_C_isLayoutRight_26 : decode b_C_isLayoutRight 26 = .ok (.getfield 17, 3) := by decide +kernel
theorem d_C_isLayoutRight_29 : decode b_C_isLayoutRight 29 = .ok (.aload_n 0, 1) := by decide +kernel
theorem d_C_isLayoutRight_30 : decode b_C_isLayoutRight 30 = .ok (.getfield 33, 3) := by decide +kernel
theorem d_C_isLayoutRight_33 : decode b_C_isLayoutRight 33 = .ok (.bipush 40, 2) := by decide +kernel
theorem d_C_isLayoutRight_35 : decode b_C_isLayoutRight 35 = .ok (.iadd, 1) := by decide +kernel
theorem d_C_isLayoutRight_36 : decode b_C_isLayoutRight 36 = .ok (.bipush 8, 2) := by decide +kernel
theorem d_C_isLayoutRight_38 : decode b_C_isLayoutRight 38 = .ok (.invokevirtual 41, 3) := by decide +kernel
theorem d_C_isLayoutRight_41 : decode b_C_isLayoutRight 41 = .ok (.ldc2_w 70, 3) := by decide +kernel
theorem d_C_isLayoutRight_44 : decode b_C_isLayoutRight 44 = .ok (.lcmp, 1) := by decide +kernel
theorem d_C_isLayoutRight_45 : decode b_C_isLayoutRight 45 = .ok (.ifCond .ne 101, 3) := by decide +kernel
theorem d_C_isLayoutRight_48 : decode b_C_isLayoutRight 48 = .ok (.aload_n 0, 1) := by decide +kernel
theorem d_C_isLayoutRight_49 : decode b_C_isLayoutRight 49 = .ok (.getfield 17, 3) := by decide +kernel
theorem d_C_isLayoutRight_52 : decode b_C_isLayoutRight 52 = .ok (.aload_n 0, 1) := by decide +kernel
theorem d_C_isLayoutRight_53 : decode b_C_isLayoutRight 53 = .ok (.getfield 33, 3) := by decide +kernel
theorem d_C_isLayoutRight_56 : decode b_C_isLayoutRight 56 = .ok (.bipush 48, 2) := by decide +kernel
theorem d_C_isLayoutRight_58 : decode b_C_isLayoutRight 58 = .ok (.iadd, 1) := by decide +kernel
theorem d_C_isLayoutRight_59 : decode b_C_isLayoutRight 59 = .ok (.bipush 8, 2) := by decide +kernel
theorem d_C_isLayoutRight_61 : decode b_C_isLayoutRight 61 = .ok (.invokevirtual 41, 3) := by decide +kernel
theorem d_C_isLayoutRight_64 : decode b_C_isLayoutRight 64 = .ok (.aload_n 0, 1) := by decide +kernel
theorem d_C_isLayoutRight_65 : decode b_C_isLayoutRight 65 = .ok (.getfield 30, 3) := by decide +kernel
theorem d_C_isLayoutRight_68 : decode b_C_isLayoutRight 68 = .ok (.i2l, 1) := by decide +kernel
theorem d_C_isLayoutRight_69 : decode b_C_isLayoutRight 69 = .ok (.lcmp, 1) := by decide +kernel
theorem d_C_isLayoutRight_70 : decode b_C_isLayoutRight 70 = .ok (.ifCond .ne 76, 3) := by decide +kernel
theorem d_C_isLayoutRight_73 : decode b_C_isLayoutRight 73 = .ok (.aload_n 0, 1) := by decide +kernel
theorem d_C_isLayoutRight_74 : decode b_C_isLayoutRight 74 = .ok (.getfield 17, 3) := by decide +kernel
theorem d_C_isLayoutRight_77 : decode b_C_isLayoutRight 77 = .ok (.aload_n 0, 1) := by decide +kernel
theorem d_C_isLayoutRight_78 : decode b_C_isLayoutRight 78 = .ok (.getfield 33, 3) := by decide +kernel
theorem d_C_isLayoutRight_81 : decode b_C_isLayoutRight 81 = .ok (.bipush 72, 2) := by decide +kernel
theorem d_C_isLayoutRight_83 : decode b_C_isLayoutRight 83 = .ok (.iadd, 1) := by decide +kernel
theorem d_C_isLayoutRight_84 : decode b_C_isLayoutRight 84 = .ok (.bipush 8, 2) := by decide +kernel
theorem d_C_isLayoutRight_86 : decode b_C_isLayoutRight 86 = .ok (.invokevirtual 41, 3) := by decide +kernel
theorem d_C_isLayoutRight_89 : decode b_C_isLayoutRight 89 = .ok (.aload_n 0, 1) := by decide +kernel
theorem d_C_isLayoutRight_90 : decode b_C_isLayoutRight 90 = .ok (.getfield 27, 3) := by decide +kernel
theorem d_C_isLayoutRight_93 : decode b_C_isLayoutRight 93 = .ok (.i2l, 1) := by decide +kernel
theorem d_C_isLayoutRight_94 : decode b_C_isLayoutRight 94 = .ok (.lcmp, 1) := by decide +kernel
theorem d_C_isLayoutRight_95 : decode b_C_isLayoutRight 95 = .ok (.ifCond .ne 51, 3) := by decide +kernel
theorem d_C_isLayoutRight_98 : decode b_C_isLayoutRight 98 = .ok (.aload_n 0, 1) := by decide +kernel
theorem d_C_isLayoutRight_99 : decode b_C_isLayoutRight 99 = .ok (.getfield 17, 3) := by decide +kernel
theorem d_C_isLayoutRight_102 : decode b_C_isLayoutRight 102 = .ok (.aload_n 0, 1) := by decide +kernel
theorem d_C_isLayoutRight_103 : decode b_C_isLayoutRight 103 = .ok (.getfield 33, 3) := by decide +kernel
theorem d_C_isLayoutRight_106 : decode b_C_isLayoutRight 106 = .ok (.bipush 80, 2) := by decide +kernel
theorem d_C_isLayoutRight_108 : decode b_C_isLayoutRight 108 = .ok (.iadd, 1) := by decide +kernel
theorem d_C_isLayoutRight_109 : decode b_C_isLayoutRight 109 = .ok (.iconst 4, 1) := by decide +kernel
theorem d_C_isLayoutRight_110 : decode b_C_isLayoutRight 110 = .ok (.invokevirtual 41, 3) := by decide +kernel
theorem d_C_isLayoutRight_113 : decode b_C_isLayoutRight 113 = .ok (.ldc2_w 72, 3) := by decide +kernel
theorem d_C_isLayoutRight_116 : decode b_C_isLayoutRight 116 = .ok (.lcmp, 1) := by decide +kernel
theorem d_C_isLayoutRight_117 : decode b_C_isLayoutRight 117 = .ok (.ifCond .ne 29, 3) := by decide +kernel
theorem d_C_isLayoutRight_120 : decode b_C_isLayoutRight 120 = .ok (.aload_n 0, 1) := by decide +kernel
theorem d_C_isLayoutRight_121 : decode b_C_isLayoutRight 121 = .ok (.getfield 17, 3) := by decide +kernel
theorem d_C_isLayoutRight_124 : decode b_C_isLayoutRight 124 = .ok (.aload_n 0, 1) := by decide +kernel
theorem d_C_isLayoutRight_125 : decode b_C_isLayoutRight 125 = .ok (.getfield 33, 3) := by decide +kernel
theorem d_C_isLayoutRight_128 : decode b_C_isLayoutRight 128 = .ok (.bipush 84, 2) := by decide +kernel
theorem d_C_isLayoutRight_130 : decode b_C_isLayoutRight 130 = .ok (.iadd, 1) := by decide +kernel
theorem d_C_isLayoutRight_131 : decode b_C_isLayoutRight 131 = .ok (.iconst 4, 1) := by decide +kernel
theorem d_C_isLayoutRight_132 : decode b_C_isLayoutRight 132 = .ok (.invokevirtual 41, 3) := by decide +kernel
theorem d_C_isLayoutRight_135 : decode b_C_isLayoutRight 135 = .ok (.ldc2_w 74, 3) := by decide +kernel
theorem d_C_isLayoutRight_138 : decode b_C_isLayoutRight 138 = .ok (.lcmp, 1) := by decide +kernel
theorem d_C_isLayoutRight_139 : decode b_C_isLayoutRight 139 = .ok (.ifCond .ne 7, 3) := by decide +kernel
theorem d_C_isLayoutRight_142 : decode b_C_isLayoutRight 142 = .ok (.iconst 1, 1) := by decide +kernel
theorem d_C_isLayoutRight_143 : decode b_C_isLayoutRight 143 = .ok (.goto 4, 3) := by decide +kernel
theorem d_C_isLayoutRight_146 : decode b_C_isLayoutRight 146 = .ok (.iconst 0, 1) := by decide +kernel
theorem d_C_isLayoutRight_147 : decode b_C_isLayoutRight 147 = .ok (.ireturn, 1) := by decide +kernel
theorem d_C_areEntriesRight_0 : decode b_C_areEntriesRight 0 = .ok (.iconst 0, 1) := by decide +kernel
theorem d_C_areEntriesRight_1 : decode b_C_areEntriesRight 1 = .ok (.istore_n 1, 1) := by decide +kernel
theorem d_C_areEntriesRight_2 : decode b_C_areEntriesRight 2 = .ok (.iload_n 1, 1) := by decide +kernel
theorem d_C_areEntriesRight_3 : decode b_C_areEntriesRight 3 = .ok (.bipush 8, 2) := by decide +kernel
theorem d_C_areEntriesRight_5 : decode b_C_areEntriesRight 5 = .ok (.if_icmp .ge 65, 3) := by decide +kernel
theorem d_C_areEntriesRight_8 : decode b_C_areEntriesRight 8 = .ok (.aload_n 0, 1) := by decide +kernel
theorem d_C_areEntriesRight_9 : decode b_C_areEntriesRight 9 = .ok (.iload_n 1, 1) := by decide +kernel
theorem d_C_areEntriesRight_10 : decode b_C_areEntriesRight 10 = .ok (.bipush 32, 2) := by decide +kernel
theorem d_C_areEntriesRight_12 : decode b_C_areEntriesRight 12 = .ok (.invokevirtual 76, 3) := by decide +kernel
theorem d_C_areEntriesRight_15 : decode b_C_areEntriesRight 15 = .ok (.lstore_n 2, 1) := by decide +kernel
theorem d_C_areEntriesRight_16 : decode b_C_areEntriesRight 16 = .ok (.aload_n 0, 1) := by decide +kernel
theorem d_C_areEntriesRight_17 : decode b_C_areEntriesRight 17 = .ok (.iload_n 1, 1) := by decide +kernel
theorem d_C_areEntriesRight_18 : decode b_C_areEntriesRight 18 = .ok (.bipush 40, 2) := by decide +kernel
theorem d_C_areEntriesRight_20 : decode b_C_areEntriesRight 20 = .ok (.invokevirtual 76, 3) := by decide +kernel
theorem d_C_areEntriesRight_23 : decode b_C_areEntriesRight 23 = .ok (.lstore 4, 2) := by decide +kernel
theorem d_C_areEntriesRight_25 : decode b_C_areEntriesRight 25 = .ok (.aload_n 0, 1) := by decide +kernel
theorem d_C_areEntriesRight_26 : decode b_C_areEntriesRight 26 = .ok (.iload_n 1, 1) := by decide +kernel
theorem d_C_areEntriesRight_27 : decode b_C_areEntriesRight 27 = .ok (.invokevirtual 79, 3) := by decide +kernel
theorem d_C_areEntriesRight_30 : decode b_C_areEntriesRight 30 = .ok (.ifCond .ne 34, 3) := by decide +kernel
theorem d_C_areEntriesRight_33 : decode b_C_areEntriesRight 33 = .ok (.aload_n 0, 1) := by decide +kernel
theorem d_C_areEntriesRight_34 : decode b_C_areEntriesRight 34 = .ok (.lload_n 2, 1) := by decide +kernel
theorem d_C_areEntriesRight_35 : decode b_C_areEntriesRight 35 = .ok (.lload 4, 2) := by decide +kernel
theorem d_C_areEntriesRight_37 : decode b_C_areEntriesRight 37 = .ok (.invokevirtual 83, 3) := by decide +kernel
theorem d_C_areEntriesRight_40 : decode b_C_areEntriesRight 40 = .ok (.ifCond .eq 22, 3) := by decide +kernel
theorem d_C_areEntriesRight_43 : decode b_C_areEntriesRight 43 = .ok (.aload_n 0, 1) := by decide +kernel
theorem d_C_areEntriesRight_44 : decode b_C_areEntriesRight 44 = .ok (.lload_n 2, 1) := by decide +kernel
theorem d_C_areEntriesRight_45 : decode b_C_areEntriesRight 45 = .ok (.lload 4, 2) := by decide +kernel
theorem d_C_areEntriesRight_47 : decode b_C_areEntriesRight 47 = .ok (.iload_n 1, 1) := by decide +kernel
theorem d_C_areEntriesRight_48 : decode b_C_areEntriesRight 48 = .ok (.invokevirtual 87, 3) := by decide +kernel
theorem d_C_areEntriesRight_51 : decode b_C_areEntriesRight 51 = .ok (.ifCond .ne 11, 3) := by decide +kernel
theorem d_C_areEntriesRight_54 : decode b_C_areEntriesRight 54 = .ok (.aload_n 0, 1) := by decide +kernel
theorem d_C_areEntriesRight_55 : decode b_C_areEntriesRight 55 = .ok (.iload_n 1, 1) := by decide +kernel
theorem d_C_areEntriesRight_56 : decode b_C_areEntriesRight 56 = .ok (.invokevirtual 91, 3) := by decide +kernel
theorem d_C_areEntriesRight_59 : decode b_C_areEntriesRight 59 = .ok (.ifCond .eq 5, 3) := by decide +kernel
theorem d_C_areEntriesRight_62 : decode b_C_areEntriesRight 62 = .ok (.iconst 0, 1) := by decide +kernel
theorem d_C_areEntriesRight_63 : decode b_C_areEntriesRight 63 = .ok (.ireturn, 1) := by decide +kernel
theorem d_C_areEntriesRight_64 : decode b_C_areEntriesRight 64 = .ok (.iinc 1 1, 3) := by decide +kernel
theorem d_C_areEntriesRight_67 : decode b_C_areEntriesRight 67 = .ok (.goto (-65), 3) := by decide +kernel
theorem d_C_areEntriesRight_70 : decode b_C_areEntriesRight 70 = .ok (.iconst 1, 1) := by decide +kernel
theorem d_C_areEntriesRight_71 : decode b_C_areEntriesRight 71 = .ok (.ireturn, 1) := by decide +kernel
theorem d_C_isMarkRepeated_0 : decode b_C_isMarkRepeated 0 = .ok (.aload_n 0, 1) := by decide +kernel
theorem d_C_isMarkRepeated_1 : decode b_C_isMarkRepeated 1 = .ok (.iload_n 1, 1) := by decide +kernel
theorem d_C_isMarkRepeated_2 : decode b_C_isMarkRepeated 2 = .ok (.invokevirtual 94, 3) := by decide +kernel
theorem d_C_isMarkRepeated_5 : decode b_C_isMarkRepeated 5 = .ok (.bipush 16, 2) := by decide +kernel
theorem d_C_isMarkRepeated_7 : decode b_C_isMarkRepeated 7 = .ok (.iadd, 1) := by decide +kernel
theorem d_C_isMarkRepeated_8 : decode b_C_isMarkRepeated 8 = .ok (.istore_n 2, 1) := by decide +kernel
theorem d_C_isMarkRepeated_9 : decode b_C_isMarkRepeated 9 = .ok (.iconst 0, 1) := by decide +kernel
theorem d_C_isMarkRepeated_10 : decode b_C_isMarkRepeated 10 = .ok (.istore_n 3, 1) := by decide +kernel
theorem d_C_isMarkRepeated_11 : decode b_C_isMarkRepeated 11 = .ok (.iload_n 3, 1) := by decide +kernel
theorem d_C_isMarkRepeated_12 : decode b_C_isMarkRepeated 12 = .ok (.iload_n 1, 1) := by decide +kernel
theorem d_C_isMarkRepeated_13 : decode b_C_isMarkRepeated 13 = .ok (.if_icmp .ge 40, 3) := by decide +kernel
theorem d_C_isMarkRepeated_16 : decode b_C_isMarkRepeated 16 = .ok (.aload_n 0, 1) := by decide +kernel
theorem d_C_isMarkRepeated_17 : decode b_C_isMarkRepeated 17 = .ok (.iload_n 3, 1) := by decide +kernel
theorem d_C_isMarkRepeated_18 : decode b_C_isMarkRepeated 18 = .ok (.invokevirtual 79, 3) := by decide +kernel
theorem d_C_isMarkRepeated_21 : decode b_C_isMarkRepeated 21 = .ok (.ifCond .ne 26, 3) := by decide +kernel
theorem d_C_isMarkRepeated_24 : decode b_C_isMarkRepeated 24 = .ok (.aload_n 0, 1) := by decide +kernel
theorem d_C_isMarkRepeated_25 : decode b_C_isMarkRepeated 25 = .ok (.getfield 17, 3) := by decide +kernel
theorem d_C_isMarkRepeated_28 : decode b_C_isMarkRepeated 28 = .ok (.aload_n 0, 1) := by decide +kernel
theorem d_C_isMarkRepeated_29 : decode b_C_isMarkRepeated 29 = .ok (.iload_n 3, 1) := by decide +kernel
theorem d_C_isMarkRepeated_30 : decode b_C_isMarkRepeated 30 = .ok (.invokevirtual 94, 3) := by decide +kernel
theorem d_C_isMarkRepeated_33 : decode b_C_isMarkRepeated 33 = .ok (.bipush 16, 2) := by decide +kernel
theorem d_C_isMarkRepeated_35 : decode b_C_isMarkRepeated 35 = .ok (.iadd, 1) := by decide +kernel
theorem d_C_isMarkRepeated_36 : decode b_C_isMarkRepeated 36 = .ok (.iload_n 2, 1) := by decide +kernel
theorem d_C_isMarkRepeated_37 : decode b_C_isMarkRepeated 37 = .ok (.bipush 16, 2) := by decide +kernel
theorem d_C_isMarkRepeated_39 : decode b_C_isMarkRepeated 39 = .ok (.invokevirtual 98, 3) := by decide +kernel
theorem d_C_isMarkRepeated_42 : decode b_C_isMarkRepeated 42 = .ok (.ifCond .eq 5, 3) := by decide +kernel
theorem d_C_isMarkRepeated_45 : decode b_C_isMarkRepeated 45 = .ok (.iconst 1, 1) := by decide +kernel
theorem d_C_isMarkRepeated_46 : decode b_C_isMarkRepeated 46 = .ok (.ireturn, 1) := by decide +kernel
theorem d_C_isMarkRepeated_47 : decode b_C_isMarkRepeated 47 = .ok (.iinc 3 1, 3) := by decide +kernel
theorem d_C_isMarkRepeated_50 : decode b_C_isMarkRepeated 50 = .ok (.goto (-39), 3) := by decide +kernel
theorem d_C_isMarkRepeated_53 : decode b_C_isMarkRepeated 53 = .ok (.iconst 0, 1) := by decide +kernel
theorem d_C_isMarkRepeated_54 : decode b_C_isMarkRepeated 54 = .ok (.ireturn, 1) := by decide +kernel
theorem d_C_headerSum_0 : decode b_C_headerSum 0 = .ok (.aload_n 0, 1) := by decide +kernel
theorem d_C_headerSum_1 : decode b_C_headerSum 1 = .ok (.getfield 17, 3) := by decide +kernel
theorem d_C_headerSum_4 : decode b_C_headerSum 4 = .ok (.aload_n 0, 1) := by decide +kernel
theorem d_C_headerSum_5 : decode b_C_headerSum 5 = .ok (.getfield 33, 3) := by decide +kernel
theorem d_C_headerSum_8 : decode b_C_headerSum 8 = .ok (.bipush 16, 2) := by decide +kernel
theorem d_C_headerSum_10 : decode b_C_headerSum 10 = .ok (.iadd, 1) := by decide +kernel
theorem d_C_headerSum_11 : decode b_C_headerSum 11 = .ok (.aload_n 0, 1) := by decide +kernel
theorem d_C_headerSum_12 : decode b_C_headerSum 12 = .ok (.getfield 33, 3) := by decide +kernel
theorem d_C_headerSum_15 : decode b_C_headerSum 15 = .ok (.bipush 92, 2) := by decide +kernel
theorem d_C_headerSum_17 : decode b_C_headerSum 17 = .ok (.invokevirtual 102, 3) := by decide +kernel
theorem d_C_headerSum_20 : decode b_C_headerSum 20 = .ok (.ireturn, 1) := by decide +kernel
theorem d_C_arraySum_0 : decode b_C_arraySum 0 = .ok (.aload_n 0, 1) := by decide +kernel
theorem d_C_arraySum_1 : decode b_C_arraySum 1 = .ok (.getfield 17, 3) := by decide +kernel
theorem d_C_arraySum_4 : decode b_C_arraySum 4 = .ok (.aload_n 0, 1) := by decide +kernel
theorem d_C_arraySum_5 : decode b_C_arraySum 5 = .ok (.getfield 36, 3) := by decide +kernel
theorem d_C_arraySum_8 : decode b_C_arraySum 8 = .ok (.sipush 1024, 3) := by decide +kernel
theorem d_C_arraySum_11 : decode b_C_arraySum 11 = .ok (.invokevirtual 106, 3) := by decide +kernel
theorem d_C_arraySum_14 : decode b_C_arraySum 14 = .ok (.ireturn, 1) := by decide +kernel
theorem d_C_writeSums_0 : decode b_C_writeSums 0 = .ok (.aload_n 0, 1) := by decide +kernel
theorem d_C_writeSums_1 : decode b_C_writeSums 1 = .ok (.getfield 17, 3) := by decide +kernel
theorem d_C_writeSums_4 : decode b_C_writeSums 4 = .ok (.aload_n 0, 1) := by decide +kernel
theorem d_C_writeSums_5 : decode b_C_writeSums 5 = .ok (.getfield 33, 3) := by decide +kernel
theorem d_C_writeSums_8 : decode b_C_writeSums 8 = .ok (.bipush 88, 2) := by decide +kernel
theorem d_C_writeSums_10 : decode b_C_writeSums 10 = .ok (.iadd, 1) := by decide +kernel
theorem d_C_writeSums_11 : decode b_C_writeSums 11 = .ok (.iconst 4, 1) := by decide +kernel
theorem d_C_writeSums_12 : decode b_C_writeSums 12 = .ok (.aload_n 0, 1) := by decide +kernel
theorem d_C_writeSums_13 : decode b_C_writeSums 13 = .ok (.invokevirtual 60, 3) := by decide +kernel
theorem d_C_writeSums_16 : decode b_C_writeSums 16 = .ok (.i2l, 1) := by decide +kernel
theorem d_C_writeSums_17 : decode b_C_writeSums 17 = .ok (.invokevirtual 110, 3) := by decide +kernel
theorem d_C_writeSums_20 : decode b_C_writeSums 20 = .ok (.aload_n 0, 1) := by decide +kernel
theorem d_C_writeSums_21 : decode b_C_writeSums 21 = .ok (.getfield 17, 3) := by decide +kernel
theorem d_C_writeSums_24 : decode b_C_writeSums 24 = .ok (.aload_n 0, 1) := by decide +kernel
theorem d_C_writeSums_25 : decode b_C_writeSums 25 = .ok (.getfield 33, 3) := by decide +kernel
theorem d_C_writeSums_28 : decode b_C_writeSums 28 = .ok (.bipush 16, 2) := by decide +kernel
theorem d_C_writeSums_30 : decode b_C_writeSums 30 = .ok (.iadd, 1) := by decide +kernel
theorem d_C_writeSums_31 : decode b_C_writeSums 31 = .ok (.iconst 4, 1) := by decide +kernel
theorem d_C_writeSums_32 : decode b_C_writeSums 32 = .ok (.aload_n 0, 1) := by decide +kernel
theorem d_C_writeSums_33 : decode b_C_writeSums 33 = .ok (.invokevirtual 53, 3) := by decide +kernel
theorem d_C_writeSums_36 : decode b_C_writeSums 36 = .ok (.i2l, 1) := by decide +kernel
theorem d_C_writeSums_37 : decode b_C_writeSums 37 = .ok (.invokevirtual 110, 3) := by decide +kernel
theorem d_C_writeSums_40 : decode b_C_writeSums 40 = .ok (.return_, 1) := by decide +kernel
theorem d_C_write_0 : decode b_C_write 0 = .ok (.aload_n 1, 1) := by decide +kernel
theorem d_C_write_1 : decode b_C_write 1 = .ok (.invokevirtual 114, 3) := by decide +kernel
theorem d_C_write_4 : decode b_C_write 4 = .ok (.lstore_n 2, 1) := by decide +kernel
theorem d_C_write_5 : decode b_C_write 5 = .ok (.aload_n 1, 1) := by decide +kernel
theorem d_C_write_6 : decode b_C_write 6 = .ok (.invokevirtual 118, 3) := by decide +kernel
theorem d_C_write_9 : decode b_C_write 9 = .ok (.lstore 4, 2) := by decide +kernel
theorem d_C_write_11 : decode b_C_write 11 = .ok (.aload_n 0, 1) := by decide +kernel
theorem d_C_write_12 : decode b_C_write 12 = .ok (.getfield 17, 3) := by decide +kernel
theorem d_C_write_15 : decode b_C_write 15 = .ok (.aload_n 1, 1) := by decide +kernel
theorem d_C_write_16 : decode b_C_write 16 = .ok (.getfield 36, 3) := by decide +kernel
theorem d_C_write_19 : decode b_C_write 19 = .ok (.aload_n 0, 1) := by decide +kernel
theorem d_C_write_20 : decode b_C_write 20 = .ok (.getfield 36, 3) := by decide +kernel
theorem d_C_write_23 : decode b_C_write 23 = .ok (.sipush 1024, 3) := by decide +kernel
theorem d_C_write_26 : decode b_C_write 26 = .ok (.invokevirtual 121, 3) := by decide +kernel
theorem d_C_write_29 : decode b_C_write 29 = .ok (.aload_n 0, 1) := by decide +kernel
theorem d_C_write_30 : decode b_C_write 30 = .ok (.getfield 17, 3) := by decide +kernel
theorem d_C_write_33 : decode b_C_write 33 = .ok (.aload_n 0, 1) := by decide +kernel
theorem d_C_write_34 : decode b_C_write 34 = .ok (.getfield 33, 3) := by decide +kernel
theorem d_C_write_37 : decode b_C_write 37 = .ok (.sipush 512, 3) := by decide +kernel
theorem d_C_write_40 : decode b_C_write 40 = .ok (.invokevirtual 125, 3) := by decide +kernel
theorem d_C_write_43 : decode b_C_write 43 = .ok (.aload_n 0, 1) := by decide +kernel
theorem d_C_write_44 : decode b_C_write 44 = .ok (.getfield 17, 3) := by decide +kernel
theorem d_C_write_47 : decode b_C_write 47 = .ok (.aload_n 0, 1) := by decide +kernel
theorem d_C_write_48 : decode b_C_write 48 = .ok (.getfield 33, 3) := by decide +kernel
theorem d_C_write_51 : decode b_C_write 51 = .ok (.iconst 0, 1) := by decide +kernel
theorem d_C_write_52 : decode b_C_write 52 = .ok (.iadd, 1) := by decide +kernel
theorem d_C_write_53 : decode b_C_write 53 = .ok (.bipush 8, 2) := by decide +kernel
theorem d_C_write_55 : decode b_C_write 55 = .ok (.ldc2_w 47, 3) := by decide +kernel
theorem d_C_write_58 : decode b_C_write 58 = .ok (.invokevirtual 110, 3) := by decide +kernel
theorem d_C_write_61 : decode b_C_write 61 = .ok (.aload_n 0, 1) := by decide +kernel
theorem d_C_write_62 : decode b_C_write 62 = .ok (.getfield 17, 3) := by decide +kernel
theorem d_C_write_65 : decode b_C_write 65 = .ok (.aload_n 0, 1) := by decide +kernel
theorem d_C_write_66 : decode b_C_write 66 = .ok (.getfield 33, 3) := by decide +kernel
theorem d_C_write_69 : decode b_C_write 69 = .ok (.bipush 8, 2) := by decide +kernel
theorem d_C_write_71 : decode b_C_write 71 = .ok (.iadd, 1) := by decide +kernel
theorem d_C_write_72 : decode b_C_write 72 = .ok (.iconst 4, 1) := by decide +kernel
theorem d_C_write_73 : decode b_C_write 73 = .ok (.ldc2_w 66, 3) := by decide +kernel
theorem d_C_write_76 : decode b_C_write 76 = .ok (.invokevirtual 110, 3) := by decide +kernel
theorem d_C_write_79 : decode b_C_write 79 = .ok (.aload_n 0, 1) := by decide +kernel
theorem d_C_write_80 : decode b_C_write 80 = .ok (.getfield 17, 3) := by decide +kernel
theorem d_C_write_83 : decode b_C_write 83 = .ok (.aload_n 0, 1) := by decide +kernel
theorem d_C_write_84 : decode b_C_write 84 = .ok (.getfield 33, 3) := by decide +kernel
theorem d_C_write_87 : decode b_C_write 87 = .ok (.bipush 12, 2) := by decide +kernel
theorem d_C_write_89 : decode b_C_write 89 = .ok (.iadd, 1) := by decide +kernel
theorem d_C_write_90 : decode b_C_write 90 = .ok (.iconst 4, 1) := by decide +kernel
theorem d_C_write_91 : decode b_C_write 91 = .ok (.ldc2_w 68, 3) := by decide +kernel
theorem d_C_write_94 : decode b_C_write 94 = .ok (.invokevirtual 110, 3) := by decide +kernel
theorem d_C_write_97 : decode b_C_write 97 = .ok (.aload_n 0, 1) := by decide +kernel
theorem d_C_write_98 : decode b_C_write 98 = .ok (.getfield 17, 3) := by decide +kernel
theorem d_C_write_101 : decode b_C_write 101 = .ok (.aload_n 0, 1) := by decide +kernel
theorem d_C_write_102 : decode b_C_write 102 = .ok (.getfield 33, 3) := by decide +kernel
theorem d_C_write_105 : decode b_C_write 105 = .ok (.bipush 24, 2) := by decide +kernel
theorem d_C_write_107 : decode b_C_write 107 = .ok (.iadd, 1) := by decide +kernel
theorem d_C_write_108 : decode b_C_write 108 = .ok (.bipush 8, 2) := by decide +kernel
theorem d_C_write_110 : decode b_C_write 110 = .ok (.aload_n 0, 1) := by decide +kernel
theorem d_C_write_111 : decode b_C_write 111 = .ok (.getfield 21, 3) := by decide +kernel
theorem d_C_write_114 : decode b_C_write 114 = .ok (.i2l, 1) := by decide +kernel
theorem d_C_write_115 : decode b_C_write 115 = .ok (.invokevirtual 110, 3) := by decide +kernel
theorem d_C_write_118 : decode b_C_write 118 = .ok (.aload_n 0, 1) := by decide +kernel
theorem d_C_write_119 : decode b_C_write 119 = .ok (.getfield 17, 3) := by decide +kernel
theorem d_C_write_122 : decode b_C_write 122 = .ok (.aload_n 0, 1) := by decide +kernel
theorem d_C_write_123 : decode b_C_write 123 = .ok (.getfield 33, 3) := by decide +kernel
theorem d_C_write_126 : decode b_C_write 126 = .ok (.bipush 32, 2) := by decide +kernel
theorem d_C_write_128 : decode b_C_write 128 = .ok (.iadd, 1) := by decide +kernel
theorem d_C_write_129 : decode b_C_write 129 = .ok (.bipush 8, 2) := by decide +kernel
theorem d_C_write_131 : decode b_C_write 131 = .ok (.aload_n 0, 1) := by decide +kernel
theorem d_C_write_132 : decode b_C_write 132 = .ok (.getfield 24, 3) := by decide +kernel
theorem d_C_write_135 : decode b_C_write 135 = .ok (.i2l, 1) := by decide +kernel
theorem d_C_write_136 : decode b_C_write 136 = .ok (.invokevirtual 110, 3) := by decide +kernel
theorem d_C_write_139 : decode b_C_write 139 = .ok (.aload_n 0, 1) := by decide +kernel
theorem d_C_write_140 : decode b_C_write 140 = .ok (.getfield 17, 3) := by decide +kernel
theorem d_C_write_143 : decode b_C_write 143 = .ok (.aload_n 0, 1) := by decide +kernel
theorem d_C_write_144 : decode b_C_write 144 = .ok (.getfield 33, 3) := by decide +kernel
theorem d_C_write_147 : decode b_C_write 147 = .ok (.bipush 40, 2) := by decide +kernel
theorem d_C_write_149 : decode b_C_write 149 = .ok (.iadd, 1) := by decide +kernel
theorem d_C_write_150 : decode b_C_write 150 = .ok (.bipush 8, 2) := by decide +kernel
theorem d_C_write_152 : decode b_C_write 152 = .ok (.ldc2_w 70, 3) := by decide +kernel
theorem d_C_write_155 : decode b_C_write 155 = .ok (.invokevirtual 110, 3) := by decide +kernel
theorem d_C_write_158 : decode b_C_write 158 = .ok (.aload_n 0, 1) := by decide +kernel
theorem d_C_write_159 : decode b_C_write 159 = .ok (.getfield 17, 3) := by decide +kernel
theorem d_C_write_162 : decode b_C_write 162 = .ok (.aload_n 0, 1) := by decide +kernel
theorem d_C_write_163 : decode b_C_write 163 = .ok (.getfield 33, 3) := by decide +kernel
theorem d_C_write_166 : decode b_C_write 166 = .ok (.bipush 48, 2) := by decide +kernel
theorem d_C_write_168 : decode b_C_write 168 = .ok (.iadd, 1) := by decide +kernel
theorem d_C_write_169 : decode b_C_write 169 = .ok (.bipush 8, 2) := by decide +kernel
theorem d_C_write_171 : decode b_C_write 171 = .ok (.aload_n 0, 1) := by decide +kernel
theorem d_C_write_172 : decode b_C_write 172 = .ok (.getfield 30, 3) := by decide +kernel
theorem d_C_write_175 : decode b_C_write 175 = .ok (.i2l, 1) := by decide +kernel
theorem d_C_write_176 : decode b_C_write 176 = .ok (.invokevirtual 110, 3) := by decide +kernel
theorem d_C_write_179 : decode b_C_write 179 = .ok (.aload_n 0, 1) := by decide +kernel
theorem d_C_write_180 : decode b_C_write 180 = .ok (.getfield 17, 3) := by decide +kernel
theorem d_C_write_183 : decode b_C_write 183 = .ok (.aload_n 0, 1) := by decide +kernel
theorem d_C_write_184 : decode b_C_write 184 = .ok (.getfield 33, 3) := by decide +kernel
theorem d_C_write_187 : decode b_C_write 187 = .ok (.bipush 56, 2) := by decide +kernel
theorem d_C_write_189 : decode b_C_write 189 = .ok (.iadd, 1) := by decide +kernel
theorem d_C_write_190 : decode b_C_write 190 = .ok (.bipush 8, 2) := by decide +kernel
theorem d_C_write_192 : decode b_C_write 192 = .ok (.lload_n 2, 1) := by decide +kernel
theorem d_C_write_193 : decode b_C_write 193 = .ok (.invokevirtual 110, 3) := by decide +kernel
theorem d_C_write_196 : decode b_C_write 196 = .ok (.aload_n 0, 1) := by decide +kernel
theorem d_C_write_197 : decode b_C_write 197 = .ok (.getfield 17, 3) := by decide +kernel
theorem d_C_write_200 : decode b_C_write 200 = .ok (.aload_n 0, 1) := by decide +kernel
theorem d_C_write_201 : decode b_C_write 201 = .ok (.getfield 33, 3) := by decide +kernel
theorem d_C_write_204 : decode b_C_write 204 = .ok (.bipush 56, 2) := by decide +kernel
theorem d_C_write_206 : decode b_C_write 206 = .ok (.iadd, 1) := by decide +kernel
theorem d_C_write_207 : decode b_C_write 207 = .ok (.bipush 8, 2) := by decide +kernel
theorem d_C_write_209 : decode b_C_write 209 = .ok (.iadd, 1) := by decide +kernel
theorem d_C_write_210 : decode b_C_write 210 = .ok (.bipush 8, 2) := by decide +kernel
theorem d_C_write_212 : decode b_C_write 212 = .ok (.lload 4, 2) := by decide +kernel
theorem d_C_write_214 : decode b_C_write 214 = .ok (.invokevirtual 110, 3) := by decide +kernel
theorem d_C_write_217 : decode b_C_write 217 = .ok (.aload_n 0, 1) := by decide +kernel
theorem d_C_write_218 : decode b_C_write 218 = .ok (.getfield 17, 3) := by decide +kernel
theorem d_C_write_221 : decode b_C_write 221 = .ok (.aload_n 0, 1) := by decide +kernel
theorem d_C_write_222 : decode b_C_write 222 = .ok (.getfield 33, 3) := by decide +kernel
theorem d_C_write_225 : decode b_C_write 225 = .ok (.bipush 72, 2) := by decide +kernel
theorem d_C_write_227 : decode b_C_write 227 = .ok (.iadd, 1) := by decide +kernel
theorem d_C_write_228 : decode b_C_write 228 = .ok (.bipush 8, 2) := by decide +kernel
theorem d_C_write_230 : decode b_C_write 230 = .ok (.aload_n 0, 1) := by decide +kernel
theorem d_C_write_231 : decode b_C_write 231 = .ok (.getfield 27, 3) := by decide +kernel
theorem d_C_write_234 : decode b_C_write 234 = .ok (.i2l, 1) := by decide +kernel
theorem d_C_write_235 : decode b_C_write 235 = .ok (.invokevirtual 110, 3) := by decide +kernel
theorem d_C_write_238 : decode b_C_write 238 = .ok (.aload_n 0, 1) := by decide +kernel
theorem d_C_write_239 : decode b_C_write 239 = .ok (.getfield 17, 3) := by decide +kernel
theorem d_C_write_242 : decode b_C_write 242 = .ok (.aload_n 0, 1) := by decide +kernel
theorem d_C_write_243 : decode b_C_write 243 = .ok (.getfield 33, 3) := by decide +kernel
theorem d_C_write_246 : decode b_C_write 246 = .ok (.bipush 80, 2) := by decide +kernel
theorem d_C_write_248 : decode b_C_write 248 = .ok (.iadd, 1) := by decide +kernel
theorem d_C_write_249 : decode b_C_write 249 = .ok (.iconst 4, 1) := by decide +kernel
theorem d_C_write_250 : decode b_C_write 250 = .ok (.ldc2_w 72, 3) := by decide +kernel
theorem d_C_write_253 : decode b_C_write 253 = .ok (.invokevirtual 110, 3) := by decide +kernel
theorem d_C_write_256 : decode b_C_write 256 = .ok (.aload_n 0, 1) := by decide +kernel
theorem d_C_write_257 : decode b_C_write 257 = .ok (.getfield 17, 3) := by decide +kernel
theorem d_C_write_260 : decode b_C_write 260 = .ok (.aload_n 0, 1) := by decide +kernel
theorem d_C_write_261 : decode b_C_write 261 = .ok (.getfield 33, 3) := by decide +kernel
theorem d_C_write_264 : decode b_C_write 264 = .ok (.bipush 84, 2) := by decide +kernel
theorem d_C_write_266 : decode b_C_write 266 = .ok (.iadd, 1) := by decide +kernel
theorem d_C_write_267 : decode b_C_write 267 = .ok (.iconst 4, 1) := by decide +kernel
theorem d_C_write_268 : decode b_C_write 268 = .ok (.ldc2_w 74, 3) := by decide +kernel
theorem d_C_write_271 : decode b_C_write 271 = .ok (.invokevirtual 110, 3) := by decide +kernel
theorem d_C_write_274 : decode b_C_write 274 = .ok (.aload_n 0, 1) := by decide +kernel
theorem d_C_write_275 : decode b_C_write 275 = .ok (.invokevirtual 129, 3) := by decide +kernel
theorem d_C_write_278 : decode b_C_write 278 = .ok (.return_, 1) := by decide +kernel
theorem d_C_diskMark_0 : decode b_C_diskMark 0 = .ok (.aload_n 0, 1) := by decide +kernel
theorem d_C_diskMark_1 : decode b_C_diskMark 1 = .ok (.getfield 17, 3) := by decide +kernel
theorem d_C_diskMark_4 : decode b_C_diskMark 4 = .ok (.aload_n 0, 1) := by decide +kernel
theorem d_C_diskMark_5 : decode b_C_diskMark 5 = .ok (.getfield 33, 3) := by decide +kernel
theorem d_C_diskMark_8 : decode b_C_diskMark 8 = .ok (.bipush 56, 2) := by decide +kernel
theorem d_C_diskMark_10 : decode b_C_diskMark 10 = .ok (.iadd, 1) := by decide +kernel
theorem d_C_diskMark_11 : decode b_C_diskMark 11 = .ok (.bipush 8, 2) := by decide +kernel
theorem d_C_diskMark_13 : decode b_C_diskMark 13 = .ok (.invokevirtual 41, 3) := by decide +kernel
theorem d_C_diskMark_16 : decode b_C_diskMark 16 = .ok (.lreturn, 1) := by decide +kernel
theorem d_C_diskMarkTail_0 : decode b_C_diskMarkTail 0 = .ok (.aload_n 0, 1) := by decide +kernel
theorem d_C_diskMarkTail_1 : decode b_C_diskMarkTail 1 = .ok (.getfield 17, 3) := by decide +kernel
theorem d_C_diskMarkTail_4 : decode b_C_diskMarkTail 4 = .ok (.aload_n 0, 1) := by decide +kernel
theorem d_C_diskMarkTail_5 : decode b_C_diskMarkTail 5 = .ok (.getfield 33, 3) := by decide +kernel
theorem d_C_diskMarkTail_8 : decode b_C_diskMarkTail 8 = .ok (.bipush 56, 2) := by decide +kernel
theorem d_C_diskMarkTail_10 : decode b_C_diskMarkTail 10 = .ok (.iadd, 1) := by decide +kernel
theorem d_C_diskMarkTail_11 : decode b_C_diskMarkTail 11 = .ok (.bipush 8, 2) := by decide +kernel
theorem d_C_diskMarkTail_13 : decode b_C_diskMarkTail 13 = .ok (.iadd, 1) := by decide +kernel
theorem d_C_diskMarkTail_14 : decode b_C_diskMarkTail 14 = .ok (.bipush 8, 2) := by decide +kernel
theorem d_C_diskMarkTail_16 : decode b_C_diskMarkTail 16 = .ok (.invokevirtual 41, 3) := by decide +kernel
theorem d_C_diskMarkTail_19 : decode b_C_diskMarkTail 19 = .ok (.lreturn, 1) := by decide +kernel
theorem d_C_setDiskMark_0 : decode b_C_setDiskMark 0 = .ok (.aload_n 0, 1) := by decide +kernel
theorem d_C_setDiskMark_1 : decode b_C_setDiskMark 1 = .ok (.getfield 17, 3) := by decide +kernel
theorem d_C_setDiskMark_4 : decode b_C_setDiskMark 4 = .ok (.aload_n 0, 1) := by decide +kernel
theorem d_C_setDiskMark_5 : decode b_C_setDiskMark 5 = .ok (.getfield 33, 3) := by decide +kernel
theorem d_C_setDiskMark_8 : decode b_C_setDiskMark 8 = .ok (.bipush 56, 2) := by decide +kernel
theorem d_C_setDiskMark_10 : decode b_C_setDiskMark 10 = .ok (.iadd, 1) := by decide +kernel
theorem d_C_setDiskMark_11 : decode b_C_setDiskMark 11 = .ok (.bipush 8, 2) := by decide +kernel
theorem d_C_setDiskMark_13 : decode b_C_setDiskMark 13 = .ok (.lload_n 1, 1) := by decide +kernel
theorem d_C_setDiskMark_14 : decode b_C_setDiskMark 14 = .ok (.invokevirtual 110, 3) := by decide +kernel
theorem d_C_setDiskMark_17 : decode b_C_setDiskMark 17 = .ok (.aload_n 0, 1) := by decide +kernel
theorem d_C_setDiskMark_18 : decode b_C_setDiskMark 18 = .ok (.getfield 17, 3) := by decide +kernel
theorem d_C_setDiskMark_21 : decode b_C_setDiskMark 21 = .ok (.aload_n 0, 1) := by decide +kernel
theorem d_C_setDiskMark_22 : decode b_C_setDiskMark 22 = .ok (.getfield 33, 3) := by decide +kernel
theorem d_C_setDiskMark_25 : decode b_C_setDiskMark 25 = .ok (.bipush 56, 2) := by decide +kernel
theorem d_C_setDiskMark_27 : decode b_C_setDiskMark 27 = .ok (.iadd, 1) := by decide +kernel
theorem d_C_setDiskMark_28 : decode b_C_setDiskMark 28 = .ok (.bipush 8, 2) := by decide +kernel
theorem d_C_setDiskMark_30 : decode b_C_setDiskMark 30 = .ok (.iadd, 1) := by decide +kernel
theorem d_C_setDiskMark_31 : decode b_C_setDiskMark 31 = .ok (.bipush 8, 2) := by decide +kernel
theorem d_C_setDiskMark_33 : decode b_C_setDiskMark 33 = .ok (.lload_n 1, 1) := by decide +kernel
theorem d_C_setDiskMark_34 : decode b_C_setDiskMark 34 = .ok (.invokestatic 132, 3) := by decide +kernel
theorem d_C_setDiskMark_37 : decode b_C_setDiskMark 37 = .ok (.invokevirtual 110, 3) := by decide +kernel
theorem d_C_setDiskMark_40 : decode b_C_setDiskMark 40 = .ok (.return_, 1) := by decide +kernel
theorem d_C_isLike_0 : decode b_C_isLike 0 = .ok (.aload_n 0, 1) := by decide +kernel
theorem d_C_isLike_1 : decode b_C_isLike 1 = .ok (.getfield 17, 3) := by decide +kernel
theorem d_C_isLike_4 : decode b_C_isLike 4 = .ok (.aload_n 0, 1) := by decide +kernel
theorem d_C_isLike_5 : decode b_C_isLike 5 = .ok (.getfield 36, 3) := by decide +kernel
theorem d_C_isLike_8 : decode b_C_isLike 8 = .ok (.aload_n 1, 1) := by decide +kernel
theorem d_C_isLike_9 : decode b_C_isLike 9 = .ok (.getfield 36, 3) := by decide +kernel
theorem d_C_isLike_12 : decode b_C_isLike 12 = .ok (.sipush 1024, 3) := by decide +kernel
theorem d_C_isLike_15 : decode b_C_isLike 15 = .ok (.invokevirtual 98, 3) := by decide +kernel
theorem d_C_isLike_18 : decode b_C_isLike 18 = .ok (.ifCond .eq 33, 3) := by decide +kernel
theorem d_C_isLike_21 : decode b_C_isLike 21 = .ok (.aload_n 0, 1) := by decide +kernel
theorem d_C_isLike_22 : decode b_C_isLike 22 = .ok (.getfield 17, 3) := by decide +kernel
theorem d_C_isLike_25 : decode b_C_isLike 25 = .ok (.aload_n 0, 1) := by decide +kernel
theorem d_C_isLike_26 : decode b_C_isLike 26 = .ok (.getfield 33, 3) := by decide +kernel
theorem d_C_isLike_29 : decode b_C_isLike 29 = .ok (.bipush 56, 2) := by decide +kernel
theorem d_C_isLike_31 : decode b_C_isLike 31 = .ok (.iadd, 1) := by decide +kernel
theorem d_C_isLike_32 : decode b_C_isLike 32 = .ok (.aload_n 1, 1) := by decide +kernel
theorem d_C_isLike_33 : decode b_C_isLike 33 = .ok (.getfield 33, 3) := by decide +kernel
theorem d_C_isLike_36 : decode b_C_isLike 36 = .ok (.bipush 56, 2) := by decide +kernel
theorem d_C_isLike_38 : decode b_C_isLike 38 = .ok (.iadd, 1) := by decide +kernel
theorem d_C_isLike_39 : decode b_C_isLike 39 = .ok (.bipush 16, 2) := by decide +kernel
theorem d_C_isLike_41 : decode b_C_isLike 41 = .ok (.invokevirtual 98, 3) := by decide +kernel
theorem d_C_isLike_44 : decode b_C_isLike 44 = .ok (.ifCond .eq 7, 3) := by decide +kernel
theorem d_C_isLike_47 : decode b_C_isLike 47 = .ok (.iconst 1, 1) := by decide +kernel
theorem d_C_isLike_48 : decode b_C_isLike 48 = .ok (.goto 4, 3) := by decide +kernel
theorem d_C_isLike_51 : decode b_C_isLike 51 = .ok (.iconst 0, 1) := by decide +kernel
theorem d_C_isLike_52 : decode b_C_isLike 52 = .ok (.ireturn, 1) := by decide +kernel
theorem d_C_isUsable_0 : decode b_C_isUsable 0 = .ok (.lload_n 1, 1) := by decide +kernel
theorem d_C_isUsable_1 : decode b_C_isUsable 1 = .ok (.ldc2_w 70, 3) := by decide +kernel
theorem d_C_isUsable_4 : decode b_C_isUsable 4 = .ok (.lcmp, 1) := by decide +kernel
theorem d_C_isUsable_5 : decode b_C_isUsable 5 = .ok (.ifCond .lt 23, 3) := by decide +kernel
theorem d_C_isUsable_8 : decode b_C_isUsable 8 = .ok (.lload_n 3, 1) := by decide +kernel
theorem d_C_isUsable_9 : decode b_C_isUsable 9 = .ok (.aload_n 0, 1) := by decide +kernel
theorem d_C_isUsable_10 : decode b_C_isUsable 10 = .ok (.getfield 30, 3) := by decide +kernel
theorem d_C_isUsable_13 : decode b_C_isUsable 13 = .ok (.i2l, 1) := by decide +kernel
theorem d_C_isUsable_14 : decode b_C_isUsable 14 = .ok (.lcmp, 1) := by decide +kernel
theorem d_C_isUsable_15 : decode b_C_isUsable 15 = .ok (.ifCond .gt 13, 3) := by decide +kernel
theorem d_C_isUsable_18 : decode b_C_isUsable 18 = .ok (.lload_n 1, 1) := by decide +kernel
theorem d_C_isUsable_19 : decode b_C_isUsable 19 = .ok (.lload_n 3, 1) := by decide +kernel
theorem d_C_isUsable_20 : decode b_C_isUsable 20 = .ok (.lcmp, 1) := by decide +kernel
theorem d_C_isUsable_21 : decode b_C_isUsable 21 = .ok (.ifCond .gt 7, 3) := by decide +kernel
theorem d_C_isUsable_24 : decode b_C_isUsable 24 = .ok (.iconst 1, 1) := by decide +kernel
theorem d_C_isUsable_25 : decode b_C_isUsable 25 = .ok (.goto 4, 3) := by decide +kernel
theorem d_C_isUsable_28 : decode b_C_isUsable 28 = .ok (.iconst 0, 1) := by decide +kernel
theorem d_C_isUsable_29 : decode b_C_isUsable 29 = .ok (.ireturn, 1) := by decide +kernel
theorem d_C_isTaken_0 : decode b_C_isTaken 0 = .ok (.iconst 0, 1) := by decide +kernel
theorem d_C_isTaken_1 : decode b_C_isTaken 1 = .ok (.istore 6, 2) := by decide +kernel
theorem d_C_isTaken_3 : decode b_C_isTaken 3 = .ok (.iload 6, 2) := by decide +kernel
theorem d_C_isTaken_5 : decode b_C_isTaken 5 = .ok (.bipush 8, 2) := by decide +kernel
theorem d_C_isTaken_7 : decode b_C_isTaken 7 = .ok (.if_icmp .ge 53, 3) := by decide +kernel
theorem d_C_isTaken_10 : decode b_C_isTaken 10 = .ok (.iload 6, 2) := by decide +kernel
theorem d_C_isTaken_12 : decode b_C_isTaken 12 = .ok (.iload 5, 2) := by decide +kernel
theorem d_C_isTaken_14 : decode b_C_isTaken 14 = .ok (.if_icmp .eq 40, 3) := by decide +kernel
theorem d_C_isTaken_17 : decode b_C_isTaken 17 = .ok (.aload_n 0, 1) := by decide +kernel
theorem d_C_isTaken_18 : decode b_C_isTaken 18 = .ok (.iload 6, 2) := by decide +kernel
theorem d_C_isTaken_20 : decode b_C_isTaken 20 = .ok (.invokevirtual 79, 3) := by decide +kernel
theorem d_C_isTaken_23 : decode b_C_isTaken 23 = .ok (.ifCond .ne 31, 3) := by decide +kernel
theorem d_C_isTaken_26 : decode b_C_isTaken 26 = .ok (.aload_n 0, 1) := by decide +kernel
theorem d_C_isTaken_27 : decode b_C_isTaken 27 = .ok (.iload 6, 2) := by decide +kernel
theorem d_C_isTaken_29 : decode b_C_isTaken 29 = .ok (.bipush 32, 2) := by decide +kernel
theorem d_C_isTaken_31 : decode b_C_isTaken 31 = .ok (.invokevirtual 76, 3) := by decide +kernel
theorem d_C_isTaken_34 : decode b_C_isTaken 34 = .ok (.lload_n 3, 1) := by decide +kernel
theorem d_C_isTaken_35 : decode b_C_isTaken 35 = .ok (.lcmp, 1) := by decide +kernel
theorem d_C_isTaken_36 : decode b_C_isTaken 36 = .ok (.ifCond .gt 18, 3) := by decide +kernel
theorem d_C_isTaken_39 : decode b_C_isTaken 39 = .ok (.aload_n 0, 1) := by decide +kernel
theorem d_C_isTaken_40 : decode b_C_isTaken 40 = .ok (.iload 6, 2) := by decide +kernel
theorem d_C_isTaken_42 : decode b_C_isTaken 42 = .ok (.bipush 40, 2) := by decide +kernel
theorem d_C_isTaken_44 : decode b_C_isTaken 44 = .ok (.invokevirtual 76, 3) := by decide +kernel
theorem d_C_isTaken_47 : decode b_C_isTaken 47 = .ok (.lload_n 1, 1) := by decide +kernel
theorem d_C_isTaken_48 : decode b_C_isTaken 48 = .ok (.lcmp, 1) := by decide +kernel
theorem d_C_isTaken_49 : decode b_C_isTaken 49 = .ok (.ifCond .lt 5, 3) := by decide +kernel
theorem d_C_isTaken_52 : decode b_C_isTaken 52 = .ok (.iconst 1, 1) := by decide +kernel
theorem d_C_isTaken_53 : decode b_C_isTaken 53 = .ok (.ireturn, 1) := by decide +kernel
theorem d_C_isTaken_54 : decode b_C_isTaken 54 = .ok (.iinc 6 1, 3) := by decide +kernel
theorem d_C_isTaken_57 : decode b_C_isTaken 57 = .ok (.goto (-54), 3) := by decide +kernel
theorem d_C_isTaken_60 : decode b_C_isTaken 60 = .ok (.iconst 0, 1) := by decide +kernel
theorem d_C_isTaken_61 : decode b_C_isTaken 61 = .ok (.ireturn, 1) := by decide +kernel
theorem d_C_isMarkUsed_0 : decode b_C_isMarkUsed 0 = .ok (.iconst 0, 1) := by decide +kernel
theorem d_C_isMarkUsed_1 : decode b_C_isMarkUsed 1 = .ok (.istore 5, 2) := by decide +kernel
theorem d_C_isMarkUsed_3 : decode b_C_isMarkUsed 3 = .ok (.iload 5, 2) := by decide +kernel
theorem d_C_isMarkUsed_5 : decode b_C_isMarkUsed 5 = .ok (.bipush 8, 2) := by decide +kernel
theorem d_C_isMarkUsed_7 : decode b_C_isMarkUsed 7 = .ok (.if_icmp .ge 46, 3) := by decide +kernel
theorem d_C_isMarkUsed_10 : decode b_C_isMarkUsed 10 = .ok (.aload_n 0, 1) := by decide +kernel
theorem d_C_isMarkUsed_11 : decode b_C_isMarkUsed 11 = .ok (.iload 5, 2) := by decide +kernel
theorem d_C_isMarkUsed_13 : decode b_C_isMarkUsed 13 = .ok (.invokevirtual 79, 3) := by decide +kernel
theorem d_C_isMarkUsed_16 : decode b_C_isMarkUsed 16 = .ok (.ifCond .ne 31, 3) := by decide +kernel
theorem d_C_isMarkUsed_19 : decode b_C_isMarkUsed 19 = .ok (.aload_n 0, 1) := by decide +kernel
theorem d_C_isMarkUsed_20 : decode b_C_isMarkUsed 20 = .ok (.iload 5, 2) := by decide +kernel
theorem d_C_isMarkUsed_22 : decode b_C_isMarkUsed 22 = .ok (.bipush 16, 2) := by decide +kernel
theorem d_C_isMarkUsed_24 : decode b_C_isMarkUsed 24 = .ok (.invokevirtual 76, 3) := by decide +kernel
theorem d_C_isMarkUsed_27 : decode b_C_isMarkUsed 27 = .ok (.lload_n 1, 1) := by decide +kernel
theorem d_C_isMarkUsed_28 : decode b_C_isMarkUsed 28 = .ok (.lcmp, 1) := by decide +kernel
theorem d_C_isMarkUsed_29 : decode b_C_isMarkUsed 29 = .ok (.ifCond .ne 18, 3) := by decide +kernel
theorem d_C_isMarkUsed_32 : decode b_C_isMarkUsed 32 = .ok (.aload_n 0, 1) := by decide +kernel
theorem d_C_isMarkUsed_33 : decode b_C_isMarkUsed 33 = .ok (.iload 5, 2) := by decide +kernel
theorem d_C_isMarkUsed_35 : decode b_C_isMarkUsed 35 = .ok (.bipush 24, 2) := by decide +kernel
theorem d_C_isMarkUsed_37 : decode b_C_isMarkUsed 37 = .ok (.invokevirtual 76, 3) := by decide +kernel
theorem d_C_isMarkUsed_40 : decode b_C_isMarkUsed 40 = .ok (.lload_n 3, 1) := by decide +kernel
theorem d_C_isMarkUsed_41 : decode b_C_isMarkUsed 41 = .ok (.lcmp, 1) := by decide +kernel
theorem d_C_isMarkUsed_42 : decode b_C_isMarkUsed 42 = .ok (.ifCond .ne 5, 3) := by decide +kernel
theorem d_C_isMarkUsed_45 : decode b_C_isMarkUsed 45 = .ok (.iconst 1, 1) := by decide +kernel
theorem d_C_isMarkUsed_46 : decode b_C_isMarkUsed 46 = .ok (.ireturn, 1) := by decide +kernel
theorem d_C_isMarkUsed_47 : decode b_C_isMarkUsed 47 = .ok (.iinc 5 1, 3) := by decide +kernel
theorem d_C_isMarkUsed_50 : decode b_C_isMarkUsed 50 = .ok (.goto (-47), 3) := by decide +kernel
theorem d_C_isMarkUsed_53 : decode b_C_isMarkUsed 53 = .ok (.iconst 0, 1) := by decide +kernel
theorem d_C_isMarkUsed_54 : decode b_C_isMarkUsed 54 = .ok (.ireturn, 1) := by decide +kernel
theorem d_C_lowestFree_0 : decode b_C_lowestFree 0 = .ok (.iconst 0, 1) := by decide +kernel
theorem d_C_lowestFree_1 : decode b_C_lowestFree 1 = .ok (.istore_n 1, 1) := by decide +kernel
theorem d_C_lowestFree_2 : decode b_C_lowestFree 2 = .ok (.iload_n 1, 1) := by decide +kernel
theorem d_C_lowestFree_3 : decode b_C_lowestFree 3 = .ok (.bipush 8, 2) := by decide +kernel
theorem d_C_lowestFree_5 : decode b_C_lowestFree 5 = .ok (.if_icmp .ge 19, 3) := by decide +kernel
theorem d_C_lowestFree_8 : decode b_C_lowestFree 8 = .ok (.aload_n 0, 1) := by decide +kernel
theorem d_C_lowestFree_9 : decode b_C_lowestFree 9 = .ok (.iload_n 1, 1) := by decide +kernel
theorem d_C_lowestFree_10 : decode b_C_lowestFree 10 = .ok (.invokevirtual 79, 3) := by decide +kernel
theorem d_C_lowestFree_13 : decode b_C_lowestFree 13 = .ok (.ifCond .eq 5, 3) := by decide +kernel
theorem d_C_lowestFree_16 : decode b_C_lowestFree 16 = .ok (.iload_n 1, 1) := by decide +kernel
theorem d_C_lowestFree_17 : decode b_C_lowestFree 17 = .ok (.ireturn, 1) := by decide +kernel
theorem d_C_lowestFree_18 : decode b_C_lowestFree 18 = .ok (.iinc 1 1, 3) := by decide +kernel
theorem d_C_lowestFree_21 : decode b_C_lowestFree 21 = .ok (.goto (-19), 3) := by decide +kernel
theorem d_C_lowestFree_24 : decode b_C_lowestFree 24 = .ok (.iconst (-1), 1) := by decide +kernel
theorem d_C_lowestFree_25 : decode b_C_lowestFree 25 = .ok (.ireturn, 1) := by decide +kernel
theorem d_C_partitions_0 : decode b_C_partitions 0 = .ok (.iconst 0, 1) := by decide +kernel
theorem d_C_partitions_1 : decode b_C_partitions 1 = .ok (.istore_n 1, 1) := by decide +kernel
theorem d_C_partitions_2 : decode b_C_partitions 2 = .ok (.iconst 0, 1) := by decide +kernel
theorem d_C_partitions_3 : decode b_C_partitions 3 = .ok (.istore_n 2, 1) := by decide +kernel
theorem d_C_partitions_4 : decode b_C_partitions 4 = .ok (.iload_n 2, 1) := by decide +kernel
theorem d_C_partitions_5 : decode b_C_partitions 5 = .ok (.bipush 8, 2) := by decide +kernel
theorem d_C_partitions_7 : decode b_C_partitions 7 = .ok (.if_icmp .ge 20, 3) := by decide +kernel
theorem d_C_partitions_10 : decode b_C_partitions 10 = .ok (.aload_n 0, 1) := by decide +kernel
theorem d_C_partitions_11 : decode b_C_partitions 11 = .ok (.iload_n 2, 1) := by decide +kernel
theorem d_C_partitions_12 : decode b_C_partitions 12 = .ok (.invokevirtual 79, 3) := by decide +kernel
theorem d_C_partitions_15 : decode b_C_partitions 15 = .ok (.ifCond .ne 6, 3) := by decide +kernel
theorem d_C_partitions_18 : decode b_C_partitions 18 = .ok (.iinc 1 1, 3) := by decide +kernel
theorem d_C_partitions_21 : decode b_C_partitions 21 = .ok (.iinc 2 1, 3) := by decide +kernel
theorem d_C_partitions_24 : decode b_C_partitions 24 = .ok (.goto (-20), 3) := by decide +kernel
theorem d_C_partitions_27 : decode b_C_partitions 27 = .ok (.iload_n 1, 1) := by decide +kernel
theorem d_C_partitions_28 : decode b_C_partitions 28 = .ok (.ireturn, 1) := by decide +kernel
theorem d_C_unusedBlocks_0 : decode b_C_unusedBlocks 0 = .ok (.aload_n 0, 1) := by decide +kernel
theorem d_C_unusedBlocks_1 : decode b_C_unusedBlocks 1 = .ok (.getfield 30, 3) := by decide +kernel
theorem d_C_unusedBlocks_4 : decode b_C_unusedBlocks 4 = .ok (.iconst 4, 1) := by decide +kernel
theorem d_C_unusedBlocks_5 : decode b_C_unusedBlocks 5 = .ok (.isub, 1) := by decide +kernel
theorem d_C_unusedBlocks_6 : decode b_C_unusedBlocks 6 = .ok (.iconst 1, 1) := by decide +kernel
theorem d_C_unusedBlocks_7 : decode b_C_unusedBlocks 7 = .ok (.iadd, 1) := by decide +kernel
theorem d_C_unusedBlocks_8 : decode b_C_unusedBlocks 8 = .ok (.istore_n 1, 1) := by decide +kernel
theorem d_C_unusedBlocks_9 : decode b_C_unusedBlocks 9 = .ok (.iconst 0, 1) := by decide +kernel
theorem d_C_unusedBlocks_10 : decode b_C_unusedBlocks 10 = .ok (.istore_n 2, 1) := by decide +kernel
theorem d_C_unusedBlocks_11 : decode b_C_unusedBlocks 11 = .ok (.iload_n 2, 1) := by decide +kernel
theorem d_C_unusedBlocks_12 : decode b_C_unusedBlocks 12 = .ok (.bipush 8, 2) := by decide +kernel
theorem d_C_unusedBlocks_14 : decode b_C_unusedBlocks 14 = .ok (.if_icmp .ge 38, 3) := by decide +kernel
theorem d_C_unusedBlocks_17 : decode b_C_unusedBlocks 17 = .ok (.aload_n 0, 1) := by decide +kernel
theorem d_C_unusedBlocks_18 : decode b_C_unusedBlocks 18 = .ok (.iload_n 2, 1) := by decide +kernel
theorem d_C_unusedBlocks_19 : decode b_C_unusedBlocks 19 = .ok (.invokevirtual 79, 3) := by decide +kernel
theorem d_C_unusedBlocks_22 : decode b_C_unusedBlocks 22 = .ok (.ifCond .ne 24, 3) := by decide +kernel
theorem d_C_unusedBlocks_25 : decode b_C_unusedBlocks 25 = .ok (.iload_n 1, 1) := by decide +kernel
theorem d_C_unusedBlocks_26 : decode b_C_unusedBlocks 26 = .ok (.aload_n 0, 1) := by decide +kernel
theorem d_C_unusedBlocks_27 : decode b_C_unusedBlocks 27 = .ok (.iload_n 2, 1) := by decide +kernel
theorem d_C_unusedBlocks_28 : decode b_C_unusedBlocks 28 = .ok (.bipush 40, 2) := by decide +kernel
theorem d_C_unusedBlocks_30 : decode b_C_unusedBlocks 30 = .ok (.invokevirtual 76, 3) := by decide +kernel
theorem d_C_unusedBlocks_33 : decode b_C_unusedBlocks 33 = .ok (.aload_n 0, 1) := by decide +kernel
theorem d_C_unusedBlocks_34 : decode b_C_unusedBlocks 34 = .ok (.iload_n 2, 1) := by decide +kernel
theorem d_C_unusedBlocks_35 : decode b_C_unusedBlocks 35 = .ok (.bipush 32, 2) := by decide +kernel
theorem d_C_unusedBlocks_37 : decode b_C_unusedBlocks 37 = .ok (.invokevirtual 76, 3) := by decide +kernel
theorem d_C_unusedBlocks_40 : decode b_C_unusedBlocks 40 = .ok (.lsub, 1) := by decide +kernel
theorem d_C_unusedBlocks_41 : decode b_C_unusedBlocks 41 = .ok (.lconst 1, 1) := by decide +kernel
theorem d_C_unusedBlocks_42 : decode b_C_unusedBlocks 42 = .ok (.ladd, 1) := by decide +kernel
theorem d_C_unusedBlocks_43 : decode b_C_unusedBlocks 43 = .ok (.l2i, 1) := by decide +kernel
theorem d_C_unusedBlocks_44 : decode b_C_unusedBlocks 44 = .ok (.isub, 1) := by decide +kernel
theorem d_C_unusedBlocks_45 : decode b_C_unusedBlocks 45 = .ok (.istore_n 1, 1) := by decide +kernel
theorem d_C_unusedBlocks_46 : decode b_C_unusedBlocks 46 = .ok (.iinc 2 1, 3) := by decide +kernel
theorem d_C_unusedBlocks_49 : decode b_C_unusedBlocks 49 = .ok (.goto (-38), 3) := by decide +kernel
theorem d_C_unusedBlocks_52 : decode b_C_unusedBlocks 52 = .ok (.iload_n 1, 1) := by decide +kernel
theorem d_C_unusedBlocks_53 : decode b_C_unusedBlocks 53 = .ok (.ireturn, 1) := by decide +kernel
theorem d_C_isFree_0 : decode b_C_isFree 0 = .ok (.aload_n 0, 1) := by decide +kernel
theorem d_C_isFree_1 : decode b_C_isFree 1 = .ok (.getfield 17, 3) := by decide +kernel
theorem d_C_isFree_4 : decode b_C_isFree 4 = .ok (.aload_n 0, 1) := by decide +kernel
theorem d_C_isFree_5 : decode b_C_isFree 5 = .ok (.iload_n 1, 1) := by decide +kernel
theorem d_C_isFree_6 : decode b_C_isFree 6 = .ok (.invokevirtual 94, 3) := by decide +kernel
theorem d_C_isFree_9 : decode b_C_isFree 9 = .ok (.iconst 0, 1) := by decide +kernel
theorem d_C_isFree_10 : decode b_C_isFree 10 = .ok (.iadd, 1) := by decide +kernel
theorem d_C_isFree_11 : decode b_C_isFree 11 = .ok (.bipush 16, 2) := by decide +kernel
theorem d_C_isFree_13 : decode b_C_isFree 13 = .ok (.invokevirtual 136, 3) := by decide +kernel
theorem d_C_isFree_16 : decode b_C_isFree 16 = .ok (.ireturn, 1) := by decide +kernel
theorem d_C_getLong_0 : decode b_C_getLong 0 = .ok (.aload_n 0, 1) := by decide +kernel
theorem d_C_getLong_1 : decode b_C_getLong 1 = .ok (.getfield 17, 3) := by decide +kernel
theorem d_C_getLong_4 : decode b_C_getLong 4 = .ok (.aload_n 0, 1) := by decide +kernel
theorem d_C_getLong_5 : decode b_C_getLong 5 = .ok (.iload_n 1, 1) := by decide +kernel
theorem d_C_getLong_6 : decode b_C_getLong 6 = .ok (.invokevirtual 94, 3) := by decide +kernel
theorem d_C_getLong_9 : decode b_C_getLong 9 = .ok (.iload_n 2, 1) := by decide +kernel
theorem d_C_getLong_10 : decode b_C_getLong 10 = .ok (.iadd, 1) := by decide +kernel
theorem d_C_getLong_11 : decode b_C_getLong 11 = .ok (.bipush 8, 2) := by decide +kernel
theorem d_C_getLong_13 : decode b_C_getLong 13 = .ok (.invokevirtual 41, 3) := by decide +kernel
theorem d_C_getLong_16 : decode b_C_getLong 16 = .ok (.lreturn, 1) := by decide +kernel
theorem d_C_setLong_0 : decode b_C_setLong 0 = .ok (.aload_n 0, 1) := by decide +kernel
theorem d_C_setLong_1 : decode b_C_setLong 1 = .ok (.getfield 17, 3) := by decide +kernel
theorem d_C_setLong_4 : decode b_C_setLong 4 = .ok (.aload_n 0, 1) := by decide +kernel
theorem d_C_setLong_5 : decode b_C_setLong 5 = .ok (.iload_n 1, 1) := by decide +kernel
theorem d_C_setLong_6 : decode b_C_setLong 6 = .ok (.invokevirtual 94, 3) := by decide +kernel
theorem d_C_setLong_9 : decode b_C_setLong 9 = .ok (.iload_n 2, 1) := by decide +kernel
theorem d_C_setLong_10 : decode b_C_setLong 10 = .ok (.iadd, 1) := by decide +kernel
theorem d_C_setLong_11 : decode b_C_setLong 11 = .ok (.bipush 8, 2) := by decide +kernel
theorem d_C_setLong_13 : decode b_C_setLong 13 = .ok (.lload_n 3, 1) := by decide +kernel
theorem d_C_setLong_14 : decode b_C_setLong 14 = .ok (.invokevirtual 110, 3) := by decide +kernel
theorem d_C_setLong_17 : decode b_C_setLong 17 = .ok (.return_, 1) := by decide +kernel
theorem d_C_setGuid_0 : decode b_C_setGuid 0 = .ok (.aload_n 0, 1) := by decide +kernel
theorem d_C_setGuid_1 : decode b_C_setGuid 1 = .ok (.iload_n 1, 1) := by decide +kernel
theorem d_C_setGuid_2 : decode b_C_setGuid 2 = .ok (.iload_n 2, 1) := by decide +kernel
theorem d_C_setGuid_3 : decode b_C_setGuid 3 = .ok (.lload_n 3, 1) := by decide +kernel
theorem d_C_setGuid_4 : decode b_C_setGuid 4 = .ok (.invokevirtual 140, 3) := by decide +kernel
theorem d_C_setGuid_7 : decode b_C_setGuid 7 = .ok (.aload_n 0, 1) := by decide +kernel
theorem d_C_setGuid_8 : decode b_C_setGuid 8 = .ok (.iload_n 1, 1) := by decide +kernel
theorem d_C_setGuid_9 : decode b_C_setGuid 9 = .ok (.iload_n 2, 1) := by decide +kernel
theorem d_C_setGuid_10 : decode b_C_setGuid 10 = .ok (.bipush 8, 2) := by decide +kernel
theorem d_C_setGuid_12 : decode b_C_setGuid 12 = .ok (.iadd, 1) := by decide +kernel
theorem d_C_setGuid_13 : decode b_C_setGuid 13 = .ok (.lload_n 3, 1) := by decide +kernel
theorem d_C_setGuid_14 : decode b_C_setGuid 14 = .ok (.invokestatic 132, 3) := by decide +kernel
theorem d_C_setGuid_17 : decode b_C_setGuid 17 = .ok (.invokevirtual 140, 3) := by decide +kernel
theorem d_C_setGuid_20 : decode b_C_setGuid 20 = .ok (.return_, 1) := by decide +kernel
theorem d_C_setRange_0 : decode b_C_setRange 0 = .ok (.aload_n 0, 1) := by decide +kernel
theorem d_C_setRange_1 : decode b_C_setRange 1 = .ok (.iload_n 1, 1) := by decide +kernel
theorem d_C_setRange_2 : decode b_C_setRange 2 = .ok (.bipush 32, 2) := by decide +kernel
theorem d_C_setRange_4 : decode b_C_setRange 4 = .ok (.iload_n 2, 1) := by decide +kernel
theorem d_C_setRange_5 : decode b_C_setRange 5 = .ok (.i2l, 1) := by decide +kernel
theorem d_C_setRange_6 : decode b_C_setRange 6 = .ok (.invokevirtual 140, 3) := by decide +kernel
theorem d_C_setRange_9 : decode b_C_setRange 9 = .ok (.aload_n 0, 1) := by decide +kernel
theorem d_C_setRange_10 : decode b_C_setRange 10 = .ok (.iload_n 1, 1) := by decide +kernel
theorem d_C_setRange_11 : decode b_C_setRange 11 = .ok (.bipush 40, 2) := by decide +kernel
theorem d_C_setRange_13 : decode b_C_setRange 13 = .ok (.iload_n 3, 1) := by decide +kernel
theorem d_C_setRange_14 : decode b_C_setRange 14 = .ok (.i2l, 1) := by decide +kernel
theorem d_C_setRange_15 : decode b_C_setRange 15 = .ok (.invokevirtual 140, 3) := by decide +kernel
theorem d_C_setRange_18 : decode b_C_setRange 18 = .ok (.return_, 1) := by decide +kernel
theorem d_C_getLetter_0 : decode b_C_getLetter 0 = .ok (.aload_n 0, 1) := by decide +kernel
theorem d_C_getLetter_1 : decode b_C_getLetter 1 = .ok (.getfield 17, 3) := by decide +kernel
theorem d_C_getLetter_4 : decode b_C_getLetter 4 = .ok (.aload_n 0, 1) := by decide +kernel
theorem d_C_getLetter_5 : decode b_C_getLetter 5 = .ok (.iload_n 1, 1) := by decide +kernel
theorem d_C_getLetter_6 : decode b_C_getLetter 6 = .ok (.invokevirtual 94, 3) := by decide +kernel
theorem d_C_getLetter_9 : decode b_C_getLetter 9 = .ok (.bipush 56, 2) := by decide +kernel
theorem d_C_getLetter_11 : decode b_C_getLetter 11 = .ok (.iadd, 1) := by decide +kernel
theorem d_C_getLetter_12 : decode b_C_getLetter 12 = .ok (.iconst 2, 1) := by decide +kernel
theorem d_C_getLetter_13 : decode b_C_getLetter 13 = .ok (.iload_n 2, 1) := by decide +kernel
theorem d_C_getLetter_14 : decode b_C_getLetter 14 = .ok (.imul, 1) := by decide +kernel
theorem d_C_getLetter_15 : decode b_C_getLetter 15 = .ok (.iadd, 1) := by decide +kernel
theorem d_C_getLetter_16 : decode b_C_getLetter 16 = .ok (.iconst 2, 1) := by decide +kernel
theorem d_C_getLetter_17 : decode b_C_getLetter 17 = .ok (.invokevirtual 41, 3) := by decide +kernel
theorem d_C_getLetter_20 : decode b_C_getLetter 20 = .ok (.l2i, 1) := by decide +kernel
theorem d_C_getLetter_21 : decode b_C_getLetter 21 = .ok (.i2c, 1) := by decide +kernel
theorem d_C_getLetter_22 : decode b_C_getLetter 22 = .ok (.ireturn, 1) := by decide +kernel
theorem d_C_setLetter_0 : decode b_C_setLetter 0 = .ok (.aload_n 0, 1) := by decide +kernel
theorem d_C_setLetter_1 : decode b_C_setLetter 1 = .ok (.getfield 17, 3) := by decide +kernel
theorem d_C_setLetter_4 : decode b_C_setLetter 4 = .ok (.aload_n 0, 1) := by decide +kernel
theorem d_C_setLetter_5 : decode b_C_setLetter 5 = .ok (.iload_n 1, 1) := by decide +kernel
theorem d_C_setLetter_6 : decode b_C_setLetter 6 = .ok (.invokevirtual 94, 3) := by decide +kernel
theorem d_C_setLetter_9 : decode b_C_setLetter 9 = .ok (.bipush 56, 2) := by decide +kernel
theorem d_C_setLetter_11 : decode b_C_setLetter 11 = .ok (.iadd, 1) := by decide +kernel
theorem d_C_setLetter_12 : decode b_C_setLetter 12 = .ok (.iconst 2, 1) := by decide +kernel
theorem d_C_setLetter_13 : decode b_C_setLetter 13 = .ok (.iload_n 2, 1) := by decide +kernel
theorem d_C_setLetter_14 : decode b_C_setLetter 14 = .ok (.imul, 1) := by decide +kernel
theorem d_C_setLetter_15 : decode b_C_setLetter 15 = .ok (.iadd, 1) := by decide +kernel
theorem d_C_setLetter_16 : decode b_C_setLetter 16 = .ok (.iconst 2, 1) := by decide +kernel
theorem d_C_setLetter_17 : decode b_C_setLetter 17 = .ok (.iload_n 3, 1) := by decide +kernel
theorem d_C_setLetter_18 : decode b_C_setLetter 18 = .ok (.i2l, 1) := by decide +kernel
theorem d_C_setLetter_19 : decode b_C_setLetter 19 = .ok (.invokevirtual 110, 3) := by decide +kernel
theorem d_C_setLetter_22 : decode b_C_setLetter 22 = .ok (.return_, 1) := by decide +kernel
theorem d_C_clearEntry_0 : decode b_C_clearEntry 0 = .ok (.aload_n 0, 1) := by decide +kernel
theorem d_C_clearEntry_1 : decode b_C_clearEntry 1 = .ok (.getfield 17, 3) := by decide +kernel
theorem d_C_clearEntry_4 : decode b_C_clearEntry 4 = .ok (.aload_n 0, 1) := by decide +kernel
theorem d_C_clearEntry_5 : decode b_C_clearEntry 5 = .ok (.iload_n 1, 1) := by decide +kernel
theorem d_C_clearEntry_6 : decode b_C_clearEntry 6 = .ok (.invokevirtual 94, 3) := by decide +kernel
theorem d_C_clearEntry_9 : decode b_C_clearEntry 9 = .ok (.sipush 128, 3) := by decide +kernel
theorem d_C_clearEntry_12 : decode b_C_clearEntry 12 = .ok (.invokevirtual 125, 3) := by decide +kernel
theorem d_C_clearEntry_15 : decode b_C_clearEntry 15 = .ok (.return_, 1) := by decide +kernel
theorem d_C_clearEntries_0 : decode b_C_clearEntries 0 = .ok (.aload_n 0, 1) := by decide +kernel
theorem d_C_clearEntries_1 : decode b_C_clearEntries 1 = .ok (.getfield 17, 3) := by decide +kernel
theorem d_C_clearEntries_4 : decode b_C_clearEntries 4 = .ok (.aload_n 0, 1) := by decide +kernel
theorem d_C_clearEntries_5 : decode b_C_clearEntries 5 = .ok (.getfield 36, 3) := by decide +kernel
theorem d_C_clearEntries_8 : decode b_C_clearEntries 8 = .ok (.sipush 1024, 3) := by decide +kernel
theorem d_C_clearEntries_11 : decode b_C_clearEntries 11 = .ok (.invokevirtual 125, 3) := by decide +kernel
theorem d_C_clearEntries_14 : decode b_C_clearEntries 14 = .ok (.return_, 1) := by decide +kernel
theorem d_C_placeOf_0 : decode b_C_placeOf 0 = .ok (.aload_n 0, 1) := by decide +kernel
theorem d_C_placeOf_1 : decode b_C_placeOf 1 = .ok (.getfield 36, 3) := by decide +kernel
theorem d_C_placeOf_4 : decode b_C_placeOf 4 = .ok (.iload_n 1, 1) := by decide +kernel
theorem d_C_placeOf_5 : decode b_C_placeOf 5 = .ok (.sipush 128, 3) := by decide +kernel
theorem d_C_placeOf_8 : decode b_C_placeOf 8 = .ok (.imul, 1) := by decide +kernel
theorem d_C_placeOf_9 : decode b_C_placeOf 9 = .ok (.iadd, 1) := by decide +kernel
theorem d_C_placeOf_10 : decode b_C_placeOf 10 = .ok (.ireturn, 1) := by decide +kernel
