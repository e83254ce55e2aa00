theorem d_M_init_0 : decode b_M_init 0 = .ok (.aload_n 0, 1) := by decide +kernel
theorem d_M_init_1 : decode b_M_init 1 = .ok (.invokespecial 1, 3) := by decide +kernel
theorem d_M_init_4 : decode b_M_init 4 = .ok (.aload_n 0, 1) := by decide +kernel
theorem d_M_init_5 : decode b_M_init 5 = .ok (.sipush 12288, 3) := by decide +kernel
theorem d_M_init_8 : decode b_M_init 8 = .ok (.newarray .int, 2) := by decide +kernel
theorem d_M_init_10 : decode b_M_init 10 = .ok (.putfield 7, 3) := by decide +kernel
theorem d_M_init_13 : decode b_M_init 13 = .ok (.aload_n 0, 1) := by decide +kernel
theorem d_M_init_14 : decode b_M_init 14 = .ok (.sipush 1024, 3) := by decide +kernel
theorem d_M_init_17 : decode b_M_init 17 = .ok (.newarray .int, 2) := by decide +kernel
theorem d_M_init_19 : decode b_M_init 19 = .ok (.putfield 13, 3) := by decide +kernel
theorem d_M_init_22 : decode b_M_init 22 = .ok (.aload_n 0, 1) := by decide +kernel
theorem d_M_init_23 : decode b_M_init 23 = .ok (.bipush 16, 2) := by decide +kernel
theorem d_M_init_25 : decode b_M_init 25 = .ok (.newarray .int, 2) := by decide +kernel
theorem d_M_init_27 : decode b_M_init 27 = .ok (.putfield 16, 3) := by decide +kernel
theorem d_M_init_30 : decode b_M_init 30 = .ok (.aload_n 0, 1) := by decide +kernel
theorem d_M_init_31 : decode b_M_init 31 = .ok (.iload_n 1, 1) := by decide +kernel
theorem d_M_init_32 : decode b_M_init 32 = .ok (.bipush 12, 2) := by decide +kernel
theorem d_M_init_34 : decode b_M_init 34 = .ok (.if_icmp .lt 9, 3) := by decide +kernel
theorem d_M_init_37 : decode b_M_init 37 = .ok (.iload_n 1, 1) := by decide +kernel
theorem d_M_init_38 : decode b_M_init 38 = .ok (.bipush 24, 2) := by decide +kernel
theorem d_M_init_40 : decode b_M_init 40 = .ok (.if_icmp .le 8, 3) := by decide +kernel
theorem d_M_init_43 : decode b_M_init 43 = .ok (.bipush 16, 2) := by decide +kernel
theorem d_M_init_45 : decode b_M_init 45 = .ok (.goto 4, 3) := by decide +kernel
theorem d_M_init_48 : decode b_M_init 48 = .ok (.iload_n 1, 1) := by decide +kernel
theorem d_M_init_49 : decode b_M_init 49 = .ok (.putfield 19, 3) := by decide +kernel
theorem d_M_init_52 : decode b_M_init 52 = .ok (.return_, 1) := by decide +kernel
theorem d_M_blocks_0 : decode b_M_blocks 0 = .ok (.aload_n 0, 1) := by decide +kernel
theorem d_M_blocks_1 : decode b_M_blocks 1 = .ok (.getfield 19, 3) := by decide +kernel
theorem d_M_blocks_4 : decode b_M_blocks 4 = .ok (.ireturn, 1) := by decide +kernel
theorem d_M_isPlace_0 : decode b_M_isPlace 0 = .ok (.iload_n 1, 1) := by decide +kernel
theorem d_M_isPlace_1 : decode b_M_isPlace 1 = .ok (.ifCond .lt 26, 3) := by decide +kernel
theorem d_M_isPlace_4 : decode b_M_isPlace 4 = .ok (.iload_n 1, 1) := by decide +kernel
theorem d_M_isPlace_5 : decode b_M_isPlace 5 = .ok (.aload_n 0, 1) := by decide +kernel
theorem d_M_isPlace_6 : decode b_M_isPlace 6 = .ok (.getfield 19, 3) := by decide +kernel
theorem d_M_isPlace_9 : decode b_M_isPlace 9 = .ok (.if_icmp .ge 18, 3) := by decide +kernel
theorem d_M_isPlace_12 : decode b_M_isPlace 12 = .ok (.iload_n 2, 1) := by decide +kernel
theorem d_M_isPlace_13 : decode b_M_isPlace 13 = .ok (.ifCond .lt 14, 3) := by decide +kernel
theorem d_M_isPlace_16 : decode b_M_isPlace 16 = .ok (.iload_n 2, 1) := by decide +kernel
theorem d_M_isPlace_17 : decode b_M_isPlace 17 = .ok (.sipush 512, 3) := by decide +kernel
theorem d_M_isPlace_20 : decode b_M_isPlace 20 = .ok (.if_icmp .ge 7, 3) := by decide +kernel
theorem d_M_isPlace_23 : decode b_M_isPlace 23 = .ok (.iconst 1, 1) := by decide +kernel
theorem d_M_isPlace_24 : decode b_M_isPlace 24 = .ok (.goto 4, 3) := by decide +kernel
theorem d_M_isPlace_27 : decode b_M_isPlace 27 = .ok (.iconst 0, 1) := by decide +kernel
theorem d_M_isPlace_28 : decode b_M_isPlace 28 = .ok (.ireturn, 1) := by decide +kernel
theorem d_M_peek_0 : decode b_M_peek 0 = .ok (.aload_n 0, 1) := by decide +kernel
theorem d_M_peek_1 : decode b_M_peek 1 = .ok (.iload_n 1, 1) := by decide +kernel
theorem d_M_peek_2 : decode b_M_peek 2 = .ok (.iload_n 2, 1) := by decide +kernel
theorem d_M_peek_3 : decode b_M_peek 3 = .ok (.invokevirtual 23, 3) := by decide +kernel
theorem d_M_peek_6 : decode b_M_peek 6 = .ok (.ifCond .eq 18, 3) := by decide +kernel
theorem d_M_peek_9 : decode b_M_peek 9 = .ok (.aload_n 0, 1) := by decide +kernel
theorem d_M_peek_10 : decode b_M_peek 10 = .ok (.getfield 7, 3) := by decide +kernel
theorem d_M_peek_13 : decode b_M_peek 13 = .ok (.sipush 512, 3) := by decide +kernel
theorem d_M_peek_16 : decode b_M_peek 16 = .ok (.iload_n 1, 1) := by decide +kernel
theorem d_M_peek_17 : decode b_M_peek 17 = .ok (.imul, 1) := by decide +kernel
theorem d_M_peek_18 : decode b_M_peek 18 = .ok (.iload_n 2, 1) := by decide +kernel
theorem d_M_peek_19 : decode b_M_peek 19 = .ok (.iadd, 1) := by decide +kernel
theorem d_M_peek_20 : decode b_M_peek 20 = .ok (.iaload, 1) := by decide +kernel
theorem d_M_peek_21 : decode b_M_peek 21 = .ok (.goto 4, 3) := by decide +kernel
theorem d_M_peek_24 : decode b_M_peek 24 = .ok (.iconst (-1), 1) := by decide +kernel
theorem d_M_peek_25 : decode b_M_peek 25 = .ok (.ireturn, 1) := by decide +kernel
theorem d_M_poke_0 : decode b_M_poke 0 = .ok (.aload_n 0, 1) := by decide +kernel
theorem d_M_poke_1 : decode b_M_poke 1 = .ok (.iload_n 1, 1) := by decide +kernel
theorem d_M_poke_2 : decode b_M_poke 2 = .ok (.iload_n 2, 1) := by decide +kernel
theorem d_M_poke_3 : decode b_M_poke 3 = .ok (.invokevirtual 23, 3) := by decide +kernel
theorem d_M_poke_6 : decode b_M_poke 6 = .ok (.ifCond .ne 5, 3) := by decide +kernel
theorem d_M_poke_9 : decode b_M_poke 9 = .ok (.iconst 0, 1) := by decide +kernel
theorem d_M_poke_10 : decode b_M_poke 10 = .ok (.ireturn, 1) := by decide +kernel
theorem d_M_poke_11 : decode b_M_poke 11 = .ok (.aload_n 0, 1) := by decide +kernel
theorem d_M_poke_12 : decode b_M_poke 12 = .ok (.getfield 7, 3) := by decide +kernel
theorem d_M_poke_15 : decode b_M_poke 15 = .ok (.sipush 512, 3) := by decide +kernel
theorem d_M_poke_18 : decode b_M_poke 18 = .ok (.iload_n 1, 1) := by decide +kernel
theorem d_M_poke_19 : decode b_M_poke 19 = .ok (.imul, 1) := by decide +kernel
theorem d_M_poke_20 : decode b_M_poke 20 = .ok (.iload_n 2, 1) := by decide +kernel
theorem d_M_poke_21 : decode b_M_poke 21 = .ok (.iadd, 1) := by decide +kernel
theorem d_M_poke_22 : decode b_M_poke 22 = .ok (.iload_n 3, 1) := by decide +kernel
theorem d_M_poke_23 : decode b_M_poke 23 = .ok (.sipush 255, 3) := by decide +kernel
theorem d_M_poke_26 : decode b_M_poke 26 = .ok (.iand, 1) := by decide +kernel
theorem d_M_poke_27 : decode b_M_poke 27 = .ok (.iastore, 1) := by decide +kernel
theorem d_M_poke_28 : decode b_M_poke 28 = .ok (.iconst 1, 1) := by decide +kernel
theorem d_M_poke_29 : decode b_M_poke 29 = .ok (.ireturn, 1) := by decide +kernel
theorem d_M_get_0 : decode b_M_get 0 = .ok (.lconst 0, 1) := by decide +kernel
theorem d_M_get_1 : decode b_M_get 1 = .ok (.lstore_n 3, 1) := by decide +kernel
theorem d_M_get_2 : decode b_M_get 2 = .ok (.iload_n 2, 1) := by decide +kernel
theorem d_M_get_3 : decode b_M_get 3 = .ok (.iconst 1, 1) := by decide +kernel
theorem d_M_get_4 : decode b_M_get 4 = .ok (.isub, 1) := by decide +kernel
theorem d_M_get_5 : decode b_M_get 5 = .ok (.istore 5, 2) := by decide +kernel
theorem d_M_get_7 : decode b_M_get 7 = .ok (.iload 5, 2) := by decide +kernel
theorem d_M_get_9 : decode b_M_get 9 = .ok (.ifCond .lt 22, 3) := by decide +kernel
theorem d_M_get_12 : decode b_M_get 12 = .ok (.lload_n 3, 1) := by decide +kernel
theorem d_M_get_13 : decode b_M_get 13 = .ok (.bipush 8, 2) := by decide +kernel
theorem d_M_get_15 : decode b_M_get 15 = .ok (.lshl, 1) := by decide +kernel
theorem d_M_get_16 : decode b_M_get 16 = .ok (.aload_n 0, 1) := by decide +kernel
theorem d_M_get_17 : decode b_M_get 17 = .ok (.iload_n 1, 1) := by decide +kernel
theorem d_M_get_18 : decode b_M_get 18 = .ok (.iload 5, 2) := by decide +kernel
theorem d_M_get_20 : decode b_M_get 20 = .ok (.iadd, 1) := by decide +kernel
theorem d_M_get_21 : decode b_M_get 21 = .ok (.iaload, 1) := by decide +kernel
theorem d_M_get_22 : decode b_M_get 22 = .ok (.i2l, 1) := by decide +kernel
theorem d_M_get_23 : decode b_M_get 23 = .ok (.lor, 1) := by decide +kernel
theorem d_M_get_24 : decode b_M_get 24 = .ok (.lstore_n 3, 1) := by decide +kernel
theorem d_M_get_25 : decode b_M_get 25 = .ok (.iinc 5 (-1), 3) := by decide +kernel
theorem d_M_get_28 : decode b_M_get 28 = .ok (.goto (-21), 3) := by decide +kernel
theorem d_M_get_31 : decode b_M_get 31 = .ok (.lload_n 3, 1) := by decide +kernel
theorem d_M_get_32 : decode b_M_get 32 = .ok (.lreturn, 1) := by decide +kernel
theorem d_M_put_0 : decode b_M_put 0 = .ok (.iconst 0, 1) := by decide +kernel
theorem d_M_put_1 : decode b_M_put 1 = .ok (.istore 5, 2) := by decide +kernel
theorem d_M_put_3 : decode b_M_put 3 = .ok (.iload 5, 2) := by decide +kernel
theorem d_M_put_5 : decode b_M_put 5 = .ok (.iload_n 2, 1) := by decide +kernel
theorem d_M_put_6 : decode b_M_put 6 = .ok (.if_icmp .ge 27, 3) := by decide +kernel
theorem d_M_put_9 : decode b_M_put 9 = .ok (.aload_n 0, 1) := by decide +kernel
theorem d_M_put_10 : decode b_M_put 10 = .ok (.iload_n 1, 1) := by decide +kernel
theorem d_M_put_11 : decode b_M_put 11 = .ok (.iload 5, 2) := by decide +kernel
theorem d_M_put_13 : decode b_M_put 13 = .ok (.iadd, 1) := by decide +kernel
theorem d_M_put_14 : decode b_M_put 14 = .ok (.lload_n 3, 1) := by decide +kernel
theorem d_M_put_15 : decode b_M_put 15 = .ok (.bipush 8, 2) := by decide +kernel
theorem d_M_put_17 : decode b_M_put 17 = .ok (.iload 5, 2) := by decide +kernel
theorem d_M_put_19 : decode b_M_put 19 = .ok (.imul, 1) := by decide +kernel
theorem d_M_put_20 : decode b_M_put 20 = .ok (.lshr, 1) := by decide +kernel
theorem d_M_put_21 : decode b_M_put 21 = .ok (.ldc2_w 27, 3) := by decide +kernel
theorem d_M_put_24 : decode b_M_put 24 = .ok (.land, 1) := by decide +kernel
theorem d_M_put_25 : decode b_M_put 25 = .ok (.l2i, 1) := by decide +kernel
theorem d_M_put_26 : decode b_M_put 26 = .ok (.iastore, 1) := by decide +kernel
theorem d_M_put_27 : decode b_M_put 27 = .ok (.iinc 5 1, 3) := by decide +kernel
theorem d_M_put_30 : decode b_M_put 30 = .ok (.goto (-27), 3) := by decide +kernel
theorem d_M_put_33 : decode b_M_put 33 = .ok (.return_, 1) := by decide +kernel
theorem d_M_putGuid_0 : decode b_M_putGuid 0 = .ok (.aload_n 0, 1) := by decide +kernel
theorem d_M_putGuid_1 : decode b_M_putGuid 1 = .ok (.iload_n 1, 1) := by decide +kernel
theorem d_M_putGuid_2 : decode b_M_putGuid 2 = .ok (.bipush 8, 2) := by decide +kernel
theorem d_M_putGuid_4 : decode b_M_putGuid 4 = .ok (.lload_n 2, 1) := by decide +kernel
theorem d_M_putGuid_5 : decode b_M_putGuid 5 = .ok (.invokestatic 29, 3) := by decide +kernel
theorem d_M_putGuid_8 : decode b_M_putGuid 8 = .ok (.aload_n 0, 1) := by decide +kernel
theorem d_M_putGuid_9 : decode b_M_putGuid 9 = .ok (.iload_n 1, 1) := by decide +kernel
theorem d_M_putGuid_10 : decode b_M_putGuid 10 = .ok (.bipush 8, 2) := by decide +kernel
theorem d_M_putGuid_12 : decode b_M_putGuid 12 = .ok (.iadd, 1) := by decide +kernel
theorem d_M_putGuid_13 : decode b_M_putGuid 13 = .ok (.bipush 8, 2) := by decide +kernel
theorem d_M_putGuid_15 : decode b_M_putGuid 15 = .ok (.lload_n 2, 1) := by decide +kernel
theorem d_M_putGuid_16 : decode b_M_putGuid 16 = .ok (.ldc2_w 33, 3) := by decide +kernel
theorem d_M_putGuid_19 : decode b_M_putGuid 19 = .ok (.lmul, 1) := by decide +kernel
theorem d_M_putGuid_20 : decode b_M_putGuid 20 = .ok (.ldc2_w 35, 3) := by decide +kernel
theorem d_M_putGuid_23 : decode b_M_putGuid 23 = .ok (.ladd, 1) := by decide +kernel
theorem d_M_putGuid_24 : decode b_M_putGuid 24 = .ok (.invokestatic 29, 3) := by decide +kernel
theorem d_M_putGuid_27 : decode b_M_putGuid 27 = .ok (.return_, 1) := by decide +kernel
theorem d_M_more_0 : decode b_M_more 0 = .ok (.iload_n 0, 1) := by decide +kernel
theorem d_M_more_1 : decode b_M_more 1 = .ok (.iload_n 1, 1) := by decide +kernel
theorem d_M_more_2 : decode b_M_more 2 = .ok (.ixor, 1) := by decide +kernel
theorem d_M_more_3 : decode b_M_more 3 = .ok (.istore_n 2, 1) := by decide +kernel
theorem d_M_more_4 : decode b_M_more 4 = .ok (.iconst 0, 1) := by decide +kernel
theorem d_M_more_5 : decode b_M_more 5 = .ok (.istore_n 3, 1) := by decide +kernel
theorem d_M_more_6 : decode b_M_more 6 = .ok (.iload_n 3, 1) := by decide +kernel
theorem d_M_more_7 : decode b_M_more 7 = .ok (.bipush 8, 2) := by decide +kernel
theorem d_M_more_9 : decode b_M_more 9 = .ok (.if_icmp .ge 41, 3) := by decide +kernel
theorem d_M_more_12 : decode b_M_more 12 = .ok (.iload_n 2, 1) := by decide +kernel
theorem d_M_more_13 : decode b_M_more 13 = .ok (.iconst 1, 1) := by decide +kernel
theorem d_M_more_14 : decode b_M_more 14 = .ok (.iand, 1) := by decide +kernel
theorem d_M_more_15 : decode b_M_more 15 = .ok (.iconst 1, 1) := by decide +kernel
theorem d_M_more_16 : decode b_M_more 16 = .ok (.if_icmp .ne 7, 3) := by decide +kernel
theorem d_M_more_19 : decode b_M_more 19 = .ok (.iconst 1, 1) := by decide +kernel
theorem d_M_more_20 : decode b_M_more 20 = .ok (.goto 4, 3) := by decide +kernel
theorem d_M_more_23 : decode b_M_more 23 = .ok (.iconst 0, 1) := by decide +kernel
theorem d_M_more_24 : decode b_M_more 24 = .ok (.istore 4, 2) := by decide +kernel
theorem d_M_more_26 : decode b_M_more 26 = .ok (.iload_n 2, 1) := by decide +kernel
theorem d_M_more_27 : decode b_M_more 27 = .ok (.iconst 1, 1) := by decide +kernel
theorem d_M_more_28 : decode b_M_more 28 = .ok (.iushr, 1) := by decide +kernel
theorem d_M_more_29 : decode b_M_more 29 = .ok (.istore_n 2, 1) := by decide +kernel
theorem d_M_more_30 : decode b_M_more 30 = .ok (.iload 4, 2) := by decide +kernel
theorem d_M_more_32 : decode b_M_more 32 = .ok (.ifCond .eq 10, 3) := by decide +kernel
theorem d_M_more_35 : decode b_M_more 35 = .ok (.iload_n 2, 1) := by decide +kernel
theorem d_M_more_36 : decode b_M_more 36 = .ok (.ldc 37, 2) := by decide +kernel
theorem d_M_more_38 : decode b_M_more 38 = .ok (.ixor, 1) := by decide +kernel
theorem d_M_more_39 : decode b_M_more 39 = .ok (.goto 4, 3) := by decide +kernel
theorem d_M_more_42 : decode b_M_more 42 = .ok (.iload_n 2, 1) := by decide +kernel
theorem d_M_more_43 : decode b_M_more 43 = .ok (.istore_n 2, 1) := by decide +kernel
theorem d_M_more_44 : decode b_M_more 44 = .ok (.iinc 3 1, 3) := by decide +kernel
theorem d_M_more_47 : decode b_M_more 47 = .ok (.goto (-41), 3) := by decide +kernel
theorem d_M_more_50 : decode b_M_more 50 = .ok (.iload_n 2, 1) := by decide +kernel
theorem d_M_more_51 : decode b_M_more 51 = .ok (.ireturn, 1) := by decide +kernel
theorem d_M_sumOf_0 : decode b_M_sumOf 0 = .ok (.iconst (-1), 1) := by decide +kernel
theorem d_M_sumOf_1 : decode b_M_sumOf 1 = .ok (.istore 4, 2) := by decide +kernel
theorem d_M_sumOf_3 : decode b_M_sumOf 3 = .ok (.iload_n 1, 1) := by decide +kernel
theorem d_M_sumOf_4 : decode b_M_sumOf 4 = .ok (.istore 5, 2) := by decide +kernel
theorem d_M_sumOf_6 : decode b_M_sumOf 6 = .ok (.iload 5, 2) := by decide +kernel
theorem d_M_sumOf_8 : decode b_M_sumOf 8 = .ok (.iload_n 1, 1) := by decide +kernel
theorem d_M_sumOf_9 : decode b_M_sumOf 9 = .ok (.iload_n 2, 1) := by decide +kernel
theorem d_M_sumOf_10 : decode b_M_sumOf 10 = .ok (.iadd, 1) := by decide +kernel
theorem d_M_sumOf_11 : decode b_M_sumOf 11 = .ok (.if_icmp .ge 45, 3) := by decide +kernel
theorem d_M_sumOf_14 : decode b_M_sumOf 14 = .ok (.iload 4, 2) := by decide +kernel
theorem d_M_sumOf_16 : decode b_M_sumOf 16 = .ok (.iload_n 3, 1) := by decide +kernel
theorem d_M_sumOf_17 : decode b_M_sumOf 17 = .ok (.ifCond .lt 21, 3) := by decide +kernel
theorem d_M_sumOf_20 : decode b_M_sumOf 20 = .ok (.iload 5, 2) := by decide +kernel
theorem d_M_sumOf_22 : decode b_M_sumOf 22 = .ok (.iload_n 3, 1) := by decide +kernel
theorem d_M_sumOf_23 : decode b_M_sumOf 23 = .ok (.if_icmp .lt 15, 3) := by decide +kernel
theorem d_M_sumOf_26 : decode b_M_sumOf 26 = .ok (.iload 5, 2) := by decide +kernel
theorem d_M_sumOf_28 : decode b_M_sumOf 28 = .ok (.iload_n 3, 1) := by decide +kernel
theorem d_M_sumOf_29 : decode b_M_sumOf 29 = .ok (.iconst 4, 1) := by decide +kernel
theorem d_M_sumOf_30 : decode b_M_sumOf 30 = .ok (.iadd, 1) := by decide +kernel
theorem d_M_sumOf_31 : decode b_M_sumOf 31 = .ok (.if_icmp .ge 7, 3) := by decide +kernel
theorem d_M_sumOf_34 : decode b_M_sumOf 34 = .ok (.iconst 0, 1) := by decide +kernel
theorem d_M_sumOf_35 : decode b_M_sumOf 35 = .ok (.goto 10, 3) := by decide +kernel
theorem d_M_sumOf_38 : decode b_M_sumOf 38 = .ok (.aload_n 0, 1) := by decide +kernel
theorem d_M_sumOf_39 : decode b_M_sumOf 39 = .ok (.getfield 7, 3) := by decide +kernel
theorem d_M_sumOf_42 : decode b_M_sumOf 42 = .ok (.iload 5, 2) := by decide +kernel
theorem d_M_sumOf_44 : decode b_M_sumOf 44 = .ok (.iaload, 1) := by decide +kernel
theorem d_M_sumOf_45 : decode b_M_sumOf 45 = .ok (.invokestatic 38, 3) := by decide +kernel
theorem d_M_sumOf_48 : decode b_M_sumOf 48 = .ok (.istore 4, 2) := by decide +kernel
theorem d_M_sumOf_50 : decode b_M_sumOf 50 = .ok (.iinc 5 1, 3) := by decide +kernel
theorem d_M_sumOf_53 : decode b_M_sumOf 53 = .ok (.goto (-47), 3) := by decide +kernel
theorem d_M_sumOf_56 : decode b_M_sumOf 56 = .ok (.iconst (-1), 1) := by decide +kernel
theorem d_M_sumOf_57 : decode b_M_sumOf 57 = .ok (.iload 4, 2) := by decide +kernel
theorem d_M_sumOf_59 : decode b_M_sumOf 59 = .ok (.isub, 1) := by decide +kernel
theorem d_M_sumOf_60 : decode b_M_sumOf 60 = .ok (.ireturn, 1) := by decide +kernel
theorem d_M_sum_0 : decode b_M_sum 0 = .ok (.iload_n 1, 1) := by decide +kernel
theorem d_M_sum_1 : decode b_M_sum 1 = .ok (.ifCond .lt 37, 3) := by decide +kernel
theorem d_M_sum_4 : decode b_M_sum 4 = .ok (.iload_n 1, 1) := by decide +kernel
theorem d_M_sum_5 : decode b_M_sum 5 = .ok (.aload_n 0, 1) := by decide +kernel
theorem d_M_sum_6 : decode b_M_sum 6 = .ok (.getfield 19, 3) := by decide +kernel
theorem d_M_sum_9 : decode b_M_sum 9 = .ok (.if_icmp .ge 29, 3) := by decide +kernel
theorem d_M_sum_12 : decode b_M_sum 12 = .ok (.iload_n 2, 1) := by decide +kernel
theorem d_M_sum_13 : decode b_M_sum 13 = .ok (.ifCond .lt 25, 3) := by decide +kernel
theorem d_M_sum_16 : decode b_M_sum 16 = .ok (.iload_n 2, 1) := by decide +kernel
theorem d_M_sum_17 : decode b_M_sum 17 = .ok (.sipush 512, 3) := by decide +kernel
theorem d_M_sum_20 : decode b_M_sum 20 = .ok (.if_icmp .gt 18, 3) := by decide +kernel
theorem d_M_sum_23 : decode b_M_sum 23 = .ok (.iload_n 3, 1) := by decide +kernel
theorem d_M_sum_24 : decode b_M_sum 24 = .ok (.ifCond .lt 14, 3) := by decide +kernel
theorem d_M_sum_27 : decode b_M_sum 27 = .ok (.iload_n 3, 1) := by decide +kernel
theorem d_M_sum_28 : decode b_M_sum 28 = .ok (.sipush 512, 3) := by decide +kernel
theorem d_M_sum_31 : decode b_M_sum 31 = .ok (.if_icmp .gt 7, 3) := by decide +kernel
theorem d_M_sum_34 : decode b_M_sum 34 = .ok (.iconst 1, 1) := by decide +kernel
theorem d_M_sum_35 : decode b_M_sum 35 = .ok (.goto 4, 3) := by decide +kernel
theorem d_M_sum_38 : decode b_M_sum 38 = .ok (.iconst 0, 1) := by decide +kernel
theorem d_M_sum_39 : decode b_M_sum 39 = .ok (.istore 4, 2) := by decide +kernel
theorem d_M_sum_41 : decode b_M_sum 41 = .ok (.iload 4, 2) := by decide +kernel
theorem d_M_sum_43 : decode b_M_sum 43 = .ok (.ifCond .eq 28, 3) := by decide +kernel
theorem d_M_sum_46 : decode b_M_sum 46 = .ok (.iload_n 2, 1) := by decide +kernel
theorem d_M_sum_47 : decode b_M_sum 47 = .ok (.iload_n 3, 1) := by decide +kernel
theorem d_M_sum_48 : decode b_M_sum 48 = .ok (.iadd, 1) := by decide +kernel
theorem d_M_sum_49 : decode b_M_sum 49 = .ok (.sipush 512, 3) := by decide +kernel
theorem d_M_sum_52 : decode b_M_sum 52 = .ok (.if_icmp .gt 19, 3) := by decide +kernel
theorem d_M_sum_55 : decode b_M_sum 55 = .ok (.aload_n 0, 1) := by decide +kernel
theorem d_M_sum_56 : decode b_M_sum 56 = .ok (.sipush 512, 3) := by decide +kernel
theorem d_M_sum_59 : decode b_M_sum 59 = .ok (.iload_n 1, 1) := by decide +kernel
theorem d_M_sum_60 : decode b_M_sum 60 = .ok (.imul, 1) := by decide +kernel
theorem d_M_sum_61 : decode b_M_sum 61 = .ok (.iload_n 2, 1) := by decide +kernel
theorem d_M_sum_62 : decode b_M_sum 62 = .ok (.iadd, 1) := by decide +kernel
theorem d_M_sum_63 : decode b_M_sum 63 = .ok (.iload_n 3, 1) := by decide +kernel
theorem d_M_sum_64 : decode b_M_sum 64 = .ok (.iconst (-1), 1) := by decide +kernel
theorem d_M_sum_65 : decode b_M_sum 65 = .ok (.invokevirtual 42, 3) := by decide +kernel
theorem d_M_sum_68 : decode b_M_sum 68 = .ok (.goto 4, 3) := by decide +kernel
theorem d_M_sum_71 : decode b_M_sum 71 = .ok (.iconst 0, 1) := by decide +kernel
theorem d_M_sum_72 : decode b_M_sum 72 = .ok (.ireturn, 1) := by decide +kernel
theorem d_M_header_0 : decode b_M_header 0 = .ok (.iload_n 1, 1) := by decide +kernel
theorem d_M_header_1 : decode b_M_header 1 = .ok (.ifCond .ne 7, 3) := by decide +kernel
theorem d_M_header_4 : decode b_M_header 4 = .ok (.iconst 1, 1) := by decide +kernel
theorem d_M_header_5 : decode b_M_header 5 = .ok (.goto 9, 3) := by decide +kernel
theorem d_M_header_8 : decode b_M_header 8 = .ok (.aload_n 0, 1) := by decide +kernel
theorem d_M_header_9 : decode b_M_header 9 = .ok (.getfield 19, 3) := by decide +kernel
theorem d_M_header_12 : decode b_M_header 12 = .ok (.iconst 1, 1) := by decide +kernel
theorem d_M_header_13 : decode b_M_header 13 = .ok (.isub, 1) := by decide +kernel
theorem d_M_header_14 : decode b_M_header 14 = .ok (.ireturn, 1) := by decide +kernel
theorem d_M_array_0 : decode b_M_array 0 = .ok (.iload_n 1, 1) := by decide +kernel
theorem d_M_array_1 : decode b_M_array 1 = .ok (.ifCond .ne 7, 3) := by decide +kernel
theorem d_M_array_4 : decode b_M_array 4 = .ok (.iconst 2, 1) := by decide +kernel
theorem d_M_array_5 : decode b_M_array 5 = .ok (.goto 9, 3) := by decide +kernel
theorem d_M_array_8 : decode b_M_array 8 = .ok (.aload_n 0, 1) := by decide +kernel
theorem d_M_array_9 : decode b_M_array 9 = .ok (.getfield 19, 3) := by decide +kernel
theorem d_M_array_12 : decode b_M_array 12 = .ok (.iconst 3, 1) := by decide +kernel
theorem d_M_array_13 : decode b_M_array 13 = .ok (.isub, 1) := by decide +kernel
theorem d_M_array_14 : decode b_M_array 14 = .ok (.ireturn, 1) := by decide +kernel
theorem d_M_headerAt_0 : decode b_M_headerAt 0 = .ok (.sipush 512, 3) := by decide +kernel
theorem d_M_headerAt_3 : decode b_M_headerAt 3 = .ok (.aload_n 0, 1) := by decide +kernel
theorem d_M_headerAt_4 : decode b_M_headerAt 4 = .ok (.iload_n 1, 1) := by decide +kernel
theorem d_M_headerAt_5 : decode b_M_headerAt 5 = .ok (.invokevirtual 46, 3) := by decide +kernel
theorem d_M_headerAt_8 : decode b_M_headerAt 8 = .ok (.imul, 1) := by decide +kernel
theorem d_M_headerAt_9 : decode b_M_headerAt 9 = .ok (.ireturn, 1) := by decide +kernel
theorem d_M_arrayAt_0 : decode b_M_arrayAt 0 = .ok (.sipush 512, 3) := by decide +kernel
theorem d_M_arrayAt_3 : decode b_M_arrayAt 3 = .ok (.aload_n 0, 1) := by decide +kernel
theorem d_M_arrayAt_4 : decode b_M_arrayAt 4 = .ok (.iload_n 1, 1) := by decide +kernel
theorem d_M_arrayAt_5 : decode b_M_arrayAt 5 = .ok (.invokevirtual 50, 3) := by decide +kernel
theorem d_M_arrayAt_8 : decode b_M_arrayAt 8 = .ok (.imul, 1) := by decide +kernel
theorem d_M_arrayAt_9 : decode b_M_arrayAt 9 = .ok (.ireturn, 1) := by decide +kernel
theorem d_M_letterOf_0 : decode b_M_letterOf 0 = .ok (.iload_n 0, 1) := by decide +kernel
theorem d_M_letterOf_1 : decode b_M_letterOf 1 = .ok (.tableswitch 64 0 6 #[43, 46, 49, 52, 55, 58, 61], 43) := by decide +kernel
theorem d_M_letterOf_44 : decode b_M_letterOf 44 = .ok (.bipush 69, 2) := by decide +kernel
theorem d_M_letterOf_46 : decode b_M_letterOf 46 = .ok (.ireturn, 1) := by decide +kernel
theorem d_M_letterOf_47 : decode b_M_letterOf 47 = .ok (.bipush 70, 2) := by decide +kernel
theorem d_M_letterOf_49 : decode b_M_letterOf 49 = .ok (.ireturn, 1) := by decide +kernel
theorem d_M_letterOf_50 : decode b_M_letterOf 50 = .ok (.bipush 73, 2) := by decide +kernel
theorem d_M_letterOf_52 : decode b_M_letterOf 52 = .ok (.ireturn, 1) := by decide +kernel
theorem d_M_letterOf_53 : decode b_M_letterOf 53 = .ok (.bipush 32, 2) := by decide +kernel
theorem d_M_letterOf_55 : decode b_M_letterOf 55 = .ok (.ireturn, 1) := by decide +kernel
theorem d_M_letterOf_56 : decode b_M_letterOf 56 = .ok (.bipush 80, 2) := by decide +kernel
theorem d_M_letterOf_58 : decode b_M_letterOf 58 = .ok (.ireturn, 1) := by decide +kernel
theorem d_M_letterOf_59 : decode b_M_letterOf 59 = .ok (.bipush 65, 2) := by decide +kernel
theorem d_M_letterOf_61 : decode b_M_letterOf 61 = .ok (.ireturn, 1) := by decide +kernel
theorem d_M_letterOf_62 : decode b_M_letterOf 62 = .ok (.bipush 82, 2) := by decide +kernel
theorem d_M_letterOf_64 : decode b_M_letterOf 64 = .ok (.ireturn, 1) := by decide +kernel
theorem d_M_letterOf_65 : decode b_M_letterOf 65 = .ok (.bipush 84, 2) := by decide +kernel
theorem d_M_letterOf_67 : decode b_M_letterOf 67 = .ok (.ireturn, 1) := by decide +kernel
theorem d_M_guard_0 : decode b_M_guard 0 = .ok (.aload_n 0, 1) := by decide +kernel
theorem d_M_guard_1 : decode b_M_guard 1 = .ok (.getfield 7, 3) := by decide +kernel
theorem d_M_guard_4 : decode b_M_guard 4 = .ok (.sipush 510, 3) := by decide +kernel
theorem d_M_guard_7 : decode b_M_guard 7 = .ok (.iaload, 1) := by decide +kernel
theorem d_M_guard_8 : decode b_M_guard 8 = .ok (.bipush 85, 2) := by decide +kernel
theorem d_M_guard_10 : decode b_M_guard 10 = .ok (.if_icmp .ne 73, 3) := by decide +kernel
theorem d_M_guard_13 : decode b_M_guard 13 = .ok (.aload_n 0, 1) := by decide +kernel
theorem d_M_guard_14 : decode b_M_guard 14 = .ok (.getfield 7, 3) := by decide +kernel
theorem d_M_guard_17 : decode b_M_guard 17 = .ok (.sipush 511, 3) := by decide +kernel
theorem d_M_guard_20 : decode b_M_guard 20 = .ok (.iaload, 1) := by decide +kernel
theorem d_M_guard_21 : decode b_M_guard 21 = .ok (.sipush 170, 3) := by decide +kernel
theorem d_M_guard_24 : decode b_M_guard 24 = .ok (.if_icmp .ne 59, 3) := by decide +kernel
theorem d_M_guard_27 : decode b_M_guard 27 = .ok (.aload_n 0, 1) := by decide +kernel
theorem d_M_guard_28 : decode b_M_guard 28 = .ok (.getfield 7, 3) := by decide +kernel
theorem d_M_guard_31 : decode b_M_guard 31 = .ok (.sipush 450, 3) := by decide +kernel
theorem d_M_guard_34 : decode b_M_guard 34 = .ok (.iaload, 1) := by decide +kernel
theorem d_M_guard_35 : decode b_M_guard 35 = .ok (.sipush 238, 3) := by decide +kernel
theorem d_M_guard_38 : decode b_M_guard 38 = .ok (.if_icmp .ne 45, 3) := by decide +kernel
theorem d_M_guard_41 : decode b_M_guard 41 = .ok (.aload_n 0, 1) := by decide +kernel
theorem d_M_guard_42 : decode b_M_guard 42 = .ok (.getfield 7, 3) := by decide +kernel
theorem d_M_guard_45 : decode b_M_guard 45 = .ok (.sipush 454, 3) := by decide +kernel
theorem d_M_guard_48 : decode b_M_guard 48 = .ok (.iconst 4, 1) := by decide +kernel
theorem d_M_guard_49 : decode b_M_guard 49 = .ok (.invokestatic 53, 3) := by decide +kernel
theorem d_M_guard_52 : decode b_M_guard 52 = .ok (.lconst 1, 1) := by decide +kernel
theorem d_M_guard_53 : decode b_M_guard 53 = .ok (.lcmp, 1) := by decide +kernel
theorem d_M_guard_54 : decode b_M_guard 54 = .ok (.ifCond .ne 29, 3) := by decide +kernel
theorem d_M_guard_57 : decode b_M_guard 57 = .ok (.aload_n 0, 1) := by decide +kernel
theorem d_M_guard_58 : decode b_M_guard 58 = .ok (.getfield 7, 3) := by decide +kernel
theorem d_M_guard_61 : decode b_M_guard 61 = .ok (.sipush 458, 3) := by decide +kernel
theorem d_M_guard_64 : decode b_M_guard 64 = .ok (.iconst 4, 1) := by decide +kernel
theorem d_M_guard_65 : decode b_M_guard 65 = .ok (.invokestatic 53, 3) := by decide +kernel
theorem d_M_guard_68 : decode b_M_guard 68 = .ok (.aload_n 0, 1) := by decide +kernel
theorem d_M_guard_69 : decode b_M_guard 69 = .ok (.getfield 19, 3) := by decide +kernel
theorem d_M_guard_72 : decode b_M_guard 72 = .ok (.iconst 1, 1) := by decide +kernel
theorem d_M_guard_73 : decode b_M_guard 73 = .ok (.isub, 1) := by decide +kernel
theorem d_M_guard_74 : decode b_M_guard 74 = .ok (.i2l, 1) := by decide +kernel
theorem d_M_guard_75 : decode b_M_guard 75 = .ok (.lcmp, 1) := by decide +kernel
theorem d_M_guard_76 : decode b_M_guard 76 = .ok (.ifCond .ne 7, 3) := by decide +kernel
theorem d_M_guard_79 : decode b_M_guard 79 = .ok (.iconst 1, 1) := by decide +kernel
theorem d_M_guard_80 : decode b_M_guard 80 = .ok (.goto 4, 3) := by decide +kernel
theorem d_M_guard_83 : decode b_M_guard 83 = .ok (.iconst 0, 1) := by decide +kernel
theorem d_M_guard_84 : decode b_M_guard 84 = .ok (.istore_n 1, 1) := by decide +kernel
theorem d_M_guard_85 : decode b_M_guard 85 = .ok (.sipush 462, 3) := by decide +kernel
theorem d_M_guard_88 : decode b_M_guard 88 = .ok (.istore_n 2, 1) := by decide +kernel
theorem d_M_guard_89 : decode b_M_guard 89 = .ok (.iload_n 2, 1) := by decide +kernel
theorem d_M_guard_90 : decode b_M_guard 90 = .ok (.sipush 510, 3) := by decide +kernel
theorem d_M_guard_93 : decode b_M_guard 93 = .ok (.if_icmp .ge 28, 3) := by decide +kernel
theorem d_M_guard_96 : decode b_M_guard 96 = .ok (.iload_n 1, 1) := by decide +kernel
theorem d_M_guard_97 : decode b_M_guard 97 = .ok (.ifCond .eq 16, 3) := by decide +kernel
theorem d_M_guard_100 : decode b_M_guard 100 = .ok (.aload_n 0, 1) := by decide +kernel
theorem d_M_guard_101 : decode b_M_guard 101 = .ok (.getfield 7, 3) := by decide +kernel
theorem d_M_guard_104 : decode b_M_guard 104 = .ok (.iload_n 2, 1) := by decide +kernel
theorem d_M_guard_105 : decode b_M_guard 105 = .ok (.iaload, 1) := by decide +kernel
theorem d_M_guard_106 : decode b_M_guard 106 = .ok (.ifCond .ne 7, 3) := by decide +kernel
theorem d_M_guard_109 : decode b_M_guard 109 = .ok (.iconst 1, 1) := by decide +kernel
theorem d_M_guard_110 : decode b_M_guard 110 = .ok (.goto 4, 3) := by decide +kernel
theorem d_M_guard_113 : decode b_M_guard 113 = .ok (.iconst 0, 1) := by decide +kernel
theorem d_M_guard_114 : decode b_M_guard 114 = .ok (.istore_n 1, 1) := by decide +kernel
theorem d_M_guard_115 : decode b_M_guard 115 = .ok (.iinc 2 1, 3) := by decide +kernel
theorem d_M_guard_118 : decode b_M_guard 118 = .ok (.goto (-29), 3) := by decide +kernel
theorem d_M_guard_121 : decode b_M_guard 121 = .ok (.iload_n 1, 1) := by decide +kernel
theorem d_M_guard_122 : decode b_M_guard 122 = .ok (.ireturn, 1) := by decide +kernel
theorem d_M_writeGuard_0 : decode b_M_writeGuard 0 = .ok (.iconst 0, 1) := by decide +kernel
theorem d_M_writeGuard_1 : decode b_M_writeGuard 1 = .ok (.istore_n 1, 1) := by decide +kernel
theorem d_M_writeGuard_2 : decode b_M_writeGuard 2 = .ok (.iload_n 1, 1) := by decide +kernel
theorem d_M_writeGuard_3 : decode b_M_writeGuard 3 = .ok (.sipush 512, 3) := by decide +kernel
theorem d_M_writeGuard_6 : decode b_M_writeGuard 6 = .ok (.if_icmp .ge 16, 3) := by decide +kernel
theorem d_M_writeGuard_9 : decode b_M_writeGuard 9 = .ok (.aload_n 0, 1) := by decide +kernel
theorem d_M_writeGuard_10 : decode b_M_writeGuard 10 = .ok (.getfield 7, 3) := by decide +kernel
theorem d_M_writeGuard_13 : decode b_M_writeGuard 13 = .ok (.iload_n 1, 1) := by decide +kernel
theorem d_M_writeGuard_14 : decode b_M_writeGuard 14 = .ok (.iconst 0, 1) := by decide +kernel
theorem d_M_writeGuard_15 : decode b_M_writeGuard 15 = .ok (.iastore, 1) := by decide +kernel
theorem d_M_writeGuard_16 : decode b_M_writeGuard 16 = .ok (.iinc 1 1, 3) := by decide +kernel
theorem d_M_writeGuard_19 : decode b_M_writeGuard 19 = .ok (.goto (-17), 3) := by decide +kernel
theorem d_M_writeGuard_22 : decode b_M_writeGuard 22 = .ok (.aload_n 0, 1) := by decide +kernel
theorem d_M_writeGuard_23 : decode b_M_writeGuard 23 = .ok (.getfield 7, 3) := by decide +kernel
theorem d_M_writeGuard_26 : decode b_M_writeGuard 26 = .ok (.sipush 510, 3) := by decide +kernel
theorem d_M_writeGuard_29 : decode b_M_writeGuard 29 = .ok (.bipush 85, 2) := by decide +kernel
theorem d_M_writeGuard_31 : decode b_M_writeGuard 31 = .ok (.iastore, 1) := by decide +kernel
theorem d_M_writeGuard_32 : decode b_M_writeGuard 32 = .ok (.aload_n 0, 1) := by decide +kernel
theorem d_M_writeGuard_33 : decode b_M_writeGuard 33 = .ok (.getfield 7, 3) := by decide +kernel
theorem d_M_writeGuard_36 : decode b_M_writeGuard 36 = .ok (.sipush 511, 3) := by decide +kernel
theorem d_M_writeGuard_39 : decode b_M_writeGuard 39 = .ok (.sipush 170, 3) := by decide +kernel
theorem d_M_writeGuard_42 : decode b_M_writeGuard 42 = .ok (.iastore, 1) := by decide +kernel
theorem d_M_writeGuard_43 : decode b_M_writeGuard 43 = .ok (.aload_n 0, 1) := by decide +kernel
theorem d_M_writeGuard_44 : decode b_M_writeGuard 44 = .ok (.getfield 7, 3) := by decide +kernel
theorem d_M_writeGuard_47 : decode b_M_writeGuard 47 = .ok (.sipush 450, 3) := by decide +kernel
theorem d_M_writeGuard_50 : decode b_M_writeGuard 50 = .ok (.sipush 238, 3) := by decide +kernel
theorem d_M_writeGuard_53 : decode b_M_writeGuard 53 = .ok (.iastore, 1) := by decide +kernel
theorem d_M_writeGuard_54 : decode b_M_writeGuard 54 = .ok (.aload_n 0, 1) := by decide +kernel
theorem d_M_writeGuard_55 : decode b_M_writeGuard 55 = .ok (.getfield 7, 3) := by decide +kernel
theorem d_M_writeGuard_58 : decode b_M_writeGuard 58 = .ok (.sipush 454, 3) := by decide +kernel
theorem d_M_writeGuard_61 : decode b_M_writeGuard 61 = .ok (.iconst 4, 1) := by decide +kernel
theorem d_M_writeGuard_62 : decode b_M_writeGuard 62 = .ok (.lconst 1, 1) := by decide +kernel
theorem d_M_writeGuard_63 : decode b_M_writeGuard 63 = .ok (.invokestatic 29, 3) := by decide +kernel
theorem d_M_writeGuard_66 : decode b_M_writeGuard 66 = .ok (.aload_n 0, 1) := by decide +kernel
theorem d_M_writeGuard_67 : decode b_M_writeGuard 67 = .ok (.getfield 7, 3) := by decide +kernel
theorem d_M_writeGuard_70 : decode b_M_writeGuard 70 = .ok (.sipush 458, 3) := by decide +kernel
theorem d_M_writeGuard_73 : decode b_M_writeGuard 73 = .ok (.iconst 4, 1) := by decide +kernel
theorem d_M_writeGuard_74 : decode b_M_writeGuard 74 = .ok (.aload_n 0, 1) := by decide +kernel
theorem d_M_writeGuard_75 : decode b_M_writeGuard 75 = .ok (.getfield 19, 3) := by decide +kernel
theorem d_M_writeGuard_78 : decode b_M_writeGuard 78 = .ok (.iconst 1, 1) := by decide +kernel
theorem d_M_writeGuard_79 : decode b_M_writeGuard 79 = .ok (.isub, 1) := by decide +kernel
theorem d_M_writeGuard_80 : decode b_M_writeGuard 80 = .ok (.i2l, 1) := by decide +kernel
theorem d_M_writeGuard_81 : decode b_M_writeGuard 81 = .ok (.invokestatic 29, 3) := by decide +kernel
theorem d_M_writeGuard_84 : decode b_M_writeGuard 84 = .ok (.return_, 1) := by decide +kernel
theorem d_M_zeros_0 : decode b_M_zeros 0 = .ok (.iconst 1, 1) := by decide +kernel
theorem d_M_zeros_1 : decode b_M_zeros 1 = .ok (.istore_n 3, 1) := by decide +kernel
theorem d_M_zeros_2 : decode b_M_zeros 2 = .ok (.iconst 0, 1) := by decide +kernel
theorem d_M_zeros_3 : decode b_M_zeros 3 = .ok (.istore 4, 2) := by decide +kernel
theorem d_M_zeros_5 : decode b_M_zeros 5 = .ok (.iload 4, 2) := by decide +kernel
theorem d_M_zeros_7 : decode b_M_zeros 7 = .ok (.iload_n 2, 1) := by decide +kernel
theorem d_M_zeros_8 : decode b_M_zeros 8 = .ok (.if_icmp .ge 28, 3) := by decide +kernel
theorem d_M_zeros_11 : decode b_M_zeros 11 = .ok (.iload_n 3, 1) := by decide +kernel
theorem d_M_zeros_12 : decode b_M_zeros 12 = .ok (.ifCond .eq 16, 3) := by decide +kernel
theorem d_M_zeros_15 : decode b_M_zeros 15 = .ok (.aload_n 0, 1) := by decide +kernel
theorem d_M_zeros_16 : decode b_M_zeros 16 = .ok (.iload_n 1, 1) := by decide +kernel
theorem d_M_zeros_17 : decode b_M_zeros 17 = .ok (.iload 4, 2) := by decide +kernel
theorem d_M_zeros_19 : decode b_M_zeros 19 = .ok (.iadd, 1) := by decide +kernel
theorem d_M_zeros_20 : decode b_M_zeros 20 = .ok (.iaload, 1) := by decide +kernel
theorem d_M_zeros_21 : decode b_M_zeros 21 = .ok (.ifCond .ne 7, 3) := by decide +kernel
theorem d_M_zeros_24 : decode b_M_zeros 24 = .ok (.iconst 1, 1) := by decide +kernel
theorem d_M_zeros_25 : decode b_M_zeros 25 = .ok (.goto 4, 3) := by decide +kernel
theorem d_M_zeros_28 : decode b_M_zeros 28 = .ok (.iconst 0, 1) := by decide +kernel
theorem d_M_zeros_29 : decode b_M_zeros 29 = .ok (.istore_n 3, 1) := by decide +kernel
theorem d_M_zeros_30 : decode b_M_zeros 30 = .ok (.iinc 4 1, 3) := by decide +kernel
theorem d_M_zeros_33 : decode b_M_zeros 33 = .ok (.goto (-28), 3) := by decide +kernel
theorem d_M_zeros_36 : decode b_M_zeros 36 = .ok (.iload_n 3, 1) := by decide +kernel
theorem d_M_zeros_37 : decode b_M_zeros 37 = .ok (.ireturn, 1) := by decide +kernel
theorem d_M_same_0 : decode b_M_same 0 = .ok (.iconst 1, 1) := by decide +kernel
theorem d_M_same_1 : decode b_M_same 1 = .ok (.istore 5, 2) := by decide +kernel
theorem d_M_same_3 : decode b_M_same 3 = .ok (.iconst 0, 1) := by decide +kernel
theorem d_M_same_4 : decode b_M_same 4 = .ok (.istore 6, 2) := by decide +kernel
theorem d_M_same_6 : decode b_M_same 6 = .ok (.iload 6, 2) := by decide +kernel
theorem d_M_same_8 : decode b_M_same 8 = .ok (.iload 4, 2) := by decide +kernel
theorem d_M_same_10 : decode b_M_same 10 = .ok (.if_icmp .ge 36, 3) := by decide +kernel
theorem d_M_same_13 : decode b_M_same 13 = .ok (.iload 5, 2) := by decide +kernel
theorem d_M_same_15 : decode b_M_same 15 = .ok (.ifCond .eq 22, 3) := by decide +kernel
theorem d_M_same_18 : decode b_M_same 18 = .ok (.aload_n 0, 1) := by decide +kernel
theorem d_M_same_19 : decode b_M_same 19 = .ok (.iload_n 1, 1) := by decide +kernel
theorem d_M_same_20 : decode b_M_same 20 = .ok (.iload 6, 2) := by decide +kernel
theorem d_M_same_22 : decode b_M_same 22 = .ok (.iadd, 1) := by decide +kernel
theorem d_M_same_23 : decode b_M_same 23 = .ok (.iaload, 1) := by decide +kernel
theorem d_M_same_24 : decode b_M_same 24 = .ok (.aload_n 2, 1) := by decide +kernel
theorem d_M_same_25 : decode b_M_same 25 = .ok (.iload_n 3, 1) := by decide +kernel
theorem d_M_same_26 : decode b_M_same 26 = .ok (.iload 6, 2) := by decide +kernel
theorem d_M_same_28 : decode b_M_same 28 = .ok (.iadd, 1) := by decide +kernel
theorem d_M_same_29 : decode b_M_same 29 = .ok (.iaload, 1) := by decide +kernel
theorem d_M_same_30 : decode b_M_same 30 = .ok (.if_icmp .ne 7, 3) := by decide +kernel
theorem d_M_same_33 : decode b_M_same 33 = .ok (.iconst 1, 1) := by decide +kernel
theorem d_M_same_34 : decode b_M_same 34 = .ok (.goto 4, 3) := by decide +kernel
theorem d_M_same_37 : decode b_M_same 37 = .ok (.iconst 0, 1) := by decide +kernel
theorem d_M_same_38 : decode b_M_same 38 = .ok (.istore 5, 2) := by decide +kernel
theorem d_M_same_40 : decode b_M_same 40 = .ok (.iinc 6 1, 3) := by decide +kernel
theorem d_M_same_43 : decode b_M_same 43 = .ok (.goto (-37), 3) := by decide +kernel
theorem d_M_same_46 : decode b_M_same 46 = .ok (.iload 5, 2) := by decide +kernel
theorem d_M_same_48 : decode b_M_same 48 = .ok (.ireturn, 1) := by decide +kernel
theorem d_M_first_0 : decode b_M_first 0 = .ok (.aload_n 0, 1) := by decide +kernel
theorem d_M_first_1 : decode b_M_first 1 = .ok (.iload_n 1, 1) := by decide +kernel
theorem d_M_first_2 : decode b_M_first 2 = .ok (.bipush 32, 2) := by decide +kernel
theorem d_M_first_4 : decode b_M_first 4 = .ok (.iadd, 1) := by decide +kernel
theorem d_M_first_5 : decode b_M_first 5 = .ok (.bipush 8, 2) := by decide +kernel
theorem d_M_first_7 : decode b_M_first 7 = .ok (.invokestatic 53, 3) := by decide +kernel
theorem d_M_first_10 : decode b_M_first 10 = .ok (.lreturn, 1) := by decide +kernel
theorem d_M_last_0 : decode b_M_last 0 = .ok (.aload_n 0, 1) := by decide +kernel
theorem d_M_last_1 : decode b_M_last 1 = .ok (.iload_n 1, 1) := by decide +kernel
theorem d_M_last_2 : decode b_M_last 2 = .ok (.bipush 40, 2) := by decide +kernel
theorem d_M_last_4 : decode b_M_last 4 = .ok (.iadd, 1) := by decide +kernel
theorem d_M_last_5 : decode b_M_last 5 = .ok (.bipush 8, 2) := by decide +kernel
theorem d_M_last_7 : decode b_M_last 7 = .ok (.invokestatic 53, 3) := by decide +kernel
theorem d_M_last_10 : decode b_M_last 10 = .ok (.lreturn, 1) := by decide +kernel
theorem d_M_isFree_0 : decode b_M_isFree 0 = .ok (.aload_n 0, 1) := by decide +kernel
theorem d_M_isFree_1 : decode b_M_isFree 1 = .ok (.iload_n 1, 1) := by decide +kernel
theorem d_M_isFree_2 : decode b_M_isFree 2 = .ok (.bipush 16, 2) := by decide +kernel
theorem d_M_isFree_4 : decode b_M_isFree 4 = .ok (.invokestatic 57, 3) := by decide +kernel
theorem d_M_isFree_7 : decode b_M_isFree 7 = .ok (.ireturn, 1) := by decide +kernel
theorem d_M_badRange_0 : decode b_M_badRange 0 = .ok (.lload_n 1, 1) := by decide +kernel
theorem d_M_badRange_1 : decode b_M_badRange 1 = .ok (.ldc2_w 61, 3) := by decide +kernel
theorem d_M_badRange_4 : decode b_M_badRange 4 = .ok (.lcmp, 1) := by decide +kernel
theorem d_M_badRange_5 : decode b_M_badRange 5 = .ok (.ifCond .lt 21, 3) := by decide +kernel
theorem d_M_badRange_8 : decode b_M_badRange 8 = .ok (.lload_n 3, 1) := by decide +kernel
theorem d_M_badRange_9 : decode b_M_badRange 9 = .ok (.aload_n 0, 1) := by decide +kernel
theorem d_M_badRange_10 : decode b_M_badRange 10 = .ok (.getfield 19, 3) := by decide +kernel
theorem d_M_badRange_13 : decode b_M_badRange 13 = .ok (.iconst 4, 1) := by decide +kernel
theorem d_M_badRange_14 : decode b_M_badRange 14 = .ok (.isub, 1) := by decide +kernel
theorem d_M_badRange_15 : decode b_M_badRange 15 = .ok (.i2l, 1) := by decide +kernel
theorem d_M_badRange_16 : decode b_M_badRange 16 = .ok (.lcmp, 1) := by decide +kernel
theorem d_M_badRange_17 : decode b_M_badRange 17 = .ok (.ifCond .gt 9, 3) := by decide +kernel
theorem d_M_badRange_20 : decode b_M_badRange 20 = .ok (.lload_n 1, 1) := by decide +kernel
theorem d_M_badRange_21 : decode b_M_badRange 21 = .ok (.lload_n 3, 1) := by decide +kernel
theorem d_M_badRange_22 : decode b_M_badRange 22 = .ok (.lcmp, 1) := by decide +kernel
theorem d_M_badRange_23 : decode b_M_badRange 23 = .ok (.ifCond .le 7, 3) := by decide +kernel
theorem d_M_badRange_26 : decode b_M_badRange 26 = .ok (.iconst 1, 1) := by decide +kernel
theorem d_M_badRange_27 : decode b_M_badRange 27 = .ok (.goto 4, 3) := by decide +kernel
theorem d_M_badRange_30 : decode b_M_badRange 30 = .ok (.iconst 0, 1) := by decide +kernel
theorem d_M_badRange_31 : decode b_M_badRange 31 = .ok (.ireturn, 1) := by decide +kernel
theorem d_M_badEntries_0 : decode b_M_badEntries 0 = .ok (.iconst 0, 1) := by decide +kernel
theorem d_M_badEntries_1 : decode b_M_badEntries 1 = .ok (.istore_n 2, 1) := by decide +kernel
theorem d_M_badEntries_2 : decode b_M_badEntries 2 = .ok (.iconst 0, 1) := by decide +kernel
theorem d_M_badEntries_3 : decode b_M_badEntries 3 = .ok (.istore_n 3, 1) := by decide +kernel
theorem d_M_badEntries_4 : decode b_M_badEntries 4 = .ok (.iload_n 3, 1) := by decide +kernel
theorem d_M_badEntries_5 : decode b_M_badEntries 5 = .ok (.bipush 8, 2) := by decide +kernel
theorem d_M_badEntries_7 : decode b_M_badEntries 7 = .ok (.if_icmp .ge 223, 3) := by decide +kernel
theorem d_M_badEntries_10 : decode b_M_badEntries 10 = .ok (.iload_n 1, 1) := by decide +kernel
theorem d_M_badEntries_11 : decode b_M_badEntries 11 = .ok (.sipush 128, 3) := by decide +kernel
theorem d_M_badEntries_14 : decode b_M_badEntries 14 = .ok (.iload_n 3, 1) := by decide +kernel
theorem d_M_badEntries_15 : decode b_M_badEntries 15 = .ok (.imul, 1) := by decide +kernel
theorem d_M_badEntries_16 : decode b_M_badEntries 16 = .ok (.iadd, 1) := by decide +kernel
theorem d_M_badEntries_17 : decode b_M_badEntries 17 = .ok (.istore 4, 2) := by decide +kernel
theorem d_M_badEntries_19 : decode b_M_badEntries 19 = .ok (.aload_n 0, 1) := by decide +kernel
theorem d_M_badEntries_20 : decode b_M_badEntries 20 = .ok (.getfield 7, 3) := by decide +kernel
theorem d_M_badEntries_23 : decode b_M_badEntries 23 = .ok (.iload 4, 2) := by decide +kernel
theorem d_M_badEntries_25 : decode b_M_badEntries 25 = .ok (.invokestatic 63, 3) := by decide +kernel
theorem d_M_badEntries_28 : decode b_M_badEntries 28 = .ok (.ifCond .ne 7, 3) := by decide +kernel
theorem d_M_badEntries_31 : decode b_M_badEntries 31 = .ok (.iconst 1, 1) := by decide +kernel
theorem d_M_badEntries_32 : decode b_M_badEntries 32 = .ok (.goto 4, 3) := by decide +kernel
theorem d_M_badEntries_35 : decode b_M_badEntries 35 = .ok (.iconst 0, 1) := by decide +kernel
theorem d_M_badEntries_36 : decode b_M_badEntries 36 = .ok (.istore 5, 2) := by decide +kernel
theorem d_M_badEntries_38 : decode b_M_badEntries 38 = .ok (.iload_n 2, 1) := by decide +kernel
theorem d_M_badEntries_39 : decode b_M_badEntries 39 = .ok (.ifCond .ne 33, 3) := by decide +kernel
theorem d_M_badEntries_42 : decode b_M_badEntries 42 = .ok (.iload 5, 2) := by decide +kernel
theorem d_M_badEntries_44 : decode b_M_badEntries 44 = .ok (.ifCond .eq 32, 3) := by decide +kernel
theorem d_M_badEntries_47 : decode b_M_badEntries 47 = .ok (.aload_n 0, 1) := by decide +kernel
theorem d_M_badEntries_48 : decode b_M_badEntries 48 = .ok (.aload_n 0, 1) := by decide +kernel
theorem d_M_badEntries_49 : decode b_M_badEntries 49 = .ok (.getfield 7, 3) := by decide +kernel
theorem d_M_badEntries_52 : decode b_M_badEntries 52 = .ok (.iload 4, 2) := by decide +kernel
theorem d_M_badEntries_54 : decode b_M_badEntries 54 = .ok (.invokestatic 67, 3) := by decide +kernel
theorem d_M_badEntries_57 : decode b_M_badEntries 57 = .ok (.aload_n 0, 1) := by decide +kernel
theorem d_M_badEntries_58 : decode b_M_badEntries 58 = .ok (.getfield 7, 3) := by decide +kernel
theorem d_M_badEntries_61 : decode b_M_badEntries 61 = .ok (.iload 4, 2) := by decide +kernel
theorem d_M_badEntries_63 : decode b_M_badEntries 63 = .ok (.invokestatic 71, 3) := by decide +kernel
theorem d_M_badEntries_66 : decode b_M_badEntries 66 = .ok (.invokevirtual 74, 3) := by decide +kernel
theorem d_M_badEntries_69 : decode b_M_badEntries 69 = .ok (.ifCond .eq 7, 3) := by decide +kernel
theorem d_M_badEntries_72 : decode b_M_badEntries 72 = .ok (.iconst 1, 1) := by decide +kernel
theorem d_M_badEntries_73 : decode b_M_badEntries 73 = .ok (.goto 4, 3) := by decide +kernel
theorem d_M_badEntries_76 : decode b_M_badEntries 76 = .ok (.iconst 0, 1) := by decide +kernel
theorem d_M_badEntries_77 : decode b_M_badEntries 77 = .ok (.istore_n 2, 1) := by decide +kernel
theorem d_M_badEntries_78 : decode b_M_badEntries 78 = .ok (.iconst 0, 1) := by decide +kernel
theorem d_M_badEntries_79 : decode b_M_badEntries 79 = .ok (.istore 6, 2) := by decide +kernel
theorem d_M_badEntries_81 : decode b_M_badEntries 81 = .ok (.iload 6, 2) := by decide +kernel
theorem d_M_badEntries_83 : decode b_M_badEntries 83 = .ok (.iload_n 3, 1) := by decide +kernel
theorem d_M_badEntries_84 : decode b_M_badEntries 84 = .ok (.if_icmp .ge 140, 3) := by decide +kernel
theorem d_M_badEntries_87 : decode b_M_badEntries 87 = .ok (.iload 5, 2) := by decide +kernel
theorem d_M_badEntries_89 : decode b_M_badEntries 89 = .ok (.ifCond .eq 135, 3) := by decide +kernel
theorem d_M_badEntries_92 : decode b_M_badEntries 92 = .ok (.iload_n 1, 1) := by decide +kernel
theorem d_M_badEntries_93 : decode b_M_badEntries 93 = .ok (.sipush 128, 3) := by decide +kernel
theorem d_M_badEntries_96 : decode b_M_badEntries 96 = .ok (.iload 6, 2) := by decide +kernel
theorem d_M_badEntries_98 : decode b_M_badEntries 98 = .ok (.imul, 1) := by decide +kernel
theorem d_M_badEntries_99 : decode b_M_badEntries 99 = .ok (.iadd, 1) := by decide +kernel
theorem d_M_badEntries_100 : decode b_M_badEntries 100 = .ok (.istore 7, 2) := by decide +kernel
theorem d_M_badEntries_102 : decode b_M_badEntries 102 = .ok (.aload_n 0, 1) := by decide +kernel
theorem d_M_badEntries_103 : decode b_M_badEntries 103 = .ok (.getfield 7, 3) := by decide +kernel
theorem d_M_badEntries_106 : decode b_M_badEntries 106 = .ok (.iload 7, 2) := by decide +kernel
theorem d_M_badEntries_108 : decode b_M_badEntries 108 = .ok (.invokestatic 63, 3) := by decide +kernel
theorem d_M_badEntries_111 : decode b_M_badEntries 111 = .ok (.ifCond .ne 7, 3) := by decide +kernel
theorem d_M_badEntries_114 : decode b_M_badEntries 114 = .ok (.iconst 1, 1) := by decide +kernel
theorem d_M_badEntries_115 : decode b_M_badEntries 115 = .ok (.goto 4, 3) := by decide +kernel
theorem d_M_badEntries_118 : decode b_M_badEntries 118 = .ok (.iconst 0, 1) := by decide +kernel
theorem d_M_badEntries_119 : decode b_M_badEntries 119 = .ok (.istore 8, 2) := by decide +kernel
theorem d_M_badEntries_121 : decode b_M_badEntries 121 = .ok (.aload_n 0, 1) := by decide +kernel
theorem d_M_badEntries_122 : decode b_M_badEntries 122 = .ok (.getfield 7, 3) := by decide +kernel
theorem d_M_badEntries_125 : decode b_M_badEntries 125 = .ok (.iload 4, 2) := by decide +kernel
theorem d_M_badEntries_127 : decode b_M_badEntries 127 = .ok (.invokestatic 67, 3) := by decide +kernel
theorem d_M_badEntries_130 : decode b_M_badEntries 130 = .ok (.aload_n 0, 1) := by decide +kernel
theorem d_M_badEntries_131 : decode b_M_badEntries 131 = .ok (.getfield 7, 3) := by decide +kernel
theorem d_M_badEntries_134 : decode b_M_badEntries 134 = .ok (.iload 7, 2) := by decide +kernel
theorem d_M_badEntries_136 : decode b_M_badEntries 136 = .ok (.invokestatic 71, 3) := by decide +kernel
theorem d_M_badEntries_139 : decode b_M_badEntries 139 = .ok (.lcmp, 1) := by decide +kernel
theorem d_M_badEntries_140 : decode b_M_badEntries 140 = .ok (.ifCond .gt 29, 3) := by decide +kernel
theorem d_M_badEntries_143 : decode b_M_badEntries 143 = .ok (.aload_n 0, 1) := by decide +kernel
theorem d_M_badEntries_144 : decode b_M_badEntries 144 = .ok (.getfield 7, 3) := by decide +kernel
theorem d_M_badEntries_147 : decode b_M_badEntries 147 = .ok (.iload 7, 2) := by decide +kernel
theorem d_M_badEntries_149 : decode b_M_badEntries 149 = .ok (.invokestatic 67, 3) := by decide +kernel
theorem d_M_badEntries_152 : decode b_M_badEntries 152 = .ok (.aload_n 0, 1) := by decide +kernel
theorem d_M_badEntries_153 : decode b_M_badEntries 153 = .ok (.getfield 7, 3) := by decide +kernel
theorem d_M_badEntries_156 : decode b_M_badEntries 156 = .ok (.iload 4, 2) := by decide +kernel
theorem d_M_badEntries_158 : decode b_M_badEntries 158 = .ok (.invokestatic 71, 3) := by decide +kernel
theorem d_M_badEntries_161 : decode b_M_badEntries 161 = .ok (.lcmp, 1) := by decide +kernel
theorem d_M_badEntries_162 : decode b_M_badEntries 162 = .ok (.ifCond .gt 7, 3) := by decide +kernel
theorem d_M_badEntries_165 : decode b_M_badEntries 165 = .ok (.iconst 1, 1) := by decide +kernel
theorem d_M_badEntries_166 : decode b_M_badEntries 166 = .ok (.goto 4, 3) := by decide +kernel
theorem d_M_badEntries_169 : decode b_M_badEntries 169 = .ok (.iconst 0, 1) := by decide +kernel
theorem d_M_badEntries_170 : decode b_M_badEntries 170 = .ok (.istore 9, 2) := by decide +kernel
theorem d_M_badEntries_172 : decode b_M_badEntries 172 = .ok (.iload_n 2, 1) := by decide +kernel
theorem d_M_badEntries_173 : decode b_M_badEntries 173 = .ok (.ifCond .ne 39, 3) := by decide +kernel
theorem d_M_badEntries_176 : decode b_M_badEntries 176 = .ok (.iload 8, 2) := by decide +kernel
theorem d_M_badEntries_178 : decode b_M_badEntries 178 = .ok (.ifCond .eq 38, 3) := by decide +kernel
theorem d_M_badEntries_181 : decode b_M_badEntries 181 = .ok (.iload 9, 2) := by decide +kernel
theorem d_M_badEntries_183 : decode b_M_badEntries 183 = .ok (.ifCond .ne 29, 3) := by decide +kernel
theorem d_M_badEntries_186 : decode b_M_badEntries 186 = .ok (.aload_n 0, 1) := by decide +kernel
theorem d_M_badEntries_187 : decode b_M_badEntries 187 = .ok (.getfield 7, 3) := by decide +kernel
theorem d_M_badEntries_190 : decode b_M_badEntries 190 = .ok (.iload 4, 2) := by decide +kernel
theorem d_M_badEntries_192 : decode b_M_badEntries 192 = .ok (.bipush 16, 2) := by decide +kernel
theorem d_M_badEntries_194 : decode b_M_badEntries 194 = .ok (.iadd, 1) := by decide +kernel
theorem d_M_badEntries_195 : decode b_M_badEntries 195 = .ok (.aload_n 0, 1) := by decide +kernel
theorem d_M_badEntries_196 : decode b_M_badEntries 196 = .ok (.getfield 7, 3) := by decide +kernel
theorem d_M_badEntries_199 : decode b_M_badEntries 199 = .ok (.iload 7, 2) := by decide +kernel
theorem d_M_badEntries_201 : decode b_M_badEntries 201 = .ok (.bipush 16, 2) := by decide +kernel
theorem d_M_badEntries_203 : decode b_M_badEntries 203 = .ok (.iadd, 1) := by decide +kernel
theorem d_M_badEntries_204 : decode b_M_badEntries 204 = .ok (.bipush 16, 2) := by decide +kernel
theorem d_M_badEntries_206 : decode b_M_badEntries 206 = .ok (.invokestatic 78, 3) := by decide +kernel
theorem d_M_badEntries_209 : decode b_M_badEntries 209 = .ok (.ifCond .eq 7, 3) := by decide +kernel
theorem d_M_badEntries_212 : decode b_M_badEntries 212 = .ok (.iconst 1, 1) := by decide +kernel
theorem d_M_badEntries_213 : decode b_M_badEntries 213 = .ok (.goto 4, 3) := by decide +kernel
theorem d_M_badEntries_216 : decode b_M_badEntries 216 = .ok (.iconst 0, 1) := by decide +kernel
theorem d_M_badEntries_217 : decode b_M_badEntries 217 = .ok (.istore_n 2, 1) := by decide +kernel
theorem d_M_badEntries_218 : decode b_M_badEntries 218 = .ok (.iinc 6 1, 3) := by decide +kernel
theorem d_M_badEntries_221 : decode b_M_badEntries 221 = .ok (.goto (-140), 3) := by decide +kernel
theorem d_M_badEntries_224 : decode b_M_badEntries 224 = .ok (.iinc 3 1, 3) := by decide +kernel
theorem d_M_badEntries_227 : decode b_M_badEntries 227 = .ok (.goto (-223), 3) := by decide +kernel
theorem d_M_badEntries_230 : decode b_M_badEntries 230 = .ok (.iload_n 2, 1) := by decide +kernel
theorem d_M_badEntries_231 : decode b_M_badEntries 231 = .ok (.ireturn, 1) := by decide +kernel
theorem d_M_fault_0 : decode b_M_fault 0 = .ok (.iload_n 1, 1) := by decide +kernel
theorem d_M_fault_1 : decode b_M_fault 1 = .ok (.ifCond .lt 8, 3) := by decide +kernel
theorem d_M_fault_4 : decode b_M_fault 4 = .ok (.iload_n 1, 1) := by decide +kernel
theorem d_M_fault_5 : decode b_M_fault 5 = .ok (.iconst 1, 1) := by decide +kernel
theorem d_M_fault_6 : decode b_M_fault 6 = .ok (.if_icmp .le 5, 3) := by decide +kernel
theorem d_M_fault_9 : decode b_M_fault 9 = .ok (.iconst (-1), 1) := by decide +kernel
theorem d_M_fault_10 : decode b_M_fault 10 = .ok (.ireturn, 1) := by decide +kernel
theorem d_M_fault_11 : decode b_M_fault 11 = .ok (.aload_n 0, 1) := by decide +kernel
theorem d_M_fault_12 : decode b_M_fault 12 = .ok (.iload_n 1, 1) := by decide +kernel
theorem d_M_fault_13 : decode b_M_fault 13 = .ok (.invokevirtual 82, 3) := by decide +kernel
theorem d_M_fault_16 : decode b_M_fault 16 = .ok (.istore_n 2, 1) := by decide +kernel
theorem d_M_fault_17 : decode b_M_fault 17 = .ok (.iconst 0, 1) := by decide +kernel
theorem d_M_fault_18 : decode b_M_fault 18 = .ok (.istore_n 3, 1) := by decide +kernel
theorem d_M_fault_19 : decode b_M_fault 19 = .ok (.iload_n 3, 1) := by decide +kernel
theorem d_M_fault_20 : decode b_M_fault 20 = .ok (.bipush 8, 2) := by decide +kernel
theorem d_M_fault_22 : decode b_M_fault 22 = .ok (.if_icmp .ge 26, 3) := by decide +kernel
theorem d_M_fault_25 : decode b_M_fault 25 = .ok (.aload_n 0, 1) := by decide +kernel
theorem d_M_fault_26 : decode b_M_fault 26 = .ok (.getfield 7, 3) := by decide +kernel
theorem d_M_fault_29 : decode b_M_fault 29 = .ok (.iload_n 2, 1) := by decide +kernel
theorem d_M_fault_30 : decode b_M_fault 30 = .ok (.iload_n 3, 1) := by decide +kernel
theorem d_M_fault_31 : decode b_M_fault 31 = .ok (.iadd, 1) := by decide +kernel
theorem d_M_fault_32 : decode b_M_fault 32 = .ok (.iaload, 1) := by decide +kernel
theorem d_M_fault_33 : decode b_M_fault 33 = .ok (.iload_n 3, 1) := by decide +kernel
theorem d_M_fault_34 : decode b_M_fault 34 = .ok (.invokestatic 85, 3) := by decide +kernel
theorem d_M_fault_37 : decode b_M_fault 37 = .ok (.if_icmp .eq 5, 3) := by decide +kernel
theorem d_M_fault_40 : decode b_M_fault 40 = .ok (.iconst 1, 1) := by decide +kernel
theorem d_M_fault_41 : decode b_M_fault 41 = .ok (.ireturn, 1) := by decide +kernel
theorem d_M_fault_42 : decode b_M_fault 42 = .ok (.iinc 3 1, 3) := by decide +kernel
theorem d_M_fault_45 : decode b_M_fault 45 = .ok (.goto (-26), 3) := by decide +kernel
theorem d_M_fault_48 : decode b_M_fault 48 = .ok (.aload_n 0, 1) := by decide +kernel
theorem d_M_fault_49 : decode b_M_fault 49 = .ok (.getfield 7, 3) := by decide +kernel
theorem d_M_fault_52 : decode b_M_fault 52 = .ok (.iload_n 2, 1) := by decide +kernel
theorem d_M_fault_53 : decode b_M_fault 53 = .ok (.bipush 8, 2) := by decide +kernel
theorem d_M_fault_55 : decode b_M_fault 55 = .ok (.iadd, 1) := by decide +kernel
theorem d_M_fault_56 : decode b_M_fault 56 = .ok (.iconst 4, 1) := by decide +kernel
theorem d_M_fault_57 : decode b_M_fault 57 = .ok (.invokestatic 53, 3) := by decide +kernel
theorem d_M_fault_60 : decode b_M_fault 60 = .ok (.ldc2_w 88, 3) := by decide +kernel
theorem d_M_fault_63 : decode b_M_fault 63 = .ok (.lcmp, 1) := by decide +kernel
theorem d_M_fault_64 : decode b_M_fault 64 = .ok (.ifCond .ne 39, 3) := by decide +kernel
theorem d_M_fault_67 : decode b_M_fault 67 = .ok (.aload_n 0, 1) := by decide +kernel
theorem d_M_fault_68 : decode b_M_fault 68 = .ok (.getfield 7, 3) := by decide +kernel
theorem d_M_fault_71 : decode b_M_fault 71 = .ok (.iload_n 2, 1) := by decide +kernel
theorem d_M_fault_72 : decode b_M_fault 72 = .ok (.bipush 12, 2) := by decide +kernel
theorem d_M_fault_74 : decode b_M_fault 74 = .ok (.iadd, 1) := by decide +kernel
theorem d_M_fault_75 : decode b_M_fault 75 = .ok (.iconst 4, 1) := by decide +kernel
theorem d_M_fault_76 : decode b_M_fault 76 = .ok (.invokestatic 53, 3) := by decide +kernel
theorem d_M_fault_79 : decode b_M_fault 79 = .ok (.ldc2_w 90, 3) := by decide +kernel
theorem d_M_fault_82 : decode b_M_fault 82 = .ok (.lcmp, 1) := by decide +kernel
theorem d_M_fault_83 : decode b_M_fault 83 = .ok (.ifCond .ne 20, 3) := by decide +kernel
theorem d_M_fault_86 : decode b_M_fault 86 = .ok (.aload_n 0, 1) := by decide +kernel
theorem d_M_fault_87 : decode b_M_fault 87 = .ok (.getfield 7, 3) := by decide +kernel
theorem d_M_fault_90 : decode b_M_fault 90 = .ok (.iload_n 2, 1) := by decide +kernel
theorem d_M_fault_91 : decode b_M_fault 91 = .ok (.bipush 20, 2) := by decide +kernel
theorem d_M_fault_93 : decode b_M_fault 93 = .ok (.iadd, 1) := by decide +kernel
theorem d_M_fault_94 : decode b_M_fault 94 = .ok (.iconst 4, 1) := by decide +kernel
theorem d_M_fault_95 : decode b_M_fault 95 = .ok (.invokestatic 53, 3) := by decide +kernel
theorem d_M_fault_98 : decode b_M_fault 98 = .ok (.lconst 0, 1) := by decide +kernel
theorem d_M_fault_99 : decode b_M_fault 99 = .ok (.lcmp, 1) := by decide +kernel
theorem d_M_fault_100 : decode b_M_fault 100 = .ok (.ifCond .eq 5, 3) := by decide +kernel
theorem d_M_fault_103 : decode b_M_fault 103 = .ok (.iconst 2, 1) := by decide +kernel
theorem d_M_fault_104 : decode b_M_fault 104 = .ok (.ireturn, 1) := by decide +kernel
theorem d_M_fault_105 : decode b_M_fault 105 = .ok (.aload_n 0, 1) := by decide +kernel
theorem d_M_fault_106 : decode b_M_fault 106 = .ok (.getfield 7, 3) := by decide +kernel
theorem d_M_fault_109 : decode b_M_fault 109 = .ok (.iload_n 2, 1) := by decide +kernel
theorem d_M_fault_110 : decode b_M_fault 110 = .ok (.bipush 16, 2) := by decide +kernel
theorem d_M_fault_112 : decode b_M_fault 112 = .ok (.iadd, 1) := by decide +kernel
theorem d_M_fault_113 : decode b_M_fault 113 = .ok (.iconst 4, 1) := by decide +kernel
theorem d_M_fault_114 : decode b_M_fault 114 = .ok (.invokestatic 53, 3) := by decide +kernel
theorem d_M_fault_117 : decode b_M_fault 117 = .ok (.l2i, 1) := by decide +kernel
theorem d_M_fault_118 : decode b_M_fault 118 = .ok (.aload_n 0, 1) := by decide +kernel
theorem d_M_fault_119 : decode b_M_fault 119 = .ok (.iload_n 2, 1) := by decide +kernel
theorem d_M_fault_120 : decode b_M_fault 120 = .ok (.bipush 92, 2) := by decide +kernel
theorem d_M_fault_122 : decode b_M_fault 122 = .ok (.iload_n 2, 1) := by decide +kernel
theorem d_M_fault_123 : decode b_M_fault 123 = .ok (.bipush 16, 2) := by decide +kernel
theorem d_M_fault_125 : decode b_M_fault 125 = .ok (.iadd, 1) := by decide +kernel
theorem d_M_fault_126 : decode b_M_fault 126 = .ok (.invokevirtual 42, 3) := by decide +kernel
theorem d_M_fault_129 : decode b_M_fault 129 = .ok (.if_icmp .eq 5, 3) := by decide +kernel
theorem d_M_fault_132 : decode b_M_fault 132 = .ok (.iconst 3, 1) := by decide +kernel
theorem d_M_fault_133 : decode b_M_fault 133 = .ok (.ireturn, 1) := by decide +kernel
theorem d_M_fault_134 : decode b_M_fault 134 = .ok (.aload_n 0, 1) := by decide +kernel
theorem d_M_fault_135 : decode b_M_fault 135 = .ok (.getfield 7, 3) := by decide +kernel
theorem d_M_fault_138 : decode b_M_fault 138 = .ok (.iload_n 2, 1) := by decide +kernel
theorem d_M_fault_139 : decode b_M_fault 139 = .ok (.bipush 24, 2) := by decide +kernel
theorem d_M_fault_141 : decode b_M_fault 141 = .ok (.iadd, 1) := by decide +kernel
theorem d_M_fault_142 : decode b_M_fault 142 = .ok (.bipush 8, 2) := by decide +kernel
theorem d_M_fault_144 : decode b_M_fault 144 = .ok (.invokestatic 53, 3) := by decide +kernel
theorem d_M_fault_147 : decode b_M_fault 147 = .ok (.aload_n 0, 1) := by decide +kernel
theorem d_M_fault_148 : decode b_M_fault 148 = .ok (.iload_n 1, 1) := by decide +kernel
theorem d_M_fault_149 : decode b_M_fault 149 = .ok (.invokevirtual 46, 3) := by decide +kernel
theorem d_M_fault_152 : decode b_M_fault 152 = .ok (.i2l, 1) := by decide +kernel
theorem d_M_fault_153 : decode b_M_fault 153 = .ok (.lcmp, 1) := by decide +kernel
theorem d_M_fault_154 : decode b_M_fault 154 = .ok (.ifCond .eq 5, 3) := by decide +kernel
theorem d_M_fault_157 : decode b_M_fault 157 = .ok (.iconst 4, 1) := by decide +kernel
theorem d_M_fault_158 : decode b_M_fault 158 = .ok (.ireturn, 1) := by decide +kernel
theorem d_M_fault_159 : decode b_M_fault 159 = .ok (.aload_n 0, 1) := by decide +kernel
theorem d_M_fault_160 : decode b_M_fault 160 = .ok (.getfield 7, 3) := by decide +kernel
theorem d_M_fault_163 : decode b_M_fault 163 = .ok (.iload_n 2, 1) := by decide +kernel
theorem d_M_fault_164 : decode b_M_fault 164 = .ok (.bipush 32, 2) := by decide +kernel
theorem d_M_fault_166 : decode b_M_fault 166 = .ok (.iadd, 1) := by decide +kernel
theorem d_M_fault_167 : decode b_M_fault 167 = .ok (.bipush 8, 2) := by decide +kernel
theorem d_M_fault_169 : decode b_M_fault 169 = .ok (.invokestatic 53, 3) := by decide +kernel
theorem d_M_fault_172 : decode b_M_fault 172 = .ok (.aload_n 0, 1) := by decide +kernel
theorem d_M_fault_173 : decode b_M_fault 173 = .ok (.iconst 1, 1) := by decide +kernel
theorem d_M_fault_174 : decode b_M_fault 174 = .ok (.iload_n 1, 1) := by decide +kernel
theorem d_M_fault_175 : decode b_M_fault 175 = .ok (.isub, 1) := by decide +kernel
theorem d_M_fault_176 : decode b_M_fault 176 = .ok (.invokevirtual 46, 3) := by decide +kernel
theorem d_M_fault_179 : decode b_M_fault 179 = .ok (.i2l, 1) := by decide +kernel
theorem d_M_fault_180 : decode b_M_fault 180 = .ok (.lcmp, 1) := by decide +kernel
theorem d_M_fault_181 : decode b_M_fault 181 = .ok (.ifCond .ne 112, 3) := by decide +kernel
theorem d_M_fault_184 : decode b_M_fault 184 = .ok (.aload_n 0, 1) := by decide +kernel
theorem d_M_fault_185 : decode b_M_fault 185 = .ok (.getfield 7, 3) := by decide +kernel
theorem d_M_fault_188 : decode b_M_fault 188 = .ok (.iload_n 2, 1) := by decide +kernel
theorem d_M_fault_189 : decode b_M_fault 189 = .ok (.bipush 40, 2) := by decide +kernel
theorem d_M_fault_191 : decode b_M_fault 191 = .ok (.iadd, 1) := by decide +kernel
theorem d_M_fault_192 : decode b_M_fault 192 = .ok (.bipush 8, 2) := by decide +kernel
theorem d_M_fault_194 : decode b_M_fault 194 = .ok (.invokestatic 53, 3) := by decide +kernel
theorem d_M_fault_197 : decode b_M_fault 197 = .ok (.ldc2_w 61, 3) := by decide +kernel
theorem d_M_fault_200 : decode b_M_fault 200 = .ok (.lcmp, 1) := by decide +kernel
theorem d_M_fault_201 : decode b_M_fault 201 = .ok (.ifCond .ne 92, 3) := by decide +kernel
theorem d_M_fault_204 : decode b_M_fault 204 = .ok (.aload_n 0, 1) := by decide +kernel
theorem d_M_fault_205 : decode b_M_fault 205 = .ok (.getfield 7, 3) := by decide +kernel
theorem d_M_fault_208 : decode b_M_fault 208 = .ok (.iload_n 2, 1) := by decide +kernel
theorem d_M_fault_209 : decode b_M_fault 209 = .ok (.bipush 48, 2) := by decide +kernel
theorem d_M_fault_211 : decode b_M_fault 211 = .ok (.iadd, 1) := by decide +kernel
theorem d_M_fault_212 : decode b_M_fault 212 = .ok (.bipush 8, 2) := by decide +kernel
theorem d_M_fault_214 : decode b_M_fault 214 = .ok (.invokestatic 53, 3) := by decide +kernel
theorem d_M_fault_217 : decode b_M_fault 217 = .ok (.aload_n 0, 1) := by decide +kernel
theorem d_M_fault_218 : decode b_M_fault 218 = .ok (.getfield 19, 3) := by decide +kernel
theorem d_M_fault_221 : decode b_M_fault 221 = .ok (.iconst 4, 1) := by decide +kernel
theorem d_M_fault_222 : decode b_M_fault 222 = .ok (.isub, 1) := by decide +kernel
theorem d_M_fault_223 : decode b_M_fault 223 = .ok (.i2l, 1) := by decide +kernel
theorem d_M_fault_224 : decode b_M_fault 224 = .ok (.lcmp, 1) := by decide +kernel
theorem d_M_fault_225 : decode b_M_fault 225 = .ok (.ifCond .ne 68, 3) := by decide +kernel
theorem d_M_fault_228 : decode b_M_fault 228 = .ok (.aload_n 0, 1) := by decide +kernel
theorem d_M_fault_229 : decode b_M_fault 229 = .ok (.getfield 7, 3) := by decide +kernel
theorem d_M_fault_232 : decode b_M_fault 232 = .ok (.iload_n 2, 1) := by decide +kernel
theorem d_M_fault_233 : decode b_M_fault 233 = .ok (.bipush 72, 2) := by decide +kernel
theorem d_M_fault_235 : decode b_M_fault 235 = .ok (.iadd, 1) := by decide +kernel
theorem d_M_fault_236 : decode b_M_fault 236 = .ok (.bipush 8, 2) := by decide +kernel
theorem d_M_fault_238 : decode b_M_fault 238 = .ok (.invokestatic 53, 3) := by decide +kernel
theorem d_M_fault_241 : decode b_M_fault 241 = .ok (.aload_n 0, 1) := by decide +kernel
theorem d_M_fault_242 : decode b_M_fault 242 = .ok (.iload_n 1, 1) := by decide +kernel
theorem d_M_fault_243 : decode b_M_fault 243 = .ok (.invokevirtual 50, 3) := by decide +kernel
theorem d_M_fault_246 : decode b_M_fault 246 = .ok (.i2l, 1) := by decide +kernel
theorem d_M_fault_247 : decode b_M_fault 247 = .ok (.lcmp, 1) := by decide +kernel
theorem d_M_fault_248 : decode b_M_fault 248 = .ok (.ifCond .ne 45, 3) := by decide +kernel
theorem d_M_fault_251 : decode b_M_fault 251 = .ok (.aload_n 0, 1) := by decide +kernel
theorem d_M_fault_252 : decode b_M_fault 252 = .ok (.getfield 7, 3) := by decide +kernel
theorem d_M_fault_255 : decode b_M_fault 255 = .ok (.iload_n 2, 1) := by decide +kernel
theorem d_M_fault_256 : decode b_M_fault 256 = .ok (.bipush 80, 2) := by decide +kernel
theorem d_M_fault_258 : decode b_M_fault 258 = .ok (.iadd, 1) := by decide +kernel
theorem d_M_fault_259 : decode b_M_fault 259 = .ok (.iconst 4, 1) := by decide +kernel
theorem d_M_fault_260 : decode b_M_fault 260 = .ok (.invokestatic 53, 3) := by decide +kernel
theorem d_M_fault_263 : decode b_M_fault 263 = .ok (.ldc2_w 92, 3) := by decide +kernel
theorem d_M_fault_266 : decode b_M_fault 266 = .ok (.lcmp, 1) := by decide +kernel
theorem d_M_fault_267 : decode b_M_fault 267 = .ok (.ifCond .ne 26, 3) := by decide +kernel
theorem d_M_fault_270 : decode b_M_fault 270 = .ok (.aload_n 0, 1) := by decide +kernel
theorem d_M_fault_271 : decode b_M_fault 271 = .ok (.getfield 7, 3) := by decide +kernel
theorem d_M_fault_274 : decode b_M_fault 274 = .ok (.iload_n 2, 1) := by decide +kernel
theorem d_M_fault_275 : decode b_M_fault 275 = .ok (.bipush 84, 2) := by decide +kernel
theorem d_M_fault_277 : decode b_M_fault 277 = .ok (.iadd, 1) := by decide +kernel
theorem d_M_fault_278 : decode b_M_fault 278 = .ok (.iconst 4, 1) := by decide +kernel
theorem d_M_fault_279 : decode b_M_fault 279 = .ok (.invokestatic 53, 3) := by decide +kernel
theorem d_M_fault_282 : decode b_M_fault 282 = .ok (.ldc2_w 94, 3) := by decide +kernel
theorem d_M_fault_285 : decode b_M_fault 285 = .ok (.lcmp, 1) := by decide +kernel
theorem d_M_fault_286 : decode b_M_fault 286 = .ok (.ifCond .ne 7, 3) := by decide +kernel
theorem d_M_fault_289 : decode b_M_fault 289 = .ok (.iconst 1, 1) := by decide +kernel
theorem d_M_fault_290 : decode b_M_fault 290 = .ok (.goto 4, 3) := by decide +kernel
theorem d_M_fault_293 : decode b_M_fault 293 = .ok (.iconst 0, 1) := by decide +kernel
theorem d_M_fault_294 : decode b_M_fault 294 = .ok (.istore_n 3, 1) := by decide +kernel
theorem d_M_fault_295 : decode b_M_fault 295 = .ok (.iload_n 3, 1) := by decide +kernel
theorem d_M_fault_296 : decode b_M_fault 296 = .ok (.ifCond .ne 5, 3) := by decide +kernel
theorem d_M_fault_299 : decode b_M_fault 299 = .ok (.iconst 5, 1) := by decide +kernel
theorem d_M_fault_300 : decode b_M_fault 300 = .ok (.ireturn, 1) := by decide +kernel
theorem d_M_fault_301 : decode b_M_fault 301 = .ok (.aload_n 0, 1) := by decide +kernel
theorem d_M_fault_302 : decode b_M_fault 302 = .ok (.getfield 7, 3) := by decide +kernel
theorem d_M_fault_305 : decode b_M_fault 305 = .ok (.iload_n 2, 1) := by decide +kernel
theorem d_M_fault_306 : decode b_M_fault 306 = .ok (.bipush 88, 2) := by decide +kernel
theorem d_M_fault_308 : decode b_M_fault 308 = .ok (.iadd, 1) := by decide +kernel
theorem d_M_fault_309 : decode b_M_fault 309 = .ok (.iconst 4, 1) := by decide +kernel
theorem d_M_fault_310 : decode b_M_fault 310 = .ok (.invokestatic 53, 3) := by decide +kernel
theorem d_M_fault_313 : decode b_M_fault 313 = .ok (.l2i, 1) := by decide +kernel
theorem d_M_fault_314 : decode b_M_fault 314 = .ok (.aload_n 0, 1) := by decide +kernel
theorem d_M_fault_315 : decode b_M_fault 315 = .ok (.aload_n 0, 1) := by decide +kernel
theorem d_M_fault_316 : decode b_M_fault 316 = .ok (.iload_n 1, 1) := by decide +kernel
theorem d_M_fault_317 : decode b_M_fault 317 = .ok (.invokevirtual 96, 3) := by decide +kernel
theorem d_M_fault_320 : decode b_M_fault 320 = .ok (.sipush 1024, 3) := by decide +kernel
theorem d_M_fault_323 : decode b_M_fault 323 = .ok (.iconst (-1), 1) := by decide +kernel
theorem d_M_fault_324 : decode b_M_fault 324 = .ok (.invokevirtual 42, 3) := by decide +kernel
theorem d_M_fault_327 : decode b_M_fault 327 = .ok (.if_icmp .eq 6, 3) := by decide +kernel
theorem d_M_fault_330 : decode b_M_fault 330 = .ok (.bipush 6, 2) := by decide +kernel
theorem d_M_fault_332 : decode b_M_fault 332 = .ok (.ireturn, 1) := by decide +kernel
theorem d_M_fault_333 : decode b_M_fault 333 = .ok (.aload_n 0, 1) := by decide +kernel
theorem d_M_fault_334 : decode b_M_fault 334 = .ok (.aload_n 0, 1) := by decide +kernel
theorem d_M_fault_335 : decode b_M_fault 335 = .ok (.iload_n 1, 1) := by decide +kernel
theorem d_M_fault_336 : decode b_M_fault 336 = .ok (.invokevirtual 96, 3) := by decide +kernel
theorem d_M_fault_339 : decode b_M_fault 339 = .ok (.invokevirtual 99, 3) := by decide +kernel
theorem d_M_fault_342 : decode b_M_fault 342 = .ok (.ifCond .eq 8, 3) := by decide +kernel
theorem d_M_fault_345 : decode b_M_fault 345 = .ok (.bipush 7, 2) := by decide +kernel
theorem d_M_fault_347 : decode b_M_fault 347 = .ok (.goto 4, 3) := by decide +kernel
theorem d_M_fault_350 : decode b_M_fault 350 = .ok (.iconst 0, 1) := by decide +kernel
theorem d_M_fault_351 : decode b_M_fault 351 = .ok (.ireturn, 1) := by decide +kernel
theorem d_M_source_0 : decode b_M_source 0 = .ok (.aload_n 0, 1) := by decide +kernel
theorem d_M_source_1 : decode b_M_source 1 = .ok (.iconst 0, 1) := by decide +kernel
theorem d_M_source_2 : decode b_M_source 2 = .ok (.invokevirtual 103, 3) := by decide +kernel
theorem d_M_source_5 : decode b_M_source 5 = .ok (.ifCond .ne 7, 3) := by decide +kernel
theorem d_M_source_8 : decode b_M_source 8 = .ok (.iconst 0, 1) := by decide +kernel
theorem d_M_source_9 : decode b_M_source 9 = .ok (.goto 16, 3) := by decide +kernel
theorem d_M_source_12 : decode b_M_source 12 = .ok (.aload_n 0, 1) := by decide +kernel
theorem d_M_source_13 : decode b_M_source 13 = .ok (.iconst 1, 1) := by decide +kernel
theorem d_M_source_14 : decode b_M_source 14 = .ok (.invokevirtual 103, 3) := by decide +kernel
theorem d_M_source_17 : decode b_M_source 17 = .ok (.ifCond .ne 7, 3) := by decide +kernel
theorem d_M_source_20 : decode b_M_source 20 = .ok (.iconst 1, 1) := by decide +kernel
theorem d_M_source_21 : decode b_M_source 21 = .ok (.goto 4, 3) := by decide +kernel
theorem d_M_source_24 : decode b_M_source 24 = .ok (.iconst (-1), 1) := by decide +kernel
theorem d_M_source_25 : decode b_M_source 25 = .ok (.ireturn, 1) := by decide +kernel
theorem d_M_take_0 : decode b_M_take 0 = .ok (.aload_n 0, 1) := by decide +kernel
theorem d_M_take_1 : decode b_M_take 1 = .ok (.invokevirtual 106, 3) := by decide +kernel
theorem d_M_take_4 : decode b_M_take 4 = .ok (.istore_n 1, 1) := by decide +kernel
theorem d_M_take_5 : decode b_M_take 5 = .ok (.iload_n 1, 1) := by decide +kernel
theorem d_M_take_6 : decode b_M_take 6 = .ok (.iconst (-1), 1) := by decide +kernel
theorem d_M_take_7 : decode b_M_take 7 = .ok (.if_icmp .ne 5, 3) := by decide +kernel
theorem d_M_take_10 : decode b_M_take 10 = .ok (.iconst 0, 1) := by decide +kernel
theorem d_M_take_11 : decode b_M_take 11 = .ok (.ireturn, 1) := by decide +kernel
theorem d_M_take_12 : decode b_M_take 12 = .ok (.iconst 0, 1) := by decide +kernel
theorem d_M_take_13 : decode b_M_take 13 = .ok (.istore_n 2, 1) := by decide +kernel
theorem d_M_take_14 : decode b_M_take 14 = .ok (.iload_n 2, 1) := by decide +kernel
theorem d_M_take_15 : decode b_M_take 15 = .ok (.sipush 1024, 3) := by decide +kernel
theorem d_M_take_18 : decode b_M_take 18 = .ok (.if_icmp .ge 27, 3) := by decide +kernel
theorem d_M_take_21 : decode b_M_take 21 = .ok (.aload_n 0, 1) := by decide +kernel
theorem d_M_take_22 : decode b_M_take 22 = .ok (.getfield 13, 3) := by decide +kernel
theorem d_M_take_25 : decode b_M_take 25 = .ok (.iload_n 2, 1) := by decide +kernel
theorem d_M_take_26 : decode b_M_take 26 = .ok (.aload_n 0, 1) := by decide +kernel
theorem d_M_take_27 : decode b_M_take 27 = .ok (.getfield 7, 3) := by decide +kernel
theorem d_M_take_30 : decode b_M_take 30 = .ok (.aload_n 0, 1) := by decide +kernel
theorem d_M_take_31 : decode b_M_take 31 = .ok (.iload_n 1, 1) := by decide +kernel
