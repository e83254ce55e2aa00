theorem d_T_init_0 : decode b_T_init 0 = .ok (.aload_n 0, 1) := by decide +kernel
theorem d_T_init_1 : decode b_T_init 1 = .ok (.invokespecial 1, 3) := by decide +kernel
theorem d_T_init_4 : decode b_T_init 4 = .ok (.aload_n 0, 1) := by decide +kernel
theorem d_T_init_5 : decode b_T_init 5 = .ok (.iload_n 1, 1) := by decide +kernel
theorem d_T_init_6 : decode b_T_init 6 = .ok (.bipush 12, 2) := by decide +kernel
theorem d_T_init_8 : decode b_T_init 8 = .ok (.if_icmp .lt 9, 3) := by decide +kernel
theorem d_T_init_11 : decode b_T_init 11 = .ok (.iload_n 1, 1) := by decide +kernel
theorem d_T_init_12 : decode b_T_init 12 = .ok (.bipush 24, 2) := by decide +kernel
theorem d_T_init_14 : decode b_T_init 14 = .ok (.if_icmp .le 8, 3) := by decide +kernel
theorem d_T_init_17 : decode b_T_init 17 = .ok (.bipush 16, 2) := by decide +kernel
theorem d_T_init_19 : decode b_T_init 19 = .ok (.goto 4, 3) := by decide +kernel
theorem d_T_init_22 : decode b_T_init 22 = .ok (.iload_n 1, 1) := by decide +kernel
theorem d_T_init_23 : decode b_T_init 23 = .ok (.putfield 9, 3) := by decide +kernel
theorem d_T_init_26 : decode b_T_init 26 = .ok (.aload_n 0, 1) := by decide +kernel
theorem d_T_init_27 : decode b_T_init 27 = .ok (.new 13, 3) := by decide +kernel
theorem d_T_init_30 : decode b_T_init 30 = .ok (.dup, 1) := by decide +kernel
theorem d_T_init_31 : decode b_T_init 31 = .ok (.aload_n 0, 1) := by decide +kernel
theorem d_T_init_32 : decode b_T_init 32 = .ok (.getfield 9, 3) := by decide +kernel
theorem d_T_init_35 : decode b_T_init 35 = .ok (.sipush 512, 3) := by decide +kernel
theorem d_T_init_38 : decode b_T_init 38 = .ok (.imul, 1) := by decide +kernel
theorem d_T_init_39 : decode b_T_init 39 = .ok (.invokespecial 15, 3) := by decide +kernel
theorem d_T_init_42 : decode b_T_init 42 = .ok (.putfield 18, 3) := by decide +kernel
theorem d_T_init_45 : decode b_T_init 45 = .ok (.aload_n 0, 1) := by decide +kernel
theorem d_T_init_46 : decode b_T_init 46 = .ok (.new 22, 3) := by decide +kernel
theorem d_T_init_49 : decode b_T_init 49 = .ok (.dup, 1) := by decide +kernel
theorem d_T_init_50 : decode b_T_init 50 = .ok (.aload_n 0, 1) := by decide +kernel
theorem d_T_init_51 : decode b_T_init 51 = .ok (.getfield 18, 3) := by decide +kernel
theorem d_T_init_54 : decode b_T_init 54 = .ok (.aload_n 0, 1) := by decide +kernel
theorem d_T_init_55 : decode b_T_init 55 = .ok (.getfield 9, 3) := by decide +kernel
theorem d_T_init_58 : decode b_T_init 58 = .ok (.iconst 0, 1) := by decide +kernel
theorem d_T_init_59 : decode b_T_init 59 = .ok (.invokespecial 24, 3) := by decide +kernel
theorem d_T_init_62 : decode b_T_init 62 = .ok (.putfield 27, 3) := by decide +kernel
theorem d_T_init_65 : decode b_T_init 65 = .ok (.aload_n 0, 1) := by decide +kernel
theorem d_T_init_66 : decode b_T_init 66 = .ok (.new 22, 3) := by decide +kernel
theorem d_T_init_69 : decode b_T_init 69 = .ok (.dup, 1) := by decide +kernel
theorem d_T_init_70 : decode b_T_init 70 = .ok (.aload_n 0, 1) := by decide +kernel
theorem d_T_init_71 : decode b_T_init 71 = .ok (.getfield 18, 3) := by decide +kernel
theorem d_T_init_74 : decode b_T_init 74 = .ok (.aload_n 0, 1) := by decide +kernel
theorem d_T_init_75 : decode b_T_init 75 = .ok (.getfield 9, 3) := by decide +kernel
theorem d_T_init_78 : decode b_T_init 78 = .ok (.iconst 1, 1) := by decide +kernel
theorem d_T_init_79 : decode b_T_init 79 = .ok (.invokespecial 24, 3) := by decide +kernel
theorem d_T_init_82 : decode b_T_init 82 = .ok (.putfield 31, 3) := by decide +kernel
theorem d_T_init_85 : decode b_T_init 85 = .ok (.return_, 1) := by decide +kernel
theorem d_T_blocks_0 : decode b_T_blocks 0 = .ok (.aload_n 0, 1) := by decide +kernel
theorem d_T_blocks_1 : decode b_T_blocks 1 = .ok (.getfield 9, 3) := by decide +kernel
theorem d_T_blocks_4 : decode b_T_blocks 4 = .ok (.ireturn, 1) := by decide +kernel
theorem d_T_peek_0 : decode b_T_peek 0 = .ok (.aload_n 0, 1) := by decide +kernel
theorem d_T_peek_1 : decode b_T_peek 1 = .ok (.iload_n 1, 1) := by decide +kernel
theorem d_T_peek_2 : decode b_T_peek 2 = .ok (.iload_n 2, 1) := by decide +kernel
theorem d_T_peek_3 : decode b_T_peek 3 = .ok (.invokevirtual 34, 3) := by decide +kernel
theorem d_T_peek_6 : decode b_T_peek 6 = .ok (.ifCond .eq 20, 3) := by decide +kernel
theorem d_T_peek_9 : decode b_T_peek 9 = .ok (.aload_n 0, 1) := by decide +kernel
theorem d_T_peek_10 : decode b_T_peek 10 = .ok (.getfield 18, 3) := by decide +kernel
theorem d_T_peek_13 : decode b_T_peek 13 = .ok (.iload_n 1, 1) := by decide +kernel
theorem d_T_peek_14 : decode b_T_peek 14 = .ok (.sipush 512, 3) := by decide +kernel
theorem d_T_peek_17 : decode b_T_peek 17 = .ok (.imul, 1) := by decide +kernel
theorem d_T_peek_18 : decode b_T_peek 18 = .ok (.iload_n 2, 1) := by decide +kernel
theorem d_T_peek_19 : decode b_T_peek 19 = .ok (.iadd, 1) := by decide +kernel
theorem d_T_peek_20 : decode b_T_peek 20 = .ok (.invokevirtual 38, 3) := by decide +kernel
theorem d_T_peek_23 : decode b_T_peek 23 = .ok (.goto 4, 3) := by decide +kernel
theorem d_T_peek_26 : decode b_T_peek 26 = .ok (.iconst (-1), 1) := by decide +kernel
theorem d_T_peek_27 : decode b_T_peek 27 = .ok (.ireturn, 1) := by decide +kernel
theorem d_T_poke_0 : decode b_T_poke 0 = .ok (.aload_n 0, 1) := by decide +kernel
theorem d_T_poke_1 : decode b_T_poke 1 = .ok (.iload_n 1, 1) := by decide +kernel
theorem d_T_poke_2 : decode b_T_poke 2 = .ok (.iload_n 2, 1) := by decide +kernel
theorem d_T_poke_3 : decode b_T_poke 3 = .ok (.invokevirtual 34, 3) := by decide +kernel
theorem d_T_poke_6 : decode b_T_poke 6 = .ok (.ifCond .ne 5, 3) := by decide +kernel
theorem d_T_poke_9 : decode b_T_poke 9 = .ok (.iconst 0, 1) := by decide +kernel
theorem d_T_poke_10 : decode b_T_poke 10 = .ok (.ireturn, 1) := by decide +kernel
theorem d_T_poke_11 : decode b_T_poke 11 = .ok (.aload_n 0, 1) := by decide +kernel
theorem d_T_poke_12 : decode b_T_poke 12 = .ok (.getfield 18, 3) := by decide +kernel
theorem d_T_poke_15 : decode b_T_poke 15 = .ok (.iload_n 1, 1) := by decide +kernel
theorem d_T_poke_16 : decode b_T_poke 16 = .ok (.sipush 512, 3) := by decide +kernel
theorem d_T_poke_19 : decode b_T_poke 19 = .ok (.imul, 1) := by decide +kernel
theorem d_T_poke_20 : decode b_T_poke 20 = .ok (.iload_n 2, 1) := by decide +kernel
theorem d_T_poke_21 : decode b_T_poke 21 = .ok (.iadd, 1) := by decide +kernel
theorem d_T_poke_22 : decode b_T_poke 22 = .ok (.iconst 1, 1) := by decide +kernel
theorem d_T_poke_23 : decode b_T_poke 23 = .ok (.iload_n 3, 1) := by decide +kernel
theorem d_T_poke_24 : decode b_T_poke 24 = .ok (.i2l, 1) := by decide +kernel
theorem d_T_poke_25 : decode b_T_poke 25 = .ok (.invokevirtual 42, 3) := by decide +kernel
theorem d_T_poke_28 : decode b_T_poke 28 = .ok (.iconst 1, 1) := by decide +kernel
theorem d_T_poke_29 : decode b_T_poke 29 = .ok (.ireturn, 1) := by decide +kernel
theorem d_T_format_0 : decode b_T_format 0 = .ok (.aload_n 0, 1) := by decide +kernel
theorem d_T_format_1 : decode b_T_format 1 = .ok (.invokevirtual 46, 3) := by decide +kernel
theorem d_T_format_4 : decode b_T_format 4 = .ok (.aload_n 0, 1) := by decide +kernel
theorem d_T_format_5 : decode b_T_format 5 = .ok (.getfield 27, 3) := by decide +kernel
theorem d_T_format_8 : decode b_T_format 8 = .ok (.invokevirtual 49, 3) := by decide +kernel
theorem d_T_format_11 : decode b_T_format 11 = .ok (.aload_n 0, 1) := by decide +kernel
theorem d_T_format_12 : decode b_T_format 12 = .ok (.getfield 27, 3) := by decide +kernel
theorem d_T_format_15 : decode b_T_format 15 = .ok (.lload_n 1, 1) := by decide +kernel
theorem d_T_format_16 : decode b_T_format 16 = .ok (.invokevirtual 52, 3) := by decide +kernel
theorem d_T_format_19 : decode b_T_format 19 = .ok (.aload_n 0, 1) := by decide +kernel
theorem d_T_format_20 : decode b_T_format 20 = .ok (.aload_n 0, 1) := by decide +kernel
theorem d_T_format_21 : decode b_T_format 21 = .ok (.getfield 27, 3) := by decide +kernel
theorem d_T_format_24 : decode b_T_format 24 = .ok (.invokevirtual 56, 3) := by decide +kernel
theorem d_T_format_27 : decode b_T_format 27 = .ok (.return_, 1) := by decide +kernel
theorem d_T_seal_0 : decode b_T_seal 0 = .ok (.aload_n 0, 1) := by decide +kernel
theorem d_T_seal_1 : decode b_T_seal 1 = .ok (.iload_n 1, 1) := by decide +kernel
theorem d_T_seal_2 : decode b_T_seal 2 = .ok (.invokevirtual 60, 3) := by decide +kernel
theorem d_T_seal_5 : decode b_T_seal 5 = .ok (.astore_n 2, 1) := by decide +kernel
theorem d_T_seal_6 : decode b_T_seal 6 = .ok (.aload_n 2, 1) := by decide +kernel
theorem d_T_seal_7 : decode b_T_seal 7 = .ok (.ifnonnull 5, 3) := by decide +kernel
theorem d_T_seal_10 : decode b_T_seal 10 = .ok (.iconst 0, 1) := by decide +kernel
theorem d_T_seal_11 : decode b_T_seal 11 = .ok (.ireturn, 1) := by decide +kernel
theorem d_T_seal_12 : decode b_T_seal 12 = .ok (.aload_n 2, 1) := by decide +kernel
theorem d_T_seal_13 : decode b_T_seal 13 = .ok (.invokevirtual 64, 3) := by decide +kernel
theorem d_T_seal_16 : decode b_T_seal 16 = .ok (.iconst 1, 1) := by decide +kernel
theorem d_T_seal_17 : decode b_T_seal 17 = .ok (.ireturn, 1) := by decide +kernel
theorem d_T_guard_0 : decode b_T_guard 0 = .ok (.aload_n 0, 1) := by decide +kernel
theorem d_T_guard_1 : decode b_T_guard 1 = .ok (.getfield 18, 3) := by decide +kernel
theorem d_T_guard_4 : decode b_T_guard 4 = .ok (.sipush 510, 3) := by decide +kernel
theorem d_T_guard_7 : decode b_T_guard 7 = .ok (.invokevirtual 38, 3) := by decide +kernel
theorem d_T_guard_10 : decode b_T_guard 10 = .ok (.bipush 85, 2) := by decide +kernel
theorem d_T_guard_12 : decode b_T_guard 12 = .ok (.if_icmp .ne 92, 3) := by decide +kernel
theorem d_T_guard_15 : decode b_T_guard 15 = .ok (.aload_n 0, 1) := by decide +kernel
theorem d_T_guard_16 : decode b_T_guard 16 = .ok (.getfield 18, 3) := by decide +kernel
theorem d_T_guard_19 : decode b_T_guard 19 = .ok (.sipush 511, 3) := by decide +kernel
theorem d_T_guard_22 : decode b_T_guard 22 = .ok (.invokevirtual 38, 3) := by decide +kernel
theorem d_T_guard_25 : decode b_T_guard 25 = .ok (.sipush 170, 3) := by decide +kernel
theorem d_T_guard_28 : decode b_T_guard 28 = .ok (.if_icmp .ne 76, 3) := by decide +kernel
theorem d_T_guard_31 : decode b_T_guard 31 = .ok (.aload_n 0, 1) := by decide +kernel
theorem d_T_guard_32 : decode b_T_guard 32 = .ok (.getfield 18, 3) := by decide +kernel
theorem d_T_guard_35 : decode b_T_guard 35 = .ok (.sipush 450, 3) := by decide +kernel
theorem d_T_guard_38 : decode b_T_guard 38 = .ok (.invokevirtual 38, 3) := by decide +kernel
theorem d_T_guard_41 : decode b_T_guard 41 = .ok (.sipush 238, 3) := by decide +kernel
theorem d_T_guard_44 : decode b_T_guard 44 = .ok (.if_icmp .ne 60, 3) := by decide +kernel
theorem d_T_guard_47 : decode b_T_guard 47 = .ok (.aload_n 0, 1) := by decide +kernel
theorem d_T_guard_48 : decode b_T_guard 48 = .ok (.getfield 18, 3) := by decide +kernel
theorem d_T_guard_51 : decode b_T_guard 51 = .ok (.sipush 454, 3) := by decide +kernel
theorem d_T_guard_54 : decode b_T_guard 54 = .ok (.iconst 4, 1) := by decide +kernel
theorem d_T_guard_55 : decode b_T_guard 55 = .ok (.invokevirtual 69, 3) := by decide +kernel
theorem d_T_guard_58 : decode b_T_guard 58 = .ok (.lconst 1, 1) := by decide +kernel
theorem d_T_guard_59 : decode b_T_guard 59 = .ok (.lcmp, 1) := by decide +kernel
theorem d_T_guard_60 : decode b_T_guard 60 = .ok (.ifCond .ne 44, 3) := by decide +kernel
theorem d_T_guard_63 : decode b_T_guard 63 = .ok (.aload_n 0, 1) := by decide +kernel
theorem d_T_guard_64 : decode b_T_guard 64 = .ok (.getfield 18, 3) := by decide +kernel
theorem d_T_guard_67 : decode b_T_guard 67 = .ok (.sipush 458, 3) := by decide +kernel
theorem d_T_guard_70 : decode b_T_guard 70 = .ok (.iconst 4, 1) := by decide +kernel
theorem d_T_guard_71 : decode b_T_guard 71 = .ok (.invokevirtual 69, 3) := by decide +kernel
theorem d_T_guard_74 : decode b_T_guard 74 = .ok (.aload_n 0, 1) := by decide +kernel
theorem d_T_guard_75 : decode b_T_guard 75 = .ok (.getfield 9, 3) := by decide +kernel
theorem d_T_guard_78 : decode b_T_guard 78 = .ok (.iconst 1, 1) := by decide +kernel
theorem d_T_guard_79 : decode b_T_guard 79 = .ok (.isub, 1) := by decide +kernel
theorem d_T_guard_80 : decode b_T_guard 80 = .ok (.i2l, 1) := by decide +kernel
theorem d_T_guard_81 : decode b_T_guard 81 = .ok (.lcmp, 1) := by decide +kernel
theorem d_T_guard_82 : decode b_T_guard 82 = .ok (.ifCond .ne 22, 3) := by decide +kernel
theorem d_T_guard_85 : decode b_T_guard 85 = .ok (.aload_n 0, 1) := by decide +kernel
theorem d_T_guard_86 : decode b_T_guard 86 = .ok (.getfield 18, 3) := by decide +kernel
theorem d_T_guard_89 : decode b_T_guard 89 = .ok (.sipush 462, 3) := by decide +kernel
theorem d_T_guard_92 : decode b_T_guard 92 = .ok (.bipush 48, 2) := by decide +kernel
theorem d_T_guard_94 : decode b_T_guard 94 = .ok (.invokevirtual 73, 3) := by decide +kernel
theorem d_T_guard_97 : decode b_T_guard 97 = .ok (.ifCond .eq 7, 3) := by decide +kernel
theorem d_T_guard_100 : decode b_T_guard 100 = .ok (.iconst 1, 1) := by decide +kernel
theorem d_T_guard_101 : decode b_T_guard 101 = .ok (.goto 4, 3) := by decide +kernel
theorem d_T_guard_104 : decode b_T_guard 104 = .ok (.iconst 0, 1) := by decide +kernel
theorem d_T_guard_105 : decode b_T_guard 105 = .ok (.ireturn, 1) := by decide +kernel
theorem d_T_fault_0 : decode b_T_fault 0 = .ok (.aload_n 0, 1) := by decide +kernel
theorem d_T_fault_1 : decode b_T_fault 1 = .ok (.iload_n 1, 1) := by decide +kernel
theorem d_T_fault_2 : decode b_T_fault 2 = .ok (.invokevirtual 60, 3) := by decide +kernel
theorem d_T_fault_5 : decode b_T_fault 5 = .ok (.astore_n 2, 1) := by decide +kernel
theorem d_T_fault_6 : decode b_T_fault 6 = .ok (.aload_n 2, 1) := by decide +kernel
theorem d_T_fault_7 : decode b_T_fault 7 = .ok (.ifnonnull 7, 3) := by decide +kernel
theorem d_T_fault_10 : decode b_T_fault 10 = .ok (.iconst (-1), 1) := by decide +kernel
theorem d_T_fault_11 : decode b_T_fault 11 = .ok (.goto 7, 3) := by decide +kernel
theorem d_T_fault_14 : decode b_T_fault 14 = .ok (.aload_n 2, 1) := by decide +kernel
theorem d_T_fault_15 : decode b_T_fault 15 = .ok (.invokevirtual 76, 3) := by decide +kernel
theorem d_T_fault_18 : decode b_T_fault 18 = .ok (.ireturn, 1) := by decide +kernel
theorem d_T_source_0 : decode b_T_source 0 = .ok (.aload_n 0, 1) := by decide +kernel
theorem d_T_source_1 : decode b_T_source 1 = .ok (.invokevirtual 80, 3) := by decide +kernel
theorem d_T_source_4 : decode b_T_source 4 = .ok (.astore_n 1, 1) := by decide +kernel
theorem d_T_source_5 : decode b_T_source 5 = .ok (.aload_n 1, 1) := by decide +kernel
theorem d_T_source_6 : decode b_T_source 6 = .ok (.ifnonnull 7, 3) := by decide +kernel
theorem d_T_source_9 : decode b_T_source 9 = .ok (.iconst (-1), 1) := by decide +kernel
theorem d_T_source_10 : decode b_T_source 10 = .ok (.goto 7, 3) := by decide +kernel
theorem d_T_source_13 : decode b_T_source 13 = .ok (.aload_n 1, 1) := by decide +kernel
theorem d_T_source_14 : decode b_T_source 14 = .ok (.getfield 84, 3) := by decide +kernel
theorem d_T_source_17 : decode b_T_source 17 = .ok (.ireturn, 1) := by decide +kernel
theorem d_T_make_0 : decode b_T_make 0 = .ok (.aload_n 0, 1) := by decide +kernel
theorem d_T_make_1 : decode b_T_make 1 = .ok (.invokevirtual 80, 3) := by decide +kernel
theorem d_T_make_4 : decode b_T_make 4 = .ok (.astore 9, 2) := by decide +kernel
theorem d_T_make_6 : decode b_T_make 6 = .ok (.aload 9, 2) := by decide +kernel
theorem d_T_make_8 : decode b_T_make 8 = .ok (.ifnonnull 5, 3) := by decide +kernel
theorem d_T_make_11 : decode b_T_make 11 = .ok (.iconst (-1), 1) := by decide +kernel
theorem d_T_make_12 : decode b_T_make 12 = .ok (.ireturn, 1) := by decide +kernel
theorem d_T_make_13 : decode b_T_make 13 = .ok (.lload_n 3, 1) := by decide +kernel
theorem d_T_make_14 : decode b_T_make 14 = .ok (.lconst 0, 1) := by decide +kernel
theorem d_T_make_15 : decode b_T_make 15 = .ok (.lcmp, 1) := by decide +kernel
theorem d_T_make_16 : decode b_T_make 16 = .ok (.ifCond .ne 6, 3) := by decide +kernel
theorem d_T_make_19 : decode b_T_make 19 = .ok (.bipush (-2), 2) := by decide +kernel
theorem d_T_make_21 : decode b_T_make 21 = .ok (.ireturn, 1) := by decide +kernel
theorem d_T_make_22 : decode b_T_make 22 = .ok (.aload 9, 2) := by decide +kernel
theorem d_T_make_24 : decode b_T_make 24 = .ok (.iload_n 1, 1) := by decide +kernel
theorem d_T_make_25 : decode b_T_make 25 = .ok (.i2l, 1) := by decide +kernel
theorem d_T_make_26 : decode b_T_make 26 = .ok (.iload_n 2, 1) := by decide +kernel
theorem d_T_make_27 : decode b_T_make 27 = .ok (.i2l, 1) := by decide +kernel
theorem d_T_make_28 : decode b_T_make 28 = .ok (.invokevirtual 87, 3) := by decide +kernel
theorem d_T_make_31 : decode b_T_make 31 = .ok (.ifCond .ne 6, 3) := by decide +kernel
theorem d_T_make_34 : decode b_T_make 34 = .ok (.bipush (-3), 2) := by decide +kernel
theorem d_T_make_36 : decode b_T_make 36 = .ok (.ireturn, 1) := by decide +kernel
theorem d_T_make_37 : decode b_T_make 37 = .ok (.aload 9, 2) := by decide +kernel
theorem d_T_make_39 : decode b_T_make 39 = .ok (.iload_n 1, 1) := by decide +kernel
theorem d_T_make_40 : decode b_T_make 40 = .ok (.i2l, 1) := by decide +kernel
theorem d_T_make_41 : decode b_T_make 41 = .ok (.iload_n 2, 1) := by decide +kernel
theorem d_T_make_42 : decode b_T_make 42 = .ok (.i2l, 1) := by decide +kernel
theorem d_T_make_43 : decode b_T_make 43 = .ok (.iconst (-1), 1) := by decide +kernel
theorem d_T_make_44 : decode b_T_make 44 = .ok (.invokevirtual 91, 3) := by decide +kernel
theorem d_T_make_47 : decode b_T_make 47 = .ok (.ifCond .eq 6, 3) := by decide +kernel
theorem d_T_make_50 : decode b_T_make 50 = .ok (.bipush (-4), 2) := by decide +kernel
theorem d_T_make_52 : decode b_T_make 52 = .ok (.ireturn, 1) := by decide +kernel
theorem d_T_make_53 : decode b_T_make 53 = .ok (.aload 9, 2) := by decide +kernel
theorem d_T_make_55 : decode b_T_make 55 = .ok (.lload 5, 2) := by decide +kernel
theorem d_T_make_57 : decode b_T_make 57 = .ok (.lload 5, 2) := by decide +kernel
theorem d_T_make_59 : decode b_T_make 59 = .ok (.invokestatic 95, 3) := by decide +kernel
theorem d_T_make_62 : decode b_T_make 62 = .ok (.invokevirtual 99, 3) := by decide +kernel
theorem d_T_make_65 : decode b_T_make 65 = .ok (.ifCond .eq 6, 3) := by decide +kernel
theorem d_T_make_68 : decode b_T_make 68 = .ok (.bipush (-5), 2) := by decide +kernel
theorem d_T_make_70 : decode b_T_make 70 = .ok (.ireturn, 1) := by decide +kernel
theorem d_T_make_71 : decode b_T_make 71 = .ok (.aload 9, 2) := by decide +kernel
theorem d_T_make_73 : decode b_T_make 73 = .ok (.invokevirtual 102, 3) := by decide +kernel
theorem d_T_make_76 : decode b_T_make 76 = .ok (.istore 10, 2) := by decide +kernel
theorem d_T_make_78 : decode b_T_make 78 = .ok (.iload 10, 2) := by decide +kernel
theorem d_T_make_80 : decode b_T_make 80 = .ok (.iconst (-1), 1) := by decide +kernel
theorem d_T_make_81 : decode b_T_make 81 = .ok (.if_icmp .ne 6, 3) := by decide +kernel
theorem d_T_make_84 : decode b_T_make 84 = .ok (.bipush (-6), 2) := by decide +kernel
theorem d_T_make_86 : decode b_T_make 86 = .ok (.ireturn, 1) := by decide +kernel
theorem d_T_make_87 : decode b_T_make 87 = .ok (.aload 9, 2) := by decide +kernel
theorem d_T_make_89 : decode b_T_make 89 = .ok (.iload 10, 2) := by decide +kernel
theorem d_T_make_91 : decode b_T_make 91 = .ok (.invokevirtual 105, 3) := by decide +kernel
theorem d_T_make_94 : decode b_T_make 94 = .ok (.aload 9, 2) := by decide +kernel
theorem d_T_make_96 : decode b_T_make 96 = .ok (.iload 10, 2) := by decide +kernel
theorem d_T_make_98 : decode b_T_make 98 = .ok (.iconst 0, 1) := by decide +kernel
theorem d_T_make_99 : decode b_T_make 99 = .ok (.lload_n 3, 1) := by decide +kernel
theorem d_T_make_100 : decode b_T_make 100 = .ok (.invokevirtual 110, 3) := by decide +kernel
theorem d_T_make_103 : decode b_T_make 103 = .ok (.aload 9, 2) := by decide +kernel
theorem d_T_make_105 : decode b_T_make 105 = .ok (.iload 10, 2) := by decide +kernel
theorem d_T_make_107 : decode b_T_make 107 = .ok (.bipush 16, 2) := by decide +kernel
theorem d_T_make_109 : decode b_T_make 109 = .ok (.lload 5, 2) := by decide +kernel
theorem d_T_make_111 : decode b_T_make 111 = .ok (.invokevirtual 110, 3) := by decide +kernel
theorem d_T_make_114 : decode b_T_make 114 = .ok (.aload 9, 2) := by decide +kernel
theorem d_T_make_116 : decode b_T_make 116 = .ok (.iload 10, 2) := by decide +kernel
theorem d_T_make_118 : decode b_T_make 118 = .ok (.iload_n 1, 1) := by decide +kernel
theorem d_T_make_119 : decode b_T_make 119 = .ok (.iload_n 2, 1) := by decide +kernel
theorem d_T_make_120 : decode b_T_make 120 = .ok (.invokevirtual 113, 3) := by decide +kernel
theorem d_T_make_123 : decode b_T_make 123 = .ok (.aload 9, 2) := by decide +kernel
theorem d_T_make_125 : decode b_T_make 125 = .ok (.iload 10, 2) := by decide +kernel
theorem d_T_make_127 : decode b_T_make 127 = .ok (.bipush 48, 2) := by decide +kernel
theorem d_T_make_129 : decode b_T_make 129 = .ok (.lload 7, 2) := by decide +kernel
theorem d_T_make_131 : decode b_T_make 131 = .ok (.invokevirtual 117, 3) := by decide +kernel
theorem d_T_make_134 : decode b_T_make 134 = .ok (.aload_n 0, 1) := by decide +kernel
theorem d_T_make_135 : decode b_T_make 135 = .ok (.aload 9, 2) := by decide +kernel
theorem d_T_make_137 : decode b_T_make 137 = .ok (.invokevirtual 56, 3) := by decide +kernel
theorem d_T_make_140 : decode b_T_make 140 = .ok (.iload 10, 2) := by decide +kernel
theorem d_T_make_142 : decode b_T_make 142 = .ok (.ireturn, 1) := by decide +kernel
theorem d_T_remove_0 : decode b_T_remove 0 = .ok (.aload_n 0, 1) := by decide +kernel
theorem d_T_remove_1 : decode b_T_remove 1 = .ok (.invokevirtual 80, 3) := by decide +kernel
theorem d_T_remove_4 : decode b_T_remove 4 = .ok (.astore_n 2, 1) := by decide +kernel
theorem d_T_remove_5 : decode b_T_remove 5 = .ok (.aload_n 2, 1) := by decide +kernel
theorem d_T_remove_6 : decode b_T_remove 6 = .ok (.iload_n 1, 1) := by decide +kernel
theorem d_T_remove_7 : decode b_T_remove 7 = .ok (.invokestatic 120, 3) := by decide +kernel
theorem d_T_remove_10 : decode b_T_remove 10 = .ok (.ifCond .ne 5, 3) := by decide +kernel
theorem d_T_remove_13 : decode b_T_remove 13 = .ok (.iconst 0, 1) := by decide +kernel
theorem d_T_remove_14 : decode b_T_remove 14 = .ok (.ireturn, 1) := by decide +kernel
theorem d_T_remove_15 : decode b_T_remove 15 = .ok (.aload_n 2, 1) := by decide +kernel
theorem d_T_remove_16 : decode b_T_remove 16 = .ok (.iload_n 1, 1) := by decide +kernel
theorem d_T_remove_17 : decode b_T_remove 17 = .ok (.invokevirtual 105, 3) := by decide +kernel
theorem d_T_remove_20 : decode b_T_remove 20 = .ok (.aload_n 0, 1) := by decide +kernel
theorem d_T_remove_21 : decode b_T_remove 21 = .ok (.aload_n 2, 1) := by decide +kernel
theorem d_T_remove_22 : decode b_T_remove 22 = .ok (.invokevirtual 56, 3) := by decide +kernel
theorem d_T_remove_25 : decode b_T_remove 25 = .ok (.iconst 1, 1) := by decide +kernel
theorem d_T_remove_26 : decode b_T_remove 26 = .ok (.ireturn, 1) := by decide +kernel
theorem d_T_rename_0 : decode b_T_rename 0 = .ok (.aload_n 0, 1) := by decide +kernel
theorem d_T_rename_1 : decode b_T_rename 1 = .ok (.invokevirtual 80, 3) := by decide +kernel
theorem d_T_rename_4 : decode b_T_rename 4 = .ok (.astore 4, 2) := by decide +kernel
theorem d_T_rename_6 : decode b_T_rename 6 = .ok (.aload 4, 2) := by decide +kernel
theorem d_T_rename_8 : decode b_T_rename 8 = .ok (.iload_n 1, 1) := by decide +kernel
theorem d_T_rename_9 : decode b_T_rename 9 = .ok (.invokestatic 120, 3) := by decide +kernel
theorem d_T_rename_12 : decode b_T_rename 12 = .ok (.ifCond .eq 10, 3) := by decide +kernel
theorem d_T_rename_15 : decode b_T_rename 15 = .ok (.iload_n 2, 1) := by decide +kernel
theorem d_T_rename_16 : decode b_T_rename 16 = .ok (.invokestatic 124, 3) := by decide +kernel
theorem d_T_rename_19 : decode b_T_rename 19 = .ok (.ifCond .ne 5, 3) := by decide +kernel
theorem d_T_rename_22 : decode b_T_rename 22 = .ok (.iconst 0, 1) := by decide +kernel
theorem d_T_rename_23 : decode b_T_rename 23 = .ok (.ireturn, 1) := by decide +kernel
theorem d_T_rename_24 : decode b_T_rename 24 = .ok (.aload 4, 2) := by decide +kernel
theorem d_T_rename_26 : decode b_T_rename 26 = .ok (.iload_n 1, 1) := by decide +kernel
theorem d_T_rename_27 : decode b_T_rename 27 = .ok (.iload_n 2, 1) := by decide +kernel
theorem d_T_rename_28 : decode b_T_rename 28 = .ok (.iload_n 3, 1) := by decide +kernel
theorem d_T_rename_29 : decode b_T_rename 29 = .ok (.invokevirtual 128, 3) := by decide +kernel
theorem d_T_rename_32 : decode b_T_rename 32 = .ok (.aload_n 0, 1) := by decide +kernel
theorem d_T_rename_33 : decode b_T_rename 33 = .ok (.aload 4, 2) := by decide +kernel
theorem d_T_rename_35 : decode b_T_rename 35 = .ok (.invokevirtual 56, 3) := by decide +kernel
theorem d_T_rename_38 : decode b_T_rename 38 = .ok (.iconst 1, 1) := by decide +kernel
theorem d_T_rename_39 : decode b_T_rename 39 = .ok (.ireturn, 1) := by decide +kernel
theorem d_T_move_0 : decode b_T_move 0 = .ok (.aload_n 0, 1) := by decide +kernel
theorem d_T_move_1 : decode b_T_move 1 = .ok (.invokevirtual 80, 3) := by decide +kernel
theorem d_T_move_4 : decode b_T_move 4 = .ok (.astore 4, 2) := by decide +kernel
theorem d_T_move_6 : decode b_T_move 6 = .ok (.aload 4, 2) := by decide +kernel
theorem d_T_move_8 : decode b_T_move 8 = .ok (.iload_n 1, 1) := by decide +kernel
theorem d_T_move_9 : decode b_T_move 9 = .ok (.invokestatic 120, 3) := by decide +kernel
theorem d_T_move_12 : decode b_T_move 12 = .ok (.ifCond .eq 28, 3) := by decide +kernel
theorem d_T_move_15 : decode b_T_move 15 = .ok (.aload 4, 2) := by decide +kernel
theorem d_T_move_17 : decode b_T_move 17 = .ok (.iload_n 2, 1) := by decide +kernel
theorem d_T_move_18 : decode b_T_move 18 = .ok (.i2l, 1) := by decide +kernel
theorem d_T_move_19 : decode b_T_move 19 = .ok (.iload_n 3, 1) := by decide +kernel
theorem d_T_move_20 : decode b_T_move 20 = .ok (.i2l, 1) := by decide +kernel
theorem d_T_move_21 : decode b_T_move 21 = .ok (.invokevirtual 87, 3) := by decide +kernel
theorem d_T_move_24 : decode b_T_move 24 = .ok (.ifCond .eq 16, 3) := by decide +kernel
theorem d_T_move_27 : decode b_T_move 27 = .ok (.aload 4, 2) := by decide +kernel
theorem d_T_move_29 : decode b_T_move 29 = .ok (.iload_n 2, 1) := by decide +kernel
theorem d_T_move_30 : decode b_T_move 30 = .ok (.i2l, 1) := by decide +kernel
theorem d_T_move_31 : decode b_T_move 31 = .ok (.iload_n 3, 1) := by decide +kernel
theorem d_T_move_32 : decode b_T_move 32 = .ok (.i2l, 1) := by decide +kernel
theorem d_T_move_33 : decode b_T_move 33 = .ok (.iload_n 1, 1) := by decide +kernel
theorem d_T_move_34 : decode b_T_move 34 = .ok (.invokevirtual 91, 3) := by decide +kernel
theorem d_T_move_37 : decode b_T_move 37 = .ok (.ifCond .eq 5, 3) := by decide +kernel
theorem d_T_move_40 : decode b_T_move 40 = .ok (.iconst 0, 1) := by decide +kernel
theorem d_T_move_41 : decode b_T_move 41 = .ok (.ireturn, 1) := by decide +kernel
theorem d_T_move_42 : decode b_T_move 42 = .ok (.aload 4, 2) := by decide +kernel
theorem d_T_move_44 : decode b_T_move 44 = .ok (.iload_n 1, 1) := by decide +kernel
theorem d_T_move_45 : decode b_T_move 45 = .ok (.iload_n 2, 1) := by decide +kernel
theorem d_T_move_46 : decode b_T_move 46 = .ok (.iload_n 3, 1) := by decide +kernel
theorem d_T_move_47 : decode b_T_move 47 = .ok (.invokevirtual 113, 3) := by decide +kernel
theorem d_T_move_50 : decode b_T_move 50 = .ok (.aload_n 0, 1) := by decide +kernel
theorem d_T_move_51 : decode b_T_move 51 = .ok (.aload 4, 2) := by decide +kernel
theorem d_T_move_53 : decode b_T_move 53 = .ok (.invokevirtual 56, 3) := by decide +kernel
theorem d_T_move_56 : decode b_T_move 56 = .ok (.iconst 1, 1) := by decide +kernel
theorem d_T_move_57 : decode b_T_move 57 = .ok (.ireturn, 1) := by decide +kernel
theorem d_T_repair_0 : decode b_T_repair 0 = .ok (.aload_n 0, 1) := by decide +kernel
theorem d_T_repair_1 : decode b_T_repair 1 = .ok (.getfield 27, 3) := by decide +kernel
theorem d_T_repair_4 : decode b_T_repair 4 = .ok (.invokevirtual 76, 3) := by decide +kernel
theorem d_T_repair_7 : decode b_T_repair 7 = .ok (.ifCond .ne 7, 3) := by decide +kernel
theorem d_T_repair_10 : decode b_T_repair 10 = .ok (.iconst 1, 1) := by decide +kernel
theorem d_T_repair_11 : decode b_T_repair 11 = .ok (.goto 4, 3) := by decide +kernel
theorem d_T_repair_14 : decode b_T_repair 14 = .ok (.iconst 0, 1) := by decide +kernel
theorem d_T_repair_15 : decode b_T_repair 15 = .ok (.istore_n 1, 1) := by decide +kernel
theorem d_T_repair_16 : decode b_T_repair 16 = .ok (.aload_n 0, 1) := by decide +kernel
theorem d_T_repair_17 : decode b_T_repair 17 = .ok (.getfield 31, 3) := by decide +kernel
theorem d_T_repair_20 : decode b_T_repair 20 = .ok (.invokevirtual 76, 3) := by decide +kernel
theorem d_T_repair_23 : decode b_T_repair 23 = .ok (.ifCond .ne 7, 3) := by decide +kernel
theorem d_T_repair_26 : decode b_T_repair 26 = .ok (.iconst 1, 1) := by decide +kernel
theorem d_T_repair_27 : decode b_T_repair 27 = .ok (.goto 4, 3) := by decide +kernel
theorem d_T_repair_30 : decode b_T_repair 30 = .ok (.iconst 0, 1) := by decide +kernel
theorem d_T_repair_31 : decode b_T_repair 31 = .ok (.istore_n 2, 1) := by decide +kernel
theorem d_T_repair_32 : decode b_T_repair 32 = .ok (.iload_n 1, 1) := by decide +kernel
theorem d_T_repair_33 : decode b_T_repair 33 = .ok (.ifCond .ne 9, 3) := by decide +kernel
theorem d_T_repair_36 : decode b_T_repair 36 = .ok (.iload_n 2, 1) := by decide +kernel
theorem d_T_repair_37 : decode b_T_repair 37 = .ok (.ifCond .ne 5, 3) := by decide +kernel
theorem d_T_repair_40 : decode b_T_repair 40 = .ok (.iconst (-1), 1) := by decide +kernel
theorem d_T_repair_41 : decode b_T_repair 41 = .ok (.ireturn, 1) := by decide +kernel
theorem d_T_repair_42 : decode b_T_repair 42 = .ok (.iload_n 1, 1) := by decide +kernel
theorem d_T_repair_43 : decode b_T_repair 43 = .ok (.ifCond .eq 7, 3) := by decide +kernel
theorem d_T_repair_46 : decode b_T_repair 46 = .ok (.iconst 0, 1) := by decide +kernel
theorem d_T_repair_47 : decode b_T_repair 47 = .ok (.goto 4, 3) := by decide +kernel
theorem d_T_repair_50 : decode b_T_repair 50 = .ok (.iconst 2, 1) := by decide +kernel
theorem d_T_repair_51 : decode b_T_repair 51 = .ok (.iload_n 2, 1) := by decide +kernel
theorem d_T_repair_52 : decode b_T_repair 52 = .ok (.ifCond .eq 7, 3) := by decide +kernel
theorem d_T_repair_55 : decode b_T_repair 55 = .ok (.iconst 0, 1) := by decide +kernel
theorem d_T_repair_56 : decode b_T_repair 56 = .ok (.goto 4, 3) := by decide +kernel
theorem d_T_repair_59 : decode b_T_repair 59 = .ok (.iconst 4, 1) := by decide +kernel
theorem d_T_repair_60 : decode b_T_repair 60 = .ok (.iadd, 1) := by decide +kernel
theorem d_T_repair_61 : decode b_T_repair 61 = .ok (.istore_n 3, 1) := by decide +kernel
theorem d_T_repair_62 : decode b_T_repair 62 = .ok (.iload_n 3, 1) := by decide +kernel
theorem d_T_repair_63 : decode b_T_repair 63 = .ok (.ifCond .ne 20, 3) := by decide +kernel
theorem d_T_repair_66 : decode b_T_repair 66 = .ok (.aload_n 0, 1) := by decide +kernel
theorem d_T_repair_67 : decode b_T_repair 67 = .ok (.getfield 27, 3) := by decide +kernel
theorem d_T_repair_70 : decode b_T_repair 70 = .ok (.aload_n 0, 1) := by decide +kernel
theorem d_T_repair_71 : decode b_T_repair 71 = .ok (.getfield 31, 3) := by decide +kernel
theorem d_T_repair_74 : decode b_T_repair 74 = .ok (.invokevirtual 132, 3) := by decide +kernel
theorem d_T_repair_77 : decode b_T_repair 77 = .ok (.ifCond .ne 6, 3) := by decide +kernel
theorem d_T_repair_80 : decode b_T_repair 80 = .ok (.bipush 8, 2) := by decide +kernel
theorem d_T_repair_82 : decode b_T_repair 82 = .ok (.istore_n 3, 1) := by decide +kernel
theorem d_T_repair_83 : decode b_T_repair 83 = .ok (.iload_n 3, 1) := by decide +kernel
theorem d_T_repair_84 : decode b_T_repair 84 = .ok (.ifCond .eq 22, 3) := by decide +kernel
theorem d_T_repair_87 : decode b_T_repair 87 = .ok (.aload_n 0, 1) := by decide +kernel
theorem d_T_repair_88 : decode b_T_repair 88 = .ok (.iload_n 1, 1) := by decide +kernel
theorem d_T_repair_89 : decode b_T_repair 89 = .ok (.ifCond .eq 10, 3) := by decide +kernel
theorem d_T_repair_92 : decode b_T_repair 92 = .ok (.aload_n 0, 1) := by decide +kernel
theorem d_T_repair_93 : decode b_T_repair 93 = .ok (.getfield 27, 3) := by decide +kernel
theorem d_T_repair_96 : decode b_T_repair 96 = .ok (.goto 7, 3) := by decide +kernel
theorem d_T_repair_99 : decode b_T_repair 99 = .ok (.aload_n 0, 1) := by decide +kernel
theorem d_T_repair_100 : decode b_T_repair 100 = .ok (.getfield 31, 3) := by decide +kernel
theorem d_T_repair_103 : decode b_T_repair 103 = .ok (.invokevirtual 56, 3) := by decide +kernel
theorem d_T_repair_106 : decode b_T_repair 106 = .ok (.aload_n 0, 1) := by decide +kernel
theorem d_T_repair_107 : decode b_T_repair 107 = .ok (.invokevirtual 136, 3) := by decide +kernel
theorem d_T_repair_110 : decode b_T_repair 110 = .ok (.ifCond .eq 5, 3) := by decide +kernel
theorem d_T_repair_113 : decode b_T_repair 113 = .ok (.iload_n 3, 1) := by decide +kernel
theorem d_T_repair_114 : decode b_T_repair 114 = .ok (.ireturn, 1) := by decide +kernel
theorem d_T_repair_115 : decode b_T_repair 115 = .ok (.aload_n 0, 1) := by decide +kernel
theorem d_T_repair_116 : decode b_T_repair 116 = .ok (.invokevirtual 46, 3) := by decide +kernel
theorem d_T_repair_119 : decode b_T_repair 119 = .ok (.iload_n 3, 1) := by decide +kernel
theorem d_T_repair_120 : decode b_T_repair 120 = .ok (.iconst 1, 1) := by decide +kernel
theorem d_T_repair_121 : decode b_T_repair 121 = .ok (.iadd, 1) := by decide +kernel
theorem d_T_repair_122 : decode b_T_repair 122 = .ok (.ireturn, 1) := by decide +kernel
theorem d_T_count_0 : decode b_T_count 0 = .ok (.aload_n 0, 1) := by decide +kernel
theorem d_T_count_1 : decode b_T_count 1 = .ok (.invokevirtual 80, 3) := by decide +kernel
theorem d_T_count_4 : decode b_T_count 4 = .ok (.astore_n 1, 1) := by decide +kernel
theorem d_T_count_5 : decode b_T_count 5 = .ok (.aload_n 1, 1) := by decide +kernel
theorem d_T_count_6 : decode b_T_count 6 = .ok (.ifnonnull 7, 3) := by decide +kernel
theorem d_T_count_9 : decode b_T_count 9 = .ok (.iconst (-1), 1) := by decide +kernel
theorem d_T_count_10 : decode b_T_count 10 = .ok (.goto 7, 3) := by decide +kernel
theorem d_T_count_13 : decode b_T_count 13 = .ok (.aload_n 1, 1) := by decide +kernel
theorem d_T_count_14 : decode b_T_count 14 = .ok (.invokevirtual 140, 3) := by decide +kernel
theorem d_T_count_17 : decode b_T_count 17 = .ok (.ireturn, 1) := by decide +kernel
theorem d_T_field_0 : decode b_T_field 0 = .ok (.aload_n 0, 1) := by decide +kernel
theorem d_T_field_1 : decode b_T_field 1 = .ok (.invokevirtual 80, 3) := by decide +kernel
theorem d_T_field_4 : decode b_T_field 4 = .ok (.astore_n 3, 1) := by decide +kernel
theorem d_T_field_5 : decode b_T_field 5 = .ok (.aload_n 3, 1) := by decide +kernel
theorem d_T_field_6 : decode b_T_field 6 = .ok (.ifnull 10, 3) := by decide +kernel
theorem d_T_field_9 : decode b_T_field 9 = .ok (.iload_n 1, 1) := by decide +kernel
theorem d_T_field_10 : decode b_T_field 10 = .ok (.invokestatic 143, 3) := by decide +kernel
theorem d_T_field_13 : decode b_T_field 13 = .ok (.ifCond .ne 5, 3) := by decide +kernel
theorem d_T_field_16 : decode b_T_field 16 = .ok (.lconst 0, 1) := by decide +kernel
theorem d_T_field_17 : decode b_T_field 17 = .ok (.lreturn, 1) := by decide +kernel
theorem d_T_field_18 : decode b_T_field 18 = .ok (.iload_n 2, 1) := by decide +kernel
theorem d_T_field_19 : decode b_T_field 19 = .ok (.tableswitch 96 0 6 #[41, 49, 57, 65, 72, 80, 88], 41) := by decide +kernel
theorem d_T_field_60 : decode b_T_field 60 = .ok (.aload_n 3, 1) := by decide +kernel
theorem d_T_field_61 : decode b_T_field 61 = .ok (.iload_n 1, 1) := by decide +kernel
theorem d_T_field_62 : decode b_T_field 62 = .ok (.bipush 32, 2) := by decide +kernel
theorem d_T_field_64 : decode b_T_field 64 = .ok (.invokevirtual 146, 3) := by decide +kernel
theorem d_T_field_67 : decode b_T_field 67 = .ok (.lreturn, 1) := by decide +kernel
theorem d_T_field_68 : decode b_T_field 68 = .ok (.aload_n 3, 1) := by decide +kernel
theorem d_T_field_69 : decode b_T_field 69 = .ok (.iload_n 1, 1) := by decide +kernel
theorem d_T_field_70 : decode b_T_field 70 = .ok (.bipush 40, 2) := by decide +kernel
theorem d_T_field_72 : decode b_T_field 72 = .ok (.invokevirtual 146, 3) := by decide +kernel
theorem d_T_field_75 : decode b_T_field 75 = .ok (.lreturn, 1) := by decide +kernel
theorem d_T_field_76 : decode b_T_field 76 = .ok (.aload_n 3, 1) := by decide +kernel
theorem d_T_field_77 : decode b_T_field 77 = .ok (.iload_n 1, 1) := by decide +kernel
theorem d_T_field_78 : decode b_T_field 78 = .ok (.bipush 48, 2) := by decide +kernel
theorem d_T_field_80 : decode b_T_field 80 = .ok (.invokevirtual 146, 3) := by decide +kernel
theorem d_T_field_83 : decode b_T_field 83 = .ok (.lreturn, 1) := by decide +kernel
theorem d_T_field_84 : decode b_T_field 84 = .ok (.aload_n 3, 1) := by decide +kernel
theorem d_T_field_85 : decode b_T_field 85 = .ok (.iload_n 1, 1) := by decide +kernel
theorem d_T_field_86 : decode b_T_field 86 = .ok (.iconst 0, 1) := by decide +kernel
theorem d_T_field_87 : decode b_T_field 87 = .ok (.invokevirtual 146, 3) := by decide +kernel
theorem d_T_field_90 : decode b_T_field 90 = .ok (.lreturn, 1) := by decide +kernel
theorem d_T_field_91 : decode b_T_field 91 = .ok (.aload_n 3, 1) := by decide +kernel
theorem d_T_field_92 : decode b_T_field 92 = .ok (.iload_n 1, 1) := by decide +kernel
theorem d_T_field_93 : decode b_T_field 93 = .ok (.bipush 8, 2) := by decide +kernel
theorem d_T_field_95 : decode b_T_field 95 = .ok (.invokevirtual 146, 3) := by decide +kernel
theorem d_T_field_98 : decode b_T_field 98 = .ok (.lreturn, 1) := by decide +kernel
theorem d_T_field_99 : decode b_T_field 99 = .ok (.aload_n 3, 1) := by decide +kernel
theorem d_T_field_100 : decode b_T_field 100 = .ok (.iload_n 1, 1) := by decide +kernel
theorem d_T_field_101 : decode b_T_field 101 = .ok (.bipush 16, 2) := by decide +kernel
theorem d_T_field_103 : decode b_T_field 103 = .ok (.invokevirtual 146, 3) := by decide +kernel
theorem d_T_field_106 : decode b_T_field 106 = .ok (.lreturn, 1) := by decide +kernel
theorem d_T_field_107 : decode b_T_field 107 = .ok (.aload_n 3, 1) := by decide +kernel
theorem d_T_field_108 : decode b_T_field 108 = .ok (.iload_n 1, 1) := by decide +kernel
theorem d_T_field_109 : decode b_T_field 109 = .ok (.bipush 24, 2) := by decide +kernel
theorem d_T_field_111 : decode b_T_field 111 = .ok (.invokevirtual 146, 3) := by decide +kernel
theorem d_T_field_114 : decode b_T_field 114 = .ok (.lreturn, 1) := by decide +kernel
theorem d_T_field_115 : decode b_T_field 115 = .ok (.lconst 0, 1) := by decide +kernel
theorem d_T_field_116 : decode b_T_field 116 = .ok (.lreturn, 1) := by decide +kernel
theorem d_T_letter_0 : decode b_T_letter 0 = .ok (.aload_n 0, 1) := by decide +kernel
theorem d_T_letter_1 : decode b_T_letter 1 = .ok (.invokevirtual 80, 3) := by decide +kernel
theorem d_T_letter_4 : decode b_T_letter 4 = .ok (.astore_n 3, 1) := by decide +kernel
theorem d_T_letter_5 : decode b_T_letter 5 = .ok (.aload_n 3, 1) := by decide +kernel
theorem d_T_letter_6 : decode b_T_letter 6 = .ok (.ifnull 17, 3) := by decide +kernel
theorem d_T_letter_9 : decode b_T_letter 9 = .ok (.iload_n 1, 1) := by decide +kernel
theorem d_T_letter_10 : decode b_T_letter 10 = .ok (.invokestatic 143, 3) := by decide +kernel
theorem d_T_letter_13 : decode b_T_letter 13 = .ok (.ifCond .eq 10, 3) := by decide +kernel
theorem d_T_letter_16 : decode b_T_letter 16 = .ok (.iload_n 2, 1) := by decide +kernel
theorem d_T_letter_17 : decode b_T_letter 17 = .ok (.invokestatic 124, 3) := by decide +kernel
theorem d_T_letter_20 : decode b_T_letter 20 = .ok (.ifCond .ne 7, 3) := by decide +kernel
theorem d_T_letter_23 : decode b_T_letter 23 = .ok (.iconst 0, 1) := by decide +kernel
theorem d_T_letter_24 : decode b_T_letter 24 = .ok (.goto 9, 3) := by decide +kernel
theorem d_T_letter_27 : decode b_T_letter 27 = .ok (.aload_n 3, 1) := by decide +kernel
theorem d_T_letter_28 : decode b_T_letter 28 = .ok (.iload_n 1, 1) := by decide +kernel
theorem d_T_letter_29 : decode b_T_letter 29 = .ok (.iload_n 2, 1) := by decide +kernel
theorem d_T_letter_30 : decode b_T_letter 30 = .ok (.invokevirtual 149, 3) := by decide +kernel
theorem d_T_letter_33 : decode b_T_letter 33 = .ok (.ireturn, 1) := by decide +kernel
theorem d_T_room_0 : decode b_T_room 0 = .ok (.aload_n 0, 1) := by decide +kernel
theorem d_T_room_1 : decode b_T_room 1 = .ok (.invokevirtual 80, 3) := by decide +kernel
theorem d_T_room_4 : decode b_T_room 4 = .ok (.astore_n 1, 1) := by decide +kernel
theorem d_T_room_5 : decode b_T_room 5 = .ok (.aload_n 1, 1) := by decide +kernel
theorem d_T_room_6 : decode b_T_room 6 = .ok (.ifnonnull 7, 3) := by decide +kernel
theorem d_T_room_9 : decode b_T_room 9 = .ok (.iconst (-1), 1) := by decide +kernel
theorem d_T_room_10 : decode b_T_room 10 = .ok (.goto 7, 3) := by decide +kernel
theorem d_T_room_13 : decode b_T_room 13 = .ok (.aload_n 1, 1) := by decide +kernel
theorem d_T_room_14 : decode b_T_room 14 = .ok (.invokevirtual 153, 3) := by decide +kernel
theorem d_T_room_17 : decode b_T_room 17 = .ok (.ireturn, 1) := by decide +kernel
theorem d_T_sum_0 : decode b_T_sum 0 = .ok (.aload_n 0, 1) := by decide +kernel
theorem d_T_sum_1 : decode b_T_sum 1 = .ok (.iload_n 1, 1) := by decide +kernel
theorem d_T_sum_2 : decode b_T_sum 2 = .ok (.invokevirtual 156, 3) := by decide +kernel
theorem d_T_sum_5 : decode b_T_sum 5 = .ok (.ifCond .eq 27, 3) := by decide +kernel
theorem d_T_sum_8 : decode b_T_sum 8 = .ok (.iload_n 2, 1) := by decide +kernel
theorem d_T_sum_9 : decode b_T_sum 9 = .ok (.ifCond .lt 23, 3) := by decide +kernel
theorem d_T_sum_12 : decode b_T_sum 12 = .ok (.iload_n 2, 1) := by decide +kernel
theorem d_T_sum_13 : decode b_T_sum 13 = .ok (.sipush 512, 3) := by decide +kernel
theorem d_T_sum_16 : decode b_T_sum 16 = .ok (.if_icmp .gt 16, 3) := by decide +kernel
theorem d_T_sum_19 : decode b_T_sum 19 = .ok (.iload_n 3, 1) := by decide +kernel
theorem d_T_sum_20 : decode b_T_sum 20 = .ok (.ifCond .lt 12, 3) := by decide +kernel
theorem d_T_sum_23 : decode b_T_sum 23 = .ok (.iload_n 3, 1) := by decide +kernel
theorem d_T_sum_24 : decode b_T_sum 24 = .ok (.sipush 512, 3) := by decide +kernel
theorem d_T_sum_27 : decode b_T_sum 27 = .ok (.iload_n 2, 1) := by decide +kernel
theorem d_T_sum_28 : decode b_T_sum 28 = .ok (.isub, 1) := by decide +kernel
theorem d_T_sum_29 : decode b_T_sum 29 = .ok (.if_icmp .le 5, 3) := by decide +kernel
theorem d_T_sum_32 : decode b_T_sum 32 = .ok (.iconst 0, 1) := by decide +kernel
theorem d_T_sum_33 : decode b_T_sum 33 = .ok (.ireturn, 1) := by decide +kernel
theorem d_T_sum_34 : decode b_T_sum 34 = .ok (.aload_n 0, 1) := by decide +kernel
theorem d_T_sum_35 : decode b_T_sum 35 = .ok (.getfield 18, 3) := by decide +kernel
theorem d_T_sum_38 : decode b_T_sum 38 = .ok (.iload_n 1, 1) := by decide +kernel
theorem d_T_sum_39 : decode b_T_sum 39 = .ok (.sipush 512, 3) := by decide +kernel
theorem d_T_sum_42 : decode b_T_sum 42 = .ok (.imul, 1) := by decide +kernel
theorem d_T_sum_43 : decode b_T_sum 43 = .ok (.iload_n 2, 1) := by decide +kernel
theorem d_T_sum_44 : decode b_T_sum 44 = .ok (.iadd, 1) := by decide +kernel
theorem d_T_sum_45 : decode b_T_sum 45 = .ok (.iload_n 3, 1) := by decide +kernel
theorem d_T_sum_46 : decode b_T_sum 46 = .ok (.invokevirtual 159, 3) := by decide +kernel
theorem d_T_sum_49 : decode b_T_sum 49 = .ok (.ireturn, 1) := by decide +kernel
theorem d_T_isBlock_0 : decode b_T_isBlock 0 = .ok (.iload_n 1, 1) := by decide +kernel
theorem d_T_isBlock_1 : decode b_T_isBlock 1 = .ok (.ifCond .lt 15, 3) := by decide +kernel
theorem d_T_isBlock_4 : decode b_T_isBlock 4 = .ok (.iload_n 1, 1) := by decide +kernel
theorem d_T_isBlock_5 : decode b_T_isBlock 5 = .ok (.aload_n 0, 1) := by decide +kernel
theorem d_T_isBlock_6 : decode b_T_isBlock 6 = .ok (.getfield 9, 3) := by decide +kernel
theorem d_T_isBlock_9 : decode b_T_isBlock 9 = .ok (.if_icmp .ge 7, 3) := by decide +kernel
theorem d_T_isBlock_12 : decode b_T_isBlock 12 = .ok (.iconst 1, 1) := by decide +kernel
theorem d_T_isBlock_13 : decode b_T_isBlock 13 = .ok (.goto 4, 3) := by decide +kernel
theorem d_T_isBlock_16 : decode b_T_isBlock 16 = .ok (.iconst 0, 1) := by decide +kernel
theorem d_T_isBlock_17 : decode b_T_isBlock 17 = .ok (.ireturn, 1) := by decide +kernel
theorem d_T_isPlace_0 : decode b_T_isPlace 0 = .ok (.aload_n 0, 1) := by decide +kernel
theorem d_T_isPlace_1 : decode b_T_isPlace 1 = .ok (.iload_n 1, 1) := by decide +kernel
theorem d_T_isPlace_2 : decode b_T_isPlace 2 = .ok (.invokevirtual 156, 3) := by decide +kernel
theorem d_T_isPlace_5 : decode b_T_isPlace 5 = .ok (.ifCond .eq 18, 3) := by decide +kernel
theorem d_T_isPlace_8 : decode b_T_isPlace 8 = .ok (.iload_n 2, 1) := by decide +kernel
theorem d_T_isPlace_9 : decode b_T_isPlace 9 = .ok (.ifCond .lt 14, 3) := by decide +kernel
theorem d_T_isPlace_12 : decode b_T_isPlace 12 = .ok (.iload_n 2, 1) := by decide +kernel
theorem d_T_isPlace_13 : decode b_T_isPlace 13 = .ok (.sipush 512, 3) := by decide +kernel
theorem d_T_isPlace_16 : decode b_T_isPlace 16 = .ok (.if_icmp .ge 7, 3) := by decide +kernel
theorem d_T_isPlace_19 : decode b_T_isPlace 19 = .ok (.iconst 1, 1) := by decide +kernel
theorem d_T_isPlace_20 : decode b_T_isPlace 20 = .ok (.goto 4, 3) := by decide +kernel
theorem d_T_isPlace_23 : decode b_T_isPlace 23 = .ok (.iconst 0, 1) := by decide +kernel
theorem d_T_isPlace_24 : decode b_T_isPlace 24 = .ok (.ireturn, 1) := by decide +kernel
theorem d_T_isEntry_0 : decode b_T_isEntry 0 = .ok (.iload_n 0, 1) := by decide +kernel
theorem d_T_isEntry_1 : decode b_T_isEntry 1 = .ok (.ifCond .lt 13, 3) := by decide +kernel
theorem d_T_isEntry_4 : decode b_T_isEntry 4 = .ok (.iload_n 0, 1) := by decide +kernel
theorem d_T_isEntry_5 : decode b_T_isEntry 5 = .ok (.bipush 8, 2) := by decide +kernel
theorem d_T_isEntry_7 : decode b_T_isEntry 7 = .ok (.if_icmp .ge 7, 3) := by decide +kernel
theorem d_T_isEntry_10 : decode b_T_isEntry 10 = .ok (.iconst 1, 1) := by decide +kernel
theorem d_T_isEntry_11 : decode b_T_isEntry 11 = .ok (.goto 4, 3) := by decide +kernel
theorem d_T_isEntry_14 : decode b_T_isEntry 14 = .ok (.iconst 0, 1) := by decide +kernel
theorem d_T_isEntry_15 : decode b_T_isEntry 15 = .ok (.ireturn, 1) := by decide +kernel
theorem d_T_isLetter_0 : decode b_T_isLetter 0 = .ok (.iload_n 0, 1) := by decide +kernel
theorem d_T_isLetter_1 : decode b_T_isLetter 1 = .ok (.ifCond .lt 13, 3) := by decide +kernel
theorem d_T_isLetter_4 : decode b_T_isLetter 4 = .ok (.iload_n 0, 1) := by decide +kernel
theorem d_T_isLetter_5 : decode b_T_isLetter 5 = .ok (.bipush 36, 2) := by decide +kernel
theorem d_T_isLetter_7 : decode b_T_isLetter 7 = .ok (.if_icmp .ge 7, 3) := by decide +kernel
theorem d_T_isLetter_10 : decode b_T_isLetter 10 = .ok (.iconst 1, 1) := by decide +kernel
theorem d_T_isLetter_11 : decode b_T_isLetter 11 = .ok (.goto 4, 3) := by decide +kernel
theorem d_T_isLetter_14 : decode b_T_isLetter 14 = .ok (.iconst 0, 1) := by decide +kernel
theorem d_T_isLetter_15 : decode b_T_isLetter 15 = .ok (.ireturn, 1) := by decide +kernel
theorem d_T_isPartition_0 : decode b_T_isPartition 0 = .ok (.aload_n 0, 1) := by decide +kernel
theorem d_T_isPartition_1 : decode b_T_isPartition 1 = .ok (.ifnull 22, 3) := by decide +kernel
theorem d_T_isPartition_4 : decode b_T_isPartition 4 = .ok (.iload_n 1, 1) := by decide +kernel
theorem d_T_isPartition_5 : decode b_T_isPartition 5 = .ok (.invokestatic 143, 3) := by decide +kernel
theorem d_T_isPartition_8 : decode b_T_isPartition 8 = .ok (.ifCond .eq 15, 3) := by decide +kernel
theorem d_T_isPartition_11 : decode b_T_isPartition 11 = .ok (.aload_n 0, 1) := by decide +kernel
theorem d_T_isPartition_12 : decode b_T_isPartition 12 = .ok (.iload_n 1, 1) := by decide +kernel
theorem d_T_isPartition_13 : decode b_T_isPartition 13 = .ok (.invokevirtual 163, 3) := by decide +kernel
theorem d_T_isPartition_16 : decode b_T_isPartition 16 = .ok (.ifCond .ne 7, 3) := by decide +kernel
theorem d_T_isPartition_19 : decode b_T_isPartition 19 = .ok (.iconst 1, 1) := by decide +kernel
theorem d_T_isPartition_20 : decode b_T_isPartition 20 = .ok (.goto 4, 3) := by decide +kernel
theorem d_T_isPartition_23 : decode b_T_isPartition 23 = .ok (.iconst 0, 1) := by decide +kernel
theorem d_T_isPartition_24 : decode b_T_isPartition 24 = .ok (.ireturn, 1) := by decide +kernel
theorem d_T_guidTail_0 : decode b_T_guidTail 0 = .ok (.lload_n 0, 1) := by decide +kernel
theorem d_T_guidTail_1 : decode b_T_guidTail 1 = .ok (.ldc2_w 166, 3) := by decide +kernel
theorem d_T_guidTail_4 : decode b_T_guidTail 4 = .ok (.lmul, 1) := by decide +kernel
theorem d_T_guidTail_5 : decode b_T_guidTail 5 = .ok (.ldc2_w 168, 3) := by decide +kernel
theorem d_T_guidTail_8 : decode b_T_guidTail 8 = .ok (.ladd, 1) := by decide +kernel
theorem d_T_guidTail_9 : decode b_T_guidTail 9 = .ok (.lreturn, 1) := by decide +kernel
theorem d_T_copyNumber_0 : decode b_T_copyNumber 0 = .ok (.iload_n 1, 1) := by decide +kernel
theorem d_T_copyNumber_1 : decode b_T_copyNumber 1 = .ok (.ifCond .ne 8, 3) := by decide +kernel
theorem d_T_copyNumber_4 : decode b_T_copyNumber 4 = .ok (.aload_n 0, 1) := by decide +kernel
theorem d_T_copyNumber_5 : decode b_T_copyNumber 5 = .ok (.getfield 27, 3) := by decide +kernel
theorem d_T_copyNumber_8 : decode b_T_copyNumber 8 = .ok (.areturn, 1) := by decide +kernel
theorem d_T_copyNumber_9 : decode b_T_copyNumber 9 = .ok (.iload_n 1, 1) := by decide +kernel
theorem d_T_copyNumber_10 : decode b_T_copyNumber 10 = .ok (.iconst 1, 1) := by decide +kernel
theorem d_T_copyNumber_11 : decode b_T_copyNumber 11 = .ok (.if_icmp .ne 10, 3) := by decide +kernel
theorem d_T_copyNumber_14 : decode b_T_copyNumber 14 = .ok (.aload_n 0, 1) := by decide +kernel
theorem d_T_copyNumber_15 : decode b_T_copyNumber 15 = .ok (.getfield 31, 3) := by decide +kernel
theorem d_T_copyNumber_18 : decode b_T_copyNumber 18 = .ok (.goto 4, 3) := by decide +kernel
theorem d_T_copyNumber_21 : decode b_T_copyNumber 21 = .ok (.aconst_null, 1) := by decide +kernel
theorem d_T_copyNumber_22 : decode b_T_copyNumber 22 = .ok (.areturn, 1) := by decide +kernel
theorem d_T_table_0 : decode b_T_table 0 = .ok (.aload_n 0, 1) := by decide +kernel
theorem d_T_table_1 : decode b_T_table 1 = .ok (.getfield 27, 3) := by decide +kernel
theorem d_T_table_4 : decode b_T_table 4 = .ok (.invokevirtual 76, 3) := by decide +kernel
theorem d_T_table_7 : decode b_T_table 7 = .ok (.ifCond .ne 8, 3) := by decide +kernel
theorem d_T_table_10 : decode b_T_table 10 = .ok (.aload_n 0, 1) := by decide +kernel
theorem d_T_table_11 : decode b_T_table 11 = .ok (.getfield 27, 3) := by decide +kernel
theorem d_T_table_14 : decode b_T_table 14 = .ok (.areturn, 1) := by decide +kernel
theorem d_T_table_15 : decode b_T_table 15 = .ok (.aload_n 0, 1) := by decide +kernel
theorem d_T_table_16 : decode b_T_table 16 = .ok (.getfield 31, 3) := by decide +kernel
theorem d_T_table_19 : decode b_T_table 19 = .ok (.invokevirtual 76, 3) := by decide +kernel
theorem d_T_table_22 : decode b_T_table 22 = .ok (.ifCond .ne 10, 3) := by decide +kernel
theorem d_T_table_25 : decode b_T_table 25 = .ok (.aload_n 0, 1) := by decide +kernel
theorem d_T_table_26 : decode b_T_table 26 = .ok (.getfield 31, 3) := by decide +kernel
theorem d_T_table_29 : decode b_T_table 29 = .ok (.goto 4, 3) := by decide +kernel
theorem d_T_table_32 : decode b_T_table 32 = .ok (.aconst_null, 1) := by decide +kernel
theorem d_T_table_33 : decode b_T_table 33 = .ok (.areturn, 1) := by decide +kernel
theorem d_T_writeTable_0 : decode b_T_writeTable 0 = .ok (.aload_n 0, 1) := by decide +kernel
theorem d_T_writeTable_1 : decode b_T_writeTable 1 = .ok (.getfield 27, 3) := by decide +kernel
theorem d_T_writeTable_4 : decode b_T_writeTable 4 = .ok (.aload_n 1, 1) := by decide +kernel
theorem d_T_writeTable_5 : decode b_T_writeTable 5 = .ok (.invokevirtual 170, 3) := by decide +kernel
theorem d_T_writeTable_8 : decode b_T_writeTable 8 = .ok (.aload_n 0, 1) := by decide +kernel
theorem d_T_writeTable_9 : decode b_T_writeTable 9 = .ok (.getfield 31, 3) := by decide +kernel
theorem d_T_writeTable_12 : decode b_T_writeTable 12 = .ok (.aload_n 1, 1) := by decide +kernel
theorem d_T_writeTable_13 : decode b_T_writeTable 13 = .ok (.invokevirtual 170, 3) := by decide +kernel
theorem d_T_writeTable_16 : decode b_T_writeTable 16 = .ok (.return_, 1) := by decide +kernel
theorem d_T_writeGuard_0 : decode b_T_writeGuard 0 = .ok (.aload_n 0, 1) := by decide +kernel
theorem d_T_writeGuard_1 : decode b_T_writeGuard 1 = .ok (.getfield 18, 3) := by decide +kernel
theorem d_T_writeGuard_4 : decode b_T_writeGuard 4 = .ok (.iconst 0, 1) := by decide +kernel
theorem d_T_writeGuard_5 : decode b_T_writeGuard 5 = .ok (.sipush 512, 3) := by decide +kernel
theorem d_T_writeGuard_8 : decode b_T_writeGuard 8 = .ok (.invokevirtual 173, 3) := by decide +kernel
theorem d_T_writeGuard_11 : decode b_T_writeGuard 11 = .ok (.aload_n 0, 1) := by decide +kernel
theorem d_T_writeGuard_12 : decode b_T_writeGuard 12 = .ok (.getfield 18, 3) := by decide +kernel
theorem d_T_writeGuard_15 : decode b_T_writeGuard 15 = .ok (.sipush 450, 3) := by decide +kernel
theorem d_T_writeGuard_18 : decode b_T_writeGuard 18 = .ok (.iconst 1, 1) := by decide +kernel
theorem d_T_writeGuard_19 : decode b_T_writeGuard 19 = .ok (.ldc2_w 177, 3) := by decide +kernel
theorem d_T_writeGuard_22 : decode b_T_writeGuard 22 = .ok (.invokevirtual 42, 3) := by decide +kernel
theorem d_T_writeGuard_25 : decode b_T_writeGuard 25 = .ok (.aload_n 0, 1) := by decide +kernel
theorem d_T_writeGuard_26 : decode b_T_writeGuard 26 = .ok (.getfield 18, 3) := by decide +kernel
theorem d_T_writeGuard_29 : decode b_T_writeGuard 29 = .ok (.sipush 454, 3) := by decide +kernel
theorem d_T_writeGuard_32 : decode b_T_writeGuard 32 = .ok (.iconst 4, 1) := by decide +kernel
theorem d_T_writeGuard_33 : decode b_T_writeGuard 33 = .ok (.lconst 1, 1) := by decide +kernel
theorem d_T_writeGuard_34 : decode b_T_writeGuard 34 = .ok (.invokevirtual 42, 3) := by decide +kernel
theorem d_T_writeGuard_37 : decode b_T_writeGuard 37 = .ok (.aload_n 0, 1) := by decide +kernel
theorem d_T_writeGuard_38 : decode b_T_writeGuard 38 = .ok (.getfield 18, 3) := by decide +kernel
theorem d_T_writeGuard_41 : decode b_T_writeGuard 41 = .ok (.sipush 458, 3) := by decide +kernel
theorem d_T_writeGuard_44 : decode b_T_writeGuard 44 = .ok (.iconst 4, 1) := by decide +kernel
theorem d_T_writeGuard_45 : decode b_T_writeGuard 45 = .ok (.aload_n 0, 1) := by decide +kernel
theorem d_T_writeGuard_46 : decode b_T_writeGuard 46 = .ok (.getfield 9, 3) := by decide +kernel
theorem d_T_writeGuard_49 : decode b_T_writeGuard 49 = .ok (.iconst 1, 1) := by decide +kernel
theorem d_T_writeGuard_50 : decode b_T_writeGuard 50 = .ok (.isub, 1) := by decide +kernel
theorem d_T_writeGuard_51 : decode b_T_writeGuard 51 = .ok (.i2l, 1) := by decide +kernel
theorem d_T_writeGuard_52 : decode b_T_writeGuard 52 = .ok (.invokevirtual 42, 3) := by decide +kernel
theorem d_T_writeGuard_55 : decode b_T_writeGuard 55 = .ok (.aload_n 0, 1) := by decide +kernel
theorem d_T_writeGuard_56 : decode b_T_writeGuard 56 = .ok (.getfield 18, 3) := by decide +kernel
theorem d_T_writeGuard_59 : decode b_T_writeGuard 59 = .ok (.sipush 510, 3) := by decide +kernel
theorem d_T_writeGuard_62 : decode b_T_writeGuard 62 = .ok (.iconst 1, 1) := by decide +kernel
theorem d_T_writeGuard_63 : decode b_T_writeGuard 63 = .ok (.ldc2_w 179, 3) := by decide +kernel
theorem d_T_writeGuard_66 : decode b_T_writeGuard 66 = .ok (.invokevirtual 42, 3) := by decide +kernel
theorem d_T_writeGuard_69 : decode b_T_writeGuard 69 = .ok (.aload_n 0, 1) := by decide +kernel
theorem d_T_writeGuard_70 : decode b_T_writeGuard 70 = .ok (.getfield 18, 3) := by decide +kernel
theorem d_T_writeGuard_73 : decode b_T_writeGuard 73 = .ok (.sipush 511, 3) := by decide +kernel
theorem d_T_writeGuard_76 : decode b_T_writeGuard 76 = .ok (.iconst 1, 1) := by decide +kernel
theorem d_T_writeGuard_77 : decode b_T_writeGuard 77 = .ok (.ldc2_w 181, 3) := by decide +kernel
theorem d_T_writeGuard_80 : decode b_T_writeGuard 80 = .ok (.invokevirtual 42, 3) := by decide +kernel
theorem d_T_writeGuard_83 : decode b_T_writeGuard 83 = .ok (.return_, 1) := by decide +kernel
