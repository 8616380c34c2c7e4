theorem dX0_init_0 : decode cX0_init 0 = .ok (.aload_n 0, 1) := by decide +kernel
theorem dX0_init_1 : decode cX0_init 1 = .ok (.invokespecial 3, 3) := by decide +kernel
theorem dX0_init_4 : decode cX0_init 4 = .ok (.aload_n 0, 1) := by decide +kernel
theorem dX0_init_5 : decode cX0_init 5 = .ok (.iconst 0, 1) := by decide +kernel
theorem dX0_init_6 : decode cX0_init 6 = .ok (.putfield 9, 3) := by decide +kernel
theorem dX0_init_9 : decode cX0_init 9 = .ok (.iconst 0, 1) := by decide +kernel
theorem dX0_init_10 : decode cX0_init 10 = .ok (.iload_n 1, 1) := by decide +kernel
theorem dX0_init_11 : decode cX0_init 11 = .ok (.invokestatic 15, 3) := by decide +kernel
theorem dX0_init_14 : decode cX0_init 14 = .ok (.istore_n 2, 1) := by decide +kernel
theorem dX0_init_15 : decode cX0_init 15 = .ok (.aload_n 0, 1) := by decide +kernel
theorem dX0_init_16 : decode cX0_init 16 = .ok (.iload_n 2, 1) := by decide +kernel
theorem dX0_init_17 : decode cX0_init 17 = .ok (.newarray .int, 2) := by decide +kernel
theorem dX0_init_19 : decode cX0_init 19 = .ok (.putfield 21, 3) := by decide +kernel
theorem dX0_init_22 : decode cX0_init 22 = .ok (.aload_n 0, 1) := by decide +kernel
theorem dX0_init_23 : decode cX0_init 23 = .ok (.iload_n 2, 1) := by decide +kernel
theorem dX0_init_24 : decode cX0_init 24 = .ok (.newarray .int, 2) := by decide +kernel
theorem dX0_init_26 : decode cX0_init 26 = .ok (.putfield 25, 3) := by decide +kernel
theorem dX0_init_29 : decode cX0_init 29 = .ok (.return_, 1) := by decide +kernel
theorem dX0_size_0 : decode cX0_size 0 = .ok (.aload_n 0, 1) := by decide +kernel
theorem dX0_size_1 : decode cX0_size 1 = .ok (.getfield 9, 3) := by decide +kernel
theorem dX0_size_4 : decode cX0_size 4 = .ok (.ireturn, 1) := by decide +kernel
theorem dX0_byteCount_0 : decode cX0_byteCount 0 = .ok (.aload_n 0, 1) := by decide +kernel
theorem dX0_byteCount_1 : decode cX0_byteCount 1 = .ok (.getfield 9, 3) := by decide +kernel
theorem dX0_byteCount_4 : decode cX0_byteCount 4 = .ok (.bipush 7, 2) := by decide +kernel
theorem dX0_byteCount_6 : decode cX0_byteCount 6 = .ok (.iadd, 1) := by decide +kernel
theorem dX0_byteCount_7 : decode cX0_byteCount 7 = .ok (.iconst 3, 1) := by decide +kernel
theorem dX0_byteCount_8 : decode cX0_byteCount 8 = .ok (.ishr, 1) := by decide +kernel
theorem dX0_byteCount_9 : decode cX0_byteCount 9 = .ok (.ireturn, 1) := by decide +kernel
theorem dX0_clear_0 : decode cX0_clear 0 = .ok (.aload_n 0, 1) := by decide +kernel
theorem dX0_clear_1 : decode cX0_clear 1 = .ok (.getfield 21, 3) := by decide +kernel
theorem dX0_clear_4 : decode cX0_clear 4 = .ok (.iconst 0, 1) := by decide +kernel
theorem dX0_clear_5 : decode cX0_clear 5 = .ok (.invokestatic 28, 3) := by decide +kernel
theorem dX0_clear_8 : decode cX0_clear 8 = .ok (.aload_n 0, 1) := by decide +kernel
theorem dX0_clear_9 : decode cX0_clear 9 = .ok (.getfield 25, 3) := by decide +kernel
theorem dX0_clear_12 : decode cX0_clear 12 = .ok (.iconst 0, 1) := by decide +kernel
theorem dX0_clear_13 : decode cX0_clear 13 = .ok (.invokestatic 28, 3) := by decide +kernel
theorem dX0_clear_16 : decode cX0_clear 16 = .ok (.aload_n 0, 1) := by decide +kernel
theorem dX0_clear_17 : decode cX0_clear 17 = .ok (.iconst 0, 1) := by decide +kernel
theorem dX0_clear_18 : decode cX0_clear 18 = .ok (.putfield 9, 3) := by decide +kernel
theorem dX0_clear_21 : decode cX0_clear 21 = .ok (.return_, 1) := by decide +kernel
theorem dX0_write_0 : decode cX0_write 0 = .ok (.iconst 0, 1) := by decide +kernel
theorem dX0_write_1 : decode cX0_write 1 = .ok (.istore_n 3, 1) := by decide +kernel
theorem dX0_write_2 : decode cX0_write 2 = .ok (.iload_n 3, 1) := by decide +kernel
theorem dX0_write_3 : decode cX0_write 3 = .ok (.aload_n 1, 1) := by decide +kernel
theorem dX0_write_4 : decode cX0_write 4 = .ok (.invokevirtual 34, 3) := by decide +kernel
theorem dX0_write_7 : decode cX0_write 7 = .ok (.if_icmp .ge 50, 3) := by decide +kernel
theorem dX0_write_10 : decode cX0_write 10 = .ok (.aload_n 1, 1) := by decide +kernel
theorem dX0_write_11 : decode cX0_write 11 = .ok (.iload_n 3, 1) := by decide +kernel
theorem dX0_write_12 : decode cX0_write 12 = .ok (.invokevirtual 39, 3) := by decide +kernel
theorem dX0_write_15 : decode cX0_write 15 = .ok (.istore 4, 2) := by decide +kernel
theorem dX0_write_17 : decode cX0_write 17 = .ok (.iload 4, 2) := by decide +kernel
theorem dX0_write_19 : decode cX0_write 19 = .ok (.bipush 8, 2) := by decide +kernel
theorem dX0_write_21 : decode cX0_write 21 = .ok (.if_icmp .ne 15, 3) := by decide +kernel
theorem dX0_write_24 : decode cX0_write 24 = .ok (.aload_n 0, 1) := by decide +kernel
theorem dX0_write_25 : decode cX0_write 25 = .ok (.aload_n 1, 1) := by decide +kernel
theorem dX0_write_26 : decode cX0_write 26 = .ok (.iload_n 3, 1) := by decide +kernel
theorem dX0_write_27 : decode cX0_write 27 = .ok (.invokevirtual 43, 3) := by decide +kernel
theorem dX0_write_30 : decode cX0_write 30 = .ok (.invokevirtual 46, 3) := by decide +kernel
theorem dX0_write_33 : decode cX0_write 33 = .ok (.goto 18, 3) := by decide +kernel
theorem dX0_write_36 : decode cX0_write 36 = .ok (.aload_n 0, 1) := by decide +kernel
theorem dX0_write_37 : decode cX0_write 37 = .ok (.aload_n 2, 1) := by decide +kernel
theorem dX0_write_38 : decode cX0_write 38 = .ok (.iload 4, 2) := by decide +kernel
theorem dX0_write_40 : decode cX0_write 40 = .ok (.invokevirtual 50, 3) := by decide +kernel
theorem dX0_write_43 : decode cX0_write 43 = .ok (.aload_n 1, 1) := by decide +kernel
theorem dX0_write_44 : decode cX0_write 44 = .ok (.iload_n 3, 1) := by decide +kernel
theorem dX0_write_45 : decode cX0_write 45 = .ok (.invokevirtual 43, 3) := by decide +kernel
theorem dX0_write_48 : decode cX0_write 48 = .ok (.invokevirtual 55, 3) := by decide +kernel
theorem dX0_write_51 : decode cX0_write 51 = .ok (.iinc 3 1, 3) := by decide +kernel
theorem dX0_write_54 : decode cX0_write 54 = .ok (.goto (-52), 3) := by decide +kernel
theorem dX0_write_57 : decode cX0_write 57 = .ok (.return_, 1) := by decide +kernel
theorem dX0_bitNow_0 : decode cX0_bitNow 0 = .ok (.iload_n 1, 1) := by decide +kernel
theorem dX0_bitNow_1 : decode cX0_bitNow 1 = .ok (.aload_n 0, 1) := by decide +kernel
theorem dX0_bitNow_2 : decode cX0_bitNow 2 = .ok (.getfield 9, 3) := by decide +kernel
theorem dX0_bitNow_5 : decode cX0_bitNow 5 = .ok (.invokestatic 59, 3) := by decide +kernel
theorem dX0_bitNow_8 : decode cX0_bitNow 8 = .ok (.ifCond .eq 14, 3) := by decide +kernel
theorem dX0_bitNow_11 : decode cX0_bitNow 11 = .ok (.aload_n 0, 1) := by decide +kernel
theorem dX0_bitNow_12 : decode cX0_bitNow 12 = .ok (.getfield 25, 3) := by decide +kernel
theorem dX0_bitNow_15 : decode cX0_bitNow 15 = .ok (.iload_n 1, 1) := by decide +kernel
theorem dX0_bitNow_16 : decode cX0_bitNow 16 = .ok (.invokestatic 63, 3) := by decide +kernel
theorem dX0_bitNow_19 : decode cX0_bitNow 19 = .ok (.goto 4, 3) := by decide +kernel
theorem dX0_bitNow_22 : decode cX0_bitNow 22 = .ok (.iconst (-1), 1) := by decide +kernel
theorem dX0_bitNow_23 : decode cX0_bitNow 23 = .ok (.ireturn, 1) := by decide +kernel
theorem dX0_hash_0 : decode cX0_hash 0 = .ok (.lconst 1, 1) := by decide +kernel
theorem dX0_hash_1 : decode cX0_hash 1 = .ok (.lstore_n 1, 1) := by decide +kernel
theorem dX0_hash_2 : decode cX0_hash 2 = .ok (.iconst 0, 1) := by decide +kernel
theorem dX0_hash_3 : decode cX0_hash 3 = .ok (.istore_n 3, 1) := by decide +kernel
theorem dX0_hash_4 : decode cX0_hash 4 = .ok (.iload_n 3, 1) := by decide +kernel
theorem dX0_hash_5 : decode cX0_hash 5 = .ok (.aload_n 0, 1) := by decide +kernel
theorem dX0_hash_6 : decode cX0_hash 6 = .ok (.invokevirtual 67, 3) := by decide +kernel
theorem dX0_hash_9 : decode cX0_hash 9 = .ok (.if_icmp .ge 25, 3) := by decide +kernel
theorem dX0_hash_12 : decode cX0_hash 12 = .ok (.ldc2_w 70, 3) := by decide +kernel
theorem dX0_hash_15 : decode cX0_hash 15 = .ok (.lload_n 1, 1) := by decide +kernel
theorem dX0_hash_16 : decode cX0_hash 16 = .ok (.lmul, 1) := by decide +kernel
theorem dX0_hash_17 : decode cX0_hash 17 = .ok (.aload_n 0, 1) := by decide +kernel
theorem dX0_hash_18 : decode cX0_hash 18 = .ok (.getfield 25, 3) := by decide +kernel
theorem dX0_hash_21 : decode cX0_hash 21 = .ok (.iload_n 3, 1) := by decide +kernel
theorem dX0_hash_22 : decode cX0_hash 22 = .ok (.invokestatic 72, 3) := by decide +kernel
theorem dX0_hash_25 : decode cX0_hash 25 = .ok (.i2l, 1) := by decide +kernel
theorem dX0_hash_26 : decode cX0_hash 26 = .ok (.ladd, 1) := by decide +kernel
theorem dX0_hash_27 : decode cX0_hash 27 = .ok (.lstore_n 1, 1) := by decide +kernel
theorem dX0_hash_28 : decode cX0_hash 28 = .ok (.iinc 3 1, 3) := by decide +kernel
theorem dX0_hash_31 : decode cX0_hash 31 = .ok (.goto (-27), 3) := by decide +kernel
theorem dX0_hash_34 : decode cX0_hash 34 = .ok (.lload_n 1, 1) := by decide +kernel
theorem dX0_hash_35 : decode cX0_hash 35 = .ok (.lreturn, 1) := by decide +kernel
theorem dX0_turn_0 : decode cX0_turn 0 = .ok (.iload_n 1, 1) := by decide +kernel
theorem dX0_turn_1 : decode cX0_turn 1 = .ok (.ifCond .lt 22, 3) := by decide +kernel
theorem dX0_turn_4 : decode cX0_turn 4 = .ok (.iload_n 1, 1) := by decide +kernel
theorem dX0_turn_5 : decode cX0_turn 5 = .ok (.aload_n 0, 1) := by decide +kernel
theorem dX0_turn_6 : decode cX0_turn 6 = .ok (.getfield 25, 3) := by decide +kernel
theorem dX0_turn_9 : decode cX0_turn 9 = .ok (.arraylength, 1) := by decide +kernel
theorem dX0_turn_10 : decode cX0_turn 10 = .ok (.if_icmp .ge 13, 3) := by decide +kernel
theorem dX0_turn_13 : decode cX0_turn 13 = .ok (.aload_n 0, 1) := by decide +kernel
theorem dX0_turn_14 : decode cX0_turn 14 = .ok (.getfield 25, 3) := by decide +kernel
theorem dX0_turn_17 : decode cX0_turn 17 = .ok (.iload_n 1, 1) := by decide +kernel
theorem dX0_turn_18 : decode cX0_turn 18 = .ok (.dup2, 1) := by decide +kernel
theorem dX0_turn_19 : decode cX0_turn 19 = .ok (.iaload, 1) := by decide +kernel
theorem dX0_turn_20 : decode cX0_turn 20 = .ok (.iload_n 2, 1) := by decide +kernel
theorem dX0_turn_21 : decode cX0_turn 21 = .ok (.ixor, 1) := by decide +kernel
theorem dX0_turn_22 : decode cX0_turn 22 = .ok (.iastore, 1) := by decide +kernel
theorem dX0_turn_23 : decode cX0_turn 23 = .ok (.aload_n 0, 1) := by decide +kernel
theorem dX0_turn_24 : decode cX0_turn 24 = .ok (.getfield 25, 3) := by decide +kernel
theorem dX0_turn_27 : decode cX0_turn 27 = .ok (.iload_n 1, 1) := by decide +kernel
theorem dX0_turn_28 : decode cX0_turn 28 = .ok (.invokestatic 72, 3) := by decide +kernel
theorem dX0_turn_31 : decode cX0_turn 31 = .ok (.ireturn, 1) := by decide +kernel
theorem dX0_firstTurned_0 : decode cX0_firstTurned 0 = .ok (.iconst 0, 1) := by decide +kernel
theorem dX0_firstTurned_1 : decode cX0_firstTurned 1 = .ok (.istore_n 1, 1) := by decide +kernel
theorem dX0_firstTurned_2 : decode cX0_firstTurned 2 = .ok (.iload_n 1, 1) := by decide +kernel
theorem dX0_firstTurned_3 : decode cX0_firstTurned 3 = .ok (.bipush 8, 2) := by decide +kernel
theorem dX0_firstTurned_5 : decode cX0_firstTurned 5 = .ok (.aload_n 0, 1) := by decide +kernel
theorem dX0_firstTurned_6 : decode cX0_firstTurned 6 = .ok (.invokevirtual 67, 3) := by decide +kernel
theorem dX0_firstTurned_9 : decode cX0_firstTurned 9 = .ok (.imul, 1) := by decide +kernel
theorem dX0_firstTurned_10 : decode cX0_firstTurned 10 = .ok (.if_icmp .ge 30, 3) := by decide +kernel
theorem dX0_firstTurned_13 : decode cX0_firstTurned 13 = .ok (.aload_n 0, 1) := by decide +kernel
theorem dX0_firstTurned_14 : decode cX0_firstTurned 14 = .ok (.getfield 21, 3) := by decide +kernel
theorem dX0_firstTurned_17 : decode cX0_firstTurned 17 = .ok (.iload_n 1, 1) := by decide +kernel
theorem dX0_firstTurned_18 : decode cX0_firstTurned 18 = .ok (.invokestatic 63, 3) := by decide +kernel
theorem dX0_firstTurned_21 : decode cX0_firstTurned 21 = .ok (.aload_n 0, 1) := by decide +kernel
theorem dX0_firstTurned_22 : decode cX0_firstTurned 22 = .ok (.getfield 25, 3) := by decide +kernel
theorem dX0_firstTurned_25 : decode cX0_firstTurned 25 = .ok (.iload_n 1, 1) := by decide +kernel
theorem dX0_firstTurned_26 : decode cX0_firstTurned 26 = .ok (.invokestatic 63, 3) := by decide +kernel
theorem dX0_firstTurned_29 : decode cX0_firstTurned 29 = .ok (.if_icmp .eq 5, 3) := by decide +kernel
theorem dX0_firstTurned_32 : decode cX0_firstTurned 32 = .ok (.iload_n 1, 1) := by decide +kernel
theorem dX0_firstTurned_33 : decode cX0_firstTurned 33 = .ok (.ireturn, 1) := by decide +kernel
theorem dX0_firstTurned_34 : decode cX0_firstTurned 34 = .ok (.iinc 1 1, 3) := by decide +kernel
theorem dX0_firstTurned_37 : decode cX0_firstTurned 37 = .ok (.goto (-35), 3) := by decide +kernel
theorem dX0_firstTurned_40 : decode cX0_firstTurned 40 = .ok (.iconst (-1), 1) := by decide +kernel
theorem dX0_firstTurned_41 : decode cX0_firstTurned 41 = .ok (.ireturn, 1) := by decide +kernel
theorem dX0_bitOf_0 : decode cX0_bitOf 0 = .ok (.aload_n 0, 1) := by decide +kernel
theorem dX0_bitOf_1 : decode cX0_bitOf 1 = .ok (.iload_n 1, 1) := by decide +kernel
theorem dX0_bitOf_2 : decode cX0_bitOf 2 = .ok (.iconst 3, 1) := by decide +kernel
theorem dX0_bitOf_3 : decode cX0_bitOf 3 = .ok (.ishr, 1) := by decide +kernel
theorem dX0_bitOf_4 : decode cX0_bitOf 4 = .ok (.invokestatic 72, 3) := by decide +kernel
theorem dX0_bitOf_7 : decode cX0_bitOf 7 = .ok (.bipush 7, 2) := by decide +kernel
theorem dX0_bitOf_9 : decode cX0_bitOf 9 = .ok (.iload_n 1, 1) := by decide +kernel
theorem dX0_bitOf_10 : decode cX0_bitOf 10 = .ok (.bipush 7, 2) := by decide +kernel
theorem dX0_bitOf_12 : decode cX0_bitOf 12 = .ok (.iand, 1) := by decide +kernel
theorem dX0_bitOf_13 : decode cX0_bitOf 13 = .ok (.isub, 1) := by decide +kernel
theorem dX0_bitOf_14 : decode cX0_bitOf 14 = .ok (.ishr, 1) := by decide +kernel
theorem dX0_bitOf_15 : decode cX0_bitOf 15 = .ok (.iconst 1, 1) := by decide +kernel
theorem dX0_bitOf_16 : decode cX0_bitOf 16 = .ok (.iand, 1) := by decide +kernel
theorem dX0_bitOf_17 : decode cX0_bitOf 17 = .ok (.ireturn, 1) := by decide +kernel
theorem dX0_putNumber_0 : decode cX0_putNumber 0 = .ok (.iload_n 1, 1) := by decide +kernel
theorem dX0_putNumber_1 : decode cX0_putNumber 1 = .ok (.tableswitch 68 0 2 #[27, 35, 43], 27) := by decide +kernel
theorem dX0_putNumber_28 : decode cX0_putNumber 28 = .ok (.aload_n 0, 1) := by decide +kernel
theorem dX0_putNumber_29 : decode cX0_putNumber 29 = .ok (.iload_n 2, 1) := by decide +kernel
theorem dX0_putNumber_30 : decode cX0_putNumber 30 = .ok (.invokevirtual 75, 3) := by decide +kernel
theorem dX0_putNumber_33 : decode cX0_putNumber 33 = .ok (.goto 56, 3) := by decide +kernel
theorem dX0_putNumber_36 : decode cX0_putNumber 36 = .ok (.aload_n 0, 1) := by decide +kernel
theorem dX0_putNumber_37 : decode cX0_putNumber 37 = .ok (.iload_n 2, 1) := by decide +kernel
theorem dX0_putNumber_38 : decode cX0_putNumber 38 = .ok (.invokevirtual 78, 3) := by decide +kernel
theorem dX0_putNumber_41 : decode cX0_putNumber 41 = .ok (.goto 48, 3) := by decide +kernel
theorem dX0_putNumber_44 : decode cX0_putNumber 44 = .ok (.iload_n 2, 1) := by decide +kernel
theorem dX0_putNumber_45 : decode cX0_putNumber 45 = .ok (.iconst 1, 1) := by decide +kernel
theorem dX0_putNumber_46 : decode cX0_putNumber 46 = .ok (.iadd, 1) := by decide +kernel
theorem dX0_putNumber_47 : decode cX0_putNumber 47 = .ok (.invokestatic 81, 3) := by decide +kernel
theorem dX0_putNumber_50 : decode cX0_putNumber 50 = .ok (.iconst 1, 1) := by decide +kernel
theorem dX0_putNumber_51 : decode cX0_putNumber 51 = .ok (.isub, 1) := by decide +kernel
theorem dX0_putNumber_52 : decode cX0_putNumber 52 = .ok (.istore_n 3, 1) := by decide +kernel
theorem dX0_putNumber_53 : decode cX0_putNumber 53 = .ok (.aload_n 0, 1) := by decide +kernel
theorem dX0_putNumber_54 : decode cX0_putNumber 54 = .ok (.iload_n 3, 1) := by decide +kernel
theorem dX0_putNumber_55 : decode cX0_putNumber 55 = .ok (.invokevirtual 78, 3) := by decide +kernel
theorem dX0_putNumber_58 : decode cX0_putNumber 58 = .ok (.aload_n 0, 1) := by decide +kernel
theorem dX0_putNumber_59 : decode cX0_putNumber 59 = .ok (.iload_n 2, 1) := by decide +kernel
theorem dX0_putNumber_60 : decode cX0_putNumber 60 = .ok (.iconst 1, 1) := by decide +kernel
theorem dX0_putNumber_61 : decode cX0_putNumber 61 = .ok (.iadd, 1) := by decide +kernel
theorem dX0_putNumber_62 : decode cX0_putNumber 62 = .ok (.iload_n 3, 1) := by decide +kernel
theorem dX0_putNumber_63 : decode cX0_putNumber 63 = .ok (.invokevirtual 84, 3) := by decide +kernel
theorem dX0_putNumber_66 : decode cX0_putNumber 66 = .ok (.goto 23, 3) := by decide +kernel
theorem dX0_putNumber_69 : decode cX0_putNumber 69 = .ok (.iload_n 1, 1) := by decide +kernel
theorem dX0_putNumber_70 : decode cX0_putNumber 70 = .ok (.iconst 3, 1) := by decide +kernel
theorem dX0_putNumber_71 : decode cX0_putNumber 71 = .ok (.isub, 1) := by decide +kernel
theorem dX0_putNumber_72 : decode cX0_putNumber 72 = .ok (.istore 4, 2) := by decide +kernel
theorem dX0_putNumber_74 : decode cX0_putNumber 74 = .ok (.aload_n 0, 1) := by decide +kernel
theorem dX0_putNumber_75 : decode cX0_putNumber 75 = .ok (.iload_n 2, 1) := by decide +kernel
theorem dX0_putNumber_76 : decode cX0_putNumber 76 = .ok (.iload 4, 2) := by decide +kernel
theorem dX0_putNumber_78 : decode cX0_putNumber 78 = .ok (.ishr, 1) := by decide +kernel
theorem dX0_putNumber_79 : decode cX0_putNumber 79 = .ok (.invokevirtual 75, 3) := by decide +kernel
theorem dX0_putNumber_82 : decode cX0_putNumber 82 = .ok (.aload_n 0, 1) := by decide +kernel
theorem dX0_putNumber_83 : decode cX0_putNumber 83 = .ok (.iload_n 2, 1) := by decide +kernel
theorem dX0_putNumber_84 : decode cX0_putNumber 84 = .ok (.iload 4, 2) := by decide +kernel
theorem dX0_putNumber_86 : decode cX0_putNumber 86 = .ok (.invokevirtual 84, 3) := by decide +kernel
theorem dX0_putNumber_89 : decode cX0_putNumber 89 = .ok (.return_, 1) := by decide +kernel
theorem dX0_putUnary_0 : decode cX0_putUnary 0 = .ok (.iconst 0, 1) := by decide +kernel
theorem dX0_putUnary_1 : decode cX0_putUnary 1 = .ok (.istore_n 2, 1) := by decide +kernel
theorem dX0_putUnary_2 : decode cX0_putUnary 2 = .ok (.iload_n 2, 1) := by decide +kernel
theorem dX0_putUnary_3 : decode cX0_putUnary 3 = .ok (.iload_n 1, 1) := by decide +kernel
theorem dX0_putUnary_4 : decode cX0_putUnary 4 = .ok (.if_icmp .ge 14, 3) := by decide +kernel
theorem dX0_putUnary_7 : decode cX0_putUnary 7 = .ok (.aload_n 0, 1) := by decide +kernel
theorem dX0_putUnary_8 : decode cX0_putUnary 8 = .ok (.iconst 0, 1) := by decide +kernel
theorem dX0_putUnary_9 : decode cX0_putUnary 9 = .ok (.invokevirtual 46, 3) := by decide +kernel
theorem dX0_putUnary_12 : decode cX0_putUnary 12 = .ok (.iinc 2 1, 3) := by decide +kernel
theorem dX0_putUnary_15 : decode cX0_putUnary 15 = .ok (.goto (-13), 3) := by decide +kernel
theorem dX0_putUnary_18 : decode cX0_putUnary 18 = .ok (.aload_n 0, 1) := by decide +kernel
theorem dX0_putUnary_19 : decode cX0_putUnary 19 = .ok (.iconst 1, 1) := by decide +kernel
theorem dX0_putUnary_20 : decode cX0_putUnary 20 = .ok (.invokevirtual 46, 3) := by decide +kernel
theorem dX0_putUnary_23 : decode cX0_putUnary 23 = .ok (.return_, 1) := by decide +kernel
theorem dX0_putDoubled_0 : decode cX0_putDoubled 0 = .ok (.iload_n 1, 1) := by decide +kernel
theorem dX0_putDoubled_1 : decode cX0_putDoubled 1 = .ok (.iconst 1, 1) := by decide +kernel
theorem dX0_putDoubled_2 : decode cX0_putDoubled 2 = .ok (.iadd, 1) := by decide +kernel
theorem dX0_putDoubled_3 : decode cX0_putDoubled 3 = .ok (.invokestatic 81, 3) := by decide +kernel
theorem dX0_putDoubled_6 : decode cX0_putDoubled 6 = .ok (.istore_n 2, 1) := by decide +kernel
theorem dX0_putDoubled_7 : decode cX0_putDoubled 7 = .ok (.iconst 1, 1) := by decide +kernel
theorem dX0_putDoubled_8 : decode cX0_putDoubled 8 = .ok (.istore_n 3, 1) := by decide +kernel
theorem dX0_putDoubled_9 : decode cX0_putDoubled 9 = .ok (.iload_n 3, 1) := by decide +kernel
theorem dX0_putDoubled_10 : decode cX0_putDoubled 10 = .ok (.iload_n 2, 1) := by decide +kernel
theorem dX0_putDoubled_11 : decode cX0_putDoubled 11 = .ok (.if_icmp .ge 14, 3) := by decide +kernel
theorem dX0_putDoubled_14 : decode cX0_putDoubled 14 = .ok (.aload_n 0, 1) := by decide +kernel
theorem dX0_putDoubled_15 : decode cX0_putDoubled 15 = .ok (.iconst 0, 1) := by decide +kernel
theorem dX0_putDoubled_16 : decode cX0_putDoubled 16 = .ok (.invokevirtual 46, 3) := by decide +kernel
theorem dX0_putDoubled_19 : decode cX0_putDoubled 19 = .ok (.iinc 3 1, 3) := by decide +kernel
theorem dX0_putDoubled_22 : decode cX0_putDoubled 22 = .ok (.goto (-13), 3) := by decide +kernel
theorem dX0_putDoubled_25 : decode cX0_putDoubled 25 = .ok (.aload_n 0, 1) := by decide +kernel
theorem dX0_putDoubled_26 : decode cX0_putDoubled 26 = .ok (.iload_n 1, 1) := by decide +kernel
theorem dX0_putDoubled_27 : decode cX0_putDoubled 27 = .ok (.iconst 1, 1) := by decide +kernel
theorem dX0_putDoubled_28 : decode cX0_putDoubled 28 = .ok (.iadd, 1) := by decide +kernel
theorem dX0_putDoubled_29 : decode cX0_putDoubled 29 = .ok (.iload_n 2, 1) := by decide +kernel
theorem dX0_putDoubled_30 : decode cX0_putDoubled 30 = .ok (.invokevirtual 84, 3) := by decide +kernel
theorem dX0_putDoubled_33 : decode cX0_putDoubled 33 = .ok (.return_, 1) := by decide +kernel
theorem dX0_putLowest_0 : decode cX0_putLowest 0 = .ok (.iload_n 2, 1) := by decide +kernel
theorem dX0_putLowest_1 : decode cX0_putLowest 1 = .ok (.iconst 1, 1) := by decide +kernel
theorem dX0_putLowest_2 : decode cX0_putLowest 2 = .ok (.isub, 1) := by decide +kernel
theorem dX0_putLowest_3 : decode cX0_putLowest 3 = .ok (.istore_n 3, 1) := by decide +kernel
theorem dX0_putLowest_4 : decode cX0_putLowest 4 = .ok (.iload_n 3, 1) := by decide +kernel
theorem dX0_putLowest_5 : decode cX0_putLowest 5 = .ok (.ifCond .lt 18, 3) := by decide +kernel
theorem dX0_putLowest_8 : decode cX0_putLowest 8 = .ok (.aload_n 0, 1) := by decide +kernel
theorem dX0_putLowest_9 : decode cX0_putLowest 9 = .ok (.iload_n 1, 1) := by decide +kernel
theorem dX0_putLowest_10 : decode cX0_putLowest 10 = .ok (.iload_n 3, 1) := by decide +kernel
theorem dX0_putLowest_11 : decode cX0_putLowest 11 = .ok (.ishr, 1) := by decide +kernel
theorem dX0_putLowest_12 : decode cX0_putLowest 12 = .ok (.iconst 1, 1) := by decide +kernel
theorem dX0_putLowest_13 : decode cX0_putLowest 13 = .ok (.iand, 1) := by decide +kernel
theorem dX0_putLowest_14 : decode cX0_putLowest 14 = .ok (.invokevirtual 46, 3) := by decide +kernel
theorem dX0_putLowest_17 : decode cX0_putLowest 17 = .ok (.iinc 3 (-1), 3) := by decide +kernel
theorem dX0_putLowest_20 : decode cX0_putLowest 20 = .ok (.goto (-16), 3) := by decide +kernel
theorem dX0_putLowest_23 : decode cX0_putLowest 23 = .ok (.return_, 1) := by decide +kernel
theorem dX0_put_0 : decode cX0_put 0 = .ok (.aload_n 0, 1) := by decide +kernel
theorem dX0_put_1 : decode cX0_put 1 = .ok (.getfield 9, 3) := by decide +kernel
theorem dX0_put_4 : decode cX0_put 4 = .ok (.iconst 3, 1) := by decide +kernel
theorem dX0_put_5 : decode cX0_put 5 = .ok (.ishr, 1) := by decide +kernel
theorem dX0_put_6 : decode cX0_put 6 = .ok (.istore_n 2, 1) := by decide +kernel
theorem dX0_put_7 : decode cX0_put 7 = .ok (.iload_n 2, 1) := by decide +kernel
theorem dX0_put_8 : decode cX0_put 8 = .ok (.ifCond .lt 64, 3) := by decide +kernel
theorem dX0_put_11 : decode cX0_put 11 = .ok (.iload_n 2, 1) := by decide +kernel
theorem dX0_put_12 : decode cX0_put 12 = .ok (.aload_n 0, 1) := by decide +kernel
theorem dX0_put_13 : decode cX0_put 13 = .ok (.getfield 21, 3) := by decide +kernel
theorem dX0_put_16 : decode cX0_put 16 = .ok (.arraylength, 1) := by decide +kernel
theorem dX0_put_17 : decode cX0_put 17 = .ok (.if_icmp .ge 55, 3) := by decide +kernel
theorem dX0_put_20 : decode cX0_put 20 = .ok (.iload_n 2, 1) := by decide +kernel
theorem dX0_put_21 : decode cX0_put 21 = .ok (.aload_n 0, 1) := by decide +kernel
theorem dX0_put_22 : decode cX0_put 22 = .ok (.getfield 25, 3) := by decide +kernel
theorem dX0_put_25 : decode cX0_put 25 = .ok (.arraylength, 1) := by decide +kernel
theorem dX0_put_26 : decode cX0_put 26 = .ok (.if_icmp .ge 46, 3) := by decide +kernel
theorem dX0_put_29 : decode cX0_put 29 = .ok (.iload_n 1, 1) := by decide +kernel
theorem dX0_put_30 : decode cX0_put 30 = .ok (.bipush 7, 2) := by decide +kernel
theorem dX0_put_32 : decode cX0_put 32 = .ok (.aload_n 0, 1) := by decide +kernel
theorem dX0_put_33 : decode cX0_put 33 = .ok (.getfield 9, 3) := by decide +kernel
theorem dX0_put_36 : decode cX0_put 36 = .ok (.bipush 7, 2) := by decide +kernel
theorem dX0_put_38 : decode cX0_put 38 = .ok (.iand, 1) := by decide +kernel
theorem dX0_put_39 : decode cX0_put 39 = .ok (.isub, 1) := by decide +kernel
theorem dX0_put_40 : decode cX0_put 40 = .ok (.ishl, 1) := by decide +kernel
theorem dX0_put_41 : decode cX0_put 41 = .ok (.istore_n 3, 1) := by decide +kernel
theorem dX0_put_42 : decode cX0_put 42 = .ok (.aload_n 0, 1) := by decide +kernel
theorem dX0_put_43 : decode cX0_put 43 = .ok (.getfield 21, 3) := by decide +kernel
theorem dX0_put_46 : decode cX0_put 46 = .ok (.iload_n 2, 1) := by decide +kernel
theorem dX0_put_47 : decode cX0_put 47 = .ok (.dup2, 1) := by decide +kernel
theorem dX0_put_48 : decode cX0_put 48 = .ok (.iaload, 1) := by decide +kernel
theorem dX0_put_49 : decode cX0_put 49 = .ok (.iload_n 3, 1) := by decide +kernel
theorem dX0_put_50 : decode cX0_put 50 = .ok (.ior, 1) := by decide +kernel
theorem dX0_put_51 : decode cX0_put 51 = .ok (.iastore, 1) := by decide +kernel
theorem dX0_put_52 : decode cX0_put 52 = .ok (.aload_n 0, 1) := by decide +kernel
theorem dX0_put_53 : decode cX0_put 53 = .ok (.getfield 25, 3) := by decide +kernel
theorem dX0_put_56 : decode cX0_put 56 = .ok (.iload_n 2, 1) := by decide +kernel
theorem dX0_put_57 : decode cX0_put 57 = .ok (.dup2, 1) := by decide +kernel
theorem dX0_put_58 : decode cX0_put 58 = .ok (.iaload, 1) := by decide +kernel
theorem dX0_put_59 : decode cX0_put 59 = .ok (.iload_n 3, 1) := by decide +kernel
theorem dX0_put_60 : decode cX0_put 60 = .ok (.ior, 1) := by decide +kernel
theorem dX0_put_61 : decode cX0_put 61 = .ok (.iastore, 1) := by decide +kernel
theorem dX0_put_62 : decode cX0_put 62 = .ok (.aload_n 0, 1) := by decide +kernel
theorem dX0_put_63 : decode cX0_put 63 = .ok (.dup, 1) := by decide +kernel
theorem dX0_put_64 : decode cX0_put 64 = .ok (.getfield 9, 3) := by decide +kernel
theorem dX0_put_67 : decode cX0_put 67 = .ok (.iconst 1, 1) := by decide +kernel
theorem dX0_put_68 : decode cX0_put 68 = .ok (.iadd, 1) := by decide +kernel
theorem dX0_put_69 : decode cX0_put 69 = .ok (.putfield 9, 3) := by decide +kernel
theorem dX0_put_72 : decode cX0_put 72 = .ok (.return_, 1) := by decide +kernel
theorem dX1_init_0 : decode cX1_init 0 = .ok (.aload_n 0, 1) := by decide +kernel
theorem dX1_init_1 : decode cX1_init 1 = .ok (.invokespecial 3, 3) := by decide +kernel
theorem dX1_init_4 : decode cX1_init 4 = .ok (.aload_n 0, 1) := by decide +kernel
theorem dX1_init_5 : decode cX1_init 5 = .ok (.sipush 768, 3) := by decide +kernel
theorem dX1_init_8 : decode cX1_init 8 = .ok (.newarray .int, 2) := by decide +kernel
theorem dX1_init_10 : decode cX1_init 10 = .ok (.putfield 11, 3) := by decide +kernel
theorem dX1_init_13 : decode cX1_init 13 = .ok (.aload_n 0, 1) := by decide +kernel
theorem dX1_init_14 : decode cX1_init 14 = .ok (.iconst 0, 1) := by decide +kernel
theorem dX1_init_15 : decode cX1_init 15 = .ok (.putfield 15, 3) := by decide +kernel
theorem dX1_init_18 : decode cX1_init 18 = .ok (.aload_n 0, 1) := by decide +kernel
theorem dX1_init_19 : decode cX1_init 19 = .ok (.iconst 1, 1) := by decide +kernel
theorem dX1_init_20 : decode cX1_init 20 = .ok (.putfield 19, 3) := by decide +kernel
theorem dX1_init_23 : decode cX1_init 23 = .ok (.aload_n 0, 1) := by decide +kernel
theorem dX1_init_24 : decode cX1_init 24 = .ok (.new 23, 3) := by decide +kernel
theorem dX1_init_27 : decode cX1_init 27 = .ok (.dup, 1) := by decide +kernel
theorem dX1_init_28 : decode cX1_init 28 = .ok (.iload_n 1, 1) := by decide +kernel
theorem dX1_init_29 : decode cX1_init 29 = .ok (.invokespecial 25, 3) := by decide +kernel
theorem dX1_init_32 : decode cX1_init 32 = .ok (.putfield 28, 3) := by decide +kernel
theorem dX1_init_35 : decode cX1_init 35 = .ok (.aload_n 0, 1) := by decide +kernel
theorem dX1_init_36 : decode cX1_init 36 = .ok (.new 32, 3) := by decide +kernel
theorem dX1_init_39 : decode cX1_init 39 = .ok (.dup, 1) := by decide +kernel
theorem dX1_init_40 : decode cX1_init 40 = .ok (.iload_n 1, 1) := by decide +kernel
theorem dX1_init_41 : decode cX1_init 41 = .ok (.bipush 64, 2) := by decide +kernel
theorem dX1_init_43 : decode cX1_init 43 = .ok (.imul, 1) := by decide +kernel
theorem dX1_init_44 : decode cX1_init 44 = .ok (.invokespecial 34, 3) := by decide +kernel
theorem dX1_init_47 : decode cX1_init 47 = .ok (.putfield 35, 3) := by decide +kernel
theorem dX1_init_50 : decode cX1_init 50 = .ok (.aload_n 0, 1) := by decide +kernel
theorem dX1_init_51 : decode cX1_init 51 = .ok (.iload_n 1, 1) := by decide +kernel
theorem dX1_init_52 : decode cX1_init 52 = .ok (.newarray .int, 2) := by decide +kernel
theorem dX1_init_54 : decode cX1_init 54 = .ok (.putfield 39, 3) := by decide +kernel
theorem dX1_init_57 : decode cX1_init 57 = .ok (.aload_n 0, 1) := by decide +kernel
theorem dX1_init_58 : decode cX1_init 58 = .ok (.iload_n 1, 1) := by decide +kernel
theorem dX1_init_59 : decode cX1_init 59 = .ok (.newarray .int, 2) := by decide +kernel
theorem dX1_init_61 : decode cX1_init 61 = .ok (.putfield 42, 3) := by decide +kernel
theorem dX1_init_64 : decode cX1_init 64 = .ok (.aload_n 0, 1) := by decide +kernel
theorem dX1_init_65 : decode cX1_init 65 = .ok (.iload_n 1, 1) := by decide +kernel
theorem dX1_init_66 : decode cX1_init 66 = .ok (.newarray .int, 2) := by decide +kernel
theorem dX1_init_68 : decode cX1_init 68 = .ok (.putfield 45, 3) := by decide +kernel
theorem dX1_init_71 : decode cX1_init 71 = .ok (.aload_n 0, 1) := by decide +kernel
theorem dX1_init_72 : decode cX1_init 72 = .ok (.iload_n 1, 1) := by decide +kernel
theorem dX1_init_73 : decode cX1_init 73 = .ok (.iconst 1, 1) := by decide +kernel
theorem dX1_init_74 : decode cX1_init 74 = .ok (.iadd, 1) := by decide +kernel
theorem dX1_init_75 : decode cX1_init 75 = .ok (.newarray .int, 2) := by decide +kernel
theorem dX1_init_77 : decode cX1_init 77 = .ok (.putfield 48, 3) := by decide +kernel
theorem dX1_init_80 : decode cX1_init 80 = .ok (.return_, 1) := by decide +kernel
theorem dX1_isThere_0 : decode cX1_isThere 0 = .ok (.aload_n 0, 1) := by decide +kernel
theorem dX1_isThere_1 : decode cX1_isThere 1 = .ok (.getfield 15, 3) := by decide +kernel
theorem dX1_isThere_4 : decode cX1_isThere 4 = .ok (.ireturn, 1) := by decide +kernel
theorem dX1_forget_0 : decode cX1_forget 0 = .ok (.aload_n 0, 1) := by decide +kernel
theorem dX1_forget_1 : decode cX1_forget 1 = .ok (.iconst 0, 1) := by decide +kernel
theorem dX1_forget_2 : decode cX1_forget 2 = .ok (.putfield 15, 3) := by decide +kernel
theorem dX1_forget_5 : decode cX1_forget 5 = .ok (.return_, 1) := by decide +kernel
theorem dX1_bits_0 : decode cX1_bits 0 = .ok (.aload_n 0, 1) := by decide +kernel
theorem dX1_bits_1 : decode cX1_bits 1 = .ok (.getfield 35, 3) := by decide +kernel
theorem dX1_bits_4 : decode cX1_bits 4 = .ok (.areturn, 1) := by decide +kernel
theorem dX1_kindOf_0 : decode cX1_kindOf 0 = .ok (.aload_n 0, 1) := by decide +kernel
theorem dX1_kindOf_1 : decode cX1_kindOf 1 = .ok (.getfield 39, 3) := by decide +kernel
theorem dX1_kindOf_4 : decode cX1_kindOf 4 = .ok (.iload_n 1, 1) := by decide +kernel
theorem dX1_kindOf_5 : decode cX1_kindOf 5 = .ok (.invokestatic 51, 3) := by decide +kernel
theorem dX1_kindOf_8 : decode cX1_kindOf 8 = .ok (.ireturn, 1) := by decide +kernel
theorem dX1_distanceOf_0 : decode cX1_distanceOf 0 = .ok (.aload_n 0, 1) := by decide +kernel
theorem dX1_distanceOf_1 : decode cX1_distanceOf 1 = .ok (.getfield 42, 3) := by decide +kernel
theorem dX1_distanceOf_4 : decode cX1_distanceOf 4 = .ok (.iload_n 1, 1) := by decide +kernel
theorem dX1_distanceOf_5 : decode cX1_distanceOf 5 = .ok (.invokestatic 51, 3) := by decide +kernel
theorem dX1_distanceOf_8 : decode cX1_distanceOf 8 = .ok (.ireturn, 1) := by decide +kernel
theorem dX1_depthOf_0 : decode cX1_depthOf 0 = .ok (.aload_n 0, 1) := by decide +kernel
theorem dX1_depthOf_1 : decode cX1_depthOf 1 = .ok (.getfield 45, 3) := by decide +kernel
theorem dX1_depthOf_4 : decode cX1_depthOf 4 = .ok (.iload_n 1, 1) := by decide +kernel
theorem dX1_depthOf_5 : decode cX1_depthOf 5 = .ok (.invokestatic 51, 3) := by decide +kernel
theorem dX1_depthOf_8 : decode cX1_depthOf 8 = .ok (.ireturn, 1) := by decide +kernel
theorem dX1_startOf_0 : decode cX1_startOf 0 = .ok (.aload_n 0, 1) := by decide +kernel
theorem dX1_startOf_1 : decode cX1_startOf 1 = .ok (.getfield 48, 3) := by decide +kernel
theorem dX1_startOf_4 : decode cX1_startOf 4 = .ok (.iload_n 1, 1) := by decide +kernel
theorem dX1_startOf_5 : decode cX1_startOf 5 = .ok (.invokestatic 51, 3) := by decide +kernel
theorem dX1_startOf_8 : decode cX1_startOf 8 = .ok (.ireturn, 1) := by decide +kernel
theorem dX1_isPatch_0 : decode cX1_isPatch 0 = .ok (.aload_n 0, 1) := by decide +kernel
theorem dX1_isPatch_1 : decode cX1_isPatch 1 = .ok (.getfield 15, 3) := by decide +kernel
theorem dX1_isPatch_4 : decode cX1_isPatch 4 = .ok (.ifCond .eq 25, 3) := by decide +kernel
theorem dX1_isPatch_7 : decode cX1_isPatch 7 = .ok (.aload_n 1, 1) := by decide +kernel
theorem dX1_isPatch_8 : decode cX1_isPatch 8 = .ok (.iload_n 2, 1) := by decide +kernel
theorem dX1_isPatch_9 : decode cX1_isPatch 9 = .ok (.iload_n 3, 1) := by decide +kernel
theorem dX1_isPatch_10 : decode cX1_isPatch 10 = .ok (.invokevirtual 55, 3) := by decide +kernel
theorem dX1_isPatch_13 : decode cX1_isPatch 13 = .ok (.aload_n 0, 1) := by decide +kernel
theorem dX1_isPatch_14 : decode cX1_isPatch 14 = .ok (.getfield 28, 3) := by decide +kernel
theorem dX1_isPatch_17 : decode cX1_isPatch 17 = .ok (.iload_n 2, 1) := by decide +kernel
theorem dX1_isPatch_18 : decode cX1_isPatch 18 = .ok (.iload_n 3, 1) := by decide +kernel
theorem dX1_isPatch_19 : decode cX1_isPatch 19 = .ok (.invokevirtual 55, 3) := by decide +kernel
theorem dX1_isPatch_22 : decode cX1_isPatch 22 = .ok (.if_icmp .eq 7, 3) := by decide +kernel
theorem dX1_isPatch_25 : decode cX1_isPatch 25 = .ok (.iconst 1, 1) := by decide +kernel
theorem dX1_isPatch_26 : decode cX1_isPatch 26 = .ok (.goto 4, 3) := by decide +kernel
theorem dX1_isPatch_29 : decode cX1_isPatch 29 = .ok (.iconst 0, 1) := by decide +kernel
theorem dX1_isPatch_30 : decode cX1_isPatch 30 = .ok (.ireturn, 1) := by decide +kernel
theorem dX1_patchesTo_0 : decode cX1_patchesTo 0 = .ok (.aload_n 0, 1) := by decide +kernel
theorem dX1_patchesTo_1 : decode cX1_patchesTo 1 = .ok (.getfield 15, 3) := by decide +kernel
theorem dX1_patchesTo_4 : decode cX1_patchesTo 4 = .ok (.ifCond .eq 14, 3) := by decide +kernel
theorem dX1_patchesTo_7 : decode cX1_patchesTo 7 = .ok (.aload_n 0, 1) := by decide +kernel
theorem dX1_patchesTo_8 : decode cX1_patchesTo 8 = .ok (.getfield 28, 3) := by decide +kernel
theorem dX1_patchesTo_11 : decode cX1_patchesTo 11 = .ok (.aload_n 1, 1) := by decide +kernel
theorem dX1_patchesTo_12 : decode cX1_patchesTo 12 = .ok (.invokevirtual 59, 3) := by decide +kernel
theorem dX1_patchesTo_15 : decode cX1_patchesTo 15 = .ok (.goto 4, 3) := by decide +kernel
theorem dX1_patchesTo_18 : decode cX1_patchesTo 18 = .ok (.iconst 0, 1) := by decide +kernel
theorem dX1_patchesTo_19 : decode cX1_patchesTo 19 = .ok (.ireturn, 1) := by decide +kernel
theorem dX1_decideAll_0 : decode cX1_decideAll 0 = .ok (.aload_n 0, 1) := by decide +kernel
theorem dX1_decideAll_1 : decode cX1_decideAll 1 = .ok (.getfield 28, 3) := by decide +kernel
theorem dX1_decideAll_4 : decode cX1_decideAll 4 = .ok (.aload_n 1, 1) := by decide +kernel
theorem dX1_decideAll_5 : decode cX1_decideAll 5 = .ok (.invokevirtual 63, 3) := by decide +kernel
theorem dX1_decideAll_8 : decode cX1_decideAll 8 = .ok (.aload_n 0, 1) := by decide +kernel
theorem dX1_decideAll_9 : decode cX1_decideAll 9 = .ok (.iconst 1, 1) := by decide +kernel
theorem dX1_decideAll_10 : decode cX1_decideAll 10 = .ok (.aload_n 2, 1) := by decide +kernel
theorem dX1_decideAll_11 : decode cX1_decideAll 11 = .ok (.iconst 2, 1) := by decide +kernel
theorem dX1_decideAll_12 : decode cX1_decideAll 12 = .ok (.invokevirtual 67, 3) := by decide +kernel
theorem dX1_decideAll_15 : decode cX1_decideAll 15 = .ok (.invokestatic 73, 3) := by decide +kernel
theorem dX1_decideAll_18 : decode cX1_decideAll 18 = .ok (.putfield 19, 3) := by decide +kernel
theorem dX1_decideAll_21 : decode cX1_decideAll 21 = .ok (.aload_n 0, 1) := by decide +kernel
theorem dX1_decideAll_22 : decode cX1_decideAll 22 = .ok (.getfield 11, 3) := by decide +kernel
theorem dX1_decideAll_25 : decode cX1_decideAll 25 = .ok (.iconst 0, 1) := by decide +kernel
theorem dX1_decideAll_26 : decode cX1_decideAll 26 = .ok (.invokestatic 79, 3) := by decide +kernel
theorem dX1_decideAll_29 : decode cX1_decideAll 29 = .ok (.iconst 0, 1) := by decide +kernel
theorem dX1_decideAll_30 : decode cX1_decideAll 30 = .ok (.istore 4, 2) := by decide +kernel
theorem dX1_decideAll_32 : decode cX1_decideAll 32 = .ok (.iload 4, 2) := by decide +kernel
theorem dX1_decideAll_34 : decode cX1_decideAll 34 = .ok (.aload_n 0, 1) := by decide +kernel
theorem dX1_decideAll_35 : decode cX1_decideAll 35 = .ok (.getfield 39, 3) := by decide +kernel
theorem dX1_decideAll_38 : decode cX1_decideAll 38 = .ok (.arraylength, 1) := by decide +kernel
theorem dX1_decideAll_39 : decode cX1_decideAll 39 = .ok (.if_icmp .ge 45, 3) := by decide +kernel
theorem dX1_decideAll_42 : decode cX1_decideAll 42 = .ok (.aload_n 0, 1) := by decide +kernel
theorem dX1_decideAll_43 : decode cX1_decideAll 43 = .ok (.iload 4, 2) := by decide +kernel
theorem dX1_decideAll_45 : decode cX1_decideAll 45 = .ok (.aload_n 2, 1) := by decide +kernel
theorem dX1_decideAll_46 : decode cX1_decideAll 46 = .ok (.aload_n 3, 1) := by decide +kernel
theorem dX1_decideAll_47 : decode cX1_decideAll 47 = .ok (.invokevirtual 85, 3) := by decide +kernel
theorem dX1_decideAll_50 : decode cX1_decideAll 50 = .ok (.aload_n 3, 1) := by decide +kernel
theorem dX1_decideAll_51 : decode cX1_decideAll 51 = .ok (.aload_n 0, 1) := by decide +kernel
theorem dX1_decideAll_52 : decode cX1_decideAll 52 = .ok (.getfield 28, 3) := by decide +kernel
theorem dX1_decideAll_55 : decode cX1_decideAll 55 = .ok (.iload 4, 2) := by decide +kernel
theorem dX1_decideAll_57 : decode cX1_decideAll 57 = .ok (.aload_n 0, 1) := by decide +kernel
theorem dX1_decideAll_58 : decode cX1_decideAll 58 = .ok (.iload 4, 2) := by decide +kernel
theorem dX1_decideAll_60 : decode cX1_decideAll 60 = .ok (.invokevirtual 89, 3) := by decide +kernel
theorem dX1_decideAll_63 : decode cX1_decideAll 63 = .ok (.aload_n 0, 1) := by decide +kernel
theorem dX1_decideAll_64 : decode cX1_decideAll 64 = .ok (.iload 4, 2) := by decide +kernel
theorem dX1_decideAll_66 : decode cX1_decideAll 66 = .ok (.invokevirtual 92, 3) := by decide +kernel
theorem dX1_decideAll_69 : decode cX1_decideAll 69 = .ok (.invokevirtual 95, 3) := by decide +kernel
theorem dX1_decideAll_72 : decode cX1_decideAll 72 = .ok (.pop, 1) := by decide +kernel
theorem dX1_decideAll_73 : decode cX1_decideAll 73 = .ok (.aload_n 0, 1) := by decide +kernel
theorem dX1_decideAll_74 : decode cX1_decideAll 74 = .ok (.aload_n 3, 1) := by decide +kernel
theorem dX1_decideAll_75 : decode cX1_decideAll 75 = .ok (.invokevirtual 101, 3) := by decide +kernel
theorem dX1_decideAll_78 : decode cX1_decideAll 78 = .ok (.iinc 4 1, 3) := by decide +kernel
theorem dX1_decideAll_81 : decode cX1_decideAll 81 = .ok (.goto (-49), 3) := by decide +kernel
theorem dX1_decideAll_84 : decode cX1_decideAll 84 = .ok (.aload_n 0, 1) := by decide +kernel
theorem dX1_decideAll_85 : decode cX1_decideAll 85 = .ok (.iconst 1, 1) := by decide +kernel
theorem dX1_decideAll_86 : decode cX1_decideAll 86 = .ok (.putfield 15, 3) := by decide +kernel
theorem dX1_decideAll_89 : decode cX1_decideAll 89 = .ok (.return_, 1) := by decide +kernel
theorem dX1_writeAnew_0 : decode cX1_writeAnew 0 = .ok (.aload_n 0, 1) := by decide +kernel
theorem dX1_writeAnew_1 : decode cX1_writeAnew 1 = .ok (.getfield 35, 3) := by decide +kernel
theorem dX1_writeAnew_4 : decode cX1_writeAnew 4 = .ok (.invokevirtual 105, 3) := by decide +kernel
theorem dX1_writeAnew_7 : decode cX1_writeAnew 7 = .ok (.iconst 0, 1) := by decide +kernel
theorem dX1_writeAnew_8 : decode cX1_writeAnew 8 = .ok (.istore_n 3, 1) := by decide +kernel
theorem dX1_writeAnew_9 : decode cX1_writeAnew 9 = .ok (.iload_n 3, 1) := by decide +kernel
theorem dX1_writeAnew_10 : decode cX1_writeAnew 10 = .ok (.aload_n 0, 1) := by decide +kernel
theorem dX1_writeAnew_11 : decode cX1_writeAnew 11 = .ok (.getfield 39, 3) := by decide +kernel
theorem dX1_writeAnew_14 : decode cX1_writeAnew 14 = .ok (.arraylength, 1) := by decide +kernel
theorem dX1_writeAnew_15 : decode cX1_writeAnew 15 = .ok (.if_icmp .ge 77, 3) := by decide +kernel
theorem dX1_writeAnew_18 : decode cX1_writeAnew 18 = .ok (.iload_n 3, 1) := by decide +kernel
theorem dX1_writeAnew_19 : decode cX1_writeAnew 19 = .ok (.iconst 1, 1) := by decide +kernel
theorem dX1_writeAnew_20 : decode cX1_writeAnew 20 = .ok (.iadd, 1) := by decide +kernel
theorem dX1_writeAnew_21 : decode cX1_writeAnew 21 = .ok (.aload_n 0, 1) := by decide +kernel
theorem dX1_writeAnew_22 : decode cX1_writeAnew 22 = .ok (.getfield 48, 3) := by decide +kernel
theorem dX1_writeAnew_25 : decode cX1_writeAnew 25 = .ok (.arraylength, 1) := by decide +kernel
theorem dX1_writeAnew_26 : decode cX1_writeAnew 26 = .ok (.if_icmp .ge 66, 3) := by decide +kernel
theorem dX1_writeAnew_29 : decode cX1_writeAnew 29 = .ok (.aload_n 0, 1) := by decide +kernel
theorem dX1_writeAnew_30 : decode cX1_writeAnew 30 = .ok (.getfield 48, 3) := by decide +kernel
theorem dX1_writeAnew_33 : decode cX1_writeAnew 33 = .ok (.iload_n 3, 1) := by decide +kernel
theorem dX1_writeAnew_34 : decode cX1_writeAnew 34 = .ok (.aload_n 0, 1) := by decide +kernel
theorem dX1_writeAnew_35 : decode cX1_writeAnew 35 = .ok (.getfield 35, 3) := by decide +kernel
theorem dX1_writeAnew_38 : decode cX1_writeAnew 38 = .ok (.invokevirtual 108, 3) := by decide +kernel
theorem dX1_writeAnew_41 : decode cX1_writeAnew 41 = .ok (.iastore, 1) := by decide +kernel
theorem dX1_writeAnew_42 : decode cX1_writeAnew 42 = .ok (.aload_n 2, 1) := by decide +kernel
theorem dX1_writeAnew_43 : decode cX1_writeAnew 43 = .ok (.aload_n 0, 1) := by decide +kernel
theorem dX1_writeAnew_44 : decode cX1_writeAnew 44 = .ok (.getfield 28, 3) := by decide +kernel
theorem dX1_writeAnew_47 : decode cX1_writeAnew 47 = .ok (.iload_n 3, 1) := by decide +kernel
theorem dX1_writeAnew_48 : decode cX1_writeAnew 48 = .ok (.aload_n 0, 1) := by decide +kernel
theorem dX1_writeAnew_49 : decode cX1_writeAnew 49 = .ok (.iload_n 3, 1) := by decide +kernel
theorem dX1_writeAnew_50 : decode cX1_writeAnew 50 = .ok (.invokevirtual 89, 3) := by decide +kernel
theorem dX1_writeAnew_53 : decode cX1_writeAnew 53 = .ok (.aload_n 0, 1) := by decide +kernel
theorem dX1_writeAnew_54 : decode cX1_writeAnew 54 = .ok (.iload_n 3, 1) := by decide +kernel
theorem dX1_writeAnew_55 : decode cX1_writeAnew 55 = .ok (.invokevirtual 92, 3) := by decide +kernel
theorem dX1_writeAnew_58 : decode cX1_writeAnew 58 = .ok (.invokevirtual 95, 3) := by decide +kernel
theorem dX1_writeAnew_61 : decode cX1_writeAnew 61 = .ok (.pop, 1) := by decide +kernel
theorem dX1_writeAnew_62 : decode cX1_writeAnew 62 = .ok (.aload_n 0, 1) := by decide +kernel
theorem dX1_writeAnew_63 : decode cX1_writeAnew 63 = .ok (.getfield 35, 3) := by decide +kernel
theorem dX1_writeAnew_66 : decode cX1_writeAnew 66 = .ok (.aload_n 2, 1) := by decide +kernel
theorem dX1_writeAnew_67 : decode cX1_writeAnew 67 = .ok (.aload_n 1, 1) := by decide +kernel
theorem dX1_writeAnew_68 : decode cX1_writeAnew 68 = .ok (.invokevirtual 112, 3) := by decide +kernel
theorem dX1_writeAnew_71 : decode cX1_writeAnew 71 = .ok (.aload_n 0, 1) := by decide +kernel
theorem dX1_writeAnew_72 : decode cX1_writeAnew 72 = .ok (.getfield 48, 3) := by decide +kernel
theorem dX1_writeAnew_75 : decode cX1_writeAnew 75 = .ok (.iload_n 3, 1) := by decide +kernel
theorem dX1_writeAnew_76 : decode cX1_writeAnew 76 = .ok (.iconst 1, 1) := by decide +kernel
theorem dX1_writeAnew_77 : decode cX1_writeAnew 77 = .ok (.iadd, 1) := by decide +kernel
theorem dX1_writeAnew_78 : decode cX1_writeAnew 78 = .ok (.aload_n 0, 1) := by decide +kernel
theorem dX1_writeAnew_79 : decode cX1_writeAnew 79 = .ok (.getfield 35, 3) := by decide +kernel
theorem dX1_writeAnew_82 : decode cX1_writeAnew 82 = .ok (.invokevirtual 108, 3) := by decide +kernel
theorem dX1_writeAnew_85 : decode cX1_writeAnew 85 = .ok (.iastore, 1) := by decide +kernel
theorem dX1_writeAnew_86 : decode cX1_writeAnew 86 = .ok (.iinc 3 1, 3) := by decide +kernel
theorem dX1_writeAnew_89 : decode cX1_writeAnew 89 = .ok (.goto (-80), 3) := by decide +kernel
theorem dX1_writeAnew_92 : decode cX1_writeAnew 92 = .ok (.aload_n 0, 1) := by decide +kernel
theorem dX1_writeAnew_93 : decode cX1_writeAnew 93 = .ok (.getfield 35, 3) := by decide +kernel
theorem dX1_writeAnew_96 : decode cX1_writeAnew 96 = .ok (.invokevirtual 108, 3) := by decide +kernel
theorem dX1_writeAnew_99 : decode cX1_writeAnew 99 = .ok (.ireturn, 1) := by decide +kernel
theorem dX1_bitsOfUse_0 : decode cX1_bitsOfUse 0 = .ok (.iconst 0, 1) := by decide +kernel
theorem dX1_bitsOfUse_1 : decode cX1_bitsOfUse 1 = .ok (.istore_n 3, 1) := by decide +kernel
theorem dX1_bitsOfUse_2 : decode cX1_bitsOfUse 2 = .ok (.iconst 0, 1) := by decide +kernel
theorem dX1_bitsOfUse_3 : decode cX1_bitsOfUse 3 = .ok (.istore 4, 2) := by decide +kernel
theorem dX1_bitsOfUse_5 : decode cX1_bitsOfUse 5 = .ok (.iload 4, 2) := by decide +kernel
theorem dX1_bitsOfUse_7 : decode cX1_bitsOfUse 7 = .ok (.bipush 96, 2) := by decide +kernel
theorem dX1_bitsOfUse_9 : decode cX1_bitsOfUse 9 = .ok (.if_icmp .ge 33, 3) := by decide +kernel
theorem dX1_bitsOfUse_12 : decode cX1_bitsOfUse 12 = .ok (.iload_n 3, 1) := by decide +kernel
theorem dX1_bitsOfUse_13 : decode cX1_bitsOfUse 13 = .ok (.aload_n 0, 1) := by decide +kernel
theorem dX1_bitsOfUse_14 : decode cX1_bitsOfUse 14 = .ok (.getfield 11, 3) := by decide +kernel
theorem dX1_bitsOfUse_17 : decode cX1_bitsOfUse 17 = .ok (.iload_n 1, 1) := by decide +kernel
theorem dX1_bitsOfUse_18 : decode cX1_bitsOfUse 18 = .ok (.bipush 96, 2) := by decide +kernel
theorem dX1_bitsOfUse_20 : decode cX1_bitsOfUse 20 = .ok (.imul, 1) := by decide +kernel
theorem dX1_bitsOfUse_21 : decode cX1_bitsOfUse 21 = .ok (.iload 4, 2) := by decide +kernel
theorem dX1_bitsOfUse_23 : decode cX1_bitsOfUse 23 = .ok (.iadd, 1) := by decide +kernel
theorem dX1_bitsOfUse_24 : decode cX1_bitsOfUse 24 = .ok (.invokestatic 51, 3) := by decide +kernel
theorem dX1_bitsOfUse_27 : decode cX1_bitsOfUse 27 = .ok (.iload_n 2, 1) := by decide +kernel
theorem dX1_bitsOfUse_28 : decode cX1_bitsOfUse 28 = .ok (.iload 4, 2) := by decide +kernel
theorem dX1_bitsOfUse_30 : decode cX1_bitsOfUse 30 = .ok (.invokestatic 116, 3) := by decide +kernel
theorem dX1_bitsOfUse_33 : decode cX1_bitsOfUse 33 = .ok (.imul, 1) := by decide +kernel
theorem dX1_bitsOfUse_34 : decode cX1_bitsOfUse 34 = .ok (.iadd, 1) := by decide +kernel
theorem dX1_bitsOfUse_35 : decode cX1_bitsOfUse 35 = .ok (.istore_n 3, 1) := by decide +kernel
theorem dX1_bitsOfUse_36 : decode cX1_bitsOfUse 36 = .ok (.iinc 4 1, 3) := by decide +kernel
theorem dX1_bitsOfUse_39 : decode cX1_bitsOfUse 39 = .ok (.goto (-34), 3) := by decide +kernel
theorem dX1_bitsOfUse_42 : decode cX1_bitsOfUse 42 = .ok (.iload_n 3, 1) := by decide +kernel
theorem dX1_bitsOfUse_43 : decode cX1_bitsOfUse 43 = .ok (.ireturn, 1) := by decide +kernel
theorem dX1_cheapestForm_0 : decode cX1_cheapestForm 0 = .ok (.iconst 0, 1) := by decide +kernel
theorem dX1_cheapestForm_1 : decode cX1_cheapestForm 1 = .ok (.istore_n 2, 1) := by decide +kernel
theorem dX1_cheapestForm_2 : decode cX1_cheapestForm 2 = .ok (.iconst 1, 1) := by decide +kernel
theorem dX1_cheapestForm_3 : decode cX1_cheapestForm 3 = .ok (.istore_n 3, 1) := by decide +kernel
theorem dX1_cheapestForm_4 : decode cX1_cheapestForm 4 = .ok (.iload_n 3, 1) := by decide +kernel
theorem dX1_cheapestForm_5 : decode cX1_cheapestForm 5 = .ok (.bipush 10, 2) := by decide +kernel
theorem dX1_cheapestForm_7 : decode cX1_cheapestForm 7 = .ok (.if_icmp .ge 26, 3) := by decide +kernel
theorem dX1_cheapestForm_10 : decode cX1_cheapestForm 10 = .ok (.aload_n 0, 1) := by decide +kernel
theorem dX1_cheapestForm_11 : decode cX1_cheapestForm 11 = .ok (.iload_n 1, 1) := by decide +kernel
theorem dX1_cheapestForm_12 : decode cX1_cheapestForm 12 = .ok (.iload_n 3, 1) := by decide +kernel
theorem dX1_cheapestForm_13 : decode cX1_cheapestForm 13 = .ok (.invokevirtual 119, 3) := by decide +kernel
theorem dX1_cheapestForm_16 : decode cX1_cheapestForm 16 = .ok (.aload_n 0, 1) := by decide +kernel
theorem dX1_cheapestForm_17 : decode cX1_cheapestForm 17 = .ok (.iload_n 1, 1) := by decide +kernel
theorem dX1_cheapestForm_18 : decode cX1_cheapestForm 18 = .ok (.iload_n 2, 1) := by decide +kernel
theorem dX1_cheapestForm_19 : decode cX1_cheapestForm 19 = .ok (.invokevirtual 119, 3) := by decide +kernel
theorem dX1_cheapestForm_22 : decode cX1_cheapestForm 22 = .ok (.if_icmp .ge 5, 3) := by decide +kernel
theorem dX1_cheapestForm_25 : decode cX1_cheapestForm 25 = .ok (.iload_n 3, 1) := by decide +kernel
theorem dX1_cheapestForm_26 : decode cX1_cheapestForm 26 = .ok (.istore_n 2, 1) := by decide +kernel
theorem dX1_cheapestForm_27 : decode cX1_cheapestForm 27 = .ok (.iinc 3 1, 3) := by decide +kernel
theorem dX1_cheapestForm_30 : decode cX1_cheapestForm 30 = .ok (.goto (-26), 3) := by decide +kernel
theorem dX1_cheapestForm_33 : decode cX1_cheapestForm 33 = .ok (.iload_n 2, 1) := by decide +kernel
theorem dX1_cheapestForm_34 : decode cX1_cheapestForm 34 = .ok (.ireturn, 1) := by decide +kernel
theorem dX1_bitsToRead_0 : decode cX1_bitsToRead 0 = .ok (.iconst 0, 1) := by decide +kernel
theorem dX1_bitsToRead_1 : decode cX1_bitsToRead 1 = .ok (.istore_n 2, 1) := by decide +kernel
theorem dX1_bitsToRead_2 : decode cX1_bitsToRead 2 = .ok (.iload_n 1, 1) := by decide +kernel
theorem dX1_bitsToRead_3 : decode cX1_bitsToRead 3 = .ok (.istore_n 3, 1) := by decide +kernel
theorem dX1_bitsToRead_4 : decode cX1_bitsToRead 4 = .ok (.iconst 0, 1) := by decide +kernel
theorem dX1_bitsToRead_5 : decode cX1_bitsToRead 5 = .ok (.istore 4, 2) := by decide +kernel
theorem dX1_bitsToRead_7 : decode cX1_bitsToRead 7 = .ok (.iload 4, 2) := by decide +kernel
theorem dX1_bitsToRead_9 : decode cX1_bitsToRead 9 = .ok (.iconst 5, 1) := by decide +kernel
theorem dX1_bitsToRead_10 : decode cX1_bitsToRead 10 = .ok (.if_icmp .gt 60, 3) := by decide +kernel
theorem dX1_bitsToRead_13 : decode cX1_bitsToRead 13 = .ok (.iload_n 2, 1) := by decide +kernel
theorem dX1_bitsToRead_14 : decode cX1_bitsToRead 14 = .ok (.aload_n 0, 1) := by decide +kernel
theorem dX1_bitsToRead_15 : decode cX1_bitsToRead 15 = .ok (.iload_n 3, 1) := by decide +kernel
theorem dX1_bitsToRead_16 : decode cX1_bitsToRead 16 = .ok (.iconst 1, 1) := by decide +kernel
theorem dX1_bitsToRead_17 : decode cX1_bitsToRead 17 = .ok (.iadd, 1) := by decide +kernel
theorem dX1_bitsToRead_18 : decode cX1_bitsToRead 18 = .ok (.invokevirtual 122, 3) := by decide +kernel
theorem dX1_bitsToRead_21 : decode cX1_bitsToRead 21 = .ok (.aload_n 0, 1) := by decide +kernel
theorem dX1_bitsToRead_22 : decode cX1_bitsToRead 22 = .ok (.iload_n 3, 1) := by decide +kernel
theorem dX1_bitsToRead_23 : decode cX1_bitsToRead 23 = .ok (.iload_n 3, 1) := by decide +kernel
theorem dX1_bitsToRead_24 : decode cX1_bitsToRead 24 = .ok (.iconst 1, 1) := by decide +kernel
theorem dX1_bitsToRead_25 : decode cX1_bitsToRead 25 = .ok (.aload_n 0, 1) := by decide +kernel
theorem dX1_bitsToRead_26 : decode cX1_bitsToRead 26 = .ok (.getfield 19, 3) := by decide +kernel
theorem dX1_bitsToRead_29 : decode cX1_bitsToRead 29 = .ok (.invokestatic 73, 3) := by decide +kernel
theorem dX1_bitsToRead_32 : decode cX1_bitsToRead 32 = .ok (.invokestatic 125, 3) := by decide +kernel
theorem dX1_bitsToRead_35 : decode cX1_bitsToRead 35 = .ok (.isub, 1) := by decide +kernel
theorem dX1_bitsToRead_36 : decode cX1_bitsToRead 36 = .ok (.invokevirtual 122, 3) := by decide +kernel
theorem dX1_bitsToRead_39 : decode cX1_bitsToRead 39 = .ok (.isub, 1) := by decide +kernel
theorem dX1_bitsToRead_40 : decode cX1_bitsToRead 40 = .ok (.iadd, 1) := by decide +kernel
theorem dX1_bitsToRead_41 : decode cX1_bitsToRead 41 = .ok (.istore_n 2, 1) := by decide +kernel
theorem dX1_bitsToRead_42 : decode cX1_bitsToRead 42 = .ok (.aload_n 0, 1) := by decide +kernel
theorem dX1_bitsToRead_43 : decode cX1_bitsToRead 43 = .ok (.iload_n 3, 1) := by decide +kernel
theorem dX1_bitsToRead_44 : decode cX1_bitsToRead 44 = .ok (.invokevirtual 89, 3) := by decide +kernel
theorem dX1_bitsToRead_47 : decode cX1_bitsToRead 47 = .ok (.invokestatic 128, 3) := by decide +kernel
theorem dX1_bitsToRead_50 : decode cX1_bitsToRead 50 = .ok (.ifCond .ne 6, 3) := by decide +kernel
theorem dX1_bitsToRead_53 : decode cX1_bitsToRead 53 = .ok (.goto 17, 3) := by decide +kernel
theorem dX1_bitsToRead_56 : decode cX1_bitsToRead 56 = .ok (.iload_n 3, 1) := by decide +kernel
theorem dX1_bitsToRead_57 : decode cX1_bitsToRead 57 = .ok (.aload_n 0, 1) := by decide +kernel
theorem dX1_bitsToRead_58 : decode cX1_bitsToRead 58 = .ok (.iload_n 3, 1) := by decide +kernel
theorem dX1_bitsToRead_59 : decode cX1_bitsToRead 59 = .ok (.invokevirtual 92, 3) := by decide +kernel
theorem dX1_bitsToRead_62 : decode cX1_bitsToRead 62 = .ok (.isub, 1) := by decide +kernel
theorem dX1_bitsToRead_63 : decode cX1_bitsToRead 63 = .ok (.istore_n 3, 1) := by decide +kernel
theorem dX1_bitsToRead_64 : decode cX1_bitsToRead 64 = .ok (.iinc 4 1, 3) := by decide +kernel
theorem dX1_bitsToRead_67 : decode cX1_bitsToRead 67 = .ok (.goto (-60), 3) := by decide +kernel
theorem dX1_bitsToRead_70 : decode cX1_bitsToRead 70 = .ok (.iload_n 2, 1) := by decide +kernel
theorem dX1_bitsToRead_71 : decode cX1_bitsToRead 71 = .ok (.ireturn, 1) := by decide +kernel
theorem dX1_placeCount_0 : decode cX1_placeCount 0 = .ok (.aload_n 0, 1) := by decide +kernel
theorem dX1_placeCount_1 : decode cX1_placeCount 1 = .ok (.getfield 15, 3) := by decide +kernel
theorem dX1_placeCount_4 : decode cX1_placeCount 4 = .ok (.ifCond .eq 27, 3) := by decide +kernel
theorem dX1_placeCount_7 : decode cX1_placeCount 7 = .ok (.aload_n 0, 1) := by decide +kernel
theorem dX1_placeCount_8 : decode cX1_placeCount 8 = .ok (.getfield 39, 3) := by decide +kernel
theorem dX1_placeCount_11 : decode cX1_placeCount 11 = .ok (.arraylength, 1) := by decide +kernel
theorem dX1_placeCount_12 : decode cX1_placeCount 12 = .ok (.aload_n 0, 1) := by decide +kernel
theorem dX1_placeCount_13 : decode cX1_placeCount 13 = .ok (.getfield 19, 3) := by decide +kernel
theorem dX1_placeCount_16 : decode cX1_placeCount 16 = .ok (.iadd, 1) := by decide +kernel
theorem dX1_placeCount_17 : decode cX1_placeCount 17 = .ok (.iconst 1, 1) := by decide +kernel
theorem dX1_placeCount_18 : decode cX1_placeCount 18 = .ok (.isub, 1) := by decide +kernel
theorem dX1_placeCount_19 : decode cX1_placeCount 19 = .ok (.iconst 1, 1) := by decide +kernel
theorem dX1_placeCount_20 : decode cX1_placeCount 20 = .ok (.aload_n 0, 1) := by decide +kernel
theorem dX1_placeCount_21 : decode cX1_placeCount 21 = .ok (.getfield 19, 3) := by decide +kernel
theorem dX1_placeCount_24 : decode cX1_placeCount 24 = .ok (.invokestatic 73, 3) := by decide +kernel
theorem dX1_placeCount_27 : decode cX1_placeCount 27 = .ok (.idiv, 1) := by decide +kernel
theorem dX1_placeCount_28 : decode cX1_placeCount 28 = .ok (.goto 4, 3) := by decide +kernel
theorem dX1_placeCount_31 : decode cX1_placeCount 31 = .ok (.iconst 0, 1) := by decide +kernel
theorem dX1_placeCount_32 : decode cX1_placeCount 32 = .ok (.ireturn, 1) := by decide +kernel
theorem dX1_placeStart_0 : decode cX1_placeStart 0 = .ok (.aload_n 0, 1) := by decide +kernel
theorem dX1_placeStart_1 : decode cX1_placeStart 1 = .ok (.iload_n 1, 1) := by decide +kernel
theorem dX1_placeStart_2 : decode cX1_placeStart 2 = .ok (.aload_n 0, 1) := by decide +kernel
theorem dX1_placeStart_3 : decode cX1_placeStart 3 = .ok (.getfield 19, 3) := by decide +kernel
theorem dX1_placeStart_6 : decode cX1_placeStart 6 = .ok (.imul, 1) := by decide +kernel
theorem dX1_placeStart_7 : decode cX1_placeStart 7 = .ok (.invokevirtual 122, 3) := by decide +kernel
theorem dX1_placeStart_10 : decode cX1_placeStart 10 = .ok (.ireturn, 1) := by decide +kernel
theorem dX1_firstSpoiled_0 : decode cX1_firstSpoiled 0 = .ok (.aload_n 0, 1) := by decide +kernel
theorem dX1_firstSpoiled_1 : decode cX1_firstSpoiled 1 = .ok (.getfield 35, 3) := by decide +kernel
theorem dX1_firstSpoiled_4 : decode cX1_firstSpoiled 4 = .ok (.invokevirtual 132, 3) := by decide +kernel
theorem dX1_firstSpoiled_7 : decode cX1_firstSpoiled 7 = .ok (.istore_n 1, 1) := by decide +kernel
theorem dX1_firstSpoiled_8 : decode cX1_firstSpoiled 8 = .ok (.iload_n 1, 1) := by decide +kernel
theorem dX1_firstSpoiled_9 : decode cX1_firstSpoiled 9 = .ok (.iconst (-1), 1) := by decide +kernel
theorem dX1_firstSpoiled_10 : decode cX1_firstSpoiled 10 = .ok (.if_icmp .ne 5, 3) := by decide +kernel
theorem dX1_firstSpoiled_13 : decode cX1_firstSpoiled 13 = .ok (.iconst (-1), 1) := by decide +kernel
theorem dX1_firstSpoiled_14 : decode cX1_firstSpoiled 14 = .ok (.ireturn, 1) := by decide +kernel
theorem dX1_firstSpoiled_15 : decode cX1_firstSpoiled 15 = .ok (.iconst 0, 1) := by decide +kernel
theorem dX1_firstSpoiled_16 : decode cX1_firstSpoiled 16 = .ok (.istore_n 2, 1) := by decide +kernel
theorem dX1_firstSpoiled_17 : decode cX1_firstSpoiled 17 = .ok (.iload_n 2, 1) := by decide +kernel
theorem dX1_firstSpoiled_18 : decode cX1_firstSpoiled 18 = .ok (.aload_n 0, 1) := by decide +kernel
theorem dX1_firstSpoiled_19 : decode cX1_firstSpoiled 19 = .ok (.getfield 39, 3) := by decide +kernel
theorem dX1_firstSpoiled_22 : decode cX1_firstSpoiled 22 = .ok (.arraylength, 1) := by decide +kernel
theorem dX1_firstSpoiled_23 : decode cX1_firstSpoiled 23 = .ok (.if_icmp .ge 22, 3) := by decide +kernel
theorem dX1_firstSpoiled_26 : decode cX1_firstSpoiled 26 = .ok (.iload_n 1, 1) := by decide +kernel
theorem dX1_firstSpoiled_27 : decode cX1_firstSpoiled 27 = .ok (.aload_n 0, 1) := by decide +kernel
theorem dX1_firstSpoiled_28 : decode cX1_firstSpoiled 28 = .ok (.iload_n 2, 1) := by decide +kernel
theorem dX1_firstSpoiled_29 : decode cX1_firstSpoiled 29 = .ok (.iconst 1, 1) := by decide +kernel
theorem dX1_firstSpoiled_30 : decode cX1_firstSpoiled 30 = .ok (.iadd, 1) := by decide +kernel
theorem dX1_firstSpoiled_31 : decode cX1_firstSpoiled 31 = .ok (.invokevirtual 122, 3) := by decide +kernel
theorem dX1_firstSpoiled_34 : decode cX1_firstSpoiled 34 = .ok (.if_icmp .ge 5, 3) := by decide +kernel
theorem dX1_firstSpoiled_37 : decode cX1_firstSpoiled 37 = .ok (.iload_n 2, 1) := by decide +kernel
theorem dX1_firstSpoiled_38 : decode cX1_firstSpoiled 38 = .ok (.ireturn, 1) := by decide +kernel
theorem dX1_firstSpoiled_39 : decode cX1_firstSpoiled 39 = .ok (.iinc 2 1, 3) := by decide +kernel
theorem dX1_firstSpoiled_42 : decode cX1_firstSpoiled 42 = .ok (.goto (-25), 3) := by decide +kernel
theorem dX1_firstSpoiled_45 : decode cX1_firstSpoiled 45 = .ok (.aload_n 0, 1) := by decide +kernel
theorem dX1_firstSpoiled_46 : decode cX1_firstSpoiled 46 = .ok (.getfield 39, 3) := by decide +kernel
theorem dX1_firstSpoiled_49 : decode cX1_firstSpoiled 49 = .ok (.arraylength, 1) := by decide +kernel
theorem dX1_firstSpoiled_50 : decode cX1_firstSpoiled 50 = .ok (.ireturn, 1) := by decide +kernel
theorem dX1_copiedRows_0 : decode cX1_copiedRows 0 = .ok (.iconst 0, 1) := by decide +kernel
theorem dX1_copiedRows_1 : decode cX1_copiedRows 1 = .ok (.istore_n 1, 1) := by decide +kernel
theorem dX1_copiedRows_2 : decode cX1_copiedRows 2 = .ok (.iconst 0, 1) := by decide +kernel
theorem dX1_copiedRows_3 : decode cX1_copiedRows 3 = .ok (.istore_n 2, 1) := by decide +kernel
theorem dX1_copiedRows_4 : decode cX1_copiedRows 4 = .ok (.aload_n 0, 1) := by decide +kernel
theorem dX1_copiedRows_5 : decode cX1_copiedRows 5 = .ok (.getfield 15, 3) := by decide +kernel
theorem dX1_copiedRows_8 : decode cX1_copiedRows 8 = .ok (.ifCond .eq 33, 3) := by decide +kernel
theorem dX1_copiedRows_11 : decode cX1_copiedRows 11 = .ok (.iload_n 2, 1) := by decide +kernel
theorem dX1_copiedRows_12 : decode cX1_copiedRows 12 = .ok (.aload_n 0, 1) := by decide +kernel
theorem dX1_copiedRows_13 : decode cX1_copiedRows 13 = .ok (.getfield 39, 3) := by decide +kernel
theorem dX1_copiedRows_16 : decode cX1_copiedRows 16 = .ok (.arraylength, 1) := by decide +kernel
theorem dX1_copiedRows_17 : decode cX1_copiedRows 17 = .ok (.if_icmp .ge 24, 3) := by decide +kernel
theorem dX1_copiedRows_20 : decode cX1_copiedRows 20 = .ok (.aload_n 0, 1) := by decide +kernel
theorem dX1_copiedRows_21 : decode cX1_copiedRows 21 = .ok (.getfield 39, 3) := by decide +kernel
theorem dX1_copiedRows_24 : decode cX1_copiedRows 24 = .ok (.iload_n 2, 1) := by decide +kernel
theorem dX1_copiedRows_25 : decode cX1_copiedRows 25 = .ok (.iaload, 1) := by decide +kernel
theorem dX1_copiedRows_26 : decode cX1_copiedRows 26 = .ok (.invokestatic 128, 3) := by decide +kernel
theorem dX1_copiedRows_29 : decode cX1_copiedRows 29 = .ok (.ifCond .eq 6, 3) := by decide +kernel
theorem dX1_copiedRows_32 : decode cX1_copiedRows 32 = .ok (.iinc 1 1, 3) := by decide +kernel
theorem dX1_copiedRows_35 : decode cX1_copiedRows 35 = .ok (.iinc 2 1, 3) := by decide +kernel
theorem dX1_copiedRows_38 : decode cX1_copiedRows 38 = .ok (.goto (-34), 3) := by decide +kernel
theorem dX1_copiedRows_41 : decode cX1_copiedRows 41 = .ok (.iload_n 1, 1) := by decide +kernel
theorem dX1_copiedRows_42 : decode cX1_copiedRows 42 = .ok (.ireturn, 1) := by decide +kernel
theorem dX1_greatestDepth_0 : decode cX1_greatestDepth 0 = .ok (.iconst 0, 1) := by decide +kernel
theorem dX1_greatestDepth_1 : decode cX1_greatestDepth 1 = .ok (.istore_n 1, 1) := by decide +kernel
theorem dX1_greatestDepth_2 : decode cX1_greatestDepth 2 = .ok (.iconst 0, 1) := by decide +kernel
theorem dX1_greatestDepth_3 : decode cX1_greatestDepth 3 = .ok (.istore_n 2, 1) := by decide +kernel
theorem dX1_greatestDepth_4 : decode cX1_greatestDepth 4 = .ok (.aload_n 0, 1) := by decide +kernel
theorem dX1_greatestDepth_5 : decode cX1_greatestDepth 5 = .ok (.getfield 15, 3) := by decide +kernel
theorem dX1_greatestDepth_8 : decode cX1_greatestDepth 8 = .ok (.ifCond .eq 29, 3) := by decide +kernel
theorem dX1_greatestDepth_11 : decode cX1_greatestDepth 11 = .ok (.iload_n 2, 1) := by decide +kernel
theorem dX1_greatestDepth_12 : decode cX1_greatestDepth 12 = .ok (.aload_n 0, 1) := by decide +kernel
theorem dX1_greatestDepth_13 : decode cX1_greatestDepth 13 = .ok (.getfield 45, 3) := by decide +kernel
theorem dX1_greatestDepth_16 : decode cX1_greatestDepth 16 = .ok (.arraylength, 1) := by decide +kernel
theorem dX1_greatestDepth_17 : decode cX1_greatestDepth 17 = .ok (.if_icmp .ge 20, 3) := by decide +kernel
theorem dX1_greatestDepth_20 : decode cX1_greatestDepth 20 = .ok (.iload_n 1, 1) := by decide +kernel
theorem dX1_greatestDepth_21 : decode cX1_greatestDepth 21 = .ok (.aload_n 0, 1) := by decide +kernel
theorem dX1_greatestDepth_22 : decode cX1_greatestDepth 22 = .ok (.getfield 45, 3) := by decide +kernel
theorem dX1_greatestDepth_25 : decode cX1_greatestDepth 25 = .ok (.iload_n 2, 1) := by decide +kernel
theorem dX1_greatestDepth_26 : decode cX1_greatestDepth 26 = .ok (.iaload, 1) := by decide +kernel
theorem dX1_greatestDepth_27 : decode cX1_greatestDepth 27 = .ok (.invokestatic 73, 3) := by decide +kernel
theorem dX1_greatestDepth_30 : decode cX1_greatestDepth 30 = .ok (.istore_n 1, 1) := by decide +kernel
theorem dX1_greatestDepth_31 : decode cX1_greatestDepth 31 = .ok (.iinc 2 1, 3) := by decide +kernel
theorem dX1_greatestDepth_34 : decode cX1_greatestDepth 34 = .ok (.goto (-30), 3) := by decide +kernel
theorem dX1_greatestDepth_37 : decode cX1_greatestDepth 37 = .ok (.iload_n 1, 1) := by decide +kernel
theorem dX1_greatestDepth_38 : decode cX1_greatestDepth 38 = .ok (.ireturn, 1) := by decide +kernel
theorem dX1_choose_0 : decode cX1_choose 0 = .ok (.aload_n 2, 1) := by decide +kernel
theorem dX1_choose_1 : decode cX1_choose 1 = .ok (.iconst 0, 1) := by decide +kernel
theorem dX1_choose_2 : decode cX1_choose 2 = .ok (.invokevirtual 67, 3) := by decide +kernel
theorem dX1_choose_5 : decode cX1_choose 5 = .ok (.iload_n 1, 1) := by decide +kernel
theorem dX1_choose_6 : decode cX1_choose 6 = .ok (.invokestatic 135, 3) := by decide +kernel
theorem dX1_choose_9 : decode cX1_choose 9 = .ok (.istore 4, 2) := by decide +kernel
theorem dX1_choose_11 : decode cX1_choose 11 = .ok (.ldc 138, 2) := by decide +kernel
theorem dX1_choose_13 : decode cX1_choose 13 = .ok (.istore 5, 2) := by decide +kernel
theorem dX1_choose_15 : decode cX1_choose 15 = .ok (.iconst 0, 1) := by decide +kernel
theorem dX1_choose_16 : decode cX1_choose 16 = .ok (.istore 6, 2) := by decide +kernel
theorem dX1_choose_18 : decode cX1_choose 18 = .ok (.iload 6, 2) := by decide +kernel
theorem dX1_choose_20 : decode cX1_choose 20 = .ok (.iconst 5, 1) := by decide +kernel
theorem dX1_choose_21 : decode cX1_choose 21 = .ok (.if_icmp .ge 120, 3) := by decide +kernel
theorem dX1_choose_24 : decode cX1_choose 24 = .ok (.iload 6, 2) := by decide +kernel
theorem dX1_choose_26 : decode cX1_choose 26 = .ok (.invokestatic 128, 3) := by decide +kernel
theorem dX1_choose_29 : decode cX1_choose 29 = .ok (.ifCond .eq 7, 3) := by decide +kernel
theorem dX1_choose_32 : decode cX1_choose 32 = .ok (.iconst 1, 1) := by decide +kernel
theorem dX1_choose_33 : decode cX1_choose 33 = .ok (.goto 4, 3) := by decide +kernel
theorem dX1_choose_36 : decode cX1_choose 36 = .ok (.iconst 0, 1) := by decide +kernel
theorem dX1_choose_37 : decode cX1_choose 37 = .ok (.istore 7, 2) := by decide +kernel
theorem dX1_choose_39 : decode cX1_choose 39 = .ok (.iload 6, 2) := by decide +kernel
theorem dX1_choose_41 : decode cX1_choose 41 = .ok (.invokestatic 128, 3) := by decide +kernel
theorem dX1_choose_44 : decode cX1_choose 44 = .ok (.ifCond .eq 8, 3) := by decide +kernel
theorem dX1_choose_47 : decode cX1_choose 47 = .ok (.iload 4, 2) := by decide +kernel
theorem dX1_choose_49 : decode cX1_choose 49 = .ok (.goto 4, 3) := by decide +kernel
theorem dX1_choose_52 : decode cX1_choose 52 = .ok (.iconst 0, 1) := by decide +kernel
theorem dX1_choose_53 : decode cX1_choose 53 = .ok (.istore 8, 2) := by decide +kernel
theorem dX1_choose_55 : decode cX1_choose 55 = .ok (.iload 7, 2) := by decide +kernel
theorem dX1_choose_57 : decode cX1_choose 57 = .ok (.istore 9, 2) := by decide +kernel
theorem dX1_choose_59 : decode cX1_choose 59 = .ok (.iload 9, 2) := by decide +kernel
theorem dX1_choose_61 : decode cX1_choose 61 = .ok (.iload 8, 2) := by decide +kernel
theorem dX1_choose_63 : decode cX1_choose 63 = .ok (.if_icmp .gt 72, 3) := by decide +kernel
theorem dX1_choose_66 : decode cX1_choose 66 = .ok (.iload 6, 2) := by decide +kernel
theorem dX1_choose_68 : decode cX1_choose 68 = .ok (.invokestatic 128, 3) := by decide +kernel
theorem dX1_choose_71 : decode cX1_choose 71 = .ok (.ifCond .eq 22, 3) := by decide +kernel
theorem dX1_choose_74 : decode cX1_choose 74 = .ok (.aload_n 0, 1) := by decide +kernel
theorem dX1_choose_75 : decode cX1_choose 75 = .ok (.iload_n 1, 1) := by decide +kernel
theorem dX1_choose_76 : decode cX1_choose 76 = .ok (.iload 9, 2) := by decide +kernel
theorem dX1_choose_78 : decode cX1_choose 78 = .ok (.isub, 1) := by decide +kernel
theorem dX1_choose_79 : decode cX1_choose 79 = .ok (.invokevirtual 139, 3) := by decide +kernel
theorem dX1_choose_82 : decode cX1_choose 82 = .ok (.aload_n 2, 1) := by decide +kernel
theorem dX1_choose_83 : decode cX1_choose 83 = .ok (.iconst 1, 1) := by decide +kernel
theorem dX1_choose_84 : decode cX1_choose 84 = .ok (.invokevirtual 67, 3) := by decide +kernel
theorem dX1_choose_87 : decode cX1_choose 87 = .ok (.if_icmp .lt 6, 3) := by decide +kernel
theorem dX1_choose_90 : decode cX1_choose 90 = .ok (.goto 39, 3) := by decide +kernel
theorem dX1_choose_93 : decode cX1_choose 93 = .ok (.aload_n 3, 1) := by decide +kernel
theorem dX1_choose_94 : decode cX1_choose 94 = .ok (.aload_n 0, 1) := by decide +kernel
theorem dX1_choose_95 : decode cX1_choose 95 = .ok (.getfield 28, 3) := by decide +kernel
theorem dX1_choose_98 : decode cX1_choose 98 = .ok (.iload_n 1, 1) := by decide +kernel
theorem dX1_choose_99 : decode cX1_choose 99 = .ok (.iload 6, 2) := by decide +kernel
theorem dX1_choose_101 : decode cX1_choose 101 = .ok (.iload 9, 2) := by decide +kernel
theorem dX1_choose_103 : decode cX1_choose 103 = .ok (.aload_n 2, 1) := by decide +kernel
theorem dX1_choose_104 : decode cX1_choose 104 = .ok (.invokevirtual 142, 3) := by decide +kernel
theorem dX1_choose_107 : decode cX1_choose 107 = .ok (.istore 10, 2) := by decide +kernel
theorem dX1_choose_109 : decode cX1_choose 109 = .ok (.iload 10, 2) := by decide +kernel
theorem dX1_choose_111 : decode cX1_choose 111 = .ok (.iload 5, 2) := by decide +kernel
theorem dX1_choose_113 : decode cX1_choose 113 = .ok (.if_icmp .ge 16, 3) := by decide +kernel
theorem dX1_choose_116 : decode cX1_choose 116 = .ok (.iload 10, 2) := by decide +kernel
theorem dX1_choose_118 : decode cX1_choose 118 = .ok (.istore 5, 2) := by decide +kernel
theorem dX1_choose_120 : decode cX1_choose 120 = .ok (.aload_n 0, 1) := by decide +kernel
theorem dX1_choose_121 : decode cX1_choose 121 = .ok (.iload_n 1, 1) := by decide +kernel
theorem dX1_choose_122 : decode cX1_choose 122 = .ok (.iload 6, 2) := by decide +kernel
theorem dX1_choose_124 : decode cX1_choose 124 = .ok (.iload 9, 2) := by decide +kernel
theorem dX1_choose_126 : decode cX1_choose 126 = .ok (.invokevirtual 146, 3) := by decide +kernel
theorem dX1_choose_129 : decode cX1_choose 129 = .ok (.iinc 9 1, 3) := by decide +kernel
theorem dX1_choose_132 : decode cX1_choose 132 = .ok (.goto (-73), 3) := by decide +kernel
theorem dX1_choose_135 : decode cX1_choose 135 = .ok (.iinc 6 1, 3) := by decide +kernel
theorem dX1_choose_138 : decode cX1_choose 138 = .ok (.goto (-120), 3) := by decide +kernel
theorem dX1_choose_141 : decode cX1_choose 141 = .ok (.return_, 1) := by decide +kernel
theorem dX1_decide_0 : decode cX1_decide 0 = .ok (.iload_n 1, 1) := by decide +kernel
theorem dX1_decide_1 : decode cX1_decide 1 = .ok (.ifCond .lt 70, 3) := by decide +kernel
theorem dX1_decide_4 : decode cX1_decide 4 = .ok (.iload_n 1, 1) := by decide +kernel
theorem dX1_decide_5 : decode cX1_decide 5 = .ok (.aload_n 0, 1) := by decide +kernel
theorem dX1_decide_6 : decode cX1_decide 6 = .ok (.getfield 39, 3) := by decide +kernel
theorem dX1_decide_9 : decode cX1_decide 9 = .ok (.arraylength, 1) := by decide +kernel
theorem dX1_decide_10 : decode cX1_decide 10 = .ok (.if_icmp .ge 61, 3) := by decide +kernel
theorem dX1_decide_13 : decode cX1_decide 13 = .ok (.iload_n 1, 1) := by decide +kernel
theorem dX1_decide_14 : decode cX1_decide 14 = .ok (.aload_n 0, 1) := by decide +kernel
theorem dX1_decide_15 : decode cX1_decide 15 = .ok (.getfield 42, 3) := by decide +kernel
theorem dX1_decide_18 : decode cX1_decide 18 = .ok (.arraylength, 1) := by decide +kernel
theorem dX1_decide_19 : decode cX1_decide 19 = .ok (.if_icmp .ge 52, 3) := by decide +kernel
theorem dX1_decide_22 : decode cX1_decide 22 = .ok (.iload_n 1, 1) := by decide +kernel
theorem dX1_decide_23 : decode cX1_decide 23 = .ok (.aload_n 0, 1) := by decide +kernel
theorem dX1_decide_24 : decode cX1_decide 24 = .ok (.getfield 45, 3) := by decide +kernel
theorem dX1_decide_27 : decode cX1_decide 27 = .ok (.arraylength, 1) := by decide +kernel
theorem dX1_decide_28 : decode cX1_decide 28 = .ok (.if_icmp .ge 43, 3) := by decide +kernel
theorem dX1_decide_31 : decode cX1_decide 31 = .ok (.aload_n 0, 1) := by decide +kernel
theorem dX1_decide_32 : decode cX1_decide 32 = .ok (.getfield 39, 3) := by decide +kernel
theorem dX1_decide_35 : decode cX1_decide 35 = .ok (.iload_n 1, 1) := by decide +kernel
theorem dX1_decide_36 : decode cX1_decide 36 = .ok (.iload_n 2, 1) := by decide +kernel
theorem dX1_decide_37 : decode cX1_decide 37 = .ok (.iastore, 1) := by decide +kernel
theorem dX1_decide_38 : decode cX1_decide 38 = .ok (.aload_n 0, 1) := by decide +kernel
theorem dX1_decide_39 : decode cX1_decide 39 = .ok (.getfield 42, 3) := by decide +kernel
theorem dX1_decide_42 : decode cX1_decide 42 = .ok (.iload_n 1, 1) := by decide +kernel
theorem dX1_decide_43 : decode cX1_decide 43 = .ok (.iload_n 3, 1) := by decide +kernel
theorem dX1_decide_44 : decode cX1_decide 44 = .ok (.iastore, 1) := by decide +kernel
theorem dX1_decide_45 : decode cX1_decide 45 = .ok (.aload_n 0, 1) := by decide +kernel
theorem dX1_decide_46 : decode cX1_decide 46 = .ok (.getfield 45, 3) := by decide +kernel
theorem dX1_decide_49 : decode cX1_decide 49 = .ok (.iload_n 1, 1) := by decide +kernel
theorem dX1_decide_50 : decode cX1_decide 50 = .ok (.iload_n 2, 1) := by decide +kernel
theorem dX1_decide_51 : decode cX1_decide 51 = .ok (.invokestatic 128, 3) := by decide +kernel
theorem dX1_decide_54 : decode cX1_decide 54 = .ok (.ifCond .eq 15, 3) := by decide +kernel
theorem dX1_decide_57 : decode cX1_decide 57 = .ok (.aload_n 0, 1) := by decide +kernel
theorem dX1_decide_58 : decode cX1_decide 58 = .ok (.iload_n 1, 1) := by decide +kernel
theorem dX1_decide_59 : decode cX1_decide 59 = .ok (.iload_n 3, 1) := by decide +kernel
theorem dX1_decide_60 : decode cX1_decide 60 = .ok (.isub, 1) := by decide +kernel
theorem dX1_decide_61 : decode cX1_decide 61 = .ok (.invokevirtual 139, 3) := by decide +kernel
theorem dX1_decide_64 : decode cX1_decide 64 = .ok (.iconst 1, 1) := by decide +kernel
theorem dX1_decide_65 : decode cX1_decide 65 = .ok (.iadd, 1) := by decide +kernel
theorem dX1_decide_66 : decode cX1_decide 66 = .ok (.goto 4, 3) := by decide +kernel
theorem dX1_decide_69 : decode cX1_decide 69 = .ok (.iconst 0, 1) := by decide +kernel
theorem dX1_decide_70 : decode cX1_decide 70 = .ok (.iastore, 1) := by decide +kernel
theorem dX1_decide_71 : decode cX1_decide 71 = .ok (.return_, 1) := by decide +kernel
theorem dX1_tallyNumbers_0 : decode cX1_tallyNumbers 0 = .ok (.iconst 0, 1) := by decide +kernel
theorem dX1_tallyNumbers_1 : decode cX1_tallyNumbers 1 = .ok (.istore_n 2, 1) := by decide +kernel
theorem dX1_tallyNumbers_2 : decode cX1_tallyNumbers 2 = .ok (.iload_n 2, 1) := by decide +kernel
theorem dX1_tallyNumbers_3 : decode cX1_tallyNumbers 3 = .ok (.aload_n 1, 1) := by decide +kernel
theorem dX1_tallyNumbers_4 : decode cX1_tallyNumbers 4 = .ok (.invokevirtual 150, 3) := by decide +kernel
theorem dX1_tallyNumbers_7 : decode cX1_tallyNumbers 7 = .ok (.if_icmp .ge 57, 3) := by decide +kernel
theorem dX1_tallyNumbers_10 : decode cX1_tallyNumbers 10 = .ok (.aload_n 1, 1) := by decide +kernel
theorem dX1_tallyNumbers_11 : decode cX1_tallyNumbers 11 = .ok (.iload_n 2, 1) := by decide +kernel
theorem dX1_tallyNumbers_12 : decode cX1_tallyNumbers 12 = .ok (.invokevirtual 151, 3) := by decide +kernel
theorem dX1_tallyNumbers_15 : decode cX1_tallyNumbers 15 = .ok (.bipush 96, 2) := by decide +kernel
theorem dX1_tallyNumbers_17 : decode cX1_tallyNumbers 17 = .ok (.imul, 1) := by decide +kernel
theorem dX1_tallyNumbers_18 : decode cX1_tallyNumbers 18 = .ok (.aload_n 1, 1) := by decide +kernel
theorem dX1_tallyNumbers_19 : decode cX1_tallyNumbers 19 = .ok (.iload_n 2, 1) := by decide +kernel
theorem dX1_tallyNumbers_20 : decode cX1_tallyNumbers 20 = .ok (.invokevirtual 154, 3) := by decide +kernel
theorem dX1_tallyNumbers_23 : decode cX1_tallyNumbers 23 = .ok (.iadd, 1) := by decide +kernel
theorem dX1_tallyNumbers_24 : decode cX1_tallyNumbers 24 = .ok (.istore_n 3, 1) := by decide +kernel
theorem dX1_tallyNumbers_25 : decode cX1_tallyNumbers 25 = .ok (.aload_n 1, 1) := by decide +kernel
theorem dX1_tallyNumbers_26 : decode cX1_tallyNumbers 26 = .ok (.iload_n 2, 1) := by decide +kernel
theorem dX1_tallyNumbers_27 : decode cX1_tallyNumbers 27 = .ok (.invokevirtual 151, 3) := by decide +kernel
theorem dX1_tallyNumbers_30 : decode cX1_tallyNumbers 30 = .ok (.bipush 8, 2) := by decide +kernel
theorem dX1_tallyNumbers_32 : decode cX1_tallyNumbers 32 = .ok (.if_icmp .eq 26, 3) := by decide +kernel
theorem dX1_tallyNumbers_35 : decode cX1_tallyNumbers 35 = .ok (.iload_n 3, 1) := by decide +kernel
theorem dX1_tallyNumbers_36 : decode cX1_tallyNumbers 36 = .ok (.ifCond .lt 22, 3) := by decide +kernel
theorem dX1_tallyNumbers_39 : decode cX1_tallyNumbers 39 = .ok (.iload_n 3, 1) := by decide +kernel
theorem dX1_tallyNumbers_40 : decode cX1_tallyNumbers 40 = .ok (.aload_n 0, 1) := by decide +kernel
theorem dX1_tallyNumbers_41 : decode cX1_tallyNumbers 41 = .ok (.getfield 11, 3) := by decide +kernel
theorem dX1_tallyNumbers_44 : decode cX1_tallyNumbers 44 = .ok (.arraylength, 1) := by decide +kernel
theorem dX1_tallyNumbers_45 : decode cX1_tallyNumbers 45 = .ok (.if_icmp .ge 13, 3) := by decide +kernel
theorem dX1_tallyNumbers_48 : decode cX1_tallyNumbers 48 = .ok (.aload_n 0, 1) := by decide +kernel
theorem dX1_tallyNumbers_49 : decode cX1_tallyNumbers 49 = .ok (.getfield 11, 3) := by decide +kernel
theorem dX1_tallyNumbers_52 : decode cX1_tallyNumbers 52 = .ok (.iload_n 3, 1) := by decide +kernel
theorem dX1_tallyNumbers_53 : decode cX1_tallyNumbers 53 = .ok (.dup2, 1) := by decide +kernel
theorem dX1_tallyNumbers_54 : decode cX1_tallyNumbers 54 = .ok (.iaload, 1) := by decide +kernel
theorem dX1_tallyNumbers_55 : decode cX1_tallyNumbers 55 = .ok (.iconst 1, 1) := by decide +kernel
theorem dX1_tallyNumbers_56 : decode cX1_tallyNumbers 56 = .ok (.iadd, 1) := by decide +kernel
theorem dX1_tallyNumbers_57 : decode cX1_tallyNumbers 57 = .ok (.iastore, 1) := by decide +kernel
theorem dX1_tallyNumbers_58 : decode cX1_tallyNumbers 58 = .ok (.iinc 2 1, 3) := by decide +kernel
theorem dX1_tallyNumbers_61 : decode cX1_tallyNumbers 61 = .ok (.goto (-59), 3) := by decide +kernel
theorem dX1_tallyNumbers_64 : decode cX1_tallyNumbers 64 = .ok (.return_, 1) := by decide +kernel
theorem dX2_init_0 : decode cX2_init 0 = .ok (.aload_n 0, 1) := by decide +kernel
theorem dX2_init_1 : decode cX2_init 1 = .ok (.invokespecial 3, 3) := by decide +kernel
theorem dX2_init_4 : decode cX2_init 4 = .ok (.aload_n 0, 1) := by decide +kernel
theorem dX2_init_5 : decode cX2_init 5 = .ok (.iconst 0, 1) := by decide +kernel
theorem dX2_init_6 : decode cX2_init 6 = .ok (.putfield 9, 3) := by decide +kernel
theorem dX2_init_9 : decode cX2_init 9 = .ok (.aload_n 0, 1) := by decide +kernel
theorem dX2_init_10 : decode cX2_init 10 = .ok (.iconst 0, 1) := by decide +kernel
theorem dX2_init_11 : decode cX2_init 11 = .ok (.putfield 15, 3) := by decide +kernel
theorem dX2_init_14 : decode cX2_init 14 = .ok (.aload_n 0, 1) := by decide +kernel
theorem dX2_init_15 : decode cX2_init 15 = .ok (.iload_n 1, 1) := by decide +kernel
theorem dX2_init_16 : decode cX2_init 16 = .ok (.putfield 18, 3) := by decide +kernel
theorem dX2_init_19 : decode cX2_init 19 = .ok (.aload_n 0, 1) := by decide +kernel
theorem dX2_init_20 : decode cX2_init 20 = .ok (.iload_n 1, 1) := by decide +kernel
theorem dX2_init_21 : decode cX2_init 21 = .ok (.bipush 6, 2) := by decide +kernel
theorem dX2_init_23 : decode cX2_init 23 = .ok (.imul, 1) := by decide +kernel
theorem dX2_init_24 : decode cX2_init 24 = .ok (.newarray .int, 2) := by decide +kernel
theorem dX2_init_26 : decode cX2_init 26 = .ok (.putfield 21, 3) := by decide +kernel
theorem dX2_init_29 : decode cX2_init 29 = .ok (.return_, 1) := by decide +kernel
theorem dX2_leastSum_0 : decode cX2_leastSum 0 = .ok (.aload_n 0, 1) := by decide +kernel
theorem dX2_leastSum_1 : decode cX2_leastSum 1 = .ok (.getfield 21, 3) := by decide +kernel
theorem dX2_leastSum_4 : decode cX2_leastSum 4 = .ok (.iconst 0, 1) := by decide +kernel
theorem dX2_leastSum_5 : decode cX2_leastSum 5 = .ok (.invokestatic 25, 3) := by decide +kernel
theorem dX2_leastSum_8 : decode cX2_leastSum 8 = .ok (.aload_n 2, 1) := by decide +kernel
theorem dX2_leastSum_9 : decode cX2_leastSum 9 = .ok (.iconst 1, 1) := by decide +kernel
theorem dX2_leastSum_10 : decode cX2_leastSum 10 = .ok (.invokevirtual 31, 3) := by decide +kernel
theorem dX2_leastSum_13 : decode cX2_leastSum 13 = .ok (.istore 4, 2) := by decide +kernel
theorem dX2_leastSum_15 : decode cX2_leastSum 15 = .ok (.iconst 0, 1) := by decide +kernel
theorem dX2_leastSum_16 : decode cX2_leastSum 16 = .ok (.istore 5, 2) := by decide +kernel
theorem dX2_leastSum_18 : decode cX2_leastSum 18 = .ok (.aload_n 0, 1) := by decide +kernel
theorem dX2_leastSum_19 : decode cX2_leastSum 19 = .ok (.getfield 18, 3) := by decide +kernel
theorem dX2_leastSum_22 : decode cX2_leastSum 22 = .ok (.iconst 1, 1) := by decide +kernel
theorem dX2_leastSum_23 : decode cX2_leastSum 23 = .ok (.isub, 1) := by decide +kernel
theorem dX2_leastSum_24 : decode cX2_leastSum 24 = .ok (.istore 6, 2) := by decide +kernel
theorem dX2_leastSum_26 : decode cX2_leastSum 26 = .ok (.iload 6, 2) := by decide +kernel
theorem dX2_leastSum_28 : decode cX2_leastSum 28 = .ok (.ifCond .lt 63, 3) := by decide +kernel
theorem dX2_leastSum_31 : decode cX2_leastSum 31 = .ok (.aload_n 1, 1) := by decide +kernel
theorem dX2_leastSum_32 : decode cX2_leastSum 32 = .ok (.iload 6, 2) := by decide +kernel
theorem dX2_leastSum_34 : decode cX2_leastSum 34 = .ok (.aload_n 2, 1) := by decide +kernel
theorem dX2_leastSum_35 : decode cX2_leastSum 35 = .ok (.aload_n 3, 1) := by decide +kernel
theorem dX2_leastSum_36 : decode cX2_leastSum 36 = .ok (.invokestatic 37, 3) := by decide +kernel
theorem dX2_leastSum_39 : decode cX2_leastSum 39 = .ok (.aload_n 0, 1) := by decide +kernel
theorem dX2_leastSum_40 : decode cX2_leastSum 40 = .ok (.iload 6, 2) := by decide +kernel
theorem dX2_leastSum_42 : decode cX2_leastSum 42 = .ok (.iconst 0, 1) := by decide +kernel
theorem dX2_leastSum_43 : decode cX2_leastSum 43 = .ok (.invokevirtual 41, 3) := by decide +kernel
theorem dX2_leastSum_46 : decode cX2_leastSum 46 = .ok (.iadd, 1) := by decide +kernel
theorem dX2_leastSum_47 : decode cX2_leastSum 47 = .ok (.istore 7, 2) := by decide +kernel
theorem dX2_leastSum_49 : decode cX2_leastSum 49 = .ok (.aload_n 0, 1) := by decide +kernel
theorem dX2_leastSum_50 : decode cX2_leastSum 50 = .ok (.aload_n 1, 1) := by decide +kernel
theorem dX2_leastSum_51 : decode cX2_leastSum 51 = .ok (.iload 6, 2) := by decide +kernel
theorem dX2_leastSum_53 : decode cX2_leastSum 53 = .ok (.aload_n 2, 1) := by decide +kernel
theorem dX2_leastSum_54 : decode cX2_leastSum 54 = .ok (.aload_n 3, 1) := by decide +kernel
theorem dX2_leastSum_55 : decode cX2_leastSum 55 = .ok (.invokevirtual 45, 3) := by decide +kernel
theorem dX2_leastSum_58 : decode cX2_leastSum 58 = .ok (.aload_n 0, 1) := by decide +kernel
theorem dX2_leastSum_59 : decode cX2_leastSum 59 = .ok (.getfield 15, 3) := by decide +kernel
theorem dX2_leastSum_62 : decode cX2_leastSum 62 = .ok (.ifCond .ne 13, 3) := by decide +kernel
theorem dX2_leastSum_65 : decode cX2_leastSum 65 = .ok (.iload 5, 2) := by decide +kernel
theorem dX2_leastSum_67 : decode cX2_leastSum 67 = .ok (.iload 7, 2) := by decide +kernel
theorem dX2_leastSum_69 : decode cX2_leastSum 69 = .ok (.iadd, 1) := by decide +kernel
theorem dX2_leastSum_70 : decode cX2_leastSum 70 = .ok (.istore 5, 2) := by decide +kernel
theorem dX2_leastSum_72 : decode cX2_leastSum 72 = .ok (.goto 13, 3) := by decide +kernel
theorem dX2_leastSum_75 : decode cX2_leastSum 75 = .ok (.aload_n 0, 1) := by decide +kernel
theorem dX2_leastSum_76 : decode cX2_leastSum 76 = .ok (.iload 6, 2) := by decide +kernel
theorem dX2_leastSum_78 : decode cX2_leastSum 78 = .ok (.iload 7, 2) := by decide +kernel
theorem dX2_leastSum_80 : decode cX2_leastSum 80 = .ok (.iload 4, 2) := by decide +kernel
theorem dX2_leastSum_82 : decode cX2_leastSum 82 = .ok (.invokevirtual 49, 3) := by decide +kernel
theorem dX2_leastSum_85 : decode cX2_leastSum 85 = .ok (.iinc 6 (-1), 3) := by decide +kernel
theorem dX2_leastSum_88 : decode cX2_leastSum 88 = .ok (.goto (-62), 3) := by decide +kernel
theorem dX2_leastSum_91 : decode cX2_leastSum 91 = .ok (.iload 5, 2) := by decide +kernel
theorem dX2_leastSum_93 : decode cX2_leastSum 93 = .ok (.ireturn, 1) := by decide +kernel
theorem dX2_hang_0 : decode cX2_hang 0 = .ok (.iconst 0, 1) := by decide +kernel
theorem dX2_hang_1 : decode cX2_hang 1 = .ok (.istore 4, 2) := by decide +kernel
theorem dX2_hang_3 : decode cX2_hang 3 = .ok (.iload 4, 2) := by decide +kernel
theorem dX2_hang_5 : decode cX2_hang 5 = .ok (.iload_n 3, 1) := by decide +kernel
theorem dX2_hang_6 : decode cX2_hang 6 = .ok (.if_icmp .gt 86, 3) := by decide +kernel
theorem dX2_hang_9 : decode cX2_hang 9 = .ok (.iload 4, 2) := by decide +kernel
theorem dX2_hang_11 : decode cX2_hang 11 = .ok (.bipush 6, 2) := by decide +kernel
theorem dX2_hang_13 : decode cX2_hang 13 = .ok (.if_icmp .ge 79, 3) := by decide +kernel
theorem dX2_hang_16 : decode cX2_hang 16 = .ok (.iload_n 2, 1) := by decide +kernel
theorem dX2_hang_17 : decode cX2_hang 17 = .ok (.istore 5, 2) := by decide +kernel
theorem dX2_hang_19 : decode cX2_hang 19 = .ok (.iload 4, 2) := by decide +kernel
theorem dX2_hang_21 : decode cX2_hang 21 = .ok (.iload_n 3, 1) := by decide +kernel
theorem dX2_hang_22 : decode cX2_hang 22 = .ok (.if_icmp .ge 23, 3) := by decide +kernel
theorem dX2_hang_25 : decode cX2_hang 25 = .ok (.iload_n 2, 1) := by decide +kernel
theorem dX2_hang_26 : decode cX2_hang 26 = .ok (.aload_n 0, 1) := by decide +kernel
theorem dX2_hang_27 : decode cX2_hang 27 = .ok (.getfield 9, 3) := by decide +kernel
theorem dX2_hang_30 : decode cX2_hang 30 = .ok (.aload_n 0, 1) := by decide +kernel
theorem dX2_hang_31 : decode cX2_hang 31 = .ok (.iload_n 1, 1) := by decide +kernel
theorem dX2_hang_32 : decode cX2_hang 32 = .ok (.iload 4, 2) := by decide +kernel
theorem dX2_hang_34 : decode cX2_hang 34 = .ok (.iconst 1, 1) := by decide +kernel
theorem dX2_hang_35 : decode cX2_hang 35 = .ok (.iadd, 1) := by decide +kernel
theorem dX2_hang_36 : decode cX2_hang 36 = .ok (.invokevirtual 41, 3) := by decide +kernel
theorem dX2_hang_39 : decode cX2_hang 39 = .ok (.iadd, 1) := by decide +kernel
theorem dX2_hang_40 : decode cX2_hang 40 = .ok (.invokestatic 53, 3) := by decide +kernel
theorem dX2_hang_43 : decode cX2_hang 43 = .ok (.istore 5, 2) := by decide +kernel
theorem dX2_hang_45 : decode cX2_hang 45 = .ok (.iload_n 1, 1) := by decide +kernel
theorem dX2_hang_46 : decode cX2_hang 46 = .ok (.aload_n 0, 1) := by decide +kernel
theorem dX2_hang_47 : decode cX2_hang 47 = .ok (.getfield 15, 3) := by decide +kernel
theorem dX2_hang_50 : decode cX2_hang 50 = .ok (.isub, 1) := by decide +kernel
theorem dX2_hang_51 : decode cX2_hang 51 = .ok (.bipush 6, 2) := by decide +kernel
theorem dX2_hang_53 : decode cX2_hang 53 = .ok (.imul, 1) := by decide +kernel
theorem dX2_hang_54 : decode cX2_hang 54 = .ok (.iload 4, 2) := by decide +kernel
theorem dX2_hang_56 : decode cX2_hang 56 = .ok (.iadd, 1) := by decide +kernel
theorem dX2_hang_57 : decode cX2_hang 57 = .ok (.istore 6, 2) := by decide +kernel
theorem dX2_hang_59 : decode cX2_hang 59 = .ok (.iload 6, 2) := by decide +kernel
theorem dX2_hang_61 : decode cX2_hang 61 = .ok (.ifCond .lt 25, 3) := by decide +kernel
theorem dX2_hang_64 : decode cX2_hang 64 = .ok (.iload 6, 2) := by decide +kernel
theorem dX2_hang_66 : decode cX2_hang 66 = .ok (.aload_n 0, 1) := by decide +kernel
theorem dX2_hang_67 : decode cX2_hang 67 = .ok (.getfield 21, 3) := by decide +kernel
theorem dX2_hang_70 : decode cX2_hang 70 = .ok (.arraylength, 1) := by decide +kernel
theorem dX2_hang_71 : decode cX2_hang 71 = .ok (.if_icmp .ge 15, 3) := by decide +kernel
theorem dX2_hang_74 : decode cX2_hang 74 = .ok (.aload_n 0, 1) := by decide +kernel
theorem dX2_hang_75 : decode cX2_hang 75 = .ok (.getfield 21, 3) := by decide +kernel
theorem dX2_hang_78 : decode cX2_hang 78 = .ok (.iload 6, 2) := by decide +kernel
theorem dX2_hang_80 : decode cX2_hang 80 = .ok (.dup2, 1) := by decide +kernel
theorem dX2_hang_81 : decode cX2_hang 81 = .ok (.iaload, 1) := by decide +kernel
theorem dX2_hang_82 : decode cX2_hang 82 = .ok (.iload 5, 2) := by decide +kernel
theorem dX2_hang_84 : decode cX2_hang 84 = .ok (.iadd, 1) := by decide +kernel
theorem dX2_hang_85 : decode cX2_hang 85 = .ok (.iastore, 1) := by decide +kernel
theorem dX2_hang_86 : decode cX2_hang 86 = .ok (.iinc 4 1, 3) := by decide +kernel
theorem dX2_hang_89 : decode cX2_hang 89 = .ok (.goto (-86), 3) := by decide +kernel
theorem dX2_hang_92 : decode cX2_hang 92 = .ok (.return_, 1) := by decide +kernel
theorem dX2_belowOf_0 : decode cX2_belowOf 0 = .ok (.aload_n 0, 1) := by decide +kernel
theorem dX2_belowOf_1 : decode cX2_belowOf 1 = .ok (.getfield 21, 3) := by decide +kernel
theorem dX2_belowOf_4 : decode cX2_belowOf 4 = .ok (.iload_n 1, 1) := by decide +kernel
theorem dX2_belowOf_5 : decode cX2_belowOf 5 = .ok (.bipush 6, 2) := by decide +kernel
theorem dX2_belowOf_7 : decode cX2_belowOf 7 = .ok (.imul, 1) := by decide +kernel
theorem dX2_belowOf_8 : decode cX2_belowOf 8 = .ok (.iload_n 2, 1) := by decide +kernel
theorem dX2_belowOf_9 : decode cX2_belowOf 9 = .ok (.iadd, 1) := by decide +kernel
theorem dX2_belowOf_10 : decode cX2_belowOf 10 = .ok (.invokestatic 58, 3) := by decide +kernel
theorem dX2_belowOf_13 : decode cX2_belowOf 13 = .ok (.ireturn, 1) := by decide +kernel
theorem dX2_bitsAlone_0 : decode cX2_bitsAlone 0 = .ok (.ldc 62, 2) := by decide +kernel
theorem dX2_bitsAlone_2 : decode cX2_bitsAlone 2 = .ok (.istore 4, 2) := by decide +kernel
theorem dX2_bitsAlone_4 : decode cX2_bitsAlone 4 = .ok (.iconst 0, 1) := by decide +kernel
theorem dX2_bitsAlone_5 : decode cX2_bitsAlone 5 = .ok (.istore 5, 2) := by decide +kernel
theorem dX2_bitsAlone_7 : decode cX2_bitsAlone 7 = .ok (.iload 5, 2) := by decide +kernel
theorem dX2_bitsAlone_9 : decode cX2_bitsAlone 9 = .ok (.iconst 5, 1) := by decide +kernel
theorem dX2_bitsAlone_10 : decode cX2_bitsAlone 10 = .ok (.if_icmp .ge 34, 3) := by decide +kernel
theorem dX2_bitsAlone_13 : decode cX2_bitsAlone 13 = .ok (.iload 5, 2) := by decide +kernel
theorem dX2_bitsAlone_15 : decode cX2_bitsAlone 15 = .ok (.invokestatic 63, 3) := by decide +kernel
theorem dX2_bitsAlone_18 : decode cX2_bitsAlone 18 = .ok (.ifCond .ne 20, 3) := by decide +kernel
theorem dX2_bitsAlone_21 : decode cX2_bitsAlone 21 = .ok (.iload 4, 2) := by decide +kernel
theorem dX2_bitsAlone_23 : decode cX2_bitsAlone 23 = .ok (.aload_n 3, 1) := by decide +kernel
theorem dX2_bitsAlone_24 : decode cX2_bitsAlone 24 = .ok (.aload_n 0, 1) := by decide +kernel
theorem dX2_bitsAlone_25 : decode cX2_bitsAlone 25 = .ok (.iload_n 1, 1) := by decide +kernel
theorem dX2_bitsAlone_26 : decode cX2_bitsAlone 26 = .ok (.iload 5, 2) := by decide +kernel
theorem dX2_bitsAlone_28 : decode cX2_bitsAlone 28 = .ok (.iconst 0, 1) := by decide +kernel
theorem dX2_bitsAlone_29 : decode cX2_bitsAlone 29 = .ok (.aload_n 2, 1) := by decide +kernel
theorem dX2_bitsAlone_30 : decode cX2_bitsAlone 30 = .ok (.invokevirtual 67, 3) := by decide +kernel
theorem dX2_bitsAlone_33 : decode cX2_bitsAlone 33 = .ok (.invokestatic 53, 3) := by decide +kernel
theorem dX2_bitsAlone_36 : decode cX2_bitsAlone 36 = .ok (.istore 4, 2) := by decide +kernel
theorem dX2_bitsAlone_38 : decode cX2_bitsAlone 38 = .ok (.iinc 5 1, 3) := by decide +kernel
theorem dX2_bitsAlone_41 : decode cX2_bitsAlone 41 = .ok (.goto (-34), 3) := by decide +kernel
theorem dX2_bitsAlone_44 : decode cX2_bitsAlone 44 = .ok (.iload 4, 2) := by decide +kernel
theorem dX2_bitsAlone_46 : decode cX2_bitsAlone 46 = .ok (.ireturn, 1) := by decide +kernel
theorem dX2_findCopy_0 : decode cX2_findCopy 0 = .ok (.aload_n 0, 1) := by decide +kernel
theorem dX2_findCopy_1 : decode cX2_findCopy 1 = .ok (.ldc 62, 2) := by decide +kernel
theorem dX2_findCopy_3 : decode cX2_findCopy 3 = .ok (.putfield 9, 3) := by decide +kernel
theorem dX2_findCopy_6 : decode cX2_findCopy 6 = .ok (.aload_n 0, 1) := by decide +kernel
theorem dX2_findCopy_7 : decode cX2_findCopy 7 = .ok (.iconst 0, 1) := by decide +kernel
theorem dX2_findCopy_8 : decode cX2_findCopy 8 = .ok (.putfield 15, 3) := by decide +kernel
theorem dX2_findCopy_11 : decode cX2_findCopy 11 = .ok (.aload_n 3, 1) := by decide +kernel
theorem dX2_findCopy_12 : decode cX2_findCopy 12 = .ok (.iconst 0, 1) := by decide +kernel
theorem dX2_findCopy_13 : decode cX2_findCopy 13 = .ok (.invokevirtual 31, 3) := by decide +kernel
theorem dX2_findCopy_16 : decode cX2_findCopy 16 = .ok (.iload_n 2, 1) := by decide +kernel
theorem dX2_findCopy_17 : decode cX2_findCopy 17 = .ok (.invokestatic 53, 3) := by decide +kernel
theorem dX2_findCopy_20 : decode cX2_findCopy 20 = .ok (.istore 5, 2) := by decide +kernel
theorem dX2_findCopy_22 : decode cX2_findCopy 22 = .ok (.iconst 1, 1) := by decide +kernel
theorem dX2_findCopy_23 : decode cX2_findCopy 23 = .ok (.istore 6, 2) := by decide +kernel
theorem dX2_findCopy_25 : decode cX2_findCopy 25 = .ok (.iload 6, 2) := by decide +kernel
theorem dX2_findCopy_27 : decode cX2_findCopy 27 = .ok (.iload 5, 2) := by decide +kernel
theorem dX2_findCopy_29 : decode cX2_findCopy 29 = .ok (.if_icmp .gt 59, 3) := by decide +kernel
theorem dX2_findCopy_32 : decode cX2_findCopy 32 = .ok (.iconst 2, 1) := by decide +kernel
theorem dX2_findCopy_33 : decode cX2_findCopy 33 = .ok (.istore 7, 2) := by decide +kernel
theorem dX2_findCopy_35 : decode cX2_findCopy 35 = .ok (.iload 7, 2) := by decide +kernel
theorem dX2_findCopy_37 : decode cX2_findCopy 37 = .ok (.iconst 3, 1) := by decide +kernel
theorem dX2_findCopy_38 : decode cX2_findCopy 38 = .ok (.if_icmp .gt 44, 3) := by decide +kernel
theorem dX2_findCopy_41 : decode cX2_findCopy 41 = .ok (.aload 4, 2) := by decide +kernel
theorem dX2_findCopy_43 : decode cX2_findCopy 43 = .ok (.aload_n 1, 1) := by decide +kernel
theorem dX2_findCopy_44 : decode cX2_findCopy 44 = .ok (.iload_n 2, 1) := by decide +kernel
theorem dX2_findCopy_45 : decode cX2_findCopy 45 = .ok (.iload 7, 2) := by decide +kernel
theorem dX2_findCopy_47 : decode cX2_findCopy 47 = .ok (.iload 6, 2) := by decide +kernel
theorem dX2_findCopy_49 : decode cX2_findCopy 49 = .ok (.aload_n 3, 1) := by decide +kernel
theorem dX2_findCopy_50 : decode cX2_findCopy 50 = .ok (.invokevirtual 67, 3) := by decide +kernel
theorem dX2_findCopy_53 : decode cX2_findCopy 53 = .ok (.istore 8, 2) := by decide +kernel
theorem dX2_findCopy_55 : decode cX2_findCopy 55 = .ok (.iload 8, 2) := by decide +kernel
theorem dX2_findCopy_57 : decode cX2_findCopy 57 = .ok (.aload_n 0, 1) := by decide +kernel
theorem dX2_findCopy_58 : decode cX2_findCopy 58 = .ok (.getfield 9, 3) := by decide +kernel
theorem dX2_findCopy_61 : decode cX2_findCopy 61 = .ok (.if_icmp .ge 15, 3) := by decide +kernel
theorem dX2_findCopy_64 : decode cX2_findCopy 64 = .ok (.aload_n 0, 1) := by decide +kernel
theorem dX2_findCopy_65 : decode cX2_findCopy 65 = .ok (.iload 8, 2) := by decide +kernel
theorem dX2_findCopy_67 : decode cX2_findCopy 67 = .ok (.putfield 9, 3) := by decide +kernel
theorem dX2_findCopy_70 : decode cX2_findCopy 70 = .ok (.aload_n 0, 1) := by decide +kernel
theorem dX2_findCopy_71 : decode cX2_findCopy 71 = .ok (.iload 6, 2) := by decide +kernel
theorem dX2_findCopy_73 : decode cX2_findCopy 73 = .ok (.putfield 15, 3) := by decide +kernel
theorem dX2_findCopy_76 : decode cX2_findCopy 76 = .ok (.iinc 7 1, 3) := by decide +kernel
theorem dX2_findCopy_79 : decode cX2_findCopy 79 = .ok (.goto (-44), 3) := by decide +kernel
theorem dX2_findCopy_82 : decode cX2_findCopy 82 = .ok (.iinc 6 1, 3) := by decide +kernel
theorem dX2_findCopy_85 : decode cX2_findCopy 85 = .ok (.goto (-60), 3) := by decide +kernel
theorem dX2_findCopy_88 : decode cX2_findCopy 88 = .ok (.return_, 1) := by decide +kernel
theorem dX3_init_0 : decode cX3_init 0 = .ok (.aload_n 0, 1) := by decide +kernel
theorem dX3_init_1 : decode cX3_init 1 = .ok (.invokespecial 3, 3) := by decide +kernel
theorem dX3_init_4 : decode cX3_init 4 = .ok (.aload_n 0, 1) := by decide +kernel
theorem dX3_init_5 : decode cX3_init 5 = .ok (.iload_n 1, 1) := by decide +kernel
theorem dX3_init_6 : decode cX3_init 6 = .ok (.newarray .int, 2) := by decide +kernel
theorem dX3_init_8 : decode cX3_init 8 = .ok (.putfield 9, 3) := by decide +kernel
theorem dX3_init_11 : decode cX3_init 11 = .ok (.aload_n 0, 1) := by decide +kernel
theorem dX3_init_12 : decode cX3_init 12 = .ok (.iload_n 1, 1) := by decide +kernel
theorem dX3_init_13 : decode cX3_init 13 = .ok (.newarray .int, 2) := by decide +kernel
theorem dX3_init_15 : decode cX3_init 15 = .ok (.putfield 15, 3) := by decide +kernel
theorem dX3_init_18 : decode cX3_init 18 = .ok (.return_, 1) := by decide +kernel
theorem dX3_thingAtPlace_0 : decode cX3_thingAtPlace 0 = .ok (.aload_n 0, 1) := by decide +kernel
theorem dX3_thingAtPlace_1 : decode cX3_thingAtPlace 1 = .ok (.getfield 9, 3) := by decide +kernel
theorem dX3_thingAtPlace_4 : decode cX3_thingAtPlace 4 = .ok (.iload_n 1, 1) := by decide +kernel
theorem dX3_thingAtPlace_5 : decode cX3_thingAtPlace 5 = .ok (.invokestatic 18, 3) := by decide +kernel
theorem dX3_thingAtPlace_8 : decode cX3_thingAtPlace 8 = .ok (.ireturn, 1) := by decide +kernel
theorem dX3_arrange_0 : decode cX3_arrange 0 = .ok (.iload_n 1, 1) := by decide +kernel
theorem dX3_arrange_1 : decode cX3_arrange 1 = .ok (.iconst 1, 1) := by decide +kernel
theorem dX3_arrange_2 : decode cX3_arrange 2 = .ok (.if_icmp .ne 9, 3) := by decide +kernel
theorem dX3_arrange_5 : decode cX3_arrange 5 = .ok (.aload_n 0, 1) := by decide +kernel
theorem dX3_arrange_6 : decode cX3_arrange 6 = .ok (.aload_n 2, 1) := by decide +kernel
theorem dX3_arrange_7 : decode cX3_arrange 7 = .ok (.invokevirtual 22, 3) := by decide +kernel
theorem dX3_arrange_10 : decode cX3_arrange 10 = .ok (.return_, 1) := by decide +kernel
theorem dX3_arrange_11 : decode cX3_arrange 11 = .ok (.iconst 0, 1) := by decide +kernel
theorem dX3_arrange_12 : decode cX3_arrange 12 = .ok (.istore_n 3, 1) := by decide +kernel
theorem dX3_arrange_13 : decode cX3_arrange 13 = .ok (.iload_n 3, 1) := by decide +kernel
theorem dX3_arrange_14 : decode cX3_arrange 14 = .ok (.aload_n 0, 1) := by decide +kernel
theorem dX3_arrange_15 : decode cX3_arrange 15 = .ok (.getfield 15, 3) := by decide +kernel
theorem dX3_arrange_18 : decode cX3_arrange 18 = .ok (.arraylength, 1) := by decide +kernel
theorem dX3_arrange_19 : decode cX3_arrange 19 = .ok (.if_icmp .ge 40, 3) := by decide +kernel
theorem dX3_arrange_22 : decode cX3_arrange 22 = .ok (.aload_n 2, 1) := by decide +kernel
theorem dX3_arrange_23 : decode cX3_arrange 23 = .ok (.iload_n 3, 1) := by decide +kernel
theorem dX3_arrange_24 : decode cX3_arrange 24 = .ok (.invokevirtual 26, 3) := by decide +kernel
theorem dX3_arrange_27 : decode cX3_arrange 27 = .ok (.lstore 4, 2) := by decide +kernel
theorem dX3_arrange_29 : decode cX3_arrange 29 = .ok (.aload_n 0, 1) := by decide +kernel
theorem dX3_arrange_30 : decode cX3_arrange 30 = .ok (.getfield 15, 3) := by decide +kernel
theorem dX3_arrange_33 : decode cX3_arrange 33 = .ok (.iload_n 3, 1) := by decide +kernel
theorem dX3_arrange_34 : decode cX3_arrange 34 = .ok (.iload_n 1, 1) := by decide +kernel
theorem dX3_arrange_35 : decode cX3_arrange 35 = .ok (.ifCond .ne 12, 3) := by decide +kernel
theorem dX3_arrange_38 : decode cX3_arrange 38 = .ok (.lload 4, 2) := by decide +kernel
theorem dX3_arrange_40 : decode cX3_arrange 40 = .ok (.invokestatic 32, 3) := by decide +kernel
theorem dX3_arrange_43 : decode cX3_arrange 43 = .ok (.ineg, 1) := by decide +kernel
theorem dX3_arrange_44 : decode cX3_arrange 44 = .ok (.goto 8, 3) := by decide +kernel
theorem dX3_arrange_47 : decode cX3_arrange 47 = .ok (.lload 4, 2) := by decide +kernel
theorem dX3_arrange_49 : decode cX3_arrange 49 = .ok (.invokestatic 38, 3) := by decide +kernel
theorem dX3_arrange_52 : decode cX3_arrange 52 = .ok (.iastore, 1) := by decide +kernel
theorem dX3_arrange_53 : decode cX3_arrange 53 = .ok (.iinc 3 1, 3) := by decide +kernel
theorem dX3_arrange_56 : decode cX3_arrange 56 = .ok (.goto (-43), 3) := by decide +kernel
theorem dX3_arrange_59 : decode cX3_arrange 59 = .ok (.aload_n 0, 1) := by decide +kernel
theorem dX3_arrange_60 : decode cX3_arrange 60 = .ok (.invokevirtual 41, 3) := by decide +kernel
theorem dX3_arrange_63 : decode cX3_arrange 63 = .ok (.return_, 1) := by decide +kernel
theorem dX3_leastKey_0 : decode cX3_leastKey 0 = .ok (.sipush 1024, 3) := by decide +kernel
theorem dX3_leastKey_3 : decode cX3_leastKey 3 = .ok (.istore_n 2, 1) := by decide +kernel
theorem dX3_leastKey_4 : decode cX3_leastKey 4 = .ok (.iconst 0, 1) := by decide +kernel
theorem dX3_leastKey_5 : decode cX3_leastKey 5 = .ok (.istore_n 3, 1) := by decide +kernel
theorem dX3_leastKey_6 : decode cX3_leastKey 6 = .ok (.iload_n 3, 1) := by decide +kernel
theorem dX3_leastKey_7 : decode cX3_leastKey 7 = .ok (.bipush 48, 2) := by decide +kernel
theorem dX3_leastKey_9 : decode cX3_leastKey 9 = .ok (.if_icmp .ge 32, 3) := by decide +kernel
theorem dX3_leastKey_12 : decode cX3_leastKey 12 = .ok (.lload_n 0, 1) := by decide +kernel
theorem dX3_leastKey_13 : decode cX3_leastKey 13 = .ok (.iload_n 3, 1) := by decide +kernel
theorem dX3_leastKey_14 : decode cX3_leastKey 14 = .ok (.invokestatic 44, 3) := by decide +kernel
theorem dX3_leastKey_17 : decode cX3_leastKey 17 = .ok (.ifCond .eq 18, 3) := by decide +kernel
theorem dX3_leastKey_20 : decode cX3_leastKey 20 = .ok (.iload_n 2, 1) := by decide +kernel
theorem dX3_leastKey_21 : decode cX3_leastKey 21 = .ok (.iload_n 3, 1) := by decide +kernel
theorem dX3_leastKey_22 : decode cX3_leastKey 22 = .ok (.ldc 48, 2) := by decide +kernel
theorem dX3_leastKey_24 : decode cX3_leastKey 24 = .ok (.imul, 1) := by decide +kernel
theorem dX3_leastKey_25 : decode cX3_leastKey 25 = .ok (.ldc 49, 2) := by decide +kernel
theorem dX3_leastKey_27 : decode cX3_leastKey 27 = .ok (.iand, 1) := by decide +kernel
theorem dX3_leastKey_28 : decode cX3_leastKey 28 = .ok (.bipush 6, 2) := by decide +kernel
theorem dX3_leastKey_30 : decode cX3_leastKey 30 = .ok (.ishr, 1) := by decide +kernel
theorem dX3_leastKey_31 : decode cX3_leastKey 31 = .ok (.invokestatic 50, 3) := by decide +kernel
theorem dX3_leastKey_34 : decode cX3_leastKey 34 = .ok (.istore_n 2, 1) := by decide +kernel
theorem dX3_leastKey_35 : decode cX3_leastKey 35 = .ok (.iinc 3 1, 3) := by decide +kernel
theorem dX3_leastKey_38 : decode cX3_leastKey 38 = .ok (.goto (-32), 3) := by decide +kernel
theorem dX3_leastKey_41 : decode cX3_leastKey 41 = .ok (.iload_n 2, 1) := by decide +kernel
theorem dX3_leastKey_42 : decode cX3_leastKey 42 = .ok (.ireturn, 1) := by decide +kernel
theorem dX3_layByKeys_0 : decode cX3_layByKeys 0 = .ok (.iconst 0, 1) := by decide +kernel
theorem dX3_layByKeys_1 : decode cX3_layByKeys 1 = .ok (.istore_n 1, 1) := by decide +kernel
theorem dX3_layByKeys_2 : decode cX3_layByKeys 2 = .ok (.iload_n 1, 1) := by decide +kernel
theorem dX3_layByKeys_3 : decode cX3_layByKeys 3 = .ok (.aload_n 0, 1) := by decide +kernel
theorem dX3_layByKeys_4 : decode cX3_layByKeys 4 = .ok (.getfield 9, 3) := by decide +kernel
theorem dX3_layByKeys_7 : decode cX3_layByKeys 7 = .ok (.arraylength, 1) := by decide +kernel
theorem dX3_layByKeys_8 : decode cX3_layByKeys 8 = .ok (.if_icmp .ge 77, 3) := by decide +kernel
theorem dX3_layByKeys_11 : decode cX3_layByKeys 11 = .ok (.iload_n 1, 1) := by decide +kernel
theorem dX3_layByKeys_12 : decode cX3_layByKeys 12 = .ok (.istore_n 2, 1) := by decide +kernel
theorem dX3_layByKeys_13 : decode cX3_layByKeys 13 = .ok (.iload_n 2, 1) := by decide +kernel
theorem dX3_layByKeys_14 : decode cX3_layByKeys 14 = .ok (.ifCond .le 58, 3) := by decide +kernel
theorem dX3_layByKeys_17 : decode cX3_layByKeys 17 = .ok (.iload_n 2, 1) := by decide +kernel
theorem dX3_layByKeys_18 : decode cX3_layByKeys 18 = .ok (.aload_n 0, 1) := by decide +kernel
theorem dX3_layByKeys_19 : decode cX3_layByKeys 19 = .ok (.getfield 9, 3) := by decide +kernel
theorem dX3_layByKeys_22 : decode cX3_layByKeys 22 = .ok (.arraylength, 1) := by decide +kernel
theorem dX3_layByKeys_23 : decode cX3_layByKeys 23 = .ok (.if_icmp .ge 49, 3) := by decide +kernel
theorem dX3_layByKeys_26 : decode cX3_layByKeys 26 = .ok (.aload_n 0, 1) := by decide +kernel
theorem dX3_layByKeys_27 : decode cX3_layByKeys 27 = .ok (.getfield 15, 3) := by decide +kernel
theorem dX3_layByKeys_30 : decode cX3_layByKeys 30 = .ok (.aload_n 0, 1) := by decide +kernel
