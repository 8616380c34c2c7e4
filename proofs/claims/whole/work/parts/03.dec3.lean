theorem dX9_degree_7 : decode cX9_degree 7 = .ok (.invokevirtual 107, 3) := by decide +kernel
theorem dX9_degree_10 : decode cX9_degree 10 = .ok (.ifCond .eq 13, 3) := by decide +kernel
theorem dX9_degree_13 : decode cX9_degree 13 = .ok (.iload_n 2, 1) := by decide +kernel
theorem dX9_degree_14 : decode cX9_degree 14 = .ok (.i2l, 1) := by decide +kernel
theorem dX9_degree_15 : decode cX9_degree 15 = .ok (.lconst 0, 1) := by decide +kernel
theorem dX9_degree_16 : decode cX9_degree 16 = .ok (.lconst 1, 1) := by decide +kernel
theorem dX9_degree_17 : decode cX9_degree 17 = .ok (.invokestatic 96, 3) := by decide +kernel
theorem dX9_degree_20 : decode cX9_degree 20 = .ok (.ifCond .ne 6, 3) := by decide +kernel
theorem dX9_degree_23 : decode cX9_degree 23 = .ok (.bipush (-2), 2) := by decide +kernel
theorem dX9_degree_25 : decode cX9_degree 25 = .ok (.ireturn, 1) := by decide +kernel
theorem dX9_degree_26 : decode cX9_degree 26 = .ok (.iconst 0, 1) := by decide +kernel
theorem dX9_degree_27 : decode cX9_degree 27 = .ok (.istore_n 3, 1) := by decide +kernel
theorem dX9_degree_28 : decode cX9_degree 28 = .ok (.iconst 0, 1) := by decide +kernel
theorem dX9_degree_29 : decode cX9_degree 29 = .ok (.istore 4, 2) := by decide +kernel
theorem dX9_degree_31 : decode cX9_degree 31 = .ok (.iload 4, 2) := by decide +kernel
theorem dX9_degree_33 : decode cX9_degree 33 = .ok (.aload_n 0, 1) := by decide +kernel
theorem dX9_degree_34 : decode cX9_degree 34 = .ok (.getfield 93, 3) := by decide +kernel
theorem dX9_degree_37 : decode cX9_degree 37 = .ok (.if_icmp .ge 32, 3) := by decide +kernel
theorem dX9_degree_40 : decode cX9_degree 40 = .ok (.iload_n 3, 1) := by decide +kernel
theorem dX9_degree_41 : decode cX9_degree 41 = .ok (.aload_n 0, 1) := by decide +kernel
theorem dX9_degree_42 : decode cX9_degree 42 = .ok (.getfield 13, 3) := by decide +kernel
theorem dX9_degree_45 : decode cX9_degree 45 = .ok (.bipush 48, 2) := by decide +kernel
theorem dX9_degree_47 : decode cX9_degree 47 = .ok (.iload 4, 2) := by decide +kernel
theorem dX9_degree_49 : decode cX9_degree 49 = .ok (.imul, 1) := by decide +kernel
theorem dX9_degree_50 : decode cX9_degree 50 = .ok (.iload_n 1, 1) := by decide +kernel
theorem dX9_degree_51 : decode cX9_degree 51 = .ok (.iadd, 1) := by decide +kernel
theorem dX9_degree_52 : decode cX9_degree 52 = .ok (.baload, 1) := by decide +kernel
theorem dX9_degree_53 : decode cX9_degree 53 = .ok (.ifCond .eq 7, 3) := by decide +kernel
theorem dX9_degree_56 : decode cX9_degree 56 = .ok (.iconst 1, 1) := by decide +kernel
theorem dX9_degree_57 : decode cX9_degree 57 = .ok (.goto 4, 3) := by decide +kernel
theorem dX9_degree_60 : decode cX9_degree 60 = .ok (.iconst 0, 1) := by decide +kernel
theorem dX9_degree_61 : decode cX9_degree 61 = .ok (.iadd, 1) := by decide +kernel
theorem dX9_degree_62 : decode cX9_degree 62 = .ok (.istore_n 3, 1) := by decide +kernel
theorem dX9_degree_63 : decode cX9_degree 63 = .ok (.iinc 4 1, 3) := by decide +kernel
theorem dX9_degree_66 : decode cX9_degree 66 = .ok (.goto (-35), 3) := by decide +kernel
theorem dX9_degree_69 : decode cX9_degree 69 = .ok (.iload_n 2, 1) := by decide +kernel
theorem dX9_degree_70 : decode cX9_degree 70 = .ok (.ifCond .ne 11, 3) := by decide +kernel
theorem dX9_degree_73 : decode cX9_degree 73 = .ok (.aload_n 0, 1) := by decide +kernel
theorem dX9_degree_74 : decode cX9_degree 74 = .ok (.iload_n 1, 1) := by decide +kernel
theorem dX9_degree_75 : decode cX9_degree 75 = .ok (.invokevirtual 115, 3) := by decide +kernel
theorem dX9_degree_78 : decode cX9_degree 78 = .ok (.goto 4, 3) := by decide +kernel
theorem dX9_degree_81 : decode cX9_degree 81 = .ok (.iload_n 3, 1) := by decide +kernel
theorem dX9_degree_82 : decode cX9_degree 82 = .ok (.ireturn, 1) := by decide +kernel
theorem dX9_meet_0 : decode cX9_meet 0 = .ok (.aload_n 0, 1) := by decide +kernel
theorem dX9_meet_1 : decode cX9_meet 1 = .ok (.iconst 0, 1) := by decide +kernel
theorem dX9_meet_2 : decode cX9_meet 2 = .ok (.putfield 1, 3) := by decide +kernel
theorem dX9_meet_5 : decode cX9_meet 5 = .ok (.aload_n 0, 1) := by decide +kernel
theorem dX9_meet_6 : decode cX9_meet 6 = .ok (.iload_n 1, 1) := by decide +kernel
theorem dX9_meet_7 : decode cX9_meet 7 = .ok (.invokevirtual 107, 3) := by decide +kernel
theorem dX9_meet_10 : decode cX9_meet 10 = .ok (.ifCond .eq 11, 3) := by decide +kernel
theorem dX9_meet_13 : decode cX9_meet 13 = .ok (.aload_n 0, 1) := by decide +kernel
theorem dX9_meet_14 : decode cX9_meet 14 = .ok (.iload_n 2, 1) := by decide +kernel
theorem dX9_meet_15 : decode cX9_meet 15 = .ok (.invokevirtual 107, 3) := by decide +kernel
theorem dX9_meet_18 : decode cX9_meet 18 = .ok (.ifCond .ne 6, 3) := by decide +kernel
theorem dX9_meet_21 : decode cX9_meet 21 = .ok (.bipush (-2), 2) := by decide +kernel
theorem dX9_meet_23 : decode cX9_meet 23 = .ok (.ireturn, 1) := by decide +kernel
theorem dX9_meet_24 : decode cX9_meet 24 = .ok (.iconst 0, 1) := by decide +kernel
theorem dX9_meet_25 : decode cX9_meet 25 = .ok (.istore_n 3, 1) := by decide +kernel
theorem dX9_meet_26 : decode cX9_meet 26 = .ok (.iconst 0, 1) := by decide +kernel
theorem dX9_meet_27 : decode cX9_meet 27 = .ok (.istore 4, 2) := by decide +kernel
theorem dX9_meet_29 : decode cX9_meet 29 = .ok (.iload 4, 2) := by decide +kernel
theorem dX9_meet_31 : decode cX9_meet 31 = .ok (.aload_n 0, 1) := by decide +kernel
theorem dX9_meet_32 : decode cX9_meet 32 = .ok (.getfield 93, 3) := by decide +kernel
theorem dX9_meet_35 : decode cX9_meet 35 = .ok (.if_icmp .ge 47, 3) := by decide +kernel
theorem dX9_meet_38 : decode cX9_meet 38 = .ok (.iload_n 3, 1) := by decide +kernel
theorem dX9_meet_39 : decode cX9_meet 39 = .ok (.aload_n 0, 1) := by decide +kernel
theorem dX9_meet_40 : decode cX9_meet 40 = .ok (.getfield 13, 3) := by decide +kernel
theorem dX9_meet_43 : decode cX9_meet 43 = .ok (.bipush 48, 2) := by decide +kernel
theorem dX9_meet_45 : decode cX9_meet 45 = .ok (.iload_n 1, 1) := by decide +kernel
theorem dX9_meet_46 : decode cX9_meet 46 = .ok (.imul, 1) := by decide +kernel
theorem dX9_meet_47 : decode cX9_meet 47 = .ok (.iload 4, 2) := by decide +kernel
theorem dX9_meet_49 : decode cX9_meet 49 = .ok (.iadd, 1) := by decide +kernel
theorem dX9_meet_50 : decode cX9_meet 50 = .ok (.baload, 1) := by decide +kernel
theorem dX9_meet_51 : decode cX9_meet 51 = .ok (.ifCond .eq 22, 3) := by decide +kernel
theorem dX9_meet_54 : decode cX9_meet 54 = .ok (.aload_n 0, 1) := by decide +kernel
theorem dX9_meet_55 : decode cX9_meet 55 = .ok (.getfield 13, 3) := by decide +kernel
theorem dX9_meet_58 : decode cX9_meet 58 = .ok (.bipush 48, 2) := by decide +kernel
theorem dX9_meet_60 : decode cX9_meet 60 = .ok (.iload_n 2, 1) := by decide +kernel
theorem dX9_meet_61 : decode cX9_meet 61 = .ok (.imul, 1) := by decide +kernel
theorem dX9_meet_62 : decode cX9_meet 62 = .ok (.iload 4, 2) := by decide +kernel
theorem dX9_meet_64 : decode cX9_meet 64 = .ok (.iadd, 1) := by decide +kernel
theorem dX9_meet_65 : decode cX9_meet 65 = .ok (.baload, 1) := by decide +kernel
theorem dX9_meet_66 : decode cX9_meet 66 = .ok (.ifCond .eq 7, 3) := by decide +kernel
theorem dX9_meet_69 : decode cX9_meet 69 = .ok (.iconst 1, 1) := by decide +kernel
theorem dX9_meet_70 : decode cX9_meet 70 = .ok (.goto 4, 3) := by decide +kernel
theorem dX9_meet_73 : decode cX9_meet 73 = .ok (.iconst 0, 1) := by decide +kernel
theorem dX9_meet_74 : decode cX9_meet 74 = .ok (.iadd, 1) := by decide +kernel
theorem dX9_meet_75 : decode cX9_meet 75 = .ok (.istore_n 3, 1) := by decide +kernel
theorem dX9_meet_76 : decode cX9_meet 76 = .ok (.iinc 4 1, 3) := by decide +kernel
theorem dX9_meet_79 : decode cX9_meet 79 = .ok (.goto (-50), 3) := by decide +kernel
theorem dX9_meet_82 : decode cX9_meet 82 = .ok (.iload_n 3, 1) := by decide +kernel
theorem dX9_meet_83 : decode cX9_meet 83 = .ok (.ireturn, 1) := by decide +kernel
theorem dX9_back_0 : decode cX9_back 0 = .ok (.aload_n 0, 1) := by decide +kernel
theorem dX9_back_1 : decode cX9_back 1 = .ok (.iconst 0, 1) := by decide +kernel
theorem dX9_back_2 : decode cX9_back 2 = .ok (.putfield 1, 3) := by decide +kernel
theorem dX9_back_5 : decode cX9_back 5 = .ok (.aload_n 0, 1) := by decide +kernel
theorem dX9_back_6 : decode cX9_back 6 = .ok (.iload_n 1, 1) := by decide +kernel
theorem dX9_back_7 : decode cX9_back 7 = .ok (.invokevirtual 107, 3) := by decide +kernel
theorem dX9_back_10 : decode cX9_back 10 = .ok (.ifCond .ne 6, 3) := by decide +kernel
theorem dX9_back_13 : decode cX9_back 13 = .ok (.bipush (-2), 2) := by decide +kernel
theorem dX9_back_15 : decode cX9_back 15 = .ok (.ireturn, 1) := by decide +kernel
theorem dX9_back_16 : decode cX9_back 16 = .ok (.iload_n 2, 1) := by decide +kernel
theorem dX9_back_17 : decode cX9_back 17 = .ok (.istore_n 3, 1) := by decide +kernel
theorem dX9_back_18 : decode cX9_back 18 = .ok (.iconst 0, 1) := by decide +kernel
theorem dX9_back_19 : decode cX9_back 19 = .ok (.istore 4, 2) := by decide +kernel
theorem dX9_back_21 : decode cX9_back 21 = .ok (.iload 4, 2) := by decide +kernel
theorem dX9_back_23 : decode cX9_back 23 = .ok (.aload_n 0, 1) := by decide +kernel
theorem dX9_back_24 : decode cX9_back 24 = .ok (.getfield 93, 3) := by decide +kernel
theorem dX9_back_27 : decode cX9_back 27 = .ok (.if_icmp .ge 34, 3) := by decide +kernel
theorem dX9_back_30 : decode cX9_back 30 = .ok (.aload_n 0, 1) := by decide +kernel
theorem dX9_back_31 : decode cX9_back 31 = .ok (.getfield 13, 3) := by decide +kernel
theorem dX9_back_34 : decode cX9_back 34 = .ok (.bipush 48, 2) := by decide +kernel
theorem dX9_back_36 : decode cX9_back 36 = .ok (.iload 4, 2) := by decide +kernel
theorem dX9_back_38 : decode cX9_back 38 = .ok (.imul, 1) := by decide +kernel
theorem dX9_back_39 : decode cX9_back 39 = .ok (.iload_n 1, 1) := by decide +kernel
theorem dX9_back_40 : decode cX9_back 40 = .ok (.iadd, 1) := by decide +kernel
theorem dX9_back_41 : decode cX9_back 41 = .ok (.baload, 1) := by decide +kernel
theorem dX9_back_42 : decode cX9_back 42 = .ok (.ifCond .eq 13, 3) := by decide +kernel
theorem dX9_back_45 : decode cX9_back 45 = .ok (.iload_n 3, 1) := by decide +kernel
theorem dX9_back_46 : decode cX9_back 46 = .ok (.ifCond .ne 6, 3) := by decide +kernel
theorem dX9_back_49 : decode cX9_back 49 = .ok (.iload 4, 2) := by decide +kernel
theorem dX9_back_51 : decode cX9_back 51 = .ok (.ireturn, 1) := by decide +kernel
theorem dX9_back_52 : decode cX9_back 52 = .ok (.iinc 3 (-1), 3) := by decide +kernel
theorem dX9_back_55 : decode cX9_back 55 = .ok (.iinc 4 1, 3) := by decide +kernel
theorem dX9_back_58 : decode cX9_back 58 = .ok (.goto (-37), 3) := by decide +kernel
theorem dX9_back_61 : decode cX9_back 61 = .ok (.iconst (-1), 1) := by decide +kernel
theorem dX9_back_62 : decode cX9_back 62 = .ok (.ireturn, 1) := by decide +kernel
theorem dX9_bitsOf_0 : decode cX9_bitsOf 0 = .ok (.iconst 0, 1) := by decide +kernel
theorem dX9_bitsOf_1 : decode cX9_bitsOf 1 = .ok (.istore_n 1, 1) := by decide +kernel
theorem dX9_bitsOf_2 : decode cX9_bitsOf 2 = .ok (.iload_n 0, 1) := by decide +kernel
theorem dX9_bitsOf_3 : decode cX9_bitsOf 3 = .ok (.istore_n 2, 1) := by decide +kernel
theorem dX9_bitsOf_4 : decode cX9_bitsOf 4 = .ok (.iload_n 2, 1) := by decide +kernel
theorem dX9_bitsOf_5 : decode cX9_bitsOf 5 = .ok (.ifCond .le 13, 3) := by decide +kernel
theorem dX9_bitsOf_8 : decode cX9_bitsOf 8 = .ok (.iinc 1 1, 3) := by decide +kernel
theorem dX9_bitsOf_11 : decode cX9_bitsOf 11 = .ok (.iload_n 2, 1) := by decide +kernel
theorem dX9_bitsOf_12 : decode cX9_bitsOf 12 = .ok (.iconst 2, 1) := by decide +kernel
theorem dX9_bitsOf_13 : decode cX9_bitsOf 13 = .ok (.idiv, 1) := by decide +kernel
theorem dX9_bitsOf_14 : decode cX9_bitsOf 14 = .ok (.istore_n 2, 1) := by decide +kernel
theorem dX9_bitsOf_15 : decode cX9_bitsOf 15 = .ok (.goto (-11), 3) := by decide +kernel
theorem dX9_bitsOf_18 : decode cX9_bitsOf 18 = .ok (.iload_n 1, 1) := by decide +kernel
theorem dX9_bitsOf_19 : decode cX9_bitsOf 19 = .ok (.ireturn, 1) := by decide +kernel
theorem dX9_lengthIn_0 : decode cX9_lengthIn 0 = .ok (.iload_n 1, 1) := by decide +kernel
theorem dX9_lengthIn_1 : decode cX9_lengthIn 1 = .ok (.iconst 1, 1) := by decide +kernel
theorem dX9_lengthIn_2 : decode cX9_lengthIn 2 = .ok (.iadd, 1) := by decide +kernel
theorem dX9_lengthIn_3 : decode cX9_lengthIn 3 = .ok (.invokestatic 119, 3) := by decide +kernel
theorem dX9_lengthIn_6 : decode cX9_lengthIn 6 = .ok (.istore_n 2, 1) := by decide +kernel
theorem dX9_lengthIn_7 : decode cX9_lengthIn 7 = .ok (.iload_n 0, 1) := by decide +kernel
theorem dX9_lengthIn_8 : decode cX9_lengthIn 8 = .ok (.ifCond .ne 9, 3) := by decide +kernel
theorem dX9_lengthIn_11 : decode cX9_lengthIn 11 = .ok (.iload_n 1, 1) := by decide +kernel
theorem dX9_lengthIn_12 : decode cX9_lengthIn 12 = .ok (.iconst 1, 1) := by decide +kernel
theorem dX9_lengthIn_13 : decode cX9_lengthIn 13 = .ok (.iadd, 1) := by decide +kernel
theorem dX9_lengthIn_14 : decode cX9_lengthIn 14 = .ok (.goto 47, 3) := by decide +kernel
theorem dX9_lengthIn_17 : decode cX9_lengthIn 17 = .ok (.iload_n 0, 1) := by decide +kernel
theorem dX9_lengthIn_18 : decode cX9_lengthIn 18 = .ok (.iconst 1, 1) := by decide +kernel
theorem dX9_lengthIn_19 : decode cX9_lengthIn 19 = .ok (.if_icmp .ne 11, 3) := by decide +kernel
theorem dX9_lengthIn_22 : decode cX9_lengthIn 22 = .ok (.iconst 2, 1) := by decide +kernel
theorem dX9_lengthIn_23 : decode cX9_lengthIn 23 = .ok (.iload_n 2, 1) := by decide +kernel
theorem dX9_lengthIn_24 : decode cX9_lengthIn 24 = .ok (.imul, 1) := by decide +kernel
theorem dX9_lengthIn_25 : decode cX9_lengthIn 25 = .ok (.iconst 1, 1) := by decide +kernel
theorem dX9_lengthIn_26 : decode cX9_lengthIn 26 = .ok (.isub, 1) := by decide +kernel
theorem dX9_lengthIn_27 : decode cX9_lengthIn 27 = .ok (.goto 34, 3) := by decide +kernel
theorem dX9_lengthIn_30 : decode cX9_lengthIn 30 = .ok (.iload_n 0, 1) := by decide +kernel
theorem dX9_lengthIn_31 : decode cX9_lengthIn 31 = .ok (.iconst 2, 1) := by decide +kernel
theorem dX9_lengthIn_32 : decode cX9_lengthIn 32 = .ok (.if_icmp .ne 18, 3) := by decide +kernel
theorem dX9_lengthIn_35 : decode cX9_lengthIn 35 = .ok (.iconst 2, 1) := by decide +kernel
theorem dX9_lengthIn_36 : decode cX9_lengthIn 36 = .ok (.iload_n 2, 1) := by decide +kernel
theorem dX9_lengthIn_37 : decode cX9_lengthIn 37 = .ok (.invokestatic 119, 3) := by decide +kernel
theorem dX9_lengthIn_40 : decode cX9_lengthIn 40 = .ok (.imul, 1) := by decide +kernel
theorem dX9_lengthIn_41 : decode cX9_lengthIn 41 = .ok (.iconst 1, 1) := by decide +kernel
theorem dX9_lengthIn_42 : decode cX9_lengthIn 42 = .ok (.isub, 1) := by decide +kernel
theorem dX9_lengthIn_43 : decode cX9_lengthIn 43 = .ok (.iload_n 2, 1) := by decide +kernel
theorem dX9_lengthIn_44 : decode cX9_lengthIn 44 = .ok (.iadd, 1) := by decide +kernel
theorem dX9_lengthIn_45 : decode cX9_lengthIn 45 = .ok (.iconst 1, 1) := by decide +kernel
theorem dX9_lengthIn_46 : decode cX9_lengthIn 46 = .ok (.isub, 1) := by decide +kernel
theorem dX9_lengthIn_47 : decode cX9_lengthIn 47 = .ok (.goto 14, 3) := by decide +kernel
theorem dX9_lengthIn_50 : decode cX9_lengthIn 50 = .ok (.iload_n 1, 1) := by decide +kernel
theorem dX9_lengthIn_51 : decode cX9_lengthIn 51 = .ok (.iload_n 0, 1) := by decide +kernel
theorem dX9_lengthIn_52 : decode cX9_lengthIn 52 = .ok (.iconst 3, 1) := by decide +kernel
theorem dX9_lengthIn_53 : decode cX9_lengthIn 53 = .ok (.isub, 1) := by decide +kernel
theorem dX9_lengthIn_54 : decode cX9_lengthIn 54 = .ok (.ishr, 1) := by decide +kernel
theorem dX9_lengthIn_55 : decode cX9_lengthIn 55 = .ok (.iconst 1, 1) := by decide +kernel
theorem dX9_lengthIn_56 : decode cX9_lengthIn 56 = .ok (.iadd, 1) := by decide +kernel
theorem dX9_lengthIn_57 : decode cX9_lengthIn 57 = .ok (.iload_n 0, 1) := by decide +kernel
theorem dX9_lengthIn_58 : decode cX9_lengthIn 58 = .ok (.iadd, 1) := by decide +kernel
theorem dX9_lengthIn_59 : decode cX9_lengthIn 59 = .ok (.iconst 3, 1) := by decide +kernel
theorem dX9_lengthIn_60 : decode cX9_lengthIn 60 = .ok (.isub, 1) := by decide +kernel
theorem dX9_lengthIn_61 : decode cX9_lengthIn 61 = .ok (.ireturn, 1) := by decide +kernel
theorem dX9_putBit_0 : decode cX9_putBit 0 = .ok (.aload_n 0, 1) := by decide +kernel
theorem dX9_putBit_1 : decode cX9_putBit 1 = .ok (.getfield 36, 3) := by decide +kernel
theorem dX9_putBit_4 : decode cX9_putBit 4 = .ok (.aload_n 0, 1) := by decide +kernel
theorem dX9_putBit_5 : decode cX9_putBit 5 = .ok (.getfield 122, 3) := by decide +kernel
theorem dX9_putBit_8 : decode cX9_putBit 8 = .ok (.iload_n 1, 1) := by decide +kernel
theorem dX9_putBit_9 : decode cX9_putBit 9 = .ok (.iastore, 1) := by decide +kernel
theorem dX9_putBit_10 : decode cX9_putBit 10 = .ok (.aload_n 0, 1) := by decide +kernel
theorem dX9_putBit_11 : decode cX9_putBit 11 = .ok (.dup, 1) := by decide +kernel
theorem dX9_putBit_12 : decode cX9_putBit 12 = .ok (.getfield 122, 3) := by decide +kernel
theorem dX9_putBit_15 : decode cX9_putBit 15 = .ok (.iconst 1, 1) := by decide +kernel
theorem dX9_putBit_16 : decode cX9_putBit 16 = .ok (.iadd, 1) := by decide +kernel
theorem dX9_putBit_17 : decode cX9_putBit 17 = .ok (.putfield 122, 3) := by decide +kernel
theorem dX9_putBit_20 : decode cX9_putBit 20 = .ok (.return_, 1) := by decide +kernel
theorem dX9_putBits_0 : decode cX9_putBits 0 = .ok (.iload_n 2, 1) := by decide +kernel
theorem dX9_putBits_1 : decode cX9_putBits 1 = .ok (.iconst 1, 1) := by decide +kernel
theorem dX9_putBits_2 : decode cX9_putBits 2 = .ok (.isub, 1) := by decide +kernel
theorem dX9_putBits_3 : decode cX9_putBits 3 = .ok (.istore_n 3, 1) := by decide +kernel
theorem dX9_putBits_4 : decode cX9_putBits 4 = .ok (.iload_n 3, 1) := by decide +kernel
theorem dX9_putBits_5 : decode cX9_putBits 5 = .ok (.ifCond .lt 18, 3) := by decide +kernel
theorem dX9_putBits_8 : decode cX9_putBits 8 = .ok (.aload_n 0, 1) := by decide +kernel
theorem dX9_putBits_9 : decode cX9_putBits 9 = .ok (.iload_n 1, 1) := by decide +kernel
theorem dX9_putBits_10 : decode cX9_putBits 10 = .ok (.iload_n 3, 1) := by decide +kernel
theorem dX9_putBits_11 : decode cX9_putBits 11 = .ok (.ishr, 1) := by decide +kernel
theorem dX9_putBits_12 : decode cX9_putBits 12 = .ok (.iconst 1, 1) := by decide +kernel
theorem dX9_putBits_13 : decode cX9_putBits 13 = .ok (.iand, 1) := by decide +kernel
theorem dX9_putBits_14 : decode cX9_putBits 14 = .ok (.invokevirtual 125, 3) := by decide +kernel
theorem dX9_putBits_17 : decode cX9_putBits 17 = .ok (.iinc 3 (-1), 3) := by decide +kernel
theorem dX9_putBits_20 : decode cX9_putBits 20 = .ok (.goto (-16), 3) := by decide +kernel
theorem dX9_putBits_23 : decode cX9_putBits 23 = .ok (.return_, 1) := by decide +kernel
theorem dX9_putUnary_0 : decode cX9_putUnary 0 = .ok (.iconst 0, 1) := by decide +kernel
theorem dX9_putUnary_1 : decode cX9_putUnary 1 = .ok (.istore_n 2, 1) := by decide +kernel
theorem dX9_putUnary_2 : decode cX9_putUnary 2 = .ok (.iload_n 2, 1) := by decide +kernel
theorem dX9_putUnary_3 : decode cX9_putUnary 3 = .ok (.iload_n 1, 1) := by decide +kernel
theorem dX9_putUnary_4 : decode cX9_putUnary 4 = .ok (.if_icmp .ge 14, 3) := by decide +kernel
theorem dX9_putUnary_7 : decode cX9_putUnary 7 = .ok (.aload_n 0, 1) := by decide +kernel
theorem dX9_putUnary_8 : decode cX9_putUnary 8 = .ok (.iconst 0, 1) := by decide +kernel
theorem dX9_putUnary_9 : decode cX9_putUnary 9 = .ok (.invokevirtual 125, 3) := by decide +kernel
theorem dX9_putUnary_12 : decode cX9_putUnary 12 = .ok (.iinc 2 1, 3) := by decide +kernel
theorem dX9_putUnary_15 : decode cX9_putUnary 15 = .ok (.goto (-13), 3) := by decide +kernel
theorem dX9_putUnary_18 : decode cX9_putUnary 18 = .ok (.aload_n 0, 1) := by decide +kernel
theorem dX9_putUnary_19 : decode cX9_putUnary 19 = .ok (.iconst 1, 1) := by decide +kernel
theorem dX9_putUnary_20 : decode cX9_putUnary 20 = .ok (.invokevirtual 125, 3) := by decide +kernel
theorem dX9_putUnary_23 : decode cX9_putUnary 23 = .ok (.return_, 1) := by decide +kernel
theorem dX9_putDoubled_0 : decode cX9_putDoubled 0 = .ok (.iload_n 1, 1) := by decide +kernel
theorem dX9_putDoubled_1 : decode cX9_putDoubled 1 = .ok (.iconst 1, 1) := by decide +kernel
theorem dX9_putDoubled_2 : decode cX9_putDoubled 2 = .ok (.iadd, 1) := by decide +kernel
theorem dX9_putDoubled_3 : decode cX9_putDoubled 3 = .ok (.invokestatic 119, 3) := by decide +kernel
theorem dX9_putDoubled_6 : decode cX9_putDoubled 6 = .ok (.istore_n 2, 1) := by decide +kernel
theorem dX9_putDoubled_7 : decode cX9_putDoubled 7 = .ok (.iconst 1, 1) := by decide +kernel
theorem dX9_putDoubled_8 : decode cX9_putDoubled 8 = .ok (.istore_n 3, 1) := by decide +kernel
theorem dX9_putDoubled_9 : decode cX9_putDoubled 9 = .ok (.iload_n 3, 1) := by decide +kernel
theorem dX9_putDoubled_10 : decode cX9_putDoubled 10 = .ok (.iload_n 2, 1) := by decide +kernel
theorem dX9_putDoubled_11 : decode cX9_putDoubled 11 = .ok (.if_icmp .ge 14, 3) := by decide +kernel
theorem dX9_putDoubled_14 : decode cX9_putDoubled 14 = .ok (.aload_n 0, 1) := by decide +kernel
theorem dX9_putDoubled_15 : decode cX9_putDoubled 15 = .ok (.iconst 0, 1) := by decide +kernel
theorem dX9_putDoubled_16 : decode cX9_putDoubled 16 = .ok (.invokevirtual 125, 3) := by decide +kernel
theorem dX9_putDoubled_19 : decode cX9_putDoubled 19 = .ok (.iinc 3 1, 3) := by decide +kernel
theorem dX9_putDoubled_22 : decode cX9_putDoubled 22 = .ok (.goto (-13), 3) := by decide +kernel
theorem dX9_putDoubled_25 : decode cX9_putDoubled 25 = .ok (.aload_n 0, 1) := by decide +kernel
theorem dX9_putDoubled_26 : decode cX9_putDoubled 26 = .ok (.iload_n 1, 1) := by decide +kernel
theorem dX9_putDoubled_27 : decode cX9_putDoubled 27 = .ok (.iconst 1, 1) := by decide +kernel
theorem dX9_putDoubled_28 : decode cX9_putDoubled 28 = .ok (.iadd, 1) := by decide +kernel
theorem dX9_putDoubled_29 : decode cX9_putDoubled 29 = .ok (.iload_n 2, 1) := by decide +kernel
theorem dX9_putDoubled_30 : decode cX9_putDoubled 30 = .ok (.invokevirtual 129, 3) := by decide +kernel
theorem dX9_putDoubled_33 : decode cX9_putDoubled 33 = .ok (.return_, 1) := by decide +kernel
theorem dX9_putNumber_0 : decode cX9_putNumber 0 = .ok (.iload_n 1, 1) := by decide +kernel
theorem dX9_putNumber_1 : decode cX9_putNumber 1 = .ok (.ifCond .ne 11, 3) := by decide +kernel
theorem dX9_putNumber_4 : decode cX9_putNumber 4 = .ok (.aload_n 0, 1) := by decide +kernel
theorem dX9_putNumber_5 : decode cX9_putNumber 5 = .ok (.iload_n 2, 1) := by decide +kernel
theorem dX9_putNumber_6 : decode cX9_putNumber 6 = .ok (.invokevirtual 133, 3) := by decide +kernel
theorem dX9_putNumber_9 : decode cX9_putNumber 9 = .ok (.goto 65, 3) := by decide +kernel
theorem dX9_putNumber_12 : decode cX9_putNumber 12 = .ok (.iload_n 1, 1) := by decide +kernel
theorem dX9_putNumber_13 : decode cX9_putNumber 13 = .ok (.iconst 1, 1) := by decide +kernel
theorem dX9_putNumber_14 : decode cX9_putNumber 14 = .ok (.if_icmp .ne 11, 3) := by decide +kernel
theorem dX9_putNumber_17 : decode cX9_putNumber 17 = .ok (.aload_n 0, 1) := by decide +kernel
theorem dX9_putNumber_18 : decode cX9_putNumber 18 = .ok (.iload_n 2, 1) := by decide +kernel
theorem dX9_putNumber_19 : decode cX9_putNumber 19 = .ok (.invokevirtual 136, 3) := by decide +kernel
theorem dX9_putNumber_22 : decode cX9_putNumber 22 = .ok (.goto 52, 3) := by decide +kernel
theorem dX9_putNumber_25 : decode cX9_putNumber 25 = .ok (.iload_n 1, 1) := by decide +kernel
theorem dX9_putNumber_26 : decode cX9_putNumber 26 = .ok (.iconst 2, 1) := by decide +kernel
theorem dX9_putNumber_27 : decode cX9_putNumber 27 = .ok (.if_icmp .ne 30, 3) := by decide +kernel
theorem dX9_putNumber_30 : decode cX9_putNumber 30 = .ok (.iload_n 2, 1) := by decide +kernel
theorem dX9_putNumber_31 : decode cX9_putNumber 31 = .ok (.iconst 1, 1) := by decide +kernel
theorem dX9_putNumber_32 : decode cX9_putNumber 32 = .ok (.iadd, 1) := by decide +kernel
theorem dX9_putNumber_33 : decode cX9_putNumber 33 = .ok (.invokestatic 119, 3) := by decide +kernel
theorem dX9_putNumber_36 : decode cX9_putNumber 36 = .ok (.istore_n 3, 1) := by decide +kernel
theorem dX9_putNumber_37 : decode cX9_putNumber 37 = .ok (.aload_n 0, 1) := by decide +kernel
theorem dX9_putNumber_38 : decode cX9_putNumber 38 = .ok (.iload_n 3, 1) := by decide +kernel
theorem dX9_putNumber_39 : decode cX9_putNumber 39 = .ok (.iconst 1, 1) := by decide +kernel
theorem dX9_putNumber_40 : decode cX9_putNumber 40 = .ok (.isub, 1) := by decide +kernel
theorem dX9_putNumber_41 : decode cX9_putNumber 41 = .ok (.invokevirtual 136, 3) := by decide +kernel
theorem dX9_putNumber_44 : decode cX9_putNumber 44 = .ok (.aload_n 0, 1) := by decide +kernel
theorem dX9_putNumber_45 : decode cX9_putNumber 45 = .ok (.iload_n 2, 1) := by decide +kernel
theorem dX9_putNumber_46 : decode cX9_putNumber 46 = .ok (.iconst 1, 1) := by decide +kernel
theorem dX9_putNumber_47 : decode cX9_putNumber 47 = .ok (.iadd, 1) := by decide +kernel
theorem dX9_putNumber_48 : decode cX9_putNumber 48 = .ok (.iload_n 3, 1) := by decide +kernel
theorem dX9_putNumber_49 : decode cX9_putNumber 49 = .ok (.iconst 1, 1) := by decide +kernel
theorem dX9_putNumber_50 : decode cX9_putNumber 50 = .ok (.isub, 1) := by decide +kernel
theorem dX9_putNumber_51 : decode cX9_putNumber 51 = .ok (.invokevirtual 129, 3) := by decide +kernel
theorem dX9_putNumber_54 : decode cX9_putNumber 54 = .ok (.goto 20, 3) := by decide +kernel
theorem dX9_putNumber_57 : decode cX9_putNumber 57 = .ok (.aload_n 0, 1) := by decide +kernel
theorem dX9_putNumber_58 : decode cX9_putNumber 58 = .ok (.iload_n 2, 1) := by decide +kernel
theorem dX9_putNumber_59 : decode cX9_putNumber 59 = .ok (.iload_n 1, 1) := by decide +kernel
theorem dX9_putNumber_60 : decode cX9_putNumber 60 = .ok (.iconst 3, 1) := by decide +kernel
theorem dX9_putNumber_61 : decode cX9_putNumber 61 = .ok (.isub, 1) := by decide +kernel
theorem dX9_putNumber_62 : decode cX9_putNumber 62 = .ok (.ishr, 1) := by decide +kernel
theorem dX9_putNumber_63 : decode cX9_putNumber 63 = .ok (.invokevirtual 133, 3) := by decide +kernel
theorem dX9_putNumber_66 : decode cX9_putNumber 66 = .ok (.aload_n 0, 1) := by decide +kernel
theorem dX9_putNumber_67 : decode cX9_putNumber 67 = .ok (.iload_n 2, 1) := by decide +kernel
theorem dX9_putNumber_68 : decode cX9_putNumber 68 = .ok (.iload_n 1, 1) := by decide +kernel
theorem dX9_putNumber_69 : decode cX9_putNumber 69 = .ok (.iconst 3, 1) := by decide +kernel
theorem dX9_putNumber_70 : decode cX9_putNumber 70 = .ok (.isub, 1) := by decide +kernel
theorem dX9_putNumber_71 : decode cX9_putNumber 71 = .ok (.invokevirtual 129, 3) := by decide +kernel
theorem dX9_putNumber_74 : decode cX9_putNumber 74 = .ok (.return_, 1) := by decide +kernel
theorem dX9_folded_0 : decode cX9_folded 0 = .ok (.iload_n 0, 1) := by decide +kernel
theorem dX9_folded_1 : decode cX9_folded 1 = .ok (.ifCond .ge 12, 3) := by decide +kernel
theorem dX9_folded_4 : decode cX9_folded 4 = .ok (.bipush (-2), 2) := by decide +kernel
theorem dX9_folded_6 : decode cX9_folded 6 = .ok (.iload_n 0, 1) := by decide +kernel
theorem dX9_folded_7 : decode cX9_folded 7 = .ok (.imul, 1) := by decide +kernel
theorem dX9_folded_8 : decode cX9_folded 8 = .ok (.iconst 1, 1) := by decide +kernel
theorem dX9_folded_9 : decode cX9_folded 9 = .ok (.isub, 1) := by decide +kernel
theorem dX9_folded_10 : decode cX9_folded 10 = .ok (.goto 6, 3) := by decide +kernel
theorem dX9_folded_13 : decode cX9_folded 13 = .ok (.iconst 2, 1) := by decide +kernel
theorem dX9_folded_14 : decode cX9_folded 14 = .ok (.iload_n 0, 1) := by decide +kernel
theorem dX9_folded_15 : decode cX9_folded 15 = .ok (.imul, 1) := by decide +kernel
theorem dX9_folded_16 : decode cX9_folded 16 = .ok (.ireturn, 1) := by decide +kernel
theorem dX9_say_0 : decode cX9_say 0 = .ok (.aload_n 0, 1) := by decide +kernel
theorem dX9_say_1 : decode cX9_say 1 = .ok (.getfield 42, 3) := by decide +kernel
theorem dX9_say_4 : decode cX9_say 4 = .ok (.aload_n 0, 1) := by decide +kernel
theorem dX9_say_5 : decode cX9_say 5 = .ok (.getfield 139, 3) := by decide +kernel
theorem dX9_say_8 : decode cX9_say 8 = .ok (.iload_n 1, 1) := by decide +kernel
theorem dX9_say_9 : decode cX9_say 9 = .ok (.iastore, 1) := by decide +kernel
theorem dX9_say_10 : decode cX9_say 10 = .ok (.aload_n 0, 1) := by decide +kernel
theorem dX9_say_11 : decode cX9_say 11 = .ok (.getfield 45, 3) := by decide +kernel
theorem dX9_say_14 : decode cX9_say 14 = .ok (.aload_n 0, 1) := by decide +kernel
theorem dX9_say_15 : decode cX9_say 15 = .ok (.getfield 139, 3) := by decide +kernel
theorem dX9_say_18 : decode cX9_say 18 = .ok (.iload_n 2, 1) := by decide +kernel
theorem dX9_say_19 : decode cX9_say 19 = .ok (.iastore, 1) := by decide +kernel
theorem dX9_say_20 : decode cX9_say 20 = .ok (.aload_n 0, 1) := by decide +kernel
theorem dX9_say_21 : decode cX9_say 21 = .ok (.dup, 1) := by decide +kernel
theorem dX9_say_22 : decode cX9_say 22 = .ok (.getfield 139, 3) := by decide +kernel
theorem dX9_say_25 : decode cX9_say 25 = .ok (.iconst 1, 1) := by decide +kernel
theorem dX9_say_26 : decode cX9_say 26 = .ok (.iadd, 1) := by decide +kernel
theorem dX9_say_27 : decode cX9_say 27 = .ok (.putfield 139, 3) := by decide +kernel
theorem dX9_say_30 : decode cX9_say 30 = .ok (.return_, 1) := by decide +kernel
theorem dX9_take_0 : decode cX9_take 0 = .ok (.aload_n 0, 1) := by decide +kernel
theorem dX9_take_1 : decode cX9_take 1 = .ok (.iconst 0, 1) := by decide +kernel
theorem dX9_take_2 : decode cX9_take 2 = .ok (.putfield 142, 3) := by decide +kernel
theorem dX9_take_5 : decode cX9_take 5 = .ok (.iconst 0, 1) := by decide +kernel
theorem dX9_take_6 : decode cX9_take 6 = .ok (.istore 4, 2) := by decide +kernel
theorem dX9_take_8 : decode cX9_take 8 = .ok (.iload 4, 2) := by decide +kernel
theorem dX9_take_10 : decode cX9_take 10 = .ok (.aload_n 0, 1) := by decide +kernel
theorem dX9_take_11 : decode cX9_take 11 = .ok (.getfield 93, 3) := by decide +kernel
theorem dX9_take_14 : decode cX9_take 14 = .ok (.if_icmp .ge 59, 3) := by decide +kernel
theorem dX9_take_17 : decode cX9_take 17 = .ok (.aload_n 1, 1) := by decide +kernel
theorem dX9_take_18 : decode cX9_take 18 = .ok (.bipush 48, 2) := by decide +kernel
theorem dX9_take_20 : decode cX9_take 20 = .ok (.iload_n 2, 1) := by decide +kernel
theorem dX9_take_21 : decode cX9_take 21 = .ok (.imul, 1) := by decide +kernel
theorem dX9_take_22 : decode cX9_take 22 = .ok (.iload 4, 2) := by decide +kernel
theorem dX9_take_24 : decode cX9_take 24 = .ok (.iadd, 1) := by decide +kernel
theorem dX9_take_25 : decode cX9_take 25 = .ok (.baload, 1) := by decide +kernel
theorem dX9_take_26 : decode cX9_take 26 = .ok (.ifCond .eq 41, 3) := by decide +kernel
theorem dX9_take_29 : decode cX9_take 29 = .ok (.iload_n 3, 1) := by decide +kernel
theorem dX9_take_30 : decode cX9_take 30 = .ok (.iload_n 2, 1) := by decide +kernel
theorem dX9_take_31 : decode cX9_take 31 = .ok (.if_icmp .eq 15, 3) := by decide +kernel
theorem dX9_take_34 : decode cX9_take 34 = .ok (.aload_n 1, 1) := by decide +kernel
theorem dX9_take_35 : decode cX9_take 35 = .ok (.bipush 48, 2) := by decide +kernel
theorem dX9_take_37 : decode cX9_take 37 = .ok (.iload_n 3, 1) := by decide +kernel
theorem dX9_take_38 : decode cX9_take 38 = .ok (.imul, 1) := by decide +kernel
theorem dX9_take_39 : decode cX9_take 39 = .ok (.iload 4, 2) := by decide +kernel
theorem dX9_take_41 : decode cX9_take 41 = .ok (.iadd, 1) := by decide +kernel
theorem dX9_take_42 : decode cX9_take 42 = .ok (.baload, 1) := by decide +kernel
theorem dX9_take_43 : decode cX9_take 43 = .ok (.ifCond .ne 24, 3) := by decide +kernel
theorem dX9_take_46 : decode cX9_take 46 = .ok (.aload_n 0, 1) := by decide +kernel
theorem dX9_take_47 : decode cX9_take 47 = .ok (.getfield 48, 3) := by decide +kernel
theorem dX9_take_50 : decode cX9_take 50 = .ok (.aload_n 0, 1) := by decide +kernel
theorem dX9_take_51 : decode cX9_take 51 = .ok (.getfield 142, 3) := by decide +kernel
theorem dX9_take_54 : decode cX9_take 54 = .ok (.iload 4, 2) := by decide +kernel
theorem dX9_take_56 : decode cX9_take 56 = .ok (.iastore, 1) := by decide +kernel
theorem dX9_take_57 : decode cX9_take 57 = .ok (.aload_n 0, 1) := by decide +kernel
theorem dX9_take_58 : decode cX9_take 58 = .ok (.dup, 1) := by decide +kernel
theorem dX9_take_59 : decode cX9_take 59 = .ok (.getfield 142, 3) := by decide +kernel
theorem dX9_take_62 : decode cX9_take 62 = .ok (.iconst 1, 1) := by decide +kernel
theorem dX9_take_63 : decode cX9_take 63 = .ok (.iadd, 1) := by decide +kernel
theorem dX9_take_64 : decode cX9_take 64 = .ok (.putfield 142, 3) := by decide +kernel
theorem dX9_take_67 : decode cX9_take 67 = .ok (.iinc 4 1, 3) := by decide +kernel
theorem dX9_take_70 : decode cX9_take 70 = .ok (.goto (-62), 3) := by decide +kernel
theorem dX9_take_73 : decode cX9_take 73 = .ok (.return_, 1) := by decide +kernel
theorem dX9_tellPlain_0 : decode cX9_tellPlain 0 = .ok (.aload_n 0, 1) := by decide +kernel
theorem dX9_tellPlain_1 : decode cX9_tellPlain 1 = .ok (.iconst 1, 1) := by decide +kernel
theorem dX9_tellPlain_2 : decode cX9_tellPlain 2 = .ok (.aload_n 0, 1) := by decide +kernel
theorem dX9_tellPlain_3 : decode cX9_tellPlain 3 = .ok (.getfield 142, 3) := by decide +kernel
theorem dX9_tellPlain_6 : decode cX9_tellPlain 6 = .ok (.invokevirtual 145, 3) := by decide +kernel
theorem dX9_tellPlain_9 : decode cX9_tellPlain 9 = .ok (.iconst 0, 1) := by decide +kernel
theorem dX9_tellPlain_10 : decode cX9_tellPlain 10 = .ok (.istore_n 2, 1) := by decide +kernel
theorem dX9_tellPlain_11 : decode cX9_tellPlain 11 = .ok (.iload_n 2, 1) := by decide +kernel
theorem dX9_tellPlain_12 : decode cX9_tellPlain 12 = .ok (.aload_n 0, 1) := by decide +kernel
theorem dX9_tellPlain_13 : decode cX9_tellPlain 13 = .ok (.getfield 142, 3) := by decide +kernel
theorem dX9_tellPlain_16 : decode cX9_tellPlain 16 = .ok (.if_icmp .ge 54, 3) := by decide +kernel
theorem dX9_tellPlain_19 : decode cX9_tellPlain 19 = .ok (.iload_n 2, 1) := by decide +kernel
theorem dX9_tellPlain_20 : decode cX9_tellPlain 20 = .ok (.ifCond .ne 22, 3) := by decide +kernel
theorem dX9_tellPlain_23 : decode cX9_tellPlain 23 = .ok (.aload_n 0, 1) := by decide +kernel
theorem dX9_tellPlain_24 : decode cX9_tellPlain 24 = .ok (.iconst 2, 1) := by decide +kernel
theorem dX9_tellPlain_25 : decode cX9_tellPlain 25 = .ok (.aload_n 0, 1) := by decide +kernel
theorem dX9_tellPlain_26 : decode cX9_tellPlain 26 = .ok (.getfield 48, 3) := by decide +kernel
theorem dX9_tellPlain_29 : decode cX9_tellPlain 29 = .ok (.iconst 0, 1) := by decide +kernel
theorem dX9_tellPlain_30 : decode cX9_tellPlain 30 = .ok (.iaload, 1) := by decide +kernel
theorem dX9_tellPlain_31 : decode cX9_tellPlain 31 = .ok (.iload_n 1, 1) := by decide +kernel
theorem dX9_tellPlain_32 : decode cX9_tellPlain 32 = .ok (.isub, 1) := by decide +kernel
theorem dX9_tellPlain_33 : decode cX9_tellPlain 33 = .ok (.invokestatic 148, 3) := by decide +kernel
theorem dX9_tellPlain_36 : decode cX9_tellPlain 36 = .ok (.invokevirtual 145, 3) := by decide +kernel
theorem dX9_tellPlain_39 : decode cX9_tellPlain 39 = .ok (.goto 25, 3) := by decide +kernel
theorem dX9_tellPlain_42 : decode cX9_tellPlain 42 = .ok (.aload_n 0, 1) := by decide +kernel
theorem dX9_tellPlain_43 : decode cX9_tellPlain 43 = .ok (.iconst 3, 1) := by decide +kernel
theorem dX9_tellPlain_44 : decode cX9_tellPlain 44 = .ok (.aload_n 0, 1) := by decide +kernel
theorem dX9_tellPlain_45 : decode cX9_tellPlain 45 = .ok (.getfield 48, 3) := by decide +kernel
theorem dX9_tellPlain_48 : decode cX9_tellPlain 48 = .ok (.iload_n 2, 1) := by decide +kernel
theorem dX9_tellPlain_49 : decode cX9_tellPlain 49 = .ok (.iaload, 1) := by decide +kernel
theorem dX9_tellPlain_50 : decode cX9_tellPlain 50 = .ok (.aload_n 0, 1) := by decide +kernel
theorem dX9_tellPlain_51 : decode cX9_tellPlain 51 = .ok (.getfield 48, 3) := by decide +kernel
theorem dX9_tellPlain_54 : decode cX9_tellPlain 54 = .ok (.iload_n 2, 1) := by decide +kernel
theorem dX9_tellPlain_55 : decode cX9_tellPlain 55 = .ok (.iconst 1, 1) := by decide +kernel
theorem dX9_tellPlain_56 : decode cX9_tellPlain 56 = .ok (.isub, 1) := by decide +kernel
theorem dX9_tellPlain_57 : decode cX9_tellPlain 57 = .ok (.iaload, 1) := by decide +kernel
theorem dX9_tellPlain_58 : decode cX9_tellPlain 58 = .ok (.isub, 1) := by decide +kernel
theorem dX9_tellPlain_59 : decode cX9_tellPlain 59 = .ok (.iconst 1, 1) := by decide +kernel
theorem dX9_tellPlain_60 : decode cX9_tellPlain 60 = .ok (.isub, 1) := by decide +kernel
theorem dX9_tellPlain_61 : decode cX9_tellPlain 61 = .ok (.invokevirtual 145, 3) := by decide +kernel
theorem dX9_tellPlain_64 : decode cX9_tellPlain 64 = .ok (.iinc 2 1, 3) := by decide +kernel
theorem dX9_tellPlain_67 : decode cX9_tellPlain 67 = .ok (.goto (-56), 3) := by decide +kernel
theorem dX9_tellPlain_70 : decode cX9_tellPlain 70 = .ok (.return_, 1) := by decide +kernel
theorem dX9_runEnd_0 : decode cX9_runEnd 0 = .ok (.iload_n 1, 1) := by decide +kernel
theorem dX9_runEnd_1 : decode cX9_runEnd 1 = .ok (.iconst 1, 1) := by decide +kernel
theorem dX9_runEnd_2 : decode cX9_runEnd 2 = .ok (.iadd, 1) := by decide +kernel
theorem dX9_runEnd_3 : decode cX9_runEnd 3 = .ok (.istore_n 2, 1) := by decide +kernel
theorem dX9_runEnd_4 : decode cX9_runEnd 4 = .ok (.iload_n 2, 1) := by decide +kernel
theorem dX9_runEnd_5 : decode cX9_runEnd 5 = .ok (.aload_n 0, 1) := by decide +kernel
theorem dX9_runEnd_6 : decode cX9_runEnd 6 = .ok (.getfield 142, 3) := by decide +kernel
theorem dX9_runEnd_9 : decode cX9_runEnd 9 = .ok (.if_icmp .ge 28, 3) := by decide +kernel
theorem dX9_runEnd_12 : decode cX9_runEnd 12 = .ok (.aload_n 0, 1) := by decide +kernel
theorem dX9_runEnd_13 : decode cX9_runEnd 13 = .ok (.getfield 48, 3) := by decide +kernel
theorem dX9_runEnd_16 : decode cX9_runEnd 16 = .ok (.iload_n 2, 1) := by decide +kernel
theorem dX9_runEnd_17 : decode cX9_runEnd 17 = .ok (.iaload, 1) := by decide +kernel
theorem dX9_runEnd_18 : decode cX9_runEnd 18 = .ok (.aload_n 0, 1) := by decide +kernel
theorem dX9_runEnd_19 : decode cX9_runEnd 19 = .ok (.getfield 48, 3) := by decide +kernel
theorem dX9_runEnd_22 : decode cX9_runEnd 22 = .ok (.iload_n 2, 1) := by decide +kernel
theorem dX9_runEnd_23 : decode cX9_runEnd 23 = .ok (.iconst 1, 1) := by decide +kernel
theorem dX9_runEnd_24 : decode cX9_runEnd 24 = .ok (.isub, 1) := by decide +kernel
theorem dX9_runEnd_25 : decode cX9_runEnd 25 = .ok (.iaload, 1) := by decide +kernel
theorem dX9_runEnd_26 : decode cX9_runEnd 26 = .ok (.iconst 1, 1) := by decide +kernel
theorem dX9_runEnd_27 : decode cX9_runEnd 27 = .ok (.iadd, 1) := by decide +kernel
theorem dX9_runEnd_28 : decode cX9_runEnd 28 = .ok (.if_icmp .ne 9, 3) := by decide +kernel
theorem dX9_runEnd_31 : decode cX9_runEnd 31 = .ok (.iinc 2 1, 3) := by decide +kernel
theorem dX9_runEnd_34 : decode cX9_runEnd 34 = .ok (.goto (-30), 3) := by decide +kernel
theorem dX9_runEnd_37 : decode cX9_runEnd 37 = .ok (.iload_n 2, 1) := by decide +kernel
theorem dX9_runEnd_38 : decode cX9_runEnd 38 = .ok (.ireturn, 1) := by decide +kernel
theorem dX9_tellSpans_0 : decode cX9_tellSpans 0 = .ok (.iconst 0, 1) := by decide +kernel
theorem dX9_tellSpans_1 : decode cX9_tellSpans 1 = .ok (.istore_n 2, 1) := by decide +kernel
theorem dX9_tellSpans_2 : decode cX9_tellSpans 2 = .ok (.iconst 0, 1) := by decide +kernel
theorem dX9_tellSpans_3 : decode cX9_tellSpans 3 = .ok (.istore_n 3, 1) := by decide +kernel
theorem dX9_tellSpans_4 : decode cX9_tellSpans 4 = .ok (.iload_n 3, 1) := by decide +kernel
theorem dX9_tellSpans_5 : decode cX9_tellSpans 5 = .ok (.aload_n 0, 1) := by decide +kernel
theorem dX9_tellSpans_6 : decode cX9_tellSpans 6 = .ok (.getfield 142, 3) := by decide +kernel
theorem dX9_tellSpans_9 : decode cX9_tellSpans 9 = .ok (.if_icmp .ge 31, 3) := by decide +kernel
theorem dX9_tellSpans_12 : decode cX9_tellSpans 12 = .ok (.iload_n 2, 1) := by decide +kernel
theorem dX9_tellSpans_13 : decode cX9_tellSpans 13 = .ok (.aload_n 0, 1) := by decide +kernel
theorem dX9_tellSpans_14 : decode cX9_tellSpans 14 = .ok (.iload_n 3, 1) := by decide +kernel
theorem dX9_tellSpans_15 : decode cX9_tellSpans 15 = .ok (.invokevirtual 151, 3) := by decide +kernel
theorem dX9_tellSpans_18 : decode cX9_tellSpans 18 = .ok (.iload_n 3, 1) := by decide +kernel
theorem dX9_tellSpans_19 : decode cX9_tellSpans 19 = .ok (.isub, 1) := by decide +kernel
theorem dX9_tellSpans_20 : decode cX9_tellSpans 20 = .ok (.iconst 3, 1) := by decide +kernel
theorem dX9_tellSpans_21 : decode cX9_tellSpans 21 = .ok (.if_icmp .lt 7, 3) := by decide +kernel
theorem dX9_tellSpans_24 : decode cX9_tellSpans 24 = .ok (.iconst 1, 1) := by decide +kernel
theorem dX9_tellSpans_25 : decode cX9_tellSpans 25 = .ok (.goto 4, 3) := by decide +kernel
theorem dX9_tellSpans_28 : decode cX9_tellSpans 28 = .ok (.iconst 0, 1) := by decide +kernel
theorem dX9_tellSpans_29 : decode cX9_tellSpans 29 = .ok (.iadd, 1) := by decide +kernel
theorem dX9_tellSpans_30 : decode cX9_tellSpans 30 = .ok (.istore_n 2, 1) := by decide +kernel
theorem dX9_tellSpans_31 : decode cX9_tellSpans 31 = .ok (.aload_n 0, 1) := by decide +kernel
theorem dX9_tellSpans_32 : decode cX9_tellSpans 32 = .ok (.iload_n 3, 1) := by decide +kernel
theorem dX9_tellSpans_33 : decode cX9_tellSpans 33 = .ok (.invokevirtual 151, 3) := by decide +kernel
theorem dX9_tellSpans_36 : decode cX9_tellSpans 36 = .ok (.istore_n 3, 1) := by decide +kernel
theorem dX9_tellSpans_37 : decode cX9_tellSpans 37 = .ok (.goto (-33), 3) := by decide +kernel
theorem dX9_tellSpans_40 : decode cX9_tellSpans 40 = .ok (.aload_n 0, 1) := by decide +kernel
theorem dX9_tellSpans_41 : decode cX9_tellSpans 41 = .ok (.iconst 1, 1) := by decide +kernel
theorem dX9_tellSpans_42 : decode cX9_tellSpans 42 = .ok (.iload_n 2, 1) := by decide +kernel
theorem dX9_tellSpans_43 : decode cX9_tellSpans 43 = .ok (.invokevirtual 145, 3) := by decide +kernel
theorem dX9_tellSpans_46 : decode cX9_tellSpans 46 = .ok (.iconst (-1), 1) := by decide +kernel
theorem dX9_tellSpans_47 : decode cX9_tellSpans 47 = .ok (.istore_n 3, 1) := by decide +kernel
theorem dX9_tellSpans_48 : decode cX9_tellSpans 48 = .ok (.iconst 0, 1) := by decide +kernel
theorem dX9_tellSpans_49 : decode cX9_tellSpans 49 = .ok (.istore 4, 2) := by decide +kernel
theorem dX9_tellSpans_51 : decode cX9_tellSpans 51 = .ok (.iconst 0, 1) := by decide +kernel
theorem dX9_tellSpans_52 : decode cX9_tellSpans 52 = .ok (.istore 5, 2) := by decide +kernel
theorem dX9_tellSpans_54 : decode cX9_tellSpans 54 = .ok (.iload 5, 2) := by decide +kernel
theorem dX9_tellSpans_56 : decode cX9_tellSpans 56 = .ok (.aload_n 0, 1) := by decide +kernel
theorem dX9_tellSpans_57 : decode cX9_tellSpans 57 = .ok (.getfield 142, 3) := by decide +kernel
theorem dX9_tellSpans_60 : decode cX9_tellSpans 60 = .ok (.if_icmp .ge 128, 3) := by decide +kernel
theorem dX9_tellSpans_63 : decode cX9_tellSpans 63 = .ok (.aload_n 0, 1) := by decide +kernel
theorem dX9_tellSpans_64 : decode cX9_tellSpans 64 = .ok (.iload 5, 2) := by decide +kernel
theorem dX9_tellSpans_66 : decode cX9_tellSpans 66 = .ok (.invokevirtual 151, 3) := by decide +kernel
theorem dX9_tellSpans_69 : decode cX9_tellSpans 69 = .ok (.istore 6, 2) := by decide +kernel
theorem dX9_tellSpans_71 : decode cX9_tellSpans 71 = .ok (.iload 6, 2) := by decide +kernel
theorem dX9_tellSpans_73 : decode cX9_tellSpans 73 = .ok (.iload 5, 2) := by decide +kernel
theorem dX9_tellSpans_75 : decode cX9_tellSpans 75 = .ok (.isub, 1) := by decide +kernel
theorem dX9_tellSpans_76 : decode cX9_tellSpans 76 = .ok (.iconst 3, 1) := by decide +kernel
theorem dX9_tellSpans_77 : decode cX9_tellSpans 77 = .ok (.if_icmp .lt 78, 3) := by decide +kernel
theorem dX9_tellSpans_80 : decode cX9_tellSpans 80 = .ok (.aload_n 0, 1) := by decide +kernel
theorem dX9_tellSpans_81 : decode cX9_tellSpans 81 = .ok (.getfield 48, 3) := by decide +kernel
theorem dX9_tellSpans_84 : decode cX9_tellSpans 84 = .ok (.iload 5, 2) := by decide +kernel
theorem dX9_tellSpans_86 : decode cX9_tellSpans 86 = .ok (.iaload, 1) := by decide +kernel
theorem dX9_tellSpans_87 : decode cX9_tellSpans 87 = .ok (.istore 7, 2) := by decide +kernel
theorem dX9_tellSpans_89 : decode cX9_tellSpans 89 = .ok (.aload_n 0, 1) := by decide +kernel
theorem dX9_tellSpans_90 : decode cX9_tellSpans 90 = .ok (.getfield 48, 3) := by decide +kernel
theorem dX9_tellSpans_93 : decode cX9_tellSpans 93 = .ok (.iload 6, 2) := by decide +kernel
theorem dX9_tellSpans_95 : decode cX9_tellSpans 95 = .ok (.iconst 1, 1) := by decide +kernel
theorem dX9_tellSpans_96 : decode cX9_tellSpans 96 = .ok (.isub, 1) := by decide +kernel
theorem dX9_tellSpans_97 : decode cX9_tellSpans 97 = .ok (.iaload, 1) := by decide +kernel
theorem dX9_tellSpans_98 : decode cX9_tellSpans 98 = .ok (.istore 8, 2) := by decide +kernel
theorem dX9_tellSpans_100 : decode cX9_tellSpans 100 = .ok (.iload_n 3, 1) := by decide +kernel
theorem dX9_tellSpans_101 : decode cX9_tellSpans 101 = .ok (.iconst (-1), 1) := by decide +kernel
theorem dX9_tellSpans_102 : decode cX9_tellSpans 102 = .ok (.if_icmp .ne 19, 3) := by decide +kernel
theorem dX9_tellSpans_105 : decode cX9_tellSpans 105 = .ok (.aload_n 0, 1) := by decide +kernel
theorem dX9_tellSpans_106 : decode cX9_tellSpans 106 = .ok (.bipush 6, 2) := by decide +kernel
theorem dX9_tellSpans_108 : decode cX9_tellSpans 108 = .ok (.iload 7, 2) := by decide +kernel
theorem dX9_tellSpans_110 : decode cX9_tellSpans 110 = .ok (.iload_n 1, 1) := by decide +kernel
theorem dX9_tellSpans_111 : decode cX9_tellSpans 111 = .ok (.isub, 1) := by decide +kernel
theorem dX9_tellSpans_112 : decode cX9_tellSpans 112 = .ok (.invokestatic 148, 3) := by decide +kernel
theorem dX9_tellSpans_115 : decode cX9_tellSpans 115 = .ok (.invokevirtual 145, 3) := by decide +kernel
theorem dX9_tellSpans_118 : decode cX9_tellSpans 118 = .ok (.goto 14, 3) := by decide +kernel
theorem dX9_tellSpans_121 : decode cX9_tellSpans 121 = .ok (.aload_n 0, 1) := by decide +kernel
theorem dX9_tellSpans_122 : decode cX9_tellSpans 122 = .ok (.iconst 3, 1) := by decide +kernel
theorem dX9_tellSpans_123 : decode cX9_tellSpans 123 = .ok (.iload 7, 2) := by decide +kernel
theorem dX9_tellSpans_125 : decode cX9_tellSpans 125 = .ok (.iload_n 3, 1) := by decide +kernel
theorem dX9_tellSpans_126 : decode cX9_tellSpans 126 = .ok (.isub, 1) := by decide +kernel
theorem dX9_tellSpans_127 : decode cX9_tellSpans 127 = .ok (.iconst 2, 1) := by decide +kernel
theorem dX9_tellSpans_128 : decode cX9_tellSpans 128 = .ok (.isub, 1) := by decide +kernel
theorem dX9_tellSpans_129 : decode cX9_tellSpans 129 = .ok (.invokevirtual 145, 3) := by decide +kernel
theorem dX9_tellSpans_132 : decode cX9_tellSpans 132 = .ok (.aload_n 0, 1) := by decide +kernel
theorem dX9_tellSpans_133 : decode cX9_tellSpans 133 = .ok (.bipush 7, 2) := by decide +kernel
theorem dX9_tellSpans_135 : decode cX9_tellSpans 135 = .ok (.iload 6, 2) := by decide +kernel
theorem dX9_tellSpans_137 : decode cX9_tellSpans 137 = .ok (.iload 5, 2) := by decide +kernel
theorem dX9_tellSpans_139 : decode cX9_tellSpans 139 = .ok (.isub, 1) := by decide +kernel
theorem dX9_tellSpans_140 : decode cX9_tellSpans 140 = .ok (.iconst 3, 1) := by decide +kernel
theorem dX9_tellSpans_141 : decode cX9_tellSpans 141 = .ok (.isub, 1) := by decide +kernel
theorem dX9_tellSpans_142 : decode cX9_tellSpans 142 = .ok (.invokevirtual 145, 3) := by decide +kernel
theorem dX9_tellSpans_145 : decode cX9_tellSpans 145 = .ok (.iload 8, 2) := by decide +kernel
theorem dX9_tellSpans_147 : decode cX9_tellSpans 147 = .ok (.istore_n 3, 1) := by decide +kernel
theorem dX9_tellSpans_148 : decode cX9_tellSpans 148 = .ok (.iload 6, 2) := by decide +kernel
theorem dX9_tellSpans_150 : decode cX9_tellSpans 150 = .ok (.istore 5, 2) := by decide +kernel
theorem dX9_tellSpans_152 : decode cX9_tellSpans 152 = .ok (.goto 33, 3) := by decide +kernel
theorem dX9_tellSpans_155 : decode cX9_tellSpans 155 = .ok (.iload 5, 2) := by decide +kernel
theorem dX9_tellSpans_157 : decode cX9_tellSpans 157 = .ok (.iload 6, 2) := by decide +kernel
theorem dX9_tellSpans_159 : decode cX9_tellSpans 159 = .ok (.if_icmp .ge 26, 3) := by decide +kernel
theorem dX9_tellSpans_162 : decode cX9_tellSpans 162 = .ok (.aload_n 0, 1) := by decide +kernel
theorem dX9_tellSpans_163 : decode cX9_tellSpans 163 = .ok (.getfield 51, 3) := by decide +kernel
theorem dX9_tellSpans_166 : decode cX9_tellSpans 166 = .ok (.iload 4, 2) := by decide +kernel
theorem dX9_tellSpans_168 : decode cX9_tellSpans 168 = .ok (.aload_n 0, 1) := by decide +kernel
theorem dX9_tellSpans_169 : decode cX9_tellSpans 169 = .ok (.getfield 48, 3) := by decide +kernel
theorem dX9_tellSpans_172 : decode cX9_tellSpans 172 = .ok (.iload 5, 2) := by decide +kernel
theorem dX9_tellSpans_174 : decode cX9_tellSpans 174 = .ok (.iaload, 1) := by decide +kernel
theorem dX9_tellSpans_175 : decode cX9_tellSpans 175 = .ok (.iastore, 1) := by decide +kernel
theorem dX9_tellSpans_176 : decode cX9_tellSpans 176 = .ok (.iinc 4 1, 3) := by decide +kernel
theorem dX9_tellSpans_179 : decode cX9_tellSpans 179 = .ok (.iinc 5 1, 3) := by decide +kernel
theorem dX9_tellSpans_182 : decode cX9_tellSpans 182 = .ok (.goto (-27), 3) := by decide +kernel
theorem dX9_tellSpans_185 : decode cX9_tellSpans 185 = .ok (.goto (-131), 3) := by decide +kernel
theorem dX9_tellSpans_188 : decode cX9_tellSpans 188 = .ok (.iconst 0, 1) := by decide +kernel
theorem dX9_tellSpans_189 : decode cX9_tellSpans 189 = .ok (.istore 6, 2) := by decide +kernel
theorem dX9_tellSpans_191 : decode cX9_tellSpans 191 = .ok (.iload 6, 2) := by decide +kernel
theorem dX9_tellSpans_193 : decode cX9_tellSpans 193 = .ok (.iload 4, 2) := by decide +kernel
theorem dX9_tellSpans_195 : decode cX9_tellSpans 195 = .ok (.if_icmp .ge 23, 3) := by decide +kernel
theorem dX9_tellSpans_198 : decode cX9_tellSpans 198 = .ok (.aload_n 0, 1) := by decide +kernel
theorem dX9_tellSpans_199 : decode cX9_tellSpans 199 = .ok (.getfield 48, 3) := by decide +kernel
theorem dX9_tellSpans_202 : decode cX9_tellSpans 202 = .ok (.iload 6, 2) := by decide +kernel
theorem dX9_tellSpans_204 : decode cX9_tellSpans 204 = .ok (.aload_n 0, 1) := by decide +kernel
theorem dX9_tellSpans_205 : decode cX9_tellSpans 205 = .ok (.getfield 51, 3) := by decide +kernel
theorem dX9_tellSpans_208 : decode cX9_tellSpans 208 = .ok (.iload 6, 2) := by decide +kernel
theorem dX9_tellSpans_210 : decode cX9_tellSpans 210 = .ok (.iaload, 1) := by decide +kernel
theorem dX9_tellSpans_211 : decode cX9_tellSpans 211 = .ok (.iastore, 1) := by decide +kernel
theorem dX9_tellSpans_212 : decode cX9_tellSpans 212 = .ok (.iinc 6 1, 3) := by decide +kernel
theorem dX9_tellSpans_215 : decode cX9_tellSpans 215 = .ok (.goto (-24), 3) := by decide +kernel
theorem dX9_tellSpans_218 : decode cX9_tellSpans 218 = .ok (.aload_n 0, 1) := by decide +kernel
theorem dX9_tellSpans_219 : decode cX9_tellSpans 219 = .ok (.iload 4, 2) := by decide +kernel
theorem dX9_tellSpans_221 : decode cX9_tellSpans 221 = .ok (.putfield 142, 3) := by decide +kernel
theorem dX9_tellSpans_224 : decode cX9_tellSpans 224 = .ok (.aload_n 0, 1) := by decide +kernel
theorem dX9_tellSpans_225 : decode cX9_tellSpans 225 = .ok (.iload_n 1, 1) := by decide +kernel
theorem dX9_tellSpans_226 : decode cX9_tellSpans 226 = .ok (.invokevirtual 154, 3) := by decide +kernel
theorem dX9_tellSpans_229 : decode cX9_tellSpans 229 = .ok (.return_, 1) := by decide +kernel
theorem dX9_tellCopied_0 : decode cX9_tellCopied 0 = .ok (.iconst 1, 1) := by decide +kernel
theorem dX9_tellCopied_1 : decode cX9_tellCopied 1 = .ok (.istore 4, 2) := by decide +kernel
theorem dX9_tellCopied_3 : decode cX9_tellCopied 3 = .ok (.aload_n 0, 1) := by decide +kernel
theorem dX9_tellCopied_4 : decode cX9_tellCopied 4 = .ok (.getfield 54, 3) := by decide +kernel
theorem dX9_tellCopied_7 : decode cX9_tellCopied 7 = .ok (.iconst 0, 1) := by decide +kernel
theorem dX9_tellCopied_8 : decode cX9_tellCopied 8 = .ok (.iconst 0, 1) := by decide +kernel
theorem dX9_tellCopied_9 : decode cX9_tellCopied 9 = .ok (.iastore, 1) := by decide +kernel
theorem dX9_tellCopied_10 : decode cX9_tellCopied 10 = .ok (.iconst 1, 1) := by decide +kernel
theorem dX9_tellCopied_11 : decode cX9_tellCopied 11 = .ok (.istore 5, 2) := by decide +kernel
theorem dX9_tellCopied_13 : decode cX9_tellCopied 13 = .ok (.iconst 0, 1) := by decide +kernel
theorem dX9_tellCopied_14 : decode cX9_tellCopied 14 = .ok (.istore 6, 2) := by decide +kernel
theorem dX9_tellCopied_16 : decode cX9_tellCopied 16 = .ok (.iload 6, 2) := by decide +kernel
theorem dX9_tellCopied_18 : decode cX9_tellCopied 18 = .ok (.aload_n 0, 1) := by decide +kernel
theorem dX9_tellCopied_19 : decode cX9_tellCopied 19 = .ok (.getfield 93, 3) := by decide +kernel
theorem dX9_tellCopied_22 : decode cX9_tellCopied 22 = .ok (.if_icmp .ge 71, 3) := by decide +kernel
theorem dX9_tellCopied_25 : decode cX9_tellCopied 25 = .ok (.aload_n 1, 1) := by decide +kernel
theorem dX9_tellCopied_26 : decode cX9_tellCopied 26 = .ok (.bipush 48, 2) := by decide +kernel
theorem dX9_tellCopied_28 : decode cX9_tellCopied 28 = .ok (.iload_n 3, 1) := by decide +kernel
theorem dX9_tellCopied_29 : decode cX9_tellCopied 29 = .ok (.imul, 1) := by decide +kernel
theorem dX9_tellCopied_30 : decode cX9_tellCopied 30 = .ok (.iload 6, 2) := by decide +kernel
theorem dX9_tellCopied_32 : decode cX9_tellCopied 32 = .ok (.iadd, 1) := by decide +kernel
theorem dX9_tellCopied_33 : decode cX9_tellCopied 33 = .ok (.baload, 1) := by decide +kernel
theorem dX9_tellCopied_34 : decode cX9_tellCopied 34 = .ok (.ifCond .eq 53, 3) := by decide +kernel
theorem dX9_tellCopied_37 : decode cX9_tellCopied 37 = .ok (.aload_n 1, 1) := by decide +kernel
theorem dX9_tellCopied_38 : decode cX9_tellCopied 38 = .ok (.bipush 48, 2) := by decide +kernel
theorem dX9_tellCopied_40 : decode cX9_tellCopied 40 = .ok (.iload_n 2, 1) := by decide +kernel
theorem dX9_tellCopied_41 : decode cX9_tellCopied 41 = .ok (.imul, 1) := by decide +kernel
theorem dX9_tellCopied_42 : decode cX9_tellCopied 42 = .ok (.iload 6, 2) := by decide +kernel
theorem dX9_tellCopied_44 : decode cX9_tellCopied 44 = .ok (.iadd, 1) := by decide +kernel
theorem dX9_tellCopied_45 : decode cX9_tellCopied 45 = .ok (.baload, 1) := by decide +kernel
theorem dX9_tellCopied_46 : decode cX9_tellCopied 46 = .ok (.iload 5, 2) := by decide +kernel
theorem dX9_tellCopied_48 : decode cX9_tellCopied 48 = .ok (.if_icmp .eq 26, 3) := by decide +kernel
theorem dX9_tellCopied_51 : decode cX9_tellCopied 51 = .ok (.iload 5, 2) := by decide +kernel
theorem dX9_tellCopied_53 : decode cX9_tellCopied 53 = .ok (.ifCond .ne 7, 3) := by decide +kernel
theorem dX9_tellCopied_56 : decode cX9_tellCopied 56 = .ok (.iconst 1, 1) := by decide +kernel
theorem dX9_tellCopied_57 : decode cX9_tellCopied 57 = .ok (.goto 4, 3) := by decide +kernel
theorem dX9_tellCopied_60 : decode cX9_tellCopied 60 = .ok (.iconst 0, 1) := by decide +kernel
theorem dX9_tellCopied_61 : decode cX9_tellCopied 61 = .ok (.istore 5, 2) := by decide +kernel
theorem dX9_tellCopied_63 : decode cX9_tellCopied 63 = .ok (.aload_n 0, 1) := by decide +kernel
theorem dX9_tellCopied_64 : decode cX9_tellCopied 64 = .ok (.getfield 54, 3) := by decide +kernel
theorem dX9_tellCopied_67 : decode cX9_tellCopied 67 = .ok (.iload 4, 2) := by decide +kernel
theorem dX9_tellCopied_69 : decode cX9_tellCopied 69 = .ok (.iconst 0, 1) := by decide +kernel
theorem dX9_tellCopied_70 : decode cX9_tellCopied 70 = .ok (.iastore, 1) := by decide +kernel
theorem dX9_tellCopied_71 : decode cX9_tellCopied 71 = .ok (.iinc 4 1, 3) := by decide +kernel
theorem dX9_tellCopied_74 : decode cX9_tellCopied 74 = .ok (.aload_n 0, 1) := by decide +kernel
theorem dX9_tellCopied_75 : decode cX9_tellCopied 75 = .ok (.getfield 54, 3) := by decide +kernel
theorem dX9_tellCopied_78 : decode cX9_tellCopied 78 = .ok (.iload 4, 2) := by decide +kernel
theorem dX9_tellCopied_80 : decode cX9_tellCopied 80 = .ok (.iconst 1, 1) := by decide +kernel
theorem dX9_tellCopied_81 : decode cX9_tellCopied 81 = .ok (.isub, 1) := by decide +kernel
theorem dX9_tellCopied_82 : decode cX9_tellCopied 82 = .ok (.dup2, 1) := by decide +kernel
theorem dX9_tellCopied_83 : decode cX9_tellCopied 83 = .ok (.iaload, 1) := by decide +kernel
theorem dX9_tellCopied_84 : decode cX9_tellCopied 84 = .ok (.iconst 1, 1) := by decide +kernel
theorem dX9_tellCopied_85 : decode cX9_tellCopied 85 = .ok (.iadd, 1) := by decide +kernel
theorem dX9_tellCopied_86 : decode cX9_tellCopied 86 = .ok (.iastore, 1) := by decide +kernel
theorem dX9_tellCopied_87 : decode cX9_tellCopied 87 = .ok (.iinc 6 1, 3) := by decide +kernel
theorem dX9_tellCopied_90 : decode cX9_tellCopied 90 = .ok (.goto (-74), 3) := by decide +kernel
theorem dX9_tellCopied_93 : decode cX9_tellCopied 93 = .ok (.aload_n 0, 1) := by decide +kernel
theorem dX9_tellCopied_94 : decode cX9_tellCopied 94 = .ok (.iconst 4, 1) := by decide +kernel
theorem dX9_tellCopied_95 : decode cX9_tellCopied 95 = .ok (.iload_n 2, 1) := by decide +kernel
theorem dX9_tellCopied_96 : decode cX9_tellCopied 96 = .ok (.iload_n 3, 1) := by decide +kernel
theorem dX9_tellCopied_97 : decode cX9_tellCopied 97 = .ok (.isub, 1) := by decide +kernel
theorem dX9_tellCopied_98 : decode cX9_tellCopied 98 = .ok (.iconst 1, 1) := by decide +kernel
theorem dX9_tellCopied_99 : decode cX9_tellCopied 99 = .ok (.isub, 1) := by decide +kernel
theorem dX9_tellCopied_100 : decode cX9_tellCopied 100 = .ok (.invokevirtual 145, 3) := by decide +kernel
theorem dX9_tellCopied_103 : decode cX9_tellCopied 103 = .ok (.aload_n 0, 1) := by decide +kernel
theorem dX9_tellCopied_104 : decode cX9_tellCopied 104 = .ok (.iconst 1, 1) := by decide +kernel
theorem dX9_tellCopied_105 : decode cX9_tellCopied 105 = .ok (.iload 4, 2) := by decide +kernel
theorem dX9_tellCopied_107 : decode cX9_tellCopied 107 = .ok (.iconst 1, 1) := by decide +kernel
theorem dX9_tellCopied_108 : decode cX9_tellCopied 108 = .ok (.isub, 1) := by decide +kernel
theorem dX9_tellCopied_109 : decode cX9_tellCopied 109 = .ok (.invokevirtual 145, 3) := by decide +kernel
theorem dX9_tellCopied_112 : decode cX9_tellCopied 112 = .ok (.iconst 0, 1) := by decide +kernel
theorem dX9_tellCopied_113 : decode cX9_tellCopied 113 = .ok (.istore 6, 2) := by decide +kernel
theorem dX9_tellCopied_115 : decode cX9_tellCopied 115 = .ok (.iload 6, 2) := by decide +kernel
theorem dX9_tellCopied_117 : decode cX9_tellCopied 117 = .ok (.iconst 1, 1) := by decide +kernel
theorem dX9_tellCopied_118 : decode cX9_tellCopied 118 = .ok (.iadd, 1) := by decide +kernel
theorem dX9_tellCopied_119 : decode cX9_tellCopied 119 = .ok (.iload 4, 2) := by decide +kernel
theorem dX9_tellCopied_121 : decode cX9_tellCopied 121 = .ok (.if_icmp .ge 37, 3) := by decide +kernel
theorem dX9_tellCopied_124 : decode cX9_tellCopied 124 = .ok (.aload_n 0, 1) := by decide +kernel
theorem dX9_tellCopied_125 : decode cX9_tellCopied 125 = .ok (.iconst 5, 1) := by decide +kernel
theorem dX9_tellCopied_126 : decode cX9_tellCopied 126 = .ok (.iload 6, 2) := by decide +kernel
theorem dX9_tellCopied_128 : decode cX9_tellCopied 128 = .ok (.ifCond .ne 12, 3) := by decide +kernel
theorem dX9_tellCopied_131 : decode cX9_tellCopied 131 = .ok (.aload_n 0, 1) := by decide +kernel
theorem dX9_tellCopied_132 : decode cX9_tellCopied 132 = .ok (.getfield 54, 3) := by decide +kernel
theorem dX9_tellCopied_135 : decode cX9_tellCopied 135 = .ok (.iconst 0, 1) := by decide +kernel
theorem dX9_tellCopied_136 : decode cX9_tellCopied 136 = .ok (.iaload, 1) := by decide +kernel
theorem dX9_tellCopied_137 : decode cX9_tellCopied 137 = .ok (.goto 12, 3) := by decide +kernel
theorem dX9_tellCopied_140 : decode cX9_tellCopied 140 = .ok (.aload_n 0, 1) := by decide +kernel
theorem dX9_tellCopied_141 : decode cX9_tellCopied 141 = .ok (.getfield 54, 3) := by decide +kernel
theorem dX9_tellCopied_144 : decode cX9_tellCopied 144 = .ok (.iload 6, 2) := by decide +kernel
theorem dX9_tellCopied_146 : decode cX9_tellCopied 146 = .ok (.iaload, 1) := by decide +kernel
theorem dX9_tellCopied_147 : decode cX9_tellCopied 147 = .ok (.iconst 1, 1) := by decide +kernel
theorem dX9_tellCopied_148 : decode cX9_tellCopied 148 = .ok (.isub, 1) := by decide +kernel
theorem dX9_tellCopied_149 : decode cX9_tellCopied 149 = .ok (.invokevirtual 145, 3) := by decide +kernel
theorem dX9_tellCopied_152 : decode cX9_tellCopied 152 = .ok (.iinc 6 1, 3) := by decide +kernel
theorem dX9_tellCopied_155 : decode cX9_tellCopied 155 = .ok (.goto (-40), 3) := by decide +kernel
theorem dX9_tellCopied_158 : decode cX9_tellCopied 158 = .ok (.aload_n 0, 1) := by decide +kernel
theorem dX9_tellCopied_159 : decode cX9_tellCopied 159 = .ok (.aload_n 1, 1) := by decide +kernel
theorem dX9_tellCopied_160 : decode cX9_tellCopied 160 = .ok (.iload_n 2, 1) := by decide +kernel
theorem dX9_tellCopied_161 : decode cX9_tellCopied 161 = .ok (.iload_n 3, 1) := by decide +kernel
theorem dX9_tellCopied_162 : decode cX9_tellCopied 162 = .ok (.invokevirtual 157, 3) := by decide +kernel
theorem dX9_tellCopied_165 : decode cX9_tellCopied 165 = .ok (.aload_n 0, 1) := by decide +kernel
theorem dX9_tellCopied_166 : decode cX9_tellCopied 166 = .ok (.iload_n 2, 1) := by decide +kernel
theorem dX9_tellCopied_167 : decode cX9_tellCopied 167 = .ok (.invokevirtual 161, 3) := by decide +kernel
theorem dX9_tellCopied_170 : decode cX9_tellCopied 170 = .ok (.return_, 1) := by decide +kernel
theorem dX9_tellDense_0 : decode cX9_tellDense 0 = .ok (.aload_n 0, 1) := by decide +kernel
theorem dX9_tellDense_1 : decode cX9_tellDense 1 = .ok (.getfield 48, 3) := by decide +kernel
theorem dX9_tellDense_4 : decode cX9_tellDense 4 = .ok (.iconst 0, 1) := by decide +kernel
theorem dX9_tellDense_5 : decode cX9_tellDense 5 = .ok (.iaload, 1) := by decide +kernel
theorem dX9_tellDense_6 : decode cX9_tellDense 6 = .ok (.istore_n 3, 1) := by decide +kernel
theorem dX9_tellDense_7 : decode cX9_tellDense 7 = .ok (.aload_n 0, 1) := by decide +kernel
theorem dX9_tellDense_8 : decode cX9_tellDense 8 = .ok (.getfield 48, 3) := by decide +kernel
theorem dX9_tellDense_11 : decode cX9_tellDense 11 = .ok (.aload_n 0, 1) := by decide +kernel
theorem dX9_tellDense_12 : decode cX9_tellDense 12 = .ok (.getfield 142, 3) := by decide +kernel
theorem dX9_tellDense_15 : decode cX9_tellDense 15 = .ok (.iconst 1, 1) := by decide +kernel
theorem dX9_tellDense_16 : decode cX9_tellDense 16 = .ok (.isub, 1) := by decide +kernel
theorem dX9_tellDense_17 : decode cX9_tellDense 17 = .ok (.iaload, 1) := by decide +kernel
theorem dX9_tellDense_18 : decode cX9_tellDense 18 = .ok (.istore 4, 2) := by decide +kernel
theorem dX9_tellDense_20 : decode cX9_tellDense 20 = .ok (.aload_n 0, 1) := by decide +kernel
theorem dX9_tellDense_21 : decode cX9_tellDense 21 = .ok (.iconst 2, 1) := by decide +kernel
theorem dX9_tellDense_22 : decode cX9_tellDense 22 = .ok (.iload_n 3, 1) := by decide +kernel
theorem dX9_tellDense_23 : decode cX9_tellDense 23 = .ok (.iload_n 2, 1) := by decide +kernel
theorem dX9_tellDense_24 : decode cX9_tellDense 24 = .ok (.isub, 1) := by decide +kernel
theorem dX9_tellDense_25 : decode cX9_tellDense 25 = .ok (.invokestatic 148, 3) := by decide +kernel
theorem dX9_tellDense_28 : decode cX9_tellDense 28 = .ok (.invokevirtual 145, 3) := by decide +kernel
theorem dX9_tellDense_31 : decode cX9_tellDense 31 = .ok (.aload_n 0, 1) := by decide +kernel
theorem dX9_tellDense_32 : decode cX9_tellDense 32 = .ok (.iconst 1, 1) := by decide +kernel
theorem dX9_tellDense_33 : decode cX9_tellDense 33 = .ok (.iload 4, 2) := by decide +kernel
theorem dX9_tellDense_35 : decode cX9_tellDense 35 = .ok (.iload_n 3, 1) := by decide +kernel
theorem dX9_tellDense_36 : decode cX9_tellDense 36 = .ok (.isub, 1) := by decide +kernel
theorem dX9_tellDense_37 : decode cX9_tellDense 37 = .ok (.invokevirtual 145, 3) := by decide +kernel
theorem dX9_tellDense_40 : decode cX9_tellDense 40 = .ok (.iload_n 3, 1) := by decide +kernel
theorem dX9_tellDense_41 : decode cX9_tellDense 41 = .ok (.iconst 1, 1) := by decide +kernel
theorem dX9_tellDense_42 : decode cX9_tellDense 42 = .ok (.iadd, 1) := by decide +kernel
theorem dX9_tellDense_43 : decode cX9_tellDense 43 = .ok (.istore 5, 2) := by decide +kernel
theorem dX9_tellDense_45 : decode cX9_tellDense 45 = .ok (.iload 5, 2) := by decide +kernel
theorem dX9_tellDense_47 : decode cX9_tellDense 47 = .ok (.iload 4, 2) := by decide +kernel
theorem dX9_tellDense_49 : decode cX9_tellDense 49 = .ok (.if_icmp .ge 32, 3) := by decide +kernel
theorem dX9_tellDense_52 : decode cX9_tellDense 52 = .ok (.aload_n 0, 1) := by decide +kernel
theorem dX9_tellDense_53 : decode cX9_tellDense 53 = .ok (.bipush 8, 2) := by decide +kernel
theorem dX9_tellDense_55 : decode cX9_tellDense 55 = .ok (.aload_n 1, 1) := by decide +kernel
theorem dX9_tellDense_56 : decode cX9_tellDense 56 = .ok (.bipush 48, 2) := by decide +kernel
theorem dX9_tellDense_58 : decode cX9_tellDense 58 = .ok (.iload_n 2, 1) := by decide +kernel
theorem dX9_tellDense_59 : decode cX9_tellDense 59 = .ok (.imul, 1) := by decide +kernel
theorem dX9_tellDense_60 : decode cX9_tellDense 60 = .ok (.iload 5, 2) := by decide +kernel
theorem dX9_tellDense_62 : decode cX9_tellDense 62 = .ok (.iadd, 1) := by decide +kernel
theorem dX9_tellDense_63 : decode cX9_tellDense 63 = .ok (.baload, 1) := by decide +kernel
theorem dX9_tellDense_64 : decode cX9_tellDense 64 = .ok (.ifCond .eq 7, 3) := by decide +kernel
theorem dX9_tellDense_67 : decode cX9_tellDense 67 = .ok (.iconst 1, 1) := by decide +kernel
theorem dX9_tellDense_68 : decode cX9_tellDense 68 = .ok (.goto 4, 3) := by decide +kernel
theorem dX9_tellDense_71 : decode cX9_tellDense 71 = .ok (.iconst 0, 1) := by decide +kernel
theorem dX9_tellDense_72 : decode cX9_tellDense 72 = .ok (.invokevirtual 145, 3) := by decide +kernel
theorem dX9_tellDense_75 : decode cX9_tellDense 75 = .ok (.iinc 5 1, 3) := by decide +kernel
theorem dX9_tellDense_78 : decode cX9_tellDense 78 = .ok (.goto (-33), 3) := by decide +kernel
theorem dX9_tellDense_81 : decode cX9_tellDense 81 = .ok (.return_, 1) := by decide +kernel
theorem dX9_tell_0 : decode cX9_tell 0 = .ok (.aload_n 0, 1) := by decide +kernel
theorem dX9_tell_1 : decode cX9_tell 1 = .ok (.iconst 0, 1) := by decide +kernel
theorem dX9_tell_2 : decode cX9_tell 2 = .ok (.putfield 139, 3) := by decide +kernel
theorem dX9_tell_5 : decode cX9_tell 5 = .ok (.aload_n 0, 1) := by decide +kernel
theorem dX9_tell_6 : decode cX9_tell 6 = .ok (.iconst 0, 1) := by decide +kernel
theorem dX9_tell_7 : decode cX9_tell 7 = .ok (.iload_n 3, 1) := by decide +kernel
theorem dX9_tell_8 : decode cX9_tell 8 = .ok (.invokevirtual 145, 3) := by decide +kernel
theorem dX9_tell_11 : decode cX9_tell 11 = .ok (.aload_n 0, 1) := by decide +kernel
theorem dX9_tell_12 : decode cX9_tell 12 = .ok (.aload_n 1, 1) := by decide +kernel
theorem dX9_tell_13 : decode cX9_tell 13 = .ok (.iload_n 2, 1) := by decide +kernel
theorem dX9_tell_14 : decode cX9_tell 14 = .ok (.iload_n 2, 1) := by decide +kernel
theorem dX9_tell_15 : decode cX9_tell 15 = .ok (.invokevirtual 157, 3) := by decide +kernel
theorem dX9_tell_18 : decode cX9_tell 18 = .ok (.iload_n 3, 1) := by decide +kernel
theorem dX9_tell_19 : decode cX9_tell 19 = .ok (.tableswitch 70 0 3 #[29, 37, 45, 58], 29) := by decide +kernel
theorem dX9_tell_48 : decode cX9_tell 48 = .ok (.aload_n 0, 1) := by decide +kernel
theorem dX9_tell_49 : decode cX9_tell 49 = .ok (.iload_n 2, 1) := by decide +kernel
theorem dX9_tell_50 : decode cX9_tell 50 = .ok (.invokevirtual 154, 3) := by decide +kernel
theorem dX9_tell_53 : decode cX9_tell 53 = .ok (.goto 42, 3) := by decide +kernel
theorem dX9_tell_56 : decode cX9_tell 56 = .ok (.aload_n 0, 1) := by decide +kernel
theorem dX9_tell_57 : decode cX9_tell 57 = .ok (.iload_n 2, 1) := by decide +kernel
theorem dX9_tell_58 : decode cX9_tell 58 = .ok (.invokevirtual 161, 3) := by decide +kernel
theorem dX9_tell_61 : decode cX9_tell 61 = .ok (.goto 34, 3) := by decide +kernel
theorem dX9_tell_64 : decode cX9_tell 64 = .ok (.aload_n 0, 1) := by decide +kernel
theorem dX9_tell_65 : decode cX9_tell 65 = .ok (.aload_n 1, 1) := by decide +kernel
theorem dX9_tell_66 : decode cX9_tell 66 = .ok (.iload_n 2, 1) := by decide +kernel
theorem dX9_tell_67 : decode cX9_tell 67 = .ok (.iload_n 2, 1) := by decide +kernel
theorem dX9_tell_68 : decode cX9_tell 68 = .ok (.iload 4, 2) := by decide +kernel
theorem dX9_tell_70 : decode cX9_tell 70 = .ok (.isub, 1) := by decide +kernel
theorem dX9_tell_71 : decode cX9_tell 71 = .ok (.invokevirtual 164, 3) := by decide +kernel
theorem dX9_tell_74 : decode cX9_tell 74 = .ok (.goto 21, 3) := by decide +kernel
theorem dX9_tell_77 : decode cX9_tell 77 = .ok (.aload_n 0, 1) := by decide +kernel
theorem dX9_tell_78 : decode cX9_tell 78 = .ok (.iconst 4, 1) := by decide +kernel
theorem dX9_tell_79 : decode cX9_tell 79 = .ok (.iload 4, 2) := by decide +kernel
theorem dX9_tell_81 : decode cX9_tell 81 = .ok (.iconst 1, 1) := by decide +kernel
theorem dX9_tell_82 : decode cX9_tell 82 = .ok (.isub, 1) := by decide +kernel
theorem dX9_tell_83 : decode cX9_tell 83 = .ok (.invokevirtual 145, 3) := by decide +kernel
theorem dX9_tell_86 : decode cX9_tell 86 = .ok (.goto 9, 3) := by decide +kernel
theorem dX9_tell_89 : decode cX9_tell 89 = .ok (.aload_n 0, 1) := by decide +kernel
theorem dX9_tell_90 : decode cX9_tell 90 = .ok (.aload_n 1, 1) := by decide +kernel
theorem dX9_tell_91 : decode cX9_tell 91 = .ok (.iload_n 2, 1) := by decide +kernel
theorem dX9_tell_92 : decode cX9_tell 92 = .ok (.invokevirtual 167, 3) := by decide +kernel
theorem dX9_tell_95 : decode cX9_tell 95 = .ok (.return_, 1) := by decide +kernel
theorem dX9_numbersBits_0 : decode cX9_numbersBits 0 = .ok (.iconst 0, 1) := by decide +kernel
theorem dX9_numbersBits_1 : decode cX9_numbersBits 1 = .ok (.istore_n 1, 1) := by decide +kernel
theorem dX9_numbersBits_2 : decode cX9_numbersBits 2 = .ok (.iconst 0, 1) := by decide +kernel
theorem dX9_numbersBits_3 : decode cX9_numbersBits 3 = .ok (.istore_n 2, 1) := by decide +kernel
theorem dX9_numbersBits_4 : decode cX9_numbersBits 4 = .ok (.iload_n 2, 1) := by decide +kernel
theorem dX9_numbersBits_5 : decode cX9_numbersBits 5 = .ok (.aload_n 0, 1) := by decide +kernel
theorem dX9_numbersBits_6 : decode cX9_numbersBits 6 = .ok (.getfield 139, 3) := by decide +kernel
theorem dX9_numbersBits_9 : decode cX9_numbersBits 9 = .ok (.if_icmp .ge 47, 3) := by decide +kernel
theorem dX9_numbersBits_12 : decode cX9_numbersBits 12 = .ok (.iload_n 1, 1) := by decide +kernel
theorem dX9_numbersBits_13 : decode cX9_numbersBits 13 = .ok (.aload_n 0, 1) := by decide +kernel
theorem dX9_numbersBits_14 : decode cX9_numbersBits 14 = .ok (.getfield 42, 3) := by decide +kernel
theorem dX9_numbersBits_17 : decode cX9_numbersBits 17 = .ok (.iload_n 2, 1) := by decide +kernel
theorem dX9_numbersBits_18 : decode cX9_numbersBits 18 = .ok (.iaload, 1) := by decide +kernel
theorem dX9_numbersBits_19 : decode cX9_numbersBits 19 = .ok (.bipush 8, 2) := by decide +kernel
theorem dX9_numbersBits_21 : decode cX9_numbersBits 21 = .ok (.if_icmp .ne 7, 3) := by decide +kernel
theorem dX9_numbersBits_24 : decode cX9_numbersBits 24 = .ok (.iconst 1, 1) := by decide +kernel
theorem dX9_numbersBits_25 : decode cX9_numbersBits 25 = .ok (.goto 23, 3) := by decide +kernel
theorem dX9_numbersBits_28 : decode cX9_numbersBits 28 = .ok (.aload_n 0, 1) := by decide +kernel
theorem dX9_numbersBits_29 : decode cX9_numbersBits 29 = .ok (.getfield 23, 3) := by decide +kernel
theorem dX9_numbersBits_32 : decode cX9_numbersBits 32 = .ok (.aload_n 0, 1) := by decide +kernel
theorem dX9_numbersBits_33 : decode cX9_numbersBits 33 = .ok (.getfield 42, 3) := by decide +kernel
theorem dX9_numbersBits_36 : decode cX9_numbersBits 36 = .ok (.iload_n 2, 1) := by decide +kernel
theorem dX9_numbersBits_37 : decode cX9_numbersBits 37 = .ok (.iaload, 1) := by decide +kernel
theorem dX9_numbersBits_38 : decode cX9_numbersBits 38 = .ok (.iaload, 1) := by decide +kernel
theorem dX9_numbersBits_39 : decode cX9_numbersBits 39 = .ok (.aload_n 0, 1) := by decide +kernel
theorem dX9_numbersBits_40 : decode cX9_numbersBits 40 = .ok (.getfield 45, 3) := by decide +kernel
theorem dX9_numbersBits_43 : decode cX9_numbersBits 43 = .ok (.iload_n 2, 1) := by decide +kernel
theorem dX9_numbersBits_44 : decode cX9_numbersBits 44 = .ok (.iaload, 1) := by decide +kernel
theorem dX9_numbersBits_45 : decode cX9_numbersBits 45 = .ok (.invokestatic 171, 3) := by decide +kernel
theorem dX9_numbersBits_48 : decode cX9_numbersBits 48 = .ok (.iadd, 1) := by decide +kernel
theorem dX9_numbersBits_49 : decode cX9_numbersBits 49 = .ok (.istore_n 1, 1) := by decide +kernel
theorem dX9_numbersBits_50 : decode cX9_numbersBits 50 = .ok (.iinc 2 1, 3) := by decide +kernel
theorem dX9_numbersBits_53 : decode cX9_numbersBits 53 = .ok (.goto (-49), 3) := by decide +kernel
theorem dX9_numbersBits_56 : decode cX9_numbersBits 56 = .ok (.iload_n 1, 1) := by decide +kernel
theorem dX9_numbersBits_57 : decode cX9_numbersBits 57 = .ok (.ireturn, 1) := by decide +kernel
theorem dX9_bitsBy_0 : decode cX9_bitsBy 0 = .ok (.aload_n 0, 1) := by decide +kernel
theorem dX9_bitsBy_1 : decode cX9_bitsBy 1 = .ok (.aload_n 1, 1) := by decide +kernel
theorem dX9_bitsBy_2 : decode cX9_bitsBy 2 = .ok (.iload_n 2, 1) := by decide +kernel
theorem dX9_bitsBy_3 : decode cX9_bitsBy 3 = .ok (.iload_n 3, 1) := by decide +kernel
theorem dX9_bitsBy_4 : decode cX9_bitsBy 4 = .ok (.iload 4, 2) := by decide +kernel
theorem dX9_bitsBy_6 : decode cX9_bitsBy 6 = .ok (.invokevirtual 175, 3) := by decide +kernel
theorem dX9_bitsBy_9 : decode cX9_bitsBy 9 = .ok (.aload_n 0, 1) := by decide +kernel
theorem dX9_bitsBy_10 : decode cX9_bitsBy 10 = .ok (.invokevirtual 179, 3) := by decide +kernel
theorem dX9_bitsBy_13 : decode cX9_bitsBy 13 = .ok (.ireturn, 1) := by decide +kernel
theorem dX9_isSame_0 : decode cX9_isSame 0 = .ok (.iconst 1, 1) := by decide +kernel
theorem dX9_isSame_1 : decode cX9_isSame 1 = .ok (.istore 4, 2) := by decide +kernel
theorem dX9_isSame_3 : decode cX9_isSame 3 = .ok (.iconst 0, 1) := by decide +kernel
theorem dX9_isSame_4 : decode cX9_isSame 4 = .ok (.istore 5, 2) := by decide +kernel
theorem dX9_isSame_6 : decode cX9_isSame 6 = .ok (.iload 5, 2) := by decide +kernel
theorem dX9_isSame_8 : decode cX9_isSame 8 = .ok (.aload_n 0, 1) := by decide +kernel
theorem dX9_isSame_9 : decode cX9_isSame 9 = .ok (.getfield 93, 3) := by decide +kernel
theorem dX9_isSame_12 : decode cX9_isSame 12 = .ok (.if_icmp .ge 42, 3) := by decide +kernel
theorem dX9_isSame_15 : decode cX9_isSame 15 = .ok (.iload 4, 2) := by decide +kernel
theorem dX9_isSame_17 : decode cX9_isSame 17 = .ok (.ifCond .eq 28, 3) := by decide +kernel
theorem dX9_isSame_20 : decode cX9_isSame 20 = .ok (.aload_n 1, 1) := by decide +kernel
theorem dX9_isSame_21 : decode cX9_isSame 21 = .ok (.bipush 48, 2) := by decide +kernel
theorem dX9_isSame_23 : decode cX9_isSame 23 = .ok (.iload_n 2, 1) := by decide +kernel
theorem dX9_isSame_24 : decode cX9_isSame 24 = .ok (.imul, 1) := by decide +kernel
theorem dX9_isSame_25 : decode cX9_isSame 25 = .ok (.iload 5, 2) := by decide +kernel
theorem dX9_isSame_27 : decode cX9_isSame 27 = .ok (.iadd, 1) := by decide +kernel
theorem dX9_isSame_28 : decode cX9_isSame 28 = .ok (.baload, 1) := by decide +kernel
theorem dX9_isSame_29 : decode cX9_isSame 29 = .ok (.aload_n 1, 1) := by decide +kernel
theorem dX9_isSame_30 : decode cX9_isSame 30 = .ok (.bipush 48, 2) := by decide +kernel
theorem dX9_isSame_32 : decode cX9_isSame 32 = .ok (.iload_n 3, 1) := by decide +kernel
theorem dX9_isSame_33 : decode cX9_isSame 33 = .ok (.imul, 1) := by decide +kernel
theorem dX9_isSame_34 : decode cX9_isSame 34 = .ok (.iload 5, 2) := by decide +kernel
theorem dX9_isSame_36 : decode cX9_isSame 36 = .ok (.iadd, 1) := by decide +kernel
theorem dX9_isSame_37 : decode cX9_isSame 37 = .ok (.baload, 1) := by decide +kernel
theorem dX9_isSame_38 : decode cX9_isSame 38 = .ok (.if_icmp .ne 7, 3) := by decide +kernel
theorem dX9_isSame_41 : decode cX9_isSame 41 = .ok (.iconst 1, 1) := by decide +kernel
theorem dX9_isSame_42 : decode cX9_isSame 42 = .ok (.goto 4, 3) := by decide +kernel
theorem dX9_isSame_45 : decode cX9_isSame 45 = .ok (.iconst 0, 1) := by decide +kernel
theorem dX9_isSame_46 : decode cX9_isSame 46 = .ok (.istore 4, 2) := by decide +kernel
theorem dX9_isSame_48 : decode cX9_isSame 48 = .ok (.iinc 5 1, 3) := by decide +kernel
theorem dX9_isSame_51 : decode cX9_isSame 51 = .ok (.goto (-45), 3) := by decide +kernel
theorem dX9_isSame_54 : decode cX9_isSame 54 = .ok (.iload 4, 2) := by decide +kernel
theorem dX9_isSame_56 : decode cX9_isSame 56 = .ok (.ireturn, 1) := by decide +kernel
theorem dX9_form_0 : decode cX9_form 0 = .ok (.aload_n 0, 1) := by decide +kernel
theorem dX9_form_1 : decode cX9_form 1 = .ok (.iconst 0, 1) := by decide +kernel
theorem dX9_form_2 : decode cX9_form 2 = .ok (.putfield 1, 3) := by decide +kernel
theorem dX9_form_5 : decode cX9_form 5 = .ok (.iload_n 1, 1) := by decide +kernel
theorem dX9_form_6 : decode cX9_form 6 = .ok (.i2l, 1) := by decide +kernel
theorem dX9_form_7 : decode cX9_form 7 = .ok (.lconst 0, 1) := by decide +kernel
theorem dX9_form_8 : decode cX9_form 8 = .ok (.ldc2_w 183, 3) := by decide +kernel
theorem dX9_form_11 : decode cX9_form 11 = .ok (.invokestatic 96, 3) := by decide +kernel
theorem dX9_form_14 : decode cX9_form 14 = .ok (.ifCond .eq 15, 3) := by decide +kernel
theorem dX9_form_17 : decode cX9_form 17 = .ok (.iload_n 2, 1) := by decide +kernel
theorem dX9_form_18 : decode cX9_form 18 = .ok (.i2l, 1) := by decide +kernel
theorem dX9_form_19 : decode cX9_form 19 = .ok (.lconst 0, 1) := by decide +kernel
theorem dX9_form_20 : decode cX9_form 20 = .ok (.ldc2_w 185, 3) := by decide +kernel
theorem dX9_form_23 : decode cX9_form 23 = .ok (.invokestatic 96, 3) := by decide +kernel
theorem dX9_form_26 : decode cX9_form 26 = .ok (.ifCond .ne 6, 3) := by decide +kernel
theorem dX9_form_29 : decode cX9_form 29 = .ok (.bipush (-2), 2) := by decide +kernel
theorem dX9_form_31 : decode cX9_form 31 = .ok (.ireturn, 1) := by decide +kernel
theorem dX9_form_32 : decode cX9_form 32 = .ok (.aload_n 0, 1) := by decide +kernel
theorem dX9_form_33 : decode cX9_form 33 = .ok (.getfield 23, 3) := by decide +kernel
theorem dX9_form_36 : decode cX9_form 36 = .ok (.iload_n 1, 1) := by decide +kernel
theorem dX9_form_37 : decode cX9_form 37 = .ok (.iaload, 1) := by decide +kernel
theorem dX9_form_38 : decode cX9_form 38 = .ok (.istore_n 3, 1) := by decide +kernel
theorem dX9_form_39 : decode cX9_form 39 = .ok (.aload_n 0, 1) := by decide +kernel
theorem dX9_form_40 : decode cX9_form 40 = .ok (.getfield 23, 3) := by decide +kernel
theorem dX9_form_43 : decode cX9_form 43 = .ok (.iload_n 1, 1) := by decide +kernel
theorem dX9_form_44 : decode cX9_form 44 = .ok (.iload_n 2, 1) := by decide +kernel
theorem dX9_form_45 : decode cX9_form 45 = .ok (.iastore, 1) := by decide +kernel
theorem dX9_form_46 : decode cX9_form 46 = .ok (.iload_n 3, 1) := by decide +kernel
theorem dX9_form_47 : decode cX9_form 47 = .ok (.ireturn, 1) := by decide +kernel
theorem dX9_setting_0 : decode cX9_setting 0 = .ok (.aload_n 0, 1) := by decide +kernel
theorem dX9_setting_1 : decode cX9_setting 1 = .ok (.iconst 0, 1) := by decide +kernel
theorem dX9_setting_2 : decode cX9_setting 2 = .ok (.putfield 1, 3) := by decide +kernel
theorem dX9_setting_5 : decode cX9_setting 5 = .ok (.iload_n 1, 1) := by decide +kernel
theorem dX9_setting_6 : decode cX9_setting 6 = .ok (.ifCond .ne 27, 3) := by decide +kernel
theorem dX9_setting_9 : decode cX9_setting 9 = .ok (.iload_n 2, 1) := by decide +kernel
theorem dX9_setting_10 : decode cX9_setting 10 = .ok (.i2l, 1) := by decide +kernel
theorem dX9_setting_11 : decode cX9_setting 11 = .ok (.lconst 0, 1) := by decide +kernel
theorem dX9_setting_12 : decode cX9_setting 12 = .ok (.ldc2_w 183, 3) := by decide +kernel
theorem dX9_setting_15 : decode cX9_setting 15 = .ok (.invokestatic 96, 3) := by decide +kernel
theorem dX9_setting_18 : decode cX9_setting 18 = .ok (.ifCond .eq 15, 3) := by decide +kernel
theorem dX9_setting_21 : decode cX9_setting 21 = .ok (.aload_n 0, 1) := by decide +kernel
theorem dX9_setting_22 : decode cX9_setting 22 = .ok (.getfield 27, 3) := by decide +kernel
theorem dX9_setting_25 : decode cX9_setting 25 = .ok (.istore_n 3, 1) := by decide +kernel
theorem dX9_setting_26 : decode cX9_setting 26 = .ok (.aload_n 0, 1) := by decide +kernel
theorem dX9_setting_27 : decode cX9_setting 27 = .ok (.iload_n 2, 1) := by decide +kernel
theorem dX9_setting_28 : decode cX9_setting 28 = .ok (.putfield 27, 3) := by decide +kernel
theorem dX9_setting_31 : decode cX9_setting 31 = .ok (.iload_n 3, 1) := by decide +kernel
theorem dX9_setting_32 : decode cX9_setting 32 = .ok (.ireturn, 1) := by decide +kernel
theorem dX9_setting_33 : decode cX9_setting 33 = .ok (.iload_n 1, 1) := by decide +kernel
theorem dX9_setting_34 : decode cX9_setting 34 = .ok (.iconst 1, 1) := by decide +kernel
theorem dX9_setting_35 : decode cX9_setting 35 = .ok (.if_icmp .ne 27, 3) := by decide +kernel
theorem dX9_setting_38 : decode cX9_setting 38 = .ok (.iload_n 2, 1) := by decide +kernel
theorem dX9_setting_39 : decode cX9_setting 39 = .ok (.i2l, 1) := by decide +kernel
theorem dX9_setting_40 : decode cX9_setting 40 = .ok (.lconst 0, 1) := by decide +kernel
theorem dX9_setting_41 : decode cX9_setting 41 = .ok (.ldc2_w 187, 3) := by decide +kernel
theorem dX9_setting_44 : decode cX9_setting 44 = .ok (.invokestatic 96, 3) := by decide +kernel
theorem dX9_setting_47 : decode cX9_setting 47 = .ok (.ifCond .eq 15, 3) := by decide +kernel
theorem dX9_setting_50 : decode cX9_setting 50 = .ok (.aload_n 0, 1) := by decide +kernel
theorem dX9_setting_51 : decode cX9_setting 51 = .ok (.getfield 30, 3) := by decide +kernel
theorem dX9_setting_54 : decode cX9_setting 54 = .ok (.istore_n 3, 1) := by decide +kernel
theorem dX9_setting_55 : decode cX9_setting 55 = .ok (.aload_n 0, 1) := by decide +kernel
theorem dX9_setting_56 : decode cX9_setting 56 = .ok (.iload_n 2, 1) := by decide +kernel
theorem dX9_setting_57 : decode cX9_setting 57 = .ok (.putfield 30, 3) := by decide +kernel
theorem dX9_setting_60 : decode cX9_setting 60 = .ok (.iload_n 3, 1) := by decide +kernel
theorem dX9_setting_61 : decode cX9_setting 61 = .ok (.ireturn, 1) := by decide +kernel
theorem dX9_setting_62 : decode cX9_setting 62 = .ok (.iload_n 1, 1) := by decide +kernel
theorem dX9_setting_63 : decode cX9_setting 63 = .ok (.iconst 2, 1) := by decide +kernel
theorem dX9_setting_64 : decode cX9_setting 64 = .ok (.if_icmp .ne 27, 3) := by decide +kernel
theorem dX9_setting_67 : decode cX9_setting 67 = .ok (.iload_n 2, 1) := by decide +kernel
theorem dX9_setting_68 : decode cX9_setting 68 = .ok (.i2l, 1) := by decide +kernel
theorem dX9_setting_69 : decode cX9_setting 69 = .ok (.lconst 1, 1) := by decide +kernel
theorem dX9_setting_70 : decode cX9_setting 70 = .ok (.ldc2_w 185, 3) := by decide +kernel
theorem dX9_setting_73 : decode cX9_setting 73 = .ok (.invokestatic 96, 3) := by decide +kernel
theorem dX9_setting_76 : decode cX9_setting 76 = .ok (.ifCond .eq 15, 3) := by decide +kernel
theorem dX9_setting_79 : decode cX9_setting 79 = .ok (.aload_n 0, 1) := by decide +kernel
theorem dX9_setting_80 : decode cX9_setting 80 = .ok (.getfield 33, 3) := by decide +kernel
theorem dX9_setting_83 : decode cX9_setting 83 = .ok (.istore_n 3, 1) := by decide +kernel
theorem dX9_setting_84 : decode cX9_setting 84 = .ok (.aload_n 0, 1) := by decide +kernel
theorem dX9_setting_85 : decode cX9_setting 85 = .ok (.iload_n 2, 1) := by decide +kernel
theorem dX9_setting_86 : decode cX9_setting 86 = .ok (.putfield 33, 3) := by decide +kernel
theorem dX9_setting_89 : decode cX9_setting 89 = .ok (.iload_n 3, 1) := by decide +kernel
theorem dX9_setting_90 : decode cX9_setting 90 = .ok (.ireturn, 1) := by decide +kernel
theorem dX9_setting_91 : decode cX9_setting 91 = .ok (.bipush (-2), 2) := by decide +kernel
theorem dX9_setting_93 : decode cX9_setting 93 = .ok (.ireturn, 1) := by decide +kernel
theorem dX9_length_0 : decode cX9_length 0 = .ok (.aload_n 0, 1) := by decide +kernel
theorem dX9_length_1 : decode cX9_length 1 = .ok (.iconst 0, 1) := by decide +kernel
theorem dX9_length_2 : decode cX9_length 2 = .ok (.putfield 1, 3) := by decide +kernel
theorem dX9_length_5 : decode cX9_length 5 = .ok (.iload_n 1, 1) := by decide +kernel
theorem dX9_length_6 : decode cX9_length 6 = .ok (.i2l, 1) := by decide +kernel
theorem dX9_length_7 : decode cX9_length 7 = .ok (.lconst 0, 1) := by decide +kernel
theorem dX9_length_8 : decode cX9_length 8 = .ok (.ldc2_w 185, 3) := by decide +kernel
theorem dX9_length_11 : decode cX9_length 11 = .ok (.invokestatic 96, 3) := by decide +kernel
theorem dX9_length_14 : decode cX9_length 14 = .ok (.ifCond .eq 23, 3) := by decide +kernel
theorem dX9_length_17 : decode cX9_length 17 = .ok (.iload_n 2, 1) := by decide +kernel
theorem dX9_length_18 : decode cX9_length 18 = .ok (.i2l, 1) := by decide +kernel
theorem dX9_length_19 : decode cX9_length 19 = .ok (.lconst 0, 1) := by decide +kernel
theorem dX9_length_20 : decode cX9_length 20 = .ok (.ldc2_w 189, 3) := by decide +kernel
theorem dX9_length_23 : decode cX9_length 23 = .ok (.invokestatic 96, 3) := by decide +kernel
theorem dX9_length_26 : decode cX9_length 26 = .ok (.ifCond .eq 11, 3) := by decide +kernel
theorem dX9_length_29 : decode cX9_length 29 = .ok (.iload_n 1, 1) := by decide +kernel
theorem dX9_length_30 : decode cX9_length 30 = .ok (.iload_n 2, 1) := by decide +kernel
theorem dX9_length_31 : decode cX9_length 31 = .ok (.invokestatic 171, 3) := by decide +kernel
theorem dX9_length_34 : decode cX9_length 34 = .ok (.goto 5, 3) := by decide +kernel
theorem dX9_length_37 : decode cX9_length 37 = .ok (.bipush (-2), 2) := by decide +kernel
theorem dX9_length_39 : decode cX9_length 39 = .ok (.ireturn, 1) := by decide +kernel
theorem dX9_cost_0 : decode cX9_cost 0 = .ok (.aload_n 0, 1) := by decide +kernel
theorem dX9_cost_1 : decode cX9_cost 1 = .ok (.iconst 0, 1) := by decide +kernel
theorem dX9_cost_2 : decode cX9_cost 2 = .ok (.putfield 1, 3) := by decide +kernel
theorem dX9_cost_5 : decode cX9_cost 5 = .ok (.iload_n 2, 1) := by decide +kernel
theorem dX9_cost_6 : decode cX9_cost 6 = .ok (.iconst 2, 1) := by decide +kernel
theorem dX9_cost_7 : decode cX9_cost 7 = .ok (.if_icmp .eq 8, 3) := by decide +kernel
theorem dX9_cost_10 : decode cX9_cost 10 = .ok (.iload_n 2, 1) := by decide +kernel
theorem dX9_cost_11 : decode cX9_cost 11 = .ok (.iconst 3, 1) := by decide +kernel
theorem dX9_cost_12 : decode cX9_cost 12 = .ok (.if_icmp .ne 7, 3) := by decide +kernel
theorem dX9_cost_15 : decode cX9_cost 15 = .ok (.iconst 1, 1) := by decide +kernel
theorem dX9_cost_16 : decode cX9_cost 16 = .ok (.goto 4, 3) := by decide +kernel
theorem dX9_cost_19 : decode cX9_cost 19 = .ok (.iconst 0, 1) := by decide +kernel
theorem dX9_cost_20 : decode cX9_cost 20 = .ok (.istore 4, 2) := by decide +kernel
theorem dX9_cost_22 : decode cX9_cost 22 = .ok (.aload_n 0, 1) := by decide +kernel
theorem dX9_cost_23 : decode cX9_cost 23 = .ok (.iload_n 1, 1) := by decide +kernel
theorem dX9_cost_24 : decode cX9_cost 24 = .ok (.invokevirtual 107, 3) := by decide +kernel
theorem dX9_cost_27 : decode cX9_cost 27 = .ok (.ifCond .eq 30, 3) := by decide +kernel
theorem dX9_cost_30 : decode cX9_cost 30 = .ok (.iload_n 2, 1) := by decide +kernel
theorem dX9_cost_31 : decode cX9_cost 31 = .ok (.i2l, 1) := by decide +kernel
theorem dX9_cost_32 : decode cX9_cost 32 = .ok (.lconst 0, 1) := by decide +kernel
theorem dX9_cost_33 : decode cX9_cost 33 = .ok (.ldc2_w 191, 3) := by decide +kernel
theorem dX9_cost_36 : decode cX9_cost 36 = .ok (.invokestatic 96, 3) := by decide +kernel
theorem dX9_cost_39 : decode cX9_cost 39 = .ok (.ifCond .eq 18, 3) := by decide +kernel
theorem dX9_cost_42 : decode cX9_cost 42 = .ok (.iload 4, 2) := by decide +kernel
theorem dX9_cost_44 : decode cX9_cost 44 = .ok (.ifCond .eq 16, 3) := by decide +kernel
theorem dX9_cost_47 : decode cX9_cost 47 = .ok (.iload_n 3, 1) := by decide +kernel
theorem dX9_cost_48 : decode cX9_cost 48 = .ok (.iconst 1, 1) := by decide +kernel
theorem dX9_cost_49 : decode cX9_cost 49 = .ok (.if_icmp .lt 8, 3) := by decide +kernel
theorem dX9_cost_52 : decode cX9_cost 52 = .ok (.iload_n 3, 1) := by decide +kernel
theorem dX9_cost_53 : decode cX9_cost 53 = .ok (.iload_n 1, 1) := by decide +kernel
theorem dX9_cost_54 : decode cX9_cost 54 = .ok (.if_icmp .le 6, 3) := by decide +kernel
theorem dX9_cost_57 : decode cX9_cost 57 = .ok (.bipush (-2), 2) := by decide +kernel
theorem dX9_cost_59 : decode cX9_cost 59 = .ok (.ireturn, 1) := by decide +kernel
theorem dX9_cost_60 : decode cX9_cost 60 = .ok (.iload_n 2, 1) := by decide +kernel
theorem dX9_cost_61 : decode cX9_cost 61 = .ok (.iconst 3, 1) := by decide +kernel
theorem dX9_cost_62 : decode cX9_cost 62 = .ok (.if_icmp .ne 18, 3) := by decide +kernel
theorem dX9_cost_65 : decode cX9_cost 65 = .ok (.aload_n 0, 1) := by decide +kernel
theorem dX9_cost_66 : decode cX9_cost 66 = .ok (.aload_n 0, 1) := by decide +kernel
theorem dX9_cost_67 : decode cX9_cost 67 = .ok (.getfield 13, 3) := by decide +kernel
theorem dX9_cost_70 : decode cX9_cost 70 = .ok (.iload_n 1, 1) := by decide +kernel
theorem dX9_cost_71 : decode cX9_cost 71 = .ok (.iload_n 1, 1) := by decide +kernel
theorem dX9_cost_72 : decode cX9_cost 72 = .ok (.iload_n 3, 1) := by decide +kernel
theorem dX9_cost_73 : decode cX9_cost 73 = .ok (.isub, 1) := by decide +kernel
theorem dX9_cost_74 : decode cX9_cost 74 = .ok (.invokevirtual 193, 3) := by decide +kernel
theorem dX9_cost_77 : decode cX9_cost 77 = .ok (.ifCond .eq 16, 3) := by decide +kernel
theorem dX9_cost_80 : decode cX9_cost 80 = .ok (.iload_n 2, 1) := by decide +kernel
theorem dX9_cost_81 : decode cX9_cost 81 = .ok (.iconst 4, 1) := by decide +kernel
theorem dX9_cost_82 : decode cX9_cost 82 = .ok (.if_icmp .ne 14, 3) := by decide +kernel
theorem dX9_cost_85 : decode cX9_cost 85 = .ok (.aload_n 0, 1) := by decide +kernel
theorem dX9_cost_86 : decode cX9_cost 86 = .ok (.iload_n 1, 1) := by decide +kernel
theorem dX9_cost_87 : decode cX9_cost 87 = .ok (.invokevirtual 115, 3) := by decide +kernel
theorem dX9_cost_90 : decode cX9_cost 90 = .ok (.ifCond .ne 6, 3) := by decide +kernel
theorem dX9_cost_93 : decode cX9_cost 93 = .ok (.bipush (-3), 2) := by decide +kernel
theorem dX9_cost_95 : decode cX9_cost 95 = .ok (.ireturn, 1) := by decide +kernel
theorem dX9_cost_96 : decode cX9_cost 96 = .ok (.aload_n 0, 1) := by decide +kernel
theorem dX9_cost_97 : decode cX9_cost 97 = .ok (.aload_n 0, 1) := by decide +kernel
theorem dX9_cost_98 : decode cX9_cost 98 = .ok (.getfield 13, 3) := by decide +kernel
theorem dX9_cost_101 : decode cX9_cost 101 = .ok (.iload_n 1, 1) := by decide +kernel
theorem dX9_cost_102 : decode cX9_cost 102 = .ok (.iload_n 2, 1) := by decide +kernel
theorem dX9_cost_103 : decode cX9_cost 103 = .ok (.iload_n 3, 1) := by decide +kernel
theorem dX9_cost_104 : decode cX9_cost 104 = .ok (.invokevirtual 197, 3) := by decide +kernel
theorem dX9_cost_107 : decode cX9_cost 107 = .ok (.ireturn, 1) := by decide +kernel
theorem dX9_writeRow_0 : decode cX9_writeRow 0 = .ok (.aload_n 0, 1) := by decide +kernel
theorem dX9_writeRow_1 : decode cX9_writeRow 1 = .ok (.getfield 66, 3) := by decide +kernel
theorem dX9_writeRow_4 : decode cX9_writeRow 4 = .ok (.iload_n 1, 1) := by decide +kernel
theorem dX9_writeRow_5 : decode cX9_writeRow 5 = .ok (.aload_n 0, 1) := by decide +kernel
theorem dX9_writeRow_6 : decode cX9_writeRow 6 = .ok (.getfield 122, 3) := by decide +kernel
theorem dX9_writeRow_9 : decode cX9_writeRow 9 = .ok (.iastore, 1) := by decide +kernel
theorem dX9_writeRow_10 : decode cX9_writeRow 10 = .ok (.iconst 0, 1) := by decide +kernel
theorem dX9_writeRow_11 : decode cX9_writeRow 11 = .ok (.istore_n 2, 1) := by decide +kernel
theorem dX9_writeRow_12 : decode cX9_writeRow 12 = .ok (.iload_n 2, 1) := by decide +kernel
theorem dX9_writeRow_13 : decode cX9_writeRow 13 = .ok (.aload_n 0, 1) := by decide +kernel
theorem dX9_writeRow_14 : decode cX9_writeRow 14 = .ok (.getfield 139, 3) := by decide +kernel
theorem dX9_writeRow_17 : decode cX9_writeRow 17 = .ok (.if_icmp .ge 54, 3) := by decide +kernel
theorem dX9_writeRow_20 : decode cX9_writeRow 20 = .ok (.aload_n 0, 1) := by decide +kernel
theorem dX9_writeRow_21 : decode cX9_writeRow 21 = .ok (.getfield 42, 3) := by decide +kernel
theorem dX9_writeRow_24 : decode cX9_writeRow 24 = .ok (.iload_n 2, 1) := by decide +kernel
theorem dX9_writeRow_25 : decode cX9_writeRow 25 = .ok (.iaload, 1) := by decide +kernel
theorem dX9_writeRow_26 : decode cX9_writeRow 26 = .ok (.bipush 8, 2) := by decide +kernel
theorem dX9_writeRow_28 : decode cX9_writeRow 28 = .ok (.if_icmp .ne 16, 3) := by decide +kernel
theorem dX9_writeRow_31 : decode cX9_writeRow 31 = .ok (.aload_n 0, 1) := by decide +kernel
theorem dX9_writeRow_32 : decode cX9_writeRow 32 = .ok (.aload_n 0, 1) := by decide +kernel
theorem dX9_writeRow_33 : decode cX9_writeRow 33 = .ok (.getfield 45, 3) := by decide +kernel
theorem dX9_writeRow_36 : decode cX9_writeRow 36 = .ok (.iload_n 2, 1) := by decide +kernel
theorem dX9_writeRow_37 : decode cX9_writeRow 37 = .ok (.iaload, 1) := by decide +kernel
theorem dX9_writeRow_38 : decode cX9_writeRow 38 = .ok (.invokevirtual 125, 3) := by decide +kernel
theorem dX9_writeRow_41 : decode cX9_writeRow 41 = .ok (.goto 24, 3) := by decide +kernel
theorem dX9_writeRow_44 : decode cX9_writeRow 44 = .ok (.aload_n 0, 1) := by decide +kernel
theorem dX9_writeRow_45 : decode cX9_writeRow 45 = .ok (.aload_n 0, 1) := by decide +kernel
theorem dX9_writeRow_46 : decode cX9_writeRow 46 = .ok (.getfield 23, 3) := by decide +kernel
theorem dX9_writeRow_49 : decode cX9_writeRow 49 = .ok (.aload_n 0, 1) := by decide +kernel
theorem dX9_writeRow_50 : decode cX9_writeRow 50 = .ok (.getfield 42, 3) := by decide +kernel
theorem dX9_writeRow_53 : decode cX9_writeRow 53 = .ok (.iload_n 2, 1) := by decide +kernel
theorem dX9_writeRow_54 : decode cX9_writeRow 54 = .ok (.iaload, 1) := by decide +kernel
theorem dX9_writeRow_55 : decode cX9_writeRow 55 = .ok (.iaload, 1) := by decide +kernel
theorem dX9_writeRow_56 : decode cX9_writeRow 56 = .ok (.aload_n 0, 1) := by decide +kernel
theorem dX9_writeRow_57 : decode cX9_writeRow 57 = .ok (.getfield 45, 3) := by decide +kernel
theorem dX9_writeRow_60 : decode cX9_writeRow 60 = .ok (.iload_n 2, 1) := by decide +kernel
theorem dX9_writeRow_61 : decode cX9_writeRow 61 = .ok (.iaload, 1) := by decide +kernel
theorem dX9_writeRow_62 : decode cX9_writeRow 62 = .ok (.invokevirtual 201, 3) := by decide +kernel
theorem dX9_writeRow_65 : decode cX9_writeRow 65 = .ok (.iinc 2 1, 3) := by decide +kernel
theorem dX9_writeRow_68 : decode cX9_writeRow 68 = .ok (.goto (-56), 3) := by decide +kernel
theorem dX9_writeRow_71 : decode cX9_writeRow 71 = .ok (.return_, 1) := by decide +kernel
theorem dX9_closeBook_0 : decode cX9_closeBook 0 = .ok (.aload_n 0, 1) := by decide +kernel
theorem dX9_closeBook_1 : decode cX9_closeBook 1 = .ok (.getfield 66, 3) := by decide +kernel
theorem dX9_closeBook_4 : decode cX9_closeBook 4 = .ok (.aload_n 0, 1) := by decide +kernel
theorem dX9_closeBook_5 : decode cX9_closeBook 5 = .ok (.getfield 93, 3) := by decide +kernel
theorem dX9_closeBook_8 : decode cX9_closeBook 8 = .ok (.aload_n 0, 1) := by decide +kernel
theorem dX9_closeBook_9 : decode cX9_closeBook 9 = .ok (.getfield 122, 3) := by decide +kernel
theorem dX9_closeBook_12 : decode cX9_closeBook 12 = .ok (.iastore, 1) := by decide +kernel
theorem dX9_closeBook_13 : decode cX9_closeBook 13 = .ok (.aload_n 0, 1) := by decide +kernel
theorem dX9_closeBook_14 : decode cX9_closeBook 14 = .ok (.getfield 122, 3) := by decide +kernel
theorem dX9_closeBook_17 : decode cX9_closeBook 17 = .ok (.istore_n 1, 1) := by decide +kernel
theorem dX9_closeBook_18 : decode cX9_closeBook 18 = .ok (.iload_n 1, 1) := by decide +kernel
theorem dX9_closeBook_19 : decode cX9_closeBook 19 = .ok (.aload_n 0, 1) := by decide +kernel
theorem dX9_closeBook_20 : decode cX9_closeBook 20 = .ok (.getfield 122, 3) := by decide +kernel
theorem dX9_closeBook_23 : decode cX9_closeBook 23 = .ok (.bipush 8, 2) := by decide +kernel
theorem dX9_closeBook_25 : decode cX9_closeBook 25 = .ok (.iadd, 1) := by decide +kernel
theorem dX9_closeBook_26 : decode cX9_closeBook 26 = .ok (.if_icmp .ge 16, 3) := by decide +kernel
theorem dX9_closeBook_29 : decode cX9_closeBook 29 = .ok (.aload_n 0, 1) := by decide +kernel
theorem dX9_closeBook_30 : decode cX9_closeBook 30 = .ok (.getfield 36, 3) := by decide +kernel
theorem dX9_closeBook_33 : decode cX9_closeBook 33 = .ok (.iload_n 1, 1) := by decide +kernel
theorem dX9_closeBook_34 : decode cX9_closeBook 34 = .ok (.iconst 0, 1) := by decide +kernel
theorem dX9_closeBook_35 : decode cX9_closeBook 35 = .ok (.iastore, 1) := by decide +kernel
theorem dX9_closeBook_36 : decode cX9_closeBook 36 = .ok (.iinc 1 1, 3) := by decide +kernel
theorem dX9_closeBook_39 : decode cX9_closeBook 39 = .ok (.goto (-21), 3) := by decide +kernel
theorem dX9_closeBook_42 : decode cX9_closeBook 42 = .ok (.iconst 0, 1) := by decide +kernel
theorem dX9_closeBook_43 : decode cX9_closeBook 43 = .ok (.istore_n 1, 1) := by decide +kernel
theorem dX9_closeBook_44 : decode cX9_closeBook 44 = .ok (.iload_n 1, 1) := by decide +kernel
theorem dX9_closeBook_45 : decode cX9_closeBook 45 = .ok (.aload_n 0, 1) := by decide +kernel
theorem dX9_closeBook_46 : decode cX9_closeBook 46 = .ok (.getfield 122, 3) := by decide +kernel
theorem dX9_closeBook_49 : decode cX9_closeBook 49 = .ok (.bipush 8, 2) := by decide +kernel
theorem dX9_closeBook_51 : decode cX9_closeBook 51 = .ok (.iadd, 1) := by decide +kernel
theorem dX9_closeBook_52 : decode cX9_closeBook 52 = .ok (.if_icmp .ge 21, 3) := by decide +kernel
theorem dX9_closeBook_55 : decode cX9_closeBook 55 = .ok (.aload_n 0, 1) := by decide +kernel
theorem dX9_closeBook_56 : decode cX9_closeBook 56 = .ok (.getfield 39, 3) := by decide +kernel
theorem dX9_closeBook_59 : decode cX9_closeBook 59 = .ok (.iload_n 1, 1) := by decide +kernel
theorem dX9_closeBook_60 : decode cX9_closeBook 60 = .ok (.aload_n 0, 1) := by decide +kernel
theorem dX9_closeBook_61 : decode cX9_closeBook 61 = .ok (.getfield 36, 3) := by decide +kernel
theorem dX9_closeBook_64 : decode cX9_closeBook 64 = .ok (.iload_n 1, 1) := by decide +kernel
theorem dX9_closeBook_65 : decode cX9_closeBook 65 = .ok (.iaload, 1) := by decide +kernel
theorem dX9_closeBook_66 : decode cX9_closeBook 66 = .ok (.iastore, 1) := by decide +kernel
theorem dX9_closeBook_67 : decode cX9_closeBook 67 = .ok (.iinc 1 1, 3) := by decide +kernel
theorem dX9_closeBook_70 : decode cX9_closeBook 70 = .ok (.goto (-26), 3) := by decide +kernel
theorem dX9_closeBook_73 : decode cX9_closeBook 73 = .ok (.return_, 1) := by decide +kernel
theorem dX9_consider_0 : decode cX9_consider 0 = .ok (.aload_n 0, 1) := by decide +kernel
theorem dX9_consider_1 : decode cX9_consider 1 = .ok (.aload_n 0, 1) := by decide +kernel
theorem dX9_consider_2 : decode cX9_consider 2 = .ok (.getfield 17, 3) := by decide +kernel
theorem dX9_consider_5 : decode cX9_consider 5 = .ok (.iload_n 1, 1) := by decide +kernel
theorem dX9_consider_6 : decode cX9_consider 6 = .ok (.iload_n 2, 1) := by decide +kernel
theorem dX9_consider_7 : decode cX9_consider 7 = .ok (.iload_n 3, 1) := by decide +kernel
theorem dX9_consider_8 : decode cX9_consider 8 = .ok (.invokevirtual 197, 3) := by decide +kernel
theorem dX9_consider_11 : decode cX9_consider 11 = .ok (.istore 5, 2) := by decide +kernel
theorem dX9_consider_13 : decode cX9_consider 13 = .ok (.aload_n 0, 1) := by decide +kernel
theorem dX9_consider_14 : decode cX9_consider 14 = .ok (.getfield 204, 3) := by decide +kernel
theorem dX9_consider_17 : decode cX9_consider 17 = .ok (.iconst (-1), 1) := by decide +kernel
theorem dX9_consider_18 : decode cX9_consider 18 = .ok (.if_icmp .eq 12, 3) := by decide +kernel
theorem dX9_consider_21 : decode cX9_consider 21 = .ok (.iload 5, 2) := by decide +kernel
theorem dX9_consider_23 : decode cX9_consider 23 = .ok (.aload_n 0, 1) := by decide +kernel
theorem dX9_consider_24 : decode cX9_consider 24 = .ok (.getfield 204, 3) := by decide +kernel
theorem dX9_consider_27 : decode cX9_consider 27 = .ok (.if_icmp .ge 31, 3) := by decide +kernel
theorem dX9_consider_30 : decode cX9_consider 30 = .ok (.aload_n 0, 1) := by decide +kernel
theorem dX9_consider_31 : decode cX9_consider 31 = .ok (.iload 5, 2) := by decide +kernel
theorem dX9_consider_33 : decode cX9_consider 33 = .ok (.putfield 204, 3) := by decide +kernel
theorem dX9_consider_36 : decode cX9_consider 36 = .ok (.aload_n 0, 1) := by decide +kernel
theorem dX9_consider_37 : decode cX9_consider 37 = .ok (.getfield 57, 3) := by decide +kernel
theorem dX9_consider_40 : decode cX9_consider 40 = .ok (.iload_n 1, 1) := by decide +kernel
theorem dX9_consider_41 : decode cX9_consider 41 = .ok (.iload_n 2, 1) := by decide +kernel
theorem dX9_consider_42 : decode cX9_consider 42 = .ok (.iastore, 1) := by decide +kernel
theorem dX9_consider_43 : decode cX9_consider 43 = .ok (.aload_n 0, 1) := by decide +kernel
theorem dX9_consider_44 : decode cX9_consider 44 = .ok (.getfield 60, 3) := by decide +kernel
theorem dX9_consider_47 : decode cX9_consider 47 = .ok (.iload_n 1, 1) := by decide +kernel
theorem dX9_consider_48 : decode cX9_consider 48 = .ok (.iload_n 3, 1) := by decide +kernel
theorem dX9_consider_49 : decode cX9_consider 49 = .ok (.iastore, 1) := by decide +kernel
theorem dX9_consider_50 : decode cX9_consider 50 = .ok (.aload_n 0, 1) := by decide +kernel
theorem dX9_consider_51 : decode cX9_consider 51 = .ok (.getfield 63, 3) := by decide +kernel
theorem dX9_consider_54 : decode cX9_consider 54 = .ok (.iload_n 1, 1) := by decide +kernel
theorem dX9_consider_55 : decode cX9_consider 55 = .ok (.iload 4, 2) := by decide +kernel
theorem dX9_consider_57 : decode cX9_consider 57 = .ok (.iastore, 1) := by decide +kernel
theorem dX9_consider_58 : decode cX9_consider 58 = .ok (.return_, 1) := by decide +kernel
theorem dX9_choose_0 : decode cX9_choose 0 = .ok (.aload_n 0, 1) := by decide +kernel
theorem dX9_choose_1 : decode cX9_choose 1 = .ok (.iconst (-1), 1) := by decide +kernel
theorem dX9_choose_2 : decode cX9_choose 2 = .ok (.putfield 204, 3) := by decide +kernel
theorem dX9_choose_5 : decode cX9_choose 5 = .ok (.aload_n 0, 1) := by decide +kernel
theorem dX9_choose_6 : decode cX9_choose 6 = .ok (.iload_n 1, 1) := by decide +kernel
theorem dX9_choose_7 : decode cX9_choose 7 = .ok (.iconst 0, 1) := by decide +kernel
theorem dX9_choose_8 : decode cX9_choose 8 = .ok (.iconst 0, 1) := by decide +kernel
theorem dX9_choose_9 : decode cX9_choose 9 = .ok (.iconst 0, 1) := by decide +kernel
theorem dX9_choose_10 : decode cX9_choose 10 = .ok (.invokevirtual 207, 3) := by decide +kernel
theorem dX9_choose_13 : decode cX9_choose 13 = .ok (.aload_n 0, 1) := by decide +kernel
theorem dX9_choose_14 : decode cX9_choose 14 = .ok (.iload_n 1, 1) := by decide +kernel
theorem dX9_choose_15 : decode cX9_choose 15 = .ok (.iconst 1, 1) := by decide +kernel
theorem dX9_choose_16 : decode cX9_choose 16 = .ok (.iconst 0, 1) := by decide +kernel
theorem dX9_choose_17 : decode cX9_choose 17 = .ok (.iconst 0, 1) := by decide +kernel
theorem dX9_choose_18 : decode cX9_choose 18 = .ok (.invokevirtual 207, 3) := by decide +kernel
theorem dX9_choose_21 : decode cX9_choose 21 = .ok (.iconst 2, 1) := by decide +kernel
theorem dX9_choose_22 : decode cX9_choose 22 = .ok (.istore_n 2, 1) := by decide +kernel
theorem dX9_choose_23 : decode cX9_choose 23 = .ok (.iload_n 2, 1) := by decide +kernel
theorem dX9_choose_24 : decode cX9_choose 24 = .ok (.iconst 4, 1) := by decide +kernel
