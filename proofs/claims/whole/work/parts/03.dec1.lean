theorem dX3_layByKeys_31 : decode cX3_layByKeys 31 = .ok (.getfield 9, 3) := by decide +kernel
theorem dX3_layByKeys_34 : decode cX3_layByKeys 34 = .ok (.iload_n 2, 1) := by decide +kernel
theorem dX3_layByKeys_35 : decode cX3_layByKeys 35 = .ok (.iconst 1, 1) := by decide +kernel
theorem dX3_layByKeys_36 : decode cX3_layByKeys 36 = .ok (.isub, 1) := by decide +kernel
theorem dX3_layByKeys_37 : decode cX3_layByKeys 37 = .ok (.iaload, 1) := by decide +kernel
theorem dX3_layByKeys_38 : decode cX3_layByKeys 38 = .ok (.invokestatic 18, 3) := by decide +kernel
theorem dX3_layByKeys_41 : decode cX3_layByKeys 41 = .ok (.aload_n 0, 1) := by decide +kernel
theorem dX3_layByKeys_42 : decode cX3_layByKeys 42 = .ok (.getfield 15, 3) := by decide +kernel
theorem dX3_layByKeys_45 : decode cX3_layByKeys 45 = .ok (.iload_n 1, 1) := by decide +kernel
theorem dX3_layByKeys_46 : decode cX3_layByKeys 46 = .ok (.invokestatic 18, 3) := by decide +kernel
theorem dX3_layByKeys_49 : decode cX3_layByKeys 49 = .ok (.if_icmp .le 23, 3) := by decide +kernel
theorem dX3_layByKeys_52 : decode cX3_layByKeys 52 = .ok (.aload_n 0, 1) := by decide +kernel
theorem dX3_layByKeys_53 : decode cX3_layByKeys 53 = .ok (.getfield 9, 3) := by decide +kernel
theorem dX3_layByKeys_56 : decode cX3_layByKeys 56 = .ok (.iload_n 2, 1) := by decide +kernel
theorem dX3_layByKeys_57 : decode cX3_layByKeys 57 = .ok (.aload_n 0, 1) := by decide +kernel
theorem dX3_layByKeys_58 : decode cX3_layByKeys 58 = .ok (.getfield 9, 3) := by decide +kernel
theorem dX3_layByKeys_61 : decode cX3_layByKeys 61 = .ok (.iload_n 2, 1) := by decide +kernel
theorem dX3_layByKeys_62 : decode cX3_layByKeys 62 = .ok (.iconst 1, 1) := by decide +kernel
theorem dX3_layByKeys_63 : decode cX3_layByKeys 63 = .ok (.isub, 1) := by decide +kernel
theorem dX3_layByKeys_64 : decode cX3_layByKeys 64 = .ok (.iaload, 1) := by decide +kernel
theorem dX3_layByKeys_65 : decode cX3_layByKeys 65 = .ok (.iastore, 1) := by decide +kernel
theorem dX3_layByKeys_66 : decode cX3_layByKeys 66 = .ok (.iinc 2 (-1), 3) := by decide +kernel
theorem dX3_layByKeys_69 : decode cX3_layByKeys 69 = .ok (.goto (-56), 3) := by decide +kernel
theorem dX3_layByKeys_72 : decode cX3_layByKeys 72 = .ok (.aload_n 0, 1) := by decide +kernel
theorem dX3_layByKeys_73 : decode cX3_layByKeys 73 = .ok (.getfield 9, 3) := by decide +kernel
theorem dX3_layByKeys_76 : decode cX3_layByKeys 76 = .ok (.iload_n 2, 1) := by decide +kernel
theorem dX3_layByKeys_77 : decode cX3_layByKeys 77 = .ok (.iload_n 1, 1) := by decide +kernel
theorem dX3_layByKeys_78 : decode cX3_layByKeys 78 = .ok (.iastore, 1) := by decide +kernel
theorem dX3_layByKeys_79 : decode cX3_layByKeys 79 = .ok (.iinc 1 1, 3) := by decide +kernel
theorem dX3_layByKeys_82 : decode cX3_layByKeys 82 = .ok (.goto (-80), 3) := by decide +kernel
theorem dX3_layByKeys_85 : decode cX3_layByKeys 85 = .ok (.return_, 1) := by decide +kernel
theorem dX3_layLayers_0 : decode cX3_layLayers 0 = .ok (.lconst 0, 1) := by decide +kernel
theorem dX3_layLayers_1 : decode cX3_layLayers 1 = .ok (.lstore_n 2, 1) := by decide +kernel
theorem dX3_layLayers_2 : decode cX3_layLayers 2 = .ok (.iconst 0, 1) := by decide +kernel
theorem dX3_layLayers_3 : decode cX3_layLayers 3 = .ok (.istore 4, 2) := by decide +kernel
theorem dX3_layLayers_5 : decode cX3_layLayers 5 = .ok (.iconst 0, 1) := by decide +kernel
theorem dX3_layLayers_6 : decode cX3_layLayers 6 = .ok (.istore 5, 2) := by decide +kernel
theorem dX3_layLayers_8 : decode cX3_layLayers 8 = .ok (.iload 5, 2) := by decide +kernel
theorem dX3_layLayers_10 : decode cX3_layLayers 10 = .ok (.aload_n 0, 1) := by decide +kernel
theorem dX3_layLayers_11 : decode cX3_layLayers 11 = .ok (.getfield 9, 3) := by decide +kernel
theorem dX3_layLayers_14 : decode cX3_layLayers 14 = .ok (.arraylength, 1) := by decide +kernel
theorem dX3_layLayers_15 : decode cX3_layLayers 15 = .ok (.if_icmp .ge 119, 3) := by decide +kernel
theorem dX3_layLayers_18 : decode cX3_layLayers 18 = .ok (.iload 5, 2) := by decide +kernel
theorem dX3_layLayers_20 : decode cX3_layLayers 20 = .ok (.iload 4, 2) := by decide +kernel
theorem dX3_layLayers_22 : decode cX3_layLayers 22 = .ok (.if_icmp .ne 34, 3) := by decide +kernel
theorem dX3_layLayers_25 : decode cX3_layLayers 25 = .ok (.aload_n 0, 1) := by decide +kernel
theorem dX3_layLayers_26 : decode cX3_layLayers 26 = .ok (.getfield 9, 3) := by decide +kernel
theorem dX3_layLayers_29 : decode cX3_layLayers 29 = .ok (.iload 5, 2) := by decide +kernel
theorem dX3_layLayers_31 : decode cX3_layLayers 31 = .ok (.lload_n 2, 1) := by decide +kernel
theorem dX3_layLayers_32 : decode cX3_layLayers 32 = .ok (.ldc2_w 56, 3) := by decide +kernel
theorem dX3_layLayers_35 : decode cX3_layLayers 35 = .ok (.lxor, 1) := by decide +kernel
theorem dX3_layLayers_36 : decode cX3_layLayers 36 = .ok (.iconst 0, 1) := by decide +kernel
theorem dX3_layLayers_37 : decode cX3_layLayers 37 = .ok (.invokestatic 58, 3) := by decide +kernel
theorem dX3_layLayers_40 : decode cX3_layLayers 40 = .ok (.iastore, 1) := by decide +kernel
theorem dX3_layLayers_41 : decode cX3_layLayers 41 = .ok (.lload_n 2, 1) := by decide +kernel
theorem dX3_layLayers_42 : decode cX3_layLayers 42 = .ok (.lconst 1, 1) := by decide +kernel
theorem dX3_layLayers_43 : decode cX3_layLayers 43 = .ok (.aload_n 0, 1) := by decide +kernel
theorem dX3_layLayers_44 : decode cX3_layLayers 44 = .ok (.getfield 9, 3) := by decide +kernel
theorem dX3_layLayers_47 : decode cX3_layLayers 47 = .ok (.iload 5, 2) := by decide +kernel
theorem dX3_layLayers_49 : decode cX3_layLayers 49 = .ok (.iaload, 1) := by decide +kernel
theorem dX3_layLayers_50 : decode cX3_layLayers 50 = .ok (.lshl, 1) := by decide +kernel
theorem dX3_layLayers_51 : decode cX3_layLayers 51 = .ok (.lor, 1) := by decide +kernel
theorem dX3_layLayers_52 : decode cX3_layLayers 52 = .ok (.lstore_n 2, 1) := by decide +kernel
theorem dX3_layLayers_53 : decode cX3_layLayers 53 = .ok (.iinc 4 1, 3) := by decide +kernel
theorem dX3_layLayers_56 : decode cX3_layLayers 56 = .ok (.aload_n 1, 1) := by decide +kernel
theorem dX3_layLayers_57 : decode cX3_layLayers 57 = .ok (.aload_n 0, 1) := by decide +kernel
theorem dX3_layLayers_58 : decode cX3_layLayers 58 = .ok (.getfield 9, 3) := by decide +kernel
theorem dX3_layLayers_61 : decode cX3_layLayers 61 = .ok (.iload 5, 2) := by decide +kernel
theorem dX3_layLayers_63 : decode cX3_layLayers 63 = .ok (.iaload, 1) := by decide +kernel
theorem dX3_layLayers_64 : decode cX3_layLayers 64 = .ok (.invokevirtual 26, 3) := by decide +kernel
theorem dX3_layLayers_67 : decode cX3_layLayers 67 = .ok (.lload_n 2, 1) := by decide +kernel
theorem dX3_layLayers_68 : decode cX3_layLayers 68 = .ok (.ldc2_w 56, 3) := by decide +kernel
theorem dX3_layLayers_71 : decode cX3_layLayers 71 = .ok (.lxor, 1) := by decide +kernel
theorem dX3_layLayers_72 : decode cX3_layLayers 72 = .ok (.land, 1) := by decide +kernel
theorem dX3_layLayers_73 : decode cX3_layLayers 73 = .ok (.lstore 6, 2) := by decide +kernel
theorem dX3_layLayers_75 : decode cX3_layLayers 75 = .ok (.iconst 0, 1) := by decide +kernel
theorem dX3_layLayers_76 : decode cX3_layLayers 76 = .ok (.istore 8, 2) := by decide +kernel
theorem dX3_layLayers_78 : decode cX3_layLayers 78 = .ok (.iload 8, 2) := by decide +kernel
theorem dX3_layLayers_80 : decode cX3_layLayers 80 = .ok (.bipush 48, 2) := by decide +kernel
theorem dX3_layLayers_82 : decode cX3_layLayers 82 = .ok (.if_icmp .ge 41, 3) := by decide +kernel
theorem dX3_layLayers_85 : decode cX3_layLayers 85 = .ok (.iload 4, 2) := by decide +kernel
theorem dX3_layLayers_87 : decode cX3_layLayers 87 = .ok (.aload_n 0, 1) := by decide +kernel
theorem dX3_layLayers_88 : decode cX3_layLayers 88 = .ok (.getfield 9, 3) := by decide +kernel
theorem dX3_layLayers_91 : decode cX3_layLayers 91 = .ok (.arraylength, 1) := by decide +kernel
theorem dX3_layLayers_92 : decode cX3_layLayers 92 = .ok (.if_icmp .ge 31, 3) := by decide +kernel
theorem dX3_layLayers_95 : decode cX3_layLayers 95 = .ok (.lload 6, 2) := by decide +kernel
theorem dX3_layLayers_97 : decode cX3_layLayers 97 = .ok (.iload 8, 2) := by decide +kernel
theorem dX3_layLayers_99 : decode cX3_layLayers 99 = .ok (.invokestatic 44, 3) := by decide +kernel
theorem dX3_layLayers_102 : decode cX3_layLayers 102 = .ok (.ifCond .eq 15, 3) := by decide +kernel
theorem dX3_layLayers_105 : decode cX3_layLayers 105 = .ok (.aload_n 0, 1) := by decide +kernel
theorem dX3_layLayers_106 : decode cX3_layLayers 106 = .ok (.getfield 9, 3) := by decide +kernel
theorem dX3_layLayers_109 : decode cX3_layLayers 109 = .ok (.iload 4, 2) := by decide +kernel
theorem dX3_layLayers_111 : decode cX3_layLayers 111 = .ok (.iload 8, 2) := by decide +kernel
theorem dX3_layLayers_113 : decode cX3_layLayers 113 = .ok (.iastore, 1) := by decide +kernel
theorem dX3_layLayers_114 : decode cX3_layLayers 114 = .ok (.iinc 4 1, 3) := by decide +kernel
theorem dX3_layLayers_117 : decode cX3_layLayers 117 = .ok (.iinc 8 1, 3) := by decide +kernel
theorem dX3_layLayers_120 : decode cX3_layLayers 120 = .ok (.goto (-42), 3) := by decide +kernel
theorem dX3_layLayers_123 : decode cX3_layLayers 123 = .ok (.lload_n 2, 1) := by decide +kernel
theorem dX3_layLayers_124 : decode cX3_layLayers 124 = .ok (.lload 6, 2) := by decide +kernel
theorem dX3_layLayers_126 : decode cX3_layLayers 126 = .ok (.lor, 1) := by decide +kernel
theorem dX3_layLayers_127 : decode cX3_layLayers 127 = .ok (.lstore_n 2, 1) := by decide +kernel
theorem dX3_layLayers_128 : decode cX3_layLayers 128 = .ok (.iinc 5 1, 3) := by decide +kernel
theorem dX3_layLayers_131 : decode cX3_layLayers 131 = .ok (.goto (-123), 3) := by decide +kernel
theorem dX3_layLayers_134 : decode cX3_layLayers 134 = .ok (.return_, 1) := by decide +kernel
theorem dX4_init_0 : decode cX4_init 0 = .ok (.aload_n 0, 1) := by decide +kernel
theorem dX4_init_1 : decode cX4_init 1 = .ok (.invokespecial 1, 3) := by decide +kernel
theorem dX4_init_4 : decode cX4_init 4 = .ok (.aload_n 0, 1) := by decide +kernel
theorem dX4_init_5 : decode cX4_init 5 = .ok (.iload_n 1, 1) := by decide +kernel
theorem dX4_init_6 : decode cX4_init 6 = .ok (.newarray .long, 2) := by decide +kernel
theorem dX4_init_8 : decode cX4_init 8 = .ok (.putfield 7, 3) := by decide +kernel
theorem dX4_init_11 : decode cX4_init 11 = .ok (.aload_n 0, 1) := by decide +kernel
theorem dX4_init_12 : decode cX4_init 12 = .ok (.iload_n 1, 1) := by decide +kernel
theorem dX4_init_13 : decode cX4_init 13 = .ok (.newarray .long, 2) := by decide +kernel
theorem dX4_init_15 : decode cX4_init 15 = .ok (.putfield 13, 3) := by decide +kernel
theorem dX4_init_18 : decode cX4_init 18 = .ok (.return_, 1) := by decide +kernel
theorem dX4_things_0 : decode cX4_things 0 = .ok (.aload_n 0, 1) := by decide +kernel
theorem dX4_things_1 : decode cX4_things 1 = .ok (.getfield 7, 3) := by decide +kernel
theorem dX4_things_4 : decode cX4_things 4 = .ok (.arraylength, 1) := by decide +kernel
theorem dX4_things_5 : decode cX4_things 5 = .ok (.ireturn, 1) := by decide +kernel
theorem dX4_isThing_0 : decode cX4_isThing 0 = .ok (.iload_n 1, 1) := by decide +kernel
theorem dX4_isThing_1 : decode cX4_isThing 1 = .ok (.ifCond .lt 16, 3) := by decide +kernel
theorem dX4_isThing_4 : decode cX4_isThing 4 = .ok (.iload_n 1, 1) := by decide +kernel
theorem dX4_isThing_5 : decode cX4_isThing 5 = .ok (.aload_n 0, 1) := by decide +kernel
theorem dX4_isThing_6 : decode cX4_isThing 6 = .ok (.getfield 7, 3) := by decide +kernel
theorem dX4_isThing_9 : decode cX4_isThing 9 = .ok (.arraylength, 1) := by decide +kernel
theorem dX4_isThing_10 : decode cX4_isThing 10 = .ok (.if_icmp .ge 7, 3) := by decide +kernel
theorem dX4_isThing_13 : decode cX4_isThing 13 = .ok (.iconst 1, 1) := by decide +kernel
theorem dX4_isThing_14 : decode cX4_isThing 14 = .ok (.goto 4, 3) := by decide +kernel
theorem dX4_isThing_17 : decode cX4_isThing 17 = .ok (.iconst 0, 1) := by decide +kernel
theorem dX4_isThing_18 : decode cX4_isThing 18 = .ok (.ireturn, 1) := by decide +kernel
theorem dX4_rowOf_0 : decode cX4_rowOf 0 = .ok (.iload_n 1, 1) := by decide +kernel
theorem dX4_rowOf_1 : decode cX4_rowOf 1 = .ok (.ifCond .lt 21, 3) := by decide +kernel
theorem dX4_rowOf_4 : decode cX4_rowOf 4 = .ok (.iload_n 1, 1) := by decide +kernel
theorem dX4_rowOf_5 : decode cX4_rowOf 5 = .ok (.aload_n 0, 1) := by decide +kernel
theorem dX4_rowOf_6 : decode cX4_rowOf 6 = .ok (.getfield 7, 3) := by decide +kernel
theorem dX4_rowOf_9 : decode cX4_rowOf 9 = .ok (.arraylength, 1) := by decide +kernel
theorem dX4_rowOf_10 : decode cX4_rowOf 10 = .ok (.if_icmp .ge 12, 3) := by decide +kernel
theorem dX4_rowOf_13 : decode cX4_rowOf 13 = .ok (.aload_n 0, 1) := by decide +kernel
theorem dX4_rowOf_14 : decode cX4_rowOf 14 = .ok (.getfield 7, 3) := by decide +kernel
theorem dX4_rowOf_17 : decode cX4_rowOf 17 = .ok (.iload_n 1, 1) := by decide +kernel
theorem dX4_rowOf_18 : decode cX4_rowOf 18 = .ok (.laload, 1) := by decide +kernel
theorem dX4_rowOf_19 : decode cX4_rowOf 19 = .ok (.goto 4, 3) := by decide +kernel
theorem dX4_rowOf_22 : decode cX4_rowOf 22 = .ok (.lconst 0, 1) := by decide +kernel
theorem dX4_rowOf_23 : decode cX4_rowOf 23 = .ok (.lreturn, 1) := by decide +kernel
theorem dX4_columnOf_0 : decode cX4_columnOf 0 = .ok (.lconst 0, 1) := by decide +kernel
theorem dX4_columnOf_1 : decode cX4_columnOf 1 = .ok (.lstore_n 2, 1) := by decide +kernel
theorem dX4_columnOf_2 : decode cX4_columnOf 2 = .ok (.iconst 0, 1) := by decide +kernel
theorem dX4_columnOf_3 : decode cX4_columnOf 3 = .ok (.istore 4, 2) := by decide +kernel
theorem dX4_columnOf_5 : decode cX4_columnOf 5 = .ok (.iload 4, 2) := by decide +kernel
theorem dX4_columnOf_7 : decode cX4_columnOf 7 = .ok (.aload_n 0, 1) := by decide +kernel
theorem dX4_columnOf_8 : decode cX4_columnOf 8 = .ok (.getfield 7, 3) := by decide +kernel
theorem dX4_columnOf_11 : decode cX4_columnOf 11 = .ok (.arraylength, 1) := by decide +kernel
theorem dX4_columnOf_12 : decode cX4_columnOf 12 = .ok (.if_icmp .ge 30, 3) := by decide +kernel
theorem dX4_columnOf_15 : decode cX4_columnOf 15 = .ok (.aload_n 0, 1) := by decide +kernel
theorem dX4_columnOf_16 : decode cX4_columnOf 16 = .ok (.getfield 7, 3) := by decide +kernel
theorem dX4_columnOf_19 : decode cX4_columnOf 19 = .ok (.iload 4, 2) := by decide +kernel
theorem dX4_columnOf_21 : decode cX4_columnOf 21 = .ok (.laload, 1) := by decide +kernel
theorem dX4_columnOf_22 : decode cX4_columnOf 22 = .ok (.iload_n 1, 1) := by decide +kernel
theorem dX4_columnOf_23 : decode cX4_columnOf 23 = .ok (.invokestatic 16, 3) := by decide +kernel
theorem dX4_columnOf_26 : decode cX4_columnOf 26 = .ok (.ifCond .eq 10, 3) := by decide +kernel
theorem dX4_columnOf_29 : decode cX4_columnOf 29 = .ok (.lload_n 2, 1) := by decide +kernel
theorem dX4_columnOf_30 : decode cX4_columnOf 30 = .ok (.lconst 1, 1) := by decide +kernel
theorem dX4_columnOf_31 : decode cX4_columnOf 31 = .ok (.iload 4, 2) := by decide +kernel
theorem dX4_columnOf_33 : decode cX4_columnOf 33 = .ok (.lshl, 1) := by decide +kernel
theorem dX4_columnOf_34 : decode cX4_columnOf 34 = .ok (.lor, 1) := by decide +kernel
theorem dX4_columnOf_35 : decode cX4_columnOf 35 = .ok (.lstore_n 2, 1) := by decide +kernel
theorem dX4_columnOf_36 : decode cX4_columnOf 36 = .ok (.iinc 4 1, 3) := by decide +kernel
theorem dX4_columnOf_39 : decode cX4_columnOf 39 = .ok (.goto (-34), 3) := by decide +kernel
theorem dX4_columnOf_42 : decode cX4_columnOf 42 = .ok (.lload_n 2, 1) := by decide +kernel
theorem dX4_columnOf_43 : decode cX4_columnOf 43 = .ok (.lreturn, 1) := by decide +kernel
theorem dX4_joined_0 : decode cX4_joined 0 = .ok (.aload_n 0, 1) := by decide +kernel
theorem dX4_joined_1 : decode cX4_joined 1 = .ok (.iload_n 1, 1) := by decide +kernel
theorem dX4_joined_2 : decode cX4_joined 2 = .ok (.invokevirtual 22, 3) := by decide +kernel
theorem dX4_joined_5 : decode cX4_joined 5 = .ok (.iload_n 2, 1) := by decide +kernel
theorem dX4_joined_6 : decode cX4_joined 6 = .ok (.invokestatic 16, 3) := by decide +kernel
theorem dX4_joined_9 : decode cX4_joined 9 = .ok (.ireturn, 1) := by decide +kernel
theorem dX4_flip_0 : decode cX4_flip 0 = .ok (.aload_n 0, 1) := by decide +kernel
theorem dX4_flip_1 : decode cX4_flip 1 = .ok (.iload_n 1, 1) := by decide +kernel
theorem dX4_flip_2 : decode cX4_flip 2 = .ok (.invokevirtual 26, 3) := by decide +kernel
theorem dX4_flip_5 : decode cX4_flip 5 = .ok (.ifCond .eq 23, 3) := by decide +kernel
theorem dX4_flip_8 : decode cX4_flip 8 = .ok (.aload_n 0, 1) := by decide +kernel
theorem dX4_flip_9 : decode cX4_flip 9 = .ok (.iload_n 2, 1) := by decide +kernel
theorem dX4_flip_10 : decode cX4_flip 10 = .ok (.invokevirtual 26, 3) := by decide +kernel
theorem dX4_flip_13 : decode cX4_flip 13 = .ok (.ifCond .eq 15, 3) := by decide +kernel
theorem dX4_flip_16 : decode cX4_flip 16 = .ok (.aload_n 0, 1) := by decide +kernel
theorem dX4_flip_17 : decode cX4_flip 17 = .ok (.getfield 7, 3) := by decide +kernel
theorem dX4_flip_20 : decode cX4_flip 20 = .ok (.iload_n 1, 1) := by decide +kernel
theorem dX4_flip_21 : decode cX4_flip 21 = .ok (.dup2, 1) := by decide +kernel
theorem dX4_flip_22 : decode cX4_flip 22 = .ok (.laload, 1) := by decide +kernel
theorem dX4_flip_23 : decode cX4_flip 23 = .ok (.lconst 1, 1) := by decide +kernel
theorem dX4_flip_24 : decode cX4_flip 24 = .ok (.iload_n 2, 1) := by decide +kernel
theorem dX4_flip_25 : decode cX4_flip 25 = .ok (.lshl, 1) := by decide +kernel
theorem dX4_flip_26 : decode cX4_flip 26 = .ok (.lxor, 1) := by decide +kernel
theorem dX4_flip_27 : decode cX4_flip 27 = .ok (.lastore, 1) := by decide +kernel
theorem dX4_flip_28 : decode cX4_flip 28 = .ok (.return_, 1) := by decide +kernel
theorem dX4_takeAllOf_0 : decode cX4_takeAllOf 0 = .ok (.iconst 0, 1) := by decide +kernel
theorem dX4_takeAllOf_1 : decode cX4_takeAllOf 1 = .ok (.istore_n 2, 1) := by decide +kernel
theorem dX4_takeAllOf_2 : decode cX4_takeAllOf 2 = .ok (.iload_n 2, 1) := by decide +kernel
theorem dX4_takeAllOf_3 : decode cX4_takeAllOf 3 = .ok (.aload_n 0, 1) := by decide +kernel
theorem dX4_takeAllOf_4 : decode cX4_takeAllOf 4 = .ok (.getfield 7, 3) := by decide +kernel
theorem dX4_takeAllOf_7 : decode cX4_takeAllOf 7 = .ok (.arraylength, 1) := by decide +kernel
theorem dX4_takeAllOf_8 : decode cX4_takeAllOf 8 = .ok (.if_icmp .ge 20, 3) := by decide +kernel
theorem dX4_takeAllOf_11 : decode cX4_takeAllOf 11 = .ok (.aload_n 0, 1) := by decide +kernel
theorem dX4_takeAllOf_12 : decode cX4_takeAllOf 12 = .ok (.getfield 7, 3) := by decide +kernel
theorem dX4_takeAllOf_15 : decode cX4_takeAllOf 15 = .ok (.iload_n 2, 1) := by decide +kernel
theorem dX4_takeAllOf_16 : decode cX4_takeAllOf 16 = .ok (.aload_n 1, 1) := by decide +kernel
theorem dX4_takeAllOf_17 : decode cX4_takeAllOf 17 = .ok (.iload_n 2, 1) := by decide +kernel
theorem dX4_takeAllOf_18 : decode cX4_takeAllOf 18 = .ok (.invokevirtual 22, 3) := by decide +kernel
theorem dX4_takeAllOf_21 : decode cX4_takeAllOf 21 = .ok (.lastore, 1) := by decide +kernel
theorem dX4_takeAllOf_22 : decode cX4_takeAllOf 22 = .ok (.iinc 2 1, 3) := by decide +kernel
theorem dX4_takeAllOf_25 : decode cX4_takeAllOf 25 = .ok (.goto (-23), 3) := by decide +kernel
theorem dX4_takeAllOf_28 : decode cX4_takeAllOf 28 = .ok (.return_, 1) := by decide +kernel
theorem dX4_countAll_0 : decode cX4_countAll 0 = .ok (.iconst 0, 1) := by decide +kernel
theorem dX4_countAll_1 : decode cX4_countAll 1 = .ok (.istore_n 1, 1) := by decide +kernel
theorem dX4_countAll_2 : decode cX4_countAll 2 = .ok (.iconst 0, 1) := by decide +kernel
theorem dX4_countAll_3 : decode cX4_countAll 3 = .ok (.istore_n 2, 1) := by decide +kernel
theorem dX4_countAll_4 : decode cX4_countAll 4 = .ok (.iload_n 2, 1) := by decide +kernel
theorem dX4_countAll_5 : decode cX4_countAll 5 = .ok (.aload_n 0, 1) := by decide +kernel
theorem dX4_countAll_6 : decode cX4_countAll 6 = .ok (.getfield 7, 3) := by decide +kernel
theorem dX4_countAll_9 : decode cX4_countAll 9 = .ok (.arraylength, 1) := by decide +kernel
theorem dX4_countAll_10 : decode cX4_countAll 10 = .ok (.if_icmp .ge 21, 3) := by decide +kernel
theorem dX4_countAll_13 : decode cX4_countAll 13 = .ok (.iload_n 1, 1) := by decide +kernel
theorem dX4_countAll_14 : decode cX4_countAll 14 = .ok (.aload_n 0, 1) := by decide +kernel
theorem dX4_countAll_15 : decode cX4_countAll 15 = .ok (.getfield 7, 3) := by decide +kernel
theorem dX4_countAll_18 : decode cX4_countAll 18 = .ok (.iload_n 2, 1) := by decide +kernel
theorem dX4_countAll_19 : decode cX4_countAll 19 = .ok (.laload, 1) := by decide +kernel
theorem dX4_countAll_20 : decode cX4_countAll 20 = .ok (.invokestatic 30, 3) := by decide +kernel
theorem dX4_countAll_23 : decode cX4_countAll 23 = .ok (.iadd, 1) := by decide +kernel
theorem dX4_countAll_24 : decode cX4_countAll 24 = .ok (.istore_n 1, 1) := by decide +kernel
theorem dX4_countAll_25 : decode cX4_countAll 25 = .ok (.iinc 2 1, 3) := by decide +kernel
theorem dX4_countAll_28 : decode cX4_countAll 28 = .ok (.goto (-24), 3) := by decide +kernel
theorem dX4_countAll_31 : decode cX4_countAll 31 = .ok (.iload_n 1, 1) := by decide +kernel
theorem dX4_countAll_32 : decode cX4_countAll 32 = .ok (.ireturn, 1) := by decide +kernel
theorem dX4_countToLesser_0 : decode cX4_countToLesser 0 = .ok (.iconst 0, 1) := by decide +kernel
theorem dX4_countToLesser_1 : decode cX4_countToLesser 1 = .ok (.istore_n 1, 1) := by decide +kernel
theorem dX4_countToLesser_2 : decode cX4_countToLesser 2 = .ok (.iconst 0, 1) := by decide +kernel
theorem dX4_countToLesser_3 : decode cX4_countToLesser 3 = .ok (.istore_n 2, 1) := by decide +kernel
theorem dX4_countToLesser_4 : decode cX4_countToLesser 4 = .ok (.iload_n 2, 1) := by decide +kernel
theorem dX4_countToLesser_5 : decode cX4_countToLesser 5 = .ok (.aload_n 0, 1) := by decide +kernel
theorem dX4_countToLesser_6 : decode cX4_countToLesser 6 = .ok (.getfield 7, 3) := by decide +kernel
theorem dX4_countToLesser_9 : decode cX4_countToLesser 9 = .ok (.arraylength, 1) := by decide +kernel
theorem dX4_countToLesser_10 : decode cX4_countToLesser 10 = .ok (.if_icmp .ge 27, 3) := by decide +kernel
theorem dX4_countToLesser_13 : decode cX4_countToLesser 13 = .ok (.iload_n 1, 1) := by decide +kernel
theorem dX4_countToLesser_14 : decode cX4_countToLesser 14 = .ok (.aload_n 0, 1) := by decide +kernel
theorem dX4_countToLesser_15 : decode cX4_countToLesser 15 = .ok (.getfield 7, 3) := by decide +kernel
theorem dX4_countToLesser_18 : decode cX4_countToLesser 18 = .ok (.iload_n 2, 1) := by decide +kernel
theorem dX4_countToLesser_19 : decode cX4_countToLesser 19 = .ok (.laload, 1) := by decide +kernel
theorem dX4_countToLesser_20 : decode cX4_countToLesser 20 = .ok (.lconst 1, 1) := by decide +kernel
theorem dX4_countToLesser_21 : decode cX4_countToLesser 21 = .ok (.iload_n 2, 1) := by decide +kernel
theorem dX4_countToLesser_22 : decode cX4_countToLesser 22 = .ok (.lshl, 1) := by decide +kernel
theorem dX4_countToLesser_23 : decode cX4_countToLesser 23 = .ok (.lconst 1, 1) := by decide +kernel
theorem dX4_countToLesser_24 : decode cX4_countToLesser 24 = .ok (.lsub, 1) := by decide +kernel
theorem dX4_countToLesser_25 : decode cX4_countToLesser 25 = .ok (.land, 1) := by decide +kernel
theorem dX4_countToLesser_26 : decode cX4_countToLesser 26 = .ok (.invokestatic 30, 3) := by decide +kernel
theorem dX4_countToLesser_29 : decode cX4_countToLesser 29 = .ok (.iadd, 1) := by decide +kernel
theorem dX4_countToLesser_30 : decode cX4_countToLesser 30 = .ok (.istore_n 1, 1) := by decide +kernel
theorem dX4_countToLesser_31 : decode cX4_countToLesser 31 = .ok (.iinc 2 1, 3) := by decide +kernel
theorem dX4_countToLesser_34 : decode cX4_countToLesser 34 = .ok (.goto (-30), 3) := by decide +kernel
theorem dX4_countToLesser_37 : decode cX4_countToLesser 37 = .ok (.iload_n 1, 1) := by decide +kernel
theorem dX4_countToLesser_38 : decode cX4_countToLesser 38 = .ok (.ireturn, 1) := by decide +kernel
theorem dX4_countOther_0 : decode cX4_countOther 0 = .ok (.iconst 0, 1) := by decide +kernel
theorem dX4_countOther_1 : decode cX4_countOther 1 = .ok (.istore_n 2, 1) := by decide +kernel
theorem dX4_countOther_2 : decode cX4_countOther 2 = .ok (.iconst 0, 1) := by decide +kernel
theorem dX4_countOther_3 : decode cX4_countOther 3 = .ok (.istore_n 3, 1) := by decide +kernel
theorem dX4_countOther_4 : decode cX4_countOther 4 = .ok (.iload_n 3, 1) := by decide +kernel
theorem dX4_countOther_5 : decode cX4_countOther 5 = .ok (.aload_n 0, 1) := by decide +kernel
theorem dX4_countOther_6 : decode cX4_countOther 6 = .ok (.getfield 7, 3) := by decide +kernel
theorem dX4_countOther_9 : decode cX4_countOther 9 = .ok (.arraylength, 1) := by decide +kernel
theorem dX4_countOther_10 : decode cX4_countOther 10 = .ok (.if_icmp .ge 27, 3) := by decide +kernel
theorem dX4_countOther_13 : decode cX4_countOther 13 = .ok (.iload_n 2, 1) := by decide +kernel
theorem dX4_countOther_14 : decode cX4_countOther 14 = .ok (.aload_n 0, 1) := by decide +kernel
theorem dX4_countOther_15 : decode cX4_countOther 15 = .ok (.getfield 7, 3) := by decide +kernel
theorem dX4_countOther_18 : decode cX4_countOther 18 = .ok (.iload_n 3, 1) := by decide +kernel
theorem dX4_countOther_19 : decode cX4_countOther 19 = .ok (.laload, 1) := by decide +kernel
theorem dX4_countOther_20 : decode cX4_countOther 20 = .ok (.aload_n 1, 1) := by decide +kernel
theorem dX4_countOther_21 : decode cX4_countOther 21 = .ok (.iload_n 3, 1) := by decide +kernel
theorem dX4_countOther_22 : decode cX4_countOther 22 = .ok (.invokevirtual 22, 3) := by decide +kernel
theorem dX4_countOther_25 : decode cX4_countOther 25 = .ok (.lxor, 1) := by decide +kernel
theorem dX4_countOther_26 : decode cX4_countOther 26 = .ok (.invokestatic 30, 3) := by decide +kernel
theorem dX4_countOther_29 : decode cX4_countOther 29 = .ok (.iadd, 1) := by decide +kernel
theorem dX4_countOther_30 : decode cX4_countOther 30 = .ok (.istore_n 2, 1) := by decide +kernel
theorem dX4_countOther_31 : decode cX4_countOther 31 = .ok (.iinc 3 1, 3) := by decide +kernel
theorem dX4_countOther_34 : decode cX4_countOther 34 = .ok (.goto (-30), 3) := by decide +kernel
theorem dX4_countOther_37 : decode cX4_countOther 37 = .ok (.iload_n 2, 1) := by decide +kernel
theorem dX4_countOther_38 : decode cX4_countOther 38 = .ok (.ireturn, 1) := by decide +kernel
theorem dX4_renumberBy_0 : decode cX4_renumberBy 0 = .ok (.iconst 0, 1) := by decide +kernel
theorem dX4_renumberBy_1 : decode cX4_renumberBy 1 = .ok (.istore_n 2, 1) := by decide +kernel
theorem dX4_renumberBy_2 : decode cX4_renumberBy 2 = .ok (.iload_n 2, 1) := by decide +kernel
theorem dX4_renumberBy_3 : decode cX4_renumberBy 3 = .ok (.aload_n 0, 1) := by decide +kernel
theorem dX4_renumberBy_4 : decode cX4_renumberBy 4 = .ok (.getfield 13, 3) := by decide +kernel
theorem dX4_renumberBy_7 : decode cX4_renumberBy 7 = .ok (.arraylength, 1) := by decide +kernel
theorem dX4_renumberBy_8 : decode cX4_renumberBy 8 = .ok (.if_icmp .ge 71, 3) := by decide +kernel
theorem dX4_renumberBy_11 : decode cX4_renumberBy 11 = .ok (.aload_n 0, 1) := by decide +kernel
theorem dX4_renumberBy_12 : decode cX4_renumberBy 12 = .ok (.aload_n 1, 1) := by decide +kernel
theorem dX4_renumberBy_13 : decode cX4_renumberBy 13 = .ok (.iload_n 2, 1) := by decide +kernel
theorem dX4_renumberBy_14 : decode cX4_renumberBy 14 = .ok (.invokevirtual 36, 3) := by decide +kernel
theorem dX4_renumberBy_17 : decode cX4_renumberBy 17 = .ok (.invokevirtual 22, 3) := by decide +kernel
theorem dX4_renumberBy_20 : decode cX4_renumberBy 20 = .ok (.lstore_n 3, 1) := by decide +kernel
theorem dX4_renumberBy_21 : decode cX4_renumberBy 21 = .ok (.lconst 0, 1) := by decide +kernel
theorem dX4_renumberBy_22 : decode cX4_renumberBy 22 = .ok (.lstore 5, 2) := by decide +kernel
theorem dX4_renumberBy_24 : decode cX4_renumberBy 24 = .ok (.iconst 0, 1) := by decide +kernel
theorem dX4_renumberBy_25 : decode cX4_renumberBy 25 = .ok (.istore 7, 2) := by decide +kernel
theorem dX4_renumberBy_27 : decode cX4_renumberBy 27 = .ok (.iload 7, 2) := by decide +kernel
theorem dX4_renumberBy_29 : decode cX4_renumberBy 29 = .ok (.aload_n 0, 1) := by decide +kernel
theorem dX4_renumberBy_30 : decode cX4_renumberBy 30 = .ok (.getfield 13, 3) := by decide +kernel
theorem dX4_renumberBy_33 : decode cX4_renumberBy 33 = .ok (.arraylength, 1) := by decide +kernel
theorem dX4_renumberBy_34 : decode cX4_renumberBy 34 = .ok (.if_icmp .ge 31, 3) := by decide +kernel
theorem dX4_renumberBy_37 : decode cX4_renumberBy 37 = .ok (.lload_n 3, 1) := by decide +kernel
theorem dX4_renumberBy_38 : decode cX4_renumberBy 38 = .ok (.aload_n 1, 1) := by decide +kernel
theorem dX4_renumberBy_39 : decode cX4_renumberBy 39 = .ok (.iload 7, 2) := by decide +kernel
theorem dX4_renumberBy_41 : decode cX4_renumberBy 41 = .ok (.invokevirtual 36, 3) := by decide +kernel
theorem dX4_renumberBy_44 : decode cX4_renumberBy 44 = .ok (.invokestatic 16, 3) := by decide +kernel
theorem dX4_renumberBy_47 : decode cX4_renumberBy 47 = .ok (.ifCond .eq 12, 3) := by decide +kernel
theorem dX4_renumberBy_50 : decode cX4_renumberBy 50 = .ok (.lload 5, 2) := by decide +kernel
theorem dX4_renumberBy_52 : decode cX4_renumberBy 52 = .ok (.lconst 1, 1) := by decide +kernel
theorem dX4_renumberBy_53 : decode cX4_renumberBy 53 = .ok (.iload 7, 2) := by decide +kernel
theorem dX4_renumberBy_55 : decode cX4_renumberBy 55 = .ok (.lshl, 1) := by decide +kernel
theorem dX4_renumberBy_56 : decode cX4_renumberBy 56 = .ok (.lor, 1) := by decide +kernel
theorem dX4_renumberBy_57 : decode cX4_renumberBy 57 = .ok (.lstore 5, 2) := by decide +kernel
theorem dX4_renumberBy_59 : decode cX4_renumberBy 59 = .ok (.iinc 7 1, 3) := by decide +kernel
theorem dX4_renumberBy_62 : decode cX4_renumberBy 62 = .ok (.goto (-35), 3) := by decide +kernel
theorem dX4_renumberBy_65 : decode cX4_renumberBy 65 = .ok (.aload_n 0, 1) := by decide +kernel
theorem dX4_renumberBy_66 : decode cX4_renumberBy 66 = .ok (.getfield 13, 3) := by decide +kernel
theorem dX4_renumberBy_69 : decode cX4_renumberBy 69 = .ok (.iload_n 2, 1) := by decide +kernel
theorem dX4_renumberBy_70 : decode cX4_renumberBy 70 = .ok (.lload 5, 2) := by decide +kernel
theorem dX4_renumberBy_72 : decode cX4_renumberBy 72 = .ok (.lastore, 1) := by decide +kernel
theorem dX4_renumberBy_73 : decode cX4_renumberBy 73 = .ok (.iinc 2 1, 3) := by decide +kernel
theorem dX4_renumberBy_76 : decode cX4_renumberBy 76 = .ok (.goto (-74), 3) := by decide +kernel
theorem dX4_renumberBy_79 : decode cX4_renumberBy 79 = .ok (.iconst 0, 1) := by decide +kernel
theorem dX4_renumberBy_80 : decode cX4_renumberBy 80 = .ok (.istore_n 2, 1) := by decide +kernel
theorem dX4_renumberBy_81 : decode cX4_renumberBy 81 = .ok (.iload_n 2, 1) := by decide +kernel
theorem dX4_renumberBy_82 : decode cX4_renumberBy 82 = .ok (.aload_n 0, 1) := by decide +kernel
theorem dX4_renumberBy_83 : decode cX4_renumberBy 83 = .ok (.getfield 7, 3) := by decide +kernel
theorem dX4_renumberBy_86 : decode cX4_renumberBy 86 = .ok (.arraylength, 1) := by decide +kernel
theorem dX4_renumberBy_87 : decode cX4_renumberBy 87 = .ok (.if_icmp .ge 30, 3) := by decide +kernel
theorem dX4_renumberBy_90 : decode cX4_renumberBy 90 = .ok (.iload_n 2, 1) := by decide +kernel
theorem dX4_renumberBy_91 : decode cX4_renumberBy 91 = .ok (.aload_n 0, 1) := by decide +kernel
theorem dX4_renumberBy_92 : decode cX4_renumberBy 92 = .ok (.getfield 13, 3) := by decide +kernel
theorem dX4_renumberBy_95 : decode cX4_renumberBy 95 = .ok (.arraylength, 1) := by decide +kernel
theorem dX4_renumberBy_96 : decode cX4_renumberBy 96 = .ok (.if_icmp .ge 21, 3) := by decide +kernel
theorem dX4_renumberBy_99 : decode cX4_renumberBy 99 = .ok (.aload_n 0, 1) := by decide +kernel
theorem dX4_renumberBy_100 : decode cX4_renumberBy 100 = .ok (.getfield 7, 3) := by decide +kernel
theorem dX4_renumberBy_103 : decode cX4_renumberBy 103 = .ok (.iload_n 2, 1) := by decide +kernel
theorem dX4_renumberBy_104 : decode cX4_renumberBy 104 = .ok (.aload_n 0, 1) := by decide +kernel
theorem dX4_renumberBy_105 : decode cX4_renumberBy 105 = .ok (.getfield 13, 3) := by decide +kernel
theorem dX4_renumberBy_108 : decode cX4_renumberBy 108 = .ok (.iload_n 2, 1) := by decide +kernel
theorem dX4_renumberBy_109 : decode cX4_renumberBy 109 = .ok (.laload, 1) := by decide +kernel
theorem dX4_renumberBy_110 : decode cX4_renumberBy 110 = .ok (.lastore, 1) := by decide +kernel
theorem dX4_renumberBy_111 : decode cX4_renumberBy 111 = .ok (.iinc 2 1, 3) := by decide +kernel
theorem dX4_renumberBy_114 : decode cX4_renumberBy 114 = .ok (.goto (-33), 3) := by decide +kernel
theorem dX4_renumberBy_117 : decode cX4_renumberBy 117 = .ok (.return_, 1) := by decide +kernel
theorem dX5_init_0 : decode cX5_init 0 = .ok (.aload_n 0, 1) := by decide +kernel
theorem dX5_init_1 : decode cX5_init 1 = .ok (.invokespecial 1, 3) := by decide +kernel
theorem dX5_init_4 : decode cX5_init 4 = .ok (.aload_n 0, 1) := by decide +kernel
theorem dX5_init_5 : decode cX5_init 5 = .ok (.bipush 8, 2) := by decide +kernel
theorem dX5_init_7 : decode cX5_init 7 = .ok (.newarray .int, 2) := by decide +kernel
theorem dX5_init_9 : decode cX5_init 9 = .ok (.dup, 1) := by decide +kernel
theorem dX5_init_10 : decode cX5_init 10 = .ok (.iconst 0, 1) := by decide +kernel
theorem dX5_init_11 : decode cX5_init 11 = .ok (.iconst 1, 1) := by decide +kernel
theorem dX5_init_12 : decode cX5_init 12 = .ok (.iastore, 1) := by decide +kernel
theorem dX5_init_13 : decode cX5_init 13 = .ok (.dup, 1) := by decide +kernel
theorem dX5_init_14 : decode cX5_init 14 = .ok (.iconst 1, 1) := by decide +kernel
theorem dX5_init_15 : decode cX5_init 15 = .ok (.iconst 1, 1) := by decide +kernel
theorem dX5_init_16 : decode cX5_init 16 = .ok (.iastore, 1) := by decide +kernel
theorem dX5_init_17 : decode cX5_init 17 = .ok (.dup, 1) := by decide +kernel
theorem dX5_init_18 : decode cX5_init 18 = .ok (.iconst 2, 1) := by decide +kernel
theorem dX5_init_19 : decode cX5_init 19 = .ok (.iconst 1, 1) := by decide +kernel
theorem dX5_init_20 : decode cX5_init 20 = .ok (.iastore, 1) := by decide +kernel
theorem dX5_init_21 : decode cX5_init 21 = .ok (.dup, 1) := by decide +kernel
theorem dX5_init_22 : decode cX5_init 22 = .ok (.iconst 3, 1) := by decide +kernel
theorem dX5_init_23 : decode cX5_init 23 = .ok (.iconst 1, 1) := by decide +kernel
theorem dX5_init_24 : decode cX5_init 24 = .ok (.iastore, 1) := by decide +kernel
theorem dX5_init_25 : decode cX5_init 25 = .ok (.dup, 1) := by decide +kernel
theorem dX5_init_26 : decode cX5_init 26 = .ok (.iconst 4, 1) := by decide +kernel
theorem dX5_init_27 : decode cX5_init 27 = .ok (.iconst 1, 1) := by decide +kernel
theorem dX5_init_28 : decode cX5_init 28 = .ok (.iastore, 1) := by decide +kernel
theorem dX5_init_29 : decode cX5_init 29 = .ok (.dup, 1) := by decide +kernel
theorem dX5_init_30 : decode cX5_init 30 = .ok (.iconst 5, 1) := by decide +kernel
theorem dX5_init_31 : decode cX5_init 31 = .ok (.iconst 1, 1) := by decide +kernel
theorem dX5_init_32 : decode cX5_init 32 = .ok (.iastore, 1) := by decide +kernel
theorem dX5_init_33 : decode cX5_init 33 = .ok (.dup, 1) := by decide +kernel
theorem dX5_init_34 : decode cX5_init 34 = .ok (.bipush 6, 2) := by decide +kernel
theorem dX5_init_36 : decode cX5_init 36 = .ok (.iconst 1, 1) := by decide +kernel
theorem dX5_init_37 : decode cX5_init 37 = .ok (.iastore, 1) := by decide +kernel
theorem dX5_init_38 : decode cX5_init 38 = .ok (.dup, 1) := by decide +kernel
theorem dX5_init_39 : decode cX5_init 39 = .ok (.bipush 7, 2) := by decide +kernel
theorem dX5_init_41 : decode cX5_init 41 = .ok (.iconst 1, 1) := by decide +kernel
theorem dX5_init_42 : decode cX5_init 42 = .ok (.iastore, 1) := by decide +kernel
theorem dX5_init_43 : decode cX5_init 43 = .ok (.putfield 7, 3) := by decide +kernel
theorem dX5_init_46 : decode cX5_init 46 = .ok (.aload_n 0, 1) := by decide +kernel
theorem dX5_init_47 : decode cX5_init 47 = .ok (.iconst 3, 1) := by decide +kernel
theorem dX5_init_48 : decode cX5_init 48 = .ok (.newarray .int, 2) := by decide +kernel
theorem dX5_init_50 : decode cX5_init 50 = .ok (.dup, 1) := by decide +kernel
theorem dX5_init_51 : decode cX5_init 51 = .ok (.iconst 0, 1) := by decide +kernel
theorem dX5_init_52 : decode cX5_init 52 = .ok (.iconst 3, 1) := by decide +kernel
theorem dX5_init_53 : decode cX5_init 53 = .ok (.iastore, 1) := by decide +kernel
theorem dX5_init_54 : decode cX5_init 54 = .ok (.dup, 1) := by decide +kernel
theorem dX5_init_55 : decode cX5_init 55 = .ok (.iconst 1, 1) := by decide +kernel
theorem dX5_init_56 : decode cX5_init 56 = .ok (.iconst 2, 1) := by decide +kernel
theorem dX5_init_57 : decode cX5_init 57 = .ok (.iastore, 1) := by decide +kernel
theorem dX5_init_58 : decode cX5_init 58 = .ok (.dup, 1) := by decide +kernel
theorem dX5_init_59 : decode cX5_init 59 = .ok (.iconst 2, 1) := by decide +kernel
theorem dX5_init_60 : decode cX5_init 60 = .ok (.iconst 4, 1) := by decide +kernel
theorem dX5_init_61 : decode cX5_init 61 = .ok (.iastore, 1) := by decide +kernel
theorem dX5_init_62 : decode cX5_init 62 = .ok (.putfield 13, 3) := by decide +kernel
theorem dX5_init_65 : decode cX5_init 65 = .ok (.return_, 1) := by decide +kernel
theorem dX5_formOf_0 : decode cX5_formOf 0 = .ok (.aload_n 0, 1) := by decide +kernel
theorem dX5_formOf_1 : decode cX5_formOf 1 = .ok (.getfield 7, 3) := by decide +kernel
theorem dX5_formOf_4 : decode cX5_formOf 4 = .ok (.iload_n 1, 1) := by decide +kernel
theorem dX5_formOf_5 : decode cX5_formOf 5 = .ok (.invokestatic 16, 3) := by decide +kernel
theorem dX5_formOf_8 : decode cX5_formOf 8 = .ok (.ireturn, 1) := by decide +kernel
theorem dX5_setForm_0 : decode cX5_setForm 0 = .ok (.iload_n 1, 1) := by decide +kernel
theorem dX5_setForm_1 : decode cX5_setForm 1 = .ok (.ifCond .lt 19, 3) := by decide +kernel
theorem dX5_setForm_4 : decode cX5_setForm 4 = .ok (.iload_n 1, 1) := by decide +kernel
theorem dX5_setForm_5 : decode cX5_setForm 5 = .ok (.aload_n 0, 1) := by decide +kernel
theorem dX5_setForm_6 : decode cX5_setForm 6 = .ok (.getfield 7, 3) := by decide +kernel
theorem dX5_setForm_9 : decode cX5_setForm 9 = .ok (.arraylength, 1) := by decide +kernel
theorem dX5_setForm_10 : decode cX5_setForm 10 = .ok (.if_icmp .ge 10, 3) := by decide +kernel
theorem dX5_setForm_13 : decode cX5_setForm 13 = .ok (.aload_n 0, 1) := by decide +kernel
theorem dX5_setForm_14 : decode cX5_setForm 14 = .ok (.getfield 7, 3) := by decide +kernel
theorem dX5_setForm_17 : decode cX5_setForm 17 = .ok (.iload_n 1, 1) := by decide +kernel
theorem dX5_setForm_18 : decode cX5_setForm 18 = .ok (.iload_n 2, 1) := by decide +kernel
theorem dX5_setForm_19 : decode cX5_setForm 19 = .ok (.iastore, 1) := by decide +kernel
theorem dX5_setForm_20 : decode cX5_setForm 20 = .ok (.return_, 1) := by decide +kernel
theorem dX5_allows_0 : decode cX5_allows 0 = .ok (.iload_n 1, 1) := by decide +kernel
theorem dX5_allows_1 : decode cX5_allows 1 = .ok (.aload_n 0, 1) := by decide +kernel
theorem dX5_allows_2 : decode cX5_allows 2 = .ok (.getfield 13, 3) := by decide +kernel
theorem dX5_allows_5 : decode cX5_allows 5 = .ok (.arraylength, 1) := by decide +kernel
theorem dX5_allows_6 : decode cX5_allows 6 = .ok (.invokestatic 22, 3) := by decide +kernel
theorem dX5_allows_9 : decode cX5_allows 9 = .ok (.ifCond .eq 29, 3) := by decide +kernel
theorem dX5_allows_12 : decode cX5_allows 12 = .ok (.iload_n 2, 1) := by decide +kernel
theorem dX5_allows_13 : decode cX5_allows 13 = .ok (.getstatic 26, 3) := by decide +kernel
theorem dX5_allows_16 : decode cX5_allows 16 = .ok (.iload_n 1, 1) := by decide +kernel
theorem dX5_allows_17 : decode cX5_allows 17 = .ok (.invokestatic 16, 3) := by decide +kernel
theorem dX5_allows_20 : decode cX5_allows 20 = .ok (.if_icmp .lt 18, 3) := by decide +kernel
theorem dX5_allows_23 : decode cX5_allows 23 = .ok (.iload_n 2, 1) := by decide +kernel
theorem dX5_allows_24 : decode cX5_allows 24 = .ok (.getstatic 29, 3) := by decide +kernel
theorem dX5_allows_27 : decode cX5_allows 27 = .ok (.iload_n 1, 1) := by decide +kernel
theorem dX5_allows_28 : decode cX5_allows 28 = .ok (.invokestatic 16, 3) := by decide +kernel
theorem dX5_allows_31 : decode cX5_allows 31 = .ok (.if_icmp .gt 7, 3) := by decide +kernel
theorem dX5_allows_34 : decode cX5_allows 34 = .ok (.iconst 1, 1) := by decide +kernel
theorem dX5_allows_35 : decode cX5_allows 35 = .ok (.goto 4, 3) := by decide +kernel
theorem dX5_allows_38 : decode cX5_allows 38 = .ok (.iconst 0, 1) := by decide +kernel
theorem dX5_allows_39 : decode cX5_allows 39 = .ok (.ireturn, 1) := by decide +kernel
theorem dX5_valueOf_0 : decode cX5_valueOf 0 = .ok (.aload_n 0, 1) := by decide +kernel
theorem dX5_valueOf_1 : decode cX5_valueOf 1 = .ok (.getfield 13, 3) := by decide +kernel
theorem dX5_valueOf_4 : decode cX5_valueOf 4 = .ok (.iload_n 1, 1) := by decide +kernel
theorem dX5_valueOf_5 : decode cX5_valueOf 5 = .ok (.invokestatic 16, 3) := by decide +kernel
theorem dX5_valueOf_8 : decode cX5_valueOf 8 = .ok (.ireturn, 1) := by decide +kernel
theorem dX5_setValue_0 : decode cX5_setValue 0 = .ok (.iload_n 1, 1) := by decide +kernel
theorem dX5_setValue_1 : decode cX5_setValue 1 = .ok (.ifCond .lt 19, 3) := by decide +kernel
theorem dX5_setValue_4 : decode cX5_setValue 4 = .ok (.iload_n 1, 1) := by decide +kernel
theorem dX5_setValue_5 : decode cX5_setValue 5 = .ok (.aload_n 0, 1) := by decide +kernel
theorem dX5_setValue_6 : decode cX5_setValue 6 = .ok (.getfield 13, 3) := by decide +kernel
theorem dX5_setValue_9 : decode cX5_setValue 9 = .ok (.arraylength, 1) := by decide +kernel
theorem dX5_setValue_10 : decode cX5_setValue 10 = .ok (.if_icmp .ge 10, 3) := by decide +kernel
theorem dX5_setValue_13 : decode cX5_setValue 13 = .ok (.aload_n 0, 1) := by decide +kernel
theorem dX5_setValue_14 : decode cX5_setValue 14 = .ok (.getfield 13, 3) := by decide +kernel
theorem dX5_setValue_17 : decode cX5_setValue 17 = .ok (.iload_n 1, 1) := by decide +kernel
theorem dX5_setValue_18 : decode cX5_setValue 18 = .ok (.iload_n 2, 1) := by decide +kernel
theorem dX5_setValue_19 : decode cX5_setValue 19 = .ok (.iastore, 1) := by decide +kernel
theorem dX5_setValue_20 : decode cX5_setValue 20 = .ok (.return_, 1) := by decide +kernel
theorem dX6_init_0 : decode cX6_init 0 = .ok (.aload_n 0, 1) := by decide +kernel
theorem dX6_init_1 : decode cX6_init 1 = .ok (.invokespecial 3, 3) := by decide +kernel
theorem dX6_init_4 : decode cX6_init 4 = .ok (.aload_n 0, 1) := by decide +kernel
theorem dX6_init_5 : decode cX6_init 5 = .ok (.sipush 160, 3) := by decide +kernel
theorem dX6_init_8 : decode cX6_init 8 = .ok (.newarray .int, 2) := by decide +kernel
theorem dX6_init_10 : decode cX6_init 10 = .ok (.putfield 11, 3) := by decide +kernel
theorem dX6_init_13 : decode cX6_init 13 = .ok (.aload_n 0, 1) := by decide +kernel
theorem dX6_init_14 : decode cX6_init 14 = .ok (.sipush 160, 3) := by decide +kernel
theorem dX6_init_17 : decode cX6_init 17 = .ok (.newarray .int, 2) := by decide +kernel
theorem dX6_init_19 : decode cX6_init 19 = .ok (.putfield 15, 3) := by decide +kernel
theorem dX6_init_22 : decode cX6_init 22 = .ok (.aload_n 0, 1) := by decide +kernel
theorem dX6_init_23 : decode cX6_init 23 = .ok (.iconst 0, 1) := by decide +kernel
theorem dX6_init_24 : decode cX6_init 24 = .ok (.putfield 18, 3) := by decide +kernel
theorem dX6_init_27 : decode cX6_init 27 = .ok (.return_, 1) := by decide +kernel
theorem dX6_size_0 : decode cX6_size 0 = .ok (.aload_n 0, 1) := by decide +kernel
theorem dX6_size_1 : decode cX6_size 1 = .ok (.getfield 18, 3) := by decide +kernel
theorem dX6_size_4 : decode cX6_size 4 = .ok (.ireturn, 1) := by decide +kernel
theorem dX6_useAt_0 : decode cX6_useAt 0 = .ok (.aload_n 0, 1) := by decide +kernel
theorem dX6_useAt_1 : decode cX6_useAt 1 = .ok (.getfield 11, 3) := by decide +kernel
theorem dX6_useAt_4 : decode cX6_useAt 4 = .ok (.iload_n 1, 1) := by decide +kernel
theorem dX6_useAt_5 : decode cX6_useAt 5 = .ok (.invokestatic 22, 3) := by decide +kernel
theorem dX6_useAt_8 : decode cX6_useAt 8 = .ok (.ireturn, 1) := by decide +kernel
theorem dX6_numberAt_0 : decode cX6_numberAt 0 = .ok (.aload_n 0, 1) := by decide +kernel
theorem dX6_numberAt_1 : decode cX6_numberAt 1 = .ok (.getfield 15, 3) := by decide +kernel
theorem dX6_numberAt_4 : decode cX6_numberAt 4 = .ok (.iload_n 1, 1) := by decide +kernel
theorem dX6_numberAt_5 : decode cX6_numberAt 5 = .ok (.invokestatic 22, 3) := by decide +kernel
theorem dX6_numberAt_8 : decode cX6_numberAt 8 = .ok (.ireturn, 1) := by decide +kernel
theorem dX6_tell_0 : decode cX6_tell 0 = .ok (.aload_n 1, 1) := by decide +kernel
theorem dX6_tell_1 : decode cX6_tell 1 = .ok (.iload_n 2, 1) := by decide +kernel
theorem dX6_tell_2 : decode cX6_tell 2 = .ok (.invokevirtual 26, 3) := by decide +kernel
theorem dX6_tell_5 : decode cX6_tell 5 = .ok (.lstore 5, 2) := by decide +kernel
theorem dX6_tell_7 : decode cX6_tell 7 = .ok (.aload_n 0, 1) := by decide +kernel
theorem dX6_tell_8 : decode cX6_tell 8 = .ok (.iconst 0, 1) := by decide +kernel
theorem dX6_tell_9 : decode cX6_tell 9 = .ok (.putfield 18, 3) := by decide +kernel
theorem dX6_tell_12 : decode cX6_tell 12 = .ok (.aload_n 0, 1) := by decide +kernel
theorem dX6_tell_13 : decode cX6_tell 13 = .ok (.iconst 0, 1) := by decide +kernel
theorem dX6_tell_14 : decode cX6_tell 14 = .ok (.iload_n 3, 1) := by decide +kernel
theorem dX6_tell_15 : decode cX6_tell 15 = .ok (.invokevirtual 32, 3) := by decide +kernel
theorem dX6_tell_18 : decode cX6_tell 18 = .ok (.iload_n 3, 1) := by decide +kernel
theorem dX6_tell_19 : decode cX6_tell 19 = .ok (.tableswitch 153 0 4 #[33, 42, 56, 104, 133], 33) := by decide +kernel
theorem dX6_tell_52 : decode cX6_tell 52 = .ok (.aload_n 0, 1) := by decide +kernel
theorem dX6_tell_53 : decode cX6_tell 53 = .ok (.iload_n 2, 1) := by decide +kernel
theorem dX6_tell_54 : decode cX6_tell 54 = .ok (.lload 5, 2) := by decide +kernel
theorem dX6_tell_56 : decode cX6_tell 56 = .ok (.invokevirtual 36, 3) := by decide +kernel
theorem dX6_tell_59 : decode cX6_tell 59 = .ok (.iconst 1, 1) := by decide +kernel
theorem dX6_tell_60 : decode cX6_tell 60 = .ok (.ireturn, 1) := by decide +kernel
theorem dX6_tell_61 : decode cX6_tell 61 = .ok (.aload_n 0, 1) := by decide +kernel
theorem dX6_tell_62 : decode cX6_tell 62 = .ok (.iload_n 2, 1) := by decide +kernel
theorem dX6_tell_63 : decode cX6_tell 63 = .ok (.aload_n 0, 1) := by decide +kernel
theorem dX6_tell_64 : decode cX6_tell 64 = .ok (.iload_n 2, 1) := by decide +kernel
theorem dX6_tell_65 : decode cX6_tell 65 = .ok (.lload 5, 2) := by decide +kernel
theorem dX6_tell_67 : decode cX6_tell 67 = .ok (.invokevirtual 40, 3) := by decide +kernel
theorem dX6_tell_70 : decode cX6_tell 70 = .ok (.invokevirtual 36, 3) := by decide +kernel
theorem dX6_tell_73 : decode cX6_tell 73 = .ok (.iconst 1, 1) := by decide +kernel
theorem dX6_tell_74 : decode cX6_tell 74 = .ok (.ireturn, 1) := by decide +kernel
theorem dX6_tell_75 : decode cX6_tell 75 = .ok (.aload_n 1, 1) := by decide +kernel
theorem dX6_tell_76 : decode cX6_tell 76 = .ok (.iload_n 2, 1) := by decide +kernel
theorem dX6_tell_77 : decode cX6_tell 77 = .ok (.iload 4, 2) := by decide +kernel
theorem dX6_tell_79 : decode cX6_tell 79 = .ok (.isub, 1) := by decide +kernel
theorem dX6_tell_80 : decode cX6_tell 80 = .ok (.invokevirtual 26, 3) := by decide +kernel
theorem dX6_tell_83 : decode cX6_tell 83 = .ok (.lstore 7, 2) := by decide +kernel
theorem dX6_tell_85 : decode cX6_tell 85 = .ok (.aload_n 0, 1) := by decide +kernel
theorem dX6_tell_86 : decode cX6_tell 86 = .ok (.iconst 4, 1) := by decide +kernel
theorem dX6_tell_87 : decode cX6_tell 87 = .ok (.iload 4, 2) := by decide +kernel
theorem dX6_tell_89 : decode cX6_tell 89 = .ok (.iconst 1, 1) := by decide +kernel
theorem dX6_tell_90 : decode cX6_tell 90 = .ok (.isub, 1) := by decide +kernel
theorem dX6_tell_91 : decode cX6_tell 91 = .ok (.invokevirtual 32, 3) := by decide +kernel
theorem dX6_tell_94 : decode cX6_tell 94 = .ok (.aload_n 0, 1) := by decide +kernel
theorem dX6_tell_95 : decode cX6_tell 95 = .ok (.lload 5, 2) := by decide +kernel
theorem dX6_tell_97 : decode cX6_tell 97 = .ok (.lload 7, 2) := by decide +kernel
theorem dX6_tell_99 : decode cX6_tell 99 = .ok (.invokevirtual 44, 3) := by decide +kernel
theorem dX6_tell_102 : decode cX6_tell 102 = .ok (.aload_n 0, 1) := by decide +kernel
theorem dX6_tell_103 : decode cX6_tell 103 = .ok (.iload_n 2, 1) := by decide +kernel
theorem dX6_tell_104 : decode cX6_tell 104 = .ok (.aload_n 0, 1) := by decide +kernel
theorem dX6_tell_105 : decode cX6_tell 105 = .ok (.iload_n 2, 1) := by decide +kernel
theorem dX6_tell_106 : decode cX6_tell 106 = .ok (.lload 5, 2) := by decide +kernel
theorem dX6_tell_108 : decode cX6_tell 108 = .ok (.lload 7, 2) := by decide +kernel
theorem dX6_tell_110 : decode cX6_tell 110 = .ok (.ldc2_w 48, 3) := by decide +kernel
theorem dX6_tell_113 : decode cX6_tell 113 = .ok (.lxor, 1) := by decide +kernel
theorem dX6_tell_114 : decode cX6_tell 114 = .ok (.land, 1) := by decide +kernel
theorem dX6_tell_115 : decode cX6_tell 115 = .ok (.invokevirtual 40, 3) := by decide +kernel
theorem dX6_tell_118 : decode cX6_tell 118 = .ok (.invokevirtual 36, 3) := by decide +kernel
theorem dX6_tell_121 : decode cX6_tell 121 = .ok (.iconst 1, 1) := by decide +kernel
theorem dX6_tell_122 : decode cX6_tell 122 = .ok (.ireturn, 1) := by decide +kernel
theorem dX6_tell_123 : decode cX6_tell 123 = .ok (.aload_n 0, 1) := by decide +kernel
theorem dX6_tell_124 : decode cX6_tell 124 = .ok (.iconst 4, 1) := by decide +kernel
theorem dX6_tell_125 : decode cX6_tell 125 = .ok (.iload 4, 2) := by decide +kernel
theorem dX6_tell_127 : decode cX6_tell 127 = .ok (.iconst 1, 1) := by decide +kernel
theorem dX6_tell_128 : decode cX6_tell 128 = .ok (.isub, 1) := by decide +kernel
theorem dX6_tell_129 : decode cX6_tell 129 = .ok (.invokevirtual 32, 3) := by decide +kernel
theorem dX6_tell_132 : decode cX6_tell 132 = .ok (.lload 5, 2) := by decide +kernel
theorem dX6_tell_134 : decode cX6_tell 134 = .ok (.aload_n 1, 1) := by decide +kernel
theorem dX6_tell_135 : decode cX6_tell 135 = .ok (.iload_n 2, 1) := by decide +kernel
theorem dX6_tell_136 : decode cX6_tell 136 = .ok (.iload 4, 2) := by decide +kernel
theorem dX6_tell_138 : decode cX6_tell 138 = .ok (.isub, 1) := by decide +kernel
theorem dX6_tell_139 : decode cX6_tell 139 = .ok (.invokevirtual 26, 3) := by decide +kernel
theorem dX6_tell_142 : decode cX6_tell 142 = .ok (.lcmp, 1) := by decide +kernel
theorem dX6_tell_143 : decode cX6_tell 143 = .ok (.ifCond .ne 7, 3) := by decide +kernel
theorem dX6_tell_146 : decode cX6_tell 146 = .ok (.iconst 1, 1) := by decide +kernel
theorem dX6_tell_147 : decode cX6_tell 147 = .ok (.goto 4, 3) := by decide +kernel
theorem dX6_tell_150 : decode cX6_tell 150 = .ok (.iconst 0, 1) := by decide +kernel
theorem dX6_tell_151 : decode cX6_tell 151 = .ok (.ireturn, 1) := by decide +kernel
theorem dX6_tell_152 : decode cX6_tell 152 = .ok (.aload_n 0, 1) := by decide +kernel
theorem dX6_tell_153 : decode cX6_tell 153 = .ok (.iload_n 2, 1) := by decide +kernel
theorem dX6_tell_154 : decode cX6_tell 154 = .ok (.lload 5, 2) := by decide +kernel
theorem dX6_tell_156 : decode cX6_tell 156 = .ok (.invokevirtual 50, 3) := by decide +kernel
theorem dX6_tell_159 : decode cX6_tell 159 = .ok (.lload 5, 2) := by decide +kernel
theorem dX6_tell_161 : decode cX6_tell 161 = .ok (.lconst 0, 1) := by decide +kernel
theorem dX6_tell_162 : decode cX6_tell 162 = .ok (.lcmp, 1) := by decide +kernel
theorem dX6_tell_163 : decode cX6_tell 163 = .ok (.ifCond .eq 7, 3) := by decide +kernel
theorem dX6_tell_166 : decode cX6_tell 166 = .ok (.iconst 1, 1) := by decide +kernel
theorem dX6_tell_167 : decode cX6_tell 167 = .ok (.goto 4, 3) := by decide +kernel
theorem dX6_tell_170 : decode cX6_tell 170 = .ok (.iconst 0, 1) := by decide +kernel
theorem dX6_tell_171 : decode cX6_tell 171 = .ok (.ireturn, 1) := by decide +kernel
theorem dX6_tell_172 : decode cX6_tell 172 = .ok (.iconst 0, 1) := by decide +kernel
theorem dX6_tell_173 : decode cX6_tell 173 = .ok (.ireturn, 1) := by decide +kernel
theorem dX6_bitsToTell_0 : decode cX6_bitsToTell 0 = .ok (.aload_n 0, 1) := by decide +kernel
theorem dX6_bitsToTell_1 : decode cX6_bitsToTell 1 = .ok (.aload_n 1, 1) := by decide +kernel
theorem dX6_bitsToTell_2 : decode cX6_bitsToTell 2 = .ok (.iload_n 2, 1) := by decide +kernel
theorem dX6_bitsToTell_3 : decode cX6_bitsToTell 3 = .ok (.iload_n 3, 1) := by decide +kernel
theorem dX6_bitsToTell_4 : decode cX6_bitsToTell 4 = .ok (.iload 4, 2) := by decide +kernel
theorem dX6_bitsToTell_6 : decode cX6_bitsToTell 6 = .ok (.invokevirtual 53, 3) := by decide +kernel
theorem dX6_bitsToTell_9 : decode cX6_bitsToTell 9 = .ok (.ifCond .ne 6, 3) := by decide +kernel
theorem dX6_bitsToTell_12 : decode cX6_bitsToTell 12 = .ok (.ldc 57, 2) := by decide +kernel
theorem dX6_bitsToTell_14 : decode cX6_bitsToTell 14 = .ok (.ireturn, 1) := by decide +kernel
theorem dX6_bitsToTell_15 : decode cX6_bitsToTell 15 = .ok (.iconst 0, 1) := by decide +kernel
theorem dX6_bitsToTell_16 : decode cX6_bitsToTell 16 = .ok (.istore 6, 2) := by decide +kernel
theorem dX6_bitsToTell_18 : decode cX6_bitsToTell 18 = .ok (.iconst 0, 1) := by decide +kernel
theorem dX6_bitsToTell_19 : decode cX6_bitsToTell 19 = .ok (.istore 7, 2) := by decide +kernel
theorem dX6_bitsToTell_21 : decode cX6_bitsToTell 21 = .ok (.iload 7, 2) := by decide +kernel
theorem dX6_bitsToTell_23 : decode cX6_bitsToTell 23 = .ok (.aload_n 0, 1) := by decide +kernel
theorem dX6_bitsToTell_24 : decode cX6_bitsToTell 24 = .ok (.getfield 18, 3) := by decide +kernel
theorem dX6_bitsToTell_27 : decode cX6_bitsToTell 27 = .ok (.if_icmp .ge 49, 3) := by decide +kernel
theorem dX6_bitsToTell_30 : decode cX6_bitsToTell 30 = .ok (.aload_n 0, 1) := by decide +kernel
theorem dX6_bitsToTell_31 : decode cX6_bitsToTell 31 = .ok (.iload 7, 2) := by decide +kernel
theorem dX6_bitsToTell_33 : decode cX6_bitsToTell 33 = .ok (.invokevirtual 58, 3) := by decide +kernel
theorem dX6_bitsToTell_36 : decode cX6_bitsToTell 36 = .ok (.istore 8, 2) := by decide +kernel
theorem dX6_bitsToTell_38 : decode cX6_bitsToTell 38 = .ok (.iload 6, 2) := by decide +kernel
theorem dX6_bitsToTell_40 : decode cX6_bitsToTell 40 = .ok (.iload 8, 2) := by decide +kernel
theorem dX6_bitsToTell_42 : decode cX6_bitsToTell 42 = .ok (.bipush 8, 2) := by decide +kernel
theorem dX6_bitsToTell_44 : decode cX6_bitsToTell 44 = .ok (.if_icmp .ne 7, 3) := by decide +kernel
theorem dX6_bitsToTell_47 : decode cX6_bitsToTell 47 = .ok (.iconst 1, 1) := by decide +kernel
theorem dX6_bitsToTell_48 : decode cX6_bitsToTell 48 = .ok (.goto 19, 3) := by decide +kernel
theorem dX6_bitsToTell_51 : decode cX6_bitsToTell 51 = .ok (.aload 5, 2) := by decide +kernel
theorem dX6_bitsToTell_53 : decode cX6_bitsToTell 53 = .ok (.iload 8, 2) := by decide +kernel
theorem dX6_bitsToTell_55 : decode cX6_bitsToTell 55 = .ok (.invokevirtual 62, 3) := by decide +kernel
theorem dX6_bitsToTell_58 : decode cX6_bitsToTell 58 = .ok (.aload_n 0, 1) := by decide +kernel
theorem dX6_bitsToTell_59 : decode cX6_bitsToTell 59 = .ok (.iload 7, 2) := by decide +kernel
theorem dX6_bitsToTell_61 : decode cX6_bitsToTell 61 = .ok (.invokevirtual 67, 3) := by decide +kernel
theorem dX6_bitsToTell_64 : decode cX6_bitsToTell 64 = .ok (.invokestatic 70, 3) := by decide +kernel
theorem dX6_bitsToTell_67 : decode cX6_bitsToTell 67 = .ok (.iadd, 1) := by decide +kernel
theorem dX6_bitsToTell_68 : decode cX6_bitsToTell 68 = .ok (.istore 6, 2) := by decide +kernel
theorem dX6_bitsToTell_70 : decode cX6_bitsToTell 70 = .ok (.iinc 7 1, 3) := by decide +kernel
theorem dX6_bitsToTell_73 : decode cX6_bitsToTell 73 = .ok (.goto (-52), 3) := by decide +kernel
theorem dX6_bitsToTell_76 : decode cX6_bitsToTell 76 = .ok (.iload 6, 2) := by decide +kernel
theorem dX6_bitsToTell_78 : decode cX6_bitsToTell 78 = .ok (.ireturn, 1) := by decide +kernel
theorem dX6_add_0 : decode cX6_add 0 = .ok (.aload_n 0, 1) := by decide +kernel
theorem dX6_add_1 : decode cX6_add 1 = .ok (.getfield 18, 3) := by decide +kernel
theorem dX6_add_4 : decode cX6_add 4 = .ok (.ifCond .lt 57, 3) := by decide +kernel
theorem dX6_add_7 : decode cX6_add 7 = .ok (.aload_n 0, 1) := by decide +kernel
theorem dX6_add_8 : decode cX6_add 8 = .ok (.getfield 18, 3) := by decide +kernel
theorem dX6_add_11 : decode cX6_add 11 = .ok (.aload_n 0, 1) := by decide +kernel
theorem dX6_add_12 : decode cX6_add 12 = .ok (.getfield 11, 3) := by decide +kernel
theorem dX6_add_15 : decode cX6_add 15 = .ok (.arraylength, 1) := by decide +kernel
theorem dX6_add_16 : decode cX6_add 16 = .ok (.if_icmp .ge 45, 3) := by decide +kernel
theorem dX6_add_19 : decode cX6_add 19 = .ok (.aload_n 0, 1) := by decide +kernel
theorem dX6_add_20 : decode cX6_add 20 = .ok (.getfield 18, 3) := by decide +kernel
theorem dX6_add_23 : decode cX6_add 23 = .ok (.aload_n 0, 1) := by decide +kernel
theorem dX6_add_24 : decode cX6_add 24 = .ok (.getfield 15, 3) := by decide +kernel
theorem dX6_add_27 : decode cX6_add 27 = .ok (.arraylength, 1) := by decide +kernel
theorem dX6_add_28 : decode cX6_add 28 = .ok (.if_icmp .ge 33, 3) := by decide +kernel
theorem dX6_add_31 : decode cX6_add 31 = .ok (.aload_n 0, 1) := by decide +kernel
theorem dX6_add_32 : decode cX6_add 32 = .ok (.getfield 11, 3) := by decide +kernel
theorem dX6_add_35 : decode cX6_add 35 = .ok (.aload_n 0, 1) := by decide +kernel
theorem dX6_add_36 : decode cX6_add 36 = .ok (.getfield 18, 3) := by decide +kernel
theorem dX6_add_39 : decode cX6_add 39 = .ok (.iload_n 1, 1) := by decide +kernel
theorem dX6_add_40 : decode cX6_add 40 = .ok (.iastore, 1) := by decide +kernel
theorem dX6_add_41 : decode cX6_add 41 = .ok (.aload_n 0, 1) := by decide +kernel
theorem dX6_add_42 : decode cX6_add 42 = .ok (.getfield 15, 3) := by decide +kernel
theorem dX6_add_45 : decode cX6_add 45 = .ok (.aload_n 0, 1) := by decide +kernel
theorem dX6_add_46 : decode cX6_add 46 = .ok (.getfield 18, 3) := by decide +kernel
theorem dX6_add_49 : decode cX6_add 49 = .ok (.iload_n 2, 1) := by decide +kernel
theorem dX6_add_50 : decode cX6_add 50 = .ok (.iastore, 1) := by decide +kernel
theorem dX6_add_51 : decode cX6_add 51 = .ok (.aload_n 0, 1) := by decide +kernel
theorem dX6_add_52 : decode cX6_add 52 = .ok (.dup, 1) := by decide +kernel
theorem dX6_add_53 : decode cX6_add 53 = .ok (.getfield 18, 3) := by decide +kernel
theorem dX6_add_56 : decode cX6_add 56 = .ok (.iconst 1, 1) := by decide +kernel
theorem dX6_add_57 : decode cX6_add 57 = .ok (.iadd, 1) := by decide +kernel
theorem dX6_add_58 : decode cX6_add 58 = .ok (.putfield 18, 3) := by decide +kernel
theorem dX6_add_61 : decode cX6_add 61 = .ok (.return_, 1) := by decide +kernel
theorem dX6_tellPlain_0 : decode cX6_tellPlain 0 = .ok (.aload_n 0, 1) := by decide +kernel
theorem dX6_tellPlain_1 : decode cX6_tellPlain 1 = .ok (.iconst 1, 1) := by decide +kernel
theorem dX6_tellPlain_2 : decode cX6_tellPlain 2 = .ok (.lload_n 2, 1) := by decide +kernel
theorem dX6_tellPlain_3 : decode cX6_tellPlain 3 = .ok (.invokestatic 74, 3) := by decide +kernel
theorem dX6_tellPlain_6 : decode cX6_tellPlain 6 = .ok (.invokevirtual 32, 3) := by decide +kernel
theorem dX6_tellPlain_9 : decode cX6_tellPlain 9 = .ok (.iconst (-1), 1) := by decide +kernel
theorem dX6_tellPlain_10 : decode cX6_tellPlain 10 = .ok (.istore 4, 2) := by decide +kernel
theorem dX6_tellPlain_12 : decode cX6_tellPlain 12 = .ok (.iconst 0, 1) := by decide +kernel
theorem dX6_tellPlain_13 : decode cX6_tellPlain 13 = .ok (.istore 5, 2) := by decide +kernel
theorem dX6_tellPlain_15 : decode cX6_tellPlain 15 = .ok (.iload 5, 2) := by decide +kernel
theorem dX6_tellPlain_17 : decode cX6_tellPlain 17 = .ok (.bipush 48, 2) := by decide +kernel
theorem dX6_tellPlain_19 : decode cX6_tellPlain 19 = .ok (.if_icmp .ge 55, 3) := by decide +kernel
theorem dX6_tellPlain_22 : decode cX6_tellPlain 22 = .ok (.lload_n 2, 1) := by decide +kernel
theorem dX6_tellPlain_23 : decode cX6_tellPlain 23 = .ok (.iload 5, 2) := by decide +kernel
theorem dX6_tellPlain_25 : decode cX6_tellPlain 25 = .ok (.invokestatic 80, 3) := by decide +kernel
theorem dX6_tellPlain_28 : decode cX6_tellPlain 28 = .ok (.ifCond .eq 40, 3) := by decide +kernel
theorem dX6_tellPlain_31 : decode cX6_tellPlain 31 = .ok (.iload 4, 2) := by decide +kernel
theorem dX6_tellPlain_33 : decode cX6_tellPlain 33 = .ok (.iconst (-1), 1) := by decide +kernel
theorem dX6_tellPlain_34 : decode cX6_tellPlain 34 = .ok (.if_icmp .ne 18, 3) := by decide +kernel
theorem dX6_tellPlain_37 : decode cX6_tellPlain 37 = .ok (.aload_n 0, 1) := by decide +kernel
theorem dX6_tellPlain_38 : decode cX6_tellPlain 38 = .ok (.iconst 2, 1) := by decide +kernel
theorem dX6_tellPlain_39 : decode cX6_tellPlain 39 = .ok (.iload 5, 2) := by decide +kernel
theorem dX6_tellPlain_41 : decode cX6_tellPlain 41 = .ok (.iload_n 1, 1) := by decide +kernel
theorem dX6_tellPlain_42 : decode cX6_tellPlain 42 = .ok (.isub, 1) := by decide +kernel
theorem dX6_tellPlain_43 : decode cX6_tellPlain 43 = .ok (.invokestatic 84, 3) := by decide +kernel
theorem dX6_tellPlain_46 : decode cX6_tellPlain 46 = .ok (.invokevirtual 32, 3) := by decide +kernel
theorem dX6_tellPlain_49 : decode cX6_tellPlain 49 = .ok (.goto 15, 3) := by decide +kernel
theorem dX6_tellPlain_52 : decode cX6_tellPlain 52 = .ok (.aload_n 0, 1) := by decide +kernel
theorem dX6_tellPlain_53 : decode cX6_tellPlain 53 = .ok (.iconst 3, 1) := by decide +kernel
theorem dX6_tellPlain_54 : decode cX6_tellPlain 54 = .ok (.iload 5, 2) := by decide +kernel
theorem dX6_tellPlain_56 : decode cX6_tellPlain 56 = .ok (.iload 4, 2) := by decide +kernel
theorem dX6_tellPlain_58 : decode cX6_tellPlain 58 = .ok (.isub, 1) := by decide +kernel
theorem dX6_tellPlain_59 : decode cX6_tellPlain 59 = .ok (.iconst 1, 1) := by decide +kernel
theorem dX6_tellPlain_60 : decode cX6_tellPlain 60 = .ok (.isub, 1) := by decide +kernel
theorem dX6_tellPlain_61 : decode cX6_tellPlain 61 = .ok (.invokevirtual 32, 3) := by decide +kernel
theorem dX6_tellPlain_64 : decode cX6_tellPlain 64 = .ok (.iload 5, 2) := by decide +kernel
theorem dX6_tellPlain_66 : decode cX6_tellPlain 66 = .ok (.istore 4, 2) := by decide +kernel
theorem dX6_tellPlain_68 : decode cX6_tellPlain 68 = .ok (.iinc 5 1, 3) := by decide +kernel
theorem dX6_tellPlain_71 : decode cX6_tellPlain 71 = .ok (.goto (-56), 3) := by decide +kernel
theorem dX6_tellPlain_74 : decode cX6_tellPlain 74 = .ok (.return_, 1) := by decide +kernel
theorem dX6_tellSpans_0 : decode cX6_tellSpans 0 = .ok (.lload_n 2, 1) := by decide +kernel
theorem dX6_tellSpans_1 : decode cX6_tellSpans 1 = .ok (.lload_n 2, 1) := by decide +kernel
theorem dX6_tellSpans_2 : decode cX6_tellSpans 2 = .ok (.iconst 1, 1) := by decide +kernel
theorem dX6_tellSpans_3 : decode cX6_tellSpans 3 = .ok (.lshl, 1) := by decide +kernel
theorem dX6_tellSpans_4 : decode cX6_tellSpans 4 = .ok (.land, 1) := by decide +kernel
theorem dX6_tellSpans_5 : decode cX6_tellSpans 5 = .ok (.lload_n 2, 1) := by decide +kernel
theorem dX6_tellSpans_6 : decode cX6_tellSpans 6 = .ok (.iconst 1, 1) := by decide +kernel
theorem dX6_tellSpans_7 : decode cX6_tellSpans 7 = .ok (.lushr, 1) := by decide +kernel
theorem dX6_tellSpans_8 : decode cX6_tellSpans 8 = .ok (.land, 1) := by decide +kernel
theorem dX6_tellSpans_9 : decode cX6_tellSpans 9 = .ok (.lstore 4, 2) := by decide +kernel
theorem dX6_tellSpans_11 : decode cX6_tellSpans 11 = .ok (.lload 4, 2) := by decide +kernel
theorem dX6_tellSpans_13 : decode cX6_tellSpans 13 = .ok (.lload 4, 2) := by decide +kernel
theorem dX6_tellSpans_15 : decode cX6_tellSpans 15 = .ok (.iconst 1, 1) := by decide +kernel
theorem dX6_tellSpans_16 : decode cX6_tellSpans 16 = .ok (.lshl, 1) := by decide +kernel
theorem dX6_tellSpans_17 : decode cX6_tellSpans 17 = .ok (.lor, 1) := by decide +kernel
theorem dX6_tellSpans_18 : decode cX6_tellSpans 18 = .ok (.lload 4, 2) := by decide +kernel
theorem dX6_tellSpans_20 : decode cX6_tellSpans 20 = .ok (.iconst 1, 1) := by decide +kernel
theorem dX6_tellSpans_21 : decode cX6_tellSpans 21 = .ok (.lushr, 1) := by decide +kernel
theorem dX6_tellSpans_22 : decode cX6_tellSpans 22 = .ok (.lor, 1) := by decide +kernel
theorem dX6_tellSpans_23 : decode cX6_tellSpans 23 = .ok (.lstore 6, 2) := by decide +kernel
theorem dX6_tellSpans_25 : decode cX6_tellSpans 25 = .ok (.lload 6, 2) := by decide +kernel
theorem dX6_tellSpans_27 : decode cX6_tellSpans 27 = .ok (.lload 6, 2) := by decide +kernel
theorem dX6_tellSpans_29 : decode cX6_tellSpans 29 = .ok (.iconst 1, 1) := by decide +kernel
theorem dX6_tellSpans_30 : decode cX6_tellSpans 30 = .ok (.lshl, 1) := by decide +kernel
theorem dX6_tellSpans_31 : decode cX6_tellSpans 31 = .ok (.ldc2_w 48, 3) := by decide +kernel
theorem dX6_tellSpans_34 : decode cX6_tellSpans 34 = .ok (.lxor, 1) := by decide +kernel
theorem dX6_tellSpans_35 : decode cX6_tellSpans 35 = .ok (.land, 1) := by decide +kernel
theorem dX6_tellSpans_36 : decode cX6_tellSpans 36 = .ok (.lstore 8, 2) := by decide +kernel
theorem dX6_tellSpans_38 : decode cX6_tellSpans 38 = .ok (.lload 6, 2) := by decide +kernel
theorem dX6_tellSpans_40 : decode cX6_tellSpans 40 = .ok (.lload 6, 2) := by decide +kernel
theorem dX6_tellSpans_42 : decode cX6_tellSpans 42 = .ok (.iconst 1, 1) := by decide +kernel
theorem dX6_tellSpans_43 : decode cX6_tellSpans 43 = .ok (.lushr, 1) := by decide +kernel
theorem dX6_tellSpans_44 : decode cX6_tellSpans 44 = .ok (.ldc2_w 48, 3) := by decide +kernel
theorem dX6_tellSpans_47 : decode cX6_tellSpans 47 = .ok (.lxor, 1) := by decide +kernel
theorem dX6_tellSpans_48 : decode cX6_tellSpans 48 = .ok (.land, 1) := by decide +kernel
theorem dX6_tellSpans_49 : decode cX6_tellSpans 49 = .ok (.lstore 10, 2) := by decide +kernel
theorem dX6_tellSpans_51 : decode cX6_tellSpans 51 = .ok (.aload_n 0, 1) := by decide +kernel
theorem dX6_tellSpans_52 : decode cX6_tellSpans 52 = .ok (.iconst 1, 1) := by decide +kernel
theorem dX6_tellSpans_53 : decode cX6_tellSpans 53 = .ok (.lload 8, 2) := by decide +kernel
theorem dX6_tellSpans_55 : decode cX6_tellSpans 55 = .ok (.invokestatic 74, 3) := by decide +kernel
theorem dX6_tellSpans_58 : decode cX6_tellSpans 58 = .ok (.invokevirtual 32, 3) := by decide +kernel
theorem dX6_tellSpans_61 : decode cX6_tellSpans 61 = .ok (.iconst 0, 1) := by decide +kernel
theorem dX6_tellSpans_62 : decode cX6_tellSpans 62 = .ok (.istore 12, 2) := by decide +kernel
theorem dX6_tellSpans_64 : decode cX6_tellSpans 64 = .ok (.iconst (-1), 1) := by decide +kernel
theorem dX6_tellSpans_65 : decode cX6_tellSpans 65 = .ok (.istore 13, 2) := by decide +kernel
theorem dX6_tellSpans_67 : decode cX6_tellSpans 67 = .ok (.iconst 0, 1) := by decide +kernel
theorem dX6_tellSpans_68 : decode cX6_tellSpans 68 = .ok (.istore 14, 2) := by decide +kernel
theorem dX6_tellSpans_70 : decode cX6_tellSpans 70 = .ok (.iload 14, 2) := by decide +kernel
theorem dX6_tellSpans_72 : decode cX6_tellSpans 72 = .ok (.bipush 48, 2) := by decide +kernel
theorem dX6_tellSpans_74 : decode cX6_tellSpans 74 = .ok (.if_icmp .ge 86, 3) := by decide +kernel
theorem dX6_tellSpans_77 : decode cX6_tellSpans 77 = .ok (.lload 8, 2) := by decide +kernel
theorem dX6_tellSpans_79 : decode cX6_tellSpans 79 = .ok (.iload 14, 2) := by decide +kernel
theorem dX6_tellSpans_81 : decode cX6_tellSpans 81 = .ok (.invokestatic 80, 3) := by decide +kernel
theorem dX6_tellSpans_84 : decode cX6_tellSpans 84 = .ok (.ifCond .eq 41, 3) := by decide +kernel
theorem dX6_tellSpans_87 : decode cX6_tellSpans 87 = .ok (.iload 13, 2) := by decide +kernel
theorem dX6_tellSpans_89 : decode cX6_tellSpans 89 = .ok (.iconst (-1), 1) := by decide +kernel
theorem dX6_tellSpans_90 : decode cX6_tellSpans 90 = .ok (.if_icmp .ne 19, 3) := by decide +kernel
theorem dX6_tellSpans_93 : decode cX6_tellSpans 93 = .ok (.aload_n 0, 1) := by decide +kernel
theorem dX6_tellSpans_94 : decode cX6_tellSpans 94 = .ok (.bipush 6, 2) := by decide +kernel
theorem dX6_tellSpans_96 : decode cX6_tellSpans 96 = .ok (.iload 14, 2) := by decide +kernel
theorem dX6_tellSpans_98 : decode cX6_tellSpans 98 = .ok (.iload_n 1, 1) := by decide +kernel
theorem dX6_tellSpans_99 : decode cX6_tellSpans 99 = .ok (.isub, 1) := by decide +kernel
theorem dX6_tellSpans_100 : decode cX6_tellSpans 100 = .ok (.invokestatic 84, 3) := by decide +kernel
theorem dX6_tellSpans_103 : decode cX6_tellSpans 103 = .ok (.invokevirtual 32, 3) := by decide +kernel
theorem dX6_tellSpans_106 : decode cX6_tellSpans 106 = .ok (.goto 15, 3) := by decide +kernel
theorem dX6_tellSpans_109 : decode cX6_tellSpans 109 = .ok (.aload_n 0, 1) := by decide +kernel
theorem dX6_tellSpans_110 : decode cX6_tellSpans 110 = .ok (.iconst 3, 1) := by decide +kernel
theorem dX6_tellSpans_111 : decode cX6_tellSpans 111 = .ok (.iload 14, 2) := by decide +kernel
theorem dX6_tellSpans_113 : decode cX6_tellSpans 113 = .ok (.iload 13, 2) := by decide +kernel
theorem dX6_tellSpans_115 : decode cX6_tellSpans 115 = .ok (.isub, 1) := by decide +kernel
theorem dX6_tellSpans_116 : decode cX6_tellSpans 116 = .ok (.iconst 2, 1) := by decide +kernel
theorem dX6_tellSpans_117 : decode cX6_tellSpans 117 = .ok (.isub, 1) := by decide +kernel
theorem dX6_tellSpans_118 : decode cX6_tellSpans 118 = .ok (.invokevirtual 32, 3) := by decide +kernel
theorem dX6_tellSpans_121 : decode cX6_tellSpans 121 = .ok (.iload 14, 2) := by decide +kernel
theorem dX6_tellSpans_123 : decode cX6_tellSpans 123 = .ok (.istore 12, 2) := by decide +kernel
theorem dX6_tellSpans_125 : decode cX6_tellSpans 125 = .ok (.lload 10, 2) := by decide +kernel
theorem dX6_tellSpans_127 : decode cX6_tellSpans 127 = .ok (.iload 14, 2) := by decide +kernel
theorem dX6_tellSpans_129 : decode cX6_tellSpans 129 = .ok (.invokestatic 80, 3) := by decide +kernel
theorem dX6_tellSpans_132 : decode cX6_tellSpans 132 = .ok (.ifCond .eq 22, 3) := by decide +kernel
theorem dX6_tellSpans_135 : decode cX6_tellSpans 135 = .ok (.aload_n 0, 1) := by decide +kernel
theorem dX6_tellSpans_136 : decode cX6_tellSpans 136 = .ok (.bipush 7, 2) := by decide +kernel
theorem dX6_tellSpans_138 : decode cX6_tellSpans 138 = .ok (.iload 14, 2) := by decide +kernel
theorem dX6_tellSpans_140 : decode cX6_tellSpans 140 = .ok (.iload 12, 2) := by decide +kernel
theorem dX6_tellSpans_142 : decode cX6_tellSpans 142 = .ok (.isub, 1) := by decide +kernel
theorem dX6_tellSpans_143 : decode cX6_tellSpans 143 = .ok (.iconst 1, 1) := by decide +kernel
theorem dX6_tellSpans_144 : decode cX6_tellSpans 144 = .ok (.iadd, 1) := by decide +kernel
theorem dX6_tellSpans_145 : decode cX6_tellSpans 145 = .ok (.iconst 3, 1) := by decide +kernel
theorem dX6_tellSpans_146 : decode cX6_tellSpans 146 = .ok (.isub, 1) := by decide +kernel
theorem dX6_tellSpans_147 : decode cX6_tellSpans 147 = .ok (.invokevirtual 32, 3) := by decide +kernel
theorem dX6_tellSpans_150 : decode cX6_tellSpans 150 = .ok (.iload 14, 2) := by decide +kernel
theorem dX6_tellSpans_152 : decode cX6_tellSpans 152 = .ok (.istore 13, 2) := by decide +kernel
theorem dX6_tellSpans_154 : decode cX6_tellSpans 154 = .ok (.iinc 14 1, 3) := by decide +kernel
theorem dX6_tellSpans_157 : decode cX6_tellSpans 157 = .ok (.goto (-87), 3) := by decide +kernel
theorem dX6_tellSpans_160 : decode cX6_tellSpans 160 = .ok (.lload_n 2, 1) := by decide +kernel
theorem dX6_tellSpans_161 : decode cX6_tellSpans 161 = .ok (.lload 6, 2) := by decide +kernel
theorem dX6_tellSpans_163 : decode cX6_tellSpans 163 = .ok (.ldc2_w 48, 3) := by decide +kernel
theorem dX6_tellSpans_166 : decode cX6_tellSpans 166 = .ok (.lxor, 1) := by decide +kernel
theorem dX6_tellSpans_167 : decode cX6_tellSpans 167 = .ok (.land, 1) := by decide +kernel
theorem dX6_tellSpans_168 : decode cX6_tellSpans 168 = .ok (.lreturn, 1) := by decide +kernel
theorem dX6_tellBlocks_0 : decode cX6_tellBlocks 0 = .ok (.aload_n 0, 1) := by decide +kernel
theorem dX6_tellBlocks_1 : decode cX6_tellBlocks 1 = .ok (.getfield 18, 3) := by decide +kernel
theorem dX6_tellBlocks_4 : decode cX6_tellBlocks 4 = .ok (.istore 5, 2) := by decide +kernel
theorem dX6_tellBlocks_6 : decode cX6_tellBlocks 6 = .ok (.aload_n 0, 1) := by decide +kernel
theorem dX6_tellBlocks_7 : decode cX6_tellBlocks 7 = .ok (.iconst 1, 1) := by decide +kernel
theorem dX6_tellBlocks_8 : decode cX6_tellBlocks 8 = .ok (.iconst 0, 1) := by decide +kernel
theorem dX6_tellBlocks_9 : decode cX6_tellBlocks 9 = .ok (.invokevirtual 32, 3) := by decide +kernel
theorem dX6_tellBlocks_12 : decode cX6_tellBlocks 12 = .ok (.iconst 1, 1) := by decide +kernel
theorem dX6_tellBlocks_13 : decode cX6_tellBlocks 13 = .ok (.istore 6, 2) := by decide +kernel
theorem dX6_tellBlocks_15 : decode cX6_tellBlocks 15 = .ok (.iconst 0, 1) := by decide +kernel
theorem dX6_tellBlocks_16 : decode cX6_tellBlocks 16 = .ok (.istore 7, 2) := by decide +kernel
theorem dX6_tellBlocks_18 : decode cX6_tellBlocks 18 = .ok (.iconst 0, 1) := by decide +kernel
theorem dX6_tellBlocks_19 : decode cX6_tellBlocks 19 = .ok (.istore 8, 2) := by decide +kernel
theorem dX6_tellBlocks_21 : decode cX6_tellBlocks 21 = .ok (.iconst 0, 1) := by decide +kernel
theorem dX6_tellBlocks_22 : decode cX6_tellBlocks 22 = .ok (.istore 9, 2) := by decide +kernel
theorem dX6_tellBlocks_24 : decode cX6_tellBlocks 24 = .ok (.iload 9, 2) := by decide +kernel
theorem dX6_tellBlocks_26 : decode cX6_tellBlocks 26 = .ok (.bipush 48, 2) := by decide +kernel
theorem dX6_tellBlocks_28 : decode cX6_tellBlocks 28 = .ok (.if_icmp .ge 72, 3) := by decide +kernel
theorem dX6_tellBlocks_31 : decode cX6_tellBlocks 31 = .ok (.lload_n 3, 1) := by decide +kernel
theorem dX6_tellBlocks_32 : decode cX6_tellBlocks 32 = .ok (.iload 9, 2) := by decide +kernel
theorem dX6_tellBlocks_34 : decode cX6_tellBlocks 34 = .ok (.invokestatic 80, 3) := by decide +kernel
theorem dX6_tellBlocks_37 : decode cX6_tellBlocks 37 = .ok (.ifCond .eq 57, 3) := by decide +kernel
theorem dX6_tellBlocks_40 : decode cX6_tellBlocks 40 = .ok (.lload_n 1, 1) := by decide +kernel
theorem dX6_tellBlocks_41 : decode cX6_tellBlocks 41 = .ok (.iload 9, 2) := by decide +kernel
theorem dX6_tellBlocks_43 : decode cX6_tellBlocks 43 = .ok (.invokestatic 80, 3) := by decide +kernel
theorem dX6_tellBlocks_46 : decode cX6_tellBlocks 46 = .ok (.iload 6, 2) := by decide +kernel
theorem dX6_tellBlocks_48 : decode cX6_tellBlocks 48 = .ok (.if_icmp .ne 9, 3) := by decide +kernel
theorem dX6_tellBlocks_51 : decode cX6_tellBlocks 51 = .ok (.iinc 7 1, 3) := by decide +kernel
theorem dX6_tellBlocks_54 : decode cX6_tellBlocks 54 = .ok (.goto 40, 3) := by decide +kernel
theorem dX6_tellBlocks_57 : decode cX6_tellBlocks 57 = .ok (.aload_n 0, 1) := by decide +kernel
theorem dX6_tellBlocks_58 : decode cX6_tellBlocks 58 = .ok (.iconst 5, 1) := by decide +kernel
theorem dX6_tellBlocks_59 : decode cX6_tellBlocks 59 = .ok (.iload 8, 2) := by decide +kernel
theorem dX6_tellBlocks_61 : decode cX6_tellBlocks 61 = .ok (.ifCond .ne 8, 3) := by decide +kernel
theorem dX6_tellBlocks_64 : decode cX6_tellBlocks 64 = .ok (.iload 7, 2) := by decide +kernel
theorem dX6_tellBlocks_66 : decode cX6_tellBlocks 66 = .ok (.goto 7, 3) := by decide +kernel
theorem dX6_tellBlocks_69 : decode cX6_tellBlocks 69 = .ok (.iload 7, 2) := by decide +kernel
theorem dX6_tellBlocks_71 : decode cX6_tellBlocks 71 = .ok (.iconst 1, 1) := by decide +kernel
theorem dX6_tellBlocks_72 : decode cX6_tellBlocks 72 = .ok (.isub, 1) := by decide +kernel
theorem dX6_tellBlocks_73 : decode cX6_tellBlocks 73 = .ok (.invokevirtual 32, 3) := by decide +kernel
theorem dX6_tellBlocks_76 : decode cX6_tellBlocks 76 = .ok (.iinc 8 1, 3) := by decide +kernel
theorem dX6_tellBlocks_79 : decode cX6_tellBlocks 79 = .ok (.iload 6, 2) := by decide +kernel
theorem dX6_tellBlocks_81 : decode cX6_tellBlocks 81 = .ok (.ifCond .ne 7, 3) := by decide +kernel
theorem dX6_tellBlocks_84 : decode cX6_tellBlocks 84 = .ok (.iconst 1, 1) := by decide +kernel
theorem dX6_tellBlocks_85 : decode cX6_tellBlocks 85 = .ok (.goto 4, 3) := by decide +kernel
theorem dX6_tellBlocks_88 : decode cX6_tellBlocks 88 = .ok (.iconst 0, 1) := by decide +kernel
theorem dX6_tellBlocks_89 : decode cX6_tellBlocks 89 = .ok (.istore 6, 2) := by decide +kernel
theorem dX6_tellBlocks_91 : decode cX6_tellBlocks 91 = .ok (.iconst 1, 1) := by decide +kernel
theorem dX6_tellBlocks_92 : decode cX6_tellBlocks 92 = .ok (.istore 7, 2) := by decide +kernel
theorem dX6_tellBlocks_94 : decode cX6_tellBlocks 94 = .ok (.iinc 9 1, 3) := by decide +kernel
theorem dX6_tellBlocks_97 : decode cX6_tellBlocks 97 = .ok (.goto (-73), 3) := by decide +kernel
theorem dX6_tellBlocks_100 : decode cX6_tellBlocks 100 = .ok (.iload 5, 2) := by decide +kernel
theorem dX6_tellBlocks_102 : decode cX6_tellBlocks 102 = .ok (.ifCond .lt 22, 3) := by decide +kernel
theorem dX6_tellBlocks_105 : decode cX6_tellBlocks 105 = .ok (.iload 5, 2) := by decide +kernel
theorem dX6_tellBlocks_107 : decode cX6_tellBlocks 107 = .ok (.aload_n 0, 1) := by decide +kernel
theorem dX6_tellBlocks_108 : decode cX6_tellBlocks 108 = .ok (.getfield 15, 3) := by decide +kernel
theorem dX6_tellBlocks_111 : decode cX6_tellBlocks 111 = .ok (.arraylength, 1) := by decide +kernel
theorem dX6_tellBlocks_112 : decode cX6_tellBlocks 112 = .ok (.if_icmp .ge 12, 3) := by decide +kernel
theorem dX6_tellBlocks_115 : decode cX6_tellBlocks 115 = .ok (.aload_n 0, 1) := by decide +kernel
theorem dX6_tellBlocks_116 : decode cX6_tellBlocks 116 = .ok (.getfield 15, 3) := by decide +kernel
theorem dX6_tellBlocks_119 : decode cX6_tellBlocks 119 = .ok (.iload 5, 2) := by decide +kernel
theorem dX6_tellBlocks_121 : decode cX6_tellBlocks 121 = .ok (.iload 8, 2) := by decide +kernel
theorem dX6_tellBlocks_123 : decode cX6_tellBlocks 123 = .ok (.iastore, 1) := by decide +kernel
theorem dX6_tellBlocks_124 : decode cX6_tellBlocks 124 = .ok (.return_, 1) := by decide +kernel
theorem dX6_tellDense_0 : decode cX6_tellDense 0 = .ok (.lload_n 2, 1) := by decide +kernel
theorem dX6_tellDense_1 : decode cX6_tellDense 1 = .ok (.iconst 0, 1) := by decide +kernel
theorem dX6_tellDense_2 : decode cX6_tellDense 2 = .ok (.invokestatic 87, 3) := by decide +kernel
theorem dX6_tellDense_5 : decode cX6_tellDense 5 = .ok (.istore 4, 2) := by decide +kernel
theorem dX6_tellDense_7 : decode cX6_tellDense 7 = .ok (.lload_n 2, 1) := by decide +kernel
theorem dX6_tellDense_8 : decode cX6_tellDense 8 = .ok (.invokestatic 91, 3) := by decide +kernel
theorem dX6_tellDense_11 : decode cX6_tellDense 11 = .ok (.istore 5, 2) := by decide +kernel
theorem dX6_tellDense_13 : decode cX6_tellDense 13 = .ok (.aload_n 0, 1) := by decide +kernel
theorem dX6_tellDense_14 : decode cX6_tellDense 14 = .ok (.iconst 2, 1) := by decide +kernel
theorem dX6_tellDense_15 : decode cX6_tellDense 15 = .ok (.iload 4, 2) := by decide +kernel
theorem dX6_tellDense_17 : decode cX6_tellDense 17 = .ok (.iload_n 1, 1) := by decide +kernel
theorem dX6_tellDense_18 : decode cX6_tellDense 18 = .ok (.isub, 1) := by decide +kernel
theorem dX6_tellDense_19 : decode cX6_tellDense 19 = .ok (.invokestatic 84, 3) := by decide +kernel
theorem dX6_tellDense_22 : decode cX6_tellDense 22 = .ok (.invokevirtual 32, 3) := by decide +kernel
theorem dX6_tellDense_25 : decode cX6_tellDense 25 = .ok (.aload_n 0, 1) := by decide +kernel
theorem dX6_tellDense_26 : decode cX6_tellDense 26 = .ok (.iconst 1, 1) := by decide +kernel
theorem dX6_tellDense_27 : decode cX6_tellDense 27 = .ok (.iload 5, 2) := by decide +kernel
theorem dX6_tellDense_29 : decode cX6_tellDense 29 = .ok (.iload 4, 2) := by decide +kernel
theorem dX6_tellDense_31 : decode cX6_tellDense 31 = .ok (.isub, 1) := by decide +kernel
theorem dX6_tellDense_32 : decode cX6_tellDense 32 = .ok (.invokevirtual 32, 3) := by decide +kernel
theorem dX6_tellDense_35 : decode cX6_tellDense 35 = .ok (.iload 4, 2) := by decide +kernel
theorem dX6_tellDense_37 : decode cX6_tellDense 37 = .ok (.iconst 1, 1) := by decide +kernel
theorem dX6_tellDense_38 : decode cX6_tellDense 38 = .ok (.iadd, 1) := by decide +kernel
theorem dX6_tellDense_39 : decode cX6_tellDense 39 = .ok (.istore 6, 2) := by decide +kernel
theorem dX6_tellDense_41 : decode cX6_tellDense 41 = .ok (.iload 6, 2) := by decide +kernel
theorem dX6_tellDense_43 : decode cX6_tellDense 43 = .ok (.iload 5, 2) := by decide +kernel
theorem dX6_tellDense_45 : decode cX6_tellDense 45 = .ok (.if_icmp .ge 29, 3) := by decide +kernel
theorem dX6_tellDense_48 : decode cX6_tellDense 48 = .ok (.aload_n 0, 1) := by decide +kernel
theorem dX6_tellDense_49 : decode cX6_tellDense 49 = .ok (.bipush 8, 2) := by decide +kernel
theorem dX6_tellDense_51 : decode cX6_tellDense 51 = .ok (.lload_n 2, 1) := by decide +kernel
theorem dX6_tellDense_52 : decode cX6_tellDense 52 = .ok (.iload 6, 2) := by decide +kernel
theorem dX6_tellDense_54 : decode cX6_tellDense 54 = .ok (.invokestatic 80, 3) := by decide +kernel
theorem dX6_tellDense_57 : decode cX6_tellDense 57 = .ok (.ifCond .eq 7, 3) := by decide +kernel
theorem dX6_tellDense_60 : decode cX6_tellDense 60 = .ok (.iconst 1, 1) := by decide +kernel
theorem dX6_tellDense_61 : decode cX6_tellDense 61 = .ok (.goto 4, 3) := by decide +kernel
theorem dX6_tellDense_64 : decode cX6_tellDense 64 = .ok (.iconst 0, 1) := by decide +kernel
theorem dX6_tellDense_65 : decode cX6_tellDense 65 = .ok (.invokevirtual 32, 3) := by decide +kernel
theorem dX6_tellDense_68 : decode cX6_tellDense 68 = .ok (.iinc 6 1, 3) := by decide +kernel
theorem dX6_tellDense_71 : decode cX6_tellDense 71 = .ok (.goto (-30), 3) := by decide +kernel
theorem dX6_tellDense_74 : decode cX6_tellDense 74 = .ok (.return_, 1) := by decide +kernel
theorem dX7_init_0 : decode cX7_init 0 = .ok (.aload_n 0, 1) := by decide +kernel
theorem dX7_init_1 : decode cX7_init 1 = .ok (.invokespecial 3, 3) := by decide +kernel
theorem dX7_init_4 : decode cX7_init 4 = .ok (.aload_n 0, 1) := by decide +kernel
theorem dX7_init_5 : decode cX7_init 5 = .ok (.iload_n 1, 1) := by decide +kernel
theorem dX7_init_6 : decode cX7_init 6 = .ok (.newarray .long, 2) := by decide +kernel
theorem dX7_init_8 : decode cX7_init 8 = .ok (.putfield 9, 3) := by decide +kernel
theorem dX7_init_11 : decode cX7_init 11 = .ok (.return_, 1) := by decide +kernel
theorem dX7_countThrees_0 : decode cX7_countThrees 0 = .ok (.aload_n 0, 1) := by decide +kernel
theorem dX7_countThrees_1 : decode cX7_countThrees 1 = .ok (.aload_n 1, 1) := by decide +kernel
theorem dX7_countThrees_2 : decode cX7_countThrees 2 = .ok (.invokevirtual 15, 3) := by decide +kernel
theorem dX7_countThrees_5 : decode cX7_countThrees 5 = .ok (.iconst 0, 1) := by decide +kernel
theorem dX7_countThrees_6 : decode cX7_countThrees 6 = .ok (.istore_n 2, 1) := by decide +kernel
theorem dX7_countThrees_7 : decode cX7_countThrees 7 = .ok (.iconst 0, 1) := by decide +kernel
theorem dX7_countThrees_8 : decode cX7_countThrees 8 = .ok (.istore_n 3, 1) := by decide +kernel
theorem dX7_countThrees_9 : decode cX7_countThrees 9 = .ok (.iload_n 3, 1) := by decide +kernel
theorem dX7_countThrees_10 : decode cX7_countThrees 10 = .ok (.aload_n 0, 1) := by decide +kernel
theorem dX7_countThrees_11 : decode cX7_countThrees 11 = .ok (.getfield 9, 3) := by decide +kernel
theorem dX7_countThrees_14 : decode cX7_countThrees 14 = .ok (.arraylength, 1) := by decide +kernel
theorem dX7_countThrees_15 : decode cX7_countThrees 15 = .ok (.if_icmp .ge 77, 3) := by decide +kernel
theorem dX7_countThrees_18 : decode cX7_countThrees 18 = .ok (.iload_n 3, 1) := by decide +kernel
theorem dX7_countThrees_19 : decode cX7_countThrees 19 = .ok (.iconst 1, 1) := by decide +kernel
theorem dX7_countThrees_20 : decode cX7_countThrees 20 = .ok (.iadd, 1) := by decide +kernel
theorem dX7_countThrees_21 : decode cX7_countThrees 21 = .ok (.istore 4, 2) := by decide +kernel
theorem dX7_countThrees_23 : decode cX7_countThrees 23 = .ok (.iload 4, 2) := by decide +kernel
theorem dX7_countThrees_25 : decode cX7_countThrees 25 = .ok (.aload_n 0, 1) := by decide +kernel
theorem dX7_countThrees_26 : decode cX7_countThrees 26 = .ok (.getfield 9, 3) := by decide +kernel
theorem dX7_countThrees_29 : decode cX7_countThrees 29 = .ok (.arraylength, 1) := by decide +kernel
theorem dX7_countThrees_30 : decode cX7_countThrees 30 = .ok (.if_icmp .ge 56, 3) := by decide +kernel
theorem dX7_countThrees_33 : decode cX7_countThrees 33 = .ok (.aload_n 0, 1) := by decide +kernel
theorem dX7_countThrees_34 : decode cX7_countThrees 34 = .ok (.getfield 9, 3) := by decide +kernel
theorem dX7_countThrees_37 : decode cX7_countThrees 37 = .ok (.iload_n 3, 1) := by decide +kernel
theorem dX7_countThrees_38 : decode cX7_countThrees 38 = .ok (.laload, 1) := by decide +kernel
theorem dX7_countThrees_39 : decode cX7_countThrees 39 = .ok (.iload 4, 2) := by decide +kernel
theorem dX7_countThrees_41 : decode cX7_countThrees 41 = .ok (.invokestatic 19, 3) := by decide +kernel
theorem dX7_countThrees_44 : decode cX7_countThrees 44 = .ok (.ifCond .eq 36, 3) := by decide +kernel
theorem dX7_countThrees_47 : decode cX7_countThrees 47 = .ok (.ldc2_w 23, 3) := by decide +kernel
theorem dX7_countThrees_50 : decode cX7_countThrees 50 = .ok (.iload 4, 2) := by decide +kernel
theorem dX7_countThrees_52 : decode cX7_countThrees 52 = .ok (.lshl, 1) := by decide +kernel
theorem dX7_countThrees_53 : decode cX7_countThrees 53 = .ok (.iconst 1, 1) := by decide +kernel
theorem dX7_countThrees_54 : decode cX7_countThrees 54 = .ok (.lshl, 1) := by decide +kernel
theorem dX7_countThrees_55 : decode cX7_countThrees 55 = .ok (.lstore 5, 2) := by decide +kernel
theorem dX7_countThrees_57 : decode cX7_countThrees 57 = .ok (.iload_n 2, 1) := by decide +kernel
theorem dX7_countThrees_58 : decode cX7_countThrees 58 = .ok (.aload_n 0, 1) := by decide +kernel
theorem dX7_countThrees_59 : decode cX7_countThrees 59 = .ok (.getfield 9, 3) := by decide +kernel
theorem dX7_countThrees_62 : decode cX7_countThrees 62 = .ok (.iload_n 3, 1) := by decide +kernel
theorem dX7_countThrees_63 : decode cX7_countThrees 63 = .ok (.laload, 1) := by decide +kernel
theorem dX7_countThrees_64 : decode cX7_countThrees 64 = .ok (.aload_n 0, 1) := by decide +kernel
theorem dX7_countThrees_65 : decode cX7_countThrees 65 = .ok (.getfield 9, 3) := by decide +kernel
theorem dX7_countThrees_68 : decode cX7_countThrees 68 = .ok (.iload 4, 2) := by decide +kernel
theorem dX7_countThrees_70 : decode cX7_countThrees 70 = .ok (.laload, 1) := by decide +kernel
theorem dX7_countThrees_71 : decode cX7_countThrees 71 = .ok (.land, 1) := by decide +kernel
theorem dX7_countThrees_72 : decode cX7_countThrees 72 = .ok (.lload 5, 2) := by decide +kernel
theorem dX7_countThrees_74 : decode cX7_countThrees 74 = .ok (.land, 1) := by decide +kernel
theorem dX7_countThrees_75 : decode cX7_countThrees 75 = .ok (.invokestatic 25, 3) := by decide +kernel
theorem dX7_countThrees_78 : decode cX7_countThrees 78 = .ok (.iadd, 1) := by decide +kernel
theorem dX7_countThrees_79 : decode cX7_countThrees 79 = .ok (.istore_n 2, 1) := by decide +kernel
theorem dX7_countThrees_80 : decode cX7_countThrees 80 = .ok (.iinc 4 1, 3) := by decide +kernel
theorem dX7_countThrees_83 : decode cX7_countThrees 83 = .ok (.goto (-60), 3) := by decide +kernel
theorem dX7_countThrees_86 : decode cX7_countThrees 86 = .ok (.iinc 3 1, 3) := by decide +kernel
theorem dX7_countThrees_89 : decode cX7_countThrees 89 = .ok (.goto (-80), 3) := by decide +kernel
theorem dX7_countThrees_92 : decode cX7_countThrees 92 = .ok (.iload_n 2, 1) := by decide +kernel
theorem dX7_countThrees_93 : decode cX7_countThrees 93 = .ok (.ireturn, 1) := by decide +kernel
theorem dX7_countParts_0 : decode cX7_countParts 0 = .ok (.aload_n 0, 1) := by decide +kernel
theorem dX7_countParts_1 : decode cX7_countParts 1 = .ok (.aload_n 1, 1) := by decide +kernel
theorem dX7_countParts_2 : decode cX7_countParts 2 = .ok (.invokevirtual 15, 3) := by decide +kernel
theorem dX7_countParts_5 : decode cX7_countParts 5 = .ok (.lconst 0, 1) := by decide +kernel
theorem dX7_countParts_6 : decode cX7_countParts 6 = .ok (.lstore_n 2, 1) := by decide +kernel
theorem dX7_countParts_7 : decode cX7_countParts 7 = .ok (.iconst 0, 1) := by decide +kernel
theorem dX7_countParts_8 : decode cX7_countParts 8 = .ok (.istore 4, 2) := by decide +kernel
theorem dX7_countParts_10 : decode cX7_countParts 10 = .ok (.iconst 0, 1) := by decide +kernel
theorem dX7_countParts_11 : decode cX7_countParts 11 = .ok (.istore 5, 2) := by decide +kernel
theorem dX7_countParts_13 : decode cX7_countParts 13 = .ok (.iload 5, 2) := by decide +kernel
theorem dX7_countParts_15 : decode cX7_countParts 15 = .ok (.aload_n 0, 1) := by decide +kernel
theorem dX7_countParts_16 : decode cX7_countParts 16 = .ok (.getfield 9, 3) := by decide +kernel
theorem dX7_countParts_19 : decode cX7_countParts 19 = .ok (.arraylength, 1) := by decide +kernel
theorem dX7_countParts_20 : decode cX7_countParts 20 = .ok (.if_icmp .ge 30, 3) := by decide +kernel
theorem dX7_countParts_23 : decode cX7_countParts 23 = .ok (.lload_n 2, 1) := by decide +kernel
theorem dX7_countParts_24 : decode cX7_countParts 24 = .ok (.iload 5, 2) := by decide +kernel
theorem dX7_countParts_26 : decode cX7_countParts 26 = .ok (.invokestatic 19, 3) := by decide +kernel
theorem dX7_countParts_29 : decode cX7_countParts 29 = .ok (.ifCond .ne 15, 3) := by decide +kernel
theorem dX7_countParts_32 : decode cX7_countParts 32 = .ok (.lload_n 2, 1) := by decide +kernel
theorem dX7_countParts_33 : decode cX7_countParts 33 = .ok (.aload_n 0, 1) := by decide +kernel
theorem dX7_countParts_34 : decode cX7_countParts 34 = .ok (.iload 5, 2) := by decide +kernel
theorem dX7_countParts_36 : decode cX7_countParts 36 = .ok (.invokevirtual 31, 3) := by decide +kernel
theorem dX7_countParts_39 : decode cX7_countParts 39 = .ok (.lor, 1) := by decide +kernel
theorem dX7_countParts_40 : decode cX7_countParts 40 = .ok (.lstore_n 2, 1) := by decide +kernel
theorem dX7_countParts_41 : decode cX7_countParts 41 = .ok (.iinc 4 1, 3) := by decide +kernel
theorem dX7_countParts_44 : decode cX7_countParts 44 = .ok (.iinc 5 1, 3) := by decide +kernel
theorem dX7_countParts_47 : decode cX7_countParts 47 = .ok (.goto (-34), 3) := by decide +kernel
theorem dX7_countParts_50 : decode cX7_countParts 50 = .ok (.iload 4, 2) := by decide +kernel
theorem dX7_countParts_52 : decode cX7_countParts 52 = .ok (.ireturn, 1) := by decide +kernel
theorem dX7_sizeOfPart_0 : decode cX7_sizeOfPart 0 = .ok (.aload_n 0, 1) := by decide +kernel
theorem dX7_sizeOfPart_1 : decode cX7_sizeOfPart 1 = .ok (.aload_n 1, 1) := by decide +kernel
theorem dX7_sizeOfPart_2 : decode cX7_sizeOfPart 2 = .ok (.invokevirtual 15, 3) := by decide +kernel
theorem dX7_sizeOfPart_5 : decode cX7_sizeOfPart 5 = .ok (.aload_n 0, 1) := by decide +kernel
theorem dX7_sizeOfPart_6 : decode cX7_sizeOfPart 6 = .ok (.iload_n 2, 1) := by decide +kernel
theorem dX7_sizeOfPart_7 : decode cX7_sizeOfPart 7 = .ok (.invokevirtual 31, 3) := by decide +kernel
theorem dX7_sizeOfPart_10 : decode cX7_sizeOfPart 10 = .ok (.invokestatic 25, 3) := by decide +kernel
theorem dX7_sizeOfPart_13 : decode cX7_sizeOfPart 13 = .ok (.ireturn, 1) := by decide +kernel
theorem dX7_stepsBetween_0 : decode cX7_stepsBetween 0 = .ok (.lconst 1, 1) := by decide +kernel
theorem dX7_stepsBetween_1 : decode cX7_stepsBetween 1 = .ok (.iload_n 2, 1) := by decide +kernel
theorem dX7_stepsBetween_2 : decode cX7_stepsBetween 2 = .ok (.lshl, 1) := by decide +kernel
theorem dX7_stepsBetween_3 : decode cX7_stepsBetween 3 = .ok (.lstore 4, 2) := by decide +kernel
theorem dX7_stepsBetween_5 : decode cX7_stepsBetween 5 = .ok (.iconst 0, 1) := by decide +kernel
theorem dX7_stepsBetween_6 : decode cX7_stepsBetween 6 = .ok (.istore 6, 2) := by decide +kernel
theorem dX7_stepsBetween_8 : decode cX7_stepsBetween 8 = .ok (.iload 6, 2) := by decide +kernel
theorem dX7_stepsBetween_10 : decode cX7_stepsBetween 10 = .ok (.aload_n 1, 1) := by decide +kernel
theorem dX7_stepsBetween_11 : decode cX7_stepsBetween 11 = .ok (.invokevirtual 35, 3) := by decide +kernel
theorem dX7_stepsBetween_14 : decode cX7_stepsBetween 14 = .ok (.if_icmp .ge 68, 3) := by decide +kernel
theorem dX7_stepsBetween_17 : decode cX7_stepsBetween 17 = .ok (.lload 4, 2) := by decide +kernel
theorem dX7_stepsBetween_19 : decode cX7_stepsBetween 19 = .ok (.iload_n 3, 1) := by decide +kernel
theorem dX7_stepsBetween_20 : decode cX7_stepsBetween 20 = .ok (.invokestatic 19, 3) := by decide +kernel
theorem dX7_stepsBetween_23 : decode cX7_stepsBetween 23 = .ok (.ifCond .eq 6, 3) := by decide +kernel
theorem dX7_stepsBetween_26 : decode cX7_stepsBetween 26 = .ok (.iload 6, 2) := by decide +kernel
theorem dX7_stepsBetween_28 : decode cX7_stepsBetween 28 = .ok (.ireturn, 1) := by decide +kernel
theorem dX7_stepsBetween_29 : decode cX7_stepsBetween 29 = .ok (.lload 4, 2) := by decide +kernel
theorem dX7_stepsBetween_31 : decode cX7_stepsBetween 31 = .ok (.lstore 7, 2) := by decide +kernel
theorem dX7_stepsBetween_33 : decode cX7_stepsBetween 33 = .ok (.iconst 0, 1) := by decide +kernel
theorem dX7_stepsBetween_34 : decode cX7_stepsBetween 34 = .ok (.istore 9, 2) := by decide +kernel
theorem dX7_stepsBetween_36 : decode cX7_stepsBetween 36 = .ok (.iload 9, 2) := by decide +kernel
theorem dX7_stepsBetween_38 : decode cX7_stepsBetween 38 = .ok (.aload_n 1, 1) := by decide +kernel
theorem dX7_stepsBetween_39 : decode cX7_stepsBetween 39 = .ok (.invokevirtual 35, 3) := by decide +kernel
theorem dX7_stepsBetween_42 : decode cX7_stepsBetween 42 = .ok (.if_icmp .ge 30, 3) := by decide +kernel
theorem dX7_stepsBetween_45 : decode cX7_stepsBetween 45 = .ok (.lload 4, 2) := by decide +kernel
theorem dX7_stepsBetween_47 : decode cX7_stepsBetween 47 = .ok (.iload 9, 2) := by decide +kernel
theorem dX7_stepsBetween_49 : decode cX7_stepsBetween 49 = .ok (.invokestatic 19, 3) := by decide +kernel
theorem dX7_stepsBetween_52 : decode cX7_stepsBetween 52 = .ok (.ifCond .eq 14, 3) := by decide +kernel
theorem dX7_stepsBetween_55 : decode cX7_stepsBetween 55 = .ok (.lload 7, 2) := by decide +kernel
theorem dX7_stepsBetween_57 : decode cX7_stepsBetween 57 = .ok (.aload_n 1, 1) := by decide +kernel
theorem dX7_stepsBetween_58 : decode cX7_stepsBetween 58 = .ok (.iload 9, 2) := by decide +kernel
theorem dX7_stepsBetween_60 : decode cX7_stepsBetween 60 = .ok (.invokevirtual 41, 3) := by decide +kernel
theorem dX7_stepsBetween_63 : decode cX7_stepsBetween 63 = .ok (.lor, 1) := by decide +kernel
theorem dX7_stepsBetween_64 : decode cX7_stepsBetween 64 = .ok (.lstore 7, 2) := by decide +kernel
theorem dX7_stepsBetween_66 : decode cX7_stepsBetween 66 = .ok (.iinc 9 1, 3) := by decide +kernel
theorem dX7_stepsBetween_69 : decode cX7_stepsBetween 69 = .ok (.goto (-33), 3) := by decide +kernel
theorem dX7_stepsBetween_72 : decode cX7_stepsBetween 72 = .ok (.lload 7, 2) := by decide +kernel
theorem dX7_stepsBetween_74 : decode cX7_stepsBetween 74 = .ok (.lstore 4, 2) := by decide +kernel
theorem dX7_stepsBetween_76 : decode cX7_stepsBetween 76 = .ok (.iinc 6 1, 3) := by decide +kernel
theorem dX7_stepsBetween_79 : decode cX7_stepsBetween 79 = .ok (.goto (-71), 3) := by decide +kernel
theorem dX7_stepsBetween_82 : decode cX7_stepsBetween 82 = .ok (.iconst (-1), 1) := by decide +kernel
theorem dX7_stepsBetween_83 : decode cX7_stepsBetween 83 = .ok (.ireturn, 1) := by decide +kernel
theorem dX7_findNear_0 : decode cX7_findNear 0 = .ok (.iconst 0, 1) := by decide +kernel
theorem dX7_findNear_1 : decode cX7_findNear 1 = .ok (.istore_n 2, 1) := by decide +kernel
theorem dX7_findNear_2 : decode cX7_findNear 2 = .ok (.iload_n 2, 1) := by decide +kernel
theorem dX7_findNear_3 : decode cX7_findNear 3 = .ok (.aload_n 0, 1) := by decide +kernel
theorem dX7_findNear_4 : decode cX7_findNear 4 = .ok (.getfield 9, 3) := by decide +kernel
theorem dX7_findNear_7 : decode cX7_findNear 7 = .ok (.arraylength, 1) := by decide +kernel
theorem dX7_findNear_8 : decode cX7_findNear 8 = .ok (.if_icmp .ge 34, 3) := by decide +kernel
theorem dX7_findNear_11 : decode cX7_findNear 11 = .ok (.aload_n 0, 1) := by decide +kernel
theorem dX7_findNear_12 : decode cX7_findNear 12 = .ok (.getfield 9, 3) := by decide +kernel
theorem dX7_findNear_15 : decode cX7_findNear 15 = .ok (.iload_n 2, 1) := by decide +kernel
theorem dX7_findNear_16 : decode cX7_findNear 16 = .ok (.aload_n 1, 1) := by decide +kernel
theorem dX7_findNear_17 : decode cX7_findNear 17 = .ok (.iload_n 2, 1) := by decide +kernel
theorem dX7_findNear_18 : decode cX7_findNear 18 = .ok (.invokevirtual 41, 3) := by decide +kernel
theorem dX7_findNear_21 : decode cX7_findNear 21 = .ok (.aload_n 1, 1) := by decide +kernel
theorem dX7_findNear_22 : decode cX7_findNear 22 = .ok (.iload_n 2, 1) := by decide +kernel
theorem dX7_findNear_23 : decode cX7_findNear 23 = .ok (.invokevirtual 44, 3) := by decide +kernel
theorem dX7_findNear_26 : decode cX7_findNear 26 = .ok (.lor, 1) := by decide +kernel
theorem dX7_findNear_27 : decode cX7_findNear 27 = .ok (.lconst 1, 1) := by decide +kernel
theorem dX7_findNear_28 : decode cX7_findNear 28 = .ok (.iload_n 2, 1) := by decide +kernel
theorem dX7_findNear_29 : decode cX7_findNear 29 = .ok (.lshl, 1) := by decide +kernel
theorem dX7_findNear_30 : decode cX7_findNear 30 = .ok (.ldc2_w 23, 3) := by decide +kernel
theorem dX7_findNear_33 : decode cX7_findNear 33 = .ok (.lxor, 1) := by decide +kernel
theorem dX7_findNear_34 : decode cX7_findNear 34 = .ok (.land, 1) := by decide +kernel
theorem dX7_findNear_35 : decode cX7_findNear 35 = .ok (.lastore, 1) := by decide +kernel
theorem dX7_findNear_36 : decode cX7_findNear 36 = .ok (.iinc 2 1, 3) := by decide +kernel
theorem dX7_findNear_39 : decode cX7_findNear 39 = .ok (.goto (-37), 3) := by decide +kernel
theorem dX7_findNear_42 : decode cX7_findNear 42 = .ok (.return_, 1) := by decide +kernel
theorem dX7_partOf_0 : decode cX7_partOf 0 = .ok (.lconst 1, 1) := by decide +kernel
theorem dX7_partOf_1 : decode cX7_partOf 1 = .ok (.iload_n 1, 1) := by decide +kernel
theorem dX7_partOf_2 : decode cX7_partOf 2 = .ok (.lshl, 1) := by decide +kernel
theorem dX7_partOf_3 : decode cX7_partOf 3 = .ok (.lstore_n 2, 1) := by decide +kernel
theorem dX7_partOf_4 : decode cX7_partOf 4 = .ok (.iconst 0, 1) := by decide +kernel
theorem dX7_partOf_5 : decode cX7_partOf 5 = .ok (.istore 4, 2) := by decide +kernel
theorem dX7_partOf_7 : decode cX7_partOf 7 = .ok (.iload 4, 2) := by decide +kernel
theorem dX7_partOf_9 : decode cX7_partOf 9 = .ok (.aload_n 0, 1) := by decide +kernel
theorem dX7_partOf_10 : decode cX7_partOf 10 = .ok (.getfield 9, 3) := by decide +kernel
theorem dX7_partOf_13 : decode cX7_partOf 13 = .ok (.arraylength, 1) := by decide +kernel
theorem dX7_partOf_14 : decode cX7_partOf 14 = .ok (.if_icmp .ge 65, 3) := by decide +kernel
theorem dX7_partOf_17 : decode cX7_partOf 17 = .ok (.lload_n 2, 1) := by decide +kernel
theorem dX7_partOf_18 : decode cX7_partOf 18 = .ok (.lstore 5, 2) := by decide +kernel
theorem dX7_partOf_20 : decode cX7_partOf 20 = .ok (.iconst 0, 1) := by decide +kernel
theorem dX7_partOf_21 : decode cX7_partOf 21 = .ok (.istore 7, 2) := by decide +kernel
theorem dX7_partOf_23 : decode cX7_partOf 23 = .ok (.iload 7, 2) := by decide +kernel
theorem dX7_partOf_25 : decode cX7_partOf 25 = .ok (.aload_n 0, 1) := by decide +kernel
theorem dX7_partOf_26 : decode cX7_partOf 26 = .ok (.getfield 9, 3) := by decide +kernel
theorem dX7_partOf_29 : decode cX7_partOf 29 = .ok (.arraylength, 1) := by decide +kernel
theorem dX7_partOf_30 : decode cX7_partOf 30 = .ok (.if_icmp .ge 30, 3) := by decide +kernel
theorem dX7_partOf_33 : decode cX7_partOf 33 = .ok (.lload_n 2, 1) := by decide +kernel
theorem dX7_partOf_34 : decode cX7_partOf 34 = .ok (.iload 7, 2) := by decide +kernel
theorem dX7_partOf_36 : decode cX7_partOf 36 = .ok (.invokestatic 19, 3) := by decide +kernel
theorem dX7_partOf_39 : decode cX7_partOf 39 = .ok (.ifCond .eq 15, 3) := by decide +kernel
theorem dX7_partOf_42 : decode cX7_partOf 42 = .ok (.lload 5, 2) := by decide +kernel
theorem dX7_partOf_44 : decode cX7_partOf 44 = .ok (.aload_n 0, 1) := by decide +kernel
theorem dX7_partOf_45 : decode cX7_partOf 45 = .ok (.getfield 9, 3) := by decide +kernel
theorem dX7_partOf_48 : decode cX7_partOf 48 = .ok (.iload 7, 2) := by decide +kernel
theorem dX7_partOf_50 : decode cX7_partOf 50 = .ok (.laload, 1) := by decide +kernel
theorem dX7_partOf_51 : decode cX7_partOf 51 = .ok (.lor, 1) := by decide +kernel
theorem dX7_partOf_52 : decode cX7_partOf 52 = .ok (.lstore 5, 2) := by decide +kernel
theorem dX7_partOf_54 : decode cX7_partOf 54 = .ok (.iinc 7 1, 3) := by decide +kernel
theorem dX7_partOf_57 : decode cX7_partOf 57 = .ok (.goto (-34), 3) := by decide +kernel
theorem dX7_partOf_60 : decode cX7_partOf 60 = .ok (.lload 5, 2) := by decide +kernel
theorem dX7_partOf_62 : decode cX7_partOf 62 = .ok (.lload_n 2, 1) := by decide +kernel
theorem dX7_partOf_63 : decode cX7_partOf 63 = .ok (.lcmp, 1) := by decide +kernel
theorem dX7_partOf_64 : decode cX7_partOf 64 = .ok (.ifCond .ne 6, 3) := by decide +kernel
theorem dX7_partOf_67 : decode cX7_partOf 67 = .ok (.goto 12, 3) := by decide +kernel
theorem dX7_partOf_70 : decode cX7_partOf 70 = .ok (.lload 5, 2) := by decide +kernel
theorem dX7_partOf_72 : decode cX7_partOf 72 = .ok (.lstore_n 2, 1) := by decide +kernel
theorem dX7_partOf_73 : decode cX7_partOf 73 = .ok (.iinc 4 1, 3) := by decide +kernel
theorem dX7_partOf_76 : decode cX7_partOf 76 = .ok (.goto (-69), 3) := by decide +kernel
theorem dX7_partOf_79 : decode cX7_partOf 79 = .ok (.lload_n 2, 1) := by decide +kernel
theorem dX7_partOf_80 : decode cX7_partOf 80 = .ok (.lreturn, 1) := by decide +kernel
theorem dX8_init_0 : decode cX8_init 0 = .ok (.aload_n 0, 1) := by decide +kernel
theorem dX8_init_1 : decode cX8_init 1 = .ok (.invokespecial 1, 3) := by decide +kernel
theorem dX8_init_4 : decode cX8_init 4 = .ok (.iconst 1, 1) := by decide +kernel
theorem dX8_init_5 : decode cX8_init 5 = .ok (.bipush 48, 2) := by decide +kernel
theorem dX8_init_7 : decode cX8_init 7 = .ok (.iload_n 1, 1) := by decide +kernel
theorem dX8_init_8 : decode cX8_init 8 = .ok (.invokestatic 9, 3) := by decide +kernel
theorem dX8_init_11 : decode cX8_init 11 = .ok (.invokestatic 15, 3) := by decide +kernel
theorem dX8_init_14 : decode cX8_init 14 = .ok (.istore_n 2, 1) := by decide +kernel
theorem dX8_init_15 : decode cX8_init 15 = .ok (.aload_n 0, 1) := by decide +kernel
theorem dX8_init_16 : decode cX8_init 16 = .ok (.new 18, 3) := by decide +kernel
theorem dX8_init_19 : decode cX8_init 19 = .ok (.dup, 1) := by decide +kernel
theorem dX8_init_20 : decode cX8_init 20 = .ok (.iload_n 2, 1) := by decide +kernel
theorem dX8_init_21 : decode cX8_init 21 = .ok (.invokespecial 20, 3) := by decide +kernel
theorem dX8_init_24 : decode cX8_init 24 = .ok (.putfield 23, 3) := by decide +kernel
theorem dX8_init_27 : decode cX8_init 27 = .ok (.aload_n 0, 1) := by decide +kernel
theorem dX8_init_28 : decode cX8_init 28 = .ok (.new 27, 3) := by decide +kernel
theorem dX8_init_31 : decode cX8_init 31 = .ok (.dup, 1) := by decide +kernel
theorem dX8_init_32 : decode cX8_init 32 = .ok (.invokespecial 29, 3) := by decide +kernel
theorem dX8_init_35 : decode cX8_init 35 = .ok (.putfield 30, 3) := by decide +kernel
theorem dX8_init_38 : decode cX8_init 38 = .ok (.aload_n 0, 1) := by decide +kernel
theorem dX8_init_39 : decode cX8_init 39 = .ok (.new 34, 3) := by decide +kernel
theorem dX8_init_42 : decode cX8_init 42 = .ok (.dup, 1) := by decide +kernel
theorem dX8_init_43 : decode cX8_init 43 = .ok (.invokespecial 36, 3) := by decide +kernel
theorem dX8_init_46 : decode cX8_init 46 = .ok (.putfield 37, 3) := by decide +kernel
theorem dX8_init_49 : decode cX8_init 49 = .ok (.aload_n 0, 1) := by decide +kernel
theorem dX8_init_50 : decode cX8_init 50 = .ok (.new 41, 3) := by decide +kernel
theorem dX8_init_53 : decode cX8_init 53 = .ok (.dup, 1) := by decide +kernel
theorem dX8_init_54 : decode cX8_init 54 = .ok (.iload_n 2, 1) := by decide +kernel
theorem dX8_init_55 : decode cX8_init 55 = .ok (.invokespecial 43, 3) := by decide +kernel
theorem dX8_init_58 : decode cX8_init 58 = .ok (.putfield 44, 3) := by decide +kernel
theorem dX8_init_61 : decode cX8_init 61 = .ok (.aload_n 0, 1) := by decide +kernel
theorem dX8_init_62 : decode cX8_init 62 = .ok (.new 48, 3) := by decide +kernel
theorem dX8_init_65 : decode cX8_init 65 = .ok (.dup, 1) := by decide +kernel
theorem dX8_init_66 : decode cX8_init 66 = .ok (.iload_n 2, 1) := by decide +kernel
theorem dX8_init_67 : decode cX8_init 67 = .ok (.invokespecial 50, 3) := by decide +kernel
theorem dX8_init_70 : decode cX8_init 70 = .ok (.putfield 51, 3) := by decide +kernel
theorem dX8_init_73 : decode cX8_init 73 = .ok (.aload_n 0, 1) := by decide +kernel
theorem dX8_init_74 : decode cX8_init 74 = .ok (.new 55, 3) := by decide +kernel
theorem dX8_init_77 : decode cX8_init 77 = .ok (.dup, 1) := by decide +kernel
theorem dX8_init_78 : decode cX8_init 78 = .ok (.iload_n 2, 1) := by decide +kernel
theorem dX8_init_79 : decode cX8_init 79 = .ok (.invokespecial 57, 3) := by decide +kernel
theorem dX8_init_82 : decode cX8_init 82 = .ok (.putfield 58, 3) := by decide +kernel
theorem dX8_init_85 : decode cX8_init 85 = .ok (.aload_n 0, 1) := by decide +kernel
theorem dX8_init_86 : decode cX8_init 86 = .ok (.new 62, 3) := by decide +kernel
