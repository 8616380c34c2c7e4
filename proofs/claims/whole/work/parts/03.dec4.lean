theorem dX9_choose_25 : decode cX9_choose 25 = .ok (.if_icmp .ge 94, 3) := by decide +kernel
theorem dX9_choose_28 : decode cX9_choose 28 = .ok (.iconst 1, 1) := by decide +kernel
theorem dX9_choose_29 : decode cX9_choose 29 = .ok (.istore_n 3, 1) := by decide +kernel
theorem dX9_choose_30 : decode cX9_choose 30 = .ok (.iload_n 3, 1) := by decide +kernel
theorem dX9_choose_31 : decode cX9_choose 31 = .ok (.aload_n 0, 1) := by decide +kernel
theorem dX9_choose_32 : decode cX9_choose 32 = .ok (.getfield 27, 3) := by decide +kernel
theorem dX9_choose_35 : decode cX9_choose 35 = .ok (.if_icmp .gt 78, 3) := by decide +kernel
theorem dX9_choose_38 : decode cX9_choose 38 = .ok (.iload_n 3, 1) := by decide +kernel
theorem dX9_choose_39 : decode cX9_choose 39 = .ok (.iload_n 1, 1) := by decide +kernel
theorem dX9_choose_40 : decode cX9_choose 40 = .ok (.if_icmp .gt 73, 3) := by decide +kernel
theorem dX9_choose_43 : decode cX9_choose 43 = .ok (.aload_n 0, 1) := by decide +kernel
theorem dX9_choose_44 : decode cX9_choose 44 = .ok (.getfield 63, 3) := by decide +kernel
theorem dX9_choose_47 : decode cX9_choose 47 = .ok (.iload_n 1, 1) := by decide +kernel
theorem dX9_choose_48 : decode cX9_choose 48 = .ok (.iload_n 3, 1) := by decide +kernel
theorem dX9_choose_49 : decode cX9_choose 49 = .ok (.isub, 1) := by decide +kernel
theorem dX9_choose_50 : decode cX9_choose 50 = .ok (.iaload, 1) := by decide +kernel
theorem dX9_choose_51 : decode cX9_choose 51 = .ok (.aload_n 0, 1) := by decide +kernel
theorem dX9_choose_52 : decode cX9_choose 52 = .ok (.getfield 30, 3) := by decide +kernel
theorem dX9_choose_55 : decode cX9_choose 55 = .ok (.if_icmp .ge 27, 3) := by decide +kernel
theorem dX9_choose_58 : decode cX9_choose 58 = .ok (.iload_n 2, 1) := by decide +kernel
theorem dX9_choose_59 : decode cX9_choose 59 = .ok (.iconst 2, 1) := by decide +kernel
theorem dX9_choose_60 : decode cX9_choose 60 = .ok (.if_icmp .eq 18, 3) := by decide +kernel
theorem dX9_choose_63 : decode cX9_choose 63 = .ok (.aload_n 0, 1) := by decide +kernel
theorem dX9_choose_64 : decode cX9_choose 64 = .ok (.aload_n 0, 1) := by decide +kernel
theorem dX9_choose_65 : decode cX9_choose 65 = .ok (.getfield 17, 3) := by decide +kernel
theorem dX9_choose_68 : decode cX9_choose 68 = .ok (.iload_n 1, 1) := by decide +kernel
theorem dX9_choose_69 : decode cX9_choose 69 = .ok (.iload_n 1, 1) := by decide +kernel
theorem dX9_choose_70 : decode cX9_choose 70 = .ok (.iload_n 3, 1) := by decide +kernel
theorem dX9_choose_71 : decode cX9_choose 71 = .ok (.isub, 1) := by decide +kernel
theorem dX9_choose_72 : decode cX9_choose 72 = .ok (.invokevirtual 193, 3) := by decide +kernel
theorem dX9_choose_75 : decode cX9_choose 75 = .ok (.ifCond .eq 7, 3) := by decide +kernel
theorem dX9_choose_78 : decode cX9_choose 78 = .ok (.iconst 1, 1) := by decide +kernel
theorem dX9_choose_79 : decode cX9_choose 79 = .ok (.goto 4, 3) := by decide +kernel
theorem dX9_choose_82 : decode cX9_choose 82 = .ok (.iconst 0, 1) := by decide +kernel
theorem dX9_choose_83 : decode cX9_choose 83 = .ok (.istore 4, 2) := by decide +kernel
theorem dX9_choose_85 : decode cX9_choose 85 = .ok (.iload 4, 2) := by decide +kernel
theorem dX9_choose_87 : decode cX9_choose 87 = .ok (.ifCond .eq 20, 3) := by decide +kernel
theorem dX9_choose_90 : decode cX9_choose 90 = .ok (.aload_n 0, 1) := by decide +kernel
theorem dX9_choose_91 : decode cX9_choose 91 = .ok (.iload_n 1, 1) := by decide +kernel
theorem dX9_choose_92 : decode cX9_choose 92 = .ok (.iload_n 2, 1) := by decide +kernel
theorem dX9_choose_93 : decode cX9_choose 93 = .ok (.iload_n 3, 1) := by decide +kernel
theorem dX9_choose_94 : decode cX9_choose 94 = .ok (.aload_n 0, 1) := by decide +kernel
theorem dX9_choose_95 : decode cX9_choose 95 = .ok (.getfield 63, 3) := by decide +kernel
theorem dX9_choose_98 : decode cX9_choose 98 = .ok (.iload_n 1, 1) := by decide +kernel
theorem dX9_choose_99 : decode cX9_choose 99 = .ok (.iload_n 3, 1) := by decide +kernel
theorem dX9_choose_100 : decode cX9_choose 100 = .ok (.isub, 1) := by decide +kernel
theorem dX9_choose_101 : decode cX9_choose 101 = .ok (.iaload, 1) := by decide +kernel
theorem dX9_choose_102 : decode cX9_choose 102 = .ok (.iconst 1, 1) := by decide +kernel
theorem dX9_choose_103 : decode cX9_choose 103 = .ok (.iadd, 1) := by decide +kernel
theorem dX9_choose_104 : decode cX9_choose 104 = .ok (.invokevirtual 207, 3) := by decide +kernel
theorem dX9_choose_107 : decode cX9_choose 107 = .ok (.iinc 3 1, 3) := by decide +kernel
theorem dX9_choose_110 : decode cX9_choose 110 = .ok (.goto (-80), 3) := by decide +kernel
theorem dX9_choose_113 : decode cX9_choose 113 = .ok (.iinc 2 1, 3) := by decide +kernel
theorem dX9_choose_116 : decode cX9_choose 116 = .ok (.goto (-93), 3) := by decide +kernel
theorem dX9_choose_119 : decode cX9_choose 119 = .ok (.aload_n 0, 1) := by decide +kernel
theorem dX9_choose_120 : decode cX9_choose 120 = .ok (.aload_n 0, 1) := by decide +kernel
theorem dX9_choose_121 : decode cX9_choose 121 = .ok (.getfield 17, 3) := by decide +kernel
theorem dX9_choose_124 : decode cX9_choose 124 = .ok (.iload_n 1, 1) := by decide +kernel
theorem dX9_choose_125 : decode cX9_choose 125 = .ok (.iload_n 1, 1) := by decide +kernel
theorem dX9_choose_126 : decode cX9_choose 126 = .ok (.invokevirtual 157, 3) := by decide +kernel
theorem dX9_choose_129 : decode cX9_choose 129 = .ok (.aload_n 0, 1) := by decide +kernel
theorem dX9_choose_130 : decode cX9_choose 130 = .ok (.getfield 142, 3) := by decide +kernel
theorem dX9_choose_133 : decode cX9_choose 133 = .ok (.ifCond .le 11, 3) := by decide +kernel
theorem dX9_choose_136 : decode cX9_choose 136 = .ok (.aload_n 0, 1) := by decide +kernel
theorem dX9_choose_137 : decode cX9_choose 137 = .ok (.iload_n 1, 1) := by decide +kernel
theorem dX9_choose_138 : decode cX9_choose 138 = .ok (.iconst 4, 1) := by decide +kernel
theorem dX9_choose_139 : decode cX9_choose 139 = .ok (.iconst 0, 1) := by decide +kernel
theorem dX9_choose_140 : decode cX9_choose 140 = .ok (.iconst 0, 1) := by decide +kernel
theorem dX9_choose_141 : decode cX9_choose 141 = .ok (.invokevirtual 207, 3) := by decide +kernel
theorem dX9_choose_144 : decode cX9_choose 144 = .ok (.return_, 1) := by decide +kernel
theorem dX9_pack_0 : decode cX9_pack 0 = .ok (.aload_n 0, 1) := by decide +kernel
theorem dX9_pack_1 : decode cX9_pack 1 = .ok (.iconst 0, 1) := by decide +kernel
theorem dX9_pack_2 : decode cX9_pack 2 = .ok (.putfield 1, 3) := by decide +kernel
theorem dX9_pack_5 : decode cX9_pack 5 = .ok (.iconst 0, 1) := by decide +kernel
theorem dX9_pack_6 : decode cX9_pack 6 = .ok (.istore_n 1, 1) := by decide +kernel
theorem dX9_pack_7 : decode cX9_pack 7 = .ok (.iload_n 1, 1) := by decide +kernel
theorem dX9_pack_8 : decode cX9_pack 8 = .ok (.sipush 2304, 3) := by decide +kernel
theorem dX9_pack_11 : decode cX9_pack 11 = .ok (.if_icmp .ge 21, 3) := by decide +kernel
theorem dX9_pack_14 : decode cX9_pack 14 = .ok (.aload_n 0, 1) := by decide +kernel
theorem dX9_pack_15 : decode cX9_pack 15 = .ok (.getfield 17, 3) := by decide +kernel
theorem dX9_pack_18 : decode cX9_pack 18 = .ok (.iload_n 1, 1) := by decide +kernel
theorem dX9_pack_19 : decode cX9_pack 19 = .ok (.aload_n 0, 1) := by decide +kernel
theorem dX9_pack_20 : decode cX9_pack 20 = .ok (.getfield 13, 3) := by decide +kernel
theorem dX9_pack_23 : decode cX9_pack 23 = .ok (.iload_n 1, 1) := by decide +kernel
theorem dX9_pack_24 : decode cX9_pack 24 = .ok (.baload, 1) := by decide +kernel
theorem dX9_pack_25 : decode cX9_pack 25 = .ok (.bastore, 1) := by decide +kernel
theorem dX9_pack_26 : decode cX9_pack 26 = .ok (.iinc 1 1, 3) := by decide +kernel
theorem dX9_pack_29 : decode cX9_pack 29 = .ok (.goto (-22), 3) := by decide +kernel
theorem dX9_pack_32 : decode cX9_pack 32 = .ok (.aload_n 0, 1) := by decide +kernel
theorem dX9_pack_33 : decode cX9_pack 33 = .ok (.iconst 1, 1) := by decide +kernel
theorem dX9_pack_34 : decode cX9_pack 34 = .ok (.putfield 100, 3) := by decide +kernel
theorem dX9_pack_37 : decode cX9_pack 37 = .ok (.aload_n 0, 1) := by decide +kernel
theorem dX9_pack_38 : decode cX9_pack 38 = .ok (.iconst 0, 1) := by decide +kernel
theorem dX9_pack_39 : decode cX9_pack 39 = .ok (.putfield 104, 3) := by decide +kernel
theorem dX9_pack_42 : decode cX9_pack 42 = .ok (.aload_n 0, 1) := by decide +kernel
theorem dX9_pack_43 : decode cX9_pack 43 = .ok (.aload_n 0, 1) := by decide +kernel
theorem dX9_pack_44 : decode cX9_pack 44 = .ok (.getfield 33, 3) := by decide +kernel
theorem dX9_pack_47 : decode cX9_pack 47 = .ok (.putfield 211, 3) := by decide +kernel
theorem dX9_pack_50 : decode cX9_pack 50 = .ok (.aload_n 0, 1) := by decide +kernel
theorem dX9_pack_51 : decode cX9_pack 51 = .ok (.iconst 0, 1) := by decide +kernel
theorem dX9_pack_52 : decode cX9_pack 52 = .ok (.putfield 122, 3) := by decide +kernel
theorem dX9_pack_55 : decode cX9_pack 55 = .ok (.iconst 0, 1) := by decide +kernel
theorem dX9_pack_56 : decode cX9_pack 56 = .ok (.istore_n 1, 1) := by decide +kernel
theorem dX9_pack_57 : decode cX9_pack 57 = .ok (.iload_n 1, 1) := by decide +kernel
theorem dX9_pack_58 : decode cX9_pack 58 = .ok (.aload_n 0, 1) := by decide +kernel
theorem dX9_pack_59 : decode cX9_pack 59 = .ok (.getfield 93, 3) := by decide +kernel
theorem dX9_pack_62 : decode cX9_pack 62 = .ok (.if_icmp .ge 40, 3) := by decide +kernel
theorem dX9_pack_65 : decode cX9_pack 65 = .ok (.aload_n 0, 1) := by decide +kernel
theorem dX9_pack_66 : decode cX9_pack 66 = .ok (.iload_n 1, 1) := by decide +kernel
theorem dX9_pack_67 : decode cX9_pack 67 = .ok (.invokevirtual 214, 3) := by decide +kernel
theorem dX9_pack_70 : decode cX9_pack 70 = .ok (.aload_n 0, 1) := by decide +kernel
theorem dX9_pack_71 : decode cX9_pack 71 = .ok (.aload_n 0, 1) := by decide +kernel
theorem dX9_pack_72 : decode cX9_pack 72 = .ok (.getfield 17, 3) := by decide +kernel
theorem dX9_pack_75 : decode cX9_pack 75 = .ok (.iload_n 1, 1) := by decide +kernel
theorem dX9_pack_76 : decode cX9_pack 76 = .ok (.aload_n 0, 1) := by decide +kernel
theorem dX9_pack_77 : decode cX9_pack 77 = .ok (.getfield 57, 3) := by decide +kernel
theorem dX9_pack_80 : decode cX9_pack 80 = .ok (.iload_n 1, 1) := by decide +kernel
theorem dX9_pack_81 : decode cX9_pack 81 = .ok (.iaload, 1) := by decide +kernel
theorem dX9_pack_82 : decode cX9_pack 82 = .ok (.aload_n 0, 1) := by decide +kernel
theorem dX9_pack_83 : decode cX9_pack 83 = .ok (.getfield 60, 3) := by decide +kernel
theorem dX9_pack_86 : decode cX9_pack 86 = .ok (.iload_n 1, 1) := by decide +kernel
theorem dX9_pack_87 : decode cX9_pack 87 = .ok (.iaload, 1) := by decide +kernel
theorem dX9_pack_88 : decode cX9_pack 88 = .ok (.invokevirtual 175, 3) := by decide +kernel
theorem dX9_pack_91 : decode cX9_pack 91 = .ok (.aload_n 0, 1) := by decide +kernel
theorem dX9_pack_92 : decode cX9_pack 92 = .ok (.iload_n 1, 1) := by decide +kernel
theorem dX9_pack_93 : decode cX9_pack 93 = .ok (.invokevirtual 217, 3) := by decide +kernel
theorem dX9_pack_96 : decode cX9_pack 96 = .ok (.iinc 1 1, 3) := by decide +kernel
theorem dX9_pack_99 : decode cX9_pack 99 = .ok (.goto (-42), 3) := by decide +kernel
theorem dX9_pack_102 : decode cX9_pack 102 = .ok (.aload_n 0, 1) := by decide +kernel
theorem dX9_pack_103 : decode cX9_pack 103 = .ok (.invokevirtual 220, 3) := by decide +kernel
theorem dX9_pack_106 : decode cX9_pack 106 = .ok (.aload_n 0, 1) := by decide +kernel
theorem dX9_pack_107 : decode cX9_pack 107 = .ok (.getfield 122, 3) := by decide +kernel
theorem dX9_pack_110 : decode cX9_pack 110 = .ok (.ireturn, 1) := by decide +kernel
theorem dX9_told_0 : decode cX9_told 0 = .ok (.aload_n 0, 1) := by decide +kernel
theorem dX9_told_1 : decode cX9_told 1 = .ok (.iconst 0, 1) := by decide +kernel
theorem dX9_told_2 : decode cX9_told 2 = .ok (.putfield 1, 3) := by decide +kernel
theorem dX9_told_5 : decode cX9_told 5 = .ok (.aload_n 0, 1) := by decide +kernel
theorem dX9_told_6 : decode cX9_told 6 = .ok (.iload_n 1, 1) := by decide +kernel
theorem dX9_told_7 : decode cX9_told 7 = .ok (.invokevirtual 107, 3) := by decide +kernel
theorem dX9_told_10 : decode cX9_told 10 = .ok (.ifCond .eq 15, 3) := by decide +kernel
theorem dX9_told_13 : decode cX9_told 13 = .ok (.iload_n 2, 1) := by decide +kernel
theorem dX9_told_14 : decode cX9_told 14 = .ok (.i2l, 1) := by decide +kernel
theorem dX9_told_15 : decode cX9_told 15 = .ok (.lconst 0, 1) := by decide +kernel
theorem dX9_told_16 : decode cX9_told 16 = .ok (.ldc2_w 191, 3) := by decide +kernel
theorem dX9_told_19 : decode cX9_told 19 = .ok (.invokestatic 96, 3) := by decide +kernel
theorem dX9_told_22 : decode cX9_told 22 = .ok (.ifCond .ne 6, 3) := by decide +kernel
theorem dX9_told_25 : decode cX9_told 25 = .ok (.bipush (-2), 2) := by decide +kernel
theorem dX9_told_27 : decode cX9_told 27 = .ok (.ireturn, 1) := by decide +kernel
theorem dX9_told_28 : decode cX9_told 28 = .ok (.aload_n 0, 1) := by decide +kernel
theorem dX9_told_29 : decode cX9_told 29 = .ok (.getfield 100, 3) := by decide +kernel
theorem dX9_told_32 : decode cX9_told 32 = .ok (.ifCond .ne 6, 3) := by decide +kernel
theorem dX9_told_35 : decode cX9_told 35 = .ok (.bipush (-3), 2) := by decide +kernel
theorem dX9_told_37 : decode cX9_told 37 = .ok (.ireturn, 1) := by decide +kernel
theorem dX9_told_38 : decode cX9_told 38 = .ok (.iload_n 2, 1) := by decide +kernel
theorem dX9_told_39 : decode cX9_told 39 = .ok (.ifCond .ne 12, 3) := by decide +kernel
theorem dX9_told_42 : decode cX9_told 42 = .ok (.aload_n 0, 1) := by decide +kernel
theorem dX9_told_43 : decode cX9_told 43 = .ok (.getfield 57, 3) := by decide +kernel
theorem dX9_told_46 : decode cX9_told 46 = .ok (.iload_n 1, 1) := by decide +kernel
theorem dX9_told_47 : decode cX9_told 47 = .ok (.iaload, 1) := by decide +kernel
theorem dX9_told_48 : decode cX9_told 48 = .ok (.goto 60, 3) := by decide +kernel
theorem dX9_told_51 : decode cX9_told 51 = .ok (.iload_n 2, 1) := by decide +kernel
theorem dX9_told_52 : decode cX9_told 52 = .ok (.iconst 1, 1) := by decide +kernel
theorem dX9_told_53 : decode cX9_told 53 = .ok (.if_icmp .ne 12, 3) := by decide +kernel
theorem dX9_told_56 : decode cX9_told 56 = .ok (.aload_n 0, 1) := by decide +kernel
theorem dX9_told_57 : decode cX9_told 57 = .ok (.getfield 60, 3) := by decide +kernel
theorem dX9_told_60 : decode cX9_told 60 = .ok (.iload_n 1, 1) := by decide +kernel
theorem dX9_told_61 : decode cX9_told 61 = .ok (.iaload, 1) := by decide +kernel
theorem dX9_told_62 : decode cX9_told 62 = .ok (.goto 46, 3) := by decide +kernel
theorem dX9_told_65 : decode cX9_told 65 = .ok (.iload_n 2, 1) := by decide +kernel
theorem dX9_told_66 : decode cX9_told 66 = .ok (.iconst 2, 1) := by decide +kernel
theorem dX9_told_67 : decode cX9_told 67 = .ok (.if_icmp .ne 12, 3) := by decide +kernel
theorem dX9_told_70 : decode cX9_told 70 = .ok (.aload_n 0, 1) := by decide +kernel
theorem dX9_told_71 : decode cX9_told 71 = .ok (.getfield 63, 3) := by decide +kernel
theorem dX9_told_74 : decode cX9_told 74 = .ok (.iload_n 1, 1) := by decide +kernel
theorem dX9_told_75 : decode cX9_told 75 = .ok (.iaload, 1) := by decide +kernel
theorem dX9_told_76 : decode cX9_told 76 = .ok (.goto 32, 3) := by decide +kernel
theorem dX9_told_79 : decode cX9_told 79 = .ok (.iload_n 2, 1) := by decide +kernel
theorem dX9_told_80 : decode cX9_told 80 = .ok (.iconst 3, 1) := by decide +kernel
theorem dX9_told_81 : decode cX9_told 81 = .ok (.if_icmp .ne 12, 3) := by decide +kernel
theorem dX9_told_84 : decode cX9_told 84 = .ok (.aload_n 0, 1) := by decide +kernel
theorem dX9_told_85 : decode cX9_told 85 = .ok (.getfield 66, 3) := by decide +kernel
theorem dX9_told_88 : decode cX9_told 88 = .ok (.iload_n 1, 1) := by decide +kernel
theorem dX9_told_89 : decode cX9_told 89 = .ok (.iaload, 1) := by decide +kernel
theorem dX9_told_90 : decode cX9_told 90 = .ok (.goto 18, 3) := by decide +kernel
theorem dX9_told_93 : decode cX9_told 93 = .ok (.aload_n 0, 1) := by decide +kernel
theorem dX9_told_94 : decode cX9_told 94 = .ok (.getfield 66, 3) := by decide +kernel
theorem dX9_told_97 : decode cX9_told 97 = .ok (.iload_n 1, 1) := by decide +kernel
theorem dX9_told_98 : decode cX9_told 98 = .ok (.iconst 1, 1) := by decide +kernel
theorem dX9_told_99 : decode cX9_told 99 = .ok (.iadd, 1) := by decide +kernel
theorem dX9_told_100 : decode cX9_told 100 = .ok (.iaload, 1) := by decide +kernel
theorem dX9_told_101 : decode cX9_told 101 = .ok (.aload_n 0, 1) := by decide +kernel
theorem dX9_told_102 : decode cX9_told 102 = .ok (.getfield 66, 3) := by decide +kernel
theorem dX9_told_105 : decode cX9_told 105 = .ok (.iload_n 1, 1) := by decide +kernel
theorem dX9_told_106 : decode cX9_told 106 = .ok (.iaload, 1) := by decide +kernel
theorem dX9_told_107 : decode cX9_told 107 = .ok (.isub, 1) := by decide +kernel
theorem dX9_told_108 : decode cX9_told 108 = .ok (.ireturn, 1) := by decide +kernel
theorem dX9_looked_0 : decode cX9_looked 0 = .ok (.aload_n 0, 1) := by decide +kernel
theorem dX9_looked_1 : decode cX9_looked 1 = .ok (.iconst 0, 1) := by decide +kernel
theorem dX9_looked_2 : decode cX9_looked 2 = .ok (.putfield 1, 3) := by decide +kernel
theorem dX9_looked_5 : decode cX9_looked 5 = .ok (.aload_n 0, 1) := by decide +kernel
theorem dX9_looked_6 : decode cX9_looked 6 = .ok (.iload_n 1, 1) := by decide +kernel
theorem dX9_looked_7 : decode cX9_looked 7 = .ok (.invokevirtual 107, 3) := by decide +kernel
theorem dX9_looked_10 : decode cX9_looked 10 = .ok (.ifCond .ne 6, 3) := by decide +kernel
theorem dX9_looked_13 : decode cX9_looked 13 = .ok (.bipush (-2), 2) := by decide +kernel
theorem dX9_looked_15 : decode cX9_looked 15 = .ok (.ireturn, 1) := by decide +kernel
theorem dX9_looked_16 : decode cX9_looked 16 = .ok (.aload_n 0, 1) := by decide +kernel
theorem dX9_looked_17 : decode cX9_looked 17 = .ok (.getfield 100, 3) := by decide +kernel
theorem dX9_looked_20 : decode cX9_looked 20 = .ok (.ifCond .ne 6, 3) := by decide +kernel
theorem dX9_looked_23 : decode cX9_looked 23 = .ok (.bipush (-3), 2) := by decide +kernel
theorem dX9_looked_25 : decode cX9_looked 25 = .ok (.ireturn, 1) := by decide +kernel
theorem dX9_looked_26 : decode cX9_looked 26 = .ok (.iconst 0, 1) := by decide +kernel
theorem dX9_looked_27 : decode cX9_looked 27 = .ok (.istore_n 2, 1) := by decide +kernel
theorem dX9_looked_28 : decode cX9_looked 28 = .ok (.iload_n 1, 1) := by decide +kernel
theorem dX9_looked_29 : decode cX9_looked 29 = .ok (.istore_n 3, 1) := by decide +kernel
theorem dX9_looked_30 : decode cX9_looked 30 = .ok (.iconst 1, 1) := by decide +kernel
theorem dX9_looked_31 : decode cX9_looked 31 = .ok (.istore 4, 2) := by decide +kernel
theorem dX9_looked_33 : decode cX9_looked 33 = .ok (.iload 4, 2) := by decide +kernel
theorem dX9_looked_35 : decode cX9_looked 35 = .ok (.ifCond .eq 56, 3) := by decide +kernel
theorem dX9_looked_38 : decode cX9_looked 38 = .ok (.iload_n 2, 1) := by decide +kernel
theorem dX9_looked_39 : decode cX9_looked 39 = .ok (.aload_n 0, 1) := by decide +kernel
theorem dX9_looked_40 : decode cX9_looked 40 = .ok (.getfield 66, 3) := by decide +kernel
theorem dX9_looked_43 : decode cX9_looked 43 = .ok (.iload_n 3, 1) := by decide +kernel
theorem dX9_looked_44 : decode cX9_looked 44 = .ok (.iconst 1, 1) := by decide +kernel
theorem dX9_looked_45 : decode cX9_looked 45 = .ok (.iadd, 1) := by decide +kernel
theorem dX9_looked_46 : decode cX9_looked 46 = .ok (.iaload, 1) := by decide +kernel
theorem dX9_looked_47 : decode cX9_looked 47 = .ok (.aload_n 0, 1) := by decide +kernel
theorem dX9_looked_48 : decode cX9_looked 48 = .ok (.getfield 66, 3) := by decide +kernel
theorem dX9_looked_51 : decode cX9_looked 51 = .ok (.iload_n 3, 1) := by decide +kernel
theorem dX9_looked_52 : decode cX9_looked 52 = .ok (.iload_n 3, 1) := by decide +kernel
theorem dX9_looked_53 : decode cX9_looked 53 = .ok (.aload_n 0, 1) := by decide +kernel
theorem dX9_looked_54 : decode cX9_looked 54 = .ok (.getfield 211, 3) := by decide +kernel
theorem dX9_looked_57 : decode cX9_looked 57 = .ok (.irem, 1) := by decide +kernel
theorem dX9_looked_58 : decode cX9_looked 58 = .ok (.isub, 1) := by decide +kernel
theorem dX9_looked_59 : decode cX9_looked 59 = .ok (.iaload, 1) := by decide +kernel
theorem dX9_looked_60 : decode cX9_looked 60 = .ok (.isub, 1) := by decide +kernel
theorem dX9_looked_61 : decode cX9_looked 61 = .ok (.iadd, 1) := by decide +kernel
theorem dX9_looked_62 : decode cX9_looked 62 = .ok (.istore_n 2, 1) := by decide +kernel
theorem dX9_looked_63 : decode cX9_looked 63 = .ok (.aload_n 0, 1) := by decide +kernel
theorem dX9_looked_64 : decode cX9_looked 64 = .ok (.getfield 60, 3) := by decide +kernel
theorem dX9_looked_67 : decode cX9_looked 67 = .ok (.iload_n 3, 1) := by decide +kernel
theorem dX9_looked_68 : decode cX9_looked 68 = .ok (.iaload, 1) := by decide +kernel
theorem dX9_looked_69 : decode cX9_looked 69 = .ok (.ifCond .le 7, 3) := by decide +kernel
theorem dX9_looked_72 : decode cX9_looked 72 = .ok (.iconst 1, 1) := by decide +kernel
theorem dX9_looked_73 : decode cX9_looked 73 = .ok (.goto 4, 3) := by decide +kernel
theorem dX9_looked_76 : decode cX9_looked 76 = .ok (.iconst 0, 1) := by decide +kernel
theorem dX9_looked_77 : decode cX9_looked 77 = .ok (.istore 4, 2) := by decide +kernel
theorem dX9_looked_79 : decode cX9_looked 79 = .ok (.iload_n 3, 1) := by decide +kernel
theorem dX9_looked_80 : decode cX9_looked 80 = .ok (.aload_n 0, 1) := by decide +kernel
theorem dX9_looked_81 : decode cX9_looked 81 = .ok (.getfield 60, 3) := by decide +kernel
theorem dX9_looked_84 : decode cX9_looked 84 = .ok (.iload_n 3, 1) := by decide +kernel
theorem dX9_looked_85 : decode cX9_looked 85 = .ok (.iaload, 1) := by decide +kernel
theorem dX9_looked_86 : decode cX9_looked 86 = .ok (.isub, 1) := by decide +kernel
theorem dX9_looked_87 : decode cX9_looked 87 = .ok (.istore_n 3, 1) := by decide +kernel
theorem dX9_looked_88 : decode cX9_looked 88 = .ok (.goto (-55), 3) := by decide +kernel
theorem dX9_looked_91 : decode cX9_looked 91 = .ok (.iload_n 2, 1) := by decide +kernel
theorem dX9_looked_92 : decode cX9_looked 92 = .ok (.ireturn, 1) := by decide +kernel
theorem dX9_bitsOfUse_0 : decode cX9_bitsOfUse 0 = .ok (.iconst 0, 1) := by decide +kernel
theorem dX9_bitsOfUse_1 : decode cX9_bitsOfUse 1 = .ok (.istore_n 3, 1) := by decide +kernel
theorem dX9_bitsOfUse_2 : decode cX9_bitsOfUse 2 = .ok (.iconst 0, 1) := by decide +kernel
theorem dX9_bitsOfUse_3 : decode cX9_bitsOfUse 3 = .ok (.istore 4, 2) := by decide +kernel
theorem dX9_bitsOfUse_5 : decode cX9_bitsOfUse 5 = .ok (.iload 4, 2) := by decide +kernel
theorem dX9_bitsOfUse_7 : decode cX9_bitsOfUse 7 = .ok (.aload_n 0, 1) := by decide +kernel
theorem dX9_bitsOfUse_8 : decode cX9_bitsOfUse 8 = .ok (.getfield 93, 3) := by decide +kernel
theorem dX9_bitsOfUse_11 : decode cX9_bitsOfUse 11 = .ok (.if_icmp .ge 80, 3) := by decide +kernel
theorem dX9_bitsOfUse_14 : decode cX9_bitsOfUse 14 = .ok (.aload_n 0, 1) := by decide +kernel
theorem dX9_bitsOfUse_15 : decode cX9_bitsOfUse 15 = .ok (.aload_n 0, 1) := by decide +kernel
theorem dX9_bitsOfUse_16 : decode cX9_bitsOfUse 16 = .ok (.getfield 17, 3) := by decide +kernel
theorem dX9_bitsOfUse_19 : decode cX9_bitsOfUse 19 = .ok (.iload 4, 2) := by decide +kernel
theorem dX9_bitsOfUse_21 : decode cX9_bitsOfUse 21 = .ok (.aload_n 0, 1) := by decide +kernel
theorem dX9_bitsOfUse_22 : decode cX9_bitsOfUse 22 = .ok (.getfield 57, 3) := by decide +kernel
theorem dX9_bitsOfUse_25 : decode cX9_bitsOfUse 25 = .ok (.iload 4, 2) := by decide +kernel
theorem dX9_bitsOfUse_27 : decode cX9_bitsOfUse 27 = .ok (.iaload, 1) := by decide +kernel
theorem dX9_bitsOfUse_28 : decode cX9_bitsOfUse 28 = .ok (.aload_n 0, 1) := by decide +kernel
theorem dX9_bitsOfUse_29 : decode cX9_bitsOfUse 29 = .ok (.getfield 60, 3) := by decide +kernel
theorem dX9_bitsOfUse_32 : decode cX9_bitsOfUse 32 = .ok (.iload 4, 2) := by decide +kernel
theorem dX9_bitsOfUse_34 : decode cX9_bitsOfUse 34 = .ok (.iaload, 1) := by decide +kernel
theorem dX9_bitsOfUse_35 : decode cX9_bitsOfUse 35 = .ok (.invokevirtual 175, 3) := by decide +kernel
theorem dX9_bitsOfUse_38 : decode cX9_bitsOfUse 38 = .ok (.iconst 0, 1) := by decide +kernel
theorem dX9_bitsOfUse_39 : decode cX9_bitsOfUse 39 = .ok (.istore 5, 2) := by decide +kernel
theorem dX9_bitsOfUse_41 : decode cX9_bitsOfUse 41 = .ok (.iload 5, 2) := by decide +kernel
theorem dX9_bitsOfUse_43 : decode cX9_bitsOfUse 43 = .ok (.aload_n 0, 1) := by decide +kernel
theorem dX9_bitsOfUse_44 : decode cX9_bitsOfUse 44 = .ok (.getfield 139, 3) := by decide +kernel
theorem dX9_bitsOfUse_47 : decode cX9_bitsOfUse 47 = .ok (.if_icmp .ge 38, 3) := by decide +kernel
theorem dX9_bitsOfUse_50 : decode cX9_bitsOfUse 50 = .ok (.iload_n 3, 1) := by decide +kernel
theorem dX9_bitsOfUse_51 : decode cX9_bitsOfUse 51 = .ok (.aload_n 0, 1) := by decide +kernel
theorem dX9_bitsOfUse_52 : decode cX9_bitsOfUse 52 = .ok (.getfield 42, 3) := by decide +kernel
theorem dX9_bitsOfUse_55 : decode cX9_bitsOfUse 55 = .ok (.iload 5, 2) := by decide +kernel
theorem dX9_bitsOfUse_57 : decode cX9_bitsOfUse 57 = .ok (.iaload, 1) := by decide +kernel
theorem dX9_bitsOfUse_58 : decode cX9_bitsOfUse 58 = .ok (.iload_n 1, 1) := by decide +kernel
theorem dX9_bitsOfUse_59 : decode cX9_bitsOfUse 59 = .ok (.if_icmp .ne 17, 3) := by decide +kernel
theorem dX9_bitsOfUse_62 : decode cX9_bitsOfUse 62 = .ok (.iload_n 2, 1) := by decide +kernel
theorem dX9_bitsOfUse_63 : decode cX9_bitsOfUse 63 = .ok (.aload_n 0, 1) := by decide +kernel
theorem dX9_bitsOfUse_64 : decode cX9_bitsOfUse 64 = .ok (.getfield 45, 3) := by decide +kernel
theorem dX9_bitsOfUse_67 : decode cX9_bitsOfUse 67 = .ok (.iload 5, 2) := by decide +kernel
theorem dX9_bitsOfUse_69 : decode cX9_bitsOfUse 69 = .ok (.iaload, 1) := by decide +kernel
theorem dX9_bitsOfUse_70 : decode cX9_bitsOfUse 70 = .ok (.invokestatic 171, 3) := by decide +kernel
theorem dX9_bitsOfUse_73 : decode cX9_bitsOfUse 73 = .ok (.goto 4, 3) := by decide +kernel
theorem dX9_bitsOfUse_76 : decode cX9_bitsOfUse 76 = .ok (.iconst 0, 1) := by decide +kernel
theorem dX9_bitsOfUse_77 : decode cX9_bitsOfUse 77 = .ok (.iadd, 1) := by decide +kernel
theorem dX9_bitsOfUse_78 : decode cX9_bitsOfUse 78 = .ok (.istore_n 3, 1) := by decide +kernel
theorem dX9_bitsOfUse_79 : decode cX9_bitsOfUse 79 = .ok (.iinc 5 1, 3) := by decide +kernel
theorem dX9_bitsOfUse_82 : decode cX9_bitsOfUse 82 = .ok (.goto (-41), 3) := by decide +kernel
theorem dX9_bitsOfUse_85 : decode cX9_bitsOfUse 85 = .ok (.iinc 4 1, 3) := by decide +kernel
theorem dX9_bitsOfUse_88 : decode cX9_bitsOfUse 88 = .ok (.goto (-83), 3) := by decide +kernel
theorem dX9_bitsOfUse_91 : decode cX9_bitsOfUse 91 = .ok (.iload_n 3, 1) := by decide +kernel
theorem dX9_bitsOfUse_92 : decode cX9_bitsOfUse 92 = .ok (.ireturn, 1) := by decide +kernel
theorem dX9_would_0 : decode cX9_would 0 = .ok (.aload_n 0, 1) := by decide +kernel
theorem dX9_would_1 : decode cX9_would 1 = .ok (.iconst 0, 1) := by decide +kernel
theorem dX9_would_2 : decode cX9_would 2 = .ok (.putfield 1, 3) := by decide +kernel
theorem dX9_would_5 : decode cX9_would 5 = .ok (.iload_n 1, 1) := by decide +kernel
theorem dX9_would_6 : decode cX9_would 6 = .ok (.i2l, 1) := by decide +kernel
theorem dX9_would_7 : decode cX9_would 7 = .ok (.lconst 0, 1) := by decide +kernel
theorem dX9_would_8 : decode cX9_would 8 = .ok (.ldc2_w 183, 3) := by decide +kernel
theorem dX9_would_11 : decode cX9_would 11 = .ok (.invokestatic 96, 3) := by decide +kernel
theorem dX9_would_14 : decode cX9_would 14 = .ok (.ifCond .eq 15, 3) := by decide +kernel
theorem dX9_would_17 : decode cX9_would 17 = .ok (.iload_n 2, 1) := by decide +kernel
theorem dX9_would_18 : decode cX9_would 18 = .ok (.i2l, 1) := by decide +kernel
theorem dX9_would_19 : decode cX9_would 19 = .ok (.lconst 0, 1) := by decide +kernel
theorem dX9_would_20 : decode cX9_would 20 = .ok (.ldc2_w 185, 3) := by decide +kernel
theorem dX9_would_23 : decode cX9_would 23 = .ok (.invokestatic 96, 3) := by decide +kernel
theorem dX9_would_26 : decode cX9_would 26 = .ok (.ifCond .ne 6, 3) := by decide +kernel
theorem dX9_would_29 : decode cX9_would 29 = .ok (.bipush (-2), 2) := by decide +kernel
theorem dX9_would_31 : decode cX9_would 31 = .ok (.ireturn, 1) := by decide +kernel
theorem dX9_would_32 : decode cX9_would 32 = .ok (.aload_n 0, 1) := by decide +kernel
theorem dX9_would_33 : decode cX9_would 33 = .ok (.getfield 100, 3) := by decide +kernel
theorem dX9_would_36 : decode cX9_would 36 = .ok (.ifCond .eq 12, 3) := by decide +kernel
theorem dX9_would_39 : decode cX9_would 39 = .ok (.aload_n 0, 1) := by decide +kernel
theorem dX9_would_40 : decode cX9_would 40 = .ok (.iload_n 1, 1) := by decide +kernel
theorem dX9_would_41 : decode cX9_would 41 = .ok (.iload_n 2, 1) := by decide +kernel
theorem dX9_would_42 : decode cX9_would 42 = .ok (.invokevirtual 223, 3) := by decide +kernel
theorem dX9_would_45 : decode cX9_would 45 = .ok (.goto 5, 3) := by decide +kernel
theorem dX9_would_48 : decode cX9_would 48 = .ok (.bipush (-3), 2) := by decide +kernel
theorem dX9_would_50 : decode cX9_would 50 = .ok (.ireturn, 1) := by decide +kernel
theorem dX9_forms_0 : decode cX9_forms 0 = .ok (.aload_n 0, 1) := by decide +kernel
theorem dX9_forms_1 : decode cX9_forms 1 = .ok (.iconst 0, 1) := by decide +kernel
theorem dX9_forms_2 : decode cX9_forms 2 = .ok (.putfield 1, 3) := by decide +kernel
theorem dX9_forms_5 : decode cX9_forms 5 = .ok (.aload_n 0, 1) := by decide +kernel
theorem dX9_forms_6 : decode cX9_forms 6 = .ok (.getfield 100, 3) := by decide +kernel
theorem dX9_forms_9 : decode cX9_forms 9 = .ok (.ifCond .eq 10, 3) := by decide +kernel
theorem dX9_forms_12 : decode cX9_forms 12 = .ok (.aload_n 0, 1) := by decide +kernel
theorem dX9_forms_13 : decode cX9_forms 13 = .ok (.getfield 104, 3) := by decide +kernel
theorem dX9_forms_16 : decode cX9_forms 16 = .ok (.ifCond .le 6, 3) := by decide +kernel
theorem dX9_forms_19 : decode cX9_forms 19 = .ok (.bipush (-3), 2) := by decide +kernel
theorem dX9_forms_21 : decode cX9_forms 21 = .ok (.ireturn, 1) := by decide +kernel
theorem dX9_forms_22 : decode cX9_forms 22 = .ok (.iconst 0, 1) := by decide +kernel
theorem dX9_forms_23 : decode cX9_forms 23 = .ok (.istore_n 1, 1) := by decide +kernel
theorem dX9_forms_24 : decode cX9_forms 24 = .ok (.iload_n 1, 1) := by decide +kernel
theorem dX9_forms_25 : decode cX9_forms 25 = .ok (.bipush 8, 2) := by decide +kernel
theorem dX9_forms_27 : decode cX9_forms 27 = .ok (.if_icmp .ge 53, 3) := by decide +kernel
theorem dX9_forms_30 : decode cX9_forms 30 = .ok (.iconst 0, 1) := by decide +kernel
theorem dX9_forms_31 : decode cX9_forms 31 = .ok (.istore_n 2, 1) := by decide +kernel
theorem dX9_forms_32 : decode cX9_forms 32 = .ok (.iconst 1, 1) := by decide +kernel
theorem dX9_forms_33 : decode cX9_forms 33 = .ok (.istore_n 3, 1) := by decide +kernel
theorem dX9_forms_34 : decode cX9_forms 34 = .ok (.iload_n 3, 1) := by decide +kernel
theorem dX9_forms_35 : decode cX9_forms 35 = .ok (.bipush 10, 2) := by decide +kernel
theorem dX9_forms_37 : decode cX9_forms 37 = .ok (.if_icmp .ge 30, 3) := by decide +kernel
theorem dX9_forms_40 : decode cX9_forms 40 = .ok (.aload_n 0, 1) := by decide +kernel
theorem dX9_forms_41 : decode cX9_forms 41 = .ok (.iload_n 1, 1) := by decide +kernel
theorem dX9_forms_42 : decode cX9_forms 42 = .ok (.iload_n 3, 1) := by decide +kernel
theorem dX9_forms_43 : decode cX9_forms 43 = .ok (.invokevirtual 223, 3) := by decide +kernel
theorem dX9_forms_46 : decode cX9_forms 46 = .ok (.aload_n 0, 1) := by decide +kernel
theorem dX9_forms_47 : decode cX9_forms 47 = .ok (.iload_n 1, 1) := by decide +kernel
theorem dX9_forms_48 : decode cX9_forms 48 = .ok (.iload_n 2, 1) := by decide +kernel
theorem dX9_forms_49 : decode cX9_forms 49 = .ok (.invokevirtual 223, 3) := by decide +kernel
theorem dX9_forms_52 : decode cX9_forms 52 = .ok (.if_icmp .ge 7, 3) := by decide +kernel
theorem dX9_forms_55 : decode cX9_forms 55 = .ok (.iload_n 3, 1) := by decide +kernel
theorem dX9_forms_56 : decode cX9_forms 56 = .ok (.goto 4, 3) := by decide +kernel
theorem dX9_forms_59 : decode cX9_forms 59 = .ok (.iload_n 2, 1) := by decide +kernel
theorem dX9_forms_60 : decode cX9_forms 60 = .ok (.istore_n 2, 1) := by decide +kernel
theorem dX9_forms_61 : decode cX9_forms 61 = .ok (.iinc 3 1, 3) := by decide +kernel
theorem dX9_forms_64 : decode cX9_forms 64 = .ok (.goto (-30), 3) := by decide +kernel
theorem dX9_forms_67 : decode cX9_forms 67 = .ok (.aload_n 0, 1) := by decide +kernel
theorem dX9_forms_68 : decode cX9_forms 68 = .ok (.getfield 23, 3) := by decide +kernel
theorem dX9_forms_71 : decode cX9_forms 71 = .ok (.iload_n 1, 1) := by decide +kernel
theorem dX9_forms_72 : decode cX9_forms 72 = .ok (.iload_n 2, 1) := by decide +kernel
theorem dX9_forms_73 : decode cX9_forms 73 = .ok (.iastore, 1) := by decide +kernel
theorem dX9_forms_74 : decode cX9_forms 74 = .ok (.iinc 1 1, 3) := by decide +kernel
theorem dX9_forms_77 : decode cX9_forms 77 = .ok (.goto (-53), 3) := by decide +kernel
theorem dX9_forms_80 : decode cX9_forms 80 = .ok (.aload_n 0, 1) := by decide +kernel
theorem dX9_forms_81 : decode cX9_forms 81 = .ok (.iconst 0, 1) := by decide +kernel
theorem dX9_forms_82 : decode cX9_forms 82 = .ok (.putfield 122, 3) := by decide +kernel
theorem dX9_forms_85 : decode cX9_forms 85 = .ok (.iconst 0, 1) := by decide +kernel
theorem dX9_forms_86 : decode cX9_forms 86 = .ok (.istore_n 1, 1) := by decide +kernel
theorem dX9_forms_87 : decode cX9_forms 87 = .ok (.iload_n 1, 1) := by decide +kernel
theorem dX9_forms_88 : decode cX9_forms 88 = .ok (.aload_n 0, 1) := by decide +kernel
theorem dX9_forms_89 : decode cX9_forms 89 = .ok (.getfield 93, 3) := by decide +kernel
theorem dX9_forms_92 : decode cX9_forms 92 = .ok (.if_icmp .ge 35, 3) := by decide +kernel
theorem dX9_forms_95 : decode cX9_forms 95 = .ok (.aload_n 0, 1) := by decide +kernel
theorem dX9_forms_96 : decode cX9_forms 96 = .ok (.aload_n 0, 1) := by decide +kernel
theorem dX9_forms_97 : decode cX9_forms 97 = .ok (.getfield 17, 3) := by decide +kernel
theorem dX9_forms_100 : decode cX9_forms 100 = .ok (.iload_n 1, 1) := by decide +kernel
theorem dX9_forms_101 : decode cX9_forms 101 = .ok (.aload_n 0, 1) := by decide +kernel
theorem dX9_forms_102 : decode cX9_forms 102 = .ok (.getfield 57, 3) := by decide +kernel
theorem dX9_forms_105 : decode cX9_forms 105 = .ok (.iload_n 1, 1) := by decide +kernel
theorem dX9_forms_106 : decode cX9_forms 106 = .ok (.iaload, 1) := by decide +kernel
theorem dX9_forms_107 : decode cX9_forms 107 = .ok (.aload_n 0, 1) := by decide +kernel
theorem dX9_forms_108 : decode cX9_forms 108 = .ok (.getfield 60, 3) := by decide +kernel
theorem dX9_forms_111 : decode cX9_forms 111 = .ok (.iload_n 1, 1) := by decide +kernel
theorem dX9_forms_112 : decode cX9_forms 112 = .ok (.iaload, 1) := by decide +kernel
theorem dX9_forms_113 : decode cX9_forms 113 = .ok (.invokevirtual 175, 3) := by decide +kernel
theorem dX9_forms_116 : decode cX9_forms 116 = .ok (.aload_n 0, 1) := by decide +kernel
theorem dX9_forms_117 : decode cX9_forms 117 = .ok (.iload_n 1, 1) := by decide +kernel
theorem dX9_forms_118 : decode cX9_forms 118 = .ok (.invokevirtual 217, 3) := by decide +kernel
theorem dX9_forms_121 : decode cX9_forms 121 = .ok (.iinc 1 1, 3) := by decide +kernel
theorem dX9_forms_124 : decode cX9_forms 124 = .ok (.goto (-37), 3) := by decide +kernel
theorem dX9_forms_127 : decode cX9_forms 127 = .ok (.aload_n 0, 1) := by decide +kernel
theorem dX9_forms_128 : decode cX9_forms 128 = .ok (.invokevirtual 220, 3) := by decide +kernel
theorem dX9_forms_131 : decode cX9_forms 131 = .ok (.aload_n 0, 1) := by decide +kernel
theorem dX9_forms_132 : decode cX9_forms 132 = .ok (.getfield 122, 3) := by decide +kernel
theorem dX9_forms_135 : decode cX9_forms 135 = .ok (.ireturn, 1) := by decide +kernel
theorem dX9_weigh_0 : decode cX9_weigh 0 = .ok (.aload_n 0, 1) := by decide +kernel
theorem dX9_weigh_1 : decode cX9_weigh 1 = .ok (.aload_n 0, 1) := by decide +kernel
theorem dX9_weigh_2 : decode cX9_weigh 2 = .ok (.getfield 13, 3) := by decide +kernel
theorem dX9_weigh_5 : decode cX9_weigh 5 = .ok (.iload_n 1, 1) := by decide +kernel
theorem dX9_weigh_6 : decode cX9_weigh 6 = .ok (.iconst 0, 1) := by decide +kernel
theorem dX9_weigh_7 : decode cX9_weigh 7 = .ok (.iconst 0, 1) := by decide +kernel
theorem dX9_weigh_8 : decode cX9_weigh 8 = .ok (.invokevirtual 197, 3) := by decide +kernel
theorem dX9_weigh_11 : decode cX9_weigh 11 = .ok (.istore_n 2, 1) := by decide +kernel
theorem dX9_weigh_12 : decode cX9_weigh 12 = .ok (.aload_n 0, 1) := by decide +kernel
theorem dX9_weigh_13 : decode cX9_weigh 13 = .ok (.aload_n 0, 1) := by decide +kernel
theorem dX9_weigh_14 : decode cX9_weigh 14 = .ok (.getfield 13, 3) := by decide +kernel
theorem dX9_weigh_17 : decode cX9_weigh 17 = .ok (.iload_n 1, 1) := by decide +kernel
theorem dX9_weigh_18 : decode cX9_weigh 18 = .ok (.iconst 1, 1) := by decide +kernel
theorem dX9_weigh_19 : decode cX9_weigh 19 = .ok (.iconst 0, 1) := by decide +kernel
theorem dX9_weigh_20 : decode cX9_weigh 20 = .ok (.invokevirtual 197, 3) := by decide +kernel
theorem dX9_weigh_23 : decode cX9_weigh 23 = .ok (.istore_n 3, 1) := by decide +kernel
theorem dX9_weigh_24 : decode cX9_weigh 24 = .ok (.aload_n 0, 1) := by decide +kernel
theorem dX9_weigh_25 : decode cX9_weigh 25 = .ok (.getfield 69, 3) := by decide +kernel
theorem dX9_weigh_28 : decode cX9_weigh 28 = .ok (.iload_n 1, 1) := by decide +kernel
theorem dX9_weigh_29 : decode cX9_weigh 29 = .ok (.iload_n 2, 1) := by decide +kernel
theorem dX9_weigh_30 : decode cX9_weigh 30 = .ok (.iload_n 3, 1) := by decide +kernel
theorem dX9_weigh_31 : decode cX9_weigh 31 = .ok (.if_icmp .ge 7, 3) := by decide +kernel
theorem dX9_weigh_34 : decode cX9_weigh 34 = .ok (.iload_n 2, 1) := by decide +kernel
theorem dX9_weigh_35 : decode cX9_weigh 35 = .ok (.goto 4, 3) := by decide +kernel
theorem dX9_weigh_38 : decode cX9_weigh 38 = .ok (.iload_n 3, 1) := by decide +kernel
theorem dX9_weigh_39 : decode cX9_weigh 39 = .ok (.iastore, 1) := by decide +kernel
theorem dX9_weigh_40 : decode cX9_weigh 40 = .ok (.aload_n 0, 1) := by decide +kernel
theorem dX9_weigh_41 : decode cX9_weigh 41 = .ok (.iload_n 1, 1) := by decide +kernel
theorem dX9_weigh_42 : decode cX9_weigh 42 = .ok (.invokevirtual 115, 3) := by decide +kernel
theorem dX9_weigh_45 : decode cX9_weigh 45 = .ok (.ifCond .le 44, 3) := by decide +kernel
theorem dX9_weigh_48 : decode cX9_weigh 48 = .ok (.aload_n 0, 1) := by decide +kernel
theorem dX9_weigh_49 : decode cX9_weigh 49 = .ok (.aload_n 0, 1) := by decide +kernel
theorem dX9_weigh_50 : decode cX9_weigh 50 = .ok (.getfield 13, 3) := by decide +kernel
theorem dX9_weigh_53 : decode cX9_weigh 53 = .ok (.iload_n 1, 1) := by decide +kernel
theorem dX9_weigh_54 : decode cX9_weigh 54 = .ok (.iconst 4, 1) := by decide +kernel
theorem dX9_weigh_55 : decode cX9_weigh 55 = .ok (.iconst 0, 1) := by decide +kernel
theorem dX9_weigh_56 : decode cX9_weigh 56 = .ok (.invokevirtual 197, 3) := by decide +kernel
theorem dX9_weigh_59 : decode cX9_weigh 59 = .ok (.istore 4, 2) := by decide +kernel
theorem dX9_weigh_61 : decode cX9_weigh 61 = .ok (.aload_n 0, 1) := by decide +kernel
theorem dX9_weigh_62 : decode cX9_weigh 62 = .ok (.getfield 69, 3) := by decide +kernel
theorem dX9_weigh_65 : decode cX9_weigh 65 = .ok (.iload_n 1, 1) := by decide +kernel
theorem dX9_weigh_66 : decode cX9_weigh 66 = .ok (.iload 4, 2) := by decide +kernel
theorem dX9_weigh_68 : decode cX9_weigh 68 = .ok (.aload_n 0, 1) := by decide +kernel
theorem dX9_weigh_69 : decode cX9_weigh 69 = .ok (.getfield 69, 3) := by decide +kernel
theorem dX9_weigh_72 : decode cX9_weigh 72 = .ok (.iload_n 1, 1) := by decide +kernel
theorem dX9_weigh_73 : decode cX9_weigh 73 = .ok (.iaload, 1) := by decide +kernel
theorem dX9_weigh_74 : decode cX9_weigh 74 = .ok (.if_icmp .ge 8, 3) := by decide +kernel
theorem dX9_weigh_77 : decode cX9_weigh 77 = .ok (.iload 4, 2) := by decide +kernel
theorem dX9_weigh_79 : decode cX9_weigh 79 = .ok (.goto 9, 3) := by decide +kernel
theorem dX9_weigh_82 : decode cX9_weigh 82 = .ok (.aload_n 0, 1) := by decide +kernel
theorem dX9_weigh_83 : decode cX9_weigh 83 = .ok (.getfield 69, 3) := by decide +kernel
theorem dX9_weigh_86 : decode cX9_weigh 86 = .ok (.iload_n 1, 1) := by decide +kernel
theorem dX9_weigh_87 : decode cX9_weigh 87 = .ok (.iaload, 1) := by decide +kernel
theorem dX9_weigh_88 : decode cX9_weigh 88 = .ok (.iastore, 1) := by decide +kernel
theorem dX9_weigh_89 : decode cX9_weigh 89 = .ok (.aload_n 0, 1) := by decide +kernel
theorem dX9_weigh_90 : decode cX9_weigh 90 = .ok (.getfield 75, 3) := by decide +kernel
theorem dX9_weigh_93 : decode cX9_weigh 93 = .ok (.iload_n 1, 1) := by decide +kernel
theorem dX9_weigh_94 : decode cX9_weigh 94 = .ok (.iconst (-1), 1) := by decide +kernel
theorem dX9_weigh_95 : decode cX9_weigh 95 = .ok (.iastore, 1) := by decide +kernel
theorem dX9_weigh_96 : decode cX9_weigh 96 = .ok (.aload_n 0, 1) := by decide +kernel
theorem dX9_weigh_97 : decode cX9_weigh 97 = .ok (.getfield 72, 3) := by decide +kernel
theorem dX9_weigh_100 : decode cX9_weigh 100 = .ok (.iload_n 1, 1) := by decide +kernel
theorem dX9_weigh_101 : decode cX9_weigh 101 = .ok (.ldc 226, 2) := by decide +kernel
theorem dX9_weigh_103 : decode cX9_weigh 103 = .ok (.iastore, 1) := by decide +kernel
theorem dX9_weigh_104 : decode cX9_weigh 104 = .ok (.iconst 1, 1) := by decide +kernel
theorem dX9_weigh_105 : decode cX9_weigh 105 = .ok (.istore 4, 2) := by decide +kernel
theorem dX9_weigh_107 : decode cX9_weigh 107 = .ok (.iload 4, 2) := by decide +kernel
theorem dX9_weigh_109 : decode cX9_weigh 109 = .ok (.aload_n 0, 1) := by decide +kernel
theorem dX9_weigh_110 : decode cX9_weigh 110 = .ok (.getfield 27, 3) := by decide +kernel
theorem dX9_weigh_113 : decode cX9_weigh 113 = .ok (.if_icmp .gt 109, 3) := by decide +kernel
theorem dX9_weigh_116 : decode cX9_weigh 116 = .ok (.iload 4, 2) := by decide +kernel
theorem dX9_weigh_118 : decode cX9_weigh 118 = .ok (.iload_n 1, 1) := by decide +kernel
theorem dX9_weigh_119 : decode cX9_weigh 119 = .ok (.if_icmp .gt 103, 3) := by decide +kernel
theorem dX9_weigh_122 : decode cX9_weigh 122 = .ok (.aload_n 0, 1) := by decide +kernel
theorem dX9_weigh_123 : decode cX9_weigh 123 = .ok (.aload_n 0, 1) := by decide +kernel
theorem dX9_weigh_124 : decode cX9_weigh 124 = .ok (.getfield 13, 3) := by decide +kernel
theorem dX9_weigh_127 : decode cX9_weigh 127 = .ok (.iload_n 1, 1) := by decide +kernel
theorem dX9_weigh_128 : decode cX9_weigh 128 = .ok (.iconst 2, 1) := by decide +kernel
theorem dX9_weigh_129 : decode cX9_weigh 129 = .ok (.iload 4, 2) := by decide +kernel
theorem dX9_weigh_131 : decode cX9_weigh 131 = .ok (.invokevirtual 197, 3) := by decide +kernel
theorem dX9_weigh_134 : decode cX9_weigh 134 = .ok (.istore 5, 2) := by decide +kernel
theorem dX9_weigh_136 : decode cX9_weigh 136 = .ok (.aload_n 0, 1) := by decide +kernel
theorem dX9_weigh_137 : decode cX9_weigh 137 = .ok (.aload_n 0, 1) := by decide +kernel
theorem dX9_weigh_138 : decode cX9_weigh 138 = .ok (.getfield 13, 3) := by decide +kernel
theorem dX9_weigh_141 : decode cX9_weigh 141 = .ok (.iload_n 1, 1) := by decide +kernel
theorem dX9_weigh_142 : decode cX9_weigh 142 = .ok (.iload_n 1, 1) := by decide +kernel
theorem dX9_weigh_143 : decode cX9_weigh 143 = .ok (.iload 4, 2) := by decide +kernel
theorem dX9_weigh_145 : decode cX9_weigh 145 = .ok (.isub, 1) := by decide +kernel
theorem dX9_weigh_146 : decode cX9_weigh 146 = .ok (.invokevirtual 193, 3) := by decide +kernel
theorem dX9_weigh_149 : decode cX9_weigh 149 = .ok (.ifCond .eq 18, 3) := by decide +kernel
theorem dX9_weigh_152 : decode cX9_weigh 152 = .ok (.aload_n 0, 1) := by decide +kernel
theorem dX9_weigh_153 : decode cX9_weigh 153 = .ok (.aload_n 0, 1) := by decide +kernel
theorem dX9_weigh_154 : decode cX9_weigh 154 = .ok (.getfield 13, 3) := by decide +kernel
theorem dX9_weigh_157 : decode cX9_weigh 157 = .ok (.iload_n 1, 1) := by decide +kernel
theorem dX9_weigh_158 : decode cX9_weigh 158 = .ok (.iconst 3, 1) := by decide +kernel
theorem dX9_weigh_159 : decode cX9_weigh 159 = .ok (.iload 4, 2) := by decide +kernel
theorem dX9_weigh_161 : decode cX9_weigh 161 = .ok (.invokevirtual 197, 3) := by decide +kernel
theorem dX9_weigh_164 : decode cX9_weigh 164 = .ok (.goto 5, 3) := by decide +kernel
theorem dX9_weigh_167 : decode cX9_weigh 167 = .ok (.ldc 226, 2) := by decide +kernel
theorem dX9_weigh_169 : decode cX9_weigh 169 = .ok (.istore 6, 2) := by decide +kernel
theorem dX9_weigh_171 : decode cX9_weigh 171 = .ok (.iload 5, 2) := by decide +kernel
theorem dX9_weigh_173 : decode cX9_weigh 173 = .ok (.iload 6, 2) := by decide +kernel
theorem dX9_weigh_175 : decode cX9_weigh 175 = .ok (.if_icmp .ge 8, 3) := by decide +kernel
theorem dX9_weigh_178 : decode cX9_weigh 178 = .ok (.iload 5, 2) := by decide +kernel
theorem dX9_weigh_180 : decode cX9_weigh 180 = .ok (.goto 5, 3) := by decide +kernel
theorem dX9_weigh_183 : decode cX9_weigh 183 = .ok (.iload 6, 2) := by decide +kernel
theorem dX9_weigh_185 : decode cX9_weigh 185 = .ok (.istore 7, 2) := by decide +kernel
theorem dX9_weigh_187 : decode cX9_weigh 187 = .ok (.iload 7, 2) := by decide +kernel
theorem dX9_weigh_189 : decode cX9_weigh 189 = .ok (.aload_n 0, 1) := by decide +kernel
theorem dX9_weigh_190 : decode cX9_weigh 190 = .ok (.getfield 72, 3) := by decide +kernel
theorem dX9_weigh_193 : decode cX9_weigh 193 = .ok (.iload_n 1, 1) := by decide +kernel
theorem dX9_weigh_194 : decode cX9_weigh 194 = .ok (.iaload, 1) := by decide +kernel
theorem dX9_weigh_195 : decode cX9_weigh 195 = .ok (.if_icmp .ge 21, 3) := by decide +kernel
theorem dX9_weigh_198 : decode cX9_weigh 198 = .ok (.aload_n 0, 1) := by decide +kernel
theorem dX9_weigh_199 : decode cX9_weigh 199 = .ok (.getfield 72, 3) := by decide +kernel
theorem dX9_weigh_202 : decode cX9_weigh 202 = .ok (.iload_n 1, 1) := by decide +kernel
theorem dX9_weigh_203 : decode cX9_weigh 203 = .ok (.iload 7, 2) := by decide +kernel
theorem dX9_weigh_205 : decode cX9_weigh 205 = .ok (.iastore, 1) := by decide +kernel
theorem dX9_weigh_206 : decode cX9_weigh 206 = .ok (.aload_n 0, 1) := by decide +kernel
theorem dX9_weigh_207 : decode cX9_weigh 207 = .ok (.getfield 75, 3) := by decide +kernel
theorem dX9_weigh_210 : decode cX9_weigh 210 = .ok (.iload_n 1, 1) := by decide +kernel
theorem dX9_weigh_211 : decode cX9_weigh 211 = .ok (.iload_n 1, 1) := by decide +kernel
theorem dX9_weigh_212 : decode cX9_weigh 212 = .ok (.iload 4, 2) := by decide +kernel
theorem dX9_weigh_214 : decode cX9_weigh 214 = .ok (.isub, 1) := by decide +kernel
theorem dX9_weigh_215 : decode cX9_weigh 215 = .ok (.iastore, 1) := by decide +kernel
theorem dX9_weigh_216 : decode cX9_weigh 216 = .ok (.iinc 4 1, 3) := by decide +kernel
theorem dX9_weigh_219 : decode cX9_weigh 219 = .ok (.goto (-112), 3) := by decide +kernel
theorem dX9_weigh_222 : decode cX9_weigh 222 = .ok (.return_, 1) := by decide +kernel
theorem dX9_best_0 : decode cX9_best 0 = .ok (.aload_n 0, 1) := by decide +kernel
theorem dX9_best_1 : decode cX9_best 1 = .ok (.iconst 0, 1) := by decide +kernel
theorem dX9_best_2 : decode cX9_best 2 = .ok (.putfield 1, 3) := by decide +kernel
theorem dX9_best_5 : decode cX9_best 5 = .ok (.iconst 0, 1) := by decide +kernel
theorem dX9_best_6 : decode cX9_best 6 = .ok (.istore_n 1, 1) := by decide +kernel
theorem dX9_best_7 : decode cX9_best 7 = .ok (.iload_n 1, 1) := by decide +kernel
theorem dX9_best_8 : decode cX9_best 8 = .ok (.aload_n 0, 1) := by decide +kernel
theorem dX9_best_9 : decode cX9_best 9 = .ok (.getfield 93, 3) := by decide +kernel
theorem dX9_best_12 : decode cX9_best 12 = .ok (.if_icmp .ge 14, 3) := by decide +kernel
theorem dX9_best_15 : decode cX9_best 15 = .ok (.aload_n 0, 1) := by decide +kernel
theorem dX9_best_16 : decode cX9_best 16 = .ok (.iload_n 1, 1) := by decide +kernel
theorem dX9_best_17 : decode cX9_best 17 = .ok (.invokevirtual 227, 3) := by decide +kernel
theorem dX9_best_20 : decode cX9_best 20 = .ok (.iinc 1 1, 3) := by decide +kernel
theorem dX9_best_23 : decode cX9_best 23 = .ok (.goto (-16), 3) := by decide +kernel
theorem dX9_best_26 : decode cX9_best 26 = .ok (.iconst 0, 1) := by decide +kernel
theorem dX9_best_27 : decode cX9_best 27 = .ok (.istore_n 1, 1) := by decide +kernel
theorem dX9_best_28 : decode cX9_best 28 = .ok (.aload_n 0, 1) := by decide +kernel
theorem dX9_best_29 : decode cX9_best 29 = .ok (.getfield 93, 3) := by decide +kernel
theorem dX9_best_32 : decode cX9_best 32 = .ok (.iconst 1, 1) := by decide +kernel
theorem dX9_best_33 : decode cX9_best 33 = .ok (.isub, 1) := by decide +kernel
theorem dX9_best_34 : decode cX9_best 34 = .ok (.istore_n 2, 1) := by decide +kernel
theorem dX9_best_35 : decode cX9_best 35 = .ok (.iload_n 2, 1) := by decide +kernel
theorem dX9_best_36 : decode cX9_best 36 = .ok (.ifCond .lt 187, 3) := by decide +kernel
theorem dX9_best_39 : decode cX9_best 39 = .ok (.iconst 0, 1) := by decide +kernel
theorem dX9_best_40 : decode cX9_best 40 = .ok (.istore_n 3, 1) := by decide +kernel
theorem dX9_best_41 : decode cX9_best 41 = .ok (.iload_n 3, 1) := by decide +kernel
theorem dX9_best_42 : decode cX9_best 42 = .ok (.aload_n 0, 1) := by decide +kernel
theorem dX9_best_43 : decode cX9_best 43 = .ok (.getfield 30, 3) := by decide +kernel
theorem dX9_best_46 : decode cX9_best 46 = .ok (.if_icmp .gt 145, 3) := by decide +kernel
theorem dX9_best_49 : decode cX9_best 49 = .ok (.iload_n 3, 1) := by decide +kernel
theorem dX9_best_50 : decode cX9_best 50 = .ok (.ifCond .ne 12, 3) := by decide +kernel
theorem dX9_best_53 : decode cX9_best 53 = .ok (.aload_n 0, 1) := by decide +kernel
theorem dX9_best_54 : decode cX9_best 54 = .ok (.getfield 69, 3) := by decide +kernel
theorem dX9_best_57 : decode cX9_best 57 = .ok (.iload_n 2, 1) := by decide +kernel
theorem dX9_best_58 : decode cX9_best 58 = .ok (.iaload, 1) := by decide +kernel
theorem dX9_best_59 : decode cX9_best 59 = .ok (.goto 9, 3) := by decide +kernel
theorem dX9_best_62 : decode cX9_best 62 = .ok (.aload_n 0, 1) := by decide +kernel
theorem dX9_best_63 : decode cX9_best 63 = .ok (.getfield 72, 3) := by decide +kernel
theorem dX9_best_66 : decode cX9_best 66 = .ok (.iload_n 2, 1) := by decide +kernel
theorem dX9_best_67 : decode cX9_best 67 = .ok (.iaload, 1) := by decide +kernel
theorem dX9_best_68 : decode cX9_best 68 = .ok (.istore 4, 2) := by decide +kernel
theorem dX9_best_70 : decode cX9_best 70 = .ok (.iload_n 2, 1) := by decide +kernel
theorem dX9_best_71 : decode cX9_best 71 = .ok (.iconst 1, 1) := by decide +kernel
theorem dX9_best_72 : decode cX9_best 72 = .ok (.iadd, 1) := by decide +kernel
theorem dX9_best_73 : decode cX9_best 73 = .ok (.istore 5, 2) := by decide +kernel
theorem dX9_best_75 : decode cX9_best 75 = .ok (.iload 5, 2) := by decide +kernel
theorem dX9_best_77 : decode cX9_best 77 = .ok (.aload_n 0, 1) := by decide +kernel
theorem dX9_best_78 : decode cX9_best 78 = .ok (.getfield 93, 3) := by decide +kernel
theorem dX9_best_81 : decode cX9_best 81 = .ok (.if_icmp .ge 91, 3) := by decide +kernel
theorem dX9_best_84 : decode cX9_best 84 = .ok (.iload 4, 2) := by decide +kernel
theorem dX9_best_86 : decode cX9_best 86 = .ok (.ldc 226, 2) := by decide +kernel
theorem dX9_best_88 : decode cX9_best 88 = .ok (.if_icmp .ge 84, 3) := by decide +kernel
theorem dX9_best_91 : decode cX9_best 91 = .ok (.aload_n 0, 1) := by decide +kernel
theorem dX9_best_92 : decode cX9_best 92 = .ok (.getfield 75, 3) := by decide +kernel
theorem dX9_best_95 : decode cX9_best 95 = .ok (.iload 5, 2) := by decide +kernel
theorem dX9_best_97 : decode cX9_best 97 = .ok (.iaload, 1) := by decide +kernel
theorem dX9_best_98 : decode cX9_best 98 = .ok (.iload_n 2, 1) := by decide +kernel
theorem dX9_best_99 : decode cX9_best 99 = .ok (.if_icmp .ne 67, 3) := by decide +kernel
theorem dX9_best_102 : decode cX9_best 102 = .ok (.iload_n 3, 1) := by decide +kernel
theorem dX9_best_103 : decode cX9_best 103 = .ok (.aload_n 0, 1) := by decide +kernel
theorem dX9_best_104 : decode cX9_best 104 = .ok (.getfield 30, 3) := by decide +kernel
theorem dX9_best_107 : decode cX9_best 107 = .ok (.if_icmp .ge 20, 3) := by decide +kernel
theorem dX9_best_110 : decode cX9_best 110 = .ok (.aload_n 0, 1) := by decide +kernel
theorem dX9_best_111 : decode cX9_best 111 = .ok (.getfield 78, 3) := by decide +kernel
theorem dX9_best_114 : decode cX9_best 114 = .ok (.bipush 7, 2) := by decide +kernel
theorem dX9_best_116 : decode cX9_best 116 = .ok (.iload 5, 2) := by decide +kernel
theorem dX9_best_118 : decode cX9_best 118 = .ok (.imul, 1) := by decide +kernel
theorem dX9_best_119 : decode cX9_best 119 = .ok (.iload_n 3, 1) := by decide +kernel
theorem dX9_best_120 : decode cX9_best 120 = .ok (.iadd, 1) := by decide +kernel
theorem dX9_best_121 : decode cX9_best 121 = .ok (.iconst 1, 1) := by decide +kernel
theorem dX9_best_122 : decode cX9_best 122 = .ok (.iadd, 1) := by decide +kernel
theorem dX9_best_123 : decode cX9_best 123 = .ok (.iaload, 1) := by decide +kernel
theorem dX9_best_124 : decode cX9_best 124 = .ok (.goto 5, 3) := by decide +kernel
theorem dX9_best_127 : decode cX9_best 127 = .ok (.ldc 226, 2) := by decide +kernel
theorem dX9_best_129 : decode cX9_best 129 = .ok (.istore 6, 2) := by decide +kernel
theorem dX9_best_131 : decode cX9_best 131 = .ok (.iload 4, 2) := by decide +kernel
theorem dX9_best_133 : decode cX9_best 133 = .ok (.aload_n 0, 1) := by decide +kernel
theorem dX9_best_134 : decode cX9_best 134 = .ok (.getfield 78, 3) := by decide +kernel
theorem dX9_best_137 : decode cX9_best 137 = .ok (.bipush 7, 2) := by decide +kernel
theorem dX9_best_139 : decode cX9_best 139 = .ok (.iload 5, 2) := by decide +kernel
theorem dX9_best_141 : decode cX9_best 141 = .ok (.imul, 1) := by decide +kernel
theorem dX9_best_142 : decode cX9_best 142 = .ok (.iaload, 1) := by decide +kernel
theorem dX9_best_143 : decode cX9_best 143 = .ok (.iload 6, 2) := by decide +kernel
theorem dX9_best_145 : decode cX9_best 145 = .ok (.if_icmp .ge 16, 3) := by decide +kernel
theorem dX9_best_148 : decode cX9_best 148 = .ok (.aload_n 0, 1) := by decide +kernel
theorem dX9_best_149 : decode cX9_best 149 = .ok (.getfield 78, 3) := by decide +kernel
theorem dX9_best_152 : decode cX9_best 152 = .ok (.bipush 7, 2) := by decide +kernel
theorem dX9_best_154 : decode cX9_best 154 = .ok (.iload 5, 2) := by decide +kernel
theorem dX9_best_156 : decode cX9_best 156 = .ok (.imul, 1) := by decide +kernel
theorem dX9_best_157 : decode cX9_best 157 = .ok (.iaload, 1) := by decide +kernel
theorem dX9_best_158 : decode cX9_best 158 = .ok (.goto 5, 3) := by decide +kernel
theorem dX9_best_161 : decode cX9_best 161 = .ok (.iload 6, 2) := by decide +kernel
theorem dX9_best_163 : decode cX9_best 163 = .ok (.iadd, 1) := by decide +kernel
theorem dX9_best_164 : decode cX9_best 164 = .ok (.istore 4, 2) := by decide +kernel
theorem dX9_best_166 : decode cX9_best 166 = .ok (.iinc 5 1, 3) := by decide +kernel
theorem dX9_best_169 : decode cX9_best 169 = .ok (.goto (-94), 3) := by decide +kernel
theorem dX9_best_172 : decode cX9_best 172 = .ok (.aload_n 0, 1) := by decide +kernel
theorem dX9_best_173 : decode cX9_best 173 = .ok (.getfield 78, 3) := by decide +kernel
theorem dX9_best_176 : decode cX9_best 176 = .ok (.bipush 7, 2) := by decide +kernel
theorem dX9_best_178 : decode cX9_best 178 = .ok (.iload_n 2, 1) := by decide +kernel
theorem dX9_best_179 : decode cX9_best 179 = .ok (.imul, 1) := by decide +kernel
theorem dX9_best_180 : decode cX9_best 180 = .ok (.iload_n 3, 1) := by decide +kernel
theorem dX9_best_181 : decode cX9_best 181 = .ok (.iadd, 1) := by decide +kernel
theorem dX9_best_182 : decode cX9_best 182 = .ok (.iload 4, 2) := by decide +kernel
theorem dX9_best_184 : decode cX9_best 184 = .ok (.iastore, 1) := by decide +kernel
theorem dX9_best_185 : decode cX9_best 185 = .ok (.iinc 3 1, 3) := by decide +kernel
theorem dX9_best_188 : decode cX9_best 188 = .ok (.goto (-147), 3) := by decide +kernel
theorem dX9_best_191 : decode cX9_best 191 = .ok (.iload_n 1, 1) := by decide +kernel
theorem dX9_best_192 : decode cX9_best 192 = .ok (.aload_n 0, 1) := by decide +kernel
theorem dX9_best_193 : decode cX9_best 193 = .ok (.getfield 75, 3) := by decide +kernel
theorem dX9_best_196 : decode cX9_best 196 = .ok (.iload_n 2, 1) := by decide +kernel
theorem dX9_best_197 : decode cX9_best 197 = .ok (.iaload, 1) := by decide +kernel
theorem dX9_best_198 : decode cX9_best 198 = .ok (.iconst (-1), 1) := by decide +kernel
theorem dX9_best_199 : decode cX9_best 199 = .ok (.if_icmp .ne 15, 3) := by decide +kernel
theorem dX9_best_202 : decode cX9_best 202 = .ok (.aload_n 0, 1) := by decide +kernel
theorem dX9_best_203 : decode cX9_best 203 = .ok (.getfield 78, 3) := by decide +kernel
theorem dX9_best_206 : decode cX9_best 206 = .ok (.bipush 7, 2) := by decide +kernel
theorem dX9_best_208 : decode cX9_best 208 = .ok (.iload_n 2, 1) := by decide +kernel
theorem dX9_best_209 : decode cX9_best 209 = .ok (.imul, 1) := by decide +kernel
theorem dX9_best_210 : decode cX9_best 210 = .ok (.iaload, 1) := by decide +kernel
theorem dX9_best_211 : decode cX9_best 211 = .ok (.goto 4, 3) := by decide +kernel
theorem dX9_best_214 : decode cX9_best 214 = .ok (.iconst 0, 1) := by decide +kernel
theorem dX9_best_215 : decode cX9_best 215 = .ok (.iadd, 1) := by decide +kernel
theorem dX9_best_216 : decode cX9_best 216 = .ok (.istore_n 1, 1) := by decide +kernel
theorem dX9_best_217 : decode cX9_best 217 = .ok (.iinc 2 (-1), 3) := by decide +kernel
theorem dX9_best_220 : decode cX9_best 220 = .ok (.goto (-185), 3) := by decide +kernel
theorem dX9_best_223 : decode cX9_best 223 = .ok (.iload_n 1, 1) := by decide +kernel
theorem dX9_best_224 : decode cX9_best 224 = .ok (.ireturn, 1) := by decide +kernel
theorem dX9_bytes_0 : decode cX9_bytes 0 = .ok (.aload_n 0, 1) := by decide +kernel
theorem dX9_bytes_1 : decode cX9_bytes 1 = .ok (.getfield 122, 3) := by decide +kernel
theorem dX9_bytes_4 : decode cX9_bytes 4 = .ok (.bipush 7, 2) := by decide +kernel
theorem dX9_bytes_6 : decode cX9_bytes 6 = .ok (.iadd, 1) := by decide +kernel
theorem dX9_bytes_7 : decode cX9_bytes 7 = .ok (.bipush 8, 2) := by decide +kernel
theorem dX9_bytes_9 : decode cX9_bytes 9 = .ok (.idiv, 1) := by decide +kernel
theorem dX9_bytes_10 : decode cX9_bytes 10 = .ok (.ireturn, 1) := by decide +kernel
theorem dX9_byteAt_0 : decode cX9_byteAt 0 = .ok (.iconst 0, 1) := by decide +kernel
theorem dX9_byteAt_1 : decode cX9_byteAt 1 = .ok (.istore_n 2, 1) := by decide +kernel
theorem dX9_byteAt_2 : decode cX9_byteAt 2 = .ok (.bipush 8, 2) := by decide +kernel
theorem dX9_byteAt_4 : decode cX9_byteAt 4 = .ok (.iload_n 1, 1) := by decide +kernel
theorem dX9_byteAt_5 : decode cX9_byteAt 5 = .ok (.imul, 1) := by decide +kernel
theorem dX9_byteAt_6 : decode cX9_byteAt 6 = .ok (.istore_n 3, 1) := by decide +kernel
theorem dX9_byteAt_7 : decode cX9_byteAt 7 = .ok (.iload_n 3, 1) := by decide +kernel
theorem dX9_byteAt_8 : decode cX9_byteAt 8 = .ok (.bipush 8, 2) := by decide +kernel
theorem dX9_byteAt_10 : decode cX9_byteAt 10 = .ok (.iload_n 1, 1) := by decide +kernel
theorem dX9_byteAt_11 : decode cX9_byteAt 11 = .ok (.imul, 1) := by decide +kernel
theorem dX9_byteAt_12 : decode cX9_byteAt 12 = .ok (.bipush 8, 2) := by decide +kernel
theorem dX9_byteAt_14 : decode cX9_byteAt 14 = .ok (.iadd, 1) := by decide +kernel
theorem dX9_byteAt_15 : decode cX9_byteAt 15 = .ok (.if_icmp .ge 20, 3) := by decide +kernel
theorem dX9_byteAt_18 : decode cX9_byteAt 18 = .ok (.iconst 2, 1) := by decide +kernel
theorem dX9_byteAt_19 : decode cX9_byteAt 19 = .ok (.iload_n 2, 1) := by decide +kernel
theorem dX9_byteAt_20 : decode cX9_byteAt 20 = .ok (.imul, 1) := by decide +kernel
theorem dX9_byteAt_21 : decode cX9_byteAt 21 = .ok (.aload_n 0, 1) := by decide +kernel
theorem dX9_byteAt_22 : decode cX9_byteAt 22 = .ok (.getfield 36, 3) := by decide +kernel
theorem dX9_byteAt_25 : decode cX9_byteAt 25 = .ok (.iload_n 3, 1) := by decide +kernel
theorem dX9_byteAt_26 : decode cX9_byteAt 26 = .ok (.iaload, 1) := by decide +kernel
theorem dX9_byteAt_27 : decode cX9_byteAt 27 = .ok (.iadd, 1) := by decide +kernel
theorem dX9_byteAt_28 : decode cX9_byteAt 28 = .ok (.istore_n 2, 1) := by decide +kernel
theorem dX9_byteAt_29 : decode cX9_byteAt 29 = .ok (.iinc 3 1, 3) := by decide +kernel
theorem dX9_byteAt_32 : decode cX9_byteAt 32 = .ok (.goto (-25), 3) := by decide +kernel
theorem dX9_byteAt_35 : decode cX9_byteAt 35 = .ok (.iload_n 2, 1) := by decide +kernel
theorem dX9_byteAt_36 : decode cX9_byteAt 36 = .ok (.ireturn, 1) := by decide +kernel
theorem dX9_bit_0 : decode cX9_bit 0 = .ok (.aload_n 0, 1) := by decide +kernel
theorem dX9_bit_1 : decode cX9_bit 1 = .ok (.iconst 0, 1) := by decide +kernel
theorem dX9_bit_2 : decode cX9_bit 2 = .ok (.putfield 1, 3) := by decide +kernel
theorem dX9_bit_5 : decode cX9_bit 5 = .ok (.aload_n 0, 1) := by decide +kernel
theorem dX9_bit_6 : decode cX9_bit 6 = .ok (.getfield 100, 3) := by decide +kernel
theorem dX9_bit_9 : decode cX9_bit 9 = .ok (.ifCond .eq 28, 3) := by decide +kernel
theorem dX9_bit_12 : decode cX9_bit 12 = .ok (.iload_n 1, 1) := by decide +kernel
theorem dX9_bit_13 : decode cX9_bit 13 = .ok (.i2l, 1) := by decide +kernel
theorem dX9_bit_14 : decode cX9_bit 14 = .ok (.lconst 0, 1) := by decide +kernel
theorem dX9_bit_15 : decode cX9_bit 15 = .ok (.aload_n 0, 1) := by decide +kernel
theorem dX9_bit_16 : decode cX9_bit 16 = .ok (.getfield 122, 3) := by decide +kernel
theorem dX9_bit_19 : decode cX9_bit 19 = .ok (.iconst 1, 1) := by decide +kernel
theorem dX9_bit_20 : decode cX9_bit 20 = .ok (.isub, 1) := by decide +kernel
theorem dX9_bit_21 : decode cX9_bit 21 = .ok (.i2l, 1) := by decide +kernel
theorem dX9_bit_22 : decode cX9_bit 22 = .ok (.invokestatic 96, 3) := by decide +kernel
theorem dX9_bit_25 : decode cX9_bit 25 = .ok (.ifCond .eq 12, 3) := by decide +kernel
theorem dX9_bit_28 : decode cX9_bit 28 = .ok (.aload_n 0, 1) := by decide +kernel
theorem dX9_bit_29 : decode cX9_bit 29 = .ok (.getfield 36, 3) := by decide +kernel
theorem dX9_bit_32 : decode cX9_bit 32 = .ok (.iload_n 1, 1) := by decide +kernel
theorem dX9_bit_33 : decode cX9_bit 33 = .ok (.iaload, 1) := by decide +kernel
theorem dX9_bit_34 : decode cX9_bit 34 = .ok (.goto 4, 3) := by decide +kernel
theorem dX9_bit_37 : decode cX9_bit 37 = .ok (.iconst (-1), 1) := by decide +kernel
theorem dX9_bit_38 : decode cX9_bit 38 = .ok (.ireturn, 1) := by decide +kernel
theorem dX9_place_0 : decode cX9_place 0 = .ok (.aload_n 0, 1) := by decide +kernel
theorem dX9_place_1 : decode cX9_place 1 = .ok (.iconst 0, 1) := by decide +kernel
theorem dX9_place_2 : decode cX9_place 2 = .ok (.putfield 1, 3) := by decide +kernel
theorem dX9_place_5 : decode cX9_place 5 = .ok (.aload_n 0, 1) := by decide +kernel
theorem dX9_place_6 : decode cX9_place 6 = .ok (.getfield 100, 3) := by decide +kernel
theorem dX9_place_9 : decode cX9_place 9 = .ok (.ifCond .eq 36, 3) := by decide +kernel
theorem dX9_place_12 : decode cX9_place 12 = .ok (.iload_n 1, 1) := by decide +kernel
theorem dX9_place_13 : decode cX9_place 13 = .ok (.ifCond .lt 32, 3) := by decide +kernel
theorem dX9_place_16 : decode cX9_place 16 = .ok (.iload_n 1, 1) := by decide +kernel
theorem dX9_place_17 : decode cX9_place 17 = .ok (.aload_n 0, 1) := by decide +kernel
theorem dX9_place_18 : decode cX9_place 18 = .ok (.getfield 93, 3) := by decide +kernel
theorem dX9_place_21 : decode cX9_place 21 = .ok (.iconst 1, 1) := by decide +kernel
theorem dX9_place_22 : decode cX9_place 22 = .ok (.isub, 1) := by decide +kernel
theorem dX9_place_23 : decode cX9_place 23 = .ok (.aload_n 0, 1) := by decide +kernel
theorem dX9_place_24 : decode cX9_place 24 = .ok (.getfield 211, 3) := by decide +kernel
theorem dX9_place_27 : decode cX9_place 27 = .ok (.idiv, 1) := by decide +kernel
theorem dX9_place_28 : decode cX9_place 28 = .ok (.if_icmp .gt 17, 3) := by decide +kernel
theorem dX9_place_31 : decode cX9_place 31 = .ok (.aload_n 0, 1) := by decide +kernel
theorem dX9_place_32 : decode cX9_place 32 = .ok (.getfield 66, 3) := by decide +kernel
theorem dX9_place_35 : decode cX9_place 35 = .ok (.iload_n 1, 1) := by decide +kernel
theorem dX9_place_36 : decode cX9_place 36 = .ok (.aload_n 0, 1) := by decide +kernel
theorem dX9_place_37 : decode cX9_place 37 = .ok (.getfield 211, 3) := by decide +kernel
theorem dX9_place_40 : decode cX9_place 40 = .ok (.imul, 1) := by decide +kernel
theorem dX9_place_41 : decode cX9_place 41 = .ok (.iaload, 1) := by decide +kernel
theorem dX9_place_42 : decode cX9_place 42 = .ok (.goto 4, 3) := by decide +kernel
theorem dX9_place_45 : decode cX9_place 45 = .ok (.iconst (-1), 1) := by decide +kernel
theorem dX9_place_46 : decode cX9_place 46 = .ok (.ireturn, 1) := by decide +kernel
theorem dX9_sum_0 : decode cX9_sum 0 = .ok (.aload_n 0, 1) := by decide +kernel
theorem dX9_sum_1 : decode cX9_sum 1 = .ok (.iconst 0, 1) := by decide +kernel
theorem dX9_sum_2 : decode cX9_sum 2 = .ok (.putfield 1, 3) := by decide +kernel
theorem dX9_sum_5 : decode cX9_sum 5 = .ok (.aload_n 0, 1) := by decide +kernel
theorem dX9_sum_6 : decode cX9_sum 6 = .ok (.getfield 100, 3) := by decide +kernel
theorem dX9_sum_9 : decode cX9_sum 9 = .ok (.ifCond .ne 7, 3) := by decide +kernel
theorem dX9_sum_12 : decode cX9_sum 12 = .ok (.ldc2_w 230, 3) := by decide +kernel
theorem dX9_sum_15 : decode cX9_sum 15 = .ok (.lreturn, 1) := by decide +kernel
theorem dX9_sum_16 : decode cX9_sum 16 = .ok (.lconst 1, 1) := by decide +kernel
theorem dX9_sum_17 : decode cX9_sum 17 = .ok (.lstore_n 1, 1) := by decide +kernel
theorem dX9_sum_18 : decode cX9_sum 18 = .ok (.iconst 0, 1) := by decide +kernel
theorem dX9_sum_19 : decode cX9_sum 19 = .ok (.istore_n 3, 1) := by decide +kernel
theorem dX9_sum_20 : decode cX9_sum 20 = .ok (.iload_n 3, 1) := by decide +kernel
theorem dX9_sum_21 : decode cX9_sum 21 = .ok (.aload_n 0, 1) := by decide +kernel
theorem dX9_sum_22 : decode cX9_sum 22 = .ok (.invokevirtual 232, 3) := by decide +kernel
theorem dX9_sum_25 : decode cX9_sum 25 = .ok (.if_icmp .ge 22, 3) := by decide +kernel
theorem dX9_sum_28 : decode cX9_sum 28 = .ok (.ldc2_w 235, 3) := by decide +kernel
theorem dX9_sum_31 : decode cX9_sum 31 = .ok (.lload_n 1, 1) := by decide +kernel
theorem dX9_sum_32 : decode cX9_sum 32 = .ok (.lmul, 1) := by decide +kernel
theorem dX9_sum_33 : decode cX9_sum 33 = .ok (.aload_n 0, 1) := by decide +kernel
theorem dX9_sum_34 : decode cX9_sum 34 = .ok (.iload_n 3, 1) := by decide +kernel
theorem dX9_sum_35 : decode cX9_sum 35 = .ok (.invokevirtual 237, 3) := by decide +kernel
theorem dX9_sum_38 : decode cX9_sum 38 = .ok (.i2l, 1) := by decide +kernel
theorem dX9_sum_39 : decode cX9_sum 39 = .ok (.ladd, 1) := by decide +kernel
theorem dX9_sum_40 : decode cX9_sum 40 = .ok (.lstore_n 1, 1) := by decide +kernel
theorem dX9_sum_41 : decode cX9_sum 41 = .ok (.iinc 3 1, 3) := by decide +kernel
theorem dX9_sum_44 : decode cX9_sum 44 = .ok (.goto (-24), 3) := by decide +kernel
theorem dX9_sum_47 : decode cX9_sum 47 = .ok (.lload_n 1, 1) := by decide +kernel
theorem dX9_sum_48 : decode cX9_sum 48 = .ok (.lreturn, 1) := by decide +kernel
theorem dX9_alter_0 : decode cX9_alter 0 = .ok (.aload_n 0, 1) := by decide +kernel
theorem dX9_alter_1 : decode cX9_alter 1 = .ok (.iconst 0, 1) := by decide +kernel
theorem dX9_alter_2 : decode cX9_alter 2 = .ok (.putfield 1, 3) := by decide +kernel
theorem dX9_alter_5 : decode cX9_alter 5 = .ok (.aload_n 0, 1) := by decide +kernel
theorem dX9_alter_6 : decode cX9_alter 6 = .ok (.getfield 100, 3) := by decide +kernel
theorem dX9_alter_9 : decode cX9_alter 9 = .ok (.ifCond .ne 6, 3) := by decide +kernel
theorem dX9_alter_12 : decode cX9_alter 12 = .ok (.bipush (-3), 2) := by decide +kernel
theorem dX9_alter_14 : decode cX9_alter 14 = .ok (.ireturn, 1) := by decide +kernel
theorem dX9_alter_15 : decode cX9_alter 15 = .ok (.iload_n 1, 1) := by decide +kernel
theorem dX9_alter_16 : decode cX9_alter 16 = .ok (.i2l, 1) := by decide +kernel
theorem dX9_alter_17 : decode cX9_alter 17 = .ok (.lconst 0, 1) := by decide +kernel
theorem dX9_alter_18 : decode cX9_alter 18 = .ok (.aload_n 0, 1) := by decide +kernel
theorem dX9_alter_19 : decode cX9_alter 19 = .ok (.invokevirtual 232, 3) := by decide +kernel
theorem dX9_alter_22 : decode cX9_alter 22 = .ok (.iconst 1, 1) := by decide +kernel
theorem dX9_alter_23 : decode cX9_alter 23 = .ok (.isub, 1) := by decide +kernel
theorem dX9_alter_24 : decode cX9_alter 24 = .ok (.i2l, 1) := by decide +kernel
theorem dX9_alter_25 : decode cX9_alter 25 = .ok (.invokestatic 96, 3) := by decide +kernel
theorem dX9_alter_28 : decode cX9_alter 28 = .ok (.ifCond .eq 15, 3) := by decide +kernel
theorem dX9_alter_31 : decode cX9_alter 31 = .ok (.iload_n 2, 1) := by decide +kernel
theorem dX9_alter_32 : decode cX9_alter 32 = .ok (.i2l, 1) := by decide +kernel
theorem dX9_alter_33 : decode cX9_alter 33 = .ok (.lconst 1, 1) := by decide +kernel
theorem dX9_alter_34 : decode cX9_alter 34 = .ok (.ldc2_w 240, 3) := by decide +kernel
theorem dX9_alter_37 : decode cX9_alter 37 = .ok (.invokestatic 96, 3) := by decide +kernel
theorem dX9_alter_40 : decode cX9_alter 40 = .ok (.ifCond .ne 6, 3) := by decide +kernel
theorem dX9_alter_43 : decode cX9_alter 43 = .ok (.bipush (-2), 2) := by decide +kernel
theorem dX9_alter_45 : decode cX9_alter 45 = .ok (.ireturn, 1) := by decide +kernel
theorem dX9_alter_46 : decode cX9_alter 46 = .ok (.iconst 0, 1) := by decide +kernel
theorem dX9_alter_47 : decode cX9_alter 47 = .ok (.istore_n 3, 1) := by decide +kernel
theorem dX9_alter_48 : decode cX9_alter 48 = .ok (.iload_n 3, 1) := by decide +kernel
theorem dX9_alter_49 : decode cX9_alter 49 = .ok (.bipush 8, 2) := by decide +kernel
theorem dX9_alter_51 : decode cX9_alter 51 = .ok (.if_icmp .ge 31, 3) := by decide +kernel
theorem dX9_alter_54 : decode cX9_alter 54 = .ok (.aload_n 0, 1) := by decide +kernel
theorem dX9_alter_55 : decode cX9_alter 55 = .ok (.getfield 36, 3) := by decide +kernel
theorem dX9_alter_58 : decode cX9_alter 58 = .ok (.bipush 8, 2) := by decide +kernel
theorem dX9_alter_60 : decode cX9_alter 60 = .ok (.iload_n 1, 1) := by decide +kernel
theorem dX9_alter_61 : decode cX9_alter 61 = .ok (.imul, 1) := by decide +kernel
theorem dX9_alter_62 : decode cX9_alter 62 = .ok (.iload_n 3, 1) := by decide +kernel
theorem dX9_alter_63 : decode cX9_alter 63 = .ok (.iadd, 1) := by decide +kernel
theorem dX9_alter_64 : decode cX9_alter 64 = .ok (.dup2, 1) := by decide +kernel
theorem dX9_alter_65 : decode cX9_alter 65 = .ok (.iaload, 1) := by decide +kernel
theorem dX9_alter_66 : decode cX9_alter 66 = .ok (.iload_n 2, 1) := by decide +kernel
theorem dX9_alter_67 : decode cX9_alter 67 = .ok (.bipush 7, 2) := by decide +kernel
theorem dX9_alter_69 : decode cX9_alter 69 = .ok (.iload_n 3, 1) := by decide +kernel
theorem dX9_alter_70 : decode cX9_alter 70 = .ok (.isub, 1) := by decide +kernel
theorem dX9_alter_71 : decode cX9_alter 71 = .ok (.ishr, 1) := by decide +kernel
theorem dX9_alter_72 : decode cX9_alter 72 = .ok (.iconst 1, 1) := by decide +kernel
theorem dX9_alter_73 : decode cX9_alter 73 = .ok (.iand, 1) := by decide +kernel
theorem dX9_alter_74 : decode cX9_alter 74 = .ok (.ixor, 1) := by decide +kernel
theorem dX9_alter_75 : decode cX9_alter 75 = .ok (.iastore, 1) := by decide +kernel
theorem dX9_alter_76 : decode cX9_alter 76 = .ok (.iinc 3 1, 3) := by decide +kernel
theorem dX9_alter_79 : decode cX9_alter 79 = .ok (.goto (-31), 3) := by decide +kernel
theorem dX9_alter_82 : decode cX9_alter 82 = .ok (.aload_n 0, 1) := by decide +kernel
theorem dX9_alter_83 : decode cX9_alter 83 = .ok (.iload_n 1, 1) := by decide +kernel
theorem dX9_alter_84 : decode cX9_alter 84 = .ok (.invokevirtual 237, 3) := by decide +kernel
theorem dX9_alter_87 : decode cX9_alter 87 = .ok (.ireturn, 1) := by decide +kernel
theorem dX9_judge_0 : decode cX9_judge 0 = .ok (.aload_n 0, 1) := by decide +kernel
theorem dX9_judge_1 : decode cX9_judge 1 = .ok (.iconst 0, 1) := by decide +kernel
theorem dX9_judge_2 : decode cX9_judge 2 = .ok (.putfield 1, 3) := by decide +kernel
theorem dX9_judge_5 : decode cX9_judge 5 = .ok (.aload_n 0, 1) := by decide +kernel
theorem dX9_judge_6 : decode cX9_judge 6 = .ok (.getfield 100, 3) := by decide +kernel
theorem dX9_judge_9 : decode cX9_judge 9 = .ok (.ifCond .ne 6, 3) := by decide +kernel
theorem dX9_judge_12 : decode cX9_judge 12 = .ok (.bipush (-3), 2) := by decide +kernel
theorem dX9_judge_14 : decode cX9_judge 14 = .ok (.ireturn, 1) := by decide +kernel
theorem dX9_judge_15 : decode cX9_judge 15 = .ok (.iconst 0, 1) := by decide +kernel
theorem dX9_judge_16 : decode cX9_judge 16 = .ok (.istore_n 1, 1) := by decide +kernel
theorem dX9_judge_17 : decode cX9_judge 17 = .ok (.iconst 0, 1) := by decide +kernel
theorem dX9_judge_18 : decode cX9_judge 18 = .ok (.istore_n 2, 1) := by decide +kernel
theorem dX9_judge_19 : decode cX9_judge 19 = .ok (.iload_n 2, 1) := by decide +kernel
theorem dX9_judge_20 : decode cX9_judge 20 = .ok (.bipush 8, 2) := by decide +kernel
theorem dX9_judge_22 : decode cX9_judge 22 = .ok (.aload_n 0, 1) := by decide +kernel
theorem dX9_judge_23 : decode cX9_judge 23 = .ok (.invokevirtual 232, 3) := by decide +kernel
theorem dX9_judge_26 : decode cX9_judge 26 = .ok (.imul, 1) := by decide +kernel
theorem dX9_judge_27 : decode cX9_judge 27 = .ok (.if_icmp .ge 52, 3) := by decide +kernel
theorem dX9_judge_30 : decode cX9_judge 30 = .ok (.iload_n 1, 1) := by decide +kernel
theorem dX9_judge_31 : decode cX9_judge 31 = .ok (.aload_n 0, 1) := by decide +kernel
theorem dX9_judge_32 : decode cX9_judge 32 = .ok (.getfield 93, 3) := by decide +kernel
theorem dX9_judge_35 : decode cX9_judge 35 = .ok (.if_icmp .ge 21, 3) := by decide +kernel
theorem dX9_judge_38 : decode cX9_judge 38 = .ok (.iload_n 2, 1) := by decide +kernel
theorem dX9_judge_39 : decode cX9_judge 39 = .ok (.aload_n 0, 1) := by decide +kernel
theorem dX9_judge_40 : decode cX9_judge 40 = .ok (.getfield 66, 3) := by decide +kernel
theorem dX9_judge_43 : decode cX9_judge 43 = .ok (.iload_n 1, 1) := by decide +kernel
theorem dX9_judge_44 : decode cX9_judge 44 = .ok (.iconst 1, 1) := by decide +kernel
theorem dX9_judge_45 : decode cX9_judge 45 = .ok (.iadd, 1) := by decide +kernel
theorem dX9_judge_46 : decode cX9_judge 46 = .ok (.iaload, 1) := by decide +kernel
theorem dX9_judge_47 : decode cX9_judge 47 = .ok (.if_icmp .lt 9, 3) := by decide +kernel
theorem dX9_judge_50 : decode cX9_judge 50 = .ok (.iinc 1 1, 3) := by decide +kernel
theorem dX9_judge_53 : decode cX9_judge 53 = .ok (.goto (-23), 3) := by decide +kernel
theorem dX9_judge_56 : decode cX9_judge 56 = .ok (.aload_n 0, 1) := by decide +kernel
theorem dX9_judge_57 : decode cX9_judge 57 = .ok (.getfield 36, 3) := by decide +kernel
theorem dX9_judge_60 : decode cX9_judge 60 = .ok (.iload_n 2, 1) := by decide +kernel
theorem dX9_judge_61 : decode cX9_judge 61 = .ok (.iaload, 1) := by decide +kernel
theorem dX9_judge_62 : decode cX9_judge 62 = .ok (.aload_n 0, 1) := by decide +kernel
theorem dX9_judge_63 : decode cX9_judge 63 = .ok (.getfield 39, 3) := by decide +kernel
theorem dX9_judge_66 : decode cX9_judge 66 = .ok (.iload_n 2, 1) := by decide +kernel
theorem dX9_judge_67 : decode cX9_judge 67 = .ok (.iaload, 1) := by decide +kernel
theorem dX9_judge_68 : decode cX9_judge 68 = .ok (.if_icmp .eq 5, 3) := by decide +kernel
theorem dX9_judge_71 : decode cX9_judge 71 = .ok (.iload_n 1, 1) := by decide +kernel
theorem dX9_judge_72 : decode cX9_judge 72 = .ok (.ireturn, 1) := by decide +kernel
theorem dX9_judge_73 : decode cX9_judge 73 = .ok (.iinc 2 1, 3) := by decide +kernel
theorem dX9_judge_76 : decode cX9_judge 76 = .ok (.goto (-57), 3) := by decide +kernel
theorem dX9_judge_79 : decode cX9_judge 79 = .ok (.iconst (-1), 1) := by decide +kernel
theorem dX9_judge_80 : decode cX9_judge 80 = .ok (.ireturn, 1) := by decide +kernel
theorem dX9_keyOf_0 : decode cX9_keyOf 0 = .ok (.sipush 1024, 3) := by decide +kernel
theorem dX9_keyOf_3 : decode cX9_keyOf 3 = .ok (.istore_n 2, 1) := by decide +kernel
theorem dX9_keyOf_4 : decode cX9_keyOf 4 = .ok (.iconst 0, 1) := by decide +kernel
theorem dX9_keyOf_5 : decode cX9_keyOf 5 = .ok (.istore_n 3, 1) := by decide +kernel
theorem dX9_keyOf_6 : decode cX9_keyOf 6 = .ok (.iload_n 3, 1) := by decide +kernel
theorem dX9_keyOf_7 : decode cX9_keyOf 7 = .ok (.aload_n 0, 1) := by decide +kernel
theorem dX9_keyOf_8 : decode cX9_keyOf 8 = .ok (.getfield 93, 3) := by decide +kernel
theorem dX9_keyOf_11 : decode cX9_keyOf 11 = .ok (.if_icmp .ge 48, 3) := by decide +kernel
theorem dX9_keyOf_14 : decode cX9_keyOf 14 = .ok (.iload_n 3, 1) := by decide +kernel
theorem dX9_keyOf_15 : decode cX9_keyOf 15 = .ok (.ldc 242, 2) := by decide +kernel
theorem dX9_keyOf_17 : decode cX9_keyOf 17 = .ok (.imul, 1) := by decide +kernel
theorem dX9_keyOf_18 : decode cX9_keyOf 18 = .ok (.ldc 243, 2) := by decide +kernel
theorem dX9_keyOf_20 : decode cX9_keyOf 20 = .ok (.irem, 1) := by decide +kernel
theorem dX9_keyOf_21 : decode cX9_keyOf 21 = .ok (.bipush 64, 2) := by decide +kernel
theorem dX9_keyOf_23 : decode cX9_keyOf 23 = .ok (.idiv, 1) := by decide +kernel
theorem dX9_keyOf_24 : decode cX9_keyOf 24 = .ok (.istore 4, 2) := by decide +kernel
theorem dX9_keyOf_26 : decode cX9_keyOf 26 = .ok (.aload_n 0, 1) := by decide +kernel
theorem dX9_keyOf_27 : decode cX9_keyOf 27 = .ok (.getfield 13, 3) := by decide +kernel
theorem dX9_keyOf_30 : decode cX9_keyOf 30 = .ok (.bipush 48, 2) := by decide +kernel
theorem dX9_keyOf_32 : decode cX9_keyOf 32 = .ok (.iload_n 1, 1) := by decide +kernel
theorem dX9_keyOf_33 : decode cX9_keyOf 33 = .ok (.imul, 1) := by decide +kernel
theorem dX9_keyOf_34 : decode cX9_keyOf 34 = .ok (.iload_n 3, 1) := by decide +kernel
theorem dX9_keyOf_35 : decode cX9_keyOf 35 = .ok (.iadd, 1) := by decide +kernel
theorem dX9_keyOf_36 : decode cX9_keyOf 36 = .ok (.baload, 1) := by decide +kernel
theorem dX9_keyOf_37 : decode cX9_keyOf 37 = .ok (.ifCond .eq 14, 3) := by decide +kernel
theorem dX9_keyOf_40 : decode cX9_keyOf 40 = .ok (.iload 4, 2) := by decide +kernel
theorem dX9_keyOf_42 : decode cX9_keyOf 42 = .ok (.iload_n 2, 1) := by decide +kernel
theorem dX9_keyOf_43 : decode cX9_keyOf 43 = .ok (.if_icmp .ge 8, 3) := by decide +kernel
theorem dX9_keyOf_46 : decode cX9_keyOf 46 = .ok (.iload 4, 2) := by decide +kernel
theorem dX9_keyOf_48 : decode cX9_keyOf 48 = .ok (.goto 4, 3) := by decide +kernel
theorem dX9_keyOf_51 : decode cX9_keyOf 51 = .ok (.iload_n 2, 1) := by decide +kernel
theorem dX9_keyOf_52 : decode cX9_keyOf 52 = .ok (.istore_n 2, 1) := by decide +kernel
theorem dX9_keyOf_53 : decode cX9_keyOf 53 = .ok (.iinc 3 1, 3) := by decide +kernel
theorem dX9_keyOf_56 : decode cX9_keyOf 56 = .ok (.goto (-50), 3) := by decide +kernel
theorem dX9_keyOf_59 : decode cX9_keyOf 59 = .ok (.iload_n 2, 1) := by decide +kernel
theorem dX9_keyOf_60 : decode cX9_keyOf 60 = .ok (.ireturn, 1) := by decide +kernel
theorem dX9_orderBy_0 : decode cX9_orderBy 0 = .ok (.iconst 0, 1) := by decide +kernel
theorem dX9_orderBy_1 : decode cX9_orderBy 1 = .ok (.istore_n 2, 1) := by decide +kernel
theorem dX9_orderBy_2 : decode cX9_orderBy 2 = .ok (.iload_n 2, 1) := by decide +kernel
theorem dX9_orderBy_3 : decode cX9_orderBy 3 = .ok (.aload_n 0, 1) := by decide +kernel
theorem dX9_orderBy_4 : decode cX9_orderBy 4 = .ok (.getfield 93, 3) := by decide +kernel
theorem dX9_orderBy_7 : decode cX9_orderBy 7 = .ok (.if_icmp .ge 106, 3) := by decide +kernel
theorem dX9_orderBy_10 : decode cX9_orderBy 10 = .ok (.iconst 0, 1) := by decide +kernel
theorem dX9_orderBy_11 : decode cX9_orderBy 11 = .ok (.istore_n 3, 1) := by decide +kernel
theorem dX9_orderBy_12 : decode cX9_orderBy 12 = .ok (.iload_n 1, 1) := by decide +kernel
theorem dX9_orderBy_13 : decode cX9_orderBy 13 = .ok (.ifCond .ne 12, 3) := by decide +kernel
theorem dX9_orderBy_16 : decode cX9_orderBy 16 = .ok (.aload_n 0, 1) := by decide +kernel
theorem dX9_orderBy_17 : decode cX9_orderBy 17 = .ok (.iload_n 2, 1) := by decide +kernel
theorem dX9_orderBy_18 : decode cX9_orderBy 18 = .ok (.invokevirtual 115, 3) := by decide +kernel
theorem dX9_orderBy_21 : decode cX9_orderBy 21 = .ok (.ineg, 1) := by decide +kernel
theorem dX9_orderBy_22 : decode cX9_orderBy 22 = .ok (.goto 8, 3) := by decide +kernel
theorem dX9_orderBy_25 : decode cX9_orderBy 25 = .ok (.aload_n 0, 1) := by decide +kernel
theorem dX9_orderBy_26 : decode cX9_orderBy 26 = .ok (.iload_n 2, 1) := by decide +kernel
theorem dX9_orderBy_27 : decode cX9_orderBy 27 = .ok (.invokevirtual 244, 3) := by decide +kernel
theorem dX9_orderBy_30 : decode cX9_orderBy 30 = .ok (.istore 4, 2) := by decide +kernel
theorem dX9_orderBy_32 : decode cX9_orderBy 32 = .ok (.iconst 0, 1) := by decide +kernel
theorem dX9_orderBy_33 : decode cX9_orderBy 33 = .ok (.istore 5, 2) := by decide +kernel
theorem dX9_orderBy_35 : decode cX9_orderBy 35 = .ok (.iload 5, 2) := by decide +kernel
theorem dX9_orderBy_37 : decode cX9_orderBy 37 = .ok (.aload_n 0, 1) := by decide +kernel
theorem dX9_orderBy_38 : decode cX9_orderBy 38 = .ok (.getfield 93, 3) := by decide +kernel
theorem dX9_orderBy_41 : decode cX9_orderBy 41 = .ok (.if_icmp .ge 59, 3) := by decide +kernel
theorem dX9_orderBy_44 : decode cX9_orderBy 44 = .ok (.iload_n 1, 1) := by decide +kernel
theorem dX9_orderBy_45 : decode cX9_orderBy 45 = .ok (.ifCond .ne 13, 3) := by decide +kernel
theorem dX9_orderBy_48 : decode cX9_orderBy 48 = .ok (.aload_n 0, 1) := by decide +kernel
theorem dX9_orderBy_49 : decode cX9_orderBy 49 = .ok (.iload 5, 2) := by decide +kernel
theorem dX9_orderBy_51 : decode cX9_orderBy 51 = .ok (.invokevirtual 115, 3) := by decide +kernel
theorem dX9_orderBy_54 : decode cX9_orderBy 54 = .ok (.ineg, 1) := by decide +kernel
theorem dX9_orderBy_55 : decode cX9_orderBy 55 = .ok (.goto 9, 3) := by decide +kernel
theorem dX9_orderBy_58 : decode cX9_orderBy 58 = .ok (.aload_n 0, 1) := by decide +kernel
theorem dX9_orderBy_59 : decode cX9_orderBy 59 = .ok (.iload 5, 2) := by decide +kernel
theorem dX9_orderBy_61 : decode cX9_orderBy 61 = .ok (.invokevirtual 244, 3) := by decide +kernel
theorem dX9_orderBy_64 : decode cX9_orderBy 64 = .ok (.istore 6, 2) := by decide +kernel
theorem dX9_orderBy_66 : decode cX9_orderBy 66 = .ok (.iload_n 3, 1) := by decide +kernel
theorem dX9_orderBy_67 : decode cX9_orderBy 67 = .ok (.iload 6, 2) := by decide +kernel
theorem dX9_orderBy_69 : decode cX9_orderBy 69 = .ok (.iload 4, 2) := by decide +kernel
theorem dX9_orderBy_71 : decode cX9_orderBy 71 = .ok (.if_icmp .lt 16, 3) := by decide +kernel
theorem dX9_orderBy_74 : decode cX9_orderBy 74 = .ok (.iload 6, 2) := by decide +kernel
theorem dX9_orderBy_76 : decode cX9_orderBy 76 = .ok (.iload 4, 2) := by decide +kernel
theorem dX9_orderBy_78 : decode cX9_orderBy 78 = .ok (.if_icmp .ne 13, 3) := by decide +kernel
theorem dX9_orderBy_81 : decode cX9_orderBy 81 = .ok (.iload 5, 2) := by decide +kernel
theorem dX9_orderBy_83 : decode cX9_orderBy 83 = .ok (.iload_n 2, 1) := by decide +kernel
theorem dX9_orderBy_84 : decode cX9_orderBy 84 = .ok (.if_icmp .ge 7, 3) := by decide +kernel
theorem dX9_orderBy_87 : decode cX9_orderBy 87 = .ok (.iconst 1, 1) := by decide +kernel
theorem dX9_orderBy_88 : decode cX9_orderBy 88 = .ok (.goto 4, 3) := by decide +kernel
theorem dX9_orderBy_91 : decode cX9_orderBy 91 = .ok (.iconst 0, 1) := by decide +kernel
theorem dX9_orderBy_92 : decode cX9_orderBy 92 = .ok (.iadd, 1) := by decide +kernel
theorem dX9_orderBy_93 : decode cX9_orderBy 93 = .ok (.istore_n 3, 1) := by decide +kernel
theorem dX9_orderBy_94 : decode cX9_orderBy 94 = .ok (.iinc 5 1, 3) := by decide +kernel
theorem dX9_orderBy_97 : decode cX9_orderBy 97 = .ok (.goto (-62), 3) := by decide +kernel
theorem dX9_orderBy_100 : decode cX9_orderBy 100 = .ok (.aload_n 0, 1) := by decide +kernel
theorem dX9_orderBy_101 : decode cX9_orderBy 101 = .ok (.getfield 81, 3) := by decide +kernel
theorem dX9_orderBy_104 : decode cX9_orderBy 104 = .ok (.iload_n 3, 1) := by decide +kernel
theorem dX9_orderBy_105 : decode cX9_orderBy 105 = .ok (.iload_n 2, 1) := by decide +kernel
theorem dX9_orderBy_106 : decode cX9_orderBy 106 = .ok (.iastore, 1) := by decide +kernel
theorem dX9_orderBy_107 : decode cX9_orderBy 107 = .ok (.iinc 2 1, 3) := by decide +kernel
theorem dX9_orderBy_110 : decode cX9_orderBy 110 = .ok (.goto (-108), 3) := by decide +kernel
theorem dX9_orderBy_113 : decode cX9_orderBy 113 = .ok (.return_, 1) := by decide +kernel
theorem dX9_orderLayers_0 : decode cX9_orderLayers 0 = .ok (.iconst 0, 1) := by decide +kernel
theorem dX9_orderLayers_1 : decode cX9_orderLayers 1 = .ok (.istore_n 1, 1) := by decide +kernel
theorem dX9_orderLayers_2 : decode cX9_orderLayers 2 = .ok (.iload_n 1, 1) := by decide +kernel
theorem dX9_orderLayers_3 : decode cX9_orderLayers 3 = .ok (.aload_n 0, 1) := by decide +kernel
theorem dX9_orderLayers_4 : decode cX9_orderLayers 4 = .ok (.getfield 93, 3) := by decide +kernel
theorem dX9_orderLayers_7 : decode cX9_orderLayers 7 = .ok (.if_icmp .ge 16, 3) := by decide +kernel
theorem dX9_orderLayers_10 : decode cX9_orderLayers 10 = .ok (.aload_n 0, 1) := by decide +kernel
theorem dX9_orderLayers_11 : decode cX9_orderLayers 11 = .ok (.getfield 84, 3) := by decide +kernel
theorem dX9_orderLayers_14 : decode cX9_orderLayers 14 = .ok (.iload_n 1, 1) := by decide +kernel
theorem dX9_orderLayers_15 : decode cX9_orderLayers 15 = .ok (.iconst 0, 1) := by decide +kernel
theorem dX9_orderLayers_16 : decode cX9_orderLayers 16 = .ok (.bastore, 1) := by decide +kernel
theorem dX9_orderLayers_17 : decode cX9_orderLayers 17 = .ok (.iinc 1 1, 3) := by decide +kernel
theorem dX9_orderLayers_20 : decode cX9_orderLayers 20 = .ok (.goto (-18), 3) := by decide +kernel
theorem dX9_orderLayers_23 : decode cX9_orderLayers 23 = .ok (.iconst 0, 1) := by decide +kernel
theorem dX9_orderLayers_24 : decode cX9_orderLayers 24 = .ok (.istore_n 1, 1) := by decide +kernel
theorem dX9_orderLayers_25 : decode cX9_orderLayers 25 = .ok (.iconst 0, 1) := by decide +kernel
theorem dX9_orderLayers_26 : decode cX9_orderLayers 26 = .ok (.istore_n 2, 1) := by decide +kernel
theorem dX9_orderLayers_27 : decode cX9_orderLayers 27 = .ok (.iload_n 2, 1) := by decide +kernel
theorem dX9_orderLayers_28 : decode cX9_orderLayers 28 = .ok (.aload_n 0, 1) := by decide +kernel
theorem dX9_orderLayers_29 : decode cX9_orderLayers 29 = .ok (.getfield 93, 3) := by decide +kernel
theorem dX9_orderLayers_32 : decode cX9_orderLayers 32 = .ok (.if_icmp .ge 109, 3) := by decide +kernel
theorem dX9_orderLayers_35 : decode cX9_orderLayers 35 = .ok (.iload_n 2, 1) := by decide +kernel
theorem dX9_orderLayers_36 : decode cX9_orderLayers 36 = .ok (.iload_n 1, 1) := by decide +kernel
theorem dX9_orderLayers_37 : decode cX9_orderLayers 37 = .ok (.if_icmp .ne 37, 3) := by decide +kernel
theorem dX9_orderLayers_40 : decode cX9_orderLayers 40 = .ok (.iconst 0, 1) := by decide +kernel
theorem dX9_orderLayers_41 : decode cX9_orderLayers 41 = .ok (.istore_n 3, 1) := by decide +kernel
theorem dX9_orderLayers_42 : decode cX9_orderLayers 42 = .ok (.aload_n 0, 1) := by decide +kernel
theorem dX9_orderLayers_43 : decode cX9_orderLayers 43 = .ok (.getfield 84, 3) := by decide +kernel
theorem dX9_orderLayers_46 : decode cX9_orderLayers 46 = .ok (.iload_n 3, 1) := by decide +kernel
theorem dX9_orderLayers_47 : decode cX9_orderLayers 47 = .ok (.baload, 1) := by decide +kernel
theorem dX9_orderLayers_48 : decode cX9_orderLayers 48 = .ok (.ifCond .eq 9, 3) := by decide +kernel
theorem dX9_orderLayers_51 : decode cX9_orderLayers 51 = .ok (.iinc 3 1, 3) := by decide +kernel
theorem dX9_orderLayers_54 : decode cX9_orderLayers 54 = .ok (.goto (-12), 3) := by decide +kernel
theorem dX9_orderLayers_57 : decode cX9_orderLayers 57 = .ok (.aload_n 0, 1) := by decide +kernel
theorem dX9_orderLayers_58 : decode cX9_orderLayers 58 = .ok (.getfield 81, 3) := by decide +kernel
theorem dX9_orderLayers_61 : decode cX9_orderLayers 61 = .ok (.iload_n 1, 1) := by decide +kernel
theorem dX9_orderLayers_62 : decode cX9_orderLayers 62 = .ok (.iload_n 3, 1) := by decide +kernel
theorem dX9_orderLayers_63 : decode cX9_orderLayers 63 = .ok (.iastore, 1) := by decide +kernel
theorem dX9_orderLayers_64 : decode cX9_orderLayers 64 = .ok (.aload_n 0, 1) := by decide +kernel
theorem dX9_orderLayers_65 : decode cX9_orderLayers 65 = .ok (.getfield 84, 3) := by decide +kernel
theorem dX9_orderLayers_68 : decode cX9_orderLayers 68 = .ok (.iload_n 3, 1) := by decide +kernel
theorem dX9_orderLayers_69 : decode cX9_orderLayers 69 = .ok (.iconst 1, 1) := by decide +kernel
theorem dX9_orderLayers_70 : decode cX9_orderLayers 70 = .ok (.bastore, 1) := by decide +kernel
theorem dX9_orderLayers_71 : decode cX9_orderLayers 71 = .ok (.iinc 1 1, 3) := by decide +kernel
theorem dX9_orderLayers_74 : decode cX9_orderLayers 74 = .ok (.iconst 0, 1) := by decide +kernel
theorem dX9_orderLayers_75 : decode cX9_orderLayers 75 = .ok (.istore_n 3, 1) := by decide +kernel
theorem dX9_orderLayers_76 : decode cX9_orderLayers 76 = .ok (.iload_n 3, 1) := by decide +kernel
theorem dX9_orderLayers_77 : decode cX9_orderLayers 77 = .ok (.aload_n 0, 1) := by decide +kernel
theorem dX9_orderLayers_78 : decode cX9_orderLayers 78 = .ok (.getfield 93, 3) := by decide +kernel
theorem dX9_orderLayers_81 : decode cX9_orderLayers 81 = .ok (.if_icmp .ge 54, 3) := by decide +kernel
theorem dX9_orderLayers_84 : decode cX9_orderLayers 84 = .ok (.aload_n 0, 1) := by decide +kernel
theorem dX9_orderLayers_85 : decode cX9_orderLayers 85 = .ok (.getfield 13, 3) := by decide +kernel
theorem dX9_orderLayers_88 : decode cX9_orderLayers 88 = .ok (.bipush 48, 2) := by decide +kernel
theorem dX9_orderLayers_90 : decode cX9_orderLayers 90 = .ok (.aload_n 0, 1) := by decide +kernel
theorem dX9_orderLayers_91 : decode cX9_orderLayers 91 = .ok (.getfield 81, 3) := by decide +kernel
theorem dX9_orderLayers_94 : decode cX9_orderLayers 94 = .ok (.iload_n 2, 1) := by decide +kernel
theorem dX9_orderLayers_95 : decode cX9_orderLayers 95 = .ok (.iaload, 1) := by decide +kernel
theorem dX9_orderLayers_96 : decode cX9_orderLayers 96 = .ok (.imul, 1) := by decide +kernel
theorem dX9_orderLayers_97 : decode cX9_orderLayers 97 = .ok (.iload_n 3, 1) := by decide +kernel
theorem dX9_orderLayers_98 : decode cX9_orderLayers 98 = .ok (.iadd, 1) := by decide +kernel
theorem dX9_orderLayers_99 : decode cX9_orderLayers 99 = .ok (.baload, 1) := by decide +kernel
theorem dX9_orderLayers_100 : decode cX9_orderLayers 100 = .ok (.ifCond .eq 29, 3) := by decide +kernel
theorem dX9_orderLayers_103 : decode cX9_orderLayers 103 = .ok (.aload_n 0, 1) := by decide +kernel
theorem dX9_orderLayers_104 : decode cX9_orderLayers 104 = .ok (.getfield 84, 3) := by decide +kernel
theorem dX9_orderLayers_107 : decode cX9_orderLayers 107 = .ok (.iload_n 3, 1) := by decide +kernel
theorem dX9_orderLayers_108 : decode cX9_orderLayers 108 = .ok (.baload, 1) := by decide +kernel
theorem dX9_orderLayers_109 : decode cX9_orderLayers 109 = .ok (.ifCond .ne 20, 3) := by decide +kernel
theorem dX9_orderLayers_112 : decode cX9_orderLayers 112 = .ok (.aload_n 0, 1) := by decide +kernel
theorem dX9_orderLayers_113 : decode cX9_orderLayers 113 = .ok (.getfield 81, 3) := by decide +kernel
theorem dX9_orderLayers_116 : decode cX9_orderLayers 116 = .ok (.iload_n 1, 1) := by decide +kernel
theorem dX9_orderLayers_117 : decode cX9_orderLayers 117 = .ok (.iload_n 3, 1) := by decide +kernel
theorem dX9_orderLayers_118 : decode cX9_orderLayers 118 = .ok (.iastore, 1) := by decide +kernel
theorem dX9_orderLayers_119 : decode cX9_orderLayers 119 = .ok (.aload_n 0, 1) := by decide +kernel
theorem dX9_orderLayers_120 : decode cX9_orderLayers 120 = .ok (.getfield 84, 3) := by decide +kernel
theorem dX9_orderLayers_123 : decode cX9_orderLayers 123 = .ok (.iload_n 3, 1) := by decide +kernel
theorem dX9_orderLayers_124 : decode cX9_orderLayers 124 = .ok (.iconst 1, 1) := by decide +kernel
theorem dX9_orderLayers_125 : decode cX9_orderLayers 125 = .ok (.bastore, 1) := by decide +kernel
theorem dX9_orderLayers_126 : decode cX9_orderLayers 126 = .ok (.iinc 1 1, 3) := by decide +kernel
theorem dX9_orderLayers_129 : decode cX9_orderLayers 129 = .ok (.iinc 3 1, 3) := by decide +kernel
theorem dX9_orderLayers_132 : decode cX9_orderLayers 132 = .ok (.goto (-56), 3) := by decide +kernel
theorem dX9_orderLayers_135 : decode cX9_orderLayers 135 = .ok (.iinc 2 1, 3) := by decide +kernel
theorem dX9_orderLayers_138 : decode cX9_orderLayers 138 = .ok (.goto (-111), 3) := by decide +kernel
theorem dX9_orderLayers_141 : decode cX9_orderLayers 141 = .ok (.return_, 1) := by decide +kernel
theorem dX9_toOrder_0 : decode cX9_toOrder 0 = .ok (.iload_n 1, 1) := by decide +kernel
theorem dX9_toOrder_1 : decode cX9_toOrder 1 = .ok (.iconst 1, 1) := by decide +kernel
theorem dX9_toOrder_2 : decode cX9_toOrder 2 = .ok (.if_icmp .ne 10, 3) := by decide +kernel
theorem dX9_toOrder_5 : decode cX9_toOrder 5 = .ok (.aload_n 0, 1) := by decide +kernel
theorem dX9_toOrder_6 : decode cX9_toOrder 6 = .ok (.invokevirtual 247, 3) := by decide +kernel
theorem dX9_toOrder_9 : decode cX9_toOrder 9 = .ok (.goto 8, 3) := by decide +kernel
theorem dX9_toOrder_12 : decode cX9_toOrder 12 = .ok (.aload_n 0, 1) := by decide +kernel
theorem dX9_toOrder_13 : decode cX9_toOrder 13 = .ok (.iload_n 1, 1) := by decide +kernel
theorem dX9_toOrder_14 : decode cX9_toOrder 14 = .ok (.invokevirtual 250, 3) := by decide +kernel
theorem dX9_toOrder_17 : decode cX9_toOrder 17 = .ok (.return_, 1) := by decide +kernel
theorem dX9_order_0 : decode cX9_order 0 = .ok (.aload_n 0, 1) := by decide +kernel
theorem dX9_order_1 : decode cX9_order 1 = .ok (.iconst 0, 1) := by decide +kernel
theorem dX9_order_2 : decode cX9_order 2 = .ok (.putfield 1, 3) := by decide +kernel
theorem dX9_order_5 : decode cX9_order 5 = .ok (.iload_n 1, 1) := by decide +kernel
theorem dX9_order_6 : decode cX9_order 6 = .ok (.i2l, 1) := by decide +kernel
theorem dX9_order_7 : decode cX9_order 7 = .ok (.lconst 0, 1) := by decide +kernel
theorem dX9_order_8 : decode cX9_order 8 = .ok (.ldc2_w 253, 3) := by decide +kernel
theorem dX9_order_11 : decode cX9_order 11 = .ok (.invokestatic 96, 3) := by decide +kernel
theorem dX9_order_14 : decode cX9_order 14 = .ok (.ifCond .ne 6, 3) := by decide +kernel
theorem dX9_order_17 : decode cX9_order 17 = .ok (.bipush (-2), 2) := by decide +kernel
theorem dX9_order_19 : decode cX9_order 19 = .ok (.ireturn, 1) := by decide +kernel
theorem dX9_order_20 : decode cX9_order 20 = .ok (.aload_n 0, 1) := by decide +kernel
theorem dX9_order_21 : decode cX9_order 21 = .ok (.iload_n 1, 1) := by decide +kernel
theorem dX9_order_22 : decode cX9_order 22 = .ok (.invokevirtual 255, 3) := by decide +kernel
theorem dX9_order_25 : decode cX9_order 25 = .ok (.aload_n 0, 1) := by decide +kernel
theorem dX9_order_26 : decode cX9_order 26 = .ok (.iload_n 2, 1) := by decide +kernel
theorem dX9_order_27 : decode cX9_order 27 = .ok (.invokevirtual 107, 3) := by decide +kernel
theorem dX9_order_30 : decode cX9_order 30 = .ok (.ifCond .eq 12, 3) := by decide +kernel
theorem dX9_order_33 : decode cX9_order 33 = .ok (.aload_n 0, 1) := by decide +kernel
theorem dX9_order_34 : decode cX9_order 34 = .ok (.getfield 81, 3) := by decide +kernel
theorem dX9_order_37 : decode cX9_order 37 = .ok (.iload_n 2, 1) := by decide +kernel
theorem dX9_order_38 : decode cX9_order 38 = .ok (.iaload, 1) := by decide +kernel
theorem dX9_order_39 : decode cX9_order 39 = .ok (.goto 4, 3) := by decide +kernel
theorem dX9_order_42 : decode cX9_order 42 = .ok (.iconst (-1), 1) := by decide +kernel
theorem dX9_order_43 : decode cX9_order 43 = .ok (.ireturn, 1) := by decide +kernel
theorem dX9_renumber_0 : decode cX9_renumber 0 = .ok (.aload_n 0, 1) := by decide +kernel
theorem dX9_renumber_1 : decode cX9_renumber 1 = .ok (.iconst 0, 1) := by decide +kernel
theorem dX9_renumber_2 : decode cX9_renumber 2 = .ok (.putfield 1, 3) := by decide +kernel
theorem dX9_renumber_5 : decode cX9_renumber 5 = .ok (.iload_n 1, 1) := by decide +kernel
theorem dX9_renumber_6 : decode cX9_renumber 6 = .ok (.i2l, 1) := by decide +kernel
theorem dX9_renumber_7 : decode cX9_renumber 7 = .ok (.lconst 0, 1) := by decide +kernel
theorem dX9_renumber_8 : decode cX9_renumber 8 = .ok (.ldc2_w 253, 3) := by decide +kernel
theorem dX9_renumber_11 : decode cX9_renumber 11 = .ok (.invokestatic 96, 3) := by decide +kernel
theorem dX9_renumber_14 : decode cX9_renumber 14 = .ok (.ifCond .ne 6, 3) := by decide +kernel
theorem dX9_renumber_17 : decode cX9_renumber 17 = .ok (.bipush (-2), 2) := by decide +kernel
theorem dX9_renumber_19 : decode cX9_renumber 19 = .ok (.ireturn, 1) := by decide +kernel
theorem dX9_renumber_20 : decode cX9_renumber 20 = .ok (.aload_n 0, 1) := by decide +kernel
theorem dX9_renumber_21 : decode cX9_renumber 21 = .ok (.iload_n 1, 1) := by decide +kernel
theorem dX9_renumber_22 : decode cX9_renumber 22 = .ok (.invokevirtual 255, 3) := by decide +kernel
theorem dX9_renumber_25 : decode cX9_renumber 25 = .ok (.iconst 0, 1) := by decide +kernel
theorem dX9_renumber_26 : decode cX9_renumber 26 = .ok (.istore_n 2, 1) := by decide +kernel
theorem dX9_renumber_27 : decode cX9_renumber 27 = .ok (.iload_n 2, 1) := by decide +kernel
theorem dX9_renumber_28 : decode cX9_renumber 28 = .ok (.aload_n 0, 1) := by decide +kernel
theorem dX9_renumber_29 : decode cX9_renumber 29 = .ok (.getfield 93, 3) := by decide +kernel
theorem dX9_renumber_32 : decode cX9_renumber 32 = .ok (.if_icmp .ge 57, 3) := by decide +kernel
theorem dX9_renumber_35 : decode cX9_renumber 35 = .ok (.iconst 0, 1) := by decide +kernel
theorem dX9_renumber_36 : decode cX9_renumber 36 = .ok (.istore_n 3, 1) := by decide +kernel
theorem dX9_renumber_37 : decode cX9_renumber 37 = .ok (.iload_n 3, 1) := by decide +kernel
theorem dX9_renumber_38 : decode cX9_renumber 38 = .ok (.aload_n 0, 1) := by decide +kernel
theorem dX9_renumber_39 : decode cX9_renumber 39 = .ok (.getfield 93, 3) := by decide +kernel
theorem dX9_renumber_42 : decode cX9_renumber 42 = .ok (.if_icmp .ge 41, 3) := by decide +kernel
theorem dX9_renumber_45 : decode cX9_renumber 45 = .ok (.aload_n 0, 1) := by decide +kernel
theorem dX9_renumber_46 : decode cX9_renumber 46 = .ok (.getfield 20, 3) := by decide +kernel
theorem dX9_renumber_49 : decode cX9_renumber 49 = .ok (.bipush 48, 2) := by decide +kernel
theorem dX9_renumber_51 : decode cX9_renumber 51 = .ok (.iload_n 2, 1) := by decide +kernel
theorem dX9_renumber_52 : decode cX9_renumber 52 = .ok (.imul, 1) := by decide +kernel
theorem dX9_renumber_53 : decode cX9_renumber 53 = .ok (.iload_n 3, 1) := by decide +kernel
theorem dX9_renumber_54 : decode cX9_renumber 54 = .ok (.iadd, 1) := by decide +kernel
theorem dX9_renumber_55 : decode cX9_renumber 55 = .ok (.aload_n 0, 1) := by decide +kernel
theorem dX9_renumber_56 : decode cX9_renumber 56 = .ok (.getfield 13, 3) := by decide +kernel
theorem dX9_renumber_59 : decode cX9_renumber 59 = .ok (.bipush 48, 2) := by decide +kernel
theorem dX9_renumber_61 : decode cX9_renumber 61 = .ok (.aload_n 0, 1) := by decide +kernel
theorem dX9_renumber_62 : decode cX9_renumber 62 = .ok (.getfield 81, 3) := by decide +kernel
theorem dX9_renumber_65 : decode cX9_renumber 65 = .ok (.iload_n 2, 1) := by decide +kernel
theorem dX9_renumber_66 : decode cX9_renumber 66 = .ok (.iaload, 1) := by decide +kernel
theorem dX9_renumber_67 : decode cX9_renumber 67 = .ok (.imul, 1) := by decide +kernel
theorem dX9_renumber_68 : decode cX9_renumber 68 = .ok (.aload_n 0, 1) := by decide +kernel
theorem dX9_renumber_69 : decode cX9_renumber 69 = .ok (.getfield 81, 3) := by decide +kernel
theorem dX9_renumber_72 : decode cX9_renumber 72 = .ok (.iload_n 3, 1) := by decide +kernel
theorem dX9_renumber_73 : decode cX9_renumber 73 = .ok (.iaload, 1) := by decide +kernel
theorem dX9_renumber_74 : decode cX9_renumber 74 = .ok (.iadd, 1) := by decide +kernel
theorem dX9_renumber_75 : decode cX9_renumber 75 = .ok (.baload, 1) := by decide +kernel
theorem dX9_renumber_76 : decode cX9_renumber 76 = .ok (.bastore, 1) := by decide +kernel
theorem dX9_renumber_77 : decode cX9_renumber 77 = .ok (.iinc 3 1, 3) := by decide +kernel
theorem dX9_renumber_80 : decode cX9_renumber 80 = .ok (.goto (-43), 3) := by decide +kernel
theorem dX9_renumber_83 : decode cX9_renumber 83 = .ok (.iinc 2 1, 3) := by decide +kernel
theorem dX9_renumber_86 : decode cX9_renumber 86 = .ok (.goto (-59), 3) := by decide +kernel
theorem dX9_renumber_89 : decode cX9_renumber 89 = .ok (.iconst 0, 1) := by decide +kernel
theorem dX9_renumber_90 : decode cX9_renumber 90 = .ok (.istore_n 2, 1) := by decide +kernel
theorem dX9_renumber_91 : decode cX9_renumber 91 = .ok (.iconst 0, 1) := by decide +kernel
