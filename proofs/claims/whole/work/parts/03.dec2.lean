theorem dX8_init_89 : decode cX8_init 89 = .ok (.dup, 1) := by decide +kernel
theorem dX8_init_90 : decode cX8_init 90 = .ok (.iload_n 2, 1) := by decide +kernel
theorem dX8_init_91 : decode cX8_init 91 = .ok (.invokespecial 64, 3) := by decide +kernel
theorem dX8_init_94 : decode cX8_init 94 = .ok (.putfield 65, 3) := by decide +kernel
theorem dX8_init_97 : decode cX8_init 97 = .ok (.return_, 1) := by decide +kernel
theorem dX8_pair_0 : decode cX8_pair 0 = .ok (.aload_n 0, 1) := by decide +kernel
theorem dX8_pair_1 : decode cX8_pair 1 = .ok (.iload_n 1, 1) := by decide +kernel
theorem dX8_pair_2 : decode cX8_pair 2 = .ok (.iload_n 2, 1) := by decide +kernel
theorem dX8_pair_3 : decode cX8_pair 3 = .ok (.iconst 1, 1) := by decide +kernel
theorem dX8_pair_4 : decode cX8_pair 4 = .ok (.invokevirtual 69, 3) := by decide +kernel
theorem dX8_pair_7 : decode cX8_pair 7 = .ok (.ireturn, 1) := by decide +kernel
theorem dX8_drop_0 : decode cX8_drop 0 = .ok (.aload_n 0, 1) := by decide +kernel
theorem dX8_drop_1 : decode cX8_drop 1 = .ok (.iload_n 1, 1) := by decide +kernel
theorem dX8_drop_2 : decode cX8_drop 2 = .ok (.iload_n 2, 1) := by decide +kernel
theorem dX8_drop_3 : decode cX8_drop 3 = .ok (.iconst 0, 1) := by decide +kernel
theorem dX8_drop_4 : decode cX8_drop 4 = .ok (.invokevirtual 69, 3) := by decide +kernel
theorem dX8_drop_7 : decode cX8_drop 7 = .ok (.ireturn, 1) := by decide +kernel
theorem dX8_has_0 : decode cX8_has 0 = .ok (.aload_n 0, 1) := by decide +kernel
theorem dX8_has_1 : decode cX8_has 1 = .ok (.getfield 23, 3) := by decide +kernel
theorem dX8_has_4 : decode cX8_has 4 = .ok (.iload_n 1, 1) := by decide +kernel
theorem dX8_has_5 : decode cX8_has 5 = .ok (.invokevirtual 73, 3) := by decide +kernel
theorem dX8_has_8 : decode cX8_has 8 = .ok (.ifCond .eq 14, 3) := by decide +kernel
theorem dX8_has_11 : decode cX8_has 11 = .ok (.aload_n 0, 1) := by decide +kernel
theorem dX8_has_12 : decode cX8_has 12 = .ok (.getfield 23, 3) := by decide +kernel
theorem dX8_has_15 : decode cX8_has 15 = .ok (.iload_n 2, 1) := by decide +kernel
theorem dX8_has_16 : decode cX8_has 16 = .ok (.invokevirtual 73, 3) := by decide +kernel
theorem dX8_has_19 : decode cX8_has 19 = .ok (.ifCond .ne 6, 3) := by decide +kernel
theorem dX8_has_22 : decode cX8_has 22 = .ok (.bipush (-2), 2) := by decide +kernel
theorem dX8_has_24 : decode cX8_has 24 = .ok (.ireturn, 1) := by decide +kernel
theorem dX8_has_25 : decode cX8_has 25 = .ok (.aload_n 0, 1) := by decide +kernel
theorem dX8_has_26 : decode cX8_has 26 = .ok (.getfield 23, 3) := by decide +kernel
theorem dX8_has_29 : decode cX8_has 29 = .ok (.iload_n 1, 1) := by decide +kernel
theorem dX8_has_30 : decode cX8_has 30 = .ok (.iload_n 2, 1) := by decide +kernel
theorem dX8_has_31 : decode cX8_has 31 = .ok (.invokevirtual 77, 3) := by decide +kernel
theorem dX8_has_34 : decode cX8_has 34 = .ok (.ifCond .eq 7, 3) := by decide +kernel
theorem dX8_has_37 : decode cX8_has 37 = .ok (.iconst 1, 1) := by decide +kernel
theorem dX8_has_38 : decode cX8_has 38 = .ok (.goto 4, 3) := by decide +kernel
theorem dX8_has_41 : decode cX8_has 41 = .ok (.iconst 0, 1) := by decide +kernel
theorem dX8_has_42 : decode cX8_has 42 = .ok (.ireturn, 1) := by decide +kernel
theorem dX8_next_0 : decode cX8_next 0 = .ok (.aload_n 0, 1) := by decide +kernel
theorem dX8_next_1 : decode cX8_next 1 = .ok (.getfield 23, 3) := by decide +kernel
theorem dX8_next_4 : decode cX8_next 4 = .ok (.iload_n 1, 1) := by decide +kernel
theorem dX8_next_5 : decode cX8_next 5 = .ok (.invokevirtual 73, 3) := by decide +kernel
theorem dX8_next_8 : decode cX8_next 8 = .ok (.ifCond .eq 7, 3) := by decide +kernel
theorem dX8_next_11 : decode cX8_next 11 = .ok (.iload_n 2, 1) := by decide +kernel
theorem dX8_next_12 : decode cX8_next 12 = .ok (.ifCond .ge 6, 3) := by decide +kernel
theorem dX8_next_15 : decode cX8_next 15 = .ok (.bipush (-2), 2) := by decide +kernel
theorem dX8_next_17 : decode cX8_next 17 = .ok (.ireturn, 1) := by decide +kernel
theorem dX8_next_18 : decode cX8_next 18 = .ok (.aload_n 0, 1) := by decide +kernel
theorem dX8_next_19 : decode cX8_next 19 = .ok (.getfield 23, 3) := by decide +kernel
theorem dX8_next_22 : decode cX8_next 22 = .ok (.iload_n 1, 1) := by decide +kernel
theorem dX8_next_23 : decode cX8_next 23 = .ok (.invokevirtual 81, 3) := by decide +kernel
theorem dX8_next_26 : decode cX8_next 26 = .ok (.iload_n 2, 1) := by decide +kernel
theorem dX8_next_27 : decode cX8_next 27 = .ok (.invokestatic 85, 3) := by decide +kernel
theorem dX8_next_30 : decode cX8_next 30 = .ok (.ireturn, 1) := by decide +kernel
theorem dX8_degree_0 : decode cX8_degree 0 = .ok (.aload_n 0, 1) := by decide +kernel
theorem dX8_degree_1 : decode cX8_degree 1 = .ok (.getfield 23, 3) := by decide +kernel
theorem dX8_degree_4 : decode cX8_degree 4 = .ok (.iload_n 1, 1) := by decide +kernel
theorem dX8_degree_5 : decode cX8_degree 5 = .ok (.invokevirtual 73, 3) := by decide +kernel
theorem dX8_degree_8 : decode cX8_degree 8 = .ok (.ifCond .eq 11, 3) := by decide +kernel
theorem dX8_degree_11 : decode cX8_degree 11 = .ok (.iload_n 2, 1) := by decide +kernel
theorem dX8_degree_12 : decode cX8_degree 12 = .ok (.iconst 2, 1) := by decide +kernel
theorem dX8_degree_13 : decode cX8_degree 13 = .ok (.invokestatic 89, 3) := by decide +kernel
theorem dX8_degree_16 : decode cX8_degree 16 = .ok (.ifCond .ne 6, 3) := by decide +kernel
theorem dX8_degree_19 : decode cX8_degree 19 = .ok (.bipush (-2), 2) := by decide +kernel
theorem dX8_degree_21 : decode cX8_degree 21 = .ok (.ireturn, 1) := by decide +kernel
theorem dX8_degree_22 : decode cX8_degree 22 = .ok (.iload_n 2, 1) := by decide +kernel
theorem dX8_degree_23 : decode cX8_degree 23 = .ok (.ifCond .ne 14, 3) := by decide +kernel
theorem dX8_degree_26 : decode cX8_degree 26 = .ok (.aload_n 0, 1) := by decide +kernel
theorem dX8_degree_27 : decode cX8_degree 27 = .ok (.getfield 23, 3) := by decide +kernel
theorem dX8_degree_30 : decode cX8_degree 30 = .ok (.iload_n 1, 1) := by decide +kernel
theorem dX8_degree_31 : decode cX8_degree 31 = .ok (.invokevirtual 81, 3) := by decide +kernel
theorem dX8_degree_34 : decode cX8_degree 34 = .ok (.goto 11, 3) := by decide +kernel
theorem dX8_degree_37 : decode cX8_degree 37 = .ok (.aload_n 0, 1) := by decide +kernel
theorem dX8_degree_38 : decode cX8_degree 38 = .ok (.getfield 23, 3) := by decide +kernel
theorem dX8_degree_41 : decode cX8_degree 41 = .ok (.iload_n 1, 1) := by decide +kernel
theorem dX8_degree_42 : decode cX8_degree 42 = .ok (.invokevirtual 92, 3) := by decide +kernel
theorem dX8_degree_45 : decode cX8_degree 45 = .ok (.invokestatic 95, 3) := by decide +kernel
theorem dX8_degree_48 : decode cX8_degree 48 = .ok (.ireturn, 1) := by decide +kernel
theorem dX8_meet_0 : decode cX8_meet 0 = .ok (.aload_n 0, 1) := by decide +kernel
theorem dX8_meet_1 : decode cX8_meet 1 = .ok (.getfield 23, 3) := by decide +kernel
theorem dX8_meet_4 : decode cX8_meet 4 = .ok (.iload_n 1, 1) := by decide +kernel
theorem dX8_meet_5 : decode cX8_meet 5 = .ok (.invokevirtual 73, 3) := by decide +kernel
theorem dX8_meet_8 : decode cX8_meet 8 = .ok (.ifCond .eq 14, 3) := by decide +kernel
theorem dX8_meet_11 : decode cX8_meet 11 = .ok (.aload_n 0, 1) := by decide +kernel
theorem dX8_meet_12 : decode cX8_meet 12 = .ok (.getfield 23, 3) := by decide +kernel
theorem dX8_meet_15 : decode cX8_meet 15 = .ok (.iload_n 2, 1) := by decide +kernel
theorem dX8_meet_16 : decode cX8_meet 16 = .ok (.invokevirtual 73, 3) := by decide +kernel
theorem dX8_meet_19 : decode cX8_meet 19 = .ok (.ifCond .ne 6, 3) := by decide +kernel
theorem dX8_meet_22 : decode cX8_meet 22 = .ok (.bipush (-2), 2) := by decide +kernel
theorem dX8_meet_24 : decode cX8_meet 24 = .ok (.ireturn, 1) := by decide +kernel
theorem dX8_meet_25 : decode cX8_meet 25 = .ok (.aload_n 0, 1) := by decide +kernel
theorem dX8_meet_26 : decode cX8_meet 26 = .ok (.getfield 23, 3) := by decide +kernel
theorem dX8_meet_29 : decode cX8_meet 29 = .ok (.iload_n 1, 1) := by decide +kernel
theorem dX8_meet_30 : decode cX8_meet 30 = .ok (.invokevirtual 81, 3) := by decide +kernel
theorem dX8_meet_33 : decode cX8_meet 33 = .ok (.aload_n 0, 1) := by decide +kernel
theorem dX8_meet_34 : decode cX8_meet 34 = .ok (.getfield 23, 3) := by decide +kernel
theorem dX8_meet_37 : decode cX8_meet 37 = .ok (.iload_n 2, 1) := by decide +kernel
theorem dX8_meet_38 : decode cX8_meet 38 = .ok (.invokevirtual 81, 3) := by decide +kernel
theorem dX8_meet_41 : decode cX8_meet 41 = .ok (.land, 1) := by decide +kernel
theorem dX8_meet_42 : decode cX8_meet 42 = .ok (.invokestatic 95, 3) := by decide +kernel
theorem dX8_meet_45 : decode cX8_meet 45 = .ok (.ireturn, 1) := by decide +kernel
theorem dX8_back_0 : decode cX8_back 0 = .ok (.aload_n 0, 1) := by decide +kernel
theorem dX8_back_1 : decode cX8_back 1 = .ok (.getfield 23, 3) := by decide +kernel
theorem dX8_back_4 : decode cX8_back 4 = .ok (.iload_n 1, 1) := by decide +kernel
theorem dX8_back_5 : decode cX8_back 5 = .ok (.invokevirtual 73, 3) := by decide +kernel
theorem dX8_back_8 : decode cX8_back 8 = .ok (.ifCond .ne 6, 3) := by decide +kernel
theorem dX8_back_11 : decode cX8_back 11 = .ok (.bipush (-2), 2) := by decide +kernel
theorem dX8_back_13 : decode cX8_back 13 = .ok (.ireturn, 1) := by decide +kernel
theorem dX8_back_14 : decode cX8_back 14 = .ok (.aload_n 0, 1) := by decide +kernel
theorem dX8_back_15 : decode cX8_back 15 = .ok (.getfield 23, 3) := by decide +kernel
theorem dX8_back_18 : decode cX8_back 18 = .ok (.iload_n 1, 1) := by decide +kernel
theorem dX8_back_19 : decode cX8_back 19 = .ok (.invokevirtual 92, 3) := by decide +kernel
theorem dX8_back_22 : decode cX8_back 22 = .ok (.iload_n 2, 1) := by decide +kernel
theorem dX8_back_23 : decode cX8_back 23 = .ok (.invokestatic 101, 3) := by decide +kernel
theorem dX8_back_26 : decode cX8_back 26 = .ok (.ireturn, 1) := by decide +kernel
theorem dX8_form_0 : decode cX8_form 0 = .ok (.iload_n 1, 1) := by decide +kernel
theorem dX8_form_1 : decode cX8_form 1 = .ok (.bipush 8, 2) := by decide +kernel
theorem dX8_form_3 : decode cX8_form 3 = .ok (.invokestatic 89, 3) := by decide +kernel
theorem dX8_form_6 : decode cX8_form 6 = .ok (.ifCond .eq 12, 3) := by decide +kernel
theorem dX8_form_9 : decode cX8_form 9 = .ok (.iload_n 2, 1) := by decide +kernel
theorem dX8_form_10 : decode cX8_form 10 = .ok (.bipush 10, 2) := by decide +kernel
theorem dX8_form_12 : decode cX8_form 12 = .ok (.invokestatic 89, 3) := by decide +kernel
theorem dX8_form_15 : decode cX8_form 15 = .ok (.ifCond .ne 6, 3) := by decide +kernel
theorem dX8_form_18 : decode cX8_form 18 = .ok (.bipush (-2), 2) := by decide +kernel
theorem dX8_form_20 : decode cX8_form 20 = .ok (.ireturn, 1) := by decide +kernel
theorem dX8_form_21 : decode cX8_form 21 = .ok (.aload_n 0, 1) := by decide +kernel
theorem dX8_form_22 : decode cX8_form 22 = .ok (.getfield 30, 3) := by decide +kernel
theorem dX8_form_25 : decode cX8_form 25 = .ok (.iload_n 1, 1) := by decide +kernel
theorem dX8_form_26 : decode cX8_form 26 = .ok (.invokevirtual 104, 3) := by decide +kernel
theorem dX8_form_29 : decode cX8_form 29 = .ok (.istore_n 3, 1) := by decide +kernel
theorem dX8_form_30 : decode cX8_form 30 = .ok (.aload_n 0, 1) := by decide +kernel
theorem dX8_form_31 : decode cX8_form 31 = .ok (.getfield 30, 3) := by decide +kernel
theorem dX8_form_34 : decode cX8_form 34 = .ok (.iload_n 1, 1) := by decide +kernel
theorem dX8_form_35 : decode cX8_form 35 = .ok (.iload_n 2, 1) := by decide +kernel
theorem dX8_form_36 : decode cX8_form 36 = .ok (.invokevirtual 108, 3) := by decide +kernel
theorem dX8_form_39 : decode cX8_form 39 = .ok (.iload_n 3, 1) := by decide +kernel
theorem dX8_form_40 : decode cX8_form 40 = .ok (.ireturn, 1) := by decide +kernel
theorem dX8_setting_0 : decode cX8_setting 0 = .ok (.aload_n 0, 1) := by decide +kernel
theorem dX8_setting_1 : decode cX8_setting 1 = .ok (.getfield 30, 3) := by decide +kernel
theorem dX8_setting_4 : decode cX8_setting 4 = .ok (.iload_n 1, 1) := by decide +kernel
theorem dX8_setting_5 : decode cX8_setting 5 = .ok (.iload_n 2, 1) := by decide +kernel
theorem dX8_setting_6 : decode cX8_setting 6 = .ok (.invokevirtual 112, 3) := by decide +kernel
theorem dX8_setting_9 : decode cX8_setting 9 = .ok (.ifCond .ne 6, 3) := by decide +kernel
theorem dX8_setting_12 : decode cX8_setting 12 = .ok (.bipush (-2), 2) := by decide +kernel
theorem dX8_setting_14 : decode cX8_setting 14 = .ok (.ireturn, 1) := by decide +kernel
theorem dX8_setting_15 : decode cX8_setting 15 = .ok (.aload_n 0, 1) := by decide +kernel
theorem dX8_setting_16 : decode cX8_setting 16 = .ok (.getfield 30, 3) := by decide +kernel
theorem dX8_setting_19 : decode cX8_setting 19 = .ok (.iload_n 1, 1) := by decide +kernel
theorem dX8_setting_20 : decode cX8_setting 20 = .ok (.invokevirtual 115, 3) := by decide +kernel
theorem dX8_setting_23 : decode cX8_setting 23 = .ok (.istore_n 3, 1) := by decide +kernel
theorem dX8_setting_24 : decode cX8_setting 24 = .ok (.aload_n 0, 1) := by decide +kernel
theorem dX8_setting_25 : decode cX8_setting 25 = .ok (.getfield 30, 3) := by decide +kernel
theorem dX8_setting_28 : decode cX8_setting 28 = .ok (.iload_n 1, 1) := by decide +kernel
theorem dX8_setting_29 : decode cX8_setting 29 = .ok (.iload_n 2, 1) := by decide +kernel
theorem dX8_setting_30 : decode cX8_setting 30 = .ok (.invokevirtual 118, 3) := by decide +kernel
theorem dX8_setting_33 : decode cX8_setting 33 = .ok (.iload_n 3, 1) := by decide +kernel
theorem dX8_setting_34 : decode cX8_setting 34 = .ok (.ireturn, 1) := by decide +kernel
theorem dX8_length_0 : decode cX8_length 0 = .ok (.iload_n 1, 1) := by decide +kernel
theorem dX8_length_1 : decode cX8_length 1 = .ok (.bipush 10, 2) := by decide +kernel
theorem dX8_length_3 : decode cX8_length 3 = .ok (.invokestatic 89, 3) := by decide +kernel
theorem dX8_length_6 : decode cX8_length 6 = .ok (.ifCond .eq 13, 3) := by decide +kernel
theorem dX8_length_9 : decode cX8_length 9 = .ok (.iload_n 2, 1) := by decide +kernel
theorem dX8_length_10 : decode cX8_length 10 = .ok (.ifCond .lt 9, 3) := by decide +kernel
theorem dX8_length_13 : decode cX8_length 13 = .ok (.iload_n 2, 1) := by decide +kernel
theorem dX8_length_14 : decode cX8_length 14 = .ok (.ldc 121, 2) := by decide +kernel
theorem dX8_length_16 : decode cX8_length 16 = .ok (.if_icmp .le 6, 3) := by decide +kernel
theorem dX8_length_19 : decode cX8_length 19 = .ok (.bipush (-2), 2) := by decide +kernel
theorem dX8_length_21 : decode cX8_length 21 = .ok (.ireturn, 1) := by decide +kernel
theorem dX8_length_22 : decode cX8_length 22 = .ok (.iload_n 1, 1) := by decide +kernel
theorem dX8_length_23 : decode cX8_length 23 = .ok (.iload_n 2, 1) := by decide +kernel
theorem dX8_length_24 : decode cX8_length 24 = .ok (.invokestatic 122, 3) := by decide +kernel
theorem dX8_length_27 : decode cX8_length 27 = .ok (.ireturn, 1) := by decide +kernel
theorem dX8_cost_0 : decode cX8_cost 0 = .ok (.aload_n 0, 1) := by decide +kernel
theorem dX8_cost_1 : decode cX8_cost 1 = .ok (.getfield 23, 3) := by decide +kernel
theorem dX8_cost_4 : decode cX8_cost 4 = .ok (.iload_n 1, 1) := by decide +kernel
theorem dX8_cost_5 : decode cX8_cost 5 = .ok (.invokevirtual 73, 3) := by decide +kernel
theorem dX8_cost_8 : decode cX8_cost 8 = .ok (.ifCond .eq 11, 3) := by decide +kernel
theorem dX8_cost_11 : decode cX8_cost 11 = .ok (.iload_n 2, 1) := by decide +kernel
theorem dX8_cost_12 : decode cX8_cost 12 = .ok (.iconst 5, 1) := by decide +kernel
theorem dX8_cost_13 : decode cX8_cost 13 = .ok (.invokestatic 89, 3) := by decide +kernel
theorem dX8_cost_16 : decode cX8_cost 16 = .ok (.ifCond .ne 6, 3) := by decide +kernel
theorem dX8_cost_19 : decode cX8_cost 19 = .ok (.bipush (-2), 2) := by decide +kernel
theorem dX8_cost_21 : decode cX8_cost 21 = .ok (.ireturn, 1) := by decide +kernel
theorem dX8_cost_22 : decode cX8_cost 22 = .ok (.iload_n 2, 1) := by decide +kernel
theorem dX8_cost_23 : decode cX8_cost 23 = .ok (.invokestatic 125, 3) := by decide +kernel
theorem dX8_cost_26 : decode cX8_cost 26 = .ok (.ifCond .eq 16, 3) := by decide +kernel
theorem dX8_cost_29 : decode cX8_cost 29 = .ok (.iload_n 3, 1) := by decide +kernel
theorem dX8_cost_30 : decode cX8_cost 30 = .ok (.iconst 1, 1) := by decide +kernel
theorem dX8_cost_31 : decode cX8_cost 31 = .ok (.if_icmp .lt 8, 3) := by decide +kernel
theorem dX8_cost_34 : decode cX8_cost 34 = .ok (.iload_n 3, 1) := by decide +kernel
theorem dX8_cost_35 : decode cX8_cost 35 = .ok (.iload_n 1, 1) := by decide +kernel
theorem dX8_cost_36 : decode cX8_cost 36 = .ok (.if_icmp .le 6, 3) := by decide +kernel
theorem dX8_cost_39 : decode cX8_cost 39 = .ok (.bipush (-2), 2) := by decide +kernel
theorem dX8_cost_41 : decode cX8_cost 41 = .ok (.ireturn, 1) := by decide +kernel
theorem dX8_cost_42 : decode cX8_cost 42 = .ok (.aload_n 0, 1) := by decide +kernel
theorem dX8_cost_43 : decode cX8_cost 43 = .ok (.getfield 37, 3) := by decide +kernel
theorem dX8_cost_46 : decode cX8_cost 46 = .ok (.aload_n 0, 1) := by decide +kernel
theorem dX8_cost_47 : decode cX8_cost 47 = .ok (.getfield 23, 3) := by decide +kernel
theorem dX8_cost_50 : decode cX8_cost 50 = .ok (.iload_n 1, 1) := by decide +kernel
theorem dX8_cost_51 : decode cX8_cost 51 = .ok (.iload_n 2, 1) := by decide +kernel
theorem dX8_cost_52 : decode cX8_cost 52 = .ok (.iload_n 3, 1) := by decide +kernel
theorem dX8_cost_53 : decode cX8_cost 53 = .ok (.aload_n 0, 1) := by decide +kernel
theorem dX8_cost_54 : decode cX8_cost 54 = .ok (.getfield 30, 3) := by decide +kernel
theorem dX8_cost_57 : decode cX8_cost 57 = .ok (.invokevirtual 128, 3) := by decide +kernel
theorem dX8_cost_60 : decode cX8_cost 60 = .ok (.istore 4, 2) := by decide +kernel
theorem dX8_cost_62 : decode cX8_cost 62 = .ok (.iload 4, 2) := by decide +kernel
theorem dX8_cost_64 : decode cX8_cost 64 = .ok (.ldc 132, 2) := by decide +kernel
theorem dX8_cost_66 : decode cX8_cost 66 = .ok (.if_icmp .ne 8, 3) := by decide +kernel
theorem dX8_cost_69 : decode cX8_cost 69 = .ok (.bipush (-3), 2) := by decide +kernel
theorem dX8_cost_71 : decode cX8_cost 71 = .ok (.goto 5, 3) := by decide +kernel
theorem dX8_cost_74 : decode cX8_cost 74 = .ok (.iload 4, 2) := by decide +kernel
theorem dX8_cost_76 : decode cX8_cost 76 = .ok (.ireturn, 1) := by decide +kernel
theorem dX8_pack_0 : decode cX8_pack 0 = .ok (.aload_n 0, 1) := by decide +kernel
theorem dX8_pack_1 : decode cX8_pack 1 = .ok (.getfield 44, 3) := by decide +kernel
theorem dX8_pack_4 : decode cX8_pack 4 = .ok (.aload_n 0, 1) := by decide +kernel
theorem dX8_pack_5 : decode cX8_pack 5 = .ok (.getfield 23, 3) := by decide +kernel
theorem dX8_pack_8 : decode cX8_pack 8 = .ok (.aload_n 0, 1) := by decide +kernel
theorem dX8_pack_9 : decode cX8_pack 9 = .ok (.getfield 30, 3) := by decide +kernel
theorem dX8_pack_12 : decode cX8_pack 12 = .ok (.aload_n 0, 1) := by decide +kernel
theorem dX8_pack_13 : decode cX8_pack 13 = .ok (.getfield 37, 3) := by decide +kernel
theorem dX8_pack_16 : decode cX8_pack 16 = .ok (.invokevirtual 133, 3) := by decide +kernel
theorem dX8_pack_19 : decode cX8_pack 19 = .ok (.aload_n 0, 1) := by decide +kernel
theorem dX8_pack_20 : decode cX8_pack 20 = .ok (.getfield 44, 3) := by decide +kernel
theorem dX8_pack_23 : decode cX8_pack 23 = .ok (.aload_n 0, 1) := by decide +kernel
theorem dX8_pack_24 : decode cX8_pack 24 = .ok (.getfield 30, 3) := by decide +kernel
theorem dX8_pack_27 : decode cX8_pack 27 = .ok (.aload_n 0, 1) := by decide +kernel
theorem dX8_pack_28 : decode cX8_pack 28 = .ok (.getfield 37, 3) := by decide +kernel
theorem dX8_pack_31 : decode cX8_pack 31 = .ok (.invokevirtual 137, 3) := by decide +kernel
theorem dX8_pack_34 : decode cX8_pack 34 = .ok (.ireturn, 1) := by decide +kernel
theorem dX8_told_0 : decode cX8_told 0 = .ok (.aload_n 0, 1) := by decide +kernel
theorem dX8_told_1 : decode cX8_told 1 = .ok (.getfield 23, 3) := by decide +kernel
theorem dX8_told_4 : decode cX8_told 4 = .ok (.iload_n 1, 1) := by decide +kernel
theorem dX8_told_5 : decode cX8_told 5 = .ok (.invokevirtual 73, 3) := by decide +kernel
theorem dX8_told_8 : decode cX8_told 8 = .ok (.ifCond .eq 11, 3) := by decide +kernel
theorem dX8_told_11 : decode cX8_told 11 = .ok (.iload_n 2, 1) := by decide +kernel
theorem dX8_told_12 : decode cX8_told 12 = .ok (.iconst 5, 1) := by decide +kernel
theorem dX8_told_13 : decode cX8_told 13 = .ok (.invokestatic 89, 3) := by decide +kernel
theorem dX8_told_16 : decode cX8_told 16 = .ok (.ifCond .ne 6, 3) := by decide +kernel
theorem dX8_told_19 : decode cX8_told 19 = .ok (.bipush (-2), 2) := by decide +kernel
theorem dX8_told_21 : decode cX8_told 21 = .ok (.ireturn, 1) := by decide +kernel
theorem dX8_told_22 : decode cX8_told 22 = .ok (.aload_n 0, 1) := by decide +kernel
theorem dX8_told_23 : decode cX8_told 23 = .ok (.getfield 44, 3) := by decide +kernel
theorem dX8_told_26 : decode cX8_told 26 = .ok (.invokevirtual 141, 3) := by decide +kernel
theorem dX8_told_29 : decode cX8_told 29 = .ok (.ifCond .ne 6, 3) := by decide +kernel
theorem dX8_told_32 : decode cX8_told 32 = .ok (.bipush (-3), 2) := by decide +kernel
theorem dX8_told_34 : decode cX8_told 34 = .ok (.ireturn, 1) := by decide +kernel
theorem dX8_told_35 : decode cX8_told 35 = .ok (.iload_n 2, 1) := by decide +kernel
theorem dX8_told_36 : decode cX8_told 36 = .ok (.tableswitch 68 0 3 #[32, 41, 50, 59], 32) := by decide +kernel
theorem dX8_told_68 : decode cX8_told 68 = .ok (.aload_n 0, 1) := by decide +kernel
theorem dX8_told_69 : decode cX8_told 69 = .ok (.getfield 44, 3) := by decide +kernel
theorem dX8_told_72 : decode cX8_told 72 = .ok (.iload_n 1, 1) := by decide +kernel
theorem dX8_told_73 : decode cX8_told 73 = .ok (.invokevirtual 145, 3) := by decide +kernel
theorem dX8_told_76 : decode cX8_told 76 = .ok (.ireturn, 1) := by decide +kernel
theorem dX8_told_77 : decode cX8_told 77 = .ok (.aload_n 0, 1) := by decide +kernel
theorem dX8_told_78 : decode cX8_told 78 = .ok (.getfield 44, 3) := by decide +kernel
theorem dX8_told_81 : decode cX8_told 81 = .ok (.iload_n 1, 1) := by decide +kernel
theorem dX8_told_82 : decode cX8_told 82 = .ok (.invokevirtual 148, 3) := by decide +kernel
theorem dX8_told_85 : decode cX8_told 85 = .ok (.ireturn, 1) := by decide +kernel
theorem dX8_told_86 : decode cX8_told 86 = .ok (.aload_n 0, 1) := by decide +kernel
theorem dX8_told_87 : decode cX8_told 87 = .ok (.getfield 44, 3) := by decide +kernel
theorem dX8_told_90 : decode cX8_told 90 = .ok (.iload_n 1, 1) := by decide +kernel
theorem dX8_told_91 : decode cX8_told 91 = .ok (.invokevirtual 151, 3) := by decide +kernel
theorem dX8_told_94 : decode cX8_told 94 = .ok (.ireturn, 1) := by decide +kernel
theorem dX8_told_95 : decode cX8_told 95 = .ok (.aload_n 0, 1) := by decide +kernel
theorem dX8_told_96 : decode cX8_told 96 = .ok (.getfield 44, 3) := by decide +kernel
theorem dX8_told_99 : decode cX8_told 99 = .ok (.iload_n 1, 1) := by decide +kernel
theorem dX8_told_100 : decode cX8_told 100 = .ok (.invokevirtual 154, 3) := by decide +kernel
theorem dX8_told_103 : decode cX8_told 103 = .ok (.ireturn, 1) := by decide +kernel
theorem dX8_told_104 : decode cX8_told 104 = .ok (.aload_n 0, 1) := by decide +kernel
theorem dX8_told_105 : decode cX8_told 105 = .ok (.getfield 44, 3) := by decide +kernel
theorem dX8_told_108 : decode cX8_told 108 = .ok (.iload_n 1, 1) := by decide +kernel
theorem dX8_told_109 : decode cX8_told 109 = .ok (.iconst 1, 1) := by decide +kernel
theorem dX8_told_110 : decode cX8_told 110 = .ok (.iadd, 1) := by decide +kernel
theorem dX8_told_111 : decode cX8_told 111 = .ok (.invokevirtual 154, 3) := by decide +kernel
theorem dX8_told_114 : decode cX8_told 114 = .ok (.aload_n 0, 1) := by decide +kernel
theorem dX8_told_115 : decode cX8_told 115 = .ok (.getfield 44, 3) := by decide +kernel
theorem dX8_told_118 : decode cX8_told 118 = .ok (.iload_n 1, 1) := by decide +kernel
theorem dX8_told_119 : decode cX8_told 119 = .ok (.invokevirtual 154, 3) := by decide +kernel
theorem dX8_told_122 : decode cX8_told 122 = .ok (.isub, 1) := by decide +kernel
theorem dX8_told_123 : decode cX8_told 123 = .ok (.ireturn, 1) := by decide +kernel
theorem dX8_looked_0 : decode cX8_looked 0 = .ok (.aload_n 0, 1) := by decide +kernel
theorem dX8_looked_1 : decode cX8_looked 1 = .ok (.getfield 23, 3) := by decide +kernel
theorem dX8_looked_4 : decode cX8_looked 4 = .ok (.iload_n 1, 1) := by decide +kernel
theorem dX8_looked_5 : decode cX8_looked 5 = .ok (.invokevirtual 73, 3) := by decide +kernel
theorem dX8_looked_8 : decode cX8_looked 8 = .ok (.ifCond .ne 6, 3) := by decide +kernel
theorem dX8_looked_11 : decode cX8_looked 11 = .ok (.bipush (-2), 2) := by decide +kernel
theorem dX8_looked_13 : decode cX8_looked 13 = .ok (.ireturn, 1) := by decide +kernel
theorem dX8_looked_14 : decode cX8_looked 14 = .ok (.aload_n 0, 1) := by decide +kernel
theorem dX8_looked_15 : decode cX8_looked 15 = .ok (.getfield 44, 3) := by decide +kernel
theorem dX8_looked_18 : decode cX8_looked 18 = .ok (.invokevirtual 141, 3) := by decide +kernel
theorem dX8_looked_21 : decode cX8_looked 21 = .ok (.ifCond .eq 14, 3) := by decide +kernel
theorem dX8_looked_24 : decode cX8_looked 24 = .ok (.aload_n 0, 1) := by decide +kernel
theorem dX8_looked_25 : decode cX8_looked 25 = .ok (.getfield 44, 3) := by decide +kernel
theorem dX8_looked_28 : decode cX8_looked 28 = .ok (.iload_n 1, 1) := by decide +kernel
theorem dX8_looked_29 : decode cX8_looked 29 = .ok (.invokevirtual 157, 3) := by decide +kernel
theorem dX8_looked_32 : decode cX8_looked 32 = .ok (.goto 5, 3) := by decide +kernel
theorem dX8_looked_35 : decode cX8_looked 35 = .ok (.bipush (-3), 2) := by decide +kernel
theorem dX8_looked_37 : decode cX8_looked 37 = .ok (.ireturn, 1) := by decide +kernel
theorem dX8_would_0 : decode cX8_would 0 = .ok (.iload_n 1, 1) := by decide +kernel
theorem dX8_would_1 : decode cX8_would 1 = .ok (.bipush 8, 2) := by decide +kernel
theorem dX8_would_3 : decode cX8_would 3 = .ok (.invokestatic 89, 3) := by decide +kernel
theorem dX8_would_6 : decode cX8_would 6 = .ok (.ifCond .eq 12, 3) := by decide +kernel
theorem dX8_would_9 : decode cX8_would 9 = .ok (.iload_n 2, 1) := by decide +kernel
theorem dX8_would_10 : decode cX8_would 10 = .ok (.bipush 10, 2) := by decide +kernel
theorem dX8_would_12 : decode cX8_would 12 = .ok (.invokestatic 89, 3) := by decide +kernel
theorem dX8_would_15 : decode cX8_would 15 = .ok (.ifCond .ne 6, 3) := by decide +kernel
theorem dX8_would_18 : decode cX8_would 18 = .ok (.bipush (-2), 2) := by decide +kernel
theorem dX8_would_20 : decode cX8_would 20 = .ok (.ireturn, 1) := by decide +kernel
theorem dX8_would_21 : decode cX8_would 21 = .ok (.aload_n 0, 1) := by decide +kernel
theorem dX8_would_22 : decode cX8_would 22 = .ok (.getfield 44, 3) := by decide +kernel
theorem dX8_would_25 : decode cX8_would 25 = .ok (.invokevirtual 141, 3) := by decide +kernel
theorem dX8_would_28 : decode cX8_would 28 = .ok (.ifCond .eq 15, 3) := by decide +kernel
theorem dX8_would_31 : decode cX8_would 31 = .ok (.aload_n 0, 1) := by decide +kernel
theorem dX8_would_32 : decode cX8_would 32 = .ok (.getfield 44, 3) := by decide +kernel
theorem dX8_would_35 : decode cX8_would 35 = .ok (.iload_n 1, 1) := by decide +kernel
theorem dX8_would_36 : decode cX8_would 36 = .ok (.iload_n 2, 1) := by decide +kernel
theorem dX8_would_37 : decode cX8_would 37 = .ok (.invokevirtual 160, 3) := by decide +kernel
theorem dX8_would_40 : decode cX8_would 40 = .ok (.goto 5, 3) := by decide +kernel
theorem dX8_would_43 : decode cX8_would 43 = .ok (.bipush (-3), 2) := by decide +kernel
theorem dX8_would_45 : decode cX8_would 45 = .ok (.ireturn, 1) := by decide +kernel
theorem dX8_forms_0 : decode cX8_forms 0 = .ok (.aload_n 0, 1) := by decide +kernel
theorem dX8_forms_1 : decode cX8_forms 1 = .ok (.getfield 44, 3) := by decide +kernel
theorem dX8_forms_4 : decode cX8_forms 4 = .ok (.invokevirtual 141, 3) := by decide +kernel
theorem dX8_forms_7 : decode cX8_forms 7 = .ok (.ifCond .eq 17, 3) := by decide +kernel
theorem dX8_forms_10 : decode cX8_forms 10 = .ok (.aload_n 0, 1) := by decide +kernel
theorem dX8_forms_11 : decode cX8_forms 11 = .ok (.getfield 44, 3) := by decide +kernel
theorem dX8_forms_14 : decode cX8_forms 14 = .ok (.aload_n 0, 1) := by decide +kernel
theorem dX8_forms_15 : decode cX8_forms 15 = .ok (.getfield 23, 3) := by decide +kernel
theorem dX8_forms_18 : decode cX8_forms 18 = .ok (.invokevirtual 163, 3) := by decide +kernel
theorem dX8_forms_21 : decode cX8_forms 21 = .ok (.ifCond .le 6, 3) := by decide +kernel
theorem dX8_forms_24 : decode cX8_forms 24 = .ok (.bipush (-3), 2) := by decide +kernel
theorem dX8_forms_26 : decode cX8_forms 26 = .ok (.ireturn, 1) := by decide +kernel
theorem dX8_forms_27 : decode cX8_forms 27 = .ok (.iconst 0, 1) := by decide +kernel
theorem dX8_forms_28 : decode cX8_forms 28 = .ok (.istore_n 1, 1) := by decide +kernel
theorem dX8_forms_29 : decode cX8_forms 29 = .ok (.iload_n 1, 1) := by decide +kernel
theorem dX8_forms_30 : decode cX8_forms 30 = .ok (.bipush 8, 2) := by decide +kernel
theorem dX8_forms_32 : decode cX8_forms 32 = .ok (.if_icmp .ge 25, 3) := by decide +kernel
theorem dX8_forms_35 : decode cX8_forms 35 = .ok (.aload_n 0, 1) := by decide +kernel
theorem dX8_forms_36 : decode cX8_forms 36 = .ok (.getfield 30, 3) := by decide +kernel
theorem dX8_forms_39 : decode cX8_forms 39 = .ok (.iload_n 1, 1) := by decide +kernel
theorem dX8_forms_40 : decode cX8_forms 40 = .ok (.aload_n 0, 1) := by decide +kernel
theorem dX8_forms_41 : decode cX8_forms 41 = .ok (.getfield 44, 3) := by decide +kernel
theorem dX8_forms_44 : decode cX8_forms 44 = .ok (.iload_n 1, 1) := by decide +kernel
theorem dX8_forms_45 : decode cX8_forms 45 = .ok (.invokevirtual 167, 3) := by decide +kernel
theorem dX8_forms_48 : decode cX8_forms 48 = .ok (.invokevirtual 108, 3) := by decide +kernel
theorem dX8_forms_51 : decode cX8_forms 51 = .ok (.iinc 1 1, 3) := by decide +kernel
theorem dX8_forms_54 : decode cX8_forms 54 = .ok (.goto (-25), 3) := by decide +kernel
theorem dX8_forms_57 : decode cX8_forms 57 = .ok (.aload_n 0, 1) := by decide +kernel
theorem dX8_forms_58 : decode cX8_forms 58 = .ok (.getfield 44, 3) := by decide +kernel
theorem dX8_forms_61 : decode cX8_forms 61 = .ok (.aload_n 0, 1) := by decide +kernel
theorem dX8_forms_62 : decode cX8_forms 62 = .ok (.getfield 30, 3) := by decide +kernel
theorem dX8_forms_65 : decode cX8_forms 65 = .ok (.aload_n 0, 1) := by decide +kernel
theorem dX8_forms_66 : decode cX8_forms 66 = .ok (.getfield 37, 3) := by decide +kernel
theorem dX8_forms_69 : decode cX8_forms 69 = .ok (.invokevirtual 137, 3) := by decide +kernel
theorem dX8_forms_72 : decode cX8_forms 72 = .ok (.ireturn, 1) := by decide +kernel
theorem dX8_best_0 : decode cX8_best 0 = .ok (.aload_n 0, 1) := by decide +kernel
theorem dX8_best_1 : decode cX8_best 1 = .ok (.getfield 51, 3) := by decide +kernel
theorem dX8_best_4 : decode cX8_best 4 = .ok (.aload_n 0, 1) := by decide +kernel
theorem dX8_best_5 : decode cX8_best 5 = .ok (.getfield 23, 3) := by decide +kernel
theorem dX8_best_8 : decode cX8_best 8 = .ok (.aload_n 0, 1) := by decide +kernel
theorem dX8_best_9 : decode cX8_best 9 = .ok (.getfield 30, 3) := by decide +kernel
theorem dX8_best_12 : decode cX8_best 12 = .ok (.aload_n 0, 1) := by decide +kernel
theorem dX8_best_13 : decode cX8_best 13 = .ok (.getfield 37, 3) := by decide +kernel
theorem dX8_best_16 : decode cX8_best 16 = .ok (.invokevirtual 170, 3) := by decide +kernel
theorem dX8_best_19 : decode cX8_best 19 = .ok (.ireturn, 1) := by decide +kernel
theorem dX8_bit_0 : decode cX8_bit 0 = .ok (.aload_n 0, 1) := by decide +kernel
theorem dX8_bit_1 : decode cX8_bit 1 = .ok (.getfield 44, 3) := by decide +kernel
theorem dX8_bit_4 : decode cX8_bit 4 = .ok (.invokevirtual 141, 3) := by decide +kernel
theorem dX8_bit_7 : decode cX8_bit 7 = .ok (.ifCond .eq 17, 3) := by decide +kernel
theorem dX8_bit_10 : decode cX8_bit 10 = .ok (.aload_n 0, 1) := by decide +kernel
theorem dX8_bit_11 : decode cX8_bit 11 = .ok (.getfield 44, 3) := by decide +kernel
theorem dX8_bit_14 : decode cX8_bit 14 = .ok (.invokevirtual 174, 3) := by decide +kernel
theorem dX8_bit_17 : decode cX8_bit 17 = .ok (.iload_n 1, 1) := by decide +kernel
theorem dX8_bit_18 : decode cX8_bit 18 = .ok (.invokevirtual 178, 3) := by decide +kernel
theorem dX8_bit_21 : decode cX8_bit 21 = .ok (.goto 4, 3) := by decide +kernel
theorem dX8_bit_24 : decode cX8_bit 24 = .ok (.iconst (-1), 1) := by decide +kernel
theorem dX8_bit_25 : decode cX8_bit 25 = .ok (.ireturn, 1) := by decide +kernel
theorem dX8_place_0 : decode cX8_place 0 = .ok (.iload_n 1, 1) := by decide +kernel
theorem dX8_place_1 : decode cX8_place 1 = .ok (.aload_n 0, 1) := by decide +kernel
theorem dX8_place_2 : decode cX8_place 2 = .ok (.getfield 44, 3) := by decide +kernel
theorem dX8_place_5 : decode cX8_place 5 = .ok (.invokevirtual 183, 3) := by decide +kernel
theorem dX8_place_8 : decode cX8_place 8 = .ok (.invokestatic 89, 3) := by decide +kernel
theorem dX8_place_11 : decode cX8_place 11 = .ok (.ifCond .ne 5, 3) := by decide +kernel
theorem dX8_place_14 : decode cX8_place 14 = .ok (.iconst (-1), 1) := by decide +kernel
theorem dX8_place_15 : decode cX8_place 15 = .ok (.ireturn, 1) := by decide +kernel
theorem dX8_place_16 : decode cX8_place 16 = .ok (.aload_n 0, 1) := by decide +kernel
theorem dX8_place_17 : decode cX8_place 17 = .ok (.getfield 44, 3) := by decide +kernel
theorem dX8_place_20 : decode cX8_place 20 = .ok (.iload_n 1, 1) := by decide +kernel
theorem dX8_place_21 : decode cX8_place 21 = .ok (.invokevirtual 187, 3) := by decide +kernel
theorem dX8_place_24 : decode cX8_place 24 = .ok (.ireturn, 1) := by decide +kernel
theorem dX8_sum_0 : decode cX8_sum 0 = .ok (.aload_n 0, 1) := by decide +kernel
theorem dX8_sum_1 : decode cX8_sum 1 = .ok (.getfield 44, 3) := by decide +kernel
theorem dX8_sum_4 : decode cX8_sum 4 = .ok (.invokevirtual 141, 3) := by decide +kernel
theorem dX8_sum_7 : decode cX8_sum 7 = .ok (.ifCond .eq 16, 3) := by decide +kernel
theorem dX8_sum_10 : decode cX8_sum 10 = .ok (.aload_n 0, 1) := by decide +kernel
theorem dX8_sum_11 : decode cX8_sum 11 = .ok (.getfield 44, 3) := by decide +kernel
theorem dX8_sum_14 : decode cX8_sum 14 = .ok (.invokevirtual 174, 3) := by decide +kernel
theorem dX8_sum_17 : decode cX8_sum 17 = .ok (.invokevirtual 190, 3) := by decide +kernel
theorem dX8_sum_20 : decode cX8_sum 20 = .ok (.goto 6, 3) := by decide +kernel
theorem dX8_sum_23 : decode cX8_sum 23 = .ok (.ldc2_w 194, 3) := by decide +kernel
theorem dX8_sum_26 : decode cX8_sum 26 = .ok (.lreturn, 1) := by decide +kernel
theorem dX8_alter_0 : decode cX8_alter 0 = .ok (.aload_n 0, 1) := by decide +kernel
theorem dX8_alter_1 : decode cX8_alter 1 = .ok (.getfield 44, 3) := by decide +kernel
theorem dX8_alter_4 : decode cX8_alter 4 = .ok (.invokevirtual 141, 3) := by decide +kernel
theorem dX8_alter_7 : decode cX8_alter 7 = .ok (.ifCond .ne 6, 3) := by decide +kernel
theorem dX8_alter_10 : decode cX8_alter 10 = .ok (.bipush (-3), 2) := by decide +kernel
theorem dX8_alter_12 : decode cX8_alter 12 = .ok (.ireturn, 1) := by decide +kernel
theorem dX8_alter_13 : decode cX8_alter 13 = .ok (.iload_n 1, 1) := by decide +kernel
theorem dX8_alter_14 : decode cX8_alter 14 = .ok (.aload_n 0, 1) := by decide +kernel
theorem dX8_alter_15 : decode cX8_alter 15 = .ok (.getfield 44, 3) := by decide +kernel
theorem dX8_alter_18 : decode cX8_alter 18 = .ok (.invokevirtual 174, 3) := by decide +kernel
theorem dX8_alter_21 : decode cX8_alter 21 = .ok (.invokevirtual 196, 3) := by decide +kernel
theorem dX8_alter_24 : decode cX8_alter 24 = .ok (.invokestatic 89, 3) := by decide +kernel
theorem dX8_alter_27 : decode cX8_alter 27 = .ok (.ifCond .eq 15, 3) := by decide +kernel
theorem dX8_alter_30 : decode cX8_alter 30 = .ok (.iload_n 2, 1) := by decide +kernel
theorem dX8_alter_31 : decode cX8_alter 31 = .ok (.iconst 1, 1) := by decide +kernel
theorem dX8_alter_32 : decode cX8_alter 32 = .ok (.if_icmp .lt 10, 3) := by decide +kernel
theorem dX8_alter_35 : decode cX8_alter 35 = .ok (.iload_n 2, 1) := by decide +kernel
theorem dX8_alter_36 : decode cX8_alter 36 = .ok (.sipush 255, 3) := by decide +kernel
theorem dX8_alter_39 : decode cX8_alter 39 = .ok (.if_icmp .le 6, 3) := by decide +kernel
theorem dX8_alter_42 : decode cX8_alter 42 = .ok (.bipush (-2), 2) := by decide +kernel
theorem dX8_alter_44 : decode cX8_alter 44 = .ok (.ireturn, 1) := by decide +kernel
theorem dX8_alter_45 : decode cX8_alter 45 = .ok (.aload_n 0, 1) := by decide +kernel
theorem dX8_alter_46 : decode cX8_alter 46 = .ok (.getfield 44, 3) := by decide +kernel
theorem dX8_alter_49 : decode cX8_alter 49 = .ok (.invokevirtual 174, 3) := by decide +kernel
theorem dX8_alter_52 : decode cX8_alter 52 = .ok (.iload_n 1, 1) := by decide +kernel
theorem dX8_alter_53 : decode cX8_alter 53 = .ok (.iload_n 2, 1) := by decide +kernel
theorem dX8_alter_54 : decode cX8_alter 54 = .ok (.invokevirtual 199, 3) := by decide +kernel
theorem dX8_alter_57 : decode cX8_alter 57 = .ok (.ireturn, 1) := by decide +kernel
theorem dX8_judge_0 : decode cX8_judge 0 = .ok (.aload_n 0, 1) := by decide +kernel
theorem dX8_judge_1 : decode cX8_judge 1 = .ok (.getfield 44, 3) := by decide +kernel
theorem dX8_judge_4 : decode cX8_judge 4 = .ok (.invokevirtual 141, 3) := by decide +kernel
theorem dX8_judge_7 : decode cX8_judge 7 = .ok (.ifCond .eq 13, 3) := by decide +kernel
theorem dX8_judge_10 : decode cX8_judge 10 = .ok (.aload_n 0, 1) := by decide +kernel
theorem dX8_judge_11 : decode cX8_judge 11 = .ok (.getfield 44, 3) := by decide +kernel
theorem dX8_judge_14 : decode cX8_judge 14 = .ok (.invokevirtual 202, 3) := by decide +kernel
theorem dX8_judge_17 : decode cX8_judge 17 = .ok (.goto 5, 3) := by decide +kernel
theorem dX8_judge_20 : decode cX8_judge 20 = .ok (.bipush (-3), 2) := by decide +kernel
theorem dX8_judge_22 : decode cX8_judge 22 = .ok (.ireturn, 1) := by decide +kernel
theorem dX8_order_0 : decode cX8_order 0 = .ok (.iload_n 1, 1) := by decide +kernel
theorem dX8_order_1 : decode cX8_order 1 = .ok (.iconst 3, 1) := by decide +kernel
theorem dX8_order_2 : decode cX8_order 2 = .ok (.invokestatic 89, 3) := by decide +kernel
theorem dX8_order_5 : decode cX8_order 5 = .ok (.ifCond .ne 6, 3) := by decide +kernel
theorem dX8_order_8 : decode cX8_order 8 = .ok (.bipush (-2), 2) := by decide +kernel
theorem dX8_order_10 : decode cX8_order 10 = .ok (.ireturn, 1) := by decide +kernel
theorem dX8_order_11 : decode cX8_order 11 = .ok (.aload_n 0, 1) := by decide +kernel
theorem dX8_order_12 : decode cX8_order 12 = .ok (.getfield 23, 3) := by decide +kernel
theorem dX8_order_15 : decode cX8_order 15 = .ok (.iload_n 2, 1) := by decide +kernel
theorem dX8_order_16 : decode cX8_order 16 = .ok (.invokevirtual 73, 3) := by decide +kernel
theorem dX8_order_19 : decode cX8_order 19 = .ok (.ifCond .ne 5, 3) := by decide +kernel
theorem dX8_order_22 : decode cX8_order 22 = .ok (.iconst (-1), 1) := by decide +kernel
theorem dX8_order_23 : decode cX8_order 23 = .ok (.ireturn, 1) := by decide +kernel
theorem dX8_order_24 : decode cX8_order 24 = .ok (.aload_n 0, 1) := by decide +kernel
theorem dX8_order_25 : decode cX8_order 25 = .ok (.getfield 58, 3) := by decide +kernel
theorem dX8_order_28 : decode cX8_order 28 = .ok (.iload_n 1, 1) := by decide +kernel
theorem dX8_order_29 : decode cX8_order 29 = .ok (.aload_n 0, 1) := by decide +kernel
theorem dX8_order_30 : decode cX8_order 30 = .ok (.getfield 23, 3) := by decide +kernel
theorem dX8_order_33 : decode cX8_order 33 = .ok (.invokevirtual 205, 3) := by decide +kernel
theorem dX8_order_36 : decode cX8_order 36 = .ok (.aload_n 0, 1) := by decide +kernel
theorem dX8_order_37 : decode cX8_order 37 = .ok (.getfield 58, 3) := by decide +kernel
theorem dX8_order_40 : decode cX8_order 40 = .ok (.iload_n 2, 1) := by decide +kernel
theorem dX8_order_41 : decode cX8_order 41 = .ok (.invokevirtual 209, 3) := by decide +kernel
theorem dX8_order_44 : decode cX8_order 44 = .ok (.ireturn, 1) := by decide +kernel
theorem dX8_renumber_0 : decode cX8_renumber 0 = .ok (.iload_n 1, 1) := by decide +kernel
theorem dX8_renumber_1 : decode cX8_renumber 1 = .ok (.iconst 3, 1) := by decide +kernel
theorem dX8_renumber_2 : decode cX8_renumber 2 = .ok (.invokestatic 89, 3) := by decide +kernel
theorem dX8_renumber_5 : decode cX8_renumber 5 = .ok (.ifCond .ne 6, 3) := by decide +kernel
theorem dX8_renumber_8 : decode cX8_renumber 8 = .ok (.bipush (-2), 2) := by decide +kernel
theorem dX8_renumber_10 : decode cX8_renumber 10 = .ok (.ireturn, 1) := by decide +kernel
theorem dX8_renumber_11 : decode cX8_renumber 11 = .ok (.aload_n 0, 1) := by decide +kernel
theorem dX8_renumber_12 : decode cX8_renumber 12 = .ok (.getfield 58, 3) := by decide +kernel
theorem dX8_renumber_15 : decode cX8_renumber 15 = .ok (.iload_n 1, 1) := by decide +kernel
theorem dX8_renumber_16 : decode cX8_renumber 16 = .ok (.aload_n 0, 1) := by decide +kernel
theorem dX8_renumber_17 : decode cX8_renumber 17 = .ok (.getfield 23, 3) := by decide +kernel
theorem dX8_renumber_20 : decode cX8_renumber 20 = .ok (.invokevirtual 205, 3) := by decide +kernel
theorem dX8_renumber_23 : decode cX8_renumber 23 = .ok (.aload_n 0, 1) := by decide +kernel
theorem dX8_renumber_24 : decode cX8_renumber 24 = .ok (.getfield 23, 3) := by decide +kernel
theorem dX8_renumber_27 : decode cX8_renumber 27 = .ok (.aload_n 0, 1) := by decide +kernel
theorem dX8_renumber_28 : decode cX8_renumber 28 = .ok (.getfield 58, 3) := by decide +kernel
theorem dX8_renumber_31 : decode cX8_renumber 31 = .ok (.invokevirtual 212, 3) := by decide +kernel
theorem dX8_renumber_34 : decode cX8_renumber 34 = .ok (.aload_n 0, 1) := by decide +kernel
theorem dX8_renumber_35 : decode cX8_renumber 35 = .ok (.getfield 44, 3) := by decide +kernel
theorem dX8_renumber_38 : decode cX8_renumber 38 = .ok (.invokevirtual 216, 3) := by decide +kernel
theorem dX8_renumber_41 : decode cX8_renumber 41 = .ok (.aload_n 0, 1) := by decide +kernel
theorem dX8_renumber_42 : decode cX8_renumber 42 = .ok (.getfield 23, 3) := by decide +kernel
theorem dX8_renumber_45 : decode cX8_renumber 45 = .ok (.invokevirtual 219, 3) := by decide +kernel
theorem dX8_renumber_48 : decode cX8_renumber 48 = .ok (.ireturn, 1) := by decide +kernel
theorem dX8_threes_0 : decode cX8_threes 0 = .ok (.aload_n 0, 1) := by decide +kernel
theorem dX8_threes_1 : decode cX8_threes 1 = .ok (.getfield 65, 3) := by decide +kernel
theorem dX8_threes_4 : decode cX8_threes 4 = .ok (.aload_n 0, 1) := by decide +kernel
theorem dX8_threes_5 : decode cX8_threes 5 = .ok (.getfield 23, 3) := by decide +kernel
theorem dX8_threes_8 : decode cX8_threes 8 = .ok (.invokevirtual 222, 3) := by decide +kernel
theorem dX8_threes_11 : decode cX8_threes 11 = .ok (.ireturn, 1) := by decide +kernel
theorem dX8_parts_0 : decode cX8_parts 0 = .ok (.iload_n 1, 1) := by decide +kernel
theorem dX8_parts_1 : decode cX8_parts 1 = .ok (.iconst (-1), 1) := by decide +kernel
theorem dX8_parts_2 : decode cX8_parts 2 = .ok (.if_icmp .eq 17, 3) := by decide +kernel
theorem dX8_parts_5 : decode cX8_parts 5 = .ok (.aload_n 0, 1) := by decide +kernel
theorem dX8_parts_6 : decode cX8_parts 6 = .ok (.getfield 23, 3) := by decide +kernel
theorem dX8_parts_9 : decode cX8_parts 9 = .ok (.iload_n 1, 1) := by decide +kernel
theorem dX8_parts_10 : decode cX8_parts 10 = .ok (.invokevirtual 73, 3) := by decide +kernel
theorem dX8_parts_13 : decode cX8_parts 13 = .ok (.ifCond .ne 6, 3) := by decide +kernel
theorem dX8_parts_16 : decode cX8_parts 16 = .ok (.bipush (-2), 2) := by decide +kernel
theorem dX8_parts_18 : decode cX8_parts 18 = .ok (.ireturn, 1) := by decide +kernel
theorem dX8_parts_19 : decode cX8_parts 19 = .ok (.iload_n 1, 1) := by decide +kernel
theorem dX8_parts_20 : decode cX8_parts 20 = .ok (.iconst (-1), 1) := by decide +kernel
theorem dX8_parts_21 : decode cX8_parts 21 = .ok (.if_icmp .ne 17, 3) := by decide +kernel
theorem dX8_parts_24 : decode cX8_parts 24 = .ok (.aload_n 0, 1) := by decide +kernel
theorem dX8_parts_25 : decode cX8_parts 25 = .ok (.getfield 65, 3) := by decide +kernel
theorem dX8_parts_28 : decode cX8_parts 28 = .ok (.aload_n 0, 1) := by decide +kernel
theorem dX8_parts_29 : decode cX8_parts 29 = .ok (.getfield 23, 3) := by decide +kernel
theorem dX8_parts_32 : decode cX8_parts 32 = .ok (.invokevirtual 225, 3) := by decide +kernel
theorem dX8_parts_35 : decode cX8_parts 35 = .ok (.goto 15, 3) := by decide +kernel
theorem dX8_parts_38 : decode cX8_parts 38 = .ok (.aload_n 0, 1) := by decide +kernel
theorem dX8_parts_39 : decode cX8_parts 39 = .ok (.getfield 65, 3) := by decide +kernel
theorem dX8_parts_42 : decode cX8_parts 42 = .ok (.aload_n 0, 1) := by decide +kernel
theorem dX8_parts_43 : decode cX8_parts 43 = .ok (.getfield 23, 3) := by decide +kernel
theorem dX8_parts_46 : decode cX8_parts 46 = .ok (.iload_n 1, 1) := by decide +kernel
theorem dX8_parts_47 : decode cX8_parts 47 = .ok (.invokevirtual 228, 3) := by decide +kernel
theorem dX8_parts_50 : decode cX8_parts 50 = .ok (.ireturn, 1) := by decide +kernel
theorem dX8_far_0 : decode cX8_far 0 = .ok (.aload_n 0, 1) := by decide +kernel
theorem dX8_far_1 : decode cX8_far 1 = .ok (.getfield 23, 3) := by decide +kernel
theorem dX8_far_4 : decode cX8_far 4 = .ok (.iload_n 1, 1) := by decide +kernel
theorem dX8_far_5 : decode cX8_far 5 = .ok (.invokevirtual 73, 3) := by decide +kernel
theorem dX8_far_8 : decode cX8_far 8 = .ok (.ifCond .eq 14, 3) := by decide +kernel
theorem dX8_far_11 : decode cX8_far 11 = .ok (.aload_n 0, 1) := by decide +kernel
theorem dX8_far_12 : decode cX8_far 12 = .ok (.getfield 23, 3) := by decide +kernel
theorem dX8_far_15 : decode cX8_far 15 = .ok (.iload_n 2, 1) := by decide +kernel
theorem dX8_far_16 : decode cX8_far 16 = .ok (.invokevirtual 73, 3) := by decide +kernel
theorem dX8_far_19 : decode cX8_far 19 = .ok (.ifCond .ne 6, 3) := by decide +kernel
theorem dX8_far_22 : decode cX8_far 22 = .ok (.bipush (-2), 2) := by decide +kernel
theorem dX8_far_24 : decode cX8_far 24 = .ok (.ireturn, 1) := by decide +kernel
theorem dX8_far_25 : decode cX8_far 25 = .ok (.aload_n 0, 1) := by decide +kernel
theorem dX8_far_26 : decode cX8_far 26 = .ok (.getfield 65, 3) := by decide +kernel
theorem dX8_far_29 : decode cX8_far 29 = .ok (.aload_n 0, 1) := by decide +kernel
theorem dX8_far_30 : decode cX8_far 30 = .ok (.getfield 23, 3) := by decide +kernel
theorem dX8_far_33 : decode cX8_far 33 = .ok (.iload_n 1, 1) := by decide +kernel
theorem dX8_far_34 : decode cX8_far 34 = .ok (.iload_n 2, 1) := by decide +kernel
theorem dX8_far_35 : decode cX8_far 35 = .ok (.invokevirtual 232, 3) := by decide +kernel
theorem dX8_far_38 : decode cX8_far 38 = .ok (.ireturn, 1) := by decide +kernel
theorem dX8_count_0 : decode cX8_count 0 = .ok (.iload_n 1, 1) := by decide +kernel
theorem dX8_count_1 : decode cX8_count 1 = .ok (.tableswitch 120 0 6 #[43, 51, 59, 71, 96, 104, 112], 43) := by decide +kernel
theorem dX8_count_44 : decode cX8_count 44 = .ok (.aload_n 0, 1) := by decide +kernel
theorem dX8_count_45 : decode cX8_count 45 = .ok (.getfield 23, 3) := by decide +kernel
theorem dX8_count_48 : decode cX8_count 48 = .ok (.invokevirtual 236, 3) := by decide +kernel
theorem dX8_count_51 : decode cX8_count 51 = .ok (.ireturn, 1) := by decide +kernel
theorem dX8_count_52 : decode cX8_count 52 = .ok (.aload_n 0, 1) := by decide +kernel
theorem dX8_count_53 : decode cX8_count 53 = .ok (.getfield 23, 3) := by decide +kernel
theorem dX8_count_56 : decode cX8_count 56 = .ok (.invokevirtual 239, 3) := by decide +kernel
theorem dX8_count_59 : decode cX8_count 59 = .ok (.ireturn, 1) := by decide +kernel
theorem dX8_count_60 : decode cX8_count 60 = .ok (.aload_n 0, 1) := by decide +kernel
theorem dX8_count_61 : decode cX8_count 61 = .ok (.getfield 44, 3) := by decide +kernel
theorem dX8_count_64 : decode cX8_count 64 = .ok (.aload_n 0, 1) := by decide +kernel
theorem dX8_count_65 : decode cX8_count 65 = .ok (.getfield 23, 3) := by decide +kernel
theorem dX8_count_68 : decode cX8_count 68 = .ok (.invokevirtual 163, 3) := by decide +kernel
theorem dX8_count_71 : decode cX8_count 71 = .ok (.ireturn, 1) := by decide +kernel
theorem dX8_count_72 : decode cX8_count 72 = .ok (.aload_n 0, 1) := by decide +kernel
theorem dX8_count_73 : decode cX8_count 73 = .ok (.getfield 44, 3) := by decide +kernel
theorem dX8_count_76 : decode cX8_count 76 = .ok (.invokevirtual 141, 3) := by decide +kernel
theorem dX8_count_79 : decode cX8_count 79 = .ok (.ifCond .eq 16, 3) := by decide +kernel
theorem dX8_count_82 : decode cX8_count 82 = .ok (.aload_n 0, 1) := by decide +kernel
theorem dX8_count_83 : decode cX8_count 83 = .ok (.getfield 44, 3) := by decide +kernel
theorem dX8_count_86 : decode cX8_count 86 = .ok (.invokevirtual 174, 3) := by decide +kernel
theorem dX8_count_89 : decode cX8_count 89 = .ok (.invokevirtual 242, 3) := by decide +kernel
theorem dX8_count_92 : decode cX8_count 92 = .ok (.goto 4, 3) := by decide +kernel
theorem dX8_count_95 : decode cX8_count 95 = .ok (.iconst 0, 1) := by decide +kernel
theorem dX8_count_96 : decode cX8_count 96 = .ok (.ireturn, 1) := by decide +kernel
theorem dX8_count_97 : decode cX8_count 97 = .ok (.aload_n 0, 1) := by decide +kernel
theorem dX8_count_98 : decode cX8_count 98 = .ok (.getfield 44, 3) := by decide +kernel
theorem dX8_count_101 : decode cX8_count 101 = .ok (.invokevirtual 183, 3) := by decide +kernel
theorem dX8_count_104 : decode cX8_count 104 = .ok (.ireturn, 1) := by decide +kernel
theorem dX8_count_105 : decode cX8_count 105 = .ok (.aload_n 0, 1) := by decide +kernel
theorem dX8_count_106 : decode cX8_count 106 = .ok (.getfield 44, 3) := by decide +kernel
theorem dX8_count_109 : decode cX8_count 109 = .ok (.invokevirtual 245, 3) := by decide +kernel
theorem dX8_count_112 : decode cX8_count 112 = .ok (.ireturn, 1) := by decide +kernel
theorem dX8_count_113 : decode cX8_count 113 = .ok (.aload_n 0, 1) := by decide +kernel
theorem dX8_count_114 : decode cX8_count 114 = .ok (.getfield 44, 3) := by decide +kernel
theorem dX8_count_117 : decode cX8_count 117 = .ok (.invokevirtual 248, 3) := by decide +kernel
theorem dX8_count_120 : decode cX8_count 120 = .ok (.ireturn, 1) := by decide +kernel
theorem dX8_count_121 : decode cX8_count 121 = .ok (.bipush (-2), 2) := by decide +kernel
theorem dX8_count_123 : decode cX8_count 123 = .ok (.ireturn, 1) := by decide +kernel
theorem dX8_change_0 : decode cX8_change 0 = .ok (.aload_n 0, 1) := by decide +kernel
theorem dX8_change_1 : decode cX8_change 1 = .ok (.getfield 23, 3) := by decide +kernel
theorem dX8_change_4 : decode cX8_change 4 = .ok (.iload_n 1, 1) := by decide +kernel
theorem dX8_change_5 : decode cX8_change 5 = .ok (.invokevirtual 73, 3) := by decide +kernel
theorem dX8_change_8 : decode cX8_change 8 = .ok (.ifCond .eq 14, 3) := by decide +kernel
theorem dX8_change_11 : decode cX8_change 11 = .ok (.aload_n 0, 1) := by decide +kernel
theorem dX8_change_12 : decode cX8_change 12 = .ok (.getfield 23, 3) := by decide +kernel
theorem dX8_change_15 : decode cX8_change 15 = .ok (.iload_n 2, 1) := by decide +kernel
theorem dX8_change_16 : decode cX8_change 16 = .ok (.invokevirtual 73, 3) := by decide +kernel
theorem dX8_change_19 : decode cX8_change 19 = .ok (.ifCond .ne 6, 3) := by decide +kernel
theorem dX8_change_22 : decode cX8_change 22 = .ok (.bipush (-2), 2) := by decide +kernel
theorem dX8_change_24 : decode cX8_change 24 = .ok (.ireturn, 1) := by decide +kernel
theorem dX8_change_25 : decode cX8_change 25 = .ok (.aload_n 0, 1) := by decide +kernel
theorem dX8_change_26 : decode cX8_change 26 = .ok (.getfield 23, 3) := by decide +kernel
theorem dX8_change_29 : decode cX8_change 29 = .ok (.iload_n 1, 1) := by decide +kernel
theorem dX8_change_30 : decode cX8_change 30 = .ok (.iload_n 2, 1) := by decide +kernel
theorem dX8_change_31 : decode cX8_change 31 = .ok (.invokevirtual 77, 3) := by decide +kernel
theorem dX8_change_34 : decode cX8_change 34 = .ok (.iload_n 3, 1) := by decide +kernel
theorem dX8_change_35 : decode cX8_change 35 = .ok (.if_icmp .ne 5, 3) := by decide +kernel
theorem dX8_change_38 : decode cX8_change 38 = .ok (.iconst 0, 1) := by decide +kernel
theorem dX8_change_39 : decode cX8_change 39 = .ok (.ireturn, 1) := by decide +kernel
theorem dX8_change_40 : decode cX8_change 40 = .ok (.aload_n 0, 1) := by decide +kernel
theorem dX8_change_41 : decode cX8_change 41 = .ok (.getfield 44, 3) := by decide +kernel
theorem dX8_change_44 : decode cX8_change 44 = .ok (.invokevirtual 141, 3) := by decide +kernel
theorem dX8_change_47 : decode cX8_change 47 = .ok (.ifCond .eq 23, 3) := by decide +kernel
theorem dX8_change_50 : decode cX8_change 50 = .ok (.aload_n 0, 1) := by decide +kernel
theorem dX8_change_51 : decode cX8_change 51 = .ok (.getfield 44, 3) := by decide +kernel
theorem dX8_change_54 : decode cX8_change 54 = .ok (.aload_n 0, 1) := by decide +kernel
theorem dX8_change_55 : decode cX8_change 55 = .ok (.getfield 23, 3) := by decide +kernel
theorem dX8_change_58 : decode cX8_change 58 = .ok (.iload_n 1, 1) := by decide +kernel
theorem dX8_change_59 : decode cX8_change 59 = .ok (.iload_n 2, 1) := by decide +kernel
theorem dX8_change_60 : decode cX8_change 60 = .ok (.invokevirtual 251, 3) := by decide +kernel
theorem dX8_change_63 : decode cX8_change 63 = .ok (.ifCond .ne 7, 3) := by decide +kernel
theorem dX8_change_66 : decode cX8_change 66 = .ok (.iconst 1, 1) := by decide +kernel
theorem dX8_change_67 : decode cX8_change 67 = .ok (.goto 4, 3) := by decide +kernel
theorem dX8_change_70 : decode cX8_change 70 = .ok (.iconst 0, 1) := by decide +kernel
theorem dX8_change_71 : decode cX8_change 71 = .ok (.istore 4, 2) := by decide +kernel
theorem dX8_change_73 : decode cX8_change 73 = .ok (.iload 4, 2) := by decide +kernel
theorem dX8_change_75 : decode cX8_change 75 = .ok (.ifCond .eq 22, 3) := by decide +kernel
theorem dX8_change_78 : decode cX8_change 78 = .ok (.aload_n 0, 1) := by decide +kernel
theorem dX8_change_79 : decode cX8_change 79 = .ok (.getfield 44, 3) := by decide +kernel
theorem dX8_change_82 : decode cX8_change 82 = .ok (.aload_n 0, 1) := by decide +kernel
theorem dX8_change_83 : decode cX8_change 83 = .ok (.getfield 23, 3) := by decide +kernel
theorem dX8_change_86 : decode cX8_change 86 = .ok (.invokevirtual 163, 3) := by decide +kernel
theorem dX8_change_89 : decode cX8_change 89 = .ok (.bipush 40, 2) := by decide +kernel
theorem dX8_change_91 : decode cX8_change 91 = .ok (.if_icmp .lt 6, 3) := by decide +kernel
theorem dX8_change_94 : decode cX8_change 94 = .ok (.bipush (-4), 2) := by decide +kernel
theorem dX8_change_96 : decode cX8_change 96 = .ok (.ireturn, 1) := by decide +kernel
theorem dX8_change_97 : decode cX8_change 97 = .ok (.aload_n 0, 1) := by decide +kernel
theorem dX8_change_98 : decode cX8_change 98 = .ok (.getfield 23, 3) := by decide +kernel
theorem dX8_change_101 : decode cX8_change 101 = .ok (.iload_n 1, 1) := by decide +kernel
theorem dX8_change_102 : decode cX8_change 102 = .ok (.iload_n 2, 1) := by decide +kernel
theorem dX8_change_103 : decode cX8_change 103 = .ok (.invokevirtual 255, 3) := by decide +kernel
theorem dX8_change_106 : decode cX8_change 106 = .ok (.iconst 1, 1) := by decide +kernel
theorem dX8_change_107 : decode cX8_change 107 = .ok (.ireturn, 1) := by decide +kernel
theorem dX8_isBelow_0 : decode cX8_isBelow 0 = .ok (.iload_n 0, 1) := by decide +kernel
theorem dX8_isBelow_1 : decode cX8_isBelow 1 = .ok (.ifCond .lt 12, 3) := by decide +kernel
theorem dX8_isBelow_4 : decode cX8_isBelow 4 = .ok (.iload_n 0, 1) := by decide +kernel
theorem dX8_isBelow_5 : decode cX8_isBelow 5 = .ok (.iload_n 1, 1) := by decide +kernel
theorem dX8_isBelow_6 : decode cX8_isBelow 6 = .ok (.if_icmp .ge 7, 3) := by decide +kernel
theorem dX8_isBelow_9 : decode cX8_isBelow 9 = .ok (.iconst 1, 1) := by decide +kernel
theorem dX8_isBelow_10 : decode cX8_isBelow 10 = .ok (.goto 4, 3) := by decide +kernel
theorem dX8_isBelow_13 : decode cX8_isBelow 13 = .ok (.iconst 0, 1) := by decide +kernel
theorem dX8_isBelow_14 : decode cX8_isBelow 14 = .ok (.ireturn, 1) := by decide +kernel
theorem dX8_isCopy_0 : decode cX8_isCopy 0 = .ok (.iload_n 0, 1) := by decide +kernel
theorem dX8_isCopy_1 : decode cX8_isCopy 1 = .ok (.iconst 2, 1) := by decide +kernel
theorem dX8_isCopy_2 : decode cX8_isCopy 2 = .ok (.if_icmp .eq 8, 3) := by decide +kernel
theorem dX8_isCopy_5 : decode cX8_isCopy 5 = .ok (.iload_n 0, 1) := by decide +kernel
theorem dX8_isCopy_6 : decode cX8_isCopy 6 = .ok (.iconst 3, 1) := by decide +kernel
theorem dX8_isCopy_7 : decode cX8_isCopy 7 = .ok (.if_icmp .ne 7, 3) := by decide +kernel
theorem dX8_isCopy_10 : decode cX8_isCopy 10 = .ok (.iconst 1, 1) := by decide +kernel
theorem dX8_isCopy_11 : decode cX8_isCopy 11 = .ok (.goto 4, 3) := by decide +kernel
theorem dX8_isCopy_14 : decode cX8_isCopy 14 = .ok (.iconst 0, 1) := by decide +kernel
theorem dX8_isCopy_15 : decode cX8_isCopy 15 = .ok (.ireturn, 1) := by decide +kernel
theorem dX8_element_0 : decode cX8_element 0 = .ok (.iload_n 1, 1) := by decide +kernel
theorem dX8_element_1 : decode cX8_element 1 = .ok (.ifCond .lt 15, 3) := by decide +kernel
theorem dX8_element_4 : decode cX8_element 4 = .ok (.iload_n 1, 1) := by decide +kernel
theorem dX8_element_5 : decode cX8_element 5 = .ok (.aload_n 0, 1) := by decide +kernel
theorem dX8_element_6 : decode cX8_element 6 = .ok (.arraylength, 1) := by decide +kernel
theorem dX8_element_7 : decode cX8_element 7 = .ok (.if_icmp .ge 9, 3) := by decide +kernel
theorem dX8_element_10 : decode cX8_element 10 = .ok (.aload_n 0, 1) := by decide +kernel
theorem dX8_element_11 : decode cX8_element 11 = .ok (.iload_n 1, 1) := by decide +kernel
theorem dX8_element_12 : decode cX8_element 12 = .ok (.iaload, 1) := by decide +kernel
theorem dX8_element_13 : decode cX8_element 13 = .ok (.goto 4, 3) := by decide +kernel
theorem dX8_element_16 : decode cX8_element 16 = .ok (.iconst 0, 1) := by decide +kernel
theorem dX8_element_17 : decode cX8_element 17 = .ok (.ireturn, 1) := by decide +kernel
theorem dX8_isIn_0 : decode cX8_isIn 0 = .ok (.iload_n 2, 1) := by decide +kernel
theorem dX8_isIn_1 : decode cX8_isIn 1 = .ok (.ifCond .lt 23, 3) := by decide +kernel
theorem dX8_isIn_4 : decode cX8_isIn 4 = .ok (.iload_n 2, 1) := by decide +kernel
theorem dX8_isIn_5 : decode cX8_isIn 5 = .ok (.bipush 48, 2) := by decide +kernel
theorem dX8_isIn_7 : decode cX8_isIn 7 = .ok (.if_icmp .ge 17, 3) := by decide +kernel
theorem dX8_isIn_10 : decode cX8_isIn 10 = .ok (.lload_n 0, 1) := by decide +kernel
theorem dX8_isIn_11 : decode cX8_isIn 11 = .ok (.iload_n 2, 1) := by decide +kernel
theorem dX8_isIn_12 : decode cX8_isIn 12 = .ok (.lushr, 1) := by decide +kernel
theorem dX8_isIn_13 : decode cX8_isIn 13 = .ok (.lconst 1, 1) := by decide +kernel
theorem dX8_isIn_14 : decode cX8_isIn 14 = .ok (.land, 1) := by decide +kernel
theorem dX8_isIn_15 : decode cX8_isIn 15 = .ok (.lconst 0, 1) := by decide +kernel
theorem dX8_isIn_16 : decode cX8_isIn 16 = .ok (.lcmp, 1) := by decide +kernel
theorem dX8_isIn_17 : decode cX8_isIn 17 = .ok (.ifCond .eq 7, 3) := by decide +kernel
theorem dX8_isIn_20 : decode cX8_isIn 20 = .ok (.iconst 1, 1) := by decide +kernel
theorem dX8_isIn_21 : decode cX8_isIn 21 = .ok (.goto 4, 3) := by decide +kernel
theorem dX8_isIn_24 : decode cX8_isIn 24 = .ok (.iconst 0, 1) := by decide +kernel
theorem dX8_isIn_25 : decode cX8_isIn 25 = .ok (.ireturn, 1) := by decide +kernel
theorem dX8_firstFrom_0 : decode cX8_firstFrom 0 = .ok (.iconst 0, 1) := by decide +kernel
theorem dX8_firstFrom_1 : decode cX8_firstFrom 1 = .ok (.iload_n 2, 1) := by decide +kernel
theorem dX8_firstFrom_2 : decode cX8_firstFrom 2 = .ok (.invokestatic 15, 3) := by decide +kernel
theorem dX8_firstFrom_5 : decode cX8_firstFrom 5 = .ok (.istore_n 3, 1) := by decide +kernel
theorem dX8_firstFrom_6 : decode cX8_firstFrom 6 = .ok (.iload_n 3, 1) := by decide +kernel
theorem dX8_firstFrom_7 : decode cX8_firstFrom 7 = .ok (.bipush 48, 2) := by decide +kernel
theorem dX8_firstFrom_9 : decode cX8_firstFrom 9 = .ok (.if_icmp .ge 21, 3) := by decide +kernel
theorem dX8_firstFrom_12 : decode cX8_firstFrom 12 = .ok (.lload_n 0, 1) := by decide +kernel
theorem dX8_firstFrom_13 : decode cX8_firstFrom 13 = .ok (.iload_n 3, 1) := by decide +kernel
theorem dX8_firstFrom_14 : decode cX8_firstFrom 14 = .ok (.lushr, 1) := by decide +kernel
theorem dX8_firstFrom_15 : decode cX8_firstFrom 15 = .ok (.lconst 1, 1) := by decide +kernel
theorem dX8_firstFrom_16 : decode cX8_firstFrom 16 = .ok (.land, 1) := by decide +kernel
theorem dX8_firstFrom_17 : decode cX8_firstFrom 17 = .ok (.lconst 0, 1) := by decide +kernel
theorem dX8_firstFrom_18 : decode cX8_firstFrom 18 = .ok (.lcmp, 1) := by decide +kernel
theorem dX8_firstFrom_19 : decode cX8_firstFrom 19 = .ok (.ifCond .eq 5, 3) := by decide +kernel
theorem dX8_firstFrom_22 : decode cX8_firstFrom 22 = .ok (.iload_n 3, 1) := by decide +kernel
theorem dX8_firstFrom_23 : decode cX8_firstFrom 23 = .ok (.ireturn, 1) := by decide +kernel
theorem dX8_firstFrom_24 : decode cX8_firstFrom 24 = .ok (.iinc 3 1, 3) := by decide +kernel
theorem dX8_firstFrom_27 : decode cX8_firstFrom 27 = .ok (.goto (-21), 3) := by decide +kernel
theorem dX8_firstFrom_30 : decode cX8_firstFrom 30 = .ok (.iconst (-1), 1) := by decide +kernel
theorem dX8_firstFrom_31 : decode cX8_firstFrom 31 = .ok (.ireturn, 1) := by decide +kernel
theorem dX8_lastOf_0 : decode cX8_lastOf 0 = .ok (.bipush 47, 2) := by decide +kernel
theorem dX8_lastOf_2 : decode cX8_lastOf 2 = .ok (.istore_n 2, 1) := by decide +kernel
theorem dX8_lastOf_3 : decode cX8_lastOf 3 = .ok (.iload_n 2, 1) := by decide +kernel
theorem dX8_lastOf_4 : decode cX8_lastOf 4 = .ok (.ifCond .lt 21, 3) := by decide +kernel
theorem dX8_lastOf_7 : decode cX8_lastOf 7 = .ok (.lload_n 0, 1) := by decide +kernel
theorem dX8_lastOf_8 : decode cX8_lastOf 8 = .ok (.iload_n 2, 1) := by decide +kernel
theorem dX8_lastOf_9 : decode cX8_lastOf 9 = .ok (.lushr, 1) := by decide +kernel
theorem dX8_lastOf_10 : decode cX8_lastOf 10 = .ok (.lconst 1, 1) := by decide +kernel
theorem dX8_lastOf_11 : decode cX8_lastOf 11 = .ok (.land, 1) := by decide +kernel
theorem dX8_lastOf_12 : decode cX8_lastOf 12 = .ok (.lconst 0, 1) := by decide +kernel
theorem dX8_lastOf_13 : decode cX8_lastOf 13 = .ok (.lcmp, 1) := by decide +kernel
theorem dX8_lastOf_14 : decode cX8_lastOf 14 = .ok (.ifCond .eq 5, 3) := by decide +kernel
theorem dX8_lastOf_17 : decode cX8_lastOf 17 = .ok (.iload_n 2, 1) := by decide +kernel
theorem dX8_lastOf_18 : decode cX8_lastOf 18 = .ok (.ireturn, 1) := by decide +kernel
theorem dX8_lastOf_19 : decode cX8_lastOf 19 = .ok (.iinc 2 (-1), 3) := by decide +kernel
theorem dX8_lastOf_22 : decode cX8_lastOf 22 = .ok (.goto (-19), 3) := by decide +kernel
theorem dX8_lastOf_25 : decode cX8_lastOf 25 = .ok (.iconst (-1), 1) := by decide +kernel
theorem dX8_lastOf_26 : decode cX8_lastOf 26 = .ok (.ireturn, 1) := by decide +kernel
theorem dX8_thingAt_0 : decode cX8_thingAt 0 = .ok (.iconst 0, 1) := by decide +kernel
theorem dX8_thingAt_1 : decode cX8_thingAt 1 = .ok (.istore_n 3, 1) := by decide +kernel
theorem dX8_thingAt_2 : decode cX8_thingAt 2 = .ok (.iconst 0, 1) := by decide +kernel
theorem dX8_thingAt_3 : decode cX8_thingAt 3 = .ok (.istore 4, 2) := by decide +kernel
theorem dX8_thingAt_5 : decode cX8_thingAt 5 = .ok (.iload 4, 2) := by decide +kernel
theorem dX8_thingAt_7 : decode cX8_thingAt 7 = .ok (.bipush 48, 2) := by decide +kernel
theorem dX8_thingAt_9 : decode cX8_thingAt 9 = .ok (.if_icmp .ge 29, 3) := by decide +kernel
theorem dX8_thingAt_12 : decode cX8_thingAt 12 = .ok (.lload_n 0, 1) := by decide +kernel
theorem dX8_thingAt_13 : decode cX8_thingAt 13 = .ok (.iload 4, 2) := by decide +kernel
theorem dX8_thingAt_15 : decode cX8_thingAt 15 = .ok (.invokestatic 258, 3) := by decide +kernel
theorem dX8_thingAt_18 : decode cX8_thingAt 18 = .ok (.ifCond .eq 14, 3) := by decide +kernel
theorem dX8_thingAt_21 : decode cX8_thingAt 21 = .ok (.iload_n 3, 1) := by decide +kernel
theorem dX8_thingAt_22 : decode cX8_thingAt 22 = .ok (.iload_n 2, 1) := by decide +kernel
theorem dX8_thingAt_23 : decode cX8_thingAt 23 = .ok (.if_icmp .ne 6, 3) := by decide +kernel
theorem dX8_thingAt_26 : decode cX8_thingAt 26 = .ok (.iload 4, 2) := by decide +kernel
theorem dX8_thingAt_28 : decode cX8_thingAt 28 = .ok (.ireturn, 1) := by decide +kernel
theorem dX8_thingAt_29 : decode cX8_thingAt 29 = .ok (.iinc 3 1, 3) := by decide +kernel
theorem dX8_thingAt_32 : decode cX8_thingAt 32 = .ok (.iinc 4 1, 3) := by decide +kernel
theorem dX8_thingAt_35 : decode cX8_thingAt 35 = .ok (.goto (-30), 3) := by decide +kernel
theorem dX8_thingAt_38 : decode cX8_thingAt 38 = .ok (.iconst (-1), 1) := by decide +kernel
theorem dX8_thingAt_39 : decode cX8_thingAt 39 = .ok (.ireturn, 1) := by decide +kernel
theorem dX8_folded_0 : decode cX8_folded 0 = .ok (.iload_n 0, 1) := by decide +kernel
theorem dX8_folded_1 : decode cX8_folded 1 = .ok (.ifCond .ge 12, 3) := by decide +kernel
theorem dX8_folded_4 : decode cX8_folded 4 = .ok (.bipush (-2), 2) := by decide +kernel
theorem dX8_folded_6 : decode cX8_folded 6 = .ok (.iload_n 0, 1) := by decide +kernel
theorem dX8_folded_7 : decode cX8_folded 7 = .ok (.imul, 1) := by decide +kernel
theorem dX8_folded_8 : decode cX8_folded 8 = .ok (.iconst 1, 1) := by decide +kernel
theorem dX8_folded_9 : decode cX8_folded 9 = .ok (.isub, 1) := by decide +kernel
theorem dX8_folded_10 : decode cX8_folded 10 = .ok (.goto 6, 3) := by decide +kernel
theorem dX8_folded_13 : decode cX8_folded 13 = .ok (.iconst 2, 1) := by decide +kernel
theorem dX8_folded_14 : decode cX8_folded 14 = .ok (.iload_n 0, 1) := by decide +kernel
theorem dX8_folded_15 : decode cX8_folded 15 = .ok (.imul, 1) := by decide +kernel
theorem dX8_folded_16 : decode cX8_folded 16 = .ok (.ireturn, 1) := by decide +kernel
theorem dX8_digitsOf_0 : decode cX8_digitsOf 0 = .ok (.iconst 1, 1) := by decide +kernel
theorem dX8_digitsOf_1 : decode cX8_digitsOf 1 = .ok (.istore_n 1, 1) := by decide +kernel
theorem dX8_digitsOf_2 : decode cX8_digitsOf 2 = .ok (.iload_n 1, 1) := by decide +kernel
theorem dX8_digitsOf_3 : decode cX8_digitsOf 3 = .ok (.bipush 31, 2) := by decide +kernel
theorem dX8_digitsOf_5 : decode cX8_digitsOf 5 = .ok (.if_icmp .ge 15, 3) := by decide +kernel
theorem dX8_digitsOf_8 : decode cX8_digitsOf 8 = .ok (.iload_n 0, 1) := by decide +kernel
theorem dX8_digitsOf_9 : decode cX8_digitsOf 9 = .ok (.iload_n 1, 1) := by decide +kernel
theorem dX8_digitsOf_10 : decode cX8_digitsOf 10 = .ok (.ishr, 1) := by decide +kernel
theorem dX8_digitsOf_11 : decode cX8_digitsOf 11 = .ok (.ifCond .le 9, 3) := by decide +kernel
theorem dX8_digitsOf_14 : decode cX8_digitsOf 14 = .ok (.iinc 1 1, 3) := by decide +kernel
theorem dX8_digitsOf_17 : decode cX8_digitsOf 17 = .ok (.goto (-15), 3) := by decide +kernel
theorem dX8_digitsOf_20 : decode cX8_digitsOf 20 = .ok (.iload_n 1, 1) := by decide +kernel
theorem dX8_digitsOf_21 : decode cX8_digitsOf 21 = .ok (.ireturn, 1) := by decide +kernel
theorem dX8_bitsIn_0 : decode cX8_bitsIn 0 = .ok (.iload_n 0, 1) := by decide +kernel
theorem dX8_bitsIn_1 : decode cX8_bitsIn 1 = .ok (.tableswitch 64 0 2 #[27, 31, 42], 27) := by decide +kernel
theorem dX8_bitsIn_28 : decode cX8_bitsIn 28 = .ok (.iload_n 1, 1) := by decide +kernel
theorem dX8_bitsIn_29 : decode cX8_bitsIn 29 = .ok (.iconst 1, 1) := by decide +kernel
theorem dX8_bitsIn_30 : decode cX8_bitsIn 30 = .ok (.iadd, 1) := by decide +kernel
theorem dX8_bitsIn_31 : decode cX8_bitsIn 31 = .ok (.ireturn, 1) := by decide +kernel
theorem dX8_bitsIn_32 : decode cX8_bitsIn 32 = .ok (.iconst 2, 1) := by decide +kernel
theorem dX8_bitsIn_33 : decode cX8_bitsIn 33 = .ok (.iload_n 1, 1) := by decide +kernel
theorem dX8_bitsIn_34 : decode cX8_bitsIn 34 = .ok (.iconst 1, 1) := by decide +kernel
theorem dX8_bitsIn_35 : decode cX8_bitsIn 35 = .ok (.iadd, 1) := by decide +kernel
theorem dX8_bitsIn_36 : decode cX8_bitsIn 36 = .ok (.invokestatic 262, 3) := by decide +kernel
theorem dX8_bitsIn_39 : decode cX8_bitsIn 39 = .ok (.imul, 1) := by decide +kernel
theorem dX8_bitsIn_40 : decode cX8_bitsIn 40 = .ok (.iconst 1, 1) := by decide +kernel
theorem dX8_bitsIn_41 : decode cX8_bitsIn 41 = .ok (.isub, 1) := by decide +kernel
theorem dX8_bitsIn_42 : decode cX8_bitsIn 42 = .ok (.ireturn, 1) := by decide +kernel
theorem dX8_bitsIn_43 : decode cX8_bitsIn 43 = .ok (.iload_n 1, 1) := by decide +kernel
theorem dX8_bitsIn_44 : decode cX8_bitsIn 44 = .ok (.iconst 1, 1) := by decide +kernel
theorem dX8_bitsIn_45 : decode cX8_bitsIn 45 = .ok (.iadd, 1) := by decide +kernel
theorem dX8_bitsIn_46 : decode cX8_bitsIn 46 = .ok (.invokestatic 262, 3) := by decide +kernel
theorem dX8_bitsIn_49 : decode cX8_bitsIn 49 = .ok (.iconst 1, 1) := by decide +kernel
theorem dX8_bitsIn_50 : decode cX8_bitsIn 50 = .ok (.isub, 1) := by decide +kernel
theorem dX8_bitsIn_51 : decode cX8_bitsIn 51 = .ok (.istore_n 2, 1) := by decide +kernel
theorem dX8_bitsIn_52 : decode cX8_bitsIn 52 = .ok (.iconst 2, 1) := by decide +kernel
theorem dX8_bitsIn_53 : decode cX8_bitsIn 53 = .ok (.iload_n 2, 1) := by decide +kernel
theorem dX8_bitsIn_54 : decode cX8_bitsIn 54 = .ok (.iconst 1, 1) := by decide +kernel
theorem dX8_bitsIn_55 : decode cX8_bitsIn 55 = .ok (.iadd, 1) := by decide +kernel
theorem dX8_bitsIn_56 : decode cX8_bitsIn 56 = .ok (.invokestatic 262, 3) := by decide +kernel
theorem dX8_bitsIn_59 : decode cX8_bitsIn 59 = .ok (.imul, 1) := by decide +kernel
theorem dX8_bitsIn_60 : decode cX8_bitsIn 60 = .ok (.iconst 1, 1) := by decide +kernel
theorem dX8_bitsIn_61 : decode cX8_bitsIn 61 = .ok (.isub, 1) := by decide +kernel
theorem dX8_bitsIn_62 : decode cX8_bitsIn 62 = .ok (.iload_n 2, 1) := by decide +kernel
theorem dX8_bitsIn_63 : decode cX8_bitsIn 63 = .ok (.iadd, 1) := by decide +kernel
theorem dX8_bitsIn_64 : decode cX8_bitsIn 64 = .ok (.ireturn, 1) := by decide +kernel
theorem dX8_bitsIn_65 : decode cX8_bitsIn 65 = .ok (.iload_n 0, 1) := by decide +kernel
theorem dX8_bitsIn_66 : decode cX8_bitsIn 66 = .ok (.iconst 3, 1) := by decide +kernel
theorem dX8_bitsIn_67 : decode cX8_bitsIn 67 = .ok (.isub, 1) := by decide +kernel
theorem dX8_bitsIn_68 : decode cX8_bitsIn 68 = .ok (.istore_n 3, 1) := by decide +kernel
theorem dX8_bitsIn_69 : decode cX8_bitsIn 69 = .ok (.iload_n 1, 1) := by decide +kernel
theorem dX8_bitsIn_70 : decode cX8_bitsIn 70 = .ok (.iload_n 3, 1) := by decide +kernel
theorem dX8_bitsIn_71 : decode cX8_bitsIn 71 = .ok (.ishr, 1) := by decide +kernel
theorem dX8_bitsIn_72 : decode cX8_bitsIn 72 = .ok (.iconst 1, 1) := by decide +kernel
theorem dX8_bitsIn_73 : decode cX8_bitsIn 73 = .ok (.iadd, 1) := by decide +kernel
theorem dX8_bitsIn_74 : decode cX8_bitsIn 74 = .ok (.iload_n 3, 1) := by decide +kernel
theorem dX8_bitsIn_75 : decode cX8_bitsIn 75 = .ok (.iadd, 1) := by decide +kernel
theorem dX8_bitsIn_76 : decode cX8_bitsIn 76 = .ok (.ireturn, 1) := by decide +kernel
theorem dX9_in_0 : decode cX9_in 0 = .ok (.lload_n 0, 1) := by decide +kernel
theorem dX9_in_1 : decode cX9_in 1 = .ok (.lload_n 2, 1) := by decide +kernel
theorem dX9_in_2 : decode cX9_in 2 = .ok (.lcmp, 1) := by decide +kernel
theorem dX9_in_3 : decode cX9_in 3 = .ok (.ifCond .lt 14, 3) := by decide +kernel
theorem dX9_in_6 : decode cX9_in 6 = .ok (.lload_n 0, 1) := by decide +kernel
theorem dX9_in_7 : decode cX9_in 7 = .ok (.lload 4, 2) := by decide +kernel
theorem dX9_in_9 : decode cX9_in 9 = .ok (.lcmp, 1) := by decide +kernel
theorem dX9_in_10 : decode cX9_in 10 = .ok (.ifCond .gt 7, 3) := by decide +kernel
theorem dX9_in_13 : decode cX9_in 13 = .ok (.iconst 1, 1) := by decide +kernel
theorem dX9_in_14 : decode cX9_in 14 = .ok (.goto 4, 3) := by decide +kernel
theorem dX9_in_17 : decode cX9_in 17 = .ok (.iconst 0, 1) := by decide +kernel
theorem dX9_in_18 : decode cX9_in 18 = .ok (.ireturn, 1) := by decide +kernel
theorem dX9_init_0 : decode cX9_init 0 = .ok (.aload_n 0, 1) := by decide +kernel
theorem dX9_init_1 : decode cX9_init 1 = .ok (.invokespecial 7, 3) := by decide +kernel
theorem dX9_init_4 : decode cX9_init 4 = .ok (.aload_n 0, 1) := by decide +kernel
theorem dX9_init_5 : decode cX9_init 5 = .ok (.sipush 2304, 3) := by decide +kernel
theorem dX9_init_8 : decode cX9_init 8 = .ok (.newarray .boolean, 2) := by decide +kernel
theorem dX9_init_10 : decode cX9_init 10 = .ok (.putfield 13, 3) := by decide +kernel
theorem dX9_init_13 : decode cX9_init 13 = .ok (.aload_n 0, 1) := by decide +kernel
theorem dX9_init_14 : decode cX9_init 14 = .ok (.sipush 2304, 3) := by decide +kernel
theorem dX9_init_17 : decode cX9_init 17 = .ok (.newarray .boolean, 2) := by decide +kernel
theorem dX9_init_19 : decode cX9_init 19 = .ok (.putfield 17, 3) := by decide +kernel
theorem dX9_init_22 : decode cX9_init 22 = .ok (.aload_n 0, 1) := by decide +kernel
theorem dX9_init_23 : decode cX9_init 23 = .ok (.sipush 2304, 3) := by decide +kernel
theorem dX9_init_26 : decode cX9_init 26 = .ok (.newarray .boolean, 2) := by decide +kernel
theorem dX9_init_28 : decode cX9_init 28 = .ok (.putfield 20, 3) := by decide +kernel
theorem dX9_init_31 : decode cX9_init 31 = .ok (.aload_n 0, 1) := by decide +kernel
theorem dX9_init_32 : decode cX9_init 32 = .ok (.bipush 8, 2) := by decide +kernel
theorem dX9_init_34 : decode cX9_init 34 = .ok (.newarray .int, 2) := by decide +kernel
theorem dX9_init_36 : decode cX9_init 36 = .ok (.putfield 23, 3) := by decide +kernel
theorem dX9_init_39 : decode cX9_init 39 = .ok (.aload_n 0, 1) := by decide +kernel
theorem dX9_init_40 : decode cX9_init 40 = .ok (.iconst 3, 1) := by decide +kernel
theorem dX9_init_41 : decode cX9_init 41 = .ok (.putfield 27, 3) := by decide +kernel
theorem dX9_init_44 : decode cX9_init 44 = .ok (.aload_n 0, 1) := by decide +kernel
theorem dX9_init_45 : decode cX9_init 45 = .ok (.iconst 2, 1) := by decide +kernel
theorem dX9_init_46 : decode cX9_init 46 = .ok (.putfield 30, 3) := by decide +kernel
theorem dX9_init_49 : decode cX9_init 49 = .ok (.aload_n 0, 1) := by decide +kernel
theorem dX9_init_50 : decode cX9_init 50 = .ok (.iconst 4, 1) := by decide +kernel
theorem dX9_init_51 : decode cX9_init 51 = .ok (.putfield 33, 3) := by decide +kernel
theorem dX9_init_54 : decode cX9_init 54 = .ok (.aload_n 0, 1) := by decide +kernel
theorem dX9_init_55 : decode cX9_init 55 = .ok (.sipush 16384, 3) := by decide +kernel
theorem dX9_init_58 : decode cX9_init 58 = .ok (.newarray .int, 2) := by decide +kernel
theorem dX9_init_60 : decode cX9_init 60 = .ok (.putfield 36, 3) := by decide +kernel
theorem dX9_init_63 : decode cX9_init 63 = .ok (.aload_n 0, 1) := by decide +kernel
theorem dX9_init_64 : decode cX9_init 64 = .ok (.sipush 16384, 3) := by decide +kernel
theorem dX9_init_67 : decode cX9_init 67 = .ok (.newarray .int, 2) := by decide +kernel
theorem dX9_init_69 : decode cX9_init 69 = .ok (.putfield 39, 3) := by decide +kernel
theorem dX9_init_72 : decode cX9_init 72 = .ok (.aload_n 0, 1) := by decide +kernel
theorem dX9_init_73 : decode cX9_init 73 = .ok (.sipush 400, 3) := by decide +kernel
theorem dX9_init_76 : decode cX9_init 76 = .ok (.newarray .int, 2) := by decide +kernel
theorem dX9_init_78 : decode cX9_init 78 = .ok (.putfield 42, 3) := by decide +kernel
theorem dX9_init_81 : decode cX9_init 81 = .ok (.aload_n 0, 1) := by decide +kernel
theorem dX9_init_82 : decode cX9_init 82 = .ok (.sipush 400, 3) := by decide +kernel
theorem dX9_init_85 : decode cX9_init 85 = .ok (.newarray .int, 2) := by decide +kernel
theorem dX9_init_87 : decode cX9_init 87 = .ok (.putfield 45, 3) := by decide +kernel
theorem dX9_init_90 : decode cX9_init 90 = .ok (.aload_n 0, 1) := by decide +kernel
theorem dX9_init_91 : decode cX9_init 91 = .ok (.bipush 48, 2) := by decide +kernel
theorem dX9_init_93 : decode cX9_init 93 = .ok (.newarray .int, 2) := by decide +kernel
theorem dX9_init_95 : decode cX9_init 95 = .ok (.putfield 48, 3) := by decide +kernel
theorem dX9_init_98 : decode cX9_init 98 = .ok (.aload_n 0, 1) := by decide +kernel
theorem dX9_init_99 : decode cX9_init 99 = .ok (.bipush 48, 2) := by decide +kernel
theorem dX9_init_101 : decode cX9_init 101 = .ok (.newarray .int, 2) := by decide +kernel
theorem dX9_init_103 : decode cX9_init 103 = .ok (.putfield 51, 3) := by decide +kernel
theorem dX9_init_106 : decode cX9_init 106 = .ok (.aload_n 0, 1) := by decide +kernel
theorem dX9_init_107 : decode cX9_init 107 = .ok (.bipush 50, 2) := by decide +kernel
theorem dX9_init_109 : decode cX9_init 109 = .ok (.newarray .int, 2) := by decide +kernel
theorem dX9_init_111 : decode cX9_init 111 = .ok (.putfield 54, 3) := by decide +kernel
theorem dX9_init_114 : decode cX9_init 114 = .ok (.aload_n 0, 1) := by decide +kernel
theorem dX9_init_115 : decode cX9_init 115 = .ok (.bipush 48, 2) := by decide +kernel
theorem dX9_init_117 : decode cX9_init 117 = .ok (.newarray .int, 2) := by decide +kernel
theorem dX9_init_119 : decode cX9_init 119 = .ok (.putfield 57, 3) := by decide +kernel
theorem dX9_init_122 : decode cX9_init 122 = .ok (.aload_n 0, 1) := by decide +kernel
theorem dX9_init_123 : decode cX9_init 123 = .ok (.bipush 48, 2) := by decide +kernel
theorem dX9_init_125 : decode cX9_init 125 = .ok (.newarray .int, 2) := by decide +kernel
theorem dX9_init_127 : decode cX9_init 127 = .ok (.putfield 60, 3) := by decide +kernel
theorem dX9_init_130 : decode cX9_init 130 = .ok (.aload_n 0, 1) := by decide +kernel
theorem dX9_init_131 : decode cX9_init 131 = .ok (.bipush 48, 2) := by decide +kernel
theorem dX9_init_133 : decode cX9_init 133 = .ok (.newarray .int, 2) := by decide +kernel
theorem dX9_init_135 : decode cX9_init 135 = .ok (.putfield 63, 3) := by decide +kernel
theorem dX9_init_138 : decode cX9_init 138 = .ok (.aload_n 0, 1) := by decide +kernel
theorem dX9_init_139 : decode cX9_init 139 = .ok (.bipush 49, 2) := by decide +kernel
theorem dX9_init_141 : decode cX9_init 141 = .ok (.newarray .int, 2) := by decide +kernel
theorem dX9_init_143 : decode cX9_init 143 = .ok (.putfield 66, 3) := by decide +kernel
theorem dX9_init_146 : decode cX9_init 146 = .ok (.aload_n 0, 1) := by decide +kernel
theorem dX9_init_147 : decode cX9_init 147 = .ok (.bipush 48, 2) := by decide +kernel
theorem dX9_init_149 : decode cX9_init 149 = .ok (.newarray .int, 2) := by decide +kernel
theorem dX9_init_151 : decode cX9_init 151 = .ok (.putfield 69, 3) := by decide +kernel
theorem dX9_init_154 : decode cX9_init 154 = .ok (.aload_n 0, 1) := by decide +kernel
theorem dX9_init_155 : decode cX9_init 155 = .ok (.bipush 48, 2) := by decide +kernel
theorem dX9_init_157 : decode cX9_init 157 = .ok (.newarray .int, 2) := by decide +kernel
theorem dX9_init_159 : decode cX9_init 159 = .ok (.putfield 72, 3) := by decide +kernel
theorem dX9_init_162 : decode cX9_init 162 = .ok (.aload_n 0, 1) := by decide +kernel
theorem dX9_init_163 : decode cX9_init 163 = .ok (.bipush 48, 2) := by decide +kernel
theorem dX9_init_165 : decode cX9_init 165 = .ok (.newarray .int, 2) := by decide +kernel
theorem dX9_init_167 : decode cX9_init 167 = .ok (.putfield 75, 3) := by decide +kernel
theorem dX9_init_170 : decode cX9_init 170 = .ok (.aload_n 0, 1) := by decide +kernel
theorem dX9_init_171 : decode cX9_init 171 = .ok (.sipush 336, 3) := by decide +kernel
theorem dX9_init_174 : decode cX9_init 174 = .ok (.newarray .int, 2) := by decide +kernel
theorem dX9_init_176 : decode cX9_init 176 = .ok (.putfield 78, 3) := by decide +kernel
theorem dX9_init_179 : decode cX9_init 179 = .ok (.aload_n 0, 1) := by decide +kernel
theorem dX9_init_180 : decode cX9_init 180 = .ok (.bipush 48, 2) := by decide +kernel
theorem dX9_init_182 : decode cX9_init 182 = .ok (.newarray .int, 2) := by decide +kernel
theorem dX9_init_184 : decode cX9_init 184 = .ok (.putfield 81, 3) := by decide +kernel
theorem dX9_init_187 : decode cX9_init 187 = .ok (.aload_n 0, 1) := by decide +kernel
theorem dX9_init_188 : decode cX9_init 188 = .ok (.bipush 48, 2) := by decide +kernel
theorem dX9_init_190 : decode cX9_init 190 = .ok (.newarray .boolean, 2) := by decide +kernel
theorem dX9_init_192 : decode cX9_init 192 = .ok (.putfield 84, 3) := by decide +kernel
theorem dX9_init_195 : decode cX9_init 195 = .ok (.aload_n 0, 1) := by decide +kernel
theorem dX9_init_196 : decode cX9_init 196 = .ok (.bipush 48, 2) := by decide +kernel
theorem dX9_init_198 : decode cX9_init 198 = .ok (.newarray .int, 2) := by decide +kernel
theorem dX9_init_200 : decode cX9_init 200 = .ok (.putfield 87, 3) := by decide +kernel
theorem dX9_init_203 : decode cX9_init 203 = .ok (.aload_n 0, 1) := by decide +kernel
theorem dX9_init_204 : decode cX9_init 204 = .ok (.bipush 48, 2) := by decide +kernel
theorem dX9_init_206 : decode cX9_init 206 = .ok (.newarray .int, 2) := by decide +kernel
theorem dX9_init_208 : decode cX9_init 208 = .ok (.putfield 90, 3) := by decide +kernel
theorem dX9_init_211 : decode cX9_init 211 = .ok (.aload_n 0, 1) := by decide +kernel
theorem dX9_init_212 : decode cX9_init 212 = .ok (.iload_n 1, 1) := by decide +kernel
theorem dX9_init_213 : decode cX9_init 213 = .ok (.iconst 1, 1) := by decide +kernel
theorem dX9_init_214 : decode cX9_init 214 = .ok (.if_icmp .ge 7, 3) := by decide +kernel
theorem dX9_init_217 : decode cX9_init 217 = .ok (.iconst 1, 1) := by decide +kernel
theorem dX9_init_218 : decode cX9_init 218 = .ok (.goto 15, 3) := by decide +kernel
theorem dX9_init_221 : decode cX9_init 221 = .ok (.iload_n 1, 1) := by decide +kernel
theorem dX9_init_222 : decode cX9_init 222 = .ok (.bipush 48, 2) := by decide +kernel
theorem dX9_init_224 : decode cX9_init 224 = .ok (.if_icmp .le 8, 3) := by decide +kernel
theorem dX9_init_227 : decode cX9_init 227 = .ok (.bipush 48, 2) := by decide +kernel
theorem dX9_init_229 : decode cX9_init 229 = .ok (.goto 4, 3) := by decide +kernel
theorem dX9_init_232 : decode cX9_init 232 = .ok (.iload_n 1, 1) := by decide +kernel
theorem dX9_init_233 : decode cX9_init 233 = .ok (.putfield 93, 3) := by decide +kernel
theorem dX9_init_236 : decode cX9_init 236 = .ok (.iconst 0, 1) := by decide +kernel
theorem dX9_init_237 : decode cX9_init 237 = .ok (.istore_n 2, 1) := by decide +kernel
theorem dX9_init_238 : decode cX9_init 238 = .ok (.iload_n 2, 1) := by decide +kernel
theorem dX9_init_239 : decode cX9_init 239 = .ok (.bipush 8, 2) := by decide +kernel
theorem dX9_init_241 : decode cX9_init 241 = .ok (.if_icmp .ge 16, 3) := by decide +kernel
theorem dX9_init_244 : decode cX9_init 244 = .ok (.aload_n 0, 1) := by decide +kernel
theorem dX9_init_245 : decode cX9_init 245 = .ok (.getfield 23, 3) := by decide +kernel
theorem dX9_init_248 : decode cX9_init 248 = .ok (.iload_n 2, 1) := by decide +kernel
theorem dX9_init_249 : decode cX9_init 249 = .ok (.iconst 1, 1) := by decide +kernel
theorem dX9_init_250 : decode cX9_init 250 = .ok (.iastore, 1) := by decide +kernel
theorem dX9_init_251 : decode cX9_init 251 = .ok (.iinc 2 1, 3) := by decide +kernel
theorem dX9_init_254 : decode cX9_init 254 = .ok (.goto (-16), 3) := by decide +kernel
theorem dX9_init_257 : decode cX9_init 257 = .ok (.return_, 1) := by decide +kernel
theorem dX9_isThing_0 : decode cX9_isThing 0 = .ok (.iload_n 1, 1) := by decide +kernel
theorem dX9_isThing_1 : decode cX9_isThing 1 = .ok (.i2l, 1) := by decide +kernel
theorem dX9_isThing_2 : decode cX9_isThing 2 = .ok (.lconst 0, 1) := by decide +kernel
theorem dX9_isThing_3 : decode cX9_isThing 3 = .ok (.aload_n 0, 1) := by decide +kernel
theorem dX9_isThing_4 : decode cX9_isThing 4 = .ok (.getfield 93, 3) := by decide +kernel
theorem dX9_isThing_7 : decode cX9_isThing 7 = .ok (.iconst 1, 1) := by decide +kernel
theorem dX9_isThing_8 : decode cX9_isThing 8 = .ok (.isub, 1) := by decide +kernel
theorem dX9_isThing_9 : decode cX9_isThing 9 = .ok (.i2l, 1) := by decide +kernel
theorem dX9_isThing_10 : decode cX9_isThing 10 = .ok (.invokestatic 96, 3) := by decide +kernel
theorem dX9_isThing_13 : decode cX9_isThing 13 = .ok (.ireturn, 1) := by decide +kernel
theorem dX9_turn_0 : decode cX9_turn 0 = .ok (.bipush 48, 2) := by decide +kernel
theorem dX9_turn_2 : decode cX9_turn 2 = .ok (.iload_n 1, 1) := by decide +kernel
theorem dX9_turn_3 : decode cX9_turn 3 = .ok (.imul, 1) := by decide +kernel
theorem dX9_turn_4 : decode cX9_turn 4 = .ok (.iload_n 2, 1) := by decide +kernel
theorem dX9_turn_5 : decode cX9_turn 5 = .ok (.iadd, 1) := by decide +kernel
theorem dX9_turn_6 : decode cX9_turn 6 = .ok (.istore 4, 2) := by decide +kernel
theorem dX9_turn_8 : decode cX9_turn 8 = .ok (.aload_n 0, 1) := by decide +kernel
theorem dX9_turn_9 : decode cX9_turn 9 = .ok (.getfield 13, 3) := by decide +kernel
theorem dX9_turn_12 : decode cX9_turn 12 = .ok (.iload 4, 2) := by decide +kernel
theorem dX9_turn_14 : decode cX9_turn 14 = .ok (.baload, 1) := by decide +kernel
theorem dX9_turn_15 : decode cX9_turn 15 = .ok (.iload_n 3, 1) := by decide +kernel
theorem dX9_turn_16 : decode cX9_turn 16 = .ok (.if_icmp .ne 5, 3) := by decide +kernel
theorem dX9_turn_19 : decode cX9_turn 19 = .ok (.iconst 0, 1) := by decide +kernel
theorem dX9_turn_20 : decode cX9_turn 20 = .ok (.ireturn, 1) := by decide +kernel
theorem dX9_turn_21 : decode cX9_turn 21 = .ok (.aload_n 0, 1) := by decide +kernel
theorem dX9_turn_22 : decode cX9_turn 22 = .ok (.getfield 100, 3) := by decide +kernel
theorem dX9_turn_25 : decode cX9_turn 25 = .ok (.ifCond .eq 18, 3) := by decide +kernel
theorem dX9_turn_28 : decode cX9_turn 28 = .ok (.aload_n 0, 1) := by decide +kernel
theorem dX9_turn_29 : decode cX9_turn 29 = .ok (.getfield 17, 3) := by decide +kernel
theorem dX9_turn_32 : decode cX9_turn 32 = .ok (.iload 4, 2) := by decide +kernel
theorem dX9_turn_34 : decode cX9_turn 34 = .ok (.baload, 1) := by decide +kernel
theorem dX9_turn_35 : decode cX9_turn 35 = .ok (.iload_n 3, 1) := by decide +kernel
theorem dX9_turn_36 : decode cX9_turn 36 = .ok (.if_icmp .eq 7, 3) := by decide +kernel
theorem dX9_turn_39 : decode cX9_turn 39 = .ok (.iconst 1, 1) := by decide +kernel
theorem dX9_turn_40 : decode cX9_turn 40 = .ok (.goto 4, 3) := by decide +kernel
theorem dX9_turn_43 : decode cX9_turn 43 = .ok (.iconst 0, 1) := by decide +kernel
theorem dX9_turn_44 : decode cX9_turn 44 = .ok (.istore 5, 2) := by decide +kernel
theorem dX9_turn_46 : decode cX9_turn 46 = .ok (.iload 5, 2) := by decide +kernel
theorem dX9_turn_48 : decode cX9_turn 48 = .ok (.ifCond .eq 15, 3) := by decide +kernel
theorem dX9_turn_51 : decode cX9_turn 51 = .ok (.aload_n 0, 1) := by decide +kernel
theorem dX9_turn_52 : decode cX9_turn 52 = .ok (.getfield 104, 3) := by decide +kernel
theorem dX9_turn_55 : decode cX9_turn 55 = .ok (.bipush 40, 2) := by decide +kernel
theorem dX9_turn_57 : decode cX9_turn 57 = .ok (.if_icmp .ne 6, 3) := by decide +kernel
theorem dX9_turn_60 : decode cX9_turn 60 = .ok (.bipush (-4), 2) := by decide +kernel
theorem dX9_turn_62 : decode cX9_turn 62 = .ok (.ireturn, 1) := by decide +kernel
theorem dX9_turn_63 : decode cX9_turn 63 = .ok (.aload_n 0, 1) := by decide +kernel
theorem dX9_turn_64 : decode cX9_turn 64 = .ok (.dup, 1) := by decide +kernel
theorem dX9_turn_65 : decode cX9_turn 65 = .ok (.getfield 104, 3) := by decide +kernel
theorem dX9_turn_68 : decode cX9_turn 68 = .ok (.aload_n 0, 1) := by decide +kernel
theorem dX9_turn_69 : decode cX9_turn 69 = .ok (.getfield 100, 3) := by decide +kernel
theorem dX9_turn_72 : decode cX9_turn 72 = .ok (.ifCond .ne 7, 3) := by decide +kernel
theorem dX9_turn_75 : decode cX9_turn 75 = .ok (.iconst 0, 1) := by decide +kernel
theorem dX9_turn_76 : decode cX9_turn 76 = .ok (.goto 13, 3) := by decide +kernel
theorem dX9_turn_79 : decode cX9_turn 79 = .ok (.iload 5, 2) := by decide +kernel
theorem dX9_turn_81 : decode cX9_turn 81 = .ok (.ifCond .eq 7, 3) := by decide +kernel
theorem dX9_turn_84 : decode cX9_turn 84 = .ok (.iconst 1, 1) := by decide +kernel
theorem dX9_turn_85 : decode cX9_turn 85 = .ok (.goto 4, 3) := by decide +kernel
theorem dX9_turn_88 : decode cX9_turn 88 = .ok (.iconst (-1), 1) := by decide +kernel
theorem dX9_turn_89 : decode cX9_turn 89 = .ok (.iadd, 1) := by decide +kernel
theorem dX9_turn_90 : decode cX9_turn 90 = .ok (.putfield 104, 3) := by decide +kernel
theorem dX9_turn_93 : decode cX9_turn 93 = .ok (.aload_n 0, 1) := by decide +kernel
theorem dX9_turn_94 : decode cX9_turn 94 = .ok (.getfield 13, 3) := by decide +kernel
theorem dX9_turn_97 : decode cX9_turn 97 = .ok (.iload 4, 2) := by decide +kernel
theorem dX9_turn_99 : decode cX9_turn 99 = .ok (.iload_n 3, 1) := by decide +kernel
theorem dX9_turn_100 : decode cX9_turn 100 = .ok (.bastore, 1) := by decide +kernel
theorem dX9_turn_101 : decode cX9_turn 101 = .ok (.iconst 1, 1) := by decide +kernel
theorem dX9_turn_102 : decode cX9_turn 102 = .ok (.ireturn, 1) := by decide +kernel
theorem dX9_pair_0 : decode cX9_pair 0 = .ok (.aload_n 0, 1) := by decide +kernel
theorem dX9_pair_1 : decode cX9_pair 1 = .ok (.iconst 0, 1) := by decide +kernel
theorem dX9_pair_2 : decode cX9_pair 2 = .ok (.putfield 1, 3) := by decide +kernel
theorem dX9_pair_5 : decode cX9_pair 5 = .ok (.aload_n 0, 1) := by decide +kernel
theorem dX9_pair_6 : decode cX9_pair 6 = .ok (.iload_n 1, 1) := by decide +kernel
theorem dX9_pair_7 : decode cX9_pair 7 = .ok (.invokevirtual 107, 3) := by decide +kernel
theorem dX9_pair_10 : decode cX9_pair 10 = .ok (.ifCond .eq 11, 3) := by decide +kernel
theorem dX9_pair_13 : decode cX9_pair 13 = .ok (.aload_n 0, 1) := by decide +kernel
theorem dX9_pair_14 : decode cX9_pair 14 = .ok (.iload_n 2, 1) := by decide +kernel
theorem dX9_pair_15 : decode cX9_pair 15 = .ok (.invokevirtual 107, 3) := by decide +kernel
theorem dX9_pair_18 : decode cX9_pair 18 = .ok (.ifCond .ne 8, 3) := by decide +kernel
theorem dX9_pair_21 : decode cX9_pair 21 = .ok (.bipush (-2), 2) := by decide +kernel
theorem dX9_pair_23 : decode cX9_pair 23 = .ok (.goto 10, 3) := by decide +kernel
theorem dX9_pair_26 : decode cX9_pair 26 = .ok (.aload_n 0, 1) := by decide +kernel
theorem dX9_pair_27 : decode cX9_pair 27 = .ok (.iload_n 1, 1) := by decide +kernel
theorem dX9_pair_28 : decode cX9_pair 28 = .ok (.iload_n 2, 1) := by decide +kernel
theorem dX9_pair_29 : decode cX9_pair 29 = .ok (.iconst 1, 1) := by decide +kernel
theorem dX9_pair_30 : decode cX9_pair 30 = .ok (.invokevirtual 111, 3) := by decide +kernel
theorem dX9_pair_33 : decode cX9_pair 33 = .ok (.ireturn, 1) := by decide +kernel
theorem dX9_drop_0 : decode cX9_drop 0 = .ok (.aload_n 0, 1) := by decide +kernel
theorem dX9_drop_1 : decode cX9_drop 1 = .ok (.iconst 0, 1) := by decide +kernel
theorem dX9_drop_2 : decode cX9_drop 2 = .ok (.putfield 1, 3) := by decide +kernel
theorem dX9_drop_5 : decode cX9_drop 5 = .ok (.aload_n 0, 1) := by decide +kernel
theorem dX9_drop_6 : decode cX9_drop 6 = .ok (.iload_n 1, 1) := by decide +kernel
theorem dX9_drop_7 : decode cX9_drop 7 = .ok (.invokevirtual 107, 3) := by decide +kernel
theorem dX9_drop_10 : decode cX9_drop 10 = .ok (.ifCond .eq 11, 3) := by decide +kernel
theorem dX9_drop_13 : decode cX9_drop 13 = .ok (.aload_n 0, 1) := by decide +kernel
theorem dX9_drop_14 : decode cX9_drop 14 = .ok (.iload_n 2, 1) := by decide +kernel
theorem dX9_drop_15 : decode cX9_drop 15 = .ok (.invokevirtual 107, 3) := by decide +kernel
theorem dX9_drop_18 : decode cX9_drop 18 = .ok (.ifCond .ne 8, 3) := by decide +kernel
theorem dX9_drop_21 : decode cX9_drop 21 = .ok (.bipush (-2), 2) := by decide +kernel
theorem dX9_drop_23 : decode cX9_drop 23 = .ok (.goto 10, 3) := by decide +kernel
theorem dX9_drop_26 : decode cX9_drop 26 = .ok (.aload_n 0, 1) := by decide +kernel
theorem dX9_drop_27 : decode cX9_drop 27 = .ok (.iload_n 1, 1) := by decide +kernel
theorem dX9_drop_28 : decode cX9_drop 28 = .ok (.iload_n 2, 1) := by decide +kernel
theorem dX9_drop_29 : decode cX9_drop 29 = .ok (.iconst 0, 1) := by decide +kernel
theorem dX9_drop_30 : decode cX9_drop 30 = .ok (.invokevirtual 111, 3) := by decide +kernel
theorem dX9_drop_33 : decode cX9_drop 33 = .ok (.ireturn, 1) := by decide +kernel
theorem dX9_has_0 : decode cX9_has 0 = .ok (.aload_n 0, 1) := by decide +kernel
theorem dX9_has_1 : decode cX9_has 1 = .ok (.iconst 0, 1) := by decide +kernel
theorem dX9_has_2 : decode cX9_has 2 = .ok (.putfield 1, 3) := by decide +kernel
theorem dX9_has_5 : decode cX9_has 5 = .ok (.aload_n 0, 1) := by decide +kernel
theorem dX9_has_6 : decode cX9_has 6 = .ok (.iload_n 1, 1) := by decide +kernel
theorem dX9_has_7 : decode cX9_has 7 = .ok (.invokevirtual 107, 3) := by decide +kernel
theorem dX9_has_10 : decode cX9_has 10 = .ok (.ifCond .eq 11, 3) := by decide +kernel
theorem dX9_has_13 : decode cX9_has 13 = .ok (.aload_n 0, 1) := by decide +kernel
theorem dX9_has_14 : decode cX9_has 14 = .ok (.iload_n 2, 1) := by decide +kernel
theorem dX9_has_15 : decode cX9_has 15 = .ok (.invokevirtual 107, 3) := by decide +kernel
theorem dX9_has_18 : decode cX9_has 18 = .ok (.ifCond .ne 8, 3) := by decide +kernel
theorem dX9_has_21 : decode cX9_has 21 = .ok (.bipush (-2), 2) := by decide +kernel
theorem dX9_has_23 : decode cX9_has 23 = .ok (.goto 22, 3) := by decide +kernel
theorem dX9_has_26 : decode cX9_has 26 = .ok (.aload_n 0, 1) := by decide +kernel
theorem dX9_has_27 : decode cX9_has 27 = .ok (.getfield 13, 3) := by decide +kernel
theorem dX9_has_30 : decode cX9_has 30 = .ok (.bipush 48, 2) := by decide +kernel
theorem dX9_has_32 : decode cX9_has 32 = .ok (.iload_n 1, 1) := by decide +kernel
theorem dX9_has_33 : decode cX9_has 33 = .ok (.imul, 1) := by decide +kernel
theorem dX9_has_34 : decode cX9_has 34 = .ok (.iload_n 2, 1) := by decide +kernel
theorem dX9_has_35 : decode cX9_has 35 = .ok (.iadd, 1) := by decide +kernel
theorem dX9_has_36 : decode cX9_has 36 = .ok (.baload, 1) := by decide +kernel
theorem dX9_has_37 : decode cX9_has 37 = .ok (.ifCond .eq 7, 3) := by decide +kernel
theorem dX9_has_40 : decode cX9_has 40 = .ok (.iconst 1, 1) := by decide +kernel
theorem dX9_has_41 : decode cX9_has 41 = .ok (.goto 4, 3) := by decide +kernel
theorem dX9_has_44 : decode cX9_has 44 = .ok (.iconst 0, 1) := by decide +kernel
theorem dX9_has_45 : decode cX9_has 45 = .ok (.ireturn, 1) := by decide +kernel
theorem dX9_next_0 : decode cX9_next 0 = .ok (.aload_n 0, 1) := by decide +kernel
theorem dX9_next_1 : decode cX9_next 1 = .ok (.iconst 0, 1) := by decide +kernel
theorem dX9_next_2 : decode cX9_next 2 = .ok (.putfield 1, 3) := by decide +kernel
theorem dX9_next_5 : decode cX9_next 5 = .ok (.aload_n 0, 1) := by decide +kernel
theorem dX9_next_6 : decode cX9_next 6 = .ok (.iload_n 1, 1) := by decide +kernel
theorem dX9_next_7 : decode cX9_next 7 = .ok (.invokevirtual 107, 3) := by decide +kernel
theorem dX9_next_10 : decode cX9_next 10 = .ok (.ifCond .eq 7, 3) := by decide +kernel
theorem dX9_next_13 : decode cX9_next 13 = .ok (.iload_n 2, 1) := by decide +kernel
theorem dX9_next_14 : decode cX9_next 14 = .ok (.ifCond .ge 6, 3) := by decide +kernel
theorem dX9_next_17 : decode cX9_next 17 = .ok (.bipush (-2), 2) := by decide +kernel
theorem dX9_next_19 : decode cX9_next 19 = .ok (.ireturn, 1) := by decide +kernel
theorem dX9_next_20 : decode cX9_next 20 = .ok (.iload_n 2, 1) := by decide +kernel
theorem dX9_next_21 : decode cX9_next 21 = .ok (.istore_n 3, 1) := by decide +kernel
theorem dX9_next_22 : decode cX9_next 22 = .ok (.iload_n 3, 1) := by decide +kernel
theorem dX9_next_23 : decode cX9_next 23 = .ok (.aload_n 0, 1) := by decide +kernel
theorem dX9_next_24 : decode cX9_next 24 = .ok (.getfield 93, 3) := by decide +kernel
theorem dX9_next_27 : decode cX9_next 27 = .ok (.if_icmp .ge 25, 3) := by decide +kernel
theorem dX9_next_30 : decode cX9_next 30 = .ok (.aload_n 0, 1) := by decide +kernel
theorem dX9_next_31 : decode cX9_next 31 = .ok (.getfield 13, 3) := by decide +kernel
theorem dX9_next_34 : decode cX9_next 34 = .ok (.bipush 48, 2) := by decide +kernel
theorem dX9_next_36 : decode cX9_next 36 = .ok (.iload_n 1, 1) := by decide +kernel
theorem dX9_next_37 : decode cX9_next 37 = .ok (.imul, 1) := by decide +kernel
theorem dX9_next_38 : decode cX9_next 38 = .ok (.iload_n 3, 1) := by decide +kernel
theorem dX9_next_39 : decode cX9_next 39 = .ok (.iadd, 1) := by decide +kernel
theorem dX9_next_40 : decode cX9_next 40 = .ok (.baload, 1) := by decide +kernel
theorem dX9_next_41 : decode cX9_next 41 = .ok (.ifCond .eq 5, 3) := by decide +kernel
theorem dX9_next_44 : decode cX9_next 44 = .ok (.iload_n 3, 1) := by decide +kernel
theorem dX9_next_45 : decode cX9_next 45 = .ok (.ireturn, 1) := by decide +kernel
theorem dX9_next_46 : decode cX9_next 46 = .ok (.iinc 3 1, 3) := by decide +kernel
theorem dX9_next_49 : decode cX9_next 49 = .ok (.goto (-27), 3) := by decide +kernel
theorem dX9_next_52 : decode cX9_next 52 = .ok (.iconst (-1), 1) := by decide +kernel
theorem dX9_next_53 : decode cX9_next 53 = .ok (.ireturn, 1) := by decide +kernel
theorem dX9_rowSize_0 : decode cX9_rowSize 0 = .ok (.iconst 0, 1) := by decide +kernel
theorem dX9_rowSize_1 : decode cX9_rowSize 1 = .ok (.istore_n 2, 1) := by decide +kernel
theorem dX9_rowSize_2 : decode cX9_rowSize 2 = .ok (.iconst 0, 1) := by decide +kernel
theorem dX9_rowSize_3 : decode cX9_rowSize 3 = .ok (.istore_n 3, 1) := by decide +kernel
theorem dX9_rowSize_4 : decode cX9_rowSize 4 = .ok (.iload_n 3, 1) := by decide +kernel
theorem dX9_rowSize_5 : decode cX9_rowSize 5 = .ok (.aload_n 0, 1) := by decide +kernel
theorem dX9_rowSize_6 : decode cX9_rowSize 6 = .ok (.getfield 93, 3) := by decide +kernel
theorem dX9_rowSize_9 : decode cX9_rowSize 9 = .ok (.if_icmp .ge 31, 3) := by decide +kernel
theorem dX9_rowSize_12 : decode cX9_rowSize 12 = .ok (.iload_n 2, 1) := by decide +kernel
theorem dX9_rowSize_13 : decode cX9_rowSize 13 = .ok (.aload_n 0, 1) := by decide +kernel
theorem dX9_rowSize_14 : decode cX9_rowSize 14 = .ok (.getfield 13, 3) := by decide +kernel
theorem dX9_rowSize_17 : decode cX9_rowSize 17 = .ok (.bipush 48, 2) := by decide +kernel
theorem dX9_rowSize_19 : decode cX9_rowSize 19 = .ok (.iload_n 1, 1) := by decide +kernel
theorem dX9_rowSize_20 : decode cX9_rowSize 20 = .ok (.imul, 1) := by decide +kernel
theorem dX9_rowSize_21 : decode cX9_rowSize 21 = .ok (.iload_n 3, 1) := by decide +kernel
theorem dX9_rowSize_22 : decode cX9_rowSize 22 = .ok (.iadd, 1) := by decide +kernel
theorem dX9_rowSize_23 : decode cX9_rowSize 23 = .ok (.baload, 1) := by decide +kernel
theorem dX9_rowSize_24 : decode cX9_rowSize 24 = .ok (.ifCond .eq 7, 3) := by decide +kernel
theorem dX9_rowSize_27 : decode cX9_rowSize 27 = .ok (.iconst 1, 1) := by decide +kernel
theorem dX9_rowSize_28 : decode cX9_rowSize 28 = .ok (.goto 4, 3) := by decide +kernel
theorem dX9_rowSize_31 : decode cX9_rowSize 31 = .ok (.iconst 0, 1) := by decide +kernel
theorem dX9_rowSize_32 : decode cX9_rowSize 32 = .ok (.iadd, 1) := by decide +kernel
theorem dX9_rowSize_33 : decode cX9_rowSize 33 = .ok (.istore_n 2, 1) := by decide +kernel
theorem dX9_rowSize_34 : decode cX9_rowSize 34 = .ok (.iinc 3 1, 3) := by decide +kernel
theorem dX9_rowSize_37 : decode cX9_rowSize 37 = .ok (.goto (-33), 3) := by decide +kernel
theorem dX9_rowSize_40 : decode cX9_rowSize 40 = .ok (.iload_n 2, 1) := by decide +kernel
theorem dX9_rowSize_41 : decode cX9_rowSize 41 = .ok (.ireturn, 1) := by decide +kernel
theorem dX9_degree_0 : decode cX9_degree 0 = .ok (.aload_n 0, 1) := by decide +kernel
theorem dX9_degree_1 : decode cX9_degree 1 = .ok (.iconst 0, 1) := by decide +kernel
theorem dX9_degree_2 : decode cX9_degree 2 = .ok (.putfield 1, 3) := by decide +kernel
theorem dX9_degree_5 : decode cX9_degree 5 = .ok (.aload_n 0, 1) := by decide +kernel
theorem dX9_degree_6 : decode cX9_degree 6 = .ok (.iload_n 1, 1) := by decide +kernel
