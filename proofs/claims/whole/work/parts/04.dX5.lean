theorem dX5_init_0 : decode cX5_init 0 = .ok (.aload_n 0, 1) := by decide +kernel
theorem dX5_init_1 : decode cX5_init 1 = .ok (.invokespecial 1, 3) := by decide +kernel
theorem dX5_init_4 : decode cX5_init 4 = .ok (.aload_n 0, 1) := by decide +kernel
theorem dX5_init_5 : decode cX5_init 5 = .ok (.new 7, 3) := by decide +kernel
theorem dX5_init_8 : decode cX5_init 8 = .ok (.dup, 1) := by decide +kernel
theorem dX5_init_9 : decode cX5_init 9 = .ok (.invokespecial 9, 3) := by decide +kernel
theorem dX5_init_12 : decode cX5_init 12 = .ok (.putfield 10, 3) := by decide +kernel
theorem dX5_init_15 : decode cX5_init 15 = .ok (.aload_n 0, 1) := by decide +kernel
theorem dX5_init_16 : decode cX5_init 16 = .ok (.new 16, 3) := by decide +kernel
theorem dX5_init_19 : decode cX5_init 19 = .ok (.dup, 1) := by decide +kernel
theorem dX5_init_20 : decode cX5_init 20 = .ok (.invokespecial 18, 3) := by decide +kernel
theorem dX5_init_23 : decode cX5_init 23 = .ok (.putfield 19, 3) := by decide +kernel
theorem dX5_init_26 : decode cX5_init 26 = .ok (.aload_n 0, 1) := by decide +kernel
theorem dX5_init_27 : decode cX5_init 27 = .ok (.new 23, 3) := by decide +kernel
theorem dX5_init_30 : decode cX5_init 30 = .ok (.dup, 1) := by decide +kernel
theorem dX5_init_31 : decode cX5_init 31 = .ok (.invokespecial 25, 3) := by decide +kernel
theorem dX5_init_34 : decode cX5_init 34 = .ok (.putfield 26, 3) := by decide +kernel
theorem dX5_init_37 : decode cX5_init 37 = .ok (.aload_n 0, 1) := by decide +kernel
theorem dX5_init_38 : decode cX5_init 38 = .ok (.new 30, 3) := by decide +kernel
theorem dX5_init_41 : decode cX5_init 41 = .ok (.dup, 1) := by decide +kernel
theorem dX5_init_42 : decode cX5_init 42 = .ok (.aload_n 0, 1) := by decide +kernel
theorem dX5_init_43 : decode cX5_init 43 = .ok (.getfield 10, 3) := by decide +kernel
theorem dX5_init_46 : decode cX5_init 46 = .ok (.invokespecial 32, 3) := by decide +kernel
theorem dX5_init_49 : decode cX5_init 49 = .ok (.putfield 35, 3) := by decide +kernel
theorem dX5_init_52 : decode cX5_init 52 = .ok (.aload_n 0, 1) := by decide +kernel
theorem dX5_init_53 : decode cX5_init 53 = .ok (.new 39, 3) := by decide +kernel
theorem dX5_init_56 : decode cX5_init 56 = .ok (.dup, 1) := by decide +kernel
theorem dX5_init_57 : decode cX5_init 57 = .ok (.invokespecial 41, 3) := by decide +kernel
theorem dX5_init_60 : decode cX5_init 60 = .ok (.putfield 42, 3) := by decide +kernel
theorem dX5_init_63 : decode cX5_init 63 = .ok (.return_, 1) := by decide +kernel
theorem dX5_begins_0 : decode cX5_begins 0 = .ok (.iload_n 1, 1) := by decide +kernel
theorem dX5_begins_1 : decode cX5_begins 1 = .ok (.invokestatic 46, 3) := by decide +kernel
theorem dX5_begins_4 : decode cX5_begins 4 = .ok (.ifCond .ne 8, 3) := by decide +kernel
theorem dX5_begins_7 : decode cX5_begins 7 = .ok (.aload_n 0, 1) := by decide +kernel
theorem dX5_begins_8 : decode cX5_begins 8 = .ok (.invokevirtual 50, 3) := by decide +kernel
theorem dX5_begins_11 : decode cX5_begins 11 = .ok (.ireturn, 1) := by decide +kernel
theorem dX5_begins_12 : decode cX5_begins 12 = .ok (.aload_n 0, 1) := by decide +kernel
theorem dX5_begins_13 : decode cX5_begins 13 = .ok (.getfield 19, 3) := by decide +kernel
theorem dX5_begins_16 : decode cX5_begins 16 = .ok (.aload_n 0, 1) := by decide +kernel
theorem dX5_begins_17 : decode cX5_begins 17 = .ok (.getfield 10, 3) := by decide +kernel
theorem dX5_begins_20 : decode cX5_begins 20 = .ok (.invokevirtual 54, 3) := by decide +kernel
theorem dX5_begins_23 : decode cX5_begins 23 = .ok (.aload_n 0, 1) := by decide +kernel
theorem dX5_begins_24 : decode cX5_begins 24 = .ok (.getfield 10, 3) := by decide +kernel
theorem dX5_begins_27 : decode cX5_begins 27 = .ok (.iload_n 1, 1) := by decide +kernel
theorem dX5_begins_28 : decode cX5_begins 28 = .ok (.invokevirtual 57, 3) := by decide +kernel
theorem dX5_begins_31 : decode cX5_begins 31 = .ok (.ireturn, 1) := by decide +kernel
theorem dX5_feeds_0 : decode cX5_feeds 0 = .ok (.aload_n 0, 1) := by decide +kernel
theorem dX5_feeds_1 : decode cX5_feeds 1 = .ok (.getfield 10, 3) := by decide +kernel
theorem dX5_feeds_4 : decode cX5_feeds 4 = .ok (.iload_n 1, 1) := by decide +kernel
theorem dX5_feeds_5 : decode cX5_feeds 5 = .ok (.iload_n 2, 1) := by decide +kernel
theorem dX5_feeds_6 : decode cX5_feeds 6 = .ok (.invokevirtual 61, 3) := by decide +kernel
theorem dX5_feeds_9 : decode cX5_feeds 9 = .ok (.ifCond .ne 8, 3) := by decide +kernel
theorem dX5_feeds_12 : decode cX5_feeds 12 = .ok (.aload_n 0, 1) := by decide +kernel
theorem dX5_feeds_13 : decode cX5_feeds 13 = .ok (.invokevirtual 50, 3) := by decide +kernel
theorem dX5_feeds_16 : decode cX5_feeds 16 = .ok (.ireturn, 1) := by decide +kernel
theorem dX5_feeds_17 : decode cX5_feeds 17 = .ok (.aload_n 0, 1) := by decide +kernel
theorem dX5_feeds_18 : decode cX5_feeds 18 = .ok (.getfield 19, 3) := by decide +kernel
theorem dX5_feeds_21 : decode cX5_feeds 21 = .ok (.aload_n 0, 1) := by decide +kernel
theorem dX5_feeds_22 : decode cX5_feeds 22 = .ok (.getfield 10, 3) := by decide +kernel
theorem dX5_feeds_25 : decode cX5_feeds 25 = .ok (.invokevirtual 54, 3) := by decide +kernel
theorem dX5_feeds_28 : decode cX5_feeds 28 = .ok (.aload_n 0, 1) := by decide +kernel
theorem dX5_feeds_29 : decode cX5_feeds 29 = .ok (.getfield 10, 3) := by decide +kernel
theorem dX5_feeds_32 : decode cX5_feeds 32 = .ok (.iload_n 1, 1) := by decide +kernel
theorem dX5_feeds_33 : decode cX5_feeds 33 = .ok (.iload_n 2, 1) := by decide +kernel
theorem dX5_feeds_34 : decode cX5_feeds 34 = .ok (.invokevirtual 65, 3) := by decide +kernel
theorem dX5_feeds_37 : decode cX5_feeds 37 = .ok (.ireturn, 1) := by decide +kernel
theorem dX5_line_0 : decode cX5_line 0 = .ok (.aload_n 0, 1) := by decide +kernel
theorem dX5_line_1 : decode cX5_line 1 = .ok (.getfield 10, 3) := by decide +kernel
theorem dX5_line_4 : decode cX5_line 4 = .ok (.iload_n 1, 1) := by decide +kernel
theorem dX5_line_5 : decode cX5_line 5 = .ok (.iload_n 2, 1) := by decide +kernel
theorem dX5_line_6 : decode cX5_line 6 = .ok (.iload_n 3, 1) := by decide +kernel
theorem dX5_line_7 : decode cX5_line 7 = .ok (.iload 4, 2) := by decide +kernel
theorem dX5_line_9 : decode cX5_line 9 = .ok (.invokevirtual 69, 3) := by decide +kernel
theorem dX5_line_12 : decode cX5_line 12 = .ok (.ifCond .ne 8, 3) := by decide +kernel
theorem dX5_line_15 : decode cX5_line 15 = .ok (.aload_n 0, 1) := by decide +kernel
theorem dX5_line_16 : decode cX5_line 16 = .ok (.invokevirtual 50, 3) := by decide +kernel
theorem dX5_line_19 : decode cX5_line 19 = .ok (.ireturn, 1) := by decide +kernel
theorem dX5_line_20 : decode cX5_line 20 = .ok (.aload_n 0, 1) := by decide +kernel
theorem dX5_line_21 : decode cX5_line 21 = .ok (.getfield 10, 3) := by decide +kernel
theorem dX5_line_24 : decode cX5_line 24 = .ok (.invokevirtual 73, 3) := by decide +kernel
theorem dX5_line_27 : decode cX5_line 27 = .ok (.ifCond .eq 8, 3) := by decide +kernel
theorem dX5_line_30 : decode cX5_line 30 = .ok (.aload_n 0, 1) := by decide +kernel
theorem dX5_line_31 : decode cX5_line 31 = .ok (.invokevirtual 77, 3) := by decide +kernel
theorem dX5_line_34 : decode cX5_line 34 = .ok (.ireturn, 1) := by decide +kernel
theorem dX5_line_35 : decode cX5_line 35 = .ok (.aload_n 0, 1) := by decide +kernel
theorem dX5_line_36 : decode cX5_line 36 = .ok (.getfield 19, 3) := by decide +kernel
theorem dX5_line_39 : decode cX5_line 39 = .ok (.aload_n 0, 1) := by decide +kernel
theorem dX5_line_40 : decode cX5_line 40 = .ok (.getfield 10, 3) := by decide +kernel
theorem dX5_line_43 : decode cX5_line 43 = .ok (.invokevirtual 54, 3) := by decide +kernel
theorem dX5_line_46 : decode cX5_line 46 = .ok (.aload_n 0, 1) := by decide +kernel
theorem dX5_line_47 : decode cX5_line 47 = .ok (.getfield 10, 3) := by decide +kernel
theorem dX5_line_50 : decode cX5_line 50 = .ok (.iload_n 1, 1) := by decide +kernel
theorem dX5_line_51 : decode cX5_line 51 = .ok (.iload_n 2, 1) := by decide +kernel
theorem dX5_line_52 : decode cX5_line 52 = .ok (.iload_n 3, 1) := by decide +kernel
theorem dX5_line_53 : decode cX5_line 53 = .ok (.iload 4, 2) := by decide +kernel
theorem dX5_line_55 : decode cX5_line 55 = .ok (.invokevirtual 80, 3) := by decide +kernel
theorem dX5_line_58 : decode cX5_line 58 = .ok (.ireturn, 1) := by decide +kernel
theorem dX5_drops_0 : decode cX5_drops 0 = .ok (.aload_n 0, 1) := by decide +kernel
theorem dX5_drops_1 : decode cX5_drops 1 = .ok (.getfield 10, 3) := by decide +kernel
theorem dX5_drops_4 : decode cX5_drops 4 = .ok (.iload_n 1, 1) := by decide +kernel
theorem dX5_drops_5 : decode cX5_drops 5 = .ok (.invokevirtual 84, 3) := by decide +kernel
theorem dX5_drops_8 : decode cX5_drops 8 = .ok (.ifCond .ne 8, 3) := by decide +kernel
theorem dX5_drops_11 : decode cX5_drops 11 = .ok (.aload_n 0, 1) := by decide +kernel
theorem dX5_drops_12 : decode cX5_drops 12 = .ok (.invokevirtual 50, 3) := by decide +kernel
theorem dX5_drops_15 : decode cX5_drops 15 = .ok (.ireturn, 1) := by decide +kernel
theorem dX5_drops_16 : decode cX5_drops 16 = .ok (.aload_n 0, 1) := by decide +kernel
theorem dX5_drops_17 : decode cX5_drops 17 = .ok (.getfield 19, 3) := by decide +kernel
theorem dX5_drops_20 : decode cX5_drops 20 = .ok (.aload_n 0, 1) := by decide +kernel
theorem dX5_drops_21 : decode cX5_drops 21 = .ok (.getfield 10, 3) := by decide +kernel
theorem dX5_drops_24 : decode cX5_drops 24 = .ok (.invokevirtual 54, 3) := by decide +kernel
theorem dX5_drops_27 : decode cX5_drops 27 = .ok (.aload_n 0, 1) := by decide +kernel
theorem dX5_drops_28 : decode cX5_drops 28 = .ok (.getfield 10, 3) := by decide +kernel
theorem dX5_drops_31 : decode cX5_drops 31 = .ok (.iload_n 1, 1) := by decide +kernel
theorem dX5_drops_32 : decode cX5_drops 32 = .ok (.invokevirtual 87, 3) := by decide +kernel
theorem dX5_drops_35 : decode cX5_drops 35 = .ok (.ireturn, 1) := by decide +kernel
theorem dX5_switches_0 : decode cX5_switches 0 = .ok (.aload_n 0, 1) := by decide +kernel
theorem dX5_switches_1 : decode cX5_switches 1 = .ok (.getfield 10, 3) := by decide +kernel
theorem dX5_switches_4 : decode cX5_switches 4 = .ok (.iload_n 1, 1) := by decide +kernel
theorem dX5_switches_5 : decode cX5_switches 5 = .ok (.invokevirtual 84, 3) := by decide +kernel
theorem dX5_switches_8 : decode cX5_switches 8 = .ok (.ifCond .eq 10, 3) := by decide +kernel
theorem dX5_switches_11 : decode cX5_switches 11 = .ok (.iload_n 2, 1) := by decide +kernel
theorem dX5_switches_12 : decode cX5_switches 12 = .ok (.invokestatic 90, 3) := by decide +kernel
theorem dX5_switches_15 : decode cX5_switches 15 = .ok (.ifCond .ne 8, 3) := by decide +kernel
theorem dX5_switches_18 : decode cX5_switches 18 = .ok (.aload_n 0, 1) := by decide +kernel
theorem dX5_switches_19 : decode cX5_switches 19 = .ok (.invokevirtual 50, 3) := by decide +kernel
theorem dX5_switches_22 : decode cX5_switches 22 = .ok (.ireturn, 1) := by decide +kernel
theorem dX5_switches_23 : decode cX5_switches 23 = .ok (.aload_n 0, 1) := by decide +kernel
theorem dX5_switches_24 : decode cX5_switches 24 = .ok (.getfield 19, 3) := by decide +kernel
theorem dX5_switches_27 : decode cX5_switches 27 = .ok (.aload_n 0, 1) := by decide +kernel
theorem dX5_switches_28 : decode cX5_switches 28 = .ok (.getfield 10, 3) := by decide +kernel
theorem dX5_switches_31 : decode cX5_switches 31 = .ok (.invokevirtual 54, 3) := by decide +kernel
theorem dX5_switches_34 : decode cX5_switches 34 = .ok (.aload_n 0, 1) := by decide +kernel
theorem dX5_switches_35 : decode cX5_switches 35 = .ok (.getfield 10, 3) := by decide +kernel
theorem dX5_switches_38 : decode cX5_switches 38 = .ok (.iload_n 1, 1) := by decide +kernel
theorem dX5_switches_39 : decode cX5_switches 39 = .ok (.iload_n 2, 1) := by decide +kernel
theorem dX5_switches_40 : decode cX5_switches 40 = .ok (.iconst 1, 1) := by decide +kernel
theorem dX5_switches_41 : decode cX5_switches 41 = .ok (.if_icmp .ne 7, 3) := by decide +kernel
theorem dX5_switches_44 : decode cX5_switches 44 = .ok (.iconst 1, 1) := by decide +kernel
theorem dX5_switches_45 : decode cX5_switches 45 = .ok (.goto 4, 3) := by decide +kernel
theorem dX5_switches_48 : decode cX5_switches 48 = .ok (.iconst 0, 1) := by decide +kernel
theorem dX5_switches_49 : decode cX5_switches 49 = .ok (.invokevirtual 93, 3) := by decide +kernel
theorem dX5_switches_52 : decode cX5_switches 52 = .ok (.ireturn, 1) := by decide +kernel
theorem dX5_sets_0 : decode cX5_sets 0 = .ok (.iload_n 2, 1) := by decide +kernel
theorem dX5_sets_1 : decode cX5_sets 1 = .ok (.invokestatic 90, 3) := by decide +kernel
theorem dX5_sets_4 : decode cX5_sets 4 = .ok (.ifCond .ne 8, 3) := by decide +kernel
theorem dX5_sets_7 : decode cX5_sets 7 = .ok (.aload_n 0, 1) := by decide +kernel
theorem dX5_sets_8 : decode cX5_sets 8 = .ok (.invokevirtual 50, 3) := by decide +kernel
theorem dX5_sets_11 : decode cX5_sets 11 = .ok (.ireturn, 1) := by decide +kernel
theorem dX5_sets_12 : decode cX5_sets 12 = .ok (.iload_n 2, 1) := by decide +kernel
theorem dX5_sets_13 : decode cX5_sets 13 = .ok (.ifCond .ne 41, 3) := by decide +kernel
theorem dX5_sets_16 : decode cX5_sets 16 = .ok (.aload_n 0, 1) := by decide +kernel
theorem dX5_sets_17 : decode cX5_sets 17 = .ok (.getfield 10, 3) := by decide +kernel
theorem dX5_sets_20 : decode cX5_sets 20 = .ok (.iload_n 1, 1) := by decide +kernel
theorem dX5_sets_21 : decode cX5_sets 21 = .ok (.iload_n 3, 1) := by decide +kernel
theorem dX5_sets_22 : decode cX5_sets 22 = .ok (.invokevirtual 97, 3) := by decide +kernel
theorem dX5_sets_25 : decode cX5_sets 25 = .ok (.ifCond .ne 8, 3) := by decide +kernel
theorem dX5_sets_28 : decode cX5_sets 28 = .ok (.aload_n 0, 1) := by decide +kernel
theorem dX5_sets_29 : decode cX5_sets 29 = .ok (.invokevirtual 50, 3) := by decide +kernel
theorem dX5_sets_32 : decode cX5_sets 32 = .ok (.ireturn, 1) := by decide +kernel
theorem dX5_sets_33 : decode cX5_sets 33 = .ok (.aload_n 0, 1) := by decide +kernel
theorem dX5_sets_34 : decode cX5_sets 34 = .ok (.getfield 19, 3) := by decide +kernel
theorem dX5_sets_37 : decode cX5_sets 37 = .ok (.aload_n 0, 1) := by decide +kernel
theorem dX5_sets_38 : decode cX5_sets 38 = .ok (.getfield 10, 3) := by decide +kernel
theorem dX5_sets_41 : decode cX5_sets 41 = .ok (.invokevirtual 54, 3) := by decide +kernel
theorem dX5_sets_44 : decode cX5_sets 44 = .ok (.aload_n 0, 1) := by decide +kernel
theorem dX5_sets_45 : decode cX5_sets 45 = .ok (.getfield 10, 3) := by decide +kernel
theorem dX5_sets_48 : decode cX5_sets 48 = .ok (.iload_n 1, 1) := by decide +kernel
theorem dX5_sets_49 : decode cX5_sets 49 = .ok (.iload_n 3, 1) := by decide +kernel
theorem dX5_sets_50 : decode cX5_sets 50 = .ok (.invokevirtual 100, 3) := by decide +kernel
theorem dX5_sets_53 : decode cX5_sets 53 = .ok (.ireturn, 1) := by decide +kernel
theorem dX5_sets_54 : decode cX5_sets 54 = .ok (.aload_n 0, 1) := by decide +kernel
theorem dX5_sets_55 : decode cX5_sets 55 = .ok (.getfield 10, 3) := by decide +kernel
theorem dX5_sets_58 : decode cX5_sets 58 = .ok (.iload_n 1, 1) := by decide +kernel
theorem dX5_sets_59 : decode cX5_sets 59 = .ok (.iload_n 3, 1) := by decide +kernel
theorem dX5_sets_60 : decode cX5_sets 60 = .ok (.invokevirtual 103, 3) := by decide +kernel
theorem dX5_sets_63 : decode cX5_sets 63 = .ok (.ifCond .ne 8, 3) := by decide +kernel
theorem dX5_sets_66 : decode cX5_sets 66 = .ok (.aload_n 0, 1) := by decide +kernel
theorem dX5_sets_67 : decode cX5_sets 67 = .ok (.invokevirtual 50, 3) := by decide +kernel
theorem dX5_sets_70 : decode cX5_sets 70 = .ok (.ireturn, 1) := by decide +kernel
theorem dX5_sets_71 : decode cX5_sets 71 = .ok (.aload_n 0, 1) := by decide +kernel
theorem dX5_sets_72 : decode cX5_sets 72 = .ok (.getfield 19, 3) := by decide +kernel
theorem dX5_sets_75 : decode cX5_sets 75 = .ok (.aload_n 0, 1) := by decide +kernel
theorem dX5_sets_76 : decode cX5_sets 76 = .ok (.getfield 10, 3) := by decide +kernel
theorem dX5_sets_79 : decode cX5_sets 79 = .ok (.invokevirtual 54, 3) := by decide +kernel
theorem dX5_sets_82 : decode cX5_sets 82 = .ok (.aload_n 0, 1) := by decide +kernel
theorem dX5_sets_83 : decode cX5_sets 83 = .ok (.getfield 10, 3) := by decide +kernel
theorem dX5_sets_86 : decode cX5_sets 86 = .ok (.iload_n 1, 1) := by decide +kernel
theorem dX5_sets_87 : decode cX5_sets 87 = .ok (.iload_n 3, 1) := by decide +kernel
theorem dX5_sets_88 : decode cX5_sets 88 = .ok (.invokevirtual 106, 3) := by decide +kernel
theorem dX5_sets_91 : decode cX5_sets 91 = .ok (.ireturn, 1) := by decide +kernel
theorem dX5_of_0 : decode cX5_of 0 = .ok (.aload_n 0, 1) := by decide +kernel
theorem dX5_of_1 : decode cX5_of 1 = .ok (.getfield 10, 3) := by decide +kernel
theorem dX5_of_4 : decode cX5_of 4 = .ok (.iload_n 1, 1) := by decide +kernel
theorem dX5_of_5 : decode cX5_of 5 = .ok (.invokevirtual 84, 3) := by decide +kernel
theorem dX5_of_8 : decode cX5_of 8 = .ok (.ifCond .eq 12, 3) := by decide +kernel
theorem dX5_of_11 : decode cX5_of 11 = .ok (.iload_n 2, 1) := by decide +kernel
theorem dX5_of_12 : decode cX5_of 12 = .ok (.iconst 0, 1) := by decide +kernel
theorem dX5_of_13 : decode cX5_of 13 = .ok (.iconst 5, 1) := by decide +kernel
theorem dX5_of_14 : decode cX5_of 14 = .ok (.invokestatic 109, 3) := by decide +kernel
theorem dX5_of_17 : decode cX5_of 17 = .ok (.ifCond .ne 8, 3) := by decide +kernel
theorem dX5_of_20 : decode cX5_of 20 = .ok (.aload_n 0, 1) := by decide +kernel
theorem dX5_of_21 : decode cX5_of 21 = .ok (.invokevirtual 50, 3) := by decide +kernel
theorem dX5_of_24 : decode cX5_of 24 = .ok (.ireturn, 1) := by decide +kernel
theorem dX5_of_25 : decode cX5_of 25 = .ok (.iload_n 2, 1) := by decide +kernel
theorem dX5_of_26 : decode cX5_of 26 = .ok (.tableswitch 92 0 4 #[34, 44, 54, 64, 74], 34) := by decide +kernel
theorem dX5_of_60 : decode cX5_of 60 = .ok (.aload_n 0, 1) := by decide +kernel
theorem dX5_of_61 : decode cX5_of 61 = .ok (.getfield 10, 3) := by decide +kernel
theorem dX5_of_64 : decode cX5_of 64 = .ok (.getfield 113, 3) := by decide +kernel
theorem dX5_of_67 : decode cX5_of 67 = .ok (.iload_n 1, 1) := by decide +kernel
theorem dX5_of_68 : decode cX5_of 68 = .ok (.iaload, 1) := by decide +kernel
theorem dX5_of_69 : decode cX5_of 69 = .ok (.ireturn, 1) := by decide +kernel
theorem dX5_of_70 : decode cX5_of 70 = .ok (.aload_n 0, 1) := by decide +kernel
theorem dX5_of_71 : decode cX5_of 71 = .ok (.getfield 10, 3) := by decide +kernel
theorem dX5_of_74 : decode cX5_of 74 = .ok (.getfield 117, 3) := by decide +kernel
theorem dX5_of_77 : decode cX5_of 77 = .ok (.iload_n 1, 1) := by decide +kernel
theorem dX5_of_78 : decode cX5_of 78 = .ok (.iaload, 1) := by decide +kernel
theorem dX5_of_79 : decode cX5_of 79 = .ok (.ireturn, 1) := by decide +kernel
theorem dX5_of_80 : decode cX5_of 80 = .ok (.aload_n 0, 1) := by decide +kernel
theorem dX5_of_81 : decode cX5_of 81 = .ok (.getfield 10, 3) := by decide +kernel
theorem dX5_of_84 : decode cX5_of 84 = .ok (.getfield 120, 3) := by decide +kernel
theorem dX5_of_87 : decode cX5_of 87 = .ok (.iload_n 1, 1) := by decide +kernel
theorem dX5_of_88 : decode cX5_of 88 = .ok (.iaload, 1) := by decide +kernel
theorem dX5_of_89 : decode cX5_of 89 = .ok (.ireturn, 1) := by decide +kernel
theorem dX5_of_90 : decode cX5_of 90 = .ok (.aload_n 0, 1) := by decide +kernel
theorem dX5_of_91 : decode cX5_of 91 = .ok (.getfield 10, 3) := by decide +kernel
theorem dX5_of_94 : decode cX5_of 94 = .ok (.getfield 123, 3) := by decide +kernel
theorem dX5_of_97 : decode cX5_of 97 = .ok (.iload_n 1, 1) := by decide +kernel
theorem dX5_of_98 : decode cX5_of 98 = .ok (.iaload, 1) := by decide +kernel
theorem dX5_of_99 : decode cX5_of 99 = .ok (.ireturn, 1) := by decide +kernel
theorem dX5_of_100 : decode cX5_of 100 = .ok (.aload_n 0, 1) := by decide +kernel
theorem dX5_of_101 : decode cX5_of 101 = .ok (.getfield 10, 3) := by decide +kernel
theorem dX5_of_104 : decode cX5_of 104 = .ok (.getfield 126, 3) := by decide +kernel
theorem dX5_of_107 : decode cX5_of 107 = .ok (.iload_n 1, 1) := by decide +kernel
theorem dX5_of_108 : decode cX5_of 108 = .ok (.baload, 1) := by decide +kernel
theorem dX5_of_109 : decode cX5_of 109 = .ok (.ifCond .eq 7, 3) := by decide +kernel
theorem dX5_of_112 : decode cX5_of 112 = .ok (.iconst 1, 1) := by decide +kernel
theorem dX5_of_113 : decode cX5_of 113 = .ok (.goto 4, 3) := by decide +kernel
theorem dX5_of_116 : decode cX5_of 116 = .ok (.iconst 0, 1) := by decide +kernel
theorem dX5_of_117 : decode cX5_of 117 = .ok (.ireturn, 1) := by decide +kernel
theorem dX5_of_118 : decode cX5_of 118 = .ok (.aload_n 0, 1) := by decide +kernel
theorem dX5_of_119 : decode cX5_of 119 = .ok (.iload_n 1, 1) := by decide +kernel
theorem dX5_of_120 : decode cX5_of 120 = .ok (.invokevirtual 130, 3) := by decide +kernel
theorem dX5_of_123 : decode cX5_of 123 = .ok (.ifCond .eq 7, 3) := by decide +kernel
theorem dX5_of_126 : decode cX5_of 126 = .ok (.iconst 1, 1) := by decide +kernel
theorem dX5_of_127 : decode cX5_of 127 = .ok (.goto 4, 3) := by decide +kernel
theorem dX5_of_130 : decode cX5_of 130 = .ok (.iconst 0, 1) := by decide +kernel
theorem dX5_of_131 : decode cX5_of 131 = .ok (.ireturn, 1) := by decide +kernel
theorem dX5_flow_0 : decode cX5_flow 0 = .ok (.aload_n 0, 1) := by decide +kernel
theorem dX5_flow_1 : decode cX5_flow 1 = .ok (.getfield 10, 3) := by decide +kernel
theorem dX5_flow_4 : decode cX5_flow 4 = .ok (.iload_n 1, 1) := by decide +kernel
theorem dX5_flow_5 : decode cX5_flow 5 = .ok (.invokevirtual 84, 3) := by decide +kernel
theorem dX5_flow_8 : decode cX5_flow 8 = .ok (.ifCond .eq 10, 3) := by decide +kernel
theorem dX5_flow_11 : decode cX5_flow 11 = .ok (.iload_n 2, 1) := by decide +kernel
theorem dX5_flow_12 : decode cX5_flow 12 = .ok (.invokestatic 90, 3) := by decide +kernel
theorem dX5_flow_15 : decode cX5_flow 15 = .ok (.ifCond .ne 9, 3) := by decide +kernel
theorem dX5_flow_18 : decode cX5_flow 18 = .ok (.aload_n 0, 1) := by decide +kernel
theorem dX5_flow_19 : decode cX5_flow 19 = .ok (.invokevirtual 50, 3) := by decide +kernel
theorem dX5_flow_22 : decode cX5_flow 22 = .ok (.i2l, 1) := by decide +kernel
theorem dX5_flow_23 : decode cX5_flow 23 = .ok (.lreturn, 1) := by decide +kernel
theorem dX5_flow_24 : decode cX5_flow 24 = .ok (.aload_n 0, 1) := by decide +kernel
theorem dX5_flow_25 : decode cX5_flow 25 = .ok (.getfield 35, 3) := by decide +kernel
theorem dX5_flow_28 : decode cX5_flow 28 = .ok (.iconst (-1), 1) := by decide +kernel
theorem dX5_flow_29 : decode cX5_flow 29 = .ok (.iconst (-1), 1) := by decide +kernel
theorem dX5_flow_30 : decode cX5_flow 30 = .ok (.invokevirtual 133, 3) := by decide +kernel
theorem dX5_flow_33 : decode cX5_flow 33 = .ok (.aload_n 0, 1) := by decide +kernel
theorem dX5_flow_34 : decode cX5_flow 34 = .ok (.getfield 35, 3) := by decide +kernel
theorem dX5_flow_37 : decode cX5_flow 37 = .ok (.iconst (-1), 1) := by decide +kernel
theorem dX5_flow_38 : decode cX5_flow 38 = .ok (.iconst (-1), 1) := by decide +kernel
theorem dX5_flow_39 : decode cX5_flow 39 = .ok (.invokevirtual 137, 3) := by decide +kernel
theorem dX5_flow_42 : decode cX5_flow 42 = .ok (.aload_n 0, 1) := by decide +kernel
theorem dX5_flow_43 : decode cX5_flow 43 = .ok (.getfield 35, 3) := by decide +kernel
theorem dX5_flow_46 : decode cX5_flow 46 = .ok (.getfield 140, 3) := by decide +kernel
theorem dX5_flow_49 : decode cX5_flow 49 = .ok (.iload_n 1, 1) := by decide +kernel
theorem dX5_flow_50 : decode cX5_flow 50 = .ok (.laload, 1) := by decide +kernel
theorem dX5_flow_51 : decode cX5_flow 51 = .ok (.aload_n 0, 1) := by decide +kernel
theorem dX5_flow_52 : decode cX5_flow 52 = .ok (.getfield 35, 3) := by decide +kernel
theorem dX5_flow_55 : decode cX5_flow 55 = .ok (.getfield 144, 3) := by decide +kernel
theorem dX5_flow_58 : decode cX5_flow 58 = .ok (.iload_n 2, 1) := by decide +kernel
theorem dX5_flow_59 : decode cX5_flow 59 = .ok (.invokestatic 148, 3) := by decide +kernel
theorem dX5_flow_62 : decode cX5_flow 62 = .ok (.lreturn, 1) := by decide +kernel
theorem dX5_angle_0 : decode cX5_angle 0 = .ok (.aload_n 0, 1) := by decide +kernel
theorem dX5_angle_1 : decode cX5_angle 1 = .ok (.getfield 10, 3) := by decide +kernel
theorem dX5_angle_4 : decode cX5_angle 4 = .ok (.iload_n 1, 1) := by decide +kernel
theorem dX5_angle_5 : decode cX5_angle 5 = .ok (.invokevirtual 152, 3) := by decide +kernel
theorem dX5_angle_8 : decode cX5_angle 8 = .ok (.ifCond .eq 10, 3) := by decide +kernel
theorem dX5_angle_11 : decode cX5_angle 11 = .ok (.iload_n 2, 1) := by decide +kernel
theorem dX5_angle_12 : decode cX5_angle 12 = .ok (.invokestatic 90, 3) := by decide +kernel
theorem dX5_angle_15 : decode cX5_angle 15 = .ok (.ifCond .ne 9, 3) := by decide +kernel
theorem dX5_angle_18 : decode cX5_angle 18 = .ok (.aload_n 0, 1) := by decide +kernel
theorem dX5_angle_19 : decode cX5_angle 19 = .ok (.invokevirtual 50, 3) := by decide +kernel
theorem dX5_angle_22 : decode cX5_angle 22 = .ok (.i2l, 1) := by decide +kernel
theorem dX5_angle_23 : decode cX5_angle 23 = .ok (.lreturn, 1) := by decide +kernel
theorem dX5_angle_24 : decode cX5_angle 24 = .ok (.aload_n 0, 1) := by decide +kernel
theorem dX5_angle_25 : decode cX5_angle 25 = .ok (.getfield 35, 3) := by decide +kernel
theorem dX5_angle_28 : decode cX5_angle 28 = .ok (.iconst (-1), 1) := by decide +kernel
theorem dX5_angle_29 : decode cX5_angle 29 = .ok (.iconst (-1), 1) := by decide +kernel
theorem dX5_angle_30 : decode cX5_angle 30 = .ok (.invokevirtual 133, 3) := by decide +kernel
theorem dX5_angle_33 : decode cX5_angle 33 = .ok (.aload_n 0, 1) := by decide +kernel
theorem dX5_angle_34 : decode cX5_angle 34 = .ok (.getfield 35, 3) := by decide +kernel
theorem dX5_angle_37 : decode cX5_angle 37 = .ok (.iconst (-1), 1) := by decide +kernel
theorem dX5_angle_38 : decode cX5_angle 38 = .ok (.iconst (-1), 1) := by decide +kernel
theorem dX5_angle_39 : decode cX5_angle 39 = .ok (.invokevirtual 137, 3) := by decide +kernel
theorem dX5_angle_42 : decode cX5_angle 42 = .ok (.aload_n 0, 1) := by decide +kernel
theorem dX5_angle_43 : decode cX5_angle 43 = .ok (.getfield 35, 3) := by decide +kernel
theorem dX5_angle_46 : decode cX5_angle 46 = .ok (.getfield 155, 3) := by decide +kernel
theorem dX5_angle_49 : decode cX5_angle 49 = .ok (.iload_n 1, 1) := by decide +kernel
theorem dX5_angle_50 : decode cX5_angle 50 = .ok (.laload, 1) := by decide +kernel
theorem dX5_angle_51 : decode cX5_angle 51 = .ok (.aload_n 0, 1) := by decide +kernel
theorem dX5_angle_52 : decode cX5_angle 52 = .ok (.getfield 35, 3) := by decide +kernel
theorem dX5_angle_55 : decode cX5_angle 55 = .ok (.getfield 144, 3) := by decide +kernel
theorem dX5_angle_58 : decode cX5_angle 58 = .ok (.iload_n 2, 1) := by decide +kernel
theorem dX5_angle_59 : decode cX5_angle 59 = .ok (.invokestatic 148, 3) := by decide +kernel
theorem dX5_angle_62 : decode cX5_angle 62 = .ok (.lreturn, 1) := by decide +kernel
theorem dX5_factor_0 : decode cX5_factor 0 = .ok (.aload_n 0, 1) := by decide +kernel
theorem dX5_factor_1 : decode cX5_factor 1 = .ok (.getfield 10, 3) := by decide +kernel
theorem dX5_factor_4 : decode cX5_factor 4 = .ok (.iload_n 1, 1) := by decide +kernel
theorem dX5_factor_5 : decode cX5_factor 5 = .ok (.invokevirtual 84, 3) := by decide +kernel
theorem dX5_factor_8 : decode cX5_factor 8 = .ok (.ifCond .eq 21, 3) := by decide +kernel
theorem dX5_factor_11 : decode cX5_factor 11 = .ok (.aload_n 0, 1) := by decide +kernel
theorem dX5_factor_12 : decode cX5_factor 12 = .ok (.getfield 10, 3) := by decide +kernel
theorem dX5_factor_15 : decode cX5_factor 15 = .ok (.iload_n 2, 1) := by decide +kernel
theorem dX5_factor_16 : decode cX5_factor 16 = .ok (.invokevirtual 152, 3) := by decide +kernel
theorem dX5_factor_19 : decode cX5_factor 19 = .ok (.ifCond .eq 10, 3) := by decide +kernel
theorem dX5_factor_22 : decode cX5_factor 22 = .ok (.iload_n 3, 1) := by decide +kernel
theorem dX5_factor_23 : decode cX5_factor 23 = .ok (.invokestatic 90, 3) := by decide +kernel
theorem dX5_factor_26 : decode cX5_factor 26 = .ok (.ifCond .ne 9, 3) := by decide +kernel
theorem dX5_factor_29 : decode cX5_factor 29 = .ok (.aload_n 0, 1) := by decide +kernel
theorem dX5_factor_30 : decode cX5_factor 30 = .ok (.invokevirtual 50, 3) := by decide +kernel
theorem dX5_factor_33 : decode cX5_factor 33 = .ok (.i2l, 1) := by decide +kernel
theorem dX5_factor_34 : decode cX5_factor 34 = .ok (.lreturn, 1) := by decide +kernel
theorem dX5_factor_35 : decode cX5_factor 35 = .ok (.aload_n 0, 1) := by decide +kernel
theorem dX5_factor_36 : decode cX5_factor 36 = .ok (.getfield 35, 3) := by decide +kernel
theorem dX5_factor_39 : decode cX5_factor 39 = .ok (.iconst (-1), 1) := by decide +kernel
theorem dX5_factor_40 : decode cX5_factor 40 = .ok (.iconst (-1), 1) := by decide +kernel
theorem dX5_factor_41 : decode cX5_factor 41 = .ok (.invokevirtual 133, 3) := by decide +kernel
theorem dX5_factor_44 : decode cX5_factor 44 = .ok (.aload_n 0, 1) := by decide +kernel
theorem dX5_factor_45 : decode cX5_factor 45 = .ok (.getfield 35, 3) := by decide +kernel
theorem dX5_factor_48 : decode cX5_factor 48 = .ok (.iload_n 2, 1) := by decide +kernel
theorem dX5_factor_49 : decode cX5_factor 49 = .ok (.iconst (-1), 1) := by decide +kernel
theorem dX5_factor_50 : decode cX5_factor 50 = .ok (.invokevirtual 137, 3) := by decide +kernel
theorem dX5_factor_53 : decode cX5_factor 53 = .ok (.aload_n 0, 1) := by decide +kernel
theorem dX5_factor_54 : decode cX5_factor 54 = .ok (.getfield 35, 3) := by decide +kernel
theorem dX5_factor_57 : decode cX5_factor 57 = .ok (.getfield 158, 3) := by decide +kernel
theorem dX5_factor_60 : decode cX5_factor 60 = .ok (.iload_n 1, 1) := by decide +kernel
theorem dX5_factor_61 : decode cX5_factor 61 = .ok (.laload, 1) := by decide +kernel
theorem dX5_factor_62 : decode cX5_factor 62 = .ok (.aload_n 0, 1) := by decide +kernel
theorem dX5_factor_63 : decode cX5_factor 63 = .ok (.getfield 35, 3) := by decide +kernel
theorem dX5_factor_66 : decode cX5_factor 66 = .ok (.getfield 144, 3) := by decide +kernel
theorem dX5_factor_69 : decode cX5_factor 69 = .ok (.iload_n 3, 1) := by decide +kernel
theorem dX5_factor_70 : decode cX5_factor 70 = .ok (.invokestatic 148, 3) := by decide +kernel
theorem dX5_factor_73 : decode cX5_factor 73 = .ok (.lreturn, 1) := by decide +kernel
theorem dX5_island_0 : decode cX5_island 0 = .ok (.aload_n 0, 1) := by decide +kernel
theorem dX5_island_1 : decode cX5_island 1 = .ok (.getfield 10, 3) := by decide +kernel
theorem dX5_island_4 : decode cX5_island 4 = .ok (.iload_n 1, 1) := by decide +kernel
theorem dX5_island_5 : decode cX5_island 5 = .ok (.invokevirtual 152, 3) := by decide +kernel
theorem dX5_island_8 : decode cX5_island 8 = .ok (.ifCond .ne 8, 3) := by decide +kernel
theorem dX5_island_11 : decode cX5_island 11 = .ok (.aload_n 0, 1) := by decide +kernel
theorem dX5_island_12 : decode cX5_island 12 = .ok (.invokevirtual 50, 3) := by decide +kernel
theorem dX5_island_15 : decode cX5_island 15 = .ok (.ireturn, 1) := by decide +kernel
theorem dX5_island_16 : decode cX5_island 16 = .ok (.aload_n 0, 1) := by decide +kernel
theorem dX5_island_17 : decode cX5_island 17 = .ok (.getfield 35, 3) := by decide +kernel
theorem dX5_island_20 : decode cX5_island 20 = .ok (.iconst (-1), 1) := by decide +kernel
theorem dX5_island_21 : decode cX5_island 21 = .ok (.iconst (-1), 1) := by decide +kernel
theorem dX5_island_22 : decode cX5_island 22 = .ok (.invokevirtual 133, 3) := by decide +kernel
theorem dX5_island_25 : decode cX5_island 25 = .ok (.aload_n 0, 1) := by decide +kernel
theorem dX5_island_26 : decode cX5_island 26 = .ok (.getfield 35, 3) := by decide +kernel
theorem dX5_island_29 : decode cX5_island 29 = .ok (.getfield 161, 3) := by decide +kernel
theorem dX5_island_32 : decode cX5_island 32 = .ok (.iload_n 1, 1) := by decide +kernel
theorem dX5_island_33 : decode cX5_island 33 = .ok (.iaload, 1) := by decide +kernel
theorem dX5_island_34 : decode cX5_island 34 = .ok (.ireturn, 1) := by decide +kernel
theorem dX5_trees_0 : decode cX5_trees 0 = .ok (.aload_n 0, 1) := by decide +kernel
theorem dX5_trees_1 : decode cX5_trees 1 = .ok (.getfield 10, 3) := by decide +kernel
theorem dX5_trees_4 : decode cX5_trees 4 = .ok (.iload_n 1, 1) := by decide +kernel
theorem dX5_trees_5 : decode cX5_trees 5 = .ok (.invokevirtual 152, 3) := by decide +kernel
theorem dX5_trees_8 : decode cX5_trees 8 = .ok (.ifCond .ne 9, 3) := by decide +kernel
theorem dX5_trees_11 : decode cX5_trees 11 = .ok (.aload_n 0, 1) := by decide +kernel
theorem dX5_trees_12 : decode cX5_trees 12 = .ok (.invokevirtual 50, 3) := by decide +kernel
theorem dX5_trees_15 : decode cX5_trees 15 = .ok (.i2l, 1) := by decide +kernel
theorem dX5_trees_16 : decode cX5_trees 16 = .ok (.lreturn, 1) := by decide +kernel
theorem dX5_trees_17 : decode cX5_trees 17 = .ok (.aload_n 0, 1) := by decide +kernel
theorem dX5_trees_18 : decode cX5_trees 18 = .ok (.getfield 35, 3) := by decide +kernel
theorem dX5_trees_21 : decode cX5_trees 21 = .ok (.iconst (-1), 1) := by decide +kernel
theorem dX5_trees_22 : decode cX5_trees 22 = .ok (.iconst (-1), 1) := by decide +kernel
theorem dX5_trees_23 : decode cX5_trees 23 = .ok (.invokevirtual 133, 3) := by decide +kernel
theorem dX5_trees_26 : decode cX5_trees 26 = .ok (.aload_n 0, 1) := by decide +kernel
theorem dX5_trees_27 : decode cX5_trees 27 = .ok (.getfield 35, 3) := by decide +kernel
theorem dX5_trees_30 : decode cX5_trees 30 = .ok (.iload_n 1, 1) := by decide +kernel
theorem dX5_trees_31 : decode cX5_trees 31 = .ok (.invokevirtual 164, 3) := by decide +kernel
theorem dX5_trees_34 : decode cX5_trees 34 = .ok (.aload_n 0, 1) := by decide +kernel
theorem dX5_trees_35 : decode cX5_trees 35 = .ok (.getfield 35, 3) := by decide +kernel
theorem dX5_trees_38 : decode cX5_trees 38 = .ok (.iconst (-1), 1) := by decide +kernel
theorem dX5_trees_39 : decode cX5_trees 39 = .ok (.iconst (-1), 1) := by decide +kernel
theorem dX5_trees_40 : decode cX5_trees 40 = .ok (.invokevirtual 137, 3) := by decide +kernel
theorem dX5_trees_43 : decode cX5_trees 43 = .ok (.aload_n 0, 1) := by decide +kernel
theorem dX5_trees_44 : decode cX5_trees 44 = .ok (.getfield 35, 3) := by decide +kernel
theorem dX5_trees_47 : decode cX5_trees 47 = .ok (.getfield 144, 3) := by decide +kernel
theorem dX5_trees_50 : decode cX5_trees 50 = .ok (.lreturn, 1) := by decide +kernel
theorem dX5_fed_0 : decode cX5_fed 0 = .ok (.aload_n 0, 1) := by decide +kernel
theorem dX5_fed_1 : decode cX5_fed 1 = .ok (.getfield 10, 3) := by decide +kernel
theorem dX5_fed_4 : decode cX5_fed 4 = .ok (.iload_n 1, 1) := by decide +kernel
theorem dX5_fed_5 : decode cX5_fed 5 = .ok (.invokevirtual 152, 3) := by decide +kernel
theorem dX5_fed_8 : decode cX5_fed 8 = .ok (.ifCond .ne 11, 3) := by decide +kernel
theorem dX5_fed_11 : decode cX5_fed 11 = .ok (.aload_n 0, 1) := by decide +kernel
theorem dX5_fed_12 : decode cX5_fed 12 = .ok (.invokevirtual 50, 3) := by decide +kernel
theorem dX5_fed_15 : decode cX5_fed 15 = .ok (.pop, 1) := by decide +kernel
theorem dX5_fed_16 : decode cX5_fed 16 = .ok (.ldc 168, 2) := by decide +kernel
theorem dX5_fed_18 : decode cX5_fed 18 = .ok (.ireturn, 1) := by decide +kernel
theorem dX5_fed_19 : decode cX5_fed 19 = .ok (.aload_n 0, 1) := by decide +kernel
theorem dX5_fed_20 : decode cX5_fed 20 = .ok (.getfield 35, 3) := by decide +kernel
theorem dX5_fed_23 : decode cX5_fed 23 = .ok (.iconst (-1), 1) := by decide +kernel
theorem dX5_fed_24 : decode cX5_fed 24 = .ok (.iconst (-1), 1) := by decide +kernel
theorem dX5_fed_25 : decode cX5_fed 25 = .ok (.invokevirtual 133, 3) := by decide +kernel
theorem dX5_fed_28 : decode cX5_fed 28 = .ok (.aload_n 0, 1) := by decide +kernel
theorem dX5_fed_29 : decode cX5_fed 29 = .ok (.getfield 35, 3) := by decide +kernel
theorem dX5_fed_32 : decode cX5_fed 32 = .ok (.getfield 161, 3) := by decide +kernel
theorem dX5_fed_35 : decode cX5_fed 35 = .ok (.iload_n 1, 1) := by decide +kernel
theorem dX5_fed_36 : decode cX5_fed 36 = .ok (.iaload, 1) := by decide +kernel
theorem dX5_fed_37 : decode cX5_fed 37 = .ok (.iload_n 1, 1) := by decide +kernel
theorem dX5_fed_38 : decode cX5_fed 38 = .ok (.if_icmp .eq 13, 3) := by decide +kernel
theorem dX5_fed_41 : decode cX5_fed 41 = .ok (.aload_n 0, 1) := by decide +kernel
theorem dX5_fed_42 : decode cX5_fed 42 = .ok (.getfield 10, 3) := by decide +kernel
theorem dX5_fed_45 : decode cX5_fed 45 = .ok (.getfield 169, 3) := by decide +kernel
theorem dX5_fed_48 : decode cX5_fed 48 = .ok (.iload_n 1, 1) := by decide +kernel
theorem dX5_fed_49 : decode cX5_fed 49 = .ok (.iaload, 1) := by decide +kernel
theorem dX5_fed_50 : decode cX5_fed 50 = .ok (.ireturn, 1) := by decide +kernel
theorem dX5_fed_51 : decode cX5_fed 51 = .ok (.aload_n 0, 1) := by decide +kernel
theorem dX5_fed_52 : decode cX5_fed 52 = .ok (.getfield 10, 3) := by decide +kernel
theorem dX5_fed_55 : decode cX5_fed 55 = .ok (.getfield 169, 3) := by decide +kernel
theorem dX5_fed_58 : decode cX5_fed 58 = .ok (.iload_n 1, 1) := by decide +kernel
theorem dX5_fed_59 : decode cX5_fed 59 = .ok (.iaload, 1) := by decide +kernel
theorem dX5_fed_60 : decode cX5_fed 60 = .ok (.aload_n 0, 1) := by decide +kernel
theorem dX5_fed_61 : decode cX5_fed 61 = .ok (.getfield 35, 3) := by decide +kernel
theorem dX5_fed_64 : decode cX5_fed 64 = .ok (.iload_n 1, 1) := by decide +kernel
theorem dX5_fed_65 : decode cX5_fed 65 = .ok (.invokevirtual 172, 3) := by decide +kernel
theorem dX5_fed_68 : decode cX5_fed 68 = .ok (.isub, 1) := by decide +kernel
theorem dX5_fed_69 : decode cX5_fed 69 = .ok (.ireturn, 1) := by decide +kernel
theorem dX5_outage_0 : decode cX5_outage 0 = .ok (.aload_n 0, 1) := by decide +kernel
theorem dX5_outage_1 : decode cX5_outage 1 = .ok (.getfield 10, 3) := by decide +kernel
theorem dX5_outage_4 : decode cX5_outage 4 = .ok (.iload_n 1, 1) := by decide +kernel
theorem dX5_outage_5 : decode cX5_outage 5 = .ok (.invokevirtual 84, 3) := by decide +kernel
theorem dX5_outage_8 : decode cX5_outage 8 = .ok (.ifCond .eq 21, 3) := by decide +kernel
theorem dX5_outage_11 : decode cX5_outage 11 = .ok (.aload_n 0, 1) := by decide +kernel
theorem dX5_outage_12 : decode cX5_outage 12 = .ok (.getfield 10, 3) := by decide +kernel
theorem dX5_outage_15 : decode cX5_outage 15 = .ok (.iload_n 2, 1) := by decide +kernel
theorem dX5_outage_16 : decode cX5_outage 16 = .ok (.invokevirtual 84, 3) := by decide +kernel
theorem dX5_outage_19 : decode cX5_outage 19 = .ok (.ifCond .eq 10, 3) := by decide +kernel
theorem dX5_outage_22 : decode cX5_outage 22 = .ok (.iload_n 3, 1) := by decide +kernel
theorem dX5_outage_23 : decode cX5_outage 23 = .ok (.invokestatic 90, 3) := by decide +kernel
theorem dX5_outage_26 : decode cX5_outage 26 = .ok (.ifCond .ne 9, 3) := by decide +kernel
theorem dX5_outage_29 : decode cX5_outage 29 = .ok (.aload_n 0, 1) := by decide +kernel
theorem dX5_outage_30 : decode cX5_outage 30 = .ok (.invokevirtual 50, 3) := by decide +kernel
theorem dX5_outage_33 : decode cX5_outage 33 = .ok (.i2l, 1) := by decide +kernel
theorem dX5_outage_34 : decode cX5_outage 34 = .ok (.lreturn, 1) := by decide +kernel
theorem dX5_outage_35 : decode cX5_outage 35 = .ok (.aload_n 0, 1) := by decide +kernel
theorem dX5_outage_36 : decode cX5_outage 36 = .ok (.getfield 10, 3) := by decide +kernel
theorem dX5_outage_39 : decode cX5_outage 39 = .ok (.getfield 126, 3) := by decide +kernel
theorem dX5_outage_42 : decode cX5_outage 42 = .ok (.iload_n 2, 1) := by decide +kernel
theorem dX5_outage_43 : decode cX5_outage 43 = .ok (.baload, 1) := by decide +kernel
theorem dX5_outage_44 : decode cX5_outage 44 = .ok (.ifCond .ne 9, 3) := by decide +kernel
theorem dX5_outage_47 : decode cX5_outage 47 = .ok (.aload_n 0, 1) := by decide +kernel
theorem dX5_outage_48 : decode cX5_outage 48 = .ok (.invokevirtual 175, 3) := by decide +kernel
theorem dX5_outage_51 : decode cX5_outage 51 = .ok (.i2l, 1) := by decide +kernel
theorem dX5_outage_52 : decode cX5_outage 52 = .ok (.lreturn, 1) := by decide +kernel
theorem dX5_outage_53 : decode cX5_outage 53 = .ok (.aload_n 0, 1) := by decide +kernel
theorem dX5_outage_54 : decode cX5_outage 54 = .ok (.getfield 35, 3) := by decide +kernel
theorem dX5_outage_57 : decode cX5_outage 57 = .ok (.iload_n 2, 1) := by decide +kernel
theorem dX5_outage_58 : decode cX5_outage 58 = .ok (.iconst (-1), 1) := by decide +kernel
theorem dX5_outage_59 : decode cX5_outage 59 = .ok (.invokevirtual 133, 3) := by decide +kernel
theorem dX5_outage_62 : decode cX5_outage 62 = .ok (.aload_n 0, 1) := by decide +kernel
theorem dX5_outage_63 : decode cX5_outage 63 = .ok (.getfield 35, 3) := by decide +kernel
theorem dX5_outage_66 : decode cX5_outage 66 = .ok (.iconst (-1), 1) := by decide +kernel
theorem dX5_outage_67 : decode cX5_outage 67 = .ok (.iconst (-1), 1) := by decide +kernel
theorem dX5_outage_68 : decode cX5_outage 68 = .ok (.invokevirtual 137, 3) := by decide +kernel
theorem dX5_outage_71 : decode cX5_outage 71 = .ok (.aload_n 0, 1) := by decide +kernel
theorem dX5_outage_72 : decode cX5_outage 72 = .ok (.getfield 35, 3) := by decide +kernel
theorem dX5_outage_75 : decode cX5_outage 75 = .ok (.getfield 140, 3) := by decide +kernel
theorem dX5_outage_78 : decode cX5_outage 78 = .ok (.iload_n 1, 1) := by decide +kernel
theorem dX5_outage_79 : decode cX5_outage 79 = .ok (.laload, 1) := by decide +kernel
theorem dX5_outage_80 : decode cX5_outage 80 = .ok (.aload_n 0, 1) := by decide +kernel
theorem dX5_outage_81 : decode cX5_outage 81 = .ok (.getfield 35, 3) := by decide +kernel
theorem dX5_outage_84 : decode cX5_outage 84 = .ok (.getfield 144, 3) := by decide +kernel
theorem dX5_outage_87 : decode cX5_outage 87 = .ok (.iload_n 3, 1) := by decide +kernel
theorem dX5_outage_88 : decode cX5_outage 88 = .ok (.invokestatic 148, 3) := by decide +kernel
theorem dX5_outage_91 : decode cX5_outage 91 = .ok (.lreturn, 1) := by decide +kernel
theorem dX5_spread_0 : decode cX5_spread 0 = .ok (.aload_n 0, 1) := by decide +kernel
theorem dX5_spread_1 : decode cX5_spread 1 = .ok (.getfield 10, 3) := by decide +kernel
theorem dX5_spread_4 : decode cX5_spread 4 = .ok (.iload_n 1, 1) := by decide +kernel
theorem dX5_spread_5 : decode cX5_spread 5 = .ok (.invokevirtual 84, 3) := by decide +kernel
theorem dX5_spread_8 : decode cX5_spread 8 = .ok (.ifCond .eq 21, 3) := by decide +kernel
theorem dX5_spread_11 : decode cX5_spread 11 = .ok (.aload_n 0, 1) := by decide +kernel
theorem dX5_spread_12 : decode cX5_spread 12 = .ok (.getfield 10, 3) := by decide +kernel
theorem dX5_spread_15 : decode cX5_spread 15 = .ok (.iload_n 2, 1) := by decide +kernel
theorem dX5_spread_16 : decode cX5_spread 16 = .ok (.invokevirtual 84, 3) := by decide +kernel
theorem dX5_spread_19 : decode cX5_spread 19 = .ok (.ifCond .eq 10, 3) := by decide +kernel
theorem dX5_spread_22 : decode cX5_spread 22 = .ok (.iload_n 3, 1) := by decide +kernel
theorem dX5_spread_23 : decode cX5_spread 23 = .ok (.invokestatic 90, 3) := by decide +kernel
theorem dX5_spread_26 : decode cX5_spread 26 = .ok (.ifCond .ne 9, 3) := by decide +kernel
theorem dX5_spread_29 : decode cX5_spread 29 = .ok (.aload_n 0, 1) := by decide +kernel
theorem dX5_spread_30 : decode cX5_spread 30 = .ok (.invokevirtual 50, 3) := by decide +kernel
theorem dX5_spread_33 : decode cX5_spread 33 = .ok (.i2l, 1) := by decide +kernel
theorem dX5_spread_34 : decode cX5_spread 34 = .ok (.lreturn, 1) := by decide +kernel
theorem dX5_spread_35 : decode cX5_spread 35 = .ok (.aload_n 0, 1) := by decide +kernel
theorem dX5_spread_36 : decode cX5_spread 36 = .ok (.getfield 10, 3) := by decide +kernel
theorem dX5_spread_39 : decode cX5_spread 39 = .ok (.getfield 126, 3) := by decide +kernel
theorem dX5_spread_42 : decode cX5_spread 42 = .ok (.iload_n 2, 1) := by decide +kernel
theorem dX5_spread_43 : decode cX5_spread 43 = .ok (.baload, 1) := by decide +kernel
theorem dX5_spread_44 : decode cX5_spread 44 = .ok (.ifCond .eq 11, 3) := by decide +kernel
theorem dX5_spread_47 : decode cX5_spread 47 = .ok (.aload_n 0, 1) := by decide +kernel
theorem dX5_spread_48 : decode cX5_spread 48 = .ok (.iload_n 2, 1) := by decide +kernel
theorem dX5_spread_49 : decode cX5_spread 49 = .ok (.invokevirtual 130, 3) := by decide +kernel
theorem dX5_spread_52 : decode cX5_spread 52 = .ok (.ifCond .eq 9, 3) := by decide +kernel
theorem dX5_spread_55 : decode cX5_spread 55 = .ok (.aload_n 0, 1) := by decide +kernel
theorem dX5_spread_56 : decode cX5_spread 56 = .ok (.invokevirtual 175, 3) := by decide +kernel
theorem dX5_spread_59 : decode cX5_spread 59 = .ok (.i2l, 1) := by decide +kernel
theorem dX5_spread_60 : decode cX5_spread 60 = .ok (.lreturn, 1) := by decide +kernel
theorem dX5_spread_61 : decode cX5_spread 61 = .ok (.iload_n 1, 1) := by decide +kernel
theorem dX5_spread_62 : decode cX5_spread 62 = .ok (.iload_n 2, 1) := by decide +kernel
theorem dX5_spread_63 : decode cX5_spread 63 = .ok (.if_icmp .ne 10, 3) := by decide +kernel
theorem dX5_spread_66 : decode cX5_spread 66 = .ok (.lconst 0, 1) := by decide +kernel
theorem dX5_spread_67 : decode cX5_spread 67 = .ok (.lconst 1, 1) := by decide +kernel
theorem dX5_spread_68 : decode cX5_spread 68 = .ok (.iload_n 3, 1) := by decide +kernel
theorem dX5_spread_69 : decode cX5_spread 69 = .ok (.invokestatic 148, 3) := by decide +kernel
theorem dX5_spread_72 : decode cX5_spread 72 = .ok (.lreturn, 1) := by decide +kernel
theorem dX5_spread_73 : decode cX5_spread 73 = .ok (.aload_n 0, 1) := by decide +kernel
theorem dX5_spread_74 : decode cX5_spread 74 = .ok (.getfield 35, 3) := by decide +kernel
theorem dX5_spread_77 : decode cX5_spread 77 = .ok (.iconst (-1), 1) := by decide +kernel
theorem dX5_spread_78 : decode cX5_spread 78 = .ok (.iconst (-1), 1) := by decide +kernel
theorem dX5_spread_79 : decode cX5_spread 79 = .ok (.invokevirtual 133, 3) := by decide +kernel
theorem dX5_spread_82 : decode cX5_spread 82 = .ok (.aload_n 0, 1) := by decide +kernel
theorem dX5_spread_83 : decode cX5_spread 83 = .ok (.getfield 35, 3) := by decide +kernel
theorem dX5_spread_86 : decode cX5_spread 86 = .ok (.aload_n 0, 1) := by decide +kernel
theorem dX5_spread_87 : decode cX5_spread 87 = .ok (.getfield 10, 3) := by decide +kernel
theorem dX5_spread_90 : decode cX5_spread 90 = .ok (.getfield 113, 3) := by decide +kernel
theorem dX5_spread_93 : decode cX5_spread 93 = .ok (.iload_n 2, 1) := by decide +kernel
theorem dX5_spread_94 : decode cX5_spread 94 = .ok (.iaload, 1) := by decide +kernel
theorem dX5_spread_95 : decode cX5_spread 95 = .ok (.aload_n 0, 1) := by decide +kernel
theorem dX5_spread_96 : decode cX5_spread 96 = .ok (.getfield 10, 3) := by decide +kernel
theorem dX5_spread_99 : decode cX5_spread 99 = .ok (.getfield 117, 3) := by decide +kernel
theorem dX5_spread_102 : decode cX5_spread 102 = .ok (.iload_n 2, 1) := by decide +kernel
theorem dX5_spread_103 : decode cX5_spread 103 = .ok (.iaload, 1) := by decide +kernel
theorem dX5_spread_104 : decode cX5_spread 104 = .ok (.invokevirtual 137, 3) := by decide +kernel
theorem dX5_spread_107 : decode cX5_spread 107 = .ok (.aload_n 0, 1) := by decide +kernel
theorem dX5_spread_108 : decode cX5_spread 108 = .ok (.getfield 35, 3) := by decide +kernel
theorem dX5_spread_111 : decode cX5_spread 111 = .ok (.getfield 158, 3) := by decide +kernel
theorem dX5_spread_114 : decode cX5_spread 114 = .ok (.iload_n 1, 1) := by decide +kernel
theorem dX5_spread_115 : decode cX5_spread 115 = .ok (.laload, 1) := by decide +kernel
theorem dX5_spread_116 : decode cX5_spread 116 = .ok (.aload_n 0, 1) := by decide +kernel
theorem dX5_spread_117 : decode cX5_spread 117 = .ok (.getfield 35, 3) := by decide +kernel
theorem dX5_spread_120 : decode cX5_spread 120 = .ok (.getfield 144, 3) := by decide +kernel
theorem dX5_spread_123 : decode cX5_spread 123 = .ok (.aload_n 0, 1) := by decide +kernel
theorem dX5_spread_124 : decode cX5_spread 124 = .ok (.getfield 35, 3) := by decide +kernel
theorem dX5_spread_127 : decode cX5_spread 127 = .ok (.getfield 158, 3) := by decide +kernel
theorem dX5_spread_130 : decode cX5_spread 130 = .ok (.iload_n 2, 1) := by decide +kernel
theorem dX5_spread_131 : decode cX5_spread 131 = .ok (.laload, 1) := by decide +kernel
theorem dX5_spread_132 : decode cX5_spread 132 = .ok (.lsub, 1) := by decide +kernel
theorem dX5_spread_133 : decode cX5_spread 133 = .ok (.iload_n 3, 1) := by decide +kernel
theorem dX5_spread_134 : decode cX5_spread 134 = .ok (.invokestatic 148, 3) := by decide +kernel
theorem dX5_spread_137 : decode cX5_spread 137 = .ok (.lreturn, 1) := by decide +kernel
theorem dX5_worst_0 : decode cX5_worst 0 = .ok (.iload_n 1, 1) := by decide +kernel
theorem dX5_worst_1 : decode cX5_worst 1 = .ok (.iconst (-1), 1) := by decide +kernel
theorem dX5_worst_2 : decode cX5_worst 2 = .ok (.if_icmp .eq 14, 3) := by decide +kernel
theorem dX5_worst_5 : decode cX5_worst 5 = .ok (.aload_n 0, 1) := by decide +kernel
theorem dX5_worst_6 : decode cX5_worst 6 = .ok (.getfield 10, 3) := by decide +kernel
theorem dX5_worst_9 : decode cX5_worst 9 = .ok (.iload_n 1, 1) := by decide +kernel
theorem dX5_worst_10 : decode cX5_worst 10 = .ok (.invokevirtual 84, 3) := by decide +kernel
theorem dX5_worst_13 : decode cX5_worst 13 = .ok (.ifCond .eq 12, 3) := by decide +kernel
theorem dX5_worst_16 : decode cX5_worst 16 = .ok (.iload_n 2, 1) := by decide +kernel
theorem dX5_worst_17 : decode cX5_worst 17 = .ok (.iconst 0, 1) := by decide +kernel
theorem dX5_worst_18 : decode cX5_worst 18 = .ok (.iconst 3, 1) := by decide +kernel
theorem dX5_worst_19 : decode cX5_worst 19 = .ok (.invokestatic 109, 3) := by decide +kernel
theorem dX5_worst_22 : decode cX5_worst 22 = .ok (.ifCond .ne 9, 3) := by decide +kernel
theorem dX5_worst_25 : decode cX5_worst 25 = .ok (.aload_n 0, 1) := by decide +kernel
theorem dX5_worst_26 : decode cX5_worst 26 = .ok (.invokevirtual 50, 3) := by decide +kernel
theorem dX5_worst_29 : decode cX5_worst 29 = .ok (.i2l, 1) := by decide +kernel
theorem dX5_worst_30 : decode cX5_worst 30 = .ok (.lreturn, 1) := by decide +kernel
theorem dX5_worst_31 : decode cX5_worst 31 = .ok (.iload_n 1, 1) := by decide +kernel
theorem dX5_worst_32 : decode cX5_worst 32 = .ok (.iconst (-1), 1) := by decide +kernel
theorem dX5_worst_33 : decode cX5_worst 33 = .ok (.if_icmp .eq 21, 3) := by decide +kernel
theorem dX5_worst_36 : decode cX5_worst 36 = .ok (.aload_n 0, 1) := by decide +kernel
theorem dX5_worst_37 : decode cX5_worst 37 = .ok (.getfield 10, 3) := by decide +kernel
theorem dX5_worst_40 : decode cX5_worst 40 = .ok (.getfield 126, 3) := by decide +kernel
theorem dX5_worst_43 : decode cX5_worst 43 = .ok (.iload_n 1, 1) := by decide +kernel
theorem dX5_worst_44 : decode cX5_worst 44 = .ok (.baload, 1) := by decide +kernel
theorem dX5_worst_45 : decode cX5_worst 45 = .ok (.ifCond .ne 9, 3) := by decide +kernel
theorem dX5_worst_48 : decode cX5_worst 48 = .ok (.aload_n 0, 1) := by decide +kernel
theorem dX5_worst_49 : decode cX5_worst 49 = .ok (.invokevirtual 175, 3) := by decide +kernel
theorem dX5_worst_52 : decode cX5_worst 52 = .ok (.i2l, 1) := by decide +kernel
theorem dX5_worst_53 : decode cX5_worst 53 = .ok (.lreturn, 1) := by decide +kernel
theorem dX5_worst_54 : decode cX5_worst 54 = .ok (.aload_n 0, 1) := by decide +kernel
theorem dX5_worst_55 : decode cX5_worst 55 = .ok (.getfield 35, 3) := by decide +kernel
theorem dX5_worst_58 : decode cX5_worst 58 = .ok (.iload_n 1, 1) := by decide +kernel
theorem dX5_worst_59 : decode cX5_worst 59 = .ok (.iconst (-1), 1) := by decide +kernel
theorem dX5_worst_60 : decode cX5_worst 60 = .ok (.invokevirtual 133, 3) := by decide +kernel
theorem dX5_worst_63 : decode cX5_worst 63 = .ok (.aload_n 0, 1) := by decide +kernel
theorem dX5_worst_64 : decode cX5_worst 64 = .ok (.getfield 35, 3) := by decide +kernel
theorem dX5_worst_67 : decode cX5_worst 67 = .ok (.invokevirtual 178, 3) := by decide +kernel
theorem dX5_worst_70 : decode cX5_worst 70 = .ok (.iload_n 2, 1) := by decide +kernel
theorem dX5_worst_71 : decode cX5_worst 71 = .ok (.tableswitch 72 0 2 #[25, 34, 53], 25) := by decide +kernel
theorem dX5_worst_96 : decode cX5_worst 96 = .ok (.aload_n 0, 1) := by decide +kernel
theorem dX5_worst_97 : decode cX5_worst 97 = .ok (.getfield 35, 3) := by decide +kernel
theorem dX5_worst_100 : decode cX5_worst 100 = .ok (.getfield 181, 3) := by decide +kernel
theorem dX5_worst_103 : decode cX5_worst 103 = .ok (.i2l, 1) := by decide +kernel
theorem dX5_worst_104 : decode cX5_worst 104 = .ok (.lreturn, 1) := by decide +kernel
theorem dX5_worst_105 : decode cX5_worst 105 = .ok (.aload_n 0, 1) := by decide +kernel
theorem dX5_worst_106 : decode cX5_worst 106 = .ok (.getfield 35, 3) := by decide +kernel
theorem dX5_worst_109 : decode cX5_worst 109 = .ok (.getfield 185, 3) := by decide +kernel
theorem dX5_worst_112 : decode cX5_worst 112 = .ok (.aload_n 0, 1) := by decide +kernel
theorem dX5_worst_113 : decode cX5_worst 113 = .ok (.getfield 35, 3) := by decide +kernel
theorem dX5_worst_116 : decode cX5_worst 116 = .ok (.getfield 188, 3) := by decide +kernel
theorem dX5_worst_119 : decode cX5_worst 119 = .ok (.iconst 0, 1) := by decide +kernel
theorem dX5_worst_120 : decode cX5_worst 120 = .ok (.invokestatic 148, 3) := by decide +kernel
theorem dX5_worst_123 : decode cX5_worst 123 = .ok (.lreturn, 1) := by decide +kernel
theorem dX5_worst_124 : decode cX5_worst 124 = .ok (.aload_n 0, 1) := by decide +kernel
theorem dX5_worst_125 : decode cX5_worst 125 = .ok (.getfield 35, 3) := by decide +kernel
theorem dX5_worst_128 : decode cX5_worst 128 = .ok (.getfield 185, 3) := by decide +kernel
theorem dX5_worst_131 : decode cX5_worst 131 = .ok (.aload_n 0, 1) := by decide +kernel
theorem dX5_worst_132 : decode cX5_worst 132 = .ok (.getfield 35, 3) := by decide +kernel
theorem dX5_worst_135 : decode cX5_worst 135 = .ok (.getfield 188, 3) := by decide +kernel
theorem dX5_worst_138 : decode cX5_worst 138 = .ok (.iconst 1, 1) := by decide +kernel
theorem dX5_worst_139 : decode cX5_worst 139 = .ok (.invokestatic 148, 3) := by decide +kernel
theorem dX5_worst_142 : decode cX5_worst 142 = .ok (.lreturn, 1) := by decide +kernel
theorem dX5_worst_143 : decode cX5_worst 143 = .ok (.aload_n 0, 1) := by decide +kernel
theorem dX5_worst_144 : decode cX5_worst 144 = .ok (.getfield 35, 3) := by decide +kernel
theorem dX5_worst_147 : decode cX5_worst 147 = .ok (.getfield 191, 3) := by decide +kernel
theorem dX5_worst_150 : decode cX5_worst 150 = .ok (.i2l, 1) := by decide +kernel
theorem dX5_worst_151 : decode cX5_worst 151 = .ok (.lreturn, 1) := by decide +kernel
theorem dX5_ranked_0 : decode cX5_ranked 0 = .ok (.iload_n 1, 1) := by decide +kernel
theorem dX5_ranked_1 : decode cX5_ranked 1 = .ok (.ifCond .ge 8, 3) := by decide +kernel
theorem dX5_ranked_4 : decode cX5_ranked 4 = .ok (.aload_n 0, 1) := by decide +kernel
theorem dX5_ranked_5 : decode cX5_ranked 5 = .ok (.invokevirtual 50, 3) := by decide +kernel
theorem dX5_ranked_8 : decode cX5_ranked 8 = .ok (.ireturn, 1) := by decide +kernel
theorem dX5_ranked_9 : decode cX5_ranked 9 = .ok (.iload_n 1, 1) := by decide +kernel
theorem dX5_ranked_10 : decode cX5_ranked 10 = .ok (.aload_n 0, 1) := by decide +kernel
theorem dX5_ranked_11 : decode cX5_ranked 11 = .ok (.getfield 10, 3) := by decide +kernel
theorem dX5_ranked_14 : decode cX5_ranked 14 = .ok (.invokevirtual 194, 3) := by decide +kernel
theorem dX5_ranked_17 : decode cX5_ranked 17 = .ok (.if_icmp .lt 5, 3) := by decide +kernel
theorem dX5_ranked_20 : decode cX5_ranked 20 = .ok (.iconst (-1), 1) := by decide +kernel
theorem dX5_ranked_21 : decode cX5_ranked 21 = .ok (.ireturn, 1) := by decide +kernel
theorem dX5_ranked_22 : decode cX5_ranked 22 = .ok (.aload_n 0, 1) := by decide +kernel
theorem dX5_ranked_23 : decode cX5_ranked 23 = .ok (.invokevirtual 197, 3) := by decide +kernel
theorem dX5_ranked_26 : decode cX5_ranked 26 = .ok (.aload_n 0, 1) := by decide +kernel
theorem dX5_ranked_27 : decode cX5_ranked 27 = .ok (.getfield 42, 3) := by decide +kernel
theorem dX5_ranked_30 : decode cX5_ranked 30 = .ok (.iload_n 1, 1) := by decide +kernel
theorem dX5_ranked_31 : decode cX5_ranked 31 = .ok (.invokevirtual 200, 3) := by decide +kernel
theorem dX5_ranked_34 : decode cX5_ranked 34 = .ok (.ifCond .eq 15, 3) := by decide +kernel
theorem dX5_ranked_37 : decode cX5_ranked 37 = .ok (.aload_n 0, 1) := by decide +kernel
theorem dX5_ranked_38 : decode cX5_ranked 38 = .ok (.getfield 42, 3) := by decide +kernel
theorem dX5_ranked_41 : decode cX5_ranked 41 = .ok (.getfield 203, 3) := by decide +kernel
theorem dX5_ranked_44 : decode cX5_ranked 44 = .ok (.iload_n 1, 1) := by decide +kernel
theorem dX5_ranked_45 : decode cX5_ranked 45 = .ok (.iaload, 1) := by decide +kernel
theorem dX5_ranked_46 : decode cX5_ranked 46 = .ok (.goto 4, 3) := by decide +kernel
theorem dX5_ranked_49 : decode cX5_ranked 49 = .ok (.iconst (-1), 1) := by decide +kernel
theorem dX5_ranked_50 : decode cX5_ranked 50 = .ok (.ireturn, 1) := by decide +kernel
theorem dX5_pair_0 : decode cX5_pair 0 = .ok (.iload_n 1, 1) := by decide +kernel
theorem dX5_pair_1 : decode cX5_pair 1 = .ok (.ifCond .lt 12, 3) := by decide +kernel
theorem dX5_pair_4 : decode cX5_pair 4 = .ok (.iload_n 2, 1) := by decide +kernel
theorem dX5_pair_5 : decode cX5_pair 5 = .ok (.iconst 0, 1) := by decide +kernel
theorem dX5_pair_6 : decode cX5_pair 6 = .ok (.iconst 3, 1) := by decide +kernel
theorem dX5_pair_7 : decode cX5_pair 7 = .ok (.invokestatic 109, 3) := by decide +kernel
theorem dX5_pair_10 : decode cX5_pair 10 = .ok (.ifCond .ne 9, 3) := by decide +kernel
theorem dX5_pair_13 : decode cX5_pair 13 = .ok (.aload_n 0, 1) := by decide +kernel
theorem dX5_pair_14 : decode cX5_pair 14 = .ok (.invokevirtual 50, 3) := by decide +kernel
theorem dX5_pair_17 : decode cX5_pair 17 = .ok (.i2l, 1) := by decide +kernel
theorem dX5_pair_18 : decode cX5_pair 18 = .ok (.lreturn, 1) := by decide +kernel
theorem dX5_pair_19 : decode cX5_pair 19 = .ok (.aload_n 0, 1) := by decide +kernel
theorem dX5_pair_20 : decode cX5_pair 20 = .ok (.getfield 10, 3) := by decide +kernel
theorem dX5_pair_23 : decode cX5_pair 23 = .ok (.invokevirtual 194, 3) := by decide +kernel
theorem dX5_pair_26 : decode cX5_pair 26 = .ok (.istore_n 3, 1) := by decide +kernel
theorem dX5_pair_27 : decode cX5_pair 27 = .ok (.iload_n 1, 1) := by decide +kernel
theorem dX5_pair_28 : decode cX5_pair 28 = .ok (.iload_n 3, 1) := by decide +kernel
theorem dX5_pair_29 : decode cX5_pair 29 = .ok (.iload_n 3, 1) := by decide +kernel
theorem dX5_pair_30 : decode cX5_pair 30 = .ok (.iconst 1, 1) := by decide +kernel
theorem dX5_pair_31 : decode cX5_pair 31 = .ok (.isub, 1) := by decide +kernel
theorem dX5_pair_32 : decode cX5_pair 32 = .ok (.imul, 1) := by decide +kernel
theorem dX5_pair_33 : decode cX5_pair 33 = .ok (.iconst 2, 1) := by decide +kernel
theorem dX5_pair_34 : decode cX5_pair 34 = .ok (.idiv, 1) := by decide +kernel
theorem dX5_pair_35 : decode cX5_pair 35 = .ok (.if_icmp .lt 7, 3) := by decide +kernel
theorem dX5_pair_38 : decode cX5_pair 38 = .ok (.ldc2_w 206, 3) := by decide +kernel
theorem dX5_pair_41 : decode cX5_pair 41 = .ok (.lreturn, 1) := by decide +kernel
theorem dX5_pair_42 : decode cX5_pair 42 = .ok (.aload_n 0, 1) := by decide +kernel
theorem dX5_pair_43 : decode cX5_pair 43 = .ok (.invokevirtual 208, 3) := by decide +kernel
theorem dX5_pair_46 : decode cX5_pair 46 = .ok (.aload_n 0, 1) := by decide +kernel
theorem dX5_pair_47 : decode cX5_pair 47 = .ok (.getfield 42, 3) := by decide +kernel
theorem dX5_pair_50 : decode cX5_pair 50 = .ok (.iload_n 1, 1) := by decide +kernel
theorem dX5_pair_51 : decode cX5_pair 51 = .ok (.invokevirtual 200, 3) := by decide +kernel
theorem dX5_pair_54 : decode cX5_pair 54 = .ok (.ifCond .ne 7, 3) := by decide +kernel
theorem dX5_pair_57 : decode cX5_pair 57 = .ok (.ldc2_w 206, 3) := by decide +kernel
theorem dX5_pair_60 : decode cX5_pair 60 = .ok (.lreturn, 1) := by decide +kernel
theorem dX5_pair_61 : decode cX5_pair 61 = .ok (.iload_n 2, 1) := by decide +kernel
theorem dX5_pair_62 : decode cX5_pair 62 = .ok (.tableswitch 71 0 2 #[26, 37, 48], 26) := by decide +kernel
theorem dX5_pair_88 : decode cX5_pair 88 = .ok (.aload_n 0, 1) := by decide +kernel
theorem dX5_pair_89 : decode cX5_pair 89 = .ok (.getfield 42, 3) := by decide +kernel
theorem dX5_pair_92 : decode cX5_pair 92 = .ok (.getfield 203, 3) := by decide +kernel
theorem dX5_pair_95 : decode cX5_pair 95 = .ok (.iload_n 1, 1) := by decide +kernel
theorem dX5_pair_96 : decode cX5_pair 96 = .ok (.iaload, 1) := by decide +kernel
theorem dX5_pair_97 : decode cX5_pair 97 = .ok (.i2l, 1) := by decide +kernel
theorem dX5_pair_98 : decode cX5_pair 98 = .ok (.lreturn, 1) := by decide +kernel
theorem dX5_pair_99 : decode cX5_pair 99 = .ok (.aload_n 0, 1) := by decide +kernel
theorem dX5_pair_100 : decode cX5_pair 100 = .ok (.getfield 42, 3) := by decide +kernel
theorem dX5_pair_103 : decode cX5_pair 103 = .ok (.getfield 211, 3) := by decide +kernel
theorem dX5_pair_106 : decode cX5_pair 106 = .ok (.iload_n 1, 1) := by decide +kernel
theorem dX5_pair_107 : decode cX5_pair 107 = .ok (.iaload, 1) := by decide +kernel
theorem dX5_pair_108 : decode cX5_pair 108 = .ok (.i2l, 1) := by decide +kernel
theorem dX5_pair_109 : decode cX5_pair 109 = .ok (.lreturn, 1) := by decide +kernel
theorem dX5_pair_110 : decode cX5_pair 110 = .ok (.aload_n 0, 1) := by decide +kernel
theorem dX5_pair_111 : decode cX5_pair 111 = .ok (.getfield 42, 3) := by decide +kernel
theorem dX5_pair_114 : decode cX5_pair 114 = .ok (.getfield 214, 3) := by decide +kernel
theorem dX5_pair_117 : decode cX5_pair 117 = .ok (.iload_n 1, 1) := by decide +kernel
theorem dX5_pair_118 : decode cX5_pair 118 = .ok (.laload, 1) := by decide +kernel
theorem dX5_pair_119 : decode cX5_pair 119 = .ok (.aload_n 0, 1) := by decide +kernel
theorem dX5_pair_120 : decode cX5_pair 120 = .ok (.getfield 42, 3) := by decide +kernel
theorem dX5_pair_123 : decode cX5_pair 123 = .ok (.getfield 217, 3) := by decide +kernel
theorem dX5_pair_126 : decode cX5_pair 126 = .ok (.iload_n 1, 1) := by decide +kernel
theorem dX5_pair_127 : decode cX5_pair 127 = .ok (.laload, 1) := by decide +kernel
theorem dX5_pair_128 : decode cX5_pair 128 = .ok (.iconst 0, 1) := by decide +kernel
theorem dX5_pair_129 : decode cX5_pair 129 = .ok (.invokestatic 148, 3) := by decide +kernel
theorem dX5_pair_132 : decode cX5_pair 132 = .ok (.lreturn, 1) := by decide +kernel
theorem dX5_pair_133 : decode cX5_pair 133 = .ok (.aload_n 0, 1) := by decide +kernel
theorem dX5_pair_134 : decode cX5_pair 134 = .ok (.getfield 42, 3) := by decide +kernel
theorem dX5_pair_137 : decode cX5_pair 137 = .ok (.getfield 214, 3) := by decide +kernel
theorem dX5_pair_140 : decode cX5_pair 140 = .ok (.iload_n 1, 1) := by decide +kernel
theorem dX5_pair_141 : decode cX5_pair 141 = .ok (.laload, 1) := by decide +kernel
theorem dX5_pair_142 : decode cX5_pair 142 = .ok (.aload_n 0, 1) := by decide +kernel
theorem dX5_pair_143 : decode cX5_pair 143 = .ok (.getfield 42, 3) := by decide +kernel
theorem dX5_pair_146 : decode cX5_pair 146 = .ok (.getfield 217, 3) := by decide +kernel
theorem dX5_pair_149 : decode cX5_pair 149 = .ok (.iload_n 1, 1) := by decide +kernel
theorem dX5_pair_150 : decode cX5_pair 150 = .ok (.laload, 1) := by decide +kernel
theorem dX5_pair_151 : decode cX5_pair 151 = .ok (.iconst 1, 1) := by decide +kernel
theorem dX5_pair_152 : decode cX5_pair 152 = .ok (.invokestatic 148, 3) := by decide +kernel
theorem dX5_pair_155 : decode cX5_pair 155 = .ok (.lreturn, 1) := by decide +kernel
theorem dX5_shift_0 : decode cX5_shift 0 = .ok (.aload_n 0, 1) := by decide +kernel
theorem dX5_shift_1 : decode cX5_shift 1 = .ok (.getfield 10, 3) := by decide +kernel
theorem dX5_shift_4 : decode cX5_shift 4 = .ok (.iload_n 1, 1) := by decide +kernel
theorem dX5_shift_5 : decode cX5_shift 5 = .ok (.invokevirtual 84, 3) := by decide +kernel
theorem dX5_shift_8 : decode cX5_shift 8 = .ok (.ifCond .ne 12, 3) := by decide +kernel
theorem dX5_shift_11 : decode cX5_shift 11 = .ok (.aload_n 0, 1) := by decide +kernel
theorem dX5_shift_12 : decode cX5_shift 12 = .ok (.invokevirtual 50, 3) := by decide +kernel
theorem dX5_shift_15 : decode cX5_shift 15 = .ok (.pop, 1) := by decide +kernel
theorem dX5_shift_16 : decode cX5_shift 16 = .ok (.sipush (-9999), 3) := by decide +kernel
theorem dX5_shift_19 : decode cX5_shift 19 = .ok (.ireturn, 1) := by decide +kernel
theorem dX5_shift_20 : decode cX5_shift 20 = .ok (.aload_n 0, 1) := by decide +kernel
theorem dX5_shift_21 : decode cX5_shift 21 = .ok (.iload_n 1, 1) := by decide +kernel
theorem dX5_shift_22 : decode cX5_shift 22 = .ok (.invokevirtual 130, 3) := by decide +kernel
theorem dX5_shift_25 : decode cX5_shift 25 = .ok (.ifCond .ne 12, 3) := by decide +kernel
theorem dX5_shift_28 : decode cX5_shift 28 = .ok (.aload_n 0, 1) := by decide +kernel
theorem dX5_shift_29 : decode cX5_shift 29 = .ok (.invokevirtual 175, 3) := by decide +kernel
theorem dX5_shift_32 : decode cX5_shift 32 = .ok (.pop, 1) := by decide +kernel
theorem dX5_shift_33 : decode cX5_shift 33 = .ok (.sipush (-9998), 3) := by decide +kernel
theorem dX5_shift_36 : decode cX5_shift 36 = .ok (.ireturn, 1) := by decide +kernel
theorem dX5_shift_37 : decode cX5_shift 37 = .ok (.aload_n 0, 1) := by decide +kernel
theorem dX5_shift_38 : decode cX5_shift 38 = .ok (.getfield 35, 3) := by decide +kernel
theorem dX5_shift_41 : decode cX5_shift 41 = .ok (.iload_n 1, 1) := by decide +kernel
theorem dX5_shift_42 : decode cX5_shift 42 = .ok (.iconst (-1), 1) := by decide +kernel
theorem dX5_shift_43 : decode cX5_shift 43 = .ok (.invokevirtual 133, 3) := by decide +kernel
theorem dX5_shift_46 : decode cX5_shift 46 = .ok (.aload_n 0, 1) := by decide +kernel
theorem dX5_shift_47 : decode cX5_shift 47 = .ok (.getfield 35, 3) := by decide +kernel
theorem dX5_shift_50 : decode cX5_shift 50 = .ok (.aload_n 0, 1) := by decide +kernel
theorem dX5_shift_51 : decode cX5_shift 51 = .ok (.getfield 35, 3) := by decide +kernel
theorem dX5_shift_54 : decode cX5_shift 54 = .ok (.getfield 161, 3) := by decide +kernel
theorem dX5_shift_57 : decode cX5_shift 57 = .ok (.aload_n 0, 1) := by decide +kernel
theorem dX5_shift_58 : decode cX5_shift 58 = .ok (.getfield 10, 3) := by decide +kernel
theorem dX5_shift_61 : decode cX5_shift 61 = .ok (.getfield 113, 3) := by decide +kernel
theorem dX5_shift_64 : decode cX5_shift 64 = .ok (.iload_n 1, 1) := by decide +kernel
theorem dX5_shift_65 : decode cX5_shift 65 = .ok (.iaload, 1) := by decide +kernel
theorem dX5_shift_66 : decode cX5_shift 66 = .ok (.iaload, 1) := by decide +kernel
theorem dX5_shift_67 : decode cX5_shift 67 = .ok (.aload_n 0, 1) := by decide +kernel
theorem dX5_shift_68 : decode cX5_shift 68 = .ok (.getfield 35, 3) := by decide +kernel
theorem dX5_shift_71 : decode cX5_shift 71 = .ok (.getfield 161, 3) := by decide +kernel
theorem dX5_shift_74 : decode cX5_shift 74 = .ok (.aload_n 0, 1) := by decide +kernel
theorem dX5_shift_75 : decode cX5_shift 75 = .ok (.getfield 10, 3) := by decide +kernel
theorem dX5_shift_78 : decode cX5_shift 78 = .ok (.getfield 117, 3) := by decide +kernel
theorem dX5_shift_81 : decode cX5_shift 81 = .ok (.iload_n 1, 1) := by decide +kernel
theorem dX5_shift_82 : decode cX5_shift 82 = .ok (.iaload, 1) := by decide +kernel
theorem dX5_shift_83 : decode cX5_shift 83 = .ok (.iaload, 1) := by decide +kernel
theorem dX5_shift_84 : decode cX5_shift 84 = .ok (.invokestatic 220, 3) := by decide +kernel
theorem dX5_shift_87 : decode cX5_shift 87 = .ok (.invokevirtual 172, 3) := by decide +kernel
theorem dX5_shift_90 : decode cX5_shift 90 = .ok (.ireturn, 1) := by decide +kernel
theorem dX5_transfer_0 : decode cX5_transfer 0 = .ok (.aload_n 0, 1) := by decide +kernel
theorem dX5_transfer_1 : decode cX5_transfer 1 = .ok (.getfield 10, 3) := by decide +kernel
theorem dX5_transfer_4 : decode cX5_transfer 4 = .ok (.iload_n 1, 1) := by decide +kernel
theorem dX5_transfer_5 : decode cX5_transfer 5 = .ok (.invokevirtual 152, 3) := by decide +kernel
theorem dX5_transfer_8 : decode cX5_transfer 8 = .ok (.ifCond .eq 26, 3) := by decide +kernel
theorem dX5_transfer_11 : decode cX5_transfer 11 = .ok (.aload_n 0, 1) := by decide +kernel
theorem dX5_transfer_12 : decode cX5_transfer 12 = .ok (.getfield 10, 3) := by decide +kernel
theorem dX5_transfer_15 : decode cX5_transfer 15 = .ok (.iload_n 2, 1) := by decide +kernel
theorem dX5_transfer_16 : decode cX5_transfer 16 = .ok (.invokevirtual 152, 3) := by decide +kernel
theorem dX5_transfer_19 : decode cX5_transfer 19 = .ok (.ifCond .eq 15, 3) := by decide +kernel
theorem dX5_transfer_22 : decode cX5_transfer 22 = .ok (.iload_n 1, 1) := by decide +kernel
theorem dX5_transfer_23 : decode cX5_transfer 23 = .ok (.iload_n 2, 1) := by decide +kernel
theorem dX5_transfer_24 : decode cX5_transfer 24 = .ok (.if_icmp .eq 10, 3) := by decide +kernel
theorem dX5_transfer_27 : decode cX5_transfer 27 = .ok (.iload_n 3, 1) := by decide +kernel
theorem dX5_transfer_28 : decode cX5_transfer 28 = .ok (.invokestatic 90, 3) := by decide +kernel
theorem dX5_transfer_31 : decode cX5_transfer 31 = .ok (.ifCond .ne 8, 3) := by decide +kernel
theorem dX5_transfer_34 : decode cX5_transfer 34 = .ok (.aload_n 0, 1) := by decide +kernel
theorem dX5_transfer_35 : decode cX5_transfer 35 = .ok (.invokevirtual 50, 3) := by decide +kernel
theorem dX5_transfer_38 : decode cX5_transfer 38 = .ok (.ireturn, 1) := by decide +kernel
theorem dX5_transfer_39 : decode cX5_transfer 39 = .ok (.aload_n 0, 1) := by decide +kernel
theorem dX5_transfer_40 : decode cX5_transfer 40 = .ok (.getfield 35, 3) := by decide +kernel
theorem dX5_transfer_43 : decode cX5_transfer 43 = .ok (.iconst (-1), 1) := by decide +kernel
theorem dX5_transfer_44 : decode cX5_transfer 44 = .ok (.iconst (-1), 1) := by decide +kernel
theorem dX5_transfer_45 : decode cX5_transfer 45 = .ok (.invokevirtual 133, 3) := by decide +kernel
theorem dX5_transfer_48 : decode cX5_transfer 48 = .ok (.aload_n 0, 1) := by decide +kernel
theorem dX5_transfer_49 : decode cX5_transfer 49 = .ok (.getfield 35, 3) := by decide +kernel
theorem dX5_transfer_52 : decode cX5_transfer 52 = .ok (.iload_n 1, 1) := by decide +kernel
theorem dX5_transfer_53 : decode cX5_transfer 53 = .ok (.iload_n 2, 1) := by decide +kernel
theorem dX5_transfer_54 : decode cX5_transfer 54 = .ok (.invokevirtual 225, 3) := by decide +kernel
theorem dX5_transfer_57 : decode cX5_transfer 57 = .ok (.ifCond .ne 8, 3) := by decide +kernel
theorem dX5_transfer_60 : decode cX5_transfer 60 = .ok (.aload_n 0, 1) := by decide +kernel
theorem dX5_transfer_61 : decode cX5_transfer 61 = .ok (.invokevirtual 175, 3) := by decide +kernel
theorem dX5_transfer_64 : decode cX5_transfer 64 = .ok (.ireturn, 1) := by decide +kernel
theorem dX5_transfer_65 : decode cX5_transfer 65 = .ok (.aload_n 0, 1) := by decide +kernel
theorem dX5_transfer_66 : decode cX5_transfer 66 = .ok (.getfield 35, 3) := by decide +kernel
theorem dX5_transfer_69 : decode cX5_transfer 69 = .ok (.iload_n 1, 1) := by decide +kernel
theorem dX5_transfer_70 : decode cX5_transfer 70 = .ok (.iload_n 2, 1) := by decide +kernel
theorem dX5_transfer_71 : decode cX5_transfer 71 = .ok (.invokevirtual 228, 3) := by decide +kernel
theorem dX5_transfer_74 : decode cX5_transfer 74 = .ok (.istore 4, 2) := by decide +kernel
theorem dX5_transfer_76 : decode cX5_transfer 76 = .ok (.iload_n 3, 1) := by decide +kernel
theorem dX5_transfer_77 : decode cX5_transfer 77 = .ok (.iconst 1, 1) := by decide +kernel
theorem dX5_transfer_78 : decode cX5_transfer 78 = .ok (.if_icmp .ne 72, 3) := by decide +kernel
theorem dX5_transfer_81 : decode cX5_transfer 81 = .ok (.iconst 0, 1) := by decide +kernel
theorem dX5_transfer_82 : decode cX5_transfer 82 = .ok (.istore 5, 2) := by decide +kernel
theorem dX5_transfer_84 : decode cX5_transfer 84 = .ok (.iload 5, 2) := by decide +kernel
theorem dX5_transfer_86 : decode cX5_transfer 86 = .ok (.aload_n 0, 1) := by decide +kernel
theorem dX5_transfer_87 : decode cX5_transfer 87 = .ok (.getfield 10, 3) := by decide +kernel
theorem dX5_transfer_90 : decode cX5_transfer 90 = .ok (.getfield 231, 3) := by decide +kernel
theorem dX5_transfer_93 : decode cX5_transfer 93 = .ok (.if_icmp .ge 57, 3) := by decide +kernel
theorem dX5_transfer_96 : decode cX5_transfer 96 = .ok (.aload_n 0, 1) := by decide +kernel
theorem dX5_transfer_97 : decode cX5_transfer 97 = .ok (.getfield 10, 3) := by decide +kernel
theorem dX5_transfer_100 : decode cX5_transfer 100 = .ok (.getfield 126, 3) := by decide +kernel
theorem dX5_transfer_103 : decode cX5_transfer 103 = .ok (.iload 5, 2) := by decide +kernel
theorem dX5_transfer_105 : decode cX5_transfer 105 = .ok (.baload, 1) := by decide +kernel
theorem dX5_transfer_106 : decode cX5_transfer 106 = .ok (.ifCond .eq 38, 3) := by decide +kernel
theorem dX5_transfer_109 : decode cX5_transfer 109 = .ok (.aload_n 0, 1) := by decide +kernel
theorem dX5_transfer_110 : decode cX5_transfer 110 = .ok (.iload 5, 2) := by decide +kernel
theorem dX5_transfer_112 : decode cX5_transfer 112 = .ok (.invokevirtual 130, 3) := by decide +kernel
theorem dX5_transfer_115 : decode cX5_transfer 115 = .ok (.ifCond .ne 29, 3) := by decide +kernel
theorem dX5_transfer_118 : decode cX5_transfer 118 = .ok (.aload_n 0, 1) := by decide +kernel
theorem dX5_transfer_119 : decode cX5_transfer 119 = .ok (.getfield 35, 3) := by decide +kernel
theorem dX5_transfer_122 : decode cX5_transfer 122 = .ok (.iload 5, 2) := by decide +kernel
theorem dX5_transfer_124 : decode cX5_transfer 124 = .ok (.iconst (-1), 1) := by decide +kernel
theorem dX5_transfer_125 : decode cX5_transfer 125 = .ok (.invokevirtual 133, 3) := by decide +kernel
theorem dX5_transfer_128 : decode cX5_transfer 128 = .ok (.iload 4, 2) := by decide +kernel
theorem dX5_transfer_130 : decode cX5_transfer 130 = .ok (.aload_n 0, 1) := by decide +kernel
theorem dX5_transfer_131 : decode cX5_transfer 131 = .ok (.getfield 35, 3) := by decide +kernel
theorem dX5_transfer_134 : decode cX5_transfer 134 = .ok (.iload_n 1, 1) := by decide +kernel
theorem dX5_transfer_135 : decode cX5_transfer 135 = .ok (.iload_n 2, 1) := by decide +kernel
theorem dX5_transfer_136 : decode cX5_transfer 136 = .ok (.invokevirtual 228, 3) := by decide +kernel
theorem dX5_transfer_139 : decode cX5_transfer 139 = .ok (.invokestatic 234, 3) := by decide +kernel
theorem dX5_transfer_142 : decode cX5_transfer 142 = .ok (.istore 4, 2) := by decide +kernel
theorem dX5_transfer_144 : decode cX5_transfer 144 = .ok (.iinc 5 1, 3) := by decide +kernel
theorem dX5_transfer_147 : decode cX5_transfer 147 = .ok (.goto (-63), 3) := by decide +kernel
theorem dX5_transfer_150 : decode cX5_transfer 150 = .ok (.iload 4, 2) := by decide +kernel
theorem dX5_transfer_152 : decode cX5_transfer 152 = .ok (.ireturn, 1) := by decide +kernel
theorem dX5_count_0 : decode cX5_count 0 = .ok (.iload_n 1, 1) := by decide +kernel
theorem dX5_count_1 : decode cX5_count 1 = .ok (.tableswitch 129 0 6 #[43, 60, 68, 76, 81, 105, 117], 43) := by decide +kernel
theorem dX5_count_44 : decode cX5_count 44 = .ok (.aload_n 0, 1) := by decide +kernel
theorem dX5_count_45 : decode cX5_count 45 = .ok (.getfield 35, 3) := by decide +kernel
theorem dX5_count_48 : decode cX5_count 48 = .ok (.iconst (-1), 1) := by decide +kernel
theorem dX5_count_49 : decode cX5_count 49 = .ok (.iconst (-1), 1) := by decide +kernel
theorem dX5_count_50 : decode cX5_count 50 = .ok (.invokevirtual 133, 3) := by decide +kernel
theorem dX5_count_53 : decode cX5_count 53 = .ok (.aload_n 0, 1) := by decide +kernel
theorem dX5_count_54 : decode cX5_count 54 = .ok (.getfield 35, 3) := by decide +kernel
theorem dX5_count_57 : decode cX5_count 57 = .ok (.invokevirtual 237, 3) := by decide +kernel
theorem dX5_count_60 : decode cX5_count 60 = .ok (.ireturn, 1) := by decide +kernel
theorem dX5_count_61 : decode cX5_count 61 = .ok (.aload_n 0, 1) := by decide +kernel
theorem dX5_count_62 : decode cX5_count 62 = .ok (.getfield 10, 3) := by decide +kernel
theorem dX5_count_65 : decode cX5_count 65 = .ok (.getfield 231, 3) := by decide +kernel
theorem dX5_count_68 : decode cX5_count 68 = .ok (.ireturn, 1) := by decide +kernel
theorem dX5_count_69 : decode cX5_count 69 = .ok (.aload_n 0, 1) := by decide +kernel
theorem dX5_count_70 : decode cX5_count 70 = .ok (.getfield 10, 3) := by decide +kernel
theorem dX5_count_73 : decode cX5_count 73 = .ok (.invokevirtual 194, 3) := by decide +kernel
theorem dX5_count_76 : decode cX5_count 76 = .ok (.ireturn, 1) := by decide +kernel
theorem dX5_count_77 : decode cX5_count 77 = .ok (.aload_n 0, 1) := by decide +kernel
theorem dX5_count_78 : decode cX5_count 78 = .ok (.invokevirtual 240, 3) := by decide +kernel
theorem dX5_count_81 : decode cX5_count 81 = .ok (.ireturn, 1) := by decide +kernel
theorem dX5_count_82 : decode cX5_count 82 = .ok (.aload_n 0, 1) := by decide +kernel
theorem dX5_count_83 : decode cX5_count 83 = .ok (.getfield 35, 3) := by decide +kernel
theorem dX5_count_86 : decode cX5_count 86 = .ok (.iconst (-1), 1) := by decide +kernel
theorem dX5_count_87 : decode cX5_count 87 = .ok (.iconst (-1), 1) := by decide +kernel
theorem dX5_count_88 : decode cX5_count 88 = .ok (.invokevirtual 133, 3) := by decide +kernel
theorem dX5_count_91 : decode cX5_count 91 = .ok (.aload_n 0, 1) := by decide +kernel
theorem dX5_count_92 : decode cX5_count 92 = .ok (.getfield 35, 3) := by decide +kernel
theorem dX5_count_95 : decode cX5_count 95 = .ok (.invokevirtual 178, 3) := by decide +kernel
theorem dX5_count_98 : decode cX5_count 98 = .ok (.aload_n 0, 1) := by decide +kernel
theorem dX5_count_99 : decode cX5_count 99 = .ok (.getfield 35, 3) := by decide +kernel
theorem dX5_count_102 : decode cX5_count 102 = .ok (.getfield 191, 3) := by decide +kernel
theorem dX5_count_105 : decode cX5_count 105 = .ok (.ireturn, 1) := by decide +kernel
theorem dX5_count_106 : decode cX5_count 106 = .ok (.aload_n 0, 1) := by decide +kernel
theorem dX5_count_107 : decode cX5_count 107 = .ok (.invokevirtual 197, 3) := by decide +kernel
theorem dX5_count_110 : decode cX5_count 110 = .ok (.aload_n 0, 1) := by decide +kernel
theorem dX5_count_111 : decode cX5_count 111 = .ok (.getfield 42, 3) := by decide +kernel
theorem dX5_count_114 : decode cX5_count 114 = .ok (.invokevirtual 243, 3) := by decide +kernel
theorem dX5_count_117 : decode cX5_count 117 = .ok (.ireturn, 1) := by decide +kernel
theorem dX5_count_118 : decode cX5_count 118 = .ok (.aload_n 0, 1) := by decide +kernel
theorem dX5_count_119 : decode cX5_count 119 = .ok (.invokevirtual 208, 3) := by decide +kernel
theorem dX5_count_122 : decode cX5_count 122 = .ok (.aload_n 0, 1) := by decide +kernel
theorem dX5_count_123 : decode cX5_count 123 = .ok (.getfield 42, 3) := by decide +kernel
theorem dX5_count_126 : decode cX5_count 126 = .ok (.invokevirtual 243, 3) := by decide +kernel
theorem dX5_count_129 : decode cX5_count 129 = .ok (.ireturn, 1) := by decide +kernel
theorem dX5_count_130 : decode cX5_count 130 = .ok (.aload_n 0, 1) := by decide +kernel
theorem dX5_count_131 : decode cX5_count 131 = .ok (.invokevirtual 50, 3) := by decide +kernel
theorem dX5_count_134 : decode cX5_count 134 = .ok (.ireturn, 1) := by decide +kernel
theorem dX5_type_0 : decode cX5_type 0 = .ok (.iload_n 1, 1) := by decide +kernel
theorem dX5_type_1 : decode cX5_type 1 = .ok (.iconst 0, 1) := by decide +kernel
theorem dX5_type_2 : decode cX5_type 2 = .ok (.bipush 127, 2) := by decide +kernel
theorem dX5_type_4 : decode cX5_type 4 = .ok (.invokestatic 109, 3) := by decide +kernel
theorem dX5_type_7 : decode cX5_type 7 = .ok (.ifCond .ne 8, 3) := by decide +kernel
theorem dX5_type_10 : decode cX5_type 10 = .ok (.aload_n 0, 1) := by decide +kernel
theorem dX5_type_11 : decode cX5_type 11 = .ok (.invokevirtual 50, 3) := by decide +kernel
theorem dX5_type_14 : decode cX5_type 14 = .ok (.ireturn, 1) := by decide +kernel
theorem dX5_type_15 : decode cX5_type 15 = .ok (.aload_n 0, 1) := by decide +kernel
theorem dX5_type_16 : decode cX5_type 16 = .ok (.getfield 26, 3) := by decide +kernel
theorem dX5_type_19 : decode cX5_type 19 = .ok (.invokevirtual 246, 3) := by decide +kernel
theorem dX5_type_22 : decode cX5_type 22 = .ok (.ifCond .eq 8, 3) := by decide +kernel
theorem dX5_type_25 : decode cX5_type 25 = .ok (.aload_n 0, 1) := by decide +kernel
theorem dX5_type_26 : decode cX5_type 26 = .ok (.invokevirtual 77, 3) := by decide +kernel
theorem dX5_type_29 : decode cX5_type 29 = .ok (.ireturn, 1) := by decide +kernel
theorem dX5_type_30 : decode cX5_type 30 = .ok (.aload_n 0, 1) := by decide +kernel
theorem dX5_type_31 : decode cX5_type 31 = .ok (.getfield 26, 3) := by decide +kernel
theorem dX5_type_34 : decode cX5_type 34 = .ok (.iload_n 1, 1) := by decide +kernel
theorem dX5_type_35 : decode cX5_type 35 = .ok (.invokevirtual 247, 3) := by decide +kernel
theorem dX5_type_38 : decode cX5_type 38 = .ok (.ireturn, 1) := by decide +kernel
theorem dX5_clear_0 : decode cX5_clear 0 = .ok (.aload_n 0, 1) := by decide +kernel
theorem dX5_clear_1 : decode cX5_clear 1 = .ok (.getfield 26, 3) := by decide +kernel
theorem dX5_clear_4 : decode cX5_clear 4 = .ok (.invokevirtual 250, 3) := by decide +kernel
theorem dX5_clear_7 : decode cX5_clear 7 = .ok (.ireturn, 1) := by decide +kernel
theorem dX5_does_0 : decode cX5_does 0 = .ok (.aload_n 0, 1) := by decide +kernel
theorem dX5_does_1 : decode cX5_does 1 = .ok (.getfield 26, 3) := by decide +kernel
theorem dX5_does_4 : decode cX5_does 4 = .ok (.invokevirtual 253, 3) := by decide +kernel
theorem dX5_does_7 : decode cX5_does 7 = .ok (.istore_n 1, 1) := by decide +kernel
theorem dX5_does_8 : decode cX5_does 8 = .ok (.iload_n 1, 1) := by decide +kernel
theorem dX5_does_9 : decode cX5_does 9 = .ok (.iconst (-1), 1) := by decide +kernel
theorem dX5_does_10 : decode cX5_does 10 = .ok (.if_icmp .eq 8, 3) := by decide +kernel
theorem dX5_does_13 : decode cX5_does 13 = .ok (.bipush (-10), 2) := by decide +kernel
theorem dX5_does_15 : decode cX5_does 15 = .ok (.iload_n 1, 1) := by decide +kernel
theorem dX5_does_16 : decode cX5_does 16 = .ok (.isub, 1) := by decide +kernel
theorem dX5_does_17 : decode cX5_does 17 = .ok (.ireturn, 1) := by decide +kernel
theorem dX5_does_18 : decode cX5_does 18 = .ok (.aload_n 0, 1) := by decide +kernel
theorem dX5_does_19 : decode cX5_does 19 = .ok (.getfield 19, 3) := by decide +kernel
theorem dX5_does_22 : decode cX5_does 22 = .ok (.aload_n 0, 1) := by decide +kernel
theorem dX5_does_23 : decode cX5_does 23 = .ok (.getfield 10, 3) := by decide +kernel
theorem dX5_does_26 : decode cX5_does 26 = .ok (.invokevirtual 54, 3) := by decide +kernel
theorem dX5_does_29 : decode cX5_does 29 = .ok (.iconst 0, 1) := by decide +kernel
theorem dX5_does_30 : decode cX5_does 30 = .ok (.istore_n 2, 1) := by decide +kernel
theorem dX5_does_31 : decode cX5_does 31 = .ok (.aload_n 0, 1) := by decide +kernel
theorem dX5_does_32 : decode cX5_does 32 = .ok (.getfield 26, 3) := by decide +kernel
theorem dX5_does_35 : decode cX5_does 35 = .ok (.invokevirtual 256, 3) := by decide +kernel
theorem dX5_does_38 : decode cX5_does 38 = .ok (.iconst 0, 1) := by decide +kernel
theorem dX5_does_39 : decode cX5_does 39 = .ok (.istore_n 3, 1) := by decide +kernel
theorem dX5_does_40 : decode cX5_does 40 = .ok (.iload_n 3, 1) := by decide +kernel
theorem dX5_does_41 : decode cX5_does 41 = .ok (.bipush 120, 2) := by decide +kernel
theorem dX5_does_43 : decode cX5_does 43 = .ok (.if_icmp .ge 56, 3) := by decide +kernel
theorem dX5_does_46 : decode cX5_does 46 = .ok (.aload_n 0, 1) := by decide +kernel
theorem dX5_does_47 : decode cX5_does 47 = .ok (.getfield 26, 3) := by decide +kernel
theorem dX5_does_50 : decode cX5_does 50 = .ok (.invokevirtual 259, 3) := by decide +kernel
theorem dX5_does_53 : decode cX5_does 53 = .ok (.ifCond .eq 46, 3) := by decide +kernel
theorem dX5_does_56 : decode cX5_does 56 = .ok (.aload_n 0, 1) := by decide +kernel
theorem dX5_does_57 : decode cX5_does 57 = .ok (.getfield 26, 3) := by decide +kernel
theorem dX5_does_60 : decode cX5_does 60 = .ok (.invokevirtual 262, 3) := by decide +kernel
theorem dX5_does_63 : decode cX5_does 63 = .ok (.ifCond .ne 6, 3) := by decide +kernel
theorem dX5_does_66 : decode cX5_does 66 = .ok (.goto 33, 3) := by decide +kernel
theorem dX5_does_69 : decode cX5_does 69 = .ok (.aload_n 0, 1) := by decide +kernel
theorem dX5_does_70 : decode cX5_does 70 = .ok (.aload_n 0, 1) := by decide +kernel
theorem dX5_does_71 : decode cX5_does 71 = .ok (.getfield 26, 3) := by decide +kernel
theorem dX5_does_74 : decode cX5_does 74 = .ok (.getfield 265, 3) := by decide +kernel
theorem dX5_does_77 : decode cX5_does 77 = .ok (.aload_n 0, 1) := by decide +kernel
theorem dX5_does_78 : decode cX5_does 78 = .ok (.getfield 26, 3) := by decide +kernel
theorem dX5_does_81 : decode cX5_does 81 = .ok (.getfield 268, 3) := by decide +kernel
theorem dX5_does_84 : decode cX5_does 84 = .ok (.invokevirtual 271, 3) := by decide +kernel
theorem dX5_does_87 : decode cX5_does 87 = .ok (.ifCond .eq 6, 3) := by decide +kernel
theorem dX5_does_90 : decode cX5_does 90 = .ok (.iinc 2 1, 3) := by decide +kernel
theorem dX5_does_93 : decode cX5_does 93 = .ok (.iinc 3 1, 3) := by decide +kernel
theorem dX5_does_96 : decode cX5_does 96 = .ok (.goto (-56), 3) := by decide +kernel
theorem dX5_does_99 : decode cX5_does 99 = .ok (.iload_n 2, 1) := by decide +kernel
theorem dX5_does_100 : decode cX5_does 100 = .ok (.ireturn, 1) := by decide +kernel
theorem dX5_back_0 : decode cX5_back 0 = .ok (.aload_n 0, 1) := by decide +kernel
theorem dX5_back_1 : decode cX5_back 1 = .ok (.getfield 19, 3) := by decide +kernel
theorem dX5_back_4 : decode cX5_back 4 = .ok (.getfield 275, 3) := by decide +kernel
theorem dX5_back_7 : decode cX5_back 7 = .ok (.ifCond .ne 8, 3) := by decide +kernel
theorem dX5_back_10 : decode cX5_back 10 = .ok (.aload_n 0, 1) := by decide +kernel
theorem dX5_back_11 : decode cX5_back 11 = .ok (.invokevirtual 175, 3) := by decide +kernel
theorem dX5_back_14 : decode cX5_back 14 = .ok (.ireturn, 1) := by decide +kernel
theorem dX5_back_15 : decode cX5_back 15 = .ok (.aload_n 0, 1) := by decide +kernel
theorem dX5_back_16 : decode cX5_back 16 = .ok (.getfield 19, 3) := by decide +kernel
theorem dX5_back_19 : decode cX5_back 19 = .ok (.aload_n 0, 1) := by decide +kernel
theorem dX5_back_20 : decode cX5_back 20 = .ok (.getfield 10, 3) := by decide +kernel
theorem dX5_back_23 : decode cX5_back 23 = .ok (.invokevirtual 278, 3) := by decide +kernel
theorem dX5_back_26 : decode cX5_back 26 = .ok (.ireturn, 1) := by decide +kernel
theorem dX5_told_0 : decode cX5_told 0 = .ok (.iload_n 1, 1) := by decide +kernel
theorem dX5_told_1 : decode cX5_told 1 = .ok (.tableswitch 90 0 6 #[43, 48, 53, 58, 66, 74, 82], 43) := by decide +kernel
theorem dX5_told_44 : decode cX5_told 44 = .ok (.aload_n 0, 1) := by decide +kernel
theorem dX5_told_45 : decode cX5_told 45 = .ok (.getfield 282, 3) := by decide +kernel
theorem dX5_told_48 : decode cX5_told 48 = .ok (.ireturn, 1) := by decide +kernel
theorem dX5_told_49 : decode cX5_told 49 = .ok (.aload_n 0, 1) := by decide +kernel
theorem dX5_told_50 : decode cX5_told 50 = .ok (.getfield 285, 3) := by decide +kernel
theorem dX5_told_53 : decode cX5_told 53 = .ok (.ireturn, 1) := by decide +kernel
theorem dX5_told_54 : decode cX5_told 54 = .ok (.aload_n 0, 1) := by decide +kernel
theorem dX5_told_55 : decode cX5_told 55 = .ok (.getfield 288, 3) := by decide +kernel
theorem dX5_told_58 : decode cX5_told 58 = .ok (.ireturn, 1) := by decide +kernel
theorem dX5_told_59 : decode cX5_told 59 = .ok (.aload_n 0, 1) := by decide +kernel
theorem dX5_told_60 : decode cX5_told 60 = .ok (.getfield 10, 3) := by decide +kernel
theorem dX5_told_63 : decode cX5_told 63 = .ok (.getfield 291, 3) := by decide +kernel
theorem dX5_told_66 : decode cX5_told 66 = .ok (.ireturn, 1) := by decide +kernel
theorem dX5_told_67 : decode cX5_told 67 = .ok (.aload_n 0, 1) := by decide +kernel
theorem dX5_told_68 : decode cX5_told 68 = .ok (.getfield 10, 3) := by decide +kernel
theorem dX5_told_71 : decode cX5_told 71 = .ok (.getfield 231, 3) := by decide +kernel
theorem dX5_told_74 : decode cX5_told 74 = .ok (.ireturn, 1) := by decide +kernel
theorem dX5_told_75 : decode cX5_told 75 = .ok (.aload_n 0, 1) := by decide +kernel
theorem dX5_told_76 : decode cX5_told 76 = .ok (.getfield 26, 3) := by decide +kernel
theorem dX5_told_79 : decode cX5_told 79 = .ok (.getfield 294, 3) := by decide +kernel
theorem dX5_told_82 : decode cX5_told 82 = .ok (.ireturn, 1) := by decide +kernel
theorem dX5_told_83 : decode cX5_told 83 = .ok (.aload_n 0, 1) := by decide +kernel
theorem dX5_told_84 : decode cX5_told 84 = .ok (.getfield 19, 3) := by decide +kernel
theorem dX5_told_87 : decode cX5_told 87 = .ok (.getfield 275, 3) := by decide +kernel
theorem dX5_told_90 : decode cX5_told 90 = .ok (.ireturn, 1) := by decide +kernel
theorem dX5_told_91 : decode cX5_told 91 = .ok (.aload_n 0, 1) := by decide +kernel
theorem dX5_told_92 : decode cX5_told 92 = .ok (.invokevirtual 50, 3) := by decide +kernel
theorem dX5_told_95 : decode cX5_told 95 = .ok (.ireturn, 1) := by decide +kernel
theorem dX5_digest_0 : decode cX5_digest 0 = .ok (.ldc2_w 297, 3) := by decide +kernel
theorem dX5_digest_3 : decode cX5_digest 3 = .ok (.lstore_n 1, 1) := by decide +kernel
theorem dX5_digest_4 : decode cX5_digest 4 = .ok (.iconst 0, 1) := by decide +kernel
theorem dX5_digest_5 : decode cX5_digest 5 = .ok (.istore_n 3, 1) := by decide +kernel
theorem dX5_digest_6 : decode cX5_digest 6 = .ok (.iload_n 3, 1) := by decide +kernel
theorem dX5_digest_7 : decode cX5_digest 7 = .ok (.bipush 6, 2) := by decide +kernel
theorem dX5_digest_9 : decode cX5_digest 9 = .ok (.if_icmp .gt 20, 3) := by decide +kernel
theorem dX5_digest_12 : decode cX5_digest 12 = .ok (.lload_n 1, 1) := by decide +kernel
theorem dX5_digest_13 : decode cX5_digest 13 = .ok (.aload_n 0, 1) := by decide +kernel
theorem dX5_digest_14 : decode cX5_digest 14 = .ok (.iload_n 3, 1) := by decide +kernel
theorem dX5_digest_15 : decode cX5_digest 15 = .ok (.invokevirtual 299, 3) := by decide +kernel
theorem dX5_digest_18 : decode cX5_digest 18 = .ok (.i2l, 1) := by decide +kernel
theorem dX5_digest_19 : decode cX5_digest 19 = .ok (.invokestatic 302, 3) := by decide +kernel
theorem dX5_digest_22 : decode cX5_digest 22 = .ok (.lstore_n 1, 1) := by decide +kernel
theorem dX5_digest_23 : decode cX5_digest 23 = .ok (.iinc 3 1, 3) := by decide +kernel
theorem dX5_digest_26 : decode cX5_digest 26 = .ok (.goto (-20), 3) := by decide +kernel
theorem dX5_digest_29 : decode cX5_digest 29 = .ok (.iconst 0, 1) := by decide +kernel
theorem dX5_digest_30 : decode cX5_digest 30 = .ok (.istore_n 3, 1) := by decide +kernel
theorem dX5_digest_31 : decode cX5_digest 31 = .ok (.iload_n 3, 1) := by decide +kernel
theorem dX5_digest_32 : decode cX5_digest 32 = .ok (.aload_n 0, 1) := by decide +kernel
theorem dX5_digest_33 : decode cX5_digest 33 = .ok (.getfield 10, 3) := by decide +kernel
theorem dX5_digest_36 : decode cX5_digest 36 = .ok (.getfield 291, 3) := by decide +kernel
theorem dX5_digest_39 : decode cX5_digest 39 = .ok (.if_icmp .ge 35, 3) := by decide +kernel
theorem dX5_digest_42 : decode cX5_digest 42 = .ok (.lload_n 1, 1) := by decide +kernel
theorem dX5_digest_43 : decode cX5_digest 43 = .ok (.aload_n 0, 1) := by decide +kernel
theorem dX5_digest_44 : decode cX5_digest 44 = .ok (.getfield 10, 3) := by decide +kernel
theorem dX5_digest_47 : decode cX5_digest 47 = .ok (.getfield 169, 3) := by decide +kernel
theorem dX5_digest_50 : decode cX5_digest 50 = .ok (.iload_n 3, 1) := by decide +kernel
theorem dX5_digest_51 : decode cX5_digest 51 = .ok (.iaload, 1) := by decide +kernel
theorem dX5_digest_52 : decode cX5_digest 52 = .ok (.i2l, 1) := by decide +kernel
theorem dX5_digest_53 : decode cX5_digest 53 = .ok (.invokestatic 302, 3) := by decide +kernel
theorem dX5_digest_56 : decode cX5_digest 56 = .ok (.lstore_n 1, 1) := by decide +kernel
theorem dX5_digest_57 : decode cX5_digest 57 = .ok (.lload_n 1, 1) := by decide +kernel
theorem dX5_digest_58 : decode cX5_digest 58 = .ok (.aload_n 0, 1) := by decide +kernel
theorem dX5_digest_59 : decode cX5_digest 59 = .ok (.iload_n 3, 1) := by decide +kernel
theorem dX5_digest_60 : decode cX5_digest 60 = .ok (.invokevirtual 306, 3) := by decide +kernel
theorem dX5_digest_63 : decode cX5_digest 63 = .ok (.i2l, 1) := by decide +kernel
theorem dX5_digest_64 : decode cX5_digest 64 = .ok (.invokestatic 302, 3) := by decide +kernel
theorem dX5_digest_67 : decode cX5_digest 67 = .ok (.lstore_n 1, 1) := by decide +kernel
theorem dX5_digest_68 : decode cX5_digest 68 = .ok (.iinc 3 1, 3) := by decide +kernel
theorem dX5_digest_71 : decode cX5_digest 71 = .ok (.goto (-40), 3) := by decide +kernel
theorem dX5_digest_74 : decode cX5_digest 74 = .ok (.iconst 0, 1) := by decide +kernel
theorem dX5_digest_75 : decode cX5_digest 75 = .ok (.istore_n 3, 1) := by decide +kernel
theorem dX5_digest_76 : decode cX5_digest 76 = .ok (.iload_n 3, 1) := by decide +kernel
theorem dX5_digest_77 : decode cX5_digest 77 = .ok (.aload_n 0, 1) := by decide +kernel
theorem dX5_digest_78 : decode cX5_digest 78 = .ok (.getfield 10, 3) := by decide +kernel
theorem dX5_digest_81 : decode cX5_digest 81 = .ok (.getfield 231, 3) := by decide +kernel
theorem dX5_digest_84 : decode cX5_digest 84 = .ok (.if_icmp .ge 59, 3) := by decide +kernel
theorem dX5_digest_87 : decode cX5_digest 87 = .ok (.iconst 0, 1) := by decide +kernel
theorem dX5_digest_88 : decode cX5_digest 88 = .ok (.istore 4, 2) := by decide +kernel
theorem dX5_digest_90 : decode cX5_digest 90 = .ok (.iload 4, 2) := by decide +kernel
theorem dX5_digest_92 : decode cX5_digest 92 = .ok (.iconst 5, 1) := by decide +kernel
theorem dX5_digest_93 : decode cX5_digest 93 = .ok (.if_icmp .gt 22, 3) := by decide +kernel
theorem dX5_digest_96 : decode cX5_digest 96 = .ok (.lload_n 1, 1) := by decide +kernel
theorem dX5_digest_97 : decode cX5_digest 97 = .ok (.aload_n 0, 1) := by decide +kernel
theorem dX5_digest_98 : decode cX5_digest 98 = .ok (.iload_n 3, 1) := by decide +kernel
theorem dX5_digest_99 : decode cX5_digest 99 = .ok (.iload 4, 2) := by decide +kernel
theorem dX5_digest_101 : decode cX5_digest 101 = .ok (.invokevirtual 309, 3) := by decide +kernel
theorem dX5_digest_104 : decode cX5_digest 104 = .ok (.i2l, 1) := by decide +kernel
theorem dX5_digest_105 : decode cX5_digest 105 = .ok (.invokestatic 302, 3) := by decide +kernel
theorem dX5_digest_108 : decode cX5_digest 108 = .ok (.lstore_n 1, 1) := by decide +kernel
theorem dX5_digest_109 : decode cX5_digest 109 = .ok (.iinc 4 1, 3) := by decide +kernel
theorem dX5_digest_112 : decode cX5_digest 112 = .ok (.goto (-22), 3) := by decide +kernel
theorem dX5_digest_115 : decode cX5_digest 115 = .ok (.lload_n 1, 1) := by decide +kernel
theorem dX5_digest_116 : decode cX5_digest 116 = .ok (.aload_n 0, 1) := by decide +kernel
theorem dX5_digest_117 : decode cX5_digest 117 = .ok (.iload_n 3, 1) := by decide +kernel
theorem dX5_digest_118 : decode cX5_digest 118 = .ok (.iconst 0, 1) := by decide +kernel
theorem dX5_digest_119 : decode cX5_digest 119 = .ok (.invokevirtual 312, 3) := by decide +kernel
theorem dX5_digest_122 : decode cX5_digest 122 = .ok (.invokestatic 302, 3) := by decide +kernel
theorem dX5_digest_125 : decode cX5_digest 125 = .ok (.lstore_n 1, 1) := by decide +kernel
theorem dX5_digest_126 : decode cX5_digest 126 = .ok (.lload_n 1, 1) := by decide +kernel
theorem dX5_digest_127 : decode cX5_digest 127 = .ok (.aload_n 0, 1) := by decide +kernel
theorem dX5_digest_128 : decode cX5_digest 128 = .ok (.iload_n 3, 1) := by decide +kernel
theorem dX5_digest_129 : decode cX5_digest 129 = .ok (.iconst 1, 1) := by decide +kernel
theorem dX5_digest_130 : decode cX5_digest 130 = .ok (.invokevirtual 312, 3) := by decide +kernel
theorem dX5_digest_133 : decode cX5_digest 133 = .ok (.invokestatic 302, 3) := by decide +kernel
theorem dX5_digest_136 : decode cX5_digest 136 = .ok (.lstore_n 1, 1) := by decide +kernel
theorem dX5_digest_137 : decode cX5_digest 137 = .ok (.iinc 3 1, 3) := by decide +kernel
theorem dX5_digest_140 : decode cX5_digest 140 = .ok (.goto (-64), 3) := by decide +kernel
theorem dX5_digest_143 : decode cX5_digest 143 = .ok (.lload_n 1, 1) := by decide +kernel
theorem dX5_digest_144 : decode cX5_digest 144 = .ok (.aload_n 0, 1) := by decide +kernel
theorem dX5_digest_145 : decode cX5_digest 145 = .ok (.iconst (-1), 1) := by decide +kernel
theorem dX5_digest_146 : decode cX5_digest 146 = .ok (.iconst 0, 1) := by decide +kernel
theorem dX5_digest_147 : decode cX5_digest 147 = .ok (.invokevirtual 316, 3) := by decide +kernel
theorem dX5_digest_150 : decode cX5_digest 150 = .ok (.invokestatic 302, 3) := by decide +kernel
theorem dX5_digest_153 : decode cX5_digest 153 = .ok (.lstore_n 1, 1) := by decide +kernel
theorem dX5_digest_154 : decode cX5_digest 154 = .ok (.iconst 0, 1) := by decide +kernel
theorem dX5_digest_155 : decode cX5_digest 155 = .ok (.istore_n 3, 1) := by decide +kernel
theorem dX5_digest_156 : decode cX5_digest 156 = .ok (.iload_n 3, 1) := by decide +kernel
theorem dX5_digest_157 : decode cX5_digest 157 = .ok (.iconst 5, 1) := by decide +kernel
theorem dX5_digest_158 : decode cX5_digest 158 = .ok (.if_icmp .gt 20, 3) := by decide +kernel
theorem dX5_digest_161 : decode cX5_digest 161 = .ok (.lload_n 1, 1) := by decide +kernel
theorem dX5_digest_162 : decode cX5_digest 162 = .ok (.aload_n 0, 1) := by decide +kernel
theorem dX5_digest_163 : decode cX5_digest 163 = .ok (.iload_n 3, 1) := by decide +kernel
theorem dX5_digest_164 : decode cX5_digest 164 = .ok (.invokevirtual 319, 3) := by decide +kernel
theorem dX5_digest_167 : decode cX5_digest 167 = .ok (.i2l, 1) := by decide +kernel
theorem dX5_digest_168 : decode cX5_digest 168 = .ok (.invokestatic 302, 3) := by decide +kernel
theorem dX5_digest_171 : decode cX5_digest 171 = .ok (.lstore_n 1, 1) := by decide +kernel
theorem dX5_digest_172 : decode cX5_digest 172 = .ok (.iinc 3 1, 3) := by decide +kernel
theorem dX5_digest_175 : decode cX5_digest 175 = .ok (.goto (-19), 3) := by decide +kernel
theorem dX5_digest_178 : decode cX5_digest 178 = .ok (.lload_n 1, 1) := by decide +kernel
theorem dX5_digest_179 : decode cX5_digest 179 = .ok (.lreturn, 1) := by decide +kernel
theorem dX5_bad_0 : decode cX5_bad 0 = .ok (.aload_n 0, 1) := by decide +kernel
theorem dX5_bad_1 : decode cX5_bad 1 = .ok (.dup, 1) := by decide +kernel
theorem dX5_bad_2 : decode cX5_bad 2 = .ok (.getfield 282, 3) := by decide +kernel
theorem dX5_bad_5 : decode cX5_bad 5 = .ok (.iconst 1, 1) := by decide +kernel
theorem dX5_bad_6 : decode cX5_bad 6 = .ok (.iadd, 1) := by decide +kernel
theorem dX5_bad_7 : decode cX5_bad 7 = .ok (.putfield 282, 3) := by decide +kernel
theorem dX5_bad_10 : decode cX5_bad 10 = .ok (.bipush (-2), 2) := by decide +kernel
theorem dX5_bad_12 : decode cX5_bad 12 = .ok (.ireturn, 1) := by decide +kernel
theorem dX5_no_0 : decode cX5_no 0 = .ok (.aload_n 0, 1) := by decide +kernel
theorem dX5_no_1 : decode cX5_no 1 = .ok (.dup, 1) := by decide +kernel
theorem dX5_no_2 : decode cX5_no 2 = .ok (.getfield 285, 3) := by decide +kernel
theorem dX5_no_5 : decode cX5_no 5 = .ok (.iconst 1, 1) := by decide +kernel
theorem dX5_no_6 : decode cX5_no 6 = .ok (.iadd, 1) := by decide +kernel
theorem dX5_no_7 : decode cX5_no 7 = .ok (.putfield 285, 3) := by decide +kernel
theorem dX5_no_10 : decode cX5_no 10 = .ok (.bipush (-3), 2) := by decide +kernel
theorem dX5_no_12 : decode cX5_no 12 = .ok (.ireturn, 1) := by decide +kernel
theorem dX5_full_0 : decode cX5_full 0 = .ok (.aload_n 0, 1) := by decide +kernel
theorem dX5_full_1 : decode cX5_full 1 = .ok (.dup, 1) := by decide +kernel
theorem dX5_full_2 : decode cX5_full 2 = .ok (.getfield 288, 3) := by decide +kernel
theorem dX5_full_5 : decode cX5_full 5 = .ok (.iconst 1, 1) := by decide +kernel
theorem dX5_full_6 : decode cX5_full 6 = .ok (.iadd, 1) := by decide +kernel
theorem dX5_full_7 : decode cX5_full 7 = .ok (.putfield 288, 3) := by decide +kernel
theorem dX5_full_10 : decode cX5_full 10 = .ok (.bipush (-4), 2) := by decide +kernel
theorem dX5_full_12 : decode cX5_full 12 = .ok (.ireturn, 1) := by decide +kernel
theorem dX5_isBridge_0 : decode cX5_isBridge 0 = .ok (.aload_n 0, 1) := by decide +kernel
theorem dX5_isBridge_1 : decode cX5_isBridge 1 = .ok (.getfield 10, 3) := by decide +kernel
theorem dX5_isBridge_4 : decode cX5_isBridge 4 = .ok (.getfield 126, 3) := by decide +kernel
theorem dX5_isBridge_7 : decode cX5_isBridge 7 = .ok (.iload_n 1, 1) := by decide +kernel
theorem dX5_isBridge_8 : decode cX5_isBridge 8 = .ok (.baload, 1) := by decide +kernel
theorem dX5_isBridge_9 : decode cX5_isBridge 9 = .ok (.ifCond .ne 5, 3) := by decide +kernel
theorem dX5_isBridge_12 : decode cX5_isBridge 12 = .ok (.iconst 0, 1) := by decide +kernel
theorem dX5_isBridge_13 : decode cX5_isBridge 13 = .ok (.ireturn, 1) := by decide +kernel
theorem dX5_isBridge_14 : decode cX5_isBridge 14 = .ok (.aload_n 0, 1) := by decide +kernel
theorem dX5_isBridge_15 : decode cX5_isBridge 15 = .ok (.getfield 35, 3) := by decide +kernel
theorem dX5_isBridge_18 : decode cX5_isBridge 18 = .ok (.iload_n 1, 1) := by decide +kernel
theorem dX5_isBridge_19 : decode cX5_isBridge 19 = .ok (.iconst (-1), 1) := by decide +kernel
theorem dX5_isBridge_20 : decode cX5_isBridge 20 = .ok (.invokevirtual 133, 3) := by decide +kernel
theorem dX5_isBridge_23 : decode cX5_isBridge 23 = .ok (.aload_n 0, 1) := by decide +kernel
theorem dX5_isBridge_24 : decode cX5_isBridge 24 = .ok (.getfield 35, 3) := by decide +kernel
theorem dX5_isBridge_27 : decode cX5_isBridge 27 = .ok (.aload_n 0, 1) := by decide +kernel
theorem dX5_isBridge_28 : decode cX5_isBridge 28 = .ok (.getfield 10, 3) := by decide +kernel
theorem dX5_isBridge_31 : decode cX5_isBridge 31 = .ok (.getfield 113, 3) := by decide +kernel
theorem dX5_isBridge_34 : decode cX5_isBridge 34 = .ok (.iload_n 1, 1) := by decide +kernel
theorem dX5_isBridge_35 : decode cX5_isBridge 35 = .ok (.iaload, 1) := by decide +kernel
theorem dX5_isBridge_36 : decode cX5_isBridge 36 = .ok (.aload_n 0, 1) := by decide +kernel
theorem dX5_isBridge_37 : decode cX5_isBridge 37 = .ok (.getfield 10, 3) := by decide +kernel
theorem dX5_isBridge_40 : decode cX5_isBridge 40 = .ok (.getfield 117, 3) := by decide +kernel
theorem dX5_isBridge_43 : decode cX5_isBridge 43 = .ok (.iload_n 1, 1) := by decide +kernel
theorem dX5_isBridge_44 : decode cX5_isBridge 44 = .ok (.iaload, 1) := by decide +kernel
theorem dX5_isBridge_45 : decode cX5_isBridge 45 = .ok (.invokevirtual 225, 3) := by decide +kernel
theorem dX5_isBridge_48 : decode cX5_isBridge 48 = .ok (.ifCond .ne 7, 3) := by decide +kernel
theorem dX5_isBridge_51 : decode cX5_isBridge 51 = .ok (.iconst 1, 1) := by decide +kernel
theorem dX5_isBridge_52 : decode cX5_isBridge 52 = .ok (.goto 4, 3) := by decide +kernel
theorem dX5_isBridge_55 : decode cX5_isBridge 55 = .ok (.iconst 0, 1) := by decide +kernel
theorem dX5_isBridge_56 : decode cX5_isBridge 56 = .ok (.ireturn, 1) := by decide +kernel
theorem dX5_bridges_0 : decode cX5_bridges 0 = .ok (.iconst 0, 1) := by decide +kernel
theorem dX5_bridges_1 : decode cX5_bridges 1 = .ok (.istore_n 1, 1) := by decide +kernel
theorem dX5_bridges_2 : decode cX5_bridges 2 = .ok (.iconst 0, 1) := by decide +kernel
theorem dX5_bridges_3 : decode cX5_bridges 3 = .ok (.istore_n 2, 1) := by decide +kernel
theorem dX5_bridges_4 : decode cX5_bridges 4 = .ok (.iload_n 2, 1) := by decide +kernel
theorem dX5_bridges_5 : decode cX5_bridges 5 = .ok (.aload_n 0, 1) := by decide +kernel
theorem dX5_bridges_6 : decode cX5_bridges 6 = .ok (.getfield 10, 3) := by decide +kernel
theorem dX5_bridges_9 : decode cX5_bridges 9 = .ok (.getfield 231, 3) := by decide +kernel
theorem dX5_bridges_12 : decode cX5_bridges 12 = .ok (.if_icmp .ge 20, 3) := by decide +kernel
theorem dX5_bridges_15 : decode cX5_bridges 15 = .ok (.aload_n 0, 1) := by decide +kernel
theorem dX5_bridges_16 : decode cX5_bridges 16 = .ok (.iload_n 2, 1) := by decide +kernel
theorem dX5_bridges_17 : decode cX5_bridges 17 = .ok (.invokevirtual 130, 3) := by decide +kernel
theorem dX5_bridges_20 : decode cX5_bridges 20 = .ok (.ifCond .eq 6, 3) := by decide +kernel
theorem dX5_bridges_23 : decode cX5_bridges 23 = .ok (.iinc 1 1, 3) := by decide +kernel
theorem dX5_bridges_26 : decode cX5_bridges 26 = .ok (.iinc 2 1, 3) := by decide +kernel
theorem dX5_bridges_29 : decode cX5_bridges 29 = .ok (.goto (-25), 3) := by decide +kernel
theorem dX5_bridges_32 : decode cX5_bridges 32 = .ok (.iload_n 1, 1) := by decide +kernel
theorem dX5_bridges_33 : decode cX5_bridges 33 = .ok (.ireturn, 1) := by decide +kernel
theorem dX5_rankLines_0 : decode cX5_rankLines 0 = .ok (.aload_n 0, 1) := by decide +kernel
theorem dX5_rankLines_1 : decode cX5_rankLines 1 = .ok (.getfield 42, 3) := by decide +kernel
theorem dX5_rankLines_4 : decode cX5_rankLines 4 = .ok (.iconst 0, 1) := by decide +kernel
theorem dX5_rankLines_5 : decode cX5_rankLines 5 = .ok (.putfield 322, 3) := by decide +kernel
theorem dX5_rankLines_8 : decode cX5_rankLines 8 = .ok (.iconst 0, 1) := by decide +kernel
theorem dX5_rankLines_9 : decode cX5_rankLines 9 = .ok (.istore_n 1, 1) := by decide +kernel
theorem dX5_rankLines_10 : decode cX5_rankLines 10 = .ok (.iload_n 1, 1) := by decide +kernel
theorem dX5_rankLines_11 : decode cX5_rankLines 11 = .ok (.aload_n 0, 1) := by decide +kernel
theorem dX5_rankLines_12 : decode cX5_rankLines 12 = .ok (.getfield 10, 3) := by decide +kernel
theorem dX5_rankLines_15 : decode cX5_rankLines 15 = .ok (.getfield 231, 3) := by decide +kernel
theorem dX5_rankLines_18 : decode cX5_rankLines 18 = .ok (.if_icmp .ge 27, 3) := by decide +kernel
theorem dX5_rankLines_21 : decode cX5_rankLines 21 = .ok (.aload_n 0, 1) := by decide +kernel
theorem dX5_rankLines_22 : decode cX5_rankLines 22 = .ok (.getfield 10, 3) := by decide +kernel
theorem dX5_rankLines_25 : decode cX5_rankLines 25 = .ok (.getfield 126, 3) := by decide +kernel
theorem dX5_rankLines_28 : decode cX5_rankLines 28 = .ok (.iload_n 1, 1) := by decide +kernel
theorem dX5_rankLines_29 : decode cX5_rankLines 29 = .ok (.baload, 1) := by decide +kernel
theorem dX5_rankLines_30 : decode cX5_rankLines 30 = .ok (.ifCond .eq 9, 3) := by decide +kernel
theorem dX5_rankLines_33 : decode cX5_rankLines 33 = .ok (.aload_n 0, 1) := by decide +kernel
theorem dX5_rankLines_34 : decode cX5_rankLines 34 = .ok (.iload_n 1, 1) := by decide +kernel
theorem dX5_rankLines_35 : decode cX5_rankLines 35 = .ok (.iconst (-1), 1) := by decide +kernel
theorem dX5_rankLines_36 : decode cX5_rankLines 36 = .ok (.invokevirtual 323, 3) := by decide +kernel
theorem dX5_rankLines_39 : decode cX5_rankLines 39 = .ok (.iinc 1 1, 3) := by decide +kernel
theorem dX5_rankLines_42 : decode cX5_rankLines 42 = .ok (.goto (-32), 3) := by decide +kernel
theorem dX5_rankLines_45 : decode cX5_rankLines 45 = .ok (.return_, 1) := by decide +kernel
theorem dX5_rankPairs_0 : decode cX5_rankPairs 0 = .ok (.aload_n 0, 1) := by decide +kernel
theorem dX5_rankPairs_1 : decode cX5_rankPairs 1 = .ok (.getfield 42, 3) := by decide +kernel
theorem dX5_rankPairs_4 : decode cX5_rankPairs 4 = .ok (.iconst 0, 1) := by decide +kernel
theorem dX5_rankPairs_5 : decode cX5_rankPairs 5 = .ok (.putfield 322, 3) := by decide +kernel
theorem dX5_rankPairs_8 : decode cX5_rankPairs 8 = .ok (.iconst 0, 1) := by decide +kernel
theorem dX5_rankPairs_9 : decode cX5_rankPairs 9 = .ok (.istore_n 1, 1) := by decide +kernel
theorem dX5_rankPairs_10 : decode cX5_rankPairs 10 = .ok (.iload_n 1, 1) := by decide +kernel
theorem dX5_rankPairs_11 : decode cX5_rankPairs 11 = .ok (.aload_n 0, 1) := by decide +kernel
theorem dX5_rankPairs_12 : decode cX5_rankPairs 12 = .ok (.getfield 10, 3) := by decide +kernel
theorem dX5_rankPairs_15 : decode cX5_rankPairs 15 = .ok (.getfield 231, 3) := by decide +kernel
theorem dX5_rankPairs_18 : decode cX5_rankPairs 18 = .ok (.if_icmp .ge 60, 3) := by decide +kernel
theorem dX5_rankPairs_21 : decode cX5_rankPairs 21 = .ok (.iload_n 1, 1) := by decide +kernel
theorem dX5_rankPairs_22 : decode cX5_rankPairs 22 = .ok (.iconst 1, 1) := by decide +kernel
theorem dX5_rankPairs_23 : decode cX5_rankPairs 23 = .ok (.iadd, 1) := by decide +kernel
theorem dX5_rankPairs_24 : decode cX5_rankPairs 24 = .ok (.istore_n 2, 1) := by decide +kernel
theorem dX5_rankPairs_25 : decode cX5_rankPairs 25 = .ok (.iload_n 2, 1) := by decide +kernel
theorem dX5_rankPairs_26 : decode cX5_rankPairs 26 = .ok (.aload_n 0, 1) := by decide +kernel
theorem dX5_rankPairs_27 : decode cX5_rankPairs 27 = .ok (.getfield 10, 3) := by decide +kernel
theorem dX5_rankPairs_30 : decode cX5_rankPairs 30 = .ok (.getfield 231, 3) := by decide +kernel
theorem dX5_rankPairs_33 : decode cX5_rankPairs 33 = .ok (.if_icmp .ge 39, 3) := by decide +kernel
theorem dX5_rankPairs_36 : decode cX5_rankPairs 36 = .ok (.aload_n 0, 1) := by decide +kernel
theorem dX5_rankPairs_37 : decode cX5_rankPairs 37 = .ok (.getfield 10, 3) := by decide +kernel
theorem dX5_rankPairs_40 : decode cX5_rankPairs 40 = .ok (.getfield 126, 3) := by decide +kernel
theorem dX5_rankPairs_43 : decode cX5_rankPairs 43 = .ok (.iload_n 1, 1) := by decide +kernel
theorem dX5_rankPairs_44 : decode cX5_rankPairs 44 = .ok (.baload, 1) := by decide +kernel
theorem dX5_rankPairs_45 : decode cX5_rankPairs 45 = .ok (.ifCond .eq 21, 3) := by decide +kernel
theorem dX5_rankPairs_48 : decode cX5_rankPairs 48 = .ok (.aload_n 0, 1) := by decide +kernel
theorem dX5_rankPairs_49 : decode cX5_rankPairs 49 = .ok (.getfield 10, 3) := by decide +kernel
theorem dX5_rankPairs_52 : decode cX5_rankPairs 52 = .ok (.getfield 126, 3) := by decide +kernel
theorem dX5_rankPairs_55 : decode cX5_rankPairs 55 = .ok (.iload_n 2, 1) := by decide +kernel
theorem dX5_rankPairs_56 : decode cX5_rankPairs 56 = .ok (.baload, 1) := by decide +kernel
theorem dX5_rankPairs_57 : decode cX5_rankPairs 57 = .ok (.ifCond .eq 9, 3) := by decide +kernel
theorem dX5_rankPairs_60 : decode cX5_rankPairs 60 = .ok (.aload_n 0, 1) := by decide +kernel
theorem dX5_rankPairs_61 : decode cX5_rankPairs 61 = .ok (.iload_n 1, 1) := by decide +kernel
theorem dX5_rankPairs_62 : decode cX5_rankPairs 62 = .ok (.iload_n 2, 1) := by decide +kernel
theorem dX5_rankPairs_63 : decode cX5_rankPairs 63 = .ok (.invokevirtual 323, 3) := by decide +kernel
theorem dX5_rankPairs_66 : decode cX5_rankPairs 66 = .ok (.iinc 2 1, 3) := by decide +kernel
theorem dX5_rankPairs_69 : decode cX5_rankPairs 69 = .ok (.goto (-44), 3) := by decide +kernel
theorem dX5_rankPairs_72 : decode cX5_rankPairs 72 = .ok (.iinc 1 1, 3) := by decide +kernel
theorem dX5_rankPairs_75 : decode cX5_rankPairs 75 = .ok (.goto (-65), 3) := by decide +kernel
theorem dX5_rankPairs_78 : decode cX5_rankPairs 78 = .ok (.return_, 1) := by decide +kernel
theorem dX5_rank_0 : decode cX5_rank 0 = .ok (.aload_n 0, 1) := by decide +kernel
theorem dX5_rank_1 : decode cX5_rank 1 = .ok (.getfield 35, 3) := by decide +kernel
theorem dX5_rank_4 : decode cX5_rank 4 = .ok (.iload_n 1, 1) := by decide +kernel
theorem dX5_rank_5 : decode cX5_rank 5 = .ok (.iload_n 2, 1) := by decide +kernel
theorem dX5_rank_6 : decode cX5_rank 6 = .ok (.invokevirtual 133, 3) := by decide +kernel
theorem dX5_rank_9 : decode cX5_rank 9 = .ok (.aload_n 0, 1) := by decide +kernel
theorem dX5_rank_10 : decode cX5_rank 10 = .ok (.getfield 35, 3) := by decide +kernel
theorem dX5_rank_13 : decode cX5_rank 13 = .ok (.invokevirtual 178, 3) := by decide +kernel
theorem dX5_rank_16 : decode cX5_rank 16 = .ok (.aload_n 0, 1) := by decide +kernel
theorem dX5_rank_17 : decode cX5_rank 17 = .ok (.getfield 42, 3) := by decide +kernel
theorem dX5_rank_20 : decode cX5_rank 20 = .ok (.iload_n 1, 1) := by decide +kernel
theorem dX5_rank_21 : decode cX5_rank 21 = .ok (.iload_n 2, 1) := by decide +kernel
theorem dX5_rank_22 : decode cX5_rank 22 = .ok (.aload_n 0, 1) := by decide +kernel
theorem dX5_rank_23 : decode cX5_rank 23 = .ok (.getfield 35, 3) := by decide +kernel
theorem dX5_rank_26 : decode cX5_rank 26 = .ok (.getfield 185, 3) := by decide +kernel
theorem dX5_rank_29 : decode cX5_rank 29 = .ok (.aload_n 0, 1) := by decide +kernel
theorem dX5_rank_30 : decode cX5_rank 30 = .ok (.getfield 35, 3) := by decide +kernel
theorem dX5_rank_33 : decode cX5_rank 33 = .ok (.getfield 188, 3) := by decide +kernel
theorem dX5_rank_36 : decode cX5_rank 36 = .ok (.invokevirtual 326, 3) := by decide +kernel
theorem dX5_rank_39 : decode cX5_rank 39 = .ok (.return_, 1) := by decide +kernel
theorem dX5_obeys_0 : decode cX5_obeys 0 = .ok (.aload_n 2, 1) := by decide +kernel
theorem dX5_obeys_1 : decode cX5_obeys 1 = .ok (.iconst 0, 1) := by decide +kernel
theorem dX5_obeys_2 : decode cX5_obeys 2 = .ok (.iaload, 1) := by decide +kernel
theorem dX5_obeys_3 : decode cX5_obeys 3 = .ok (.istore_n 3, 1) := by decide +kernel
theorem dX5_obeys_4 : decode cX5_obeys 4 = .ok (.aload_n 2, 1) := by decide +kernel
theorem dX5_obeys_5 : decode cX5_obeys 5 = .ok (.iconst 1, 1) := by decide +kernel
theorem dX5_obeys_6 : decode cX5_obeys 6 = .ok (.iaload, 1) := by decide +kernel
theorem dX5_obeys_7 : decode cX5_obeys 7 = .ok (.istore 4, 2) := by decide +kernel
theorem dX5_obeys_9 : decode cX5_obeys 9 = .ok (.iload_n 1, 1) := by decide +kernel
theorem dX5_obeys_10 : decode cX5_obeys 10 = .ok (.tableswitch 192 0 5 #[38, 69, 192, 192, 130, 161], 38) := by decide +kernel
theorem dX5_obeys_48 : decode cX5_obeys 48 = .ok (.aload_n 0, 1) := by decide +kernel
theorem dX5_obeys_49 : decode cX5_obeys 49 = .ok (.getfield 10, 3) := by decide +kernel
theorem dX5_obeys_52 : decode cX5_obeys 52 = .ok (.iload_n 3, 1) := by decide +kernel
theorem dX5_obeys_53 : decode cX5_obeys 53 = .ok (.iload 4, 2) := by decide +kernel
theorem dX5_obeys_55 : decode cX5_obeys 55 = .ok (.invokevirtual 61, 3) := by decide +kernel
theorem dX5_obeys_58 : decode cX5_obeys 58 = .ok (.istore 5, 2) := by decide +kernel
theorem dX5_obeys_60 : decode cX5_obeys 60 = .ok (.iload 5, 2) := by decide +kernel
theorem dX5_obeys_62 : decode cX5_obeys 62 = .ok (.ifCond .eq 14, 3) := by decide +kernel
theorem dX5_obeys_65 : decode cX5_obeys 65 = .ok (.aload_n 0, 1) := by decide +kernel
theorem dX5_obeys_66 : decode cX5_obeys 66 = .ok (.getfield 10, 3) := by decide +kernel
theorem dX5_obeys_69 : decode cX5_obeys 69 = .ok (.iload_n 3, 1) := by decide +kernel
theorem dX5_obeys_70 : decode cX5_obeys 70 = .ok (.iload 4, 2) := by decide +kernel
theorem dX5_obeys_72 : decode cX5_obeys 72 = .ok (.invokevirtual 65, 3) := by decide +kernel
theorem dX5_obeys_75 : decode cX5_obeys 75 = .ok (.pop, 1) := by decide +kernel
theorem dX5_obeys_76 : decode cX5_obeys 76 = .ok (.iload 5, 2) := by decide +kernel
theorem dX5_obeys_78 : decode cX5_obeys 78 = .ok (.ireturn, 1) := by decide +kernel
theorem dX5_obeys_79 : decode cX5_obeys 79 = .ok (.aload_n 0, 1) := by decide +kernel
theorem dX5_obeys_80 : decode cX5_obeys 80 = .ok (.getfield 10, 3) := by decide +kernel
theorem dX5_obeys_83 : decode cX5_obeys 83 = .ok (.iload_n 3, 1) := by decide +kernel
theorem dX5_obeys_84 : decode cX5_obeys 84 = .ok (.iload 4, 2) := by decide +kernel
theorem dX5_obeys_86 : decode cX5_obeys 86 = .ok (.aload_n 2, 1) := by decide +kernel
theorem dX5_obeys_87 : decode cX5_obeys 87 = .ok (.iconst 2, 1) := by decide +kernel
theorem dX5_obeys_88 : decode cX5_obeys 88 = .ok (.iaload, 1) := by decide +kernel
theorem dX5_obeys_89 : decode cX5_obeys 89 = .ok (.aload_n 2, 1) := by decide +kernel
theorem dX5_obeys_90 : decode cX5_obeys 90 = .ok (.iconst 3, 1) := by decide +kernel
theorem dX5_obeys_91 : decode cX5_obeys 91 = .ok (.iaload, 1) := by decide +kernel
theorem dX5_obeys_92 : decode cX5_obeys 92 = .ok (.invokevirtual 69, 3) := by decide +kernel
theorem dX5_obeys_95 : decode cX5_obeys 95 = .ok (.ifCond .eq 17, 3) := by decide +kernel
theorem dX5_obeys_98 : decode cX5_obeys 98 = .ok (.aload_n 0, 1) := by decide +kernel
theorem dX5_obeys_99 : decode cX5_obeys 99 = .ok (.getfield 10, 3) := by decide +kernel
theorem dX5_obeys_102 : decode cX5_obeys 102 = .ok (.invokevirtual 73, 3) := by decide +kernel
theorem dX5_obeys_105 : decode cX5_obeys 105 = .ok (.ifCond .ne 7, 3) := by decide +kernel
theorem dX5_obeys_108 : decode cX5_obeys 108 = .ok (.iconst 1, 1) := by decide +kernel
theorem dX5_obeys_109 : decode cX5_obeys 109 = .ok (.goto 4, 3) := by decide +kernel
theorem dX5_obeys_112 : decode cX5_obeys 112 = .ok (.iconst 0, 1) := by decide +kernel
theorem dX5_obeys_113 : decode cX5_obeys 113 = .ok (.istore 5, 2) := by decide +kernel
theorem dX5_obeys_115 : decode cX5_obeys 115 = .ok (.iload 5, 2) := by decide +kernel
theorem dX5_obeys_117 : decode cX5_obeys 117 = .ok (.ifCond .eq 20, 3) := by decide +kernel
theorem dX5_obeys_120 : decode cX5_obeys 120 = .ok (.aload_n 0, 1) := by decide +kernel
theorem dX5_obeys_121 : decode cX5_obeys 121 = .ok (.getfield 10, 3) := by decide +kernel
theorem dX5_obeys_124 : decode cX5_obeys 124 = .ok (.iload_n 3, 1) := by decide +kernel
theorem dX5_obeys_125 : decode cX5_obeys 125 = .ok (.iload 4, 2) := by decide +kernel
theorem dX5_obeys_127 : decode cX5_obeys 127 = .ok (.aload_n 2, 1) := by decide +kernel
theorem dX5_obeys_128 : decode cX5_obeys 128 = .ok (.iconst 2, 1) := by decide +kernel
theorem dX5_obeys_129 : decode cX5_obeys 129 = .ok (.iaload, 1) := by decide +kernel
theorem dX5_obeys_130 : decode cX5_obeys 130 = .ok (.aload_n 2, 1) := by decide +kernel
theorem dX5_obeys_131 : decode cX5_obeys 131 = .ok (.iconst 3, 1) := by decide +kernel
theorem dX5_obeys_132 : decode cX5_obeys 132 = .ok (.iaload, 1) := by decide +kernel
theorem dX5_obeys_133 : decode cX5_obeys 133 = .ok (.invokevirtual 80, 3) := by decide +kernel
theorem dX5_obeys_136 : decode cX5_obeys 136 = .ok (.pop, 1) := by decide +kernel
theorem dX5_obeys_137 : decode cX5_obeys 137 = .ok (.iload 5, 2) := by decide +kernel
theorem dX5_obeys_139 : decode cX5_obeys 139 = .ok (.ireturn, 1) := by decide +kernel
theorem dX5_obeys_140 : decode cX5_obeys 140 = .ok (.aload_n 0, 1) := by decide +kernel
theorem dX5_obeys_141 : decode cX5_obeys 141 = .ok (.getfield 10, 3) := by decide +kernel
theorem dX5_obeys_144 : decode cX5_obeys 144 = .ok (.iload_n 3, 1) := by decide +kernel
theorem dX5_obeys_145 : decode cX5_obeys 145 = .ok (.iload 4, 2) := by decide +kernel
theorem dX5_obeys_147 : decode cX5_obeys 147 = .ok (.invokevirtual 103, 3) := by decide +kernel
theorem dX5_obeys_150 : decode cX5_obeys 150 = .ok (.istore 5, 2) := by decide +kernel
theorem dX5_obeys_152 : decode cX5_obeys 152 = .ok (.iload 5, 2) := by decide +kernel
theorem dX5_obeys_154 : decode cX5_obeys 154 = .ok (.ifCond .eq 14, 3) := by decide +kernel
theorem dX5_obeys_157 : decode cX5_obeys 157 = .ok (.aload_n 0, 1) := by decide +kernel
theorem dX5_obeys_158 : decode cX5_obeys 158 = .ok (.getfield 10, 3) := by decide +kernel
theorem dX5_obeys_161 : decode cX5_obeys 161 = .ok (.iload_n 3, 1) := by decide +kernel
theorem dX5_obeys_162 : decode cX5_obeys 162 = .ok (.iload 4, 2) := by decide +kernel
theorem dX5_obeys_164 : decode cX5_obeys 164 = .ok (.invokevirtual 106, 3) := by decide +kernel
theorem dX5_obeys_167 : decode cX5_obeys 167 = .ok (.pop, 1) := by decide +kernel
theorem dX5_obeys_168 : decode cX5_obeys 168 = .ok (.iload 5, 2) := by decide +kernel
theorem dX5_obeys_170 : decode cX5_obeys 170 = .ok (.ireturn, 1) := by decide +kernel
theorem dX5_obeys_171 : decode cX5_obeys 171 = .ok (.aload_n 0, 1) := by decide +kernel
theorem dX5_obeys_172 : decode cX5_obeys 172 = .ok (.getfield 10, 3) := by decide +kernel
theorem dX5_obeys_175 : decode cX5_obeys 175 = .ok (.iload_n 3, 1) := by decide +kernel
theorem dX5_obeys_176 : decode cX5_obeys 176 = .ok (.iload 4, 2) := by decide +kernel
theorem dX5_obeys_178 : decode cX5_obeys 178 = .ok (.invokevirtual 97, 3) := by decide +kernel
theorem dX5_obeys_181 : decode cX5_obeys 181 = .ok (.istore 5, 2) := by decide +kernel
theorem dX5_obeys_183 : decode cX5_obeys 183 = .ok (.iload 5, 2) := by decide +kernel
theorem dX5_obeys_185 : decode cX5_obeys 185 = .ok (.ifCond .eq 14, 3) := by decide +kernel
theorem dX5_obeys_188 : decode cX5_obeys 188 = .ok (.aload_n 0, 1) := by decide +kernel
theorem dX5_obeys_189 : decode cX5_obeys 189 = .ok (.getfield 10, 3) := by decide +kernel
theorem dX5_obeys_192 : decode cX5_obeys 192 = .ok (.iload_n 3, 1) := by decide +kernel
theorem dX5_obeys_193 : decode cX5_obeys 193 = .ok (.iload 4, 2) := by decide +kernel
theorem dX5_obeys_195 : decode cX5_obeys 195 = .ok (.invokevirtual 100, 3) := by decide +kernel
theorem dX5_obeys_198 : decode cX5_obeys 198 = .ok (.pop, 1) := by decide +kernel
theorem dX5_obeys_199 : decode cX5_obeys 199 = .ok (.iload 5, 2) := by decide +kernel
theorem dX5_obeys_201 : decode cX5_obeys 201 = .ok (.ireturn, 1) := by decide +kernel
theorem dX5_obeys_202 : decode cX5_obeys 202 = .ok (.aload_n 0, 1) := by decide +kernel
theorem dX5_obeys_203 : decode cX5_obeys 203 = .ok (.iload_n 1, 1) := by decide +kernel
theorem dX5_obeys_204 : decode cX5_obeys 204 = .ok (.iload_n 3, 1) := by decide +kernel
theorem dX5_obeys_205 : decode cX5_obeys 205 = .ok (.invokevirtual 330, 3) := by decide +kernel
theorem dX5_obeys_208 : decode cX5_obeys 208 = .ok (.ireturn, 1) := by decide +kernel
theorem dX5_obeysShort_0 : decode cX5_obeysShort 0 = .ok (.iload_n 1, 1) := by decide +kernel
theorem dX5_obeysShort_1 : decode cX5_obeysShort 1 = .ok (.bipush 7, 2) := by decide +kernel
theorem dX5_obeysShort_3 : decode cX5_obeysShort 3 = .ok (.if_icmp .ne 23, 3) := by decide +kernel
theorem dX5_obeysShort_6 : decode cX5_obeysShort 6 = .ok (.iload_n 2, 1) := by decide +kernel
theorem dX5_obeysShort_7 : decode cX5_obeysShort 7 = .ok (.invokestatic 46, 3) := by decide +kernel
theorem dX5_obeysShort_10 : decode cX5_obeysShort 10 = .ok (.ifCond .eq 14, 3) := by decide +kernel
theorem dX5_obeysShort_13 : decode cX5_obeysShort 13 = .ok (.aload_n 0, 1) := by decide +kernel
theorem dX5_obeysShort_14 : decode cX5_obeysShort 14 = .ok (.getfield 10, 3) := by decide +kernel
theorem dX5_obeysShort_17 : decode cX5_obeysShort 17 = .ok (.iload_n 2, 1) := by decide +kernel
theorem dX5_obeysShort_18 : decode cX5_obeysShort 18 = .ok (.invokevirtual 57, 3) := by decide +kernel
theorem dX5_obeysShort_21 : decode cX5_obeysShort 21 = .ok (.pop, 1) := by decide +kernel
theorem dX5_obeysShort_22 : decode cX5_obeysShort 22 = .ok (.iconst 1, 1) := by decide +kernel
theorem dX5_obeysShort_23 : decode cX5_obeysShort 23 = .ok (.ireturn, 1) := by decide +kernel
theorem dX5_obeysShort_24 : decode cX5_obeysShort 24 = .ok (.iconst 0, 1) := by decide +kernel
theorem dX5_obeysShort_25 : decode cX5_obeysShort 25 = .ok (.ireturn, 1) := by decide +kernel
theorem dX5_obeysShort_26 : decode cX5_obeysShort 26 = .ok (.aload_n 0, 1) := by decide +kernel
theorem dX5_obeysShort_27 : decode cX5_obeysShort 27 = .ok (.getfield 10, 3) := by decide +kernel
theorem dX5_obeysShort_30 : decode cX5_obeysShort 30 = .ok (.iload_n 2, 1) := by decide +kernel
theorem dX5_obeysShort_31 : decode cX5_obeysShort 31 = .ok (.invokevirtual 84, 3) := by decide +kernel
theorem dX5_obeysShort_34 : decode cX5_obeysShort 34 = .ok (.ifCond .ne 5, 3) := by decide +kernel
theorem dX5_obeysShort_37 : decode cX5_obeysShort 37 = .ok (.iconst 0, 1) := by decide +kernel
theorem dX5_obeysShort_38 : decode cX5_obeysShort 38 = .ok (.ireturn, 1) := by decide +kernel
theorem dX5_obeysShort_39 : decode cX5_obeysShort 39 = .ok (.iload_n 1, 1) := by decide +kernel
theorem dX5_obeysShort_40 : decode cX5_obeysShort 40 = .ok (.bipush 6, 2) := by decide +kernel
theorem dX5_obeysShort_42 : decode cX5_obeysShort 42 = .ok (.if_icmp .ne 15, 3) := by decide +kernel
theorem dX5_obeysShort_45 : decode cX5_obeysShort 45 = .ok (.aload_n 0, 1) := by decide +kernel
theorem dX5_obeysShort_46 : decode cX5_obeysShort 46 = .ok (.getfield 10, 3) := by decide +kernel
theorem dX5_obeysShort_49 : decode cX5_obeysShort 49 = .ok (.iload_n 2, 1) := by decide +kernel
theorem dX5_obeysShort_50 : decode cX5_obeysShort 50 = .ok (.invokevirtual 87, 3) := by decide +kernel
theorem dX5_obeysShort_53 : decode cX5_obeysShort 53 = .ok (.pop, 1) := by decide +kernel
theorem dX5_obeysShort_54 : decode cX5_obeysShort 54 = .ok (.goto 22, 3) := by decide +kernel
theorem dX5_obeysShort_57 : decode cX5_obeysShort 57 = .ok (.aload_n 0, 1) := by decide +kernel
theorem dX5_obeysShort_58 : decode cX5_obeysShort 58 = .ok (.getfield 10, 3) := by decide +kernel
theorem dX5_obeysShort_61 : decode cX5_obeysShort 61 = .ok (.iload_n 2, 1) := by decide +kernel
theorem dX5_obeysShort_62 : decode cX5_obeysShort 62 = .ok (.iload_n 1, 1) := by decide +kernel
theorem dX5_obeysShort_63 : decode cX5_obeysShort 63 = .ok (.iconst 3, 1) := by decide +kernel
theorem dX5_obeysShort_64 : decode cX5_obeysShort 64 = .ok (.if_icmp .ne 7, 3) := by decide +kernel
theorem dX5_obeysShort_67 : decode cX5_obeysShort 67 = .ok (.iconst 1, 1) := by decide +kernel
theorem dX5_obeysShort_68 : decode cX5_obeysShort 68 = .ok (.goto 4, 3) := by decide +kernel
theorem dX5_obeysShort_71 : decode cX5_obeysShort 71 = .ok (.iconst 0, 1) := by decide +kernel
theorem dX5_obeysShort_72 : decode cX5_obeysShort 72 = .ok (.invokevirtual 93, 3) := by decide +kernel
theorem dX5_obeysShort_75 : decode cX5_obeysShort 75 = .ok (.pop, 1) := by decide +kernel
theorem dX5_obeysShort_76 : decode cX5_obeysShort 76 = .ok (.iconst 1, 1) := by decide +kernel
theorem dX5_obeysShort_77 : decode cX5_obeysShort 77 = .ok (.ireturn, 1) := by decide +kernel
theorem dX5_within_0 : decode cX5_within 0 = .ok (.iload_n 0, 1) := by decide +kernel
theorem dX5_within_1 : decode cX5_within 1 = .ok (.iload_n 1, 1) := by decide +kernel
theorem dX5_within_2 : decode cX5_within 2 = .ok (.if_icmp .lt 12, 3) := by decide +kernel
theorem dX5_within_5 : decode cX5_within 5 = .ok (.iload_n 0, 1) := by decide +kernel
theorem dX5_within_6 : decode cX5_within 6 = .ok (.iload_n 2, 1) := by decide +kernel
theorem dX5_within_7 : decode cX5_within 7 = .ok (.if_icmp .gt 7, 3) := by decide +kernel
theorem dX5_within_10 : decode cX5_within 10 = .ok (.iconst 1, 1) := by decide +kernel
theorem dX5_within_11 : decode cX5_within 11 = .ok (.goto 4, 3) := by decide +kernel
theorem dX5_within_14 : decode cX5_within 14 = .ok (.iconst 0, 1) := by decide +kernel
theorem dX5_within_15 : decode cX5_within 15 = .ok (.ireturn, 1) := by decide +kernel
theorem dX5_isFlag_0 : decode cX5_isFlag 0 = .ok (.iload_n 0, 1) := by decide +kernel
theorem dX5_isFlag_1 : decode cX5_isFlag 1 = .ok (.ifCond .eq 8, 3) := by decide +kernel
theorem dX5_isFlag_4 : decode cX5_isFlag 4 = .ok (.iload_n 0, 1) := by decide +kernel
theorem dX5_isFlag_5 : decode cX5_isFlag 5 = .ok (.iconst 1, 1) := by decide +kernel
theorem dX5_isFlag_6 : decode cX5_isFlag 6 = .ok (.if_icmp .ne 7, 3) := by decide +kernel
theorem dX5_isFlag_9 : decode cX5_isFlag 9 = .ok (.iconst 1, 1) := by decide +kernel
theorem dX5_isFlag_10 : decode cX5_isFlag 10 = .ok (.goto 4, 3) := by decide +kernel
theorem dX5_isFlag_13 : decode cX5_isFlag 13 = .ok (.iconst 0, 1) := by decide +kernel
theorem dX5_isFlag_14 : decode cX5_isFlag 14 = .ok (.ireturn, 1) := by decide +kernel
theorem dX5_mixed_0 : decode cX5_mixed 0 = .ok (.ldc2_w 333, 3) := by decide +kernel
theorem dX5_mixed_3 : decode cX5_mixed 3 = .ok (.lload_n 0, 1) := by decide +kernel
theorem dX5_mixed_4 : decode cX5_mixed 4 = .ok (.lmul, 1) := by decide +kernel
theorem dX5_mixed_5 : decode cX5_mixed 5 = .ok (.lload_n 2, 1) := by decide +kernel
theorem dX5_mixed_6 : decode cX5_mixed 6 = .ok (.ladd, 1) := by decide +kernel
theorem dX5_mixed_7 : decode cX5_mixed 7 = .ok (.lreturn, 1) := by decide +kernel
theorem dX5_part_0 : decode cX5_part 0 = .ok (.lload_n 0, 1) := by decide +kernel
theorem dX5_part_1 : decode cX5_part 1 = .ok (.invokestatic 335, 3) := by decide +kernel
theorem dX5_part_4 : decode cX5_part 4 = .ok (.lload_n 2, 1) := by decide +kernel
theorem dX5_part_5 : decode cX5_part 5 = .ok (.invokestatic 339, 3) := by decide +kernel
theorem dX5_part_8 : decode cX5_part 8 = .ok (.lstore 5, 2) := by decide +kernel
theorem dX5_part_10 : decode cX5_part 10 = .ok (.iload 4, 2) := by decide +kernel
theorem dX5_part_12 : decode cX5_part 12 = .ok (.ifCond .ne 7, 3) := by decide +kernel
theorem dX5_part_15 : decode cX5_part 15 = .ok (.lload_n 0, 1) := by decide +kernel
theorem dX5_part_16 : decode cX5_part 16 = .ok (.goto 4, 3) := by decide +kernel
theorem dX5_part_19 : decode cX5_part 19 = .ok (.lload_n 2, 1) := by decide +kernel
theorem dX5_part_20 : decode cX5_part 20 = .ok (.lstore 7, 2) := by decide +kernel
theorem dX5_part_22 : decode cX5_part 22 = .ok (.lload 5, 2) := by decide +kernel
theorem dX5_part_24 : decode cX5_part 24 = .ok (.lconst 1, 1) := by decide +kernel
theorem dX5_part_25 : decode cX5_part 25 = .ok (.lcmp, 1) := by decide +kernel
theorem dX5_part_26 : decode cX5_part 26 = .ok (.ifCond .le 11, 3) := by decide +kernel
theorem dX5_part_29 : decode cX5_part 29 = .ok (.lload 7, 2) := by decide +kernel
theorem dX5_part_31 : decode cX5_part 31 = .ok (.lload 5, 2) := by decide +kernel
theorem dX5_part_33 : decode cX5_part 33 = .ok (.ldiv, 1) := by decide +kernel
theorem dX5_part_34 : decode cX5_part 34 = .ok (.goto 5, 3) := by decide +kernel
theorem dX5_part_37 : decode cX5_part 37 = .ok (.lload 7, 2) := by decide +kernel
theorem dX5_part_39 : decode cX5_part 39 = .ok (.lreturn, 1) := by decide +kernel
theorem dX5_commonDivisor_0 : decode cX5_commonDivisor 0 = .ok (.lload_n 0, 1) := by decide +kernel
theorem dX5_commonDivisor_1 : decode cX5_commonDivisor 1 = .ok (.lstore 4, 2) := by decide +kernel
theorem dX5_commonDivisor_3 : decode cX5_commonDivisor 3 = .ok (.lload_n 2, 1) := by decide +kernel
theorem dX5_commonDivisor_4 : decode cX5_commonDivisor 4 = .ok (.lstore 6, 2) := by decide +kernel
theorem dX5_commonDivisor_6 : decode cX5_commonDivisor 6 = .ok (.iconst 0, 1) := by decide +kernel
theorem dX5_commonDivisor_7 : decode cX5_commonDivisor 7 = .ok (.istore 8, 2) := by decide +kernel
theorem dX5_commonDivisor_9 : decode cX5_commonDivisor 9 = .ok (.iload 8, 2) := by decide +kernel
theorem dX5_commonDivisor_11 : decode cX5_commonDivisor 11 = .ok (.bipush 100, 2) := by decide +kernel
theorem dX5_commonDivisor_13 : decode cX5_commonDivisor 13 = .ok (.if_icmp .ge 31, 3) := by decide +kernel
theorem dX5_commonDivisor_16 : decode cX5_commonDivisor 16 = .ok (.lload 6, 2) := by decide +kernel
theorem dX5_commonDivisor_18 : decode cX5_commonDivisor 18 = .ok (.lconst 0, 1) := by decide +kernel
theorem dX5_commonDivisor_19 : decode cX5_commonDivisor 19 = .ok (.lcmp, 1) := by decide +kernel
theorem dX5_commonDivisor_20 : decode cX5_commonDivisor 20 = .ok (.ifCond .eq 24, 3) := by decide +kernel
theorem dX5_commonDivisor_23 : decode cX5_commonDivisor 23 = .ok (.lload 4, 2) := by decide +kernel
theorem dX5_commonDivisor_25 : decode cX5_commonDivisor 25 = .ok (.lload 6, 2) := by decide +kernel
theorem dX5_commonDivisor_27 : decode cX5_commonDivisor 27 = .ok (.lrem, 1) := by decide +kernel
theorem dX5_commonDivisor_28 : decode cX5_commonDivisor 28 = .ok (.lstore 9, 2) := by decide +kernel
theorem dX5_commonDivisor_30 : decode cX5_commonDivisor 30 = .ok (.lload 6, 2) := by decide +kernel
theorem dX5_commonDivisor_32 : decode cX5_commonDivisor 32 = .ok (.lstore 4, 2) := by decide +kernel
theorem dX5_commonDivisor_34 : decode cX5_commonDivisor 34 = .ok (.lload 9, 2) := by decide +kernel
theorem dX5_commonDivisor_36 : decode cX5_commonDivisor 36 = .ok (.lstore 6, 2) := by decide +kernel
theorem dX5_commonDivisor_38 : decode cX5_commonDivisor 38 = .ok (.iinc 8 1, 3) := by decide +kernel
theorem dX5_commonDivisor_41 : decode cX5_commonDivisor 41 = .ok (.goto (-32), 3) := by decide +kernel
theorem dX5_commonDivisor_44 : decode cX5_commonDivisor 44 = .ok (.lload 4, 2) := by decide +kernel
theorem dX5_commonDivisor_46 : decode cX5_commonDivisor 46 = .ok (.lreturn, 1) := by decide +kernel
theorem dX5_isGreater_0 : decode cX5_isGreater 0 = .ok (.lload_n 0, 1) := by decide +kernel
theorem dX5_isGreater_1 : decode cX5_isGreater 1 = .ok (.lload 6, 2) := by decide +kernel
theorem dX5_isGreater_3 : decode cX5_isGreater 3 = .ok (.lmul, 1) := by decide +kernel
theorem dX5_isGreater_4 : decode cX5_isGreater 4 = .ok (.lload 4, 2) := by decide +kernel
theorem dX5_isGreater_6 : decode cX5_isGreater 6 = .ok (.lload_n 2, 1) := by decide +kernel
theorem dX5_isGreater_7 : decode cX5_isGreater 7 = .ok (.lmul, 1) := by decide +kernel
theorem dX5_isGreater_8 : decode cX5_isGreater 8 = .ok (.lcmp, 1) := by decide +kernel
theorem dX5_isGreater_9 : decode cX5_isGreater 9 = .ok (.ifCond .le 7, 3) := by decide +kernel
theorem dX5_isGreater_12 : decode cX5_isGreater 12 = .ok (.iconst 1, 1) := by decide +kernel
theorem dX5_isGreater_13 : decode cX5_isGreater 13 = .ok (.goto 4, 3) := by decide +kernel
theorem dX5_isGreater_16 : decode cX5_isGreater 16 = .ok (.iconst 0, 1) := by decide +kernel
theorem dX5_isGreater_17 : decode cX5_isGreater 17 = .ok (.ireturn, 1) := by decide +kernel
