theorem dX6_pupil_88 : decode cX6_pupil 88 = .ok (.if_icmp .ne 7, 3) := by decide +kernel
theorem dX6_pupil_91 : decode cX6_pupil 91 = .ok (.iconst 1, 1) := by decide +kernel
theorem dX6_pupil_92 : decode cX6_pupil 92 = .ok (.goto 4, 3) := by decide +kernel
theorem dX6_pupil_95 : decode cX6_pupil 95 = .ok (.iconst 0, 1) := by decide +kernel
theorem dX6_pupil_96 : decode cX6_pupil 96 = .ok (.ireturn, 1) := by decide +kernel
theorem dX6_pupil_97 : decode cX6_pupil 97 = .ok (.ldc 67, 2) := by decide +kernel
theorem dX6_pupil_99 : decode cX6_pupil 99 = .ok (.ireturn, 1) := by decide +kernel
theorem dX6_plays_0 : decode cX6_plays 0 = .ok (.aload_n 0, 1) := by decide +kernel
theorem dX6_plays_1 : decode cX6_plays 1 = .ok (.getfield 30, 3) := by decide +kernel
theorem dX6_plays_4 : decode cX6_plays 4 = .ok (.iload_n 1, 1) := by decide +kernel
theorem dX6_plays_5 : decode cX6_plays 5 = .ok (.invokevirtual 165, 3) := by decide +kernel
theorem dX6_plays_8 : decode cX6_plays 8 = .ok (.ifCond .eq 14, 3) := by decide +kernel
theorem dX6_plays_11 : decode cX6_plays 11 = .ok (.aload_n 0, 1) := by decide +kernel
theorem dX6_plays_12 : decode cX6_plays 12 = .ok (.getfield 30, 3) := by decide +kernel
theorem dX6_plays_15 : decode cX6_plays 15 = .ok (.iload_n 2, 1) := by decide +kernel
theorem dX6_plays_16 : decode cX6_plays 16 = .ok (.invokevirtual 171, 3) := by decide +kernel
theorem dX6_plays_19 : decode cX6_plays 19 = .ok (.ifCond .ne 6, 3) := by decide +kernel
theorem dX6_plays_22 : decode cX6_plays 22 = .ok (.ldc 67, 2) := by decide +kernel
theorem dX6_plays_24 : decode cX6_plays 24 = .ok (.ireturn, 1) := by decide +kernel
theorem dX6_plays_25 : decode cX6_plays 25 = .ok (.iload_n 3, 1) := by decide +kernel
theorem dX6_plays_26 : decode cX6_plays 26 = .ok (.tableswitch 78 0 2 #[26, 44, 61], 26) := by decide +kernel
theorem dX6_plays_52 : decode cX6_plays 52 = .ok (.aload_n 0, 1) := by decide +kernel
theorem dX6_plays_53 : decode cX6_plays 53 = .ok (.getfield 30, 3) := by decide +kernel
theorem dX6_plays_56 : decode cX6_plays 56 = .ok (.iload_n 1, 1) := by decide +kernel
theorem dX6_plays_57 : decode cX6_plays 57 = .ok (.iload_n 2, 1) := by decide +kernel
theorem dX6_plays_58 : decode cX6_plays 58 = .ok (.invokevirtual 187, 3) := by decide +kernel
theorem dX6_plays_61 : decode cX6_plays 61 = .ok (.ifCond .eq 7, 3) := by decide +kernel
theorem dX6_plays_64 : decode cX6_plays 64 = .ok (.iconst 1, 1) := by decide +kernel
theorem dX6_plays_65 : decode cX6_plays 65 = .ok (.goto 4, 3) := by decide +kernel
theorem dX6_plays_68 : decode cX6_plays 68 = .ok (.iconst 0, 1) := by decide +kernel
theorem dX6_plays_69 : decode cX6_plays 69 = .ok (.ireturn, 1) := by decide +kernel
theorem dX6_plays_70 : decode cX6_plays 70 = .ok (.aload_n 0, 1) := by decide +kernel
theorem dX6_plays_71 : decode cX6_plays 71 = .ok (.getfield 30, 3) := by decide +kernel
theorem dX6_plays_74 : decode cX6_plays 74 = .ok (.aload_n 0, 1) := by decide +kernel
theorem dX6_plays_75 : decode cX6_plays 75 = .ok (.getfield 30, 3) := by decide +kernel
theorem dX6_plays_78 : decode cX6_plays 78 = .ok (.iload_n 1, 1) := by decide +kernel
theorem dX6_plays_79 : decode cX6_plays 79 = .ok (.invokevirtual 184, 3) := by decide +kernel
theorem dX6_plays_82 : decode cX6_plays 82 = .ok (.iload_n 2, 1) := by decide +kernel
theorem dX6_plays_83 : decode cX6_plays 83 = .ok (.invokevirtual 190, 3) := by decide +kernel
theorem dX6_plays_86 : decode cX6_plays 86 = .ok (.ireturn, 1) := by decide +kernel
theorem dX6_plays_87 : decode cX6_plays 87 = .ok (.aload_n 0, 1) := by decide +kernel
theorem dX6_plays_88 : decode cX6_plays 88 = .ok (.getfield 30, 3) := by decide +kernel
theorem dX6_plays_91 : decode cX6_plays 91 = .ok (.aload_n 0, 1) := by decide +kernel
theorem dX6_plays_92 : decode cX6_plays 92 = .ok (.getfield 30, 3) := by decide +kernel
theorem dX6_plays_95 : decode cX6_plays 95 = .ok (.iload_n 1, 1) := by decide +kernel
theorem dX6_plays_96 : decode cX6_plays 96 = .ok (.invokevirtual 184, 3) := by decide +kernel
theorem dX6_plays_99 : decode cX6_plays 99 = .ok (.iload_n 2, 1) := by decide +kernel
theorem dX6_plays_100 : decode cX6_plays 100 = .ok (.invokevirtual 193, 3) := by decide +kernel
theorem dX6_plays_103 : decode cX6_plays 103 = .ok (.ireturn, 1) := by decide +kernel
theorem dX6_plays_104 : decode cX6_plays 104 = .ok (.ldc 67, 2) := by decide +kernel
theorem dX6_plays_106 : decode cX6_plays 106 = .ok (.ireturn, 1) := by decide +kernel
theorem dX6_heard_0 : decode cX6_heard 0 = .ok (.aload_n 0, 1) := by decide +kernel
theorem dX6_heard_1 : decode cX6_heard 1 = .ok (.getfield 30, 3) := by decide +kernel
theorem dX6_heard_4 : decode cX6_heard 4 = .ok (.iload_n 1, 1) := by decide +kernel
theorem dX6_heard_5 : decode cX6_heard 5 = .ok (.invokevirtual 165, 3) := by decide +kernel
theorem dX6_heard_8 : decode cX6_heard 8 = .ok (.ifCond .eq 14, 3) := by decide +kernel
theorem dX6_heard_11 : decode cX6_heard 11 = .ok (.aload_n 0, 1) := by decide +kernel
theorem dX6_heard_12 : decode cX6_heard 12 = .ok (.getfield 30, 3) := by decide +kernel
theorem dX6_heard_15 : decode cX6_heard 15 = .ok (.iload_n 2, 1) := by decide +kernel
theorem dX6_heard_16 : decode cX6_heard 16 = .ok (.invokevirtual 171, 3) := by decide +kernel
theorem dX6_heard_19 : decode cX6_heard 19 = .ok (.ifCond .ne 6, 3) := by decide +kernel
theorem dX6_heard_22 : decode cX6_heard 22 = .ok (.ldc 67, 2) := by decide +kernel
theorem dX6_heard_24 : decode cX6_heard 24 = .ok (.ireturn, 1) := by decide +kernel
theorem dX6_heard_25 : decode cX6_heard 25 = .ok (.iload_n 3, 1) := by decide +kernel
theorem dX6_heard_26 : decode cX6_heard 26 = .ok (.ifCond .lt 16, 3) := by decide +kernel
theorem dX6_heard_29 : decode cX6_heard 29 = .ok (.iload_n 3, 1) := by decide +kernel
theorem dX6_heard_30 : decode cX6_heard 30 = .ok (.aload_n 0, 1) := by decide +kernel
theorem dX6_heard_31 : decode cX6_heard 31 = .ok (.getfield 30, 3) := by decide +kernel
theorem dX6_heard_34 : decode cX6_heard 34 = .ok (.getfield 174, 3) := by decide +kernel
theorem dX6_heard_37 : decode cX6_heard 37 = .ok (.iload_n 2, 1) := by decide +kernel
theorem dX6_heard_38 : decode cX6_heard 38 = .ok (.iaload, 1) := by decide +kernel
theorem dX6_heard_39 : decode cX6_heard 39 = .ok (.if_icmp .lt 6, 3) := by decide +kernel
theorem dX6_heard_42 : decode cX6_heard 42 = .ok (.ldc 67, 2) := by decide +kernel
theorem dX6_heard_44 : decode cX6_heard 44 = .ok (.ireturn, 1) := by decide +kernel
theorem dX6_heard_45 : decode cX6_heard 45 = .ok (.aload_n 0, 1) := by decide +kernel
theorem dX6_heard_46 : decode cX6_heard 46 = .ok (.getfield 30, 3) := by decide +kernel
theorem dX6_heard_49 : decode cX6_heard 49 = .ok (.aload_n 0, 1) := by decide +kernel
theorem dX6_heard_50 : decode cX6_heard 50 = .ok (.getfield 30, 3) := by decide +kernel
theorem dX6_heard_53 : decode cX6_heard 53 = .ok (.iload_n 2, 1) := by decide +kernel
theorem dX6_heard_54 : decode cX6_heard 54 = .ok (.iload_n 3, 1) := by decide +kernel
theorem dX6_heard_55 : decode cX6_heard 55 = .ok (.invokevirtual 177, 3) := by decide +kernel
theorem dX6_heard_58 : decode cX6_heard 58 = .ok (.aload_n 0, 1) := by decide +kernel
theorem dX6_heard_59 : decode cX6_heard 59 = .ok (.getfield 30, 3) := by decide +kernel
theorem dX6_heard_62 : decode cX6_heard 62 = .ok (.iload_n 1, 1) := by decide +kernel
theorem dX6_heard_63 : decode cX6_heard 63 = .ok (.invokevirtual 184, 3) := by decide +kernel
theorem dX6_heard_66 : decode cX6_heard 66 = .ok (.invokevirtual 196, 3) := by decide +kernel
theorem dX6_heard_69 : decode cX6_heard 69 = .ok (.ireturn, 1) := by decide +kernel
theorem dX6_strike_0 : decode cX6_strike 0 = .ok (.aload_n 0, 1) := by decide +kernel
theorem dX6_strike_1 : decode cX6_strike 1 = .ok (.getfield 30, 3) := by decide +kernel
theorem dX6_strike_4 : decode cX6_strike 4 = .ok (.invokevirtual 146, 3) := by decide +kernel
theorem dX6_strike_7 : decode cX6_strike 7 = .ok (.ifCond .ne 6, 3) := by decide +kernel
theorem dX6_strike_10 : decode cX6_strike 10 = .ok (.ldc 142, 2) := by decide +kernel
theorem dX6_strike_12 : decode cX6_strike 12 = .ok (.ireturn, 1) := by decide +kernel
theorem dX6_strike_13 : decode cX6_strike 13 = .ok (.iload_n 1, 1) := by decide +kernel
theorem dX6_strike_14 : decode cX6_strike 14 = .ok (.ifCond .lt 14, 3) := by decide +kernel
theorem dX6_strike_17 : decode cX6_strike 17 = .ok (.iload_n 1, 1) := by decide +kernel
theorem dX6_strike_18 : decode cX6_strike 18 = .ok (.aload_n 0, 1) := by decide +kernel
theorem dX6_strike_19 : decode cX6_strike 19 = .ok (.getfield 30, 3) := by decide +kernel
theorem dX6_strike_22 : decode cX6_strike 22 = .ok (.getfield 199, 3) := by decide +kernel
theorem dX6_strike_25 : decode cX6_strike 25 = .ok (.if_icmp .lt 6, 3) := by decide +kernel
theorem dX6_strike_28 : decode cX6_strike 28 = .ok (.ldc 67, 2) := by decide +kernel
theorem dX6_strike_30 : decode cX6_strike 30 = .ok (.ireturn, 1) := by decide +kernel
theorem dX6_strike_31 : decode cX6_strike 31 = .ok (.aload_n 0, 1) := by decide +kernel
theorem dX6_strike_32 : decode cX6_strike 32 = .ok (.getfield 30, 3) := by decide +kernel
theorem dX6_strike_35 : decode cX6_strike 35 = .ok (.iload_n 1, 1) := by decide +kernel
theorem dX6_strike_36 : decode cX6_strike 36 = .ok (.aload_n 0, 1) := by decide +kernel
theorem dX6_strike_37 : decode cX6_strike 37 = .ok (.getfield 30, 3) := by decide +kernel
theorem dX6_strike_40 : decode cX6_strike 40 = .ok (.getfield 152, 3) := by decide +kernel
theorem dX6_strike_43 : decode cX6_strike 43 = .ok (.iadd, 1) := by decide +kernel
theorem dX6_strike_44 : decode cX6_strike 44 = .ok (.invokevirtual 162, 3) := by decide +kernel
theorem dX6_strike_47 : decode cX6_strike 47 = .ok (.ireturn, 1) := by decide +kernel
theorem dX6_soon_0 : decode cX6_soon 0 = .ok (.aload_n 0, 1) := by decide +kernel
theorem dX6_soon_1 : decode cX6_soon 1 = .ok (.getfield 30, 3) := by decide +kernel
theorem dX6_soon_4 : decode cX6_soon 4 = .ok (.iload_n 1, 1) := by decide +kernel
theorem dX6_soon_5 : decode cX6_soon 5 = .ok (.invokevirtual 165, 3) := by decide +kernel
theorem dX6_soon_8 : decode cX6_soon 8 = .ok (.ifCond .ne 6, 3) := by decide +kernel
theorem dX6_soon_11 : decode cX6_soon 11 = .ok (.ldc 67, 2) := by decide +kernel
theorem dX6_soon_13 : decode cX6_soon 13 = .ok (.ireturn, 1) := by decide +kernel
theorem dX6_soon_14 : decode cX6_soon 14 = .ok (.aload_n 0, 1) := by decide +kernel
theorem dX6_soon_15 : decode cX6_soon 15 = .ok (.getfield 49, 3) := by decide +kernel
theorem dX6_soon_18 : decode cX6_soon 18 = .ok (.aload_n 0, 1) := by decide +kernel
theorem dX6_soon_19 : decode cX6_soon 19 = .ok (.getfield 30, 3) := by decide +kernel
theorem dX6_soon_22 : decode cX6_soon 22 = .ok (.iload_n 1, 1) := by decide +kernel
theorem dX6_soon_23 : decode cX6_soon 23 = .ok (.invokevirtual 184, 3) := by decide +kernel
theorem dX6_soon_26 : decode cX6_soon 26 = .ok (.invokevirtual 202, 3) := by decide +kernel
theorem dX6_soon_29 : decode cX6_soon 29 = .ok (.ireturn, 1) := by decide +kernel
theorem dX6_together_0 : decode cX6_together 0 = .ok (.aload_n 0, 1) := by decide +kernel
theorem dX6_together_1 : decode cX6_together 1 = .ok (.getfield 30, 3) := by decide +kernel
theorem dX6_together_4 : decode cX6_together 4 = .ok (.iload_n 1, 1) := by decide +kernel
theorem dX6_together_5 : decode cX6_together 5 = .ok (.invokevirtual 165, 3) := by decide +kernel
theorem dX6_together_8 : decode cX6_together 8 = .ok (.ifCond .eq 19, 3) := by decide +kernel
theorem dX6_together_11 : decode cX6_together 11 = .ok (.aload_n 0, 1) := by decide +kernel
theorem dX6_together_12 : decode cX6_together 12 = .ok (.getfield 30, 3) := by decide +kernel
theorem dX6_together_15 : decode cX6_together 15 = .ok (.iload_n 2, 1) := by decide +kernel
theorem dX6_together_16 : decode cX6_together 16 = .ok (.invokevirtual 165, 3) := by decide +kernel
theorem dX6_together_19 : decode cX6_together 19 = .ok (.ifCond .eq 8, 3) := by decide +kernel
theorem dX6_together_22 : decode cX6_together 22 = .ok (.iload_n 1, 1) := by decide +kernel
theorem dX6_together_23 : decode cX6_together 23 = .ok (.iload_n 2, 1) := by decide +kernel
theorem dX6_together_24 : decode cX6_together 24 = .ok (.if_icmp .ne 6, 3) := by decide +kernel
theorem dX6_together_27 : decode cX6_together 27 = .ok (.ldc 67, 2) := by decide +kernel
theorem dX6_together_29 : decode cX6_together 29 = .ok (.ireturn, 1) := by decide +kernel
theorem dX6_together_30 : decode cX6_together 30 = .ok (.aload_n 0, 1) := by decide +kernel
theorem dX6_together_31 : decode cX6_together 31 = .ok (.getfield 30, 3) := by decide +kernel
theorem dX6_together_34 : decode cX6_together 34 = .ok (.iload_n 1, 1) := by decide +kernel
theorem dX6_together_35 : decode cX6_together 35 = .ok (.invokevirtual 184, 3) := by decide +kernel
theorem dX6_together_38 : decode cX6_together 38 = .ok (.aload_n 0, 1) := by decide +kernel
theorem dX6_together_39 : decode cX6_together 39 = .ok (.getfield 30, 3) := by decide +kernel
theorem dX6_together_42 : decode cX6_together 42 = .ok (.iload_n 2, 1) := by decide +kernel
theorem dX6_together_43 : decode cX6_together 43 = .ok (.invokevirtual 184, 3) := by decide +kernel
theorem dX6_together_46 : decode cX6_together 46 = .ok (.if_icmp .eq 6, 3) := by decide +kernel
theorem dX6_together_49 : decode cX6_together 49 = .ok (.ldc 180, 2) := by decide +kernel
theorem dX6_together_51 : decode cX6_together 51 = .ok (.ireturn, 1) := by decide +kernel
theorem dX6_together_52 : decode cX6_together 52 = .ok (.aload_n 0, 1) := by decide +kernel
theorem dX6_together_53 : decode cX6_together 53 = .ok (.getfield 49, 3) := by decide +kernel
theorem dX6_together_56 : decode cX6_together 56 = .ok (.aload_n 0, 1) := by decide +kernel
theorem dX6_together_57 : decode cX6_together 57 = .ok (.getfield 30, 3) := by decide +kernel
theorem dX6_together_60 : decode cX6_together 60 = .ok (.iload_n 1, 1) := by decide +kernel
theorem dX6_together_61 : decode cX6_together 61 = .ok (.invokevirtual 184, 3) := by decide +kernel
theorem dX6_together_64 : decode cX6_together 64 = .ok (.invokevirtual 202, 3) := by decide +kernel
theorem dX6_together_67 : decode cX6_together 67 = .ok (.ireturn, 1) := by decide +kernel
theorem dX6_itself_0 : decode cX6_itself 0 = .ok (.aload_n 0, 1) := by decide +kernel
theorem dX6_itself_1 : decode cX6_itself 1 = .ok (.getfield 30, 3) := by decide +kernel
theorem dX6_itself_4 : decode cX6_itself 4 = .ok (.invokevirtual 146, 3) := by decide +kernel
theorem dX6_itself_7 : decode cX6_itself 7 = .ok (.ifCond .eq 14, 3) := by decide +kernel
theorem dX6_itself_10 : decode cX6_itself 10 = .ok (.aload_n 0, 1) := by decide +kernel
theorem dX6_itself_11 : decode cX6_itself 11 = .ok (.getfield 49, 3) := by decide +kernel
theorem dX6_itself_14 : decode cX6_itself 14 = .ok (.iconst 0, 1) := by decide +kernel
theorem dX6_itself_15 : decode cX6_itself 15 = .ok (.invokevirtual 202, 3) := by decide +kernel
theorem dX6_itself_18 : decode cX6_itself 18 = .ok (.goto 5, 3) := by decide +kernel
theorem dX6_itself_21 : decode cX6_itself 21 = .ok (.ldc 142, 2) := by decide +kernel
theorem dX6_itself_23 : decode cX6_itself 23 = .ok (.ireturn, 1) := by decide +kernel
theorem dX6_nightsOf_0 : decode cX6_nightsOf 0 = .ok (.aload_n 0, 1) := by decide +kernel
theorem dX6_nightsOf_1 : decode cX6_nightsOf 1 = .ok (.getfield 30, 3) := by decide +kernel
theorem dX6_nightsOf_4 : decode cX6_nightsOf 4 = .ok (.iload_n 1, 1) := by decide +kernel
theorem dX6_nightsOf_5 : decode cX6_nightsOf 5 = .ok (.invokevirtual 165, 3) := by decide +kernel
theorem dX6_nightsOf_8 : decode cX6_nightsOf 8 = .ok (.ifCond .eq 14, 3) := by decide +kernel
theorem dX6_nightsOf_11 : decode cX6_nightsOf 11 = .ok (.iload_n 2, 1) := by decide +kernel
theorem dX6_nightsOf_12 : decode cX6_nightsOf 12 = .ok (.iconst 1, 1) := by decide +kernel
theorem dX6_nightsOf_13 : decode cX6_nightsOf 13 = .ok (.if_icmp .lt 9, 3) := by decide +kernel
theorem dX6_nightsOf_16 : decode cX6_nightsOf 16 = .ok (.iload_n 2, 1) := by decide +kernel
theorem dX6_nightsOf_17 : decode cX6_nightsOf 17 = .ok (.bipush 24, 2) := by decide +kernel
theorem dX6_nightsOf_19 : decode cX6_nightsOf 19 = .ok (.if_icmp .le 6, 3) := by decide +kernel
theorem dX6_nightsOf_22 : decode cX6_nightsOf 22 = .ok (.ldc 67, 2) := by decide +kernel
theorem dX6_nightsOf_24 : decode cX6_nightsOf 24 = .ok (.ireturn, 1) := by decide +kernel
theorem dX6_nightsOf_25 : decode cX6_nightsOf 25 = .ok (.aload_n 0, 1) := by decide +kernel
theorem dX6_nightsOf_26 : decode cX6_nightsOf 26 = .ok (.getfield 49, 3) := by decide +kernel
theorem dX6_nightsOf_29 : decode cX6_nightsOf 29 = .ok (.aload_n 0, 1) := by decide +kernel
theorem dX6_nightsOf_30 : decode cX6_nightsOf 30 = .ok (.getfield 30, 3) := by decide +kernel
theorem dX6_nightsOf_33 : decode cX6_nightsOf 33 = .ok (.iload_n 1, 1) := by decide +kernel
theorem dX6_nightsOf_34 : decode cX6_nightsOf 34 = .ok (.invokevirtual 184, 3) := by decide +kernel
theorem dX6_nightsOf_37 : decode cX6_nightsOf 37 = .ok (.iload_n 2, 1) := by decide +kernel
theorem dX6_nightsOf_38 : decode cX6_nightsOf 38 = .ok (.invokevirtual 205, 3) := by decide +kernel
theorem dX6_nightsOf_41 : decode cX6_nightsOf 41 = .ok (.ireturn, 1) := by decide +kernel
theorem dX6_struck_0 : decode cX6_struck 0 = .ok (.aload_n 0, 1) := by decide +kernel
theorem dX6_struck_1 : decode cX6_struck 1 = .ok (.getfield 30, 3) := by decide +kernel
theorem dX6_struck_4 : decode cX6_struck 4 = .ok (.invokevirtual 146, 3) := by decide +kernel
theorem dX6_struck_7 : decode cX6_struck 7 = .ok (.ifCond .ne 6, 3) := by decide +kernel
theorem dX6_struck_10 : decode cX6_struck 10 = .ok (.ldc 142, 2) := by decide +kernel
theorem dX6_struck_12 : decode cX6_struck 12 = .ok (.ireturn, 1) := by decide +kernel
theorem dX6_struck_13 : decode cX6_struck 13 = .ok (.iload_n 1, 1) := by decide +kernel
theorem dX6_struck_14 : decode cX6_struck 14 = .ok (.invokestatic 60, 3) := by decide +kernel
theorem dX6_struck_17 : decode cX6_struck 17 = .ok (.ifCond .eq 25, 3) := by decide +kernel
theorem dX6_struck_20 : decode cX6_struck 20 = .ok (.iload_n 3, 1) := by decide +kernel
theorem dX6_struck_21 : decode cX6_struck 21 = .ok (.iconst 1, 1) := by decide +kernel
theorem dX6_struck_22 : decode cX6_struck 22 = .ok (.if_icmp .lt 20, 3) := by decide +kernel
theorem dX6_struck_25 : decode cX6_struck 25 = .ok (.iload_n 3, 1) := by decide +kernel
theorem dX6_struck_26 : decode cX6_struck 26 = .ok (.bipush 12, 2) := by decide +kernel
theorem dX6_struck_28 : decode cX6_struck 28 = .ok (.if_icmp .gt 14, 3) := by decide +kernel
theorem dX6_struck_31 : decode cX6_struck 31 = .ok (.iload 4, 2) := by decide +kernel
theorem dX6_struck_33 : decode cX6_struck 33 = .ok (.ifCond .lt 9, 3) := by decide +kernel
theorem dX6_struck_36 : decode cX6_struck 36 = .ok (.iload 4, 2) := by decide +kernel
theorem dX6_struck_38 : decode cX6_struck 38 = .ok (.iconst 1, 1) := by decide +kernel
theorem dX6_struck_39 : decode cX6_struck 39 = .ok (.if_icmp .le 6, 3) := by decide +kernel
theorem dX6_struck_42 : decode cX6_struck 42 = .ok (.ldc 67, 2) := by decide +kernel
theorem dX6_struck_44 : decode cX6_struck 44 = .ok (.ireturn, 1) := by decide +kernel
theorem dX6_struck_45 : decode cX6_struck 45 = .ok (.aload_n 0, 1) := by decide +kernel
theorem dX6_struck_46 : decode cX6_struck 46 = .ok (.getfield 11, 3) := by decide +kernel
theorem dX6_struck_49 : decode cX6_struck 49 = .ok (.iload_n 1, 1) := by decide +kernel
theorem dX6_struck_50 : decode cX6_struck 50 = .ok (.aaload, 1) := by decide +kernel
theorem dX6_struck_51 : decode cX6_struck 51 = .ok (.invokevirtual 79, 3) := by decide +kernel
theorem dX6_struck_54 : decode cX6_struck 54 = .ok (.ifCond .eq 9, 3) := by decide +kernel
theorem dX6_struck_57 : decode cX6_struck 57 = .ok (.aload_n 0, 1) := by decide +kernel
theorem dX6_struck_58 : decode cX6_struck 58 = .ok (.iconst 1, 1) := by decide +kernel
theorem dX6_struck_59 : decode cX6_struck 59 = .ok (.invokevirtual 68, 3) := by decide +kernel
theorem dX6_struck_62 : decode cX6_struck 62 = .ok (.ireturn, 1) := by decide +kernel
theorem dX6_struck_63 : decode cX6_struck 63 = .ok (.aload_n 0, 1) := by decide +kernel
theorem dX6_struck_64 : decode cX6_struck 64 = .ok (.getfield 11, 3) := by decide +kernel
theorem dX6_struck_67 : decode cX6_struck 67 = .ok (.iload_n 1, 1) := by decide +kernel
theorem dX6_struck_68 : decode cX6_struck 68 = .ok (.aaload, 1) := by decide +kernel
theorem dX6_struck_69 : decode cX6_struck 69 = .ok (.iload_n 2, 1) := by decide +kernel
theorem dX6_struck_70 : decode cX6_struck 70 = .ok (.iconst 2, 1) := by decide +kernel
theorem dX6_struck_71 : decode cX6_struck 71 = .ok (.iload_n 3, 1) := by decide +kernel
theorem dX6_struck_72 : decode cX6_struck 72 = .ok (.imul, 1) := by decide +kernel
theorem dX6_struck_73 : decode cX6_struck 73 = .ok (.invokevirtual 83, 3) := by decide +kernel
theorem dX6_struck_76 : decode cX6_struck 76 = .ok (.ifCond .ne 9, 3) := by decide +kernel
theorem dX6_struck_79 : decode cX6_struck 79 = .ok (.aload_n 0, 1) := by decide +kernel
theorem dX6_struck_80 : decode cX6_struck 80 = .ok (.iconst 2, 1) := by decide +kernel
theorem dX6_struck_81 : decode cX6_struck 81 = .ok (.invokevirtual 68, 3) := by decide +kernel
theorem dX6_struck_84 : decode cX6_struck 84 = .ok (.ireturn, 1) := by decide +kernel
theorem dX6_struck_85 : decode cX6_struck 85 = .ok (.aload_n 0, 1) := by decide +kernel
theorem dX6_struck_86 : decode cX6_struck 86 = .ok (.aload_n 0, 1) := by decide +kernel
theorem dX6_struck_87 : decode cX6_struck 87 = .ok (.getfield 49, 3) := by decide +kernel
theorem dX6_struck_90 : decode cX6_struck 90 = .ok (.aload_n 0, 1) := by decide +kernel
theorem dX6_struck_91 : decode cX6_struck 91 = .ok (.getfield 11, 3) := by decide +kernel
theorem dX6_struck_94 : decode cX6_struck 94 = .ok (.iload_n 1, 1) := by decide +kernel
theorem dX6_struck_95 : decode cX6_struck 95 = .ok (.aaload, 1) := by decide +kernel
theorem dX6_struck_96 : decode cX6_struck 96 = .ok (.getfield 95, 3) := by decide +kernel
theorem dX6_struck_99 : decode cX6_struck 99 = .ok (.iload_n 2, 1) := by decide +kernel
theorem dX6_struck_100 : decode cX6_struck 100 = .ok (.iload_n 3, 1) := by decide +kernel
theorem dX6_struck_101 : decode cX6_struck 101 = .ok (.iload 4, 2) := by decide +kernel
theorem dX6_struck_103 : decode cX6_struck 103 = .ok (.invokevirtual 208, 3) := by decide +kernel
theorem dX6_struck_106 : decode cX6_struck 106 = .ok (.invokevirtual 76, 3) := by decide +kernel
theorem dX6_struck_109 : decode cX6_struck 109 = .ok (.ireturn, 1) := by decide +kernel
theorem dX6_lessons_0 : decode cX6_lessons 0 = .ok (.aload_n 0, 1) := by decide +kernel
theorem dX6_lessons_1 : decode cX6_lessons 1 = .ok (.getfield 30, 3) := by decide +kernel
theorem dX6_lessons_4 : decode cX6_lessons 4 = .ok (.invokevirtual 146, 3) := by decide +kernel
theorem dX6_lessons_7 : decode cX6_lessons 7 = .ok (.ifCond .ne 6, 3) := by decide +kernel
theorem dX6_lessons_10 : decode cX6_lessons 10 = .ok (.ldc 142, 2) := by decide +kernel
theorem dX6_lessons_12 : decode cX6_lessons 12 = .ok (.ireturn, 1) := by decide +kernel
theorem dX6_lessons_13 : decode cX6_lessons 13 = .ok (.iload_n 1, 1) := by decide +kernel
theorem dX6_lessons_14 : decode cX6_lessons 14 = .ok (.ifCond .lt 18, 3) := by decide +kernel
theorem dX6_lessons_17 : decode cX6_lessons 17 = .ok (.iload_n 1, 1) := by decide +kernel
theorem dX6_lessons_18 : decode cX6_lessons 18 = .ok (.ldc 212, 2) := by decide +kernel
theorem dX6_lessons_20 : decode cX6_lessons 20 = .ok (.if_icmp .gt 12, 3) := by decide +kernel
theorem dX6_lessons_23 : decode cX6_lessons 23 = .ok (.iload_n 2, 1) := by decide +kernel
theorem dX6_lessons_24 : decode cX6_lessons 24 = .ok (.ifCond .lt 8, 3) := by decide +kernel
theorem dX6_lessons_27 : decode cX6_lessons 27 = .ok (.iload_n 2, 1) := by decide +kernel
theorem dX6_lessons_28 : decode cX6_lessons 28 = .ok (.iconst 1, 1) := by decide +kernel
theorem dX6_lessons_29 : decode cX6_lessons 29 = .ok (.if_icmp .le 6, 3) := by decide +kernel
theorem dX6_lessons_32 : decode cX6_lessons 32 = .ok (.ldc 67, 2) := by decide +kernel
theorem dX6_lessons_34 : decode cX6_lessons 34 = .ok (.ireturn, 1) := by decide +kernel
theorem dX6_lessons_35 : decode cX6_lessons 35 = .ok (.aload_n 0, 1) := by decide +kernel
theorem dX6_lessons_36 : decode cX6_lessons 36 = .ok (.getfield 49, 3) := by decide +kernel
theorem dX6_lessons_39 : decode cX6_lessons 39 = .ok (.iload_n 1, 1) := by decide +kernel
theorem dX6_lessons_40 : decode cX6_lessons 40 = .ok (.invokevirtual 213, 3) := by decide +kernel
theorem dX6_lessons_43 : decode cX6_lessons 43 = .ok (.istore_n 3, 1) := by decide +kernel
theorem dX6_lessons_44 : decode cX6_lessons 44 = .ok (.iload_n 3, 1) := by decide +kernel
theorem dX6_lessons_45 : decode cX6_lessons 45 = .ok (.ldc 180, 2) := by decide +kernel
theorem dX6_lessons_47 : decode cX6_lessons 47 = .ok (.if_icmp .ne 6, 3) := by decide +kernel
theorem dX6_lessons_50 : decode cX6_lessons 50 = .ok (.ldc 180, 2) := by decide +kernel
theorem dX6_lessons_52 : decode cX6_lessons 52 = .ok (.ireturn, 1) := by decide +kernel
theorem dX6_lessons_53 : decode cX6_lessons 53 = .ok (.iload_n 2, 1) := by decide +kernel
theorem dX6_lessons_54 : decode cX6_lessons 54 = .ok (.ifCond .ne 10, 3) := by decide +kernel
theorem dX6_lessons_57 : decode cX6_lessons 57 = .ok (.iload_n 3, 1) := by decide +kernel
theorem dX6_lessons_58 : decode cX6_lessons 58 = .ok (.invokestatic 216, 3) := by decide +kernel
theorem dX6_lessons_61 : decode cX6_lessons 61 = .ok (.goto 4, 3) := by decide +kernel
theorem dX6_lessons_64 : decode cX6_lessons 64 = .ok (.iload_n 3, 1) := by decide +kernel
theorem dX6_lessons_65 : decode cX6_lessons 65 = .ok (.ireturn, 1) := by decide +kernel
theorem dX6_programme_0 : decode cX6_programme 0 = .ok (.aload_n 0, 1) := by decide +kernel
theorem dX6_programme_1 : decode cX6_programme 1 = .ok (.getfield 30, 3) := by decide +kernel
theorem dX6_programme_4 : decode cX6_programme 4 = .ok (.invokevirtual 146, 3) := by decide +kernel
theorem dX6_programme_7 : decode cX6_programme 7 = .ok (.ifCond .ne 6, 3) := by decide +kernel
theorem dX6_programme_10 : decode cX6_programme 10 = .ok (.ldc 142, 2) := by decide +kernel
theorem dX6_programme_12 : decode cX6_programme 12 = .ok (.ireturn, 1) := by decide +kernel
theorem dX6_programme_13 : decode cX6_programme 13 = .ok (.iload_n 1, 1) := by decide +kernel
theorem dX6_programme_14 : decode cX6_programme 14 = .ok (.iconst 1, 1) := by decide +kernel
theorem dX6_programme_15 : decode cX6_programme 15 = .ok (.if_icmp .lt 19, 3) := by decide +kernel
theorem dX6_programme_18 : decode cX6_programme 18 = .ok (.iload_n 1, 1) := by decide +kernel
theorem dX6_programme_19 : decode cX6_programme 19 = .ok (.bipush 6, 2) := by decide +kernel
theorem dX6_programme_21 : decode cX6_programme 21 = .ok (.if_icmp .gt 13, 3) := by decide +kernel
theorem dX6_programme_24 : decode cX6_programme 24 = .ok (.iload_n 2, 1) := by decide +kernel
theorem dX6_programme_25 : decode cX6_programme 25 = .ok (.iconst (-1), 1) := by decide +kernel
theorem dX6_programme_26 : decode cX6_programme 26 = .ok (.if_icmp .lt 8, 3) := by decide +kernel
theorem dX6_programme_29 : decode cX6_programme 29 = .ok (.iload_n 2, 1) := by decide +kernel
theorem dX6_programme_30 : decode cX6_programme 30 = .ok (.iconst 4, 1) := by decide +kernel
theorem dX6_programme_31 : decode cX6_programme 31 = .ok (.if_icmp .lt 6, 3) := by decide +kernel
theorem dX6_programme_34 : decode cX6_programme 34 = .ok (.ldc 67, 2) := by decide +kernel
theorem dX6_programme_36 : decode cX6_programme 36 = .ok (.ireturn, 1) := by decide +kernel
theorem dX6_programme_37 : decode cX6_programme 37 = .ok (.iload_n 2, 1) := by decide +kernel
theorem dX6_programme_38 : decode cX6_programme 38 = .ok (.iconst (-1), 1) := by decide +kernel
theorem dX6_programme_39 : decode cX6_programme 39 = .ok (.if_icmp .ne 14, 3) := by decide +kernel
theorem dX6_programme_42 : decode cX6_programme 42 = .ok (.aload_n 0, 1) := by decide +kernel
theorem dX6_programme_43 : decode cX6_programme 43 = .ok (.getfield 49, 3) := by decide +kernel
theorem dX6_programme_46 : decode cX6_programme 46 = .ok (.iload_n 1, 1) := by decide +kernel
theorem dX6_programme_47 : decode cX6_programme 47 = .ok (.invokevirtual 221, 3) := by decide +kernel
theorem dX6_programme_50 : decode cX6_programme 50 = .ok (.goto 12, 3) := by decide +kernel
theorem dX6_programme_53 : decode cX6_programme 53 = .ok (.aload_n 0, 1) := by decide +kernel
theorem dX6_programme_54 : decode cX6_programme 54 = .ok (.getfield 49, 3) := by decide +kernel
theorem dX6_programme_57 : decode cX6_programme 57 = .ok (.iload_n 1, 1) := by decide +kernel
theorem dX6_programme_58 : decode cX6_programme 58 = .ok (.iload_n 2, 1) := by decide +kernel
theorem dX6_programme_59 : decode cX6_programme 59 = .ok (.invokevirtual 224, 3) := by decide +kernel
theorem dX6_programme_62 : decode cX6_programme 62 = .ok (.ireturn, 1) := by decide +kernel
theorem dX6_chords_0 : decode cX6_chords 0 = .ok (.aload_n 0, 1) := by decide +kernel
theorem dX6_chords_1 : decode cX6_chords 1 = .ok (.getfield 30, 3) := by decide +kernel
theorem dX6_chords_4 : decode cX6_chords 4 = .ok (.invokevirtual 146, 3) := by decide +kernel
theorem dX6_chords_7 : decode cX6_chords 7 = .ok (.ifCond .ne 6, 3) := by decide +kernel
theorem dX6_chords_10 : decode cX6_chords 10 = .ok (.ldc 142, 2) := by decide +kernel
theorem dX6_chords_12 : decode cX6_chords 12 = .ok (.ireturn, 1) := by decide +kernel
theorem dX6_chords_13 : decode cX6_chords 13 = .ok (.iload_n 1, 1) := by decide +kernel
theorem dX6_chords_14 : decode cX6_chords 14 = .ok (.iconst (-1), 1) := by decide +kernel
theorem dX6_chords_15 : decode cX6_chords 15 = .ok (.if_icmp .ge 6, 3) := by decide +kernel
theorem dX6_chords_18 : decode cX6_chords 18 = .ok (.ldc 67, 2) := by decide +kernel
theorem dX6_chords_20 : decode cX6_chords 20 = .ok (.ireturn, 1) := by decide +kernel
theorem dX6_chords_21 : decode cX6_chords 21 = .ok (.aload_n 0, 1) := by decide +kernel
theorem dX6_chords_22 : decode cX6_chords 22 = .ok (.getfield 49, 3) := by decide +kernel
theorem dX6_chords_25 : decode cX6_chords 25 = .ok (.invokevirtual 227, 3) := by decide +kernel
theorem dX6_chords_28 : decode cX6_chords 28 = .ok (.istore_n 2, 1) := by decide +kernel
theorem dX6_chords_29 : decode cX6_chords 29 = .ok (.iload_n 1, 1) := by decide +kernel
theorem dX6_chords_30 : decode cX6_chords 30 = .ok (.iconst (-1), 1) := by decide +kernel
theorem dX6_chords_31 : decode cX6_chords 31 = .ok (.if_icmp .ne 5, 3) := by decide +kernel
theorem dX6_chords_34 : decode cX6_chords 34 = .ok (.iload_n 2, 1) := by decide +kernel
theorem dX6_chords_35 : decode cX6_chords 35 = .ok (.ireturn, 1) := by decide +kernel
theorem dX6_chords_36 : decode cX6_chords 36 = .ok (.iload_n 1, 1) := by decide +kernel
theorem dX6_chords_37 : decode cX6_chords 37 = .ok (.iload_n 2, 1) := by decide +kernel
theorem dX6_chords_38 : decode cX6_chords 38 = .ok (.if_icmp .ge 14, 3) := by decide +kernel
theorem dX6_chords_41 : decode cX6_chords 41 = .ok (.aload_n 0, 1) := by decide +kernel
theorem dX6_chords_42 : decode cX6_chords 42 = .ok (.getfield 49, 3) := by decide +kernel
theorem dX6_chords_45 : decode cX6_chords 45 = .ok (.iload_n 1, 1) := by decide +kernel
theorem dX6_chords_46 : decode cX6_chords 46 = .ok (.invokevirtual 231, 3) := by decide +kernel
theorem dX6_chords_49 : decode cX6_chords 49 = .ok (.goto 5, 3) := by decide +kernel
theorem dX6_chords_52 : decode cX6_chords 52 = .ok (.ldc 180, 2) := by decide +kernel
theorem dX6_chords_54 : decode cX6_chords 54 = .ok (.ireturn, 1) := by decide +kernel
theorem dX6_who_0 : decode cX6_who 0 = .ok (.aload_n 0, 1) := by decide +kernel
theorem dX6_who_1 : decode cX6_who 1 = .ok (.getfield 30, 3) := by decide +kernel
theorem dX6_who_4 : decode cX6_who 4 = .ok (.iload_n 1, 1) := by decide +kernel
theorem dX6_who_5 : decode cX6_who 5 = .ok (.invokevirtual 165, 3) := by decide +kernel
theorem dX6_who_8 : decode cX6_who 8 = .ok (.ifCond .eq 21, 3) := by decide +kernel
theorem dX6_who_11 : decode cX6_who 11 = .ok (.aload_n 0, 1) := by decide +kernel
theorem dX6_who_12 : decode cX6_who 12 = .ok (.getfield 30, 3) := by decide +kernel
theorem dX6_who_15 : decode cX6_who 15 = .ok (.iload_n 2, 1) := by decide +kernel
theorem dX6_who_16 : decode cX6_who 16 = .ok (.invokevirtual 171, 3) := by decide +kernel
theorem dX6_who_19 : decode cX6_who 19 = .ok (.ifCond .eq 10, 3) := by decide +kernel
theorem dX6_who_22 : decode cX6_who 22 = .ok (.iload_n 3, 1) := by decide +kernel
theorem dX6_who_23 : decode cX6_who 23 = .ok (.invokestatic 60, 3) := by decide +kernel
theorem dX6_who_26 : decode cX6_who 26 = .ok (.ifCond .ne 6, 3) := by decide +kernel
theorem dX6_who_29 : decode cX6_who 29 = .ok (.ldc 67, 2) := by decide +kernel
theorem dX6_who_31 : decode cX6_who 31 = .ok (.ireturn, 1) := by decide +kernel
theorem dX6_who_32 : decode cX6_who 32 = .ok (.aload_n 0, 1) := by decide +kernel
theorem dX6_who_33 : decode cX6_who 33 = .ok (.getfield 11, 3) := by decide +kernel
theorem dX6_who_36 : decode cX6_who 36 = .ok (.iload_n 3, 1) := by decide +kernel
theorem dX6_who_37 : decode cX6_who 37 = .ok (.aaload, 1) := by decide +kernel
theorem dX6_who_38 : decode cX6_who 38 = .ok (.invokevirtual 79, 3) := by decide +kernel
theorem dX6_who_41 : decode cX6_who 41 = .ok (.ifCond .eq 9, 3) := by decide +kernel
theorem dX6_who_44 : decode cX6_who 44 = .ok (.aload_n 0, 1) := by decide +kernel
theorem dX6_who_45 : decode cX6_who 45 = .ok (.iconst 1, 1) := by decide +kernel
theorem dX6_who_46 : decode cX6_who 46 = .ok (.invokevirtual 68, 3) := by decide +kernel
theorem dX6_who_49 : decode cX6_who 49 = .ok (.ireturn, 1) := by decide +kernel
theorem dX6_who_50 : decode cX6_who 50 = .ok (.aload_n 0, 1) := by decide +kernel
theorem dX6_who_51 : decode cX6_who 51 = .ok (.getfield 11, 3) := by decide +kernel
theorem dX6_who_54 : decode cX6_who 54 = .ok (.iload_n 3, 1) := by decide +kernel
theorem dX6_who_55 : decode cX6_who 55 = .ok (.aaload, 1) := by decide +kernel
theorem dX6_who_56 : decode cX6_who 56 = .ok (.iload 4, 2) := by decide +kernel
theorem dX6_who_58 : decode cX6_who 58 = .ok (.aload_n 0, 1) := by decide +kernel
theorem dX6_who_59 : decode cX6_who 59 = .ok (.getfield 30, 3) := by decide +kernel
theorem dX6_who_62 : decode cX6_who 62 = .ok (.getfield 174, 3) := by decide +kernel
theorem dX6_who_65 : decode cX6_who 65 = .ok (.iload_n 2, 1) := by decide +kernel
theorem dX6_who_66 : decode cX6_who 66 = .ok (.iaload, 1) := by decide +kernel
theorem dX6_who_67 : decode cX6_who 67 = .ok (.invokevirtual 83, 3) := by decide +kernel
theorem dX6_who_70 : decode cX6_who 70 = .ok (.ifCond .ne 9, 3) := by decide +kernel
theorem dX6_who_73 : decode cX6_who 73 = .ok (.aload_n 0, 1) := by decide +kernel
theorem dX6_who_74 : decode cX6_who 74 = .ok (.iconst 2, 1) := by decide +kernel
theorem dX6_who_75 : decode cX6_who 75 = .ok (.invokevirtual 68, 3) := by decide +kernel
theorem dX6_who_78 : decode cX6_who 78 = .ok (.ireturn, 1) := by decide +kernel
theorem dX6_who_79 : decode cX6_who 79 = .ok (.aload_n 0, 1) := by decide +kernel
theorem dX6_who_80 : decode cX6_who 80 = .ok (.aload_n 0, 1) := by decide +kernel
theorem dX6_who_81 : decode cX6_who 81 = .ok (.getfield 49, 3) := by decide +kernel
theorem dX6_who_84 : decode cX6_who 84 = .ok (.iload_n 1, 1) := by decide +kernel
theorem dX6_who_85 : decode cX6_who 85 = .ok (.iload_n 2, 1) := by decide +kernel
theorem dX6_who_86 : decode cX6_who 86 = .ok (.aload_n 0, 1) := by decide +kernel
theorem dX6_who_87 : decode cX6_who 87 = .ok (.getfield 11, 3) := by decide +kernel
theorem dX6_who_90 : decode cX6_who 90 = .ok (.iload_n 3, 1) := by decide +kernel
theorem dX6_who_91 : decode cX6_who 91 = .ok (.aaload, 1) := by decide +kernel
theorem dX6_who_92 : decode cX6_who 92 = .ok (.getfield 95, 3) := by decide +kernel
theorem dX6_who_95 : decode cX6_who 95 = .ok (.iload 4, 2) := by decide +kernel
theorem dX6_who_97 : decode cX6_who 97 = .ok (.invokevirtual 234, 3) := by decide +kernel
theorem dX6_who_100 : decode cX6_who 100 = .ok (.invokevirtual 76, 3) := by decide +kernel
theorem dX6_who_103 : decode cX6_who 103 = .ok (.ireturn, 1) := by decide +kernel
theorem dX6_tunings_0 : decode cX6_tunings 0 = .ok (.aload_n 0, 1) := by decide +kernel
theorem dX6_tunings_1 : decode cX6_tunings 1 = .ok (.getfield 30, 3) := by decide +kernel
theorem dX6_tunings_4 : decode cX6_tunings 4 = .ok (.invokevirtual 146, 3) := by decide +kernel
theorem dX6_tunings_7 : decode cX6_tunings 7 = .ok (.ifCond .ne 6, 3) := by decide +kernel
theorem dX6_tunings_10 : decode cX6_tunings 10 = .ok (.ldc 142, 2) := by decide +kernel
theorem dX6_tunings_12 : decode cX6_tunings 12 = .ok (.ireturn, 1) := by decide +kernel
theorem dX6_tunings_13 : decode cX6_tunings 13 = .ok (.iload_n 1, 1) := by decide +kernel
theorem dX6_tunings_14 : decode cX6_tunings 14 = .ok (.iconst 1, 1) := by decide +kernel
theorem dX6_tunings_15 : decode cX6_tunings 15 = .ok (.if_icmp .lt 19, 3) := by decide +kernel
theorem dX6_tunings_18 : decode cX6_tunings 18 = .ok (.iload_n 1, 1) := by decide +kernel
theorem dX6_tunings_19 : decode cX6_tunings 19 = .ok (.bipush 60, 2) := by decide +kernel
theorem dX6_tunings_21 : decode cX6_tunings 21 = .ok (.if_icmp .gt 13, 3) := by decide +kernel
theorem dX6_tunings_24 : decode cX6_tunings 24 = .ok (.iload_n 2, 1) := by decide +kernel
theorem dX6_tunings_25 : decode cX6_tunings 25 = .ok (.ifCond .lt 9, 3) := by decide +kernel
theorem dX6_tunings_28 : decode cX6_tunings 28 = .ok (.iload_n 2, 1) := by decide +kernel
theorem dX6_tunings_29 : decode cX6_tunings 29 = .ok (.bipush 11, 2) := by decide +kernel
theorem dX6_tunings_31 : decode cX6_tunings 31 = .ok (.if_icmp .le 6, 3) := by decide +kernel
theorem dX6_tunings_34 : decode cX6_tunings 34 = .ok (.ldc 67, 2) := by decide +kernel
theorem dX6_tunings_36 : decode cX6_tunings 36 = .ok (.ireturn, 1) := by decide +kernel
theorem dX6_tunings_37 : decode cX6_tunings 37 = .ok (.aload_n 0, 1) := by decide +kernel
theorem dX6_tunings_38 : decode cX6_tunings 38 = .ok (.getfield 49, 3) := by decide +kernel
theorem dX6_tunings_41 : decode cX6_tunings 41 = .ok (.iload_n 1, 1) := by decide +kernel
theorem dX6_tunings_42 : decode cX6_tunings 42 = .ok (.iload_n 2, 1) := by decide +kernel
theorem dX6_tunings_43 : decode cX6_tunings 43 = .ok (.invokevirtual 238, 3) := by decide +kernel
theorem dX6_tunings_46 : decode cX6_tunings 46 = .ok (.ireturn, 1) := by decide +kernel
theorem dX6_other_0 : decode cX6_other 0 = .ok (.aload_n 0, 1) := by decide +kernel
theorem dX6_other_1 : decode cX6_other 1 = .ok (.getfield 30, 3) := by decide +kernel
theorem dX6_other_4 : decode cX6_other 4 = .ok (.invokevirtual 146, 3) := by decide +kernel
theorem dX6_other_7 : decode cX6_other 7 = .ok (.ifCond .ne 6, 3) := by decide +kernel
theorem dX6_other_10 : decode cX6_other 10 = .ok (.ldc 142, 2) := by decide +kernel
theorem dX6_other_12 : decode cX6_other 12 = .ok (.ireturn, 1) := by decide +kernel
theorem dX6_other_13 : decode cX6_other 13 = .ok (.iload_n 1, 1) := by decide +kernel
theorem dX6_other_14 : decode cX6_other 14 = .ok (.ifCond .lt 29, 3) := by decide +kernel
theorem dX6_other_17 : decode cX6_other 17 = .ok (.iload_n 1, 1) := by decide +kernel
theorem dX6_other_18 : decode cX6_other 18 = .ok (.aload_n 0, 1) := by decide +kernel
theorem dX6_other_19 : decode cX6_other 19 = .ok (.getfield 30, 3) := by decide +kernel
theorem dX6_other_22 : decode cX6_other 22 = .ok (.getfield 199, 3) := by decide +kernel
theorem dX6_other_25 : decode cX6_other 25 = .ok (.if_icmp .ge 18, 3) := by decide +kernel
theorem dX6_other_28 : decode cX6_other 28 = .ok (.iload_n 2, 1) := by decide +kernel
theorem dX6_other_29 : decode cX6_other 29 = .ok (.ifCond .lt 14, 3) := by decide +kernel
theorem dX6_other_32 : decode cX6_other 32 = .ok (.iload_n 2, 1) := by decide +kernel
theorem dX6_other_33 : decode cX6_other 33 = .ok (.aload_n 0, 1) := by decide +kernel
theorem dX6_other_34 : decode cX6_other 34 = .ok (.getfield 30, 3) := by decide +kernel
theorem dX6_other_37 : decode cX6_other 37 = .ok (.getfield 199, 3) := by decide +kernel
theorem dX6_other_40 : decode cX6_other 40 = .ok (.if_icmp .lt 6, 3) := by decide +kernel
theorem dX6_other_43 : decode cX6_other 43 = .ok (.ldc 67, 2) := by decide +kernel
theorem dX6_other_45 : decode cX6_other 45 = .ok (.ireturn, 1) := by decide +kernel
theorem dX6_other_46 : decode cX6_other 46 = .ok (.aload_n 0, 1) := by decide +kernel
theorem dX6_other_47 : decode cX6_other 47 = .ok (.getfield 49, 3) := by decide +kernel
theorem dX6_other_50 : decode cX6_other 50 = .ok (.iload_n 1, 1) := by decide +kernel
theorem dX6_other_51 : decode cX6_other 51 = .ok (.iload_n 2, 1) := by decide +kernel
theorem dX6_other_52 : decode cX6_other 52 = .ok (.invokevirtual 241, 3) := by decide +kernel
theorem dX6_other_55 : decode cX6_other 55 = .ok (.ireturn, 1) := by decide +kernel
theorem dX6_thunderOdds_0 : decode cX6_thunderOdds 0 = .ok (.aload_n 0, 1) := by decide +kernel
theorem dX6_thunderOdds_1 : decode cX6_thunderOdds 1 = .ok (.getfield 30, 3) := by decide +kernel
theorem dX6_thunderOdds_4 : decode cX6_thunderOdds 4 = .ok (.iload_n 1, 1) := by decide +kernel
theorem dX6_thunderOdds_5 : decode cX6_thunderOdds 5 = .ok (.invokevirtual 165, 3) := by decide +kernel
theorem dX6_thunderOdds_8 : decode cX6_thunderOdds 8 = .ok (.ifCond .eq 13, 3) := by decide +kernel
theorem dX6_thunderOdds_11 : decode cX6_thunderOdds 11 = .ok (.iload_n 2, 1) := by decide +kernel
theorem dX6_thunderOdds_12 : decode cX6_thunderOdds 12 = .ok (.ifCond .lt 9, 3) := by decide +kernel
theorem dX6_thunderOdds_15 : decode cX6_thunderOdds 15 = .ok (.iload_n 2, 1) := by decide +kernel
theorem dX6_thunderOdds_16 : decode cX6_thunderOdds 16 = .ok (.bipush 10, 2) := by decide +kernel
theorem dX6_thunderOdds_18 : decode cX6_thunderOdds 18 = .ok (.if_icmp .le 7, 3) := by decide +kernel
theorem dX6_thunderOdds_21 : decode cX6_thunderOdds 21 = .ok (.ldc2_w 244, 3) := by decide +kernel
theorem dX6_thunderOdds_24 : decode cX6_thunderOdds 24 = .ok (.lreturn, 1) := by decide +kernel
theorem dX6_thunderOdds_25 : decode cX6_thunderOdds 25 = .ok (.iload_n 3, 1) := by decide +kernel
theorem dX6_thunderOdds_26 : decode cX6_thunderOdds 26 = .ok (.ifCond .lt 20, 3) := by decide +kernel
theorem dX6_thunderOdds_29 : decode cX6_thunderOdds 29 = .ok (.iload_n 3, 1) := by decide +kernel
theorem dX6_thunderOdds_30 : decode cX6_thunderOdds 30 = .ok (.bipush 6, 2) := by decide +kernel
theorem dX6_thunderOdds_32 : decode cX6_thunderOdds 32 = .ok (.if_icmp .gt 14, 3) := by decide +kernel
theorem dX6_thunderOdds_35 : decode cX6_thunderOdds 35 = .ok (.iload 4, 2) := by decide +kernel
theorem dX6_thunderOdds_37 : decode cX6_thunderOdds 37 = .ok (.ifCond .lt 9, 3) := by decide +kernel
theorem dX6_thunderOdds_40 : decode cX6_thunderOdds 40 = .ok (.iload 4, 2) := by decide +kernel
theorem dX6_thunderOdds_42 : decode cX6_thunderOdds 42 = .ok (.iconst 1, 1) := by decide +kernel
theorem dX6_thunderOdds_43 : decode cX6_thunderOdds 43 = .ok (.if_icmp .le 7, 3) := by decide +kernel
theorem dX6_thunderOdds_46 : decode cX6_thunderOdds 46 = .ok (.ldc2_w 244, 3) := by decide +kernel
theorem dX6_thunderOdds_49 : decode cX6_thunderOdds 49 = .ok (.lreturn, 1) := by decide +kernel
theorem dX6_thunderOdds_50 : decode cX6_thunderOdds 50 = .ok (.aload_n 0, 1) := by decide +kernel
theorem dX6_thunderOdds_51 : decode cX6_thunderOdds 51 = .ok (.getfield 49, 3) := by decide +kernel
theorem dX6_thunderOdds_54 : decode cX6_thunderOdds 54 = .ok (.aload_n 0, 1) := by decide +kernel
theorem dX6_thunderOdds_55 : decode cX6_thunderOdds 55 = .ok (.getfield 30, 3) := by decide +kernel
theorem dX6_thunderOdds_58 : decode cX6_thunderOdds 58 = .ok (.iload_n 1, 1) := by decide +kernel
theorem dX6_thunderOdds_59 : decode cX6_thunderOdds 59 = .ok (.invokevirtual 184, 3) := by decide +kernel
theorem dX6_thunderOdds_62 : decode cX6_thunderOdds 62 = .ok (.iload_n 2, 1) := by decide +kernel
theorem dX6_thunderOdds_63 : decode cX6_thunderOdds 63 = .ok (.iload_n 3, 1) := by decide +kernel
theorem dX6_thunderOdds_64 : decode cX6_thunderOdds 64 = .ok (.invokevirtual 246, 3) := by decide +kernel
theorem dX6_thunderOdds_67 : decode cX6_thunderOdds 67 = .ok (.lstore 5, 2) := by decide +kernel
theorem dX6_thunderOdds_69 : decode cX6_thunderOdds 69 = .ok (.bipush 10, 2) := by decide +kernel
theorem dX6_thunderOdds_71 : decode cX6_thunderOdds 71 = .ok (.iload_n 3, 1) := by decide +kernel
theorem dX6_thunderOdds_72 : decode cX6_thunderOdds 72 = .ok (.invokestatic 250, 3) := by decide +kernel
theorem dX6_thunderOdds_75 : decode cX6_thunderOdds 75 = .ok (.lstore 7, 2) := by decide +kernel
theorem dX6_thunderOdds_77 : decode cX6_thunderOdds 77 = .ok (.lload 5, 2) := by decide +kernel
theorem dX6_thunderOdds_79 : decode cX6_thunderOdds 79 = .ok (.lload 7, 2) := by decide +kernel
theorem dX6_thunderOdds_81 : decode cX6_thunderOdds 81 = .ok (.invokestatic 254, 3) := by decide +kernel
theorem dX6_thunderOdds_84 : decode cX6_thunderOdds 84 = .ok (.lstore 9, 2) := by decide +kernel
theorem dX6_thunderOdds_86 : decode cX6_thunderOdds 86 = .ok (.lload 9, 2) := by decide +kernel
theorem dX6_thunderOdds_88 : decode cX6_thunderOdds 88 = .ok (.lconst 1, 1) := by decide +kernel
theorem dX6_thunderOdds_89 : decode cX6_thunderOdds 89 = .ok (.lcmp, 1) := by decide +kernel
theorem dX6_thunderOdds_90 : decode cX6_thunderOdds 90 = .ok (.ifCond .ge 6, 3) := by decide +kernel
theorem dX6_thunderOdds_93 : decode cX6_thunderOdds 93 = .ok (.lconst 1, 1) := by decide +kernel
theorem dX6_thunderOdds_94 : decode cX6_thunderOdds 94 = .ok (.lstore 9, 2) := by decide +kernel
theorem dX6_thunderOdds_96 : decode cX6_thunderOdds 96 = .ok (.iload 4, 2) := by decide +kernel
theorem dX6_thunderOdds_98 : decode cX6_thunderOdds 98 = .ok (.ifCond .ne 11, 3) := by decide +kernel
theorem dX6_thunderOdds_101 : decode cX6_thunderOdds 101 = .ok (.lload 5, 2) := by decide +kernel
theorem dX6_thunderOdds_103 : decode cX6_thunderOdds 103 = .ok (.lload 9, 2) := by decide +kernel
theorem dX6_thunderOdds_105 : decode cX6_thunderOdds 105 = .ok (.ldiv, 1) := by decide +kernel
theorem dX6_thunderOdds_106 : decode cX6_thunderOdds 106 = .ok (.goto 8, 3) := by decide +kernel
theorem dX6_thunderOdds_109 : decode cX6_thunderOdds 109 = .ok (.lload 7, 2) := by decide +kernel
theorem dX6_thunderOdds_111 : decode cX6_thunderOdds 111 = .ok (.lload 9, 2) := by decide +kernel
theorem dX6_thunderOdds_113 : decode cX6_thunderOdds 113 = .ok (.ldiv, 1) := by decide +kernel
theorem dX6_thunderOdds_114 : decode cX6_thunderOdds 114 = .ok (.lreturn, 1) := by decide +kernel
theorem dX6_drawn_0 : decode cX6_drawn 0 = .ok (.aload_n 0, 1) := by decide +kernel
theorem dX6_drawn_1 : decode cX6_drawn 1 = .ok (.getfield 30, 3) := by decide +kernel
theorem dX6_drawn_4 : decode cX6_drawn 4 = .ok (.invokevirtual 146, 3) := by decide +kernel
theorem dX6_drawn_7 : decode cX6_drawn 7 = .ok (.ifCond .ne 6, 3) := by decide +kernel
theorem dX6_drawn_10 : decode cX6_drawn 10 = .ok (.ldc 142, 2) := by decide +kernel
theorem dX6_drawn_12 : decode cX6_drawn 12 = .ok (.ireturn, 1) := by decide +kernel
theorem dX6_drawn_13 : decode cX6_drawn 13 = .ok (.iload_n 1, 1) := by decide +kernel
theorem dX6_drawn_14 : decode cX6_drawn 14 = .ok (.ifCond .lt 30, 3) := by decide +kernel
theorem dX6_drawn_17 : decode cX6_drawn 17 = .ok (.iload_n 1, 1) := by decide +kernel
theorem dX6_drawn_18 : decode cX6_drawn 18 = .ok (.bipush 60, 2) := by decide +kernel
theorem dX6_drawn_20 : decode cX6_drawn 20 = .ok (.if_icmp .gt 24, 3) := by decide +kernel
theorem dX6_drawn_23 : decode cX6_drawn 23 = .ok (.iload_n 2, 1) := by decide +kernel
theorem dX6_drawn_24 : decode cX6_drawn 24 = .ok (.iconst 1, 1) := by decide +kernel
theorem dX6_drawn_25 : decode cX6_drawn 25 = .ok (.if_icmp .lt 19, 3) := by decide +kernel
theorem dX6_drawn_28 : decode cX6_drawn 28 = .ok (.iload_n 2, 1) := by decide +kernel
theorem dX6_drawn_29 : decode cX6_drawn 29 = .ok (.ldc_w 258, 3) := by decide +kernel
theorem dX6_drawn_32 : decode cX6_drawn 32 = .ok (.if_icmp .gt 12, 3) := by decide +kernel
theorem dX6_drawn_35 : decode cX6_drawn 35 = .ok (.iload_n 3, 1) := by decide +kernel
theorem dX6_drawn_36 : decode cX6_drawn 36 = .ok (.ifCond .lt 8, 3) := by decide +kernel
theorem dX6_drawn_39 : decode cX6_drawn 39 = .ok (.iload_n 3, 1) := by decide +kernel
theorem dX6_drawn_40 : decode cX6_drawn 40 = .ok (.iconst 1, 1) := by decide +kernel
theorem dX6_drawn_41 : decode cX6_drawn 41 = .ok (.if_icmp .le 6, 3) := by decide +kernel
theorem dX6_drawn_44 : decode cX6_drawn 44 = .ok (.ldc 67, 2) := by decide +kernel
theorem dX6_drawn_46 : decode cX6_drawn 46 = .ok (.ireturn, 1) := by decide +kernel
theorem dX6_drawn_47 : decode cX6_drawn 47 = .ok (.aload_n 0, 1) := by decide +kernel
theorem dX6_drawn_48 : decode cX6_drawn 48 = .ok (.getfield 49, 3) := by decide +kernel
theorem dX6_drawn_51 : decode cX6_drawn 51 = .ok (.iload_n 1, 1) := by decide +kernel
theorem dX6_drawn_52 : decode cX6_drawn 52 = .ok (.iload_n 2, 1) := by decide +kernel
theorem dX6_drawn_53 : decode cX6_drawn 53 = .ok (.iload_n 3, 1) := by decide +kernel
theorem dX6_drawn_54 : decode cX6_drawn 54 = .ok (.iconst 1, 1) := by decide +kernel
theorem dX6_drawn_55 : decode cX6_drawn 55 = .ok (.if_icmp .ne 7, 3) := by decide +kernel
theorem dX6_drawn_58 : decode cX6_drawn 58 = .ok (.iconst 1, 1) := by decide +kernel
theorem dX6_drawn_59 : decode cX6_drawn 59 = .ok (.goto 4, 3) := by decide +kernel
theorem dX6_drawn_62 : decode cX6_drawn 62 = .ok (.iconst 0, 1) := by decide +kernel
theorem dX6_drawn_63 : decode cX6_drawn 63 = .ok (.invokevirtual 259, 3) := by decide +kernel
theorem dX6_drawn_66 : decode cX6_drawn 66 = .ok (.ireturn, 1) := by decide +kernel
theorem dX6_image_0 : decode cX6_image 0 = .ok (.iload_n 1, 1) := by decide +kernel
theorem dX6_image_1 : decode cX6_image 1 = .ok (.invokestatic 263, 3) := by decide +kernel
theorem dX6_image_4 : decode cX6_image 4 = .ok (.ifCond .ne 6, 3) := by decide +kernel
theorem dX6_image_7 : decode cX6_image 7 = .ok (.ldc 67, 2) := by decide +kernel
theorem dX6_image_9 : decode cX6_image 9 = .ok (.ireturn, 1) := by decide +kernel
theorem dX6_image_10 : decode cX6_image 10 = .ok (.aload_n 0, 1) := by decide +kernel
theorem dX6_image_11 : decode cX6_image 11 = .ok (.getfield 30, 3) := by decide +kernel
theorem dX6_image_14 : decode cX6_image 14 = .ok (.invokevirtual 146, 3) := by decide +kernel
theorem dX6_image_17 : decode cX6_image 17 = .ok (.ifCond .ne 6, 3) := by decide +kernel
theorem dX6_image_20 : decode cX6_image 20 = .ok (.ldc 142, 2) := by decide +kernel
theorem dX6_image_22 : decode cX6_image 22 = .ok (.ireturn, 1) := by decide +kernel
theorem dX6_image_23 : decode cX6_image 23 = .ok (.aload_n 0, 1) := by decide +kernel
theorem dX6_image_24 : decode cX6_image 24 = .ok (.getfield 18, 3) := by decide +kernel
theorem dX6_image_27 : decode cX6_image 27 = .ok (.iload_n 1, 1) := by decide +kernel
theorem dX6_image_28 : decode cX6_image 28 = .ok (.aaload, 1) := by decide +kernel
theorem dX6_image_29 : decode cX6_image 29 = .ok (.aload_n 0, 1) := by decide +kernel
theorem dX6_image_30 : decode cX6_image 30 = .ok (.getfield 30, 3) := by decide +kernel
theorem dX6_image_33 : decode cX6_image 33 = .ok (.invokevirtual 129, 3) := by decide +kernel
theorem dX6_image_36 : decode cX6_image 36 = .ok (.iconst 1, 1) := by decide +kernel
theorem dX6_image_37 : decode cX6_image 37 = .ok (.ireturn, 1) := by decide +kernel
theorem dX6_restore_0 : decode cX6_restore 0 = .ok (.iload_n 1, 1) := by decide +kernel
theorem dX6_restore_1 : decode cX6_restore 1 = .ok (.invokestatic 263, 3) := by decide +kernel
theorem dX6_restore_4 : decode cX6_restore 4 = .ok (.ifCond .ne 6, 3) := by decide +kernel
theorem dX6_restore_7 : decode cX6_restore 7 = .ok (.ldc 67, 2) := by decide +kernel
theorem dX6_restore_9 : decode cX6_restore 9 = .ok (.ireturn, 1) := by decide +kernel
theorem dX6_restore_10 : decode cX6_restore 10 = .ok (.aload_n 0, 1) := by decide +kernel
theorem dX6_restore_11 : decode cX6_restore 11 = .ok (.getfield 18, 3) := by decide +kernel
theorem dX6_restore_14 : decode cX6_restore 14 = .ok (.iload_n 1, 1) := by decide +kernel
theorem dX6_restore_15 : decode cX6_restore 15 = .ok (.aaload, 1) := by decide +kernel
theorem dX6_restore_16 : decode cX6_restore 16 = .ok (.invokevirtual 146, 3) := by decide +kernel
theorem dX6_restore_19 : decode cX6_restore 19 = .ok (.ifCond .ne 6, 3) := by decide +kernel
theorem dX6_restore_22 : decode cX6_restore 22 = .ok (.ldc 142, 2) := by decide +kernel
theorem dX6_restore_24 : decode cX6_restore 24 = .ok (.ireturn, 1) := by decide +kernel
theorem dX6_restore_25 : decode cX6_restore 25 = .ok (.aload_n 0, 1) := by decide +kernel
theorem dX6_restore_26 : decode cX6_restore 26 = .ok (.getfield 30, 3) := by decide +kernel
theorem dX6_restore_29 : decode cX6_restore 29 = .ok (.aload_n 0, 1) := by decide +kernel
theorem dX6_restore_30 : decode cX6_restore 30 = .ok (.getfield 18, 3) := by decide +kernel
theorem dX6_restore_33 : decode cX6_restore 33 = .ok (.iload_n 1, 1) := by decide +kernel
theorem dX6_restore_34 : decode cX6_restore 34 = .ok (.aaload, 1) := by decide +kernel
theorem dX6_restore_35 : decode cX6_restore 35 = .ok (.invokevirtual 129, 3) := by decide +kernel
theorem dX6_restore_38 : decode cX6_restore 38 = .ok (.aload_n 0, 1) := by decide +kernel
theorem dX6_restore_39 : decode cX6_restore 39 = .ok (.getfield 40, 3) := by decide +kernel
theorem dX6_restore_42 : decode cX6_restore 42 = .ok (.invokevirtual 132, 3) := by decide +kernel
theorem dX6_restore_45 : decode cX6_restore 45 = .ok (.iconst 1, 1) := by decide +kernel
theorem dX6_restore_46 : decode cX6_restore 46 = .ok (.ireturn, 1) := by decide +kernel
theorem dX6_kind_0 : decode cX6_kind 0 = .ok (.aload_n 0, 1) := by decide +kernel
theorem dX6_kind_1 : decode cX6_kind 1 = .ok (.getfield 30, 3) := by decide +kernel
theorem dX6_kind_4 : decode cX6_kind 4 = .ok (.iload_n 1, 1) := by decide +kernel
theorem dX6_kind_5 : decode cX6_kind 5 = .ok (.invokevirtual 165, 3) := by decide +kernel
theorem dX6_kind_8 : decode cX6_kind 8 = .ok (.ifCond .eq 15, 3) := by decide +kernel
theorem dX6_kind_11 : decode cX6_kind 11 = .ok (.aload_n 0, 1) := by decide +kernel
theorem dX6_kind_12 : decode cX6_kind 12 = .ok (.getfield 30, 3) := by decide +kernel
theorem dX6_kind_15 : decode cX6_kind 15 = .ok (.getfield 266, 3) := by decide +kernel
theorem dX6_kind_18 : decode cX6_kind 18 = .ok (.iload_n 1, 1) := by decide +kernel
theorem dX6_kind_19 : decode cX6_kind 19 = .ok (.iaload, 1) := by decide +kernel
theorem dX6_kind_20 : decode cX6_kind 20 = .ok (.goto 5, 3) := by decide +kernel
theorem dX6_kind_23 : decode cX6_kind 23 = .ok (.ldc 67, 2) := by decide +kernel
theorem dX6_kind_25 : decode cX6_kind 25 = .ok (.ireturn, 1) := by decide +kernel
theorem dX6_as_0 : decode cX6_as 0 = .ok (.aload_n 0, 1) := by decide +kernel
theorem dX6_as_1 : decode cX6_as 1 = .ok (.getfield 30, 3) := by decide +kernel
theorem dX6_as_4 : decode cX6_as 4 = .ok (.iload_n 1, 1) := by decide +kernel
theorem dX6_as_5 : decode cX6_as 5 = .ok (.invokevirtual 165, 3) := by decide +kernel
theorem dX6_as_8 : decode cX6_as 8 = .ok (.ifCond .eq 12, 3) := by decide +kernel
theorem dX6_as_11 : decode cX6_as 11 = .ok (.iload_n 2, 1) := by decide +kernel
theorem dX6_as_12 : decode cX6_as 12 = .ok (.ifCond .lt 8, 3) := by decide +kernel
theorem dX6_as_15 : decode cX6_as 15 = .ok (.iload_n 2, 1) := by decide +kernel
theorem dX6_as_16 : decode cX6_as 16 = .ok (.iconst 5, 1) := by decide +kernel
theorem dX6_as_17 : decode cX6_as 17 = .ok (.if_icmp .le 6, 3) := by decide +kernel
theorem dX6_as_20 : decode cX6_as 20 = .ok (.ldc 67, 2) := by decide +kernel
theorem dX6_as_22 : decode cX6_as 22 = .ok (.ireturn, 1) := by decide +kernel
theorem dX6_as_23 : decode cX6_as 23 = .ok (.aload_n 0, 1) := by decide +kernel
theorem dX6_as_24 : decode cX6_as 24 = .ok (.getfield 30, 3) := by decide +kernel
theorem dX6_as_27 : decode cX6_as 27 = .ok (.getfield 266, 3) := by decide +kernel
theorem dX6_as_30 : decode cX6_as 30 = .ok (.iload_n 1, 1) := by decide +kernel
theorem dX6_as_31 : decode cX6_as 31 = .ok (.iaload, 1) := by decide +kernel
theorem dX6_as_32 : decode cX6_as 32 = .ok (.iload_n 2, 1) := by decide +kernel
theorem dX6_as_33 : decode cX6_as 33 = .ok (.invokestatic 269, 3) := by decide +kernel
theorem dX6_as_36 : decode cX6_as 36 = .ok (.ifCond .eq 11, 3) := by decide +kernel
theorem dX6_as_39 : decode cX6_as 39 = .ok (.aload_n 0, 1) := by decide +kernel
theorem dX6_as_40 : decode cX6_as 40 = .ok (.iload_n 1, 1) := by decide +kernel
theorem dX6_as_41 : decode cX6_as 41 = .ok (.invokevirtual 76, 3) := by decide +kernel
theorem dX6_as_44 : decode cX6_as 44 = .ok (.goto 8, 3) := by decide +kernel
theorem dX6_as_47 : decode cX6_as 47 = .ok (.aload_n 0, 1) := by decide +kernel
theorem dX6_as_48 : decode cX6_as 48 = .ok (.iconst 3, 1) := by decide +kernel
theorem dX6_as_49 : decode cX6_as 49 = .ok (.invokevirtual 68, 3) := by decide +kernel
theorem dX6_as_52 : decode cX6_as 52 = .ok (.ireturn, 1) := by decide +kernel
theorem dX6_ask_0 : decode cX6_ask 0 = .ok (.aload_n 0, 1) := by decide +kernel
theorem dX6_ask_1 : decode cX6_ask 1 = .ok (.getfield 30, 3) := by decide +kernel
theorem dX6_ask_4 : decode cX6_ask 4 = .ok (.iload_n 1, 1) := by decide +kernel
theorem dX6_ask_5 : decode cX6_ask 5 = .ok (.invokevirtual 165, 3) := by decide +kernel
theorem dX6_ask_8 : decode cX6_ask 8 = .ok (.ifCond .eq 12, 3) := by decide +kernel
theorem dX6_ask_11 : decode cX6_ask 11 = .ok (.iload_n 2, 1) := by decide +kernel
theorem dX6_ask_12 : decode cX6_ask 12 = .ok (.ifCond .lt 8, 3) := by decide +kernel
theorem dX6_ask_15 : decode cX6_ask 15 = .ok (.iload_n 2, 1) := by decide +kernel
theorem dX6_ask_16 : decode cX6_ask 16 = .ok (.iconst 1, 1) := by decide +kernel
theorem dX6_ask_17 : decode cX6_ask 17 = .ok (.if_icmp .le 6, 3) := by decide +kernel
theorem dX6_ask_20 : decode cX6_ask 20 = .ok (.ldc 67, 2) := by decide +kernel
theorem dX6_ask_22 : decode cX6_ask 22 = .ok (.ireturn, 1) := by decide +kernel
theorem dX6_ask_23 : decode cX6_ask 23 = .ok (.aload_n 0, 1) := by decide +kernel
theorem dX6_ask_24 : decode cX6_ask 24 = .ok (.getfield 56, 3) := by decide +kernel
theorem dX6_ask_27 : decode cX6_ask 27 = .ok (.iload_n 1, 1) := by decide +kernel
theorem dX6_ask_28 : decode cX6_ask 28 = .ok (.aload_n 0, 1) := by decide +kernel
theorem dX6_ask_29 : decode cX6_ask 29 = .ok (.getfield 30, 3) := by decide +kernel
theorem dX6_ask_32 : decode cX6_ask 32 = .ok (.getfield 266, 3) := by decide +kernel
theorem dX6_ask_35 : decode cX6_ask 35 = .ok (.iload_n 1, 1) := by decide +kernel
theorem dX6_ask_36 : decode cX6_ask 36 = .ok (.iaload, 1) := by decide +kernel
theorem dX6_ask_37 : decode cX6_ask 37 = .ok (.aload_n 0, 1) := by decide +kernel
theorem dX6_ask_38 : decode cX6_ask 38 = .ok (.getfield 30, 3) := by decide +kernel
theorem dX6_ask_41 : decode cX6_ask 41 = .ok (.getfield 168, 3) := by decide +kernel
theorem dX6_ask_44 : decode cX6_ask 44 = .ok (.iload_n 1, 1) := by decide +kernel
theorem dX6_ask_45 : decode cX6_ask 45 = .ok (.iaload, 1) := by decide +kernel
theorem dX6_ask_46 : decode cX6_ask 46 = .ok (.aload_n 0, 1) := by decide +kernel
theorem dX6_ask_47 : decode cX6_ask 47 = .ok (.getfield 30, 3) := by decide +kernel
theorem dX6_ask_50 : decode cX6_ask 50 = .ok (.getfield 181, 3) := by decide +kernel
theorem dX6_ask_53 : decode cX6_ask 53 = .ok (.iload_n 1, 1) := by decide +kernel
theorem dX6_ask_54 : decode cX6_ask 54 = .ok (.iaload, 1) := by decide +kernel
theorem dX6_ask_55 : decode cX6_ask 55 = .ok (.invokevirtual 272, 3) := by decide +kernel
theorem dX6_ask_58 : decode cX6_ask 58 = .ok (.iload_n 2, 1) := by decide +kernel
theorem dX6_ask_59 : decode cX6_ask 59 = .ok (.ifCond .ne 13, 3) := by decide +kernel
theorem dX6_ask_62 : decode cX6_ask 62 = .ok (.aload_n 0, 1) := by decide +kernel
theorem dX6_ask_63 : decode cX6_ask 63 = .ok (.getfield 56, 3) := by decide +kernel
theorem dX6_ask_66 : decode cX6_ask 66 = .ok (.invokevirtual 275, 3) := by decide +kernel
theorem dX6_ask_69 : decode cX6_ask 69 = .ok (.goto 10, 3) := by decide +kernel
theorem dX6_ask_72 : decode cX6_ask 72 = .ok (.aload_n 0, 1) := by decide +kernel
theorem dX6_ask_73 : decode cX6_ask 73 = .ok (.getfield 56, 3) := by decide +kernel
theorem dX6_ask_76 : decode cX6_ask 76 = .ok (.invokevirtual 278, 3) := by decide +kernel
theorem dX6_ask_79 : decode cX6_ask 79 = .ok (.ireturn, 1) := by decide +kernel
theorem dX6_trace_0 : decode cX6_trace 0 = .ok (.iload_n 1, 1) := by decide +kernel
theorem dX6_trace_1 : decode cX6_trace 1 = .ok (.ifCond .lt 26, 3) := by decide +kernel
theorem dX6_trace_4 : decode cX6_trace 4 = .ok (.iload_n 1, 1) := by decide +kernel
theorem dX6_trace_5 : decode cX6_trace 5 = .ok (.aload_n 0, 1) := by decide +kernel
theorem dX6_trace_6 : decode cX6_trace 6 = .ok (.getfield 56, 3) := by decide +kernel
theorem dX6_trace_9 : decode cX6_trace 9 = .ok (.getfield 281, 3) := by decide +kernel
theorem dX6_trace_12 : decode cX6_trace 12 = .ok (.if_icmp .ge 15, 3) := by decide +kernel
theorem dX6_trace_15 : decode cX6_trace 15 = .ok (.aload_n 0, 1) := by decide +kernel
theorem dX6_trace_16 : decode cX6_trace 16 = .ok (.getfield 56, 3) := by decide +kernel
theorem dX6_trace_19 : decode cX6_trace 19 = .ok (.getfield 284, 3) := by decide +kernel
theorem dX6_trace_22 : decode cX6_trace 22 = .ok (.iload_n 1, 1) := by decide +kernel
theorem dX6_trace_23 : decode cX6_trace 23 = .ok (.iaload, 1) := by decide +kernel
theorem dX6_trace_24 : decode cX6_trace 24 = .ok (.goto 5, 3) := by decide +kernel
theorem dX6_trace_27 : decode cX6_trace 27 = .ok (.ldc 180, 2) := by decide +kernel
theorem dX6_trace_29 : decode cX6_trace 29 = .ok (.ireturn, 1) := by decide +kernel
theorem dX6_count_0 : decode cX6_count 0 = .ok (.iload_n 1, 1) := by decide +kernel
theorem dX6_count_1 : decode cX6_count 1 = .ok (.tableswitch 120 0 8 #[51, 56, 64, 72, 80, 88, 96, 104, 112], 51) := by decide +kernel
theorem dX6_count_52 : decode cX6_count 52 = .ok (.aload_n 0, 1) := by decide +kernel
theorem dX6_count_53 : decode cX6_count 53 = .ok (.invokevirtual 287, 3) := by decide +kernel
theorem dX6_count_56 : decode cX6_count 56 = .ok (.ireturn, 1) := by decide +kernel
theorem dX6_count_57 : decode cX6_count 57 = .ok (.aload_n 0, 1) := by decide +kernel
theorem dX6_count_58 : decode cX6_count 58 = .ok (.getfield 30, 3) := by decide +kernel
theorem dX6_count_61 : decode cX6_count 61 = .ok (.getfield 199, 3) := by decide +kernel
theorem dX6_count_64 : decode cX6_count 64 = .ok (.ireturn, 1) := by decide +kernel
theorem dX6_count_65 : decode cX6_count 65 = .ok (.aload_n 0, 1) := by decide +kernel
theorem dX6_count_66 : decode cX6_count 66 = .ok (.getfield 30, 3) := by decide +kernel
theorem dX6_count_69 : decode cX6_count 69 = .ok (.getfield 290, 3) := by decide +kernel
theorem dX6_count_72 : decode cX6_count 72 = .ok (.ireturn, 1) := by decide +kernel
theorem dX6_count_73 : decode cX6_count 73 = .ok (.aload_n 0, 1) := by decide +kernel
theorem dX6_count_74 : decode cX6_count 74 = .ok (.getfield 30, 3) := by decide +kernel
theorem dX6_count_77 : decode cX6_count 77 = .ok (.getfield 152, 3) := by decide +kernel
theorem dX6_count_80 : decode cX6_count 80 = .ok (.ireturn, 1) := by decide +kernel
theorem dX6_count_81 : decode cX6_count 81 = .ok (.aload_n 0, 1) := by decide +kernel
theorem dX6_count_82 : decode cX6_count 82 = .ok (.getfield 30, 3) := by decide +kernel
theorem dX6_count_85 : decode cX6_count 85 = .ok (.getfield 293, 3) := by decide +kernel
theorem dX6_count_88 : decode cX6_count 88 = .ok (.ireturn, 1) := by decide +kernel
theorem dX6_count_89 : decode cX6_count 89 = .ok (.aload_n 0, 1) := by decide +kernel
theorem dX6_count_90 : decode cX6_count 90 = .ok (.getfield 30, 3) := by decide +kernel
theorem dX6_count_93 : decode cX6_count 93 = .ok (.getfield 133, 3) := by decide +kernel
theorem dX6_count_96 : decode cX6_count 96 = .ok (.ireturn, 1) := by decide +kernel
theorem dX6_count_97 : decode cX6_count 97 = .ok (.aload_n 0, 1) := by decide +kernel
theorem dX6_count_98 : decode cX6_count 98 = .ok (.getfield 30, 3) := by decide +kernel
theorem dX6_count_101 : decode cX6_count 101 = .ok (.getfield 149, 3) := by decide +kernel
theorem dX6_count_104 : decode cX6_count 104 = .ok (.ireturn, 1) := by decide +kernel
theorem dX6_count_105 : decode cX6_count 105 = .ok (.aload_n 0, 1) := by decide +kernel
theorem dX6_count_106 : decode cX6_count 106 = .ok (.getfield 40, 3) := by decide +kernel
theorem dX6_count_109 : decode cX6_count 109 = .ok (.getfield 139, 3) := by decide +kernel
theorem dX6_count_112 : decode cX6_count 112 = .ok (.ireturn, 1) := by decide +kernel
theorem dX6_count_113 : decode cX6_count 113 = .ok (.aload_n 0, 1) := by decide +kernel
theorem dX6_count_114 : decode cX6_count 114 = .ok (.getfield 26, 3) := by decide +kernel
theorem dX6_count_117 : decode cX6_count 117 = .ok (.getfield 296, 3) := by decide +kernel
theorem dX6_count_120 : decode cX6_count 120 = .ok (.ireturn, 1) := by decide +kernel
theorem dX6_count_121 : decode cX6_count 121 = .ok (.ldc 67, 2) := by decide +kernel
theorem dX6_count_123 : decode cX6_count 123 = .ok (.ireturn, 1) := by decide +kernel
theorem dX6_status_0 : decode cX6_status 0 = .ok (.aload_n 0, 1) := by decide +kernel
theorem dX6_status_1 : decode cX6_status 1 = .ok (.getfield 299, 3) := by decide +kernel
theorem dX6_status_4 : decode cX6_status 4 = .ok (.ireturn, 1) := by decide +kernel
theorem dX6_found_0 : decode cX6_found 0 = .ok (.aload_n 0, 1) := by decide +kernel
theorem dX6_found_1 : decode cX6_found 1 = .ok (.iload_n 1, 1) := by decide +kernel
theorem dX6_found_2 : decode cX6_found 2 = .ok (.putfield 299, 3) := by decide +kernel
theorem dX6_found_5 : decode cX6_found 5 = .ok (.ldc_w 302, 3) := by decide +kernel
theorem dX6_found_8 : decode cX6_found 8 = .ok (.iload_n 1, 1) := by decide +kernel
theorem dX6_found_9 : decode cX6_found 9 = .ok (.isub, 1) := by decide +kernel
theorem dX6_found_10 : decode cX6_found 10 = .ok (.ireturn, 1) := by decide +kernel
theorem dX6_fine_0 : decode cX6_fine 0 = .ok (.aload_n 0, 1) := by decide +kernel
theorem dX6_fine_1 : decode cX6_fine 1 = .ok (.iconst 0, 1) := by decide +kernel
theorem dX6_fine_2 : decode cX6_fine 2 = .ok (.putfield 299, 3) := by decide +kernel
theorem dX6_fine_5 : decode cX6_fine 5 = .ok (.iload_n 1, 1) := by decide +kernel
theorem dX6_fine_6 : decode cX6_fine 6 = .ok (.ireturn, 1) := by decide +kernel
theorem dX6_isRow_0 : decode cX6_isRow 0 = .ok (.iload_n 0, 1) := by decide +kernel
theorem dX6_isRow_1 : decode cX6_isRow 1 = .ok (.ifCond .lt 13, 3) := by decide +kernel
theorem dX6_isRow_4 : decode cX6_isRow 4 = .ok (.iload_n 0, 1) := by decide +kernel
theorem dX6_isRow_5 : decode cX6_isRow 5 = .ok (.bipush 8, 2) := by decide +kernel
theorem dX6_isRow_7 : decode cX6_isRow 7 = .ok (.if_icmp .ge 7, 3) := by decide +kernel
theorem dX6_isRow_10 : decode cX6_isRow 10 = .ok (.iconst 1, 1) := by decide +kernel
theorem dX6_isRow_11 : decode cX6_isRow 11 = .ok (.goto 4, 3) := by decide +kernel
theorem dX6_isRow_14 : decode cX6_isRow 14 = .ok (.iconst 0, 1) := by decide +kernel
theorem dX6_isRow_15 : decode cX6_isRow 15 = .ok (.ireturn, 1) := by decide +kernel
theorem dX6_isImage_0 : decode cX6_isImage 0 = .ok (.iload_n 0, 1) := by decide +kernel
theorem dX6_isImage_1 : decode cX6_isImage 1 = .ok (.ifCond .lt 12, 3) := by decide +kernel
theorem dX6_isImage_4 : decode cX6_isImage 4 = .ok (.iload_n 0, 1) := by decide +kernel
theorem dX6_isImage_5 : decode cX6_isImage 5 = .ok (.iconst 2, 1) := by decide +kernel
theorem dX6_isImage_6 : decode cX6_isImage 6 = .ok (.if_icmp .ge 7, 3) := by decide +kernel
theorem dX6_isImage_9 : decode cX6_isImage 9 = .ok (.iconst 1, 1) := by decide +kernel
theorem dX6_isImage_10 : decode cX6_isImage 10 = .ok (.goto 4, 3) := by decide +kernel
theorem dX6_isImage_13 : decode cX6_isImage 13 = .ok (.iconst 0, 1) := by decide +kernel
theorem dX6_isImage_14 : decode cX6_isImage 14 = .ok (.ireturn, 1) := by decide +kernel
theorem dX6_rowsThere_0 : decode cX6_rowsThere 0 = .ok (.iconst 0, 1) := by decide +kernel
theorem dX6_rowsThere_1 : decode cX6_rowsThere 1 = .ok (.istore_n 1, 1) := by decide +kernel
theorem dX6_rowsThere_2 : decode cX6_rowsThere 2 = .ok (.iconst 0, 1) := by decide +kernel
theorem dX6_rowsThere_3 : decode cX6_rowsThere 3 = .ok (.istore_n 2, 1) := by decide +kernel
theorem dX6_rowsThere_4 : decode cX6_rowsThere 4 = .ok (.iload_n 2, 1) := by decide +kernel
theorem dX6_rowsThere_5 : decode cX6_rowsThere 5 = .ok (.bipush 8, 2) := by decide +kernel
theorem dX6_rowsThere_7 : decode cX6_rowsThere 7 = .ok (.if_icmp .ge 24, 3) := by decide +kernel
theorem dX6_rowsThere_10 : decode cX6_rowsThere 10 = .ok (.aload_n 0, 1) := by decide +kernel
theorem dX6_rowsThere_11 : decode cX6_rowsThere 11 = .ok (.getfield 11, 3) := by decide +kernel
theorem dX6_rowsThere_14 : decode cX6_rowsThere 14 = .ok (.iload_n 2, 1) := by decide +kernel
theorem dX6_rowsThere_15 : decode cX6_rowsThere 15 = .ok (.aaload, 1) := by decide +kernel
theorem dX6_rowsThere_16 : decode cX6_rowsThere 16 = .ok (.invokevirtual 79, 3) := by decide +kernel
theorem dX6_rowsThere_19 : decode cX6_rowsThere 19 = .ok (.ifCond .ne 6, 3) := by decide +kernel
theorem dX6_rowsThere_22 : decode cX6_rowsThere 22 = .ok (.iinc 1 1, 3) := by decide +kernel
theorem dX6_rowsThere_25 : decode cX6_rowsThere 25 = .ok (.iinc 2 1, 3) := by decide +kernel
theorem dX6_rowsThere_28 : decode cX6_rowsThere 28 = .ok (.goto (-24), 3) := by decide +kernel
theorem dX6_rowsThere_31 : decode cX6_rowsThere 31 = .ok (.iload_n 1, 1) := by decide +kernel
theorem dX6_rowsThere_32 : decode cX6_rowsThere 32 = .ok (.ireturn, 1) := by decide +kernel
theorem dX7_init_0 : decode cX7_init 0 = .ok (.aload_n 0, 1) := by decide +kernel
theorem dX7_init_1 : decode cX7_init 1 = .ok (.invokespecial 1, 3) := by decide +kernel
theorem dX7_init_4 : decode cX7_init 4 = .ok (.aload_n 0, 1) := by decide +kernel
theorem dX7_init_5 : decode cX7_init 5 = .ok (.bipush 8, 2) := by decide +kernel
theorem dX7_init_7 : decode cX7_init 7 = .ok (.newarray .int, 2) := by decide +kernel
theorem dX7_init_9 : decode cX7_init 9 = .ok (.putfield 7, 3) := by decide +kernel
theorem dX7_init_12 : decode cX7_init 12 = .ok (.aload_n 0, 1) := by decide +kernel
theorem dX7_init_13 : decode cX7_init 13 = .ok (.bipush 8, 2) := by decide +kernel
theorem dX7_init_15 : decode cX7_init 15 = .ok (.newarray .int, 2) := by decide +kernel
theorem dX7_init_17 : decode cX7_init 17 = .ok (.putfield 13, 3) := by decide +kernel
theorem dX7_init_20 : decode cX7_init 20 = .ok (.aload_n 0, 1) := by decide +kernel
theorem dX7_init_21 : decode cX7_init 21 = .ok (.sipush 320, 3) := by decide +kernel
theorem dX7_init_24 : decode cX7_init 24 = .ok (.newarray .int, 2) := by decide +kernel
theorem dX7_init_26 : decode cX7_init 26 = .ok (.putfield 16, 3) := by decide +kernel
theorem dX7_init_29 : decode cX7_init 29 = .ok (.aload_n 0, 1) := by decide +kernel
theorem dX7_init_30 : decode cX7_init 30 = .ok (.bipush 57, 2) := by decide +kernel
theorem dX7_init_32 : decode cX7_init 32 = .ok (.newarray .int, 2) := by decide +kernel
theorem dX7_init_34 : decode cX7_init 34 = .ok (.putfield 19, 3) := by decide +kernel
theorem dX7_init_37 : decode cX7_init 37 = .ok (.aload_n 0, 1) := by decide +kernel
theorem dX7_init_38 : decode cX7_init 38 = .ok (.bipush 40, 2) := by decide +kernel
theorem dX7_init_40 : decode cX7_init 40 = .ok (.newarray .int, 2) := by decide +kernel
theorem dX7_init_42 : decode cX7_init 42 = .ok (.putfield 22, 3) := by decide +kernel
theorem dX7_init_45 : decode cX7_init 45 = .ok (.aload_n 0, 1) := by decide +kernel
theorem dX7_init_46 : decode cX7_init 46 = .ok (.bipush 120, 2) := by decide +kernel
theorem dX7_init_48 : decode cX7_init 48 = .ok (.newarray .int, 2) := by decide +kernel
theorem dX7_init_50 : decode cX7_init 50 = .ok (.putfield 25, 3) := by decide +kernel
theorem dX7_init_53 : decode cX7_init 53 = .ok (.aload_n 0, 1) := by decide +kernel
theorem dX7_init_54 : decode cX7_init 54 = .ok (.bipush 57, 2) := by decide +kernel
theorem dX7_init_56 : decode cX7_init 56 = .ok (.newarray .int, 2) := by decide +kernel
theorem dX7_init_58 : decode cX7_init 58 = .ok (.putfield 28, 3) := by decide +kernel
theorem dX7_init_61 : decode cX7_init 61 = .ok (.aload_n 0, 1) := by decide +kernel
theorem dX7_init_62 : decode cX7_init 62 = .ok (.sipush 1368, 3) := by decide +kernel
theorem dX7_init_65 : decode cX7_init 65 = .ok (.newarray .int, 2) := by decide +kernel
theorem dX7_init_67 : decode cX7_init 67 = .ok (.putfield 31, 3) := by decide +kernel
theorem dX7_init_70 : decode cX7_init 70 = .ok (.aload_n 0, 1) := by decide +kernel
theorem dX7_init_71 : decode cX7_init 71 = .ok (.bipush 12, 2) := by decide +kernel
theorem dX7_init_73 : decode cX7_init 73 = .ok (.newarray .int, 2) := by decide +kernel
theorem dX7_init_75 : decode cX7_init 75 = .ok (.putfield 34, 3) := by decide +kernel
theorem dX7_init_78 : decode cX7_init 78 = .ok (.aload_n 0, 1) := by decide +kernel
theorem dX7_init_79 : decode cX7_init 79 = .ok (.bipush 12, 2) := by decide +kernel
theorem dX7_init_81 : decode cX7_init 81 = .ok (.newarray .int, 2) := by decide +kernel
theorem dX7_init_83 : decode cX7_init 83 = .ok (.putfield 37, 3) := by decide +kernel
theorem dX7_init_86 : decode cX7_init 86 = .ok (.aload_n 0, 1) := by decide +kernel
theorem dX7_init_87 : decode cX7_init 87 = .ok (.iconst 2, 1) := by decide +kernel
theorem dX7_init_88 : decode cX7_init 88 = .ok (.newarray .boolean, 2) := by decide +kernel
theorem dX7_init_90 : decode cX7_init 90 = .ok (.putfield 40, 3) := by decide +kernel
theorem dX7_init_93 : decode cX7_init 93 = .ok (.aload_n 0, 1) := by decide +kernel
theorem dX7_init_94 : decode cX7_init 94 = .ok (.bipush 114, 2) := by decide +kernel
theorem dX7_init_96 : decode cX7_init 96 = .ok (.newarray .int, 2) := by decide +kernel
theorem dX7_init_98 : decode cX7_init 98 = .ok (.putfield 44, 3) := by decide +kernel
theorem dX7_init_101 : decode cX7_init 101 = .ok (.aload_n 0, 1) := by decide +kernel
theorem dX7_init_102 : decode cX7_init 102 = .ok (.bipush 16, 2) := by decide +kernel
theorem dX7_init_104 : decode cX7_init 104 = .ok (.newarray .int, 2) := by decide +kernel
theorem dX7_init_106 : decode cX7_init 106 = .ok (.putfield 47, 3) := by decide +kernel
theorem dX7_init_109 : decode cX7_init 109 = .ok (.iconst 0, 1) := by decide +kernel
theorem dX7_init_110 : decode cX7_init 110 = .ok (.istore_n 1, 1) := by decide +kernel
theorem dX7_init_111 : decode cX7_init 111 = .ok (.iload_n 1, 1) := by decide +kernel
theorem dX7_init_112 : decode cX7_init 112 = .ok (.bipush 8, 2) := by decide +kernel
theorem dX7_init_114 : decode cX7_init 114 = .ok (.if_icmp .ge 16, 3) := by decide +kernel
theorem dX7_init_117 : decode cX7_init 117 = .ok (.aload_n 0, 1) := by decide +kernel
theorem dX7_init_118 : decode cX7_init 118 = .ok (.getfield 13, 3) := by decide +kernel
theorem dX7_init_121 : decode cX7_init 121 = .ok (.iload_n 1, 1) := by decide +kernel
theorem dX7_init_122 : decode cX7_init 122 = .ok (.iconst (-1), 1) := by decide +kernel
theorem dX7_init_123 : decode cX7_init 123 = .ok (.iastore, 1) := by decide +kernel
theorem dX7_init_124 : decode cX7_init 124 = .ok (.iinc 1 1, 3) := by decide +kernel
theorem dX7_init_127 : decode cX7_init 127 = .ok (.goto (-16), 3) := by decide +kernel
theorem dX7_init_130 : decode cX7_init 130 = .ok (.return_, 1) := by decide +kernel
theorem dX7_in_0 : decode cX7_in 0 = .ok (.lload_n 0, 1) := by decide +kernel
theorem dX7_in_1 : decode cX7_in 1 = .ok (.lload_n 2, 1) := by decide +kernel
theorem dX7_in_2 : decode cX7_in 2 = .ok (.lcmp, 1) := by decide +kernel
theorem dX7_in_3 : decode cX7_in 3 = .ok (.ifCond .lt 14, 3) := by decide +kernel
theorem dX7_in_6 : decode cX7_in 6 = .ok (.lload_n 0, 1) := by decide +kernel
theorem dX7_in_7 : decode cX7_in 7 = .ok (.lload 4, 2) := by decide +kernel
theorem dX7_in_9 : decode cX7_in 9 = .ok (.lcmp, 1) := by decide +kernel
theorem dX7_in_10 : decode cX7_in 10 = .ok (.ifCond .gt 7, 3) := by decide +kernel
theorem dX7_in_13 : decode cX7_in 13 = .ok (.iconst 1, 1) := by decide +kernel
theorem dX7_in_14 : decode cX7_in 14 = .ok (.goto 4, 3) := by decide +kernel
theorem dX7_in_17 : decode cX7_in 17 = .ok (.iconst 0, 1) := by decide +kernel
theorem dX7_in_18 : decode cX7_in 18 = .ok (.ireturn, 1) := by decide +kernel
theorem dX7_has_0 : decode cX7_has 0 = .ok (.iload_n 0, 1) := by decide +kernel
theorem dX7_has_1 : decode cX7_has 1 = .ok (.iload_n 1, 1) := by decide +kernel
theorem dX7_has_2 : decode cX7_has 2 = .ok (.ishr, 1) := by decide +kernel
theorem dX7_has_3 : decode cX7_has 3 = .ok (.iconst 1, 1) := by decide +kernel
theorem dX7_has_4 : decode cX7_has 4 = .ok (.iand, 1) := by decide +kernel
theorem dX7_has_5 : decode cX7_has 5 = .ok (.iconst 1, 1) := by decide +kernel
theorem dX7_has_6 : decode cX7_has 6 = .ok (.if_icmp .ne 7, 3) := by decide +kernel
theorem dX7_has_9 : decode cX7_has 9 = .ok (.iconst 1, 1) := by decide +kernel
theorem dX7_has_10 : decode cX7_has 10 = .ok (.goto 4, 3) := by decide +kernel
theorem dX7_has_13 : decode cX7_has 13 = .ok (.iconst 0, 1) := by decide +kernel
theorem dX7_has_14 : decode cX7_has 14 = .ok (.ireturn, 1) := by decide +kernel
theorem dX7_ones_0 : decode cX7_ones 0 = .ok (.iconst 0, 1) := by decide +kernel
theorem dX7_ones_1 : decode cX7_ones 1 = .ok (.istore_n 1, 1) := by decide +kernel
theorem dX7_ones_2 : decode cX7_ones 2 = .ok (.iload_n 0, 1) := by decide +kernel
theorem dX7_ones_3 : decode cX7_ones 3 = .ok (.istore_n 2, 1) := by decide +kernel
theorem dX7_ones_4 : decode cX7_ones 4 = .ok (.iload_n 2, 1) := by decide +kernel
theorem dX7_ones_5 : decode cX7_ones 5 = .ok (.ifCond .eq 15, 3) := by decide +kernel
theorem dX7_ones_8 : decode cX7_ones 8 = .ok (.iinc 1 1, 3) := by decide +kernel
theorem dX7_ones_11 : decode cX7_ones 11 = .ok (.iload_n 2, 1) := by decide +kernel
theorem dX7_ones_12 : decode cX7_ones 12 = .ok (.iload_n 2, 1) := by decide +kernel
theorem dX7_ones_13 : decode cX7_ones 13 = .ok (.iconst 1, 1) := by decide +kernel
theorem dX7_ones_14 : decode cX7_ones 14 = .ok (.isub, 1) := by decide +kernel
theorem dX7_ones_15 : decode cX7_ones 15 = .ok (.iand, 1) := by decide +kernel
theorem dX7_ones_16 : decode cX7_ones 16 = .ok (.istore_n 2, 1) := by decide +kernel
theorem dX7_ones_17 : decode cX7_ones 17 = .ok (.goto (-13), 3) := by decide +kernel
theorem dX7_ones_20 : decode cX7_ones 20 = .ok (.iload_n 1, 1) := by decide +kernel
theorem dX7_ones_21 : decode cX7_ones 21 = .ok (.ireturn, 1) := by decide +kernel
theorem dX7_find_0 : decode cX7_find 0 = .ok (.aload_n 0, 1) := by decide +kernel
theorem dX7_find_1 : decode cX7_find 1 = .ok (.iload_n 1, 1) := by decide +kernel
theorem dX7_find_2 : decode cX7_find 2 = .ok (.putfield 50, 3) := by decide +kernel
theorem dX7_find_5 : decode cX7_find 5 = .ok (.ldc 54, 2) := by decide +kernel
theorem dX7_find_7 : decode cX7_find 7 = .ok (.iload_n 1, 1) := by decide +kernel
theorem dX7_find_8 : decode cX7_find 8 = .ok (.isub, 1) := by decide +kernel
theorem dX7_find_9 : decode cX7_find 9 = .ok (.ireturn, 1) := by decide +kernel
theorem dX7_well_0 : decode cX7_well 0 = .ok (.aload_n 0, 1) := by decide +kernel
theorem dX7_well_1 : decode cX7_well 1 = .ok (.iconst 0, 1) := by decide +kernel
theorem dX7_well_2 : decode cX7_well 2 = .ok (.putfield 50, 3) := by decide +kernel
theorem dX7_well_5 : decode cX7_well 5 = .ok (.iload_n 1, 1) := by decide +kernel
theorem dX7_well_6 : decode cX7_well 6 = .ok (.ireturn, 1) := by decide +kernel
theorem dX7_isRow_0 : decode cX7_isRow 0 = .ok (.iload_n 0, 1) := by decide +kernel
theorem dX7_isRow_1 : decode cX7_isRow 1 = .ok (.i2l, 1) := by decide +kernel
theorem dX7_isRow_2 : decode cX7_isRow 2 = .ok (.lconst 0, 1) := by decide +kernel
theorem dX7_isRow_3 : decode cX7_isRow 3 = .ok (.ldc2_w 55, 3) := by decide +kernel
theorem dX7_isRow_6 : decode cX7_isRow 6 = .ok (.invokestatic 57, 3) := by decide +kernel
theorem dX7_isRow_9 : decode cX7_isRow 9 = .ok (.ireturn, 1) := by decide +kernel
theorem dX7_row_0 : decode cX7_row 0 = .ok (.iload_n 1, 1) := by decide +kernel
theorem dX7_row_1 : decode cX7_row 1 = .ok (.invokestatic 61, 3) := by decide +kernel
theorem dX7_row_4 : decode cX7_row 4 = .ok (.ifCond .eq 21, 3) := by decide +kernel
theorem dX7_row_7 : decode cX7_row 7 = .ok (.iload_n 2, 1) := by decide +kernel
theorem dX7_row_8 : decode cX7_row 8 = .ok (.i2l, 1) := by decide +kernel
theorem dX7_row_9 : decode cX7_row 9 = .ok (.lconst 0, 1) := by decide +kernel
theorem dX7_row_10 : decode cX7_row 10 = .ok (.ldc2_w 65, 3) := by decide +kernel
theorem dX7_row_13 : decode cX7_row 13 = .ok (.invokestatic 57, 3) := by decide +kernel
theorem dX7_row_16 : decode cX7_row 16 = .ok (.ifCond .eq 9, 3) := by decide +kernel
theorem dX7_row_19 : decode cX7_row 19 = .ok (.iload_n 3, 1) := by decide +kernel
theorem dX7_row_20 : decode cX7_row 20 = .ok (.bipush 40, 2) := by decide +kernel
theorem dX7_row_22 : decode cX7_row 22 = .ok (.if_icmp .le 6, 3) := by decide +kernel
theorem dX7_row_25 : decode cX7_row 25 = .ok (.ldc 67, 2) := by decide +kernel
theorem dX7_row_27 : decode cX7_row 27 = .ok (.ireturn, 1) := by decide +kernel
theorem dX7_row_28 : decode cX7_row 28 = .ok (.iload_n 3, 1) := by decide +kernel
theorem dX7_row_29 : decode cX7_row 29 = .ok (.ifCond .ge 9, 3) := by decide +kernel
theorem dX7_row_32 : decode cX7_row 32 = .ok (.aload_n 0, 1) := by decide +kernel
theorem dX7_row_33 : decode cX7_row 33 = .ok (.iconst 4, 1) := by decide +kernel
theorem dX7_row_34 : decode cX7_row 34 = .ok (.invokevirtual 68, 3) := by decide +kernel
theorem dX7_row_37 : decode cX7_row 37 = .ok (.ireturn, 1) := by decide +kernel
theorem dX7_row_38 : decode cX7_row 38 = .ok (.aload_n 0, 1) := by decide +kernel
theorem dX7_row_39 : decode cX7_row 39 = .ok (.getfield 7, 3) := by decide +kernel
theorem dX7_row_42 : decode cX7_row 42 = .ok (.iload_n 1, 1) := by decide +kernel
theorem dX7_row_43 : decode cX7_row 43 = .ok (.iload_n 2, 1) := by decide +kernel
theorem dX7_row_44 : decode cX7_row 44 = .ok (.iastore, 1) := by decide +kernel
theorem dX7_row_45 : decode cX7_row 45 = .ok (.aload_n 0, 1) := by decide +kernel
theorem dX7_row_46 : decode cX7_row 46 = .ok (.getfield 13, 3) := by decide +kernel
theorem dX7_row_49 : decode cX7_row 49 = .ok (.iload_n 1, 1) := by decide +kernel
theorem dX7_row_50 : decode cX7_row 50 = .ok (.iload_n 3, 1) := by decide +kernel
theorem dX7_row_51 : decode cX7_row 51 = .ok (.iastore, 1) := by decide +kernel
theorem dX7_row_52 : decode cX7_row 52 = .ok (.iconst 0, 1) := by decide +kernel
theorem dX7_row_53 : decode cX7_row 53 = .ok (.istore 4, 2) := by decide +kernel
theorem dX7_row_55 : decode cX7_row 55 = .ok (.iload 4, 2) := by decide +kernel
theorem dX7_row_57 : decode cX7_row 57 = .ok (.bipush 40, 2) := by decide +kernel
theorem dX7_row_59 : decode cX7_row 59 = .ok (.if_icmp .ge 22, 3) := by decide +kernel
theorem dX7_row_62 : decode cX7_row 62 = .ok (.aload_n 0, 1) := by decide +kernel
theorem dX7_row_63 : decode cX7_row 63 = .ok (.getfield 16, 3) := by decide +kernel
theorem dX7_row_66 : decode cX7_row 66 = .ok (.bipush 40, 2) := by decide +kernel
theorem dX7_row_68 : decode cX7_row 68 = .ok (.iload_n 1, 1) := by decide +kernel
theorem dX7_row_69 : decode cX7_row 69 = .ok (.imul, 1) := by decide +kernel
theorem dX7_row_70 : decode cX7_row 70 = .ok (.iload 4, 2) := by decide +kernel
theorem dX7_row_72 : decode cX7_row 72 = .ok (.iadd, 1) := by decide +kernel
theorem dX7_row_73 : decode cX7_row 73 = .ok (.iconst 0, 1) := by decide +kernel
theorem dX7_row_74 : decode cX7_row 74 = .ok (.iastore, 1) := by decide +kernel
theorem dX7_row_75 : decode cX7_row 75 = .ok (.iinc 4 1, 3) := by decide +kernel
theorem dX7_row_78 : decode cX7_row 78 = .ok (.goto (-23), 3) := by decide +kernel
theorem dX7_row_81 : decode cX7_row 81 = .ok (.aload_n 0, 1) := by decide +kernel
theorem dX7_row_82 : decode cX7_row 82 = .ok (.iload_n 3, 1) := by decide +kernel
theorem dX7_row_83 : decode cX7_row 83 = .ok (.invokevirtual 72, 3) := by decide +kernel
theorem dX7_row_86 : decode cX7_row 86 = .ok (.ireturn, 1) := by decide +kernel
theorem dX7_asLane_0 : decode cX7_asLane 0 = .ok (.iload_n 0, 1) := by decide +kernel
theorem dX7_asLane_1 : decode cX7_asLane 1 = .ok (.ifCond .ne 13, 3) := by decide +kernel
theorem dX7_asLane_4 : decode cX7_asLane 4 = .ok (.iload_n 1, 1) := by decide +kernel
theorem dX7_asLane_5 : decode cX7_asLane 5 = .ok (.bipush 24, 2) := by decide +kernel
theorem dX7_asLane_7 : decode cX7_asLane 7 = .ok (.ishl, 1) := by decide +kernel
theorem dX7_asLane_8 : decode cX7_asLane 8 = .ok (.bipush 24, 2) := by decide +kernel
theorem dX7_asLane_10 : decode cX7_asLane 10 = .ok (.ishr, 1) := by decide +kernel
theorem dX7_asLane_11 : decode cX7_asLane 11 = .ok (.goto 19, 3) := by decide +kernel
theorem dX7_asLane_14 : decode cX7_asLane 14 = .ok (.iload_n 0, 1) := by decide +kernel
theorem dX7_asLane_15 : decode cX7_asLane 15 = .ok (.iconst 1, 1) := by decide +kernel
theorem dX7_asLane_16 : decode cX7_asLane 16 = .ok (.if_icmp .ne 13, 3) := by decide +kernel
theorem dX7_asLane_19 : decode cX7_asLane 19 = .ok (.iload_n 1, 1) := by decide +kernel
theorem dX7_asLane_20 : decode cX7_asLane 20 = .ok (.bipush 16, 2) := by decide +kernel
theorem dX7_asLane_22 : decode cX7_asLane 22 = .ok (.ishl, 1) := by decide +kernel
theorem dX7_asLane_23 : decode cX7_asLane 23 = .ok (.bipush 16, 2) := by decide +kernel
theorem dX7_asLane_25 : decode cX7_asLane 25 = .ok (.ishr, 1) := by decide +kernel
theorem dX7_asLane_26 : decode cX7_asLane 26 = .ok (.goto 4, 3) := by decide +kernel
theorem dX7_asLane_29 : decode cX7_asLane 29 = .ok (.iload_n 1, 1) := by decide +kernel
theorem dX7_asLane_30 : decode cX7_asLane 30 = .ok (.ireturn, 1) := by decide +kernel
theorem dX7_set_0 : decode cX7_set 0 = .ok (.iload_n 1, 1) := by decide +kernel
theorem dX7_set_1 : decode cX7_set 1 = .ok (.invokestatic 61, 3) := by decide +kernel
theorem dX7_set_4 : decode cX7_set 4 = .ok (.ifCond .ne 6, 3) := by decide +kernel
theorem dX7_set_7 : decode cX7_set 7 = .ok (.ldc 67, 2) := by decide +kernel
theorem dX7_set_9 : decode cX7_set 9 = .ok (.ireturn, 1) := by decide +kernel
theorem dX7_set_10 : decode cX7_set 10 = .ok (.aload_n 0, 1) := by decide +kernel
theorem dX7_set_11 : decode cX7_set 11 = .ok (.getfield 13, 3) := by decide +kernel
theorem dX7_set_14 : decode cX7_set 14 = .ok (.iload_n 1, 1) := by decide +kernel
theorem dX7_set_15 : decode cX7_set 15 = .ok (.iaload, 1) := by decide +kernel
theorem dX7_set_16 : decode cX7_set 16 = .ok (.ifCond .ge 9, 3) := by decide +kernel
theorem dX7_set_19 : decode cX7_set 19 = .ok (.aload_n 0, 1) := by decide +kernel
theorem dX7_set_20 : decode cX7_set 20 = .ok (.iconst 1, 1) := by decide +kernel
theorem dX7_set_21 : decode cX7_set 21 = .ok (.invokevirtual 68, 3) := by decide +kernel
theorem dX7_set_24 : decode cX7_set 24 = .ok (.ireturn, 1) := by decide +kernel
theorem dX7_set_25 : decode cX7_set 25 = .ok (.iload_n 2, 1) := by decide +kernel
theorem dX7_set_26 : decode cX7_set 26 = .ok (.i2l, 1) := by decide +kernel
theorem dX7_set_27 : decode cX7_set 27 = .ok (.lconst 0, 1) := by decide +kernel
theorem dX7_set_28 : decode cX7_set 28 = .ok (.aload_n 0, 1) := by decide +kernel
theorem dX7_set_29 : decode cX7_set 29 = .ok (.getfield 13, 3) := by decide +kernel
theorem dX7_set_32 : decode cX7_set 32 = .ok (.iload_n 1, 1) := by decide +kernel
theorem dX7_set_33 : decode cX7_set 33 = .ok (.iaload, 1) := by decide +kernel
theorem dX7_set_34 : decode cX7_set 34 = .ok (.iconst 1, 1) := by decide +kernel
theorem dX7_set_35 : decode cX7_set 35 = .ok (.isub, 1) := by decide +kernel
theorem dX7_set_36 : decode cX7_set 36 = .ok (.i2l, 1) := by decide +kernel
theorem dX7_set_37 : decode cX7_set 37 = .ok (.invokestatic 57, 3) := by decide +kernel
theorem dX7_set_40 : decode cX7_set 40 = .ok (.ifCond .ne 9, 3) := by decide +kernel
theorem dX7_set_43 : decode cX7_set 43 = .ok (.aload_n 0, 1) := by decide +kernel
theorem dX7_set_44 : decode cX7_set 44 = .ok (.iconst 2, 1) := by decide +kernel
theorem dX7_set_45 : decode cX7_set 45 = .ok (.invokevirtual 68, 3) := by decide +kernel
theorem dX7_set_48 : decode cX7_set 48 = .ok (.ireturn, 1) := by decide +kernel
theorem dX7_set_49 : decode cX7_set 49 = .ok (.aload_n 0, 1) := by decide +kernel
theorem dX7_set_50 : decode cX7_set 50 = .ok (.getfield 16, 3) := by decide +kernel
theorem dX7_set_53 : decode cX7_set 53 = .ok (.bipush 40, 2) := by decide +kernel
theorem dX7_set_55 : decode cX7_set 55 = .ok (.iload_n 1, 1) := by decide +kernel
theorem dX7_set_56 : decode cX7_set 56 = .ok (.imul, 1) := by decide +kernel
theorem dX7_set_57 : decode cX7_set 57 = .ok (.iload_n 2, 1) := by decide +kernel
theorem dX7_set_58 : decode cX7_set 58 = .ok (.iadd, 1) := by decide +kernel
theorem dX7_set_59 : decode cX7_set 59 = .ok (.aload_n 0, 1) := by decide +kernel
theorem dX7_set_60 : decode cX7_set 60 = .ok (.getfield 7, 3) := by decide +kernel
theorem dX7_set_63 : decode cX7_set 63 = .ok (.iload_n 1, 1) := by decide +kernel
theorem dX7_set_64 : decode cX7_set 64 = .ok (.iaload, 1) := by decide +kernel
theorem dX7_set_65 : decode cX7_set 65 = .ok (.iload_n 3, 1) := by decide +kernel
theorem dX7_set_66 : decode cX7_set 66 = .ok (.invokestatic 75, 3) := by decide +kernel
theorem dX7_set_69 : decode cX7_set 69 = .ok (.iastore, 1) := by decide +kernel
theorem dX7_set_70 : decode cX7_set 70 = .ok (.aload_n 0, 1) := by decide +kernel
theorem dX7_set_71 : decode cX7_set 71 = .ok (.aload_n 0, 1) := by decide +kernel
theorem dX7_set_72 : decode cX7_set 72 = .ok (.getfield 16, 3) := by decide +kernel
theorem dX7_set_75 : decode cX7_set 75 = .ok (.bipush 40, 2) := by decide +kernel
theorem dX7_set_77 : decode cX7_set 77 = .ok (.iload_n 1, 1) := by decide +kernel
theorem dX7_set_78 : decode cX7_set 78 = .ok (.imul, 1) := by decide +kernel
theorem dX7_set_79 : decode cX7_set 79 = .ok (.iload_n 2, 1) := by decide +kernel
theorem dX7_set_80 : decode cX7_set 80 = .ok (.iadd, 1) := by decide +kernel
theorem dX7_set_81 : decode cX7_set 81 = .ok (.iaload, 1) := by decide +kernel
theorem dX7_set_82 : decode cX7_set 82 = .ok (.invokevirtual 72, 3) := by decide +kernel
theorem dX7_set_85 : decode cX7_set 85 = .ok (.ireturn, 1) := by decide +kernel
theorem dX7_copy_0 : decode cX7_copy 0 = .ok (.iload_n 1, 1) := by decide +kernel
theorem dX7_copy_1 : decode cX7_copy 1 = .ok (.invokestatic 61, 3) := by decide +kernel
theorem dX7_copy_4 : decode cX7_copy 4 = .ok (.ifCond .eq 10, 3) := by decide +kernel
theorem dX7_copy_7 : decode cX7_copy 7 = .ok (.iload_n 3, 1) := by decide +kernel
theorem dX7_copy_8 : decode cX7_copy 8 = .ok (.invokestatic 61, 3) := by decide +kernel
theorem dX7_copy_11 : decode cX7_copy 11 = .ok (.ifCond .ne 6, 3) := by decide +kernel
theorem dX7_copy_14 : decode cX7_copy 14 = .ok (.ldc 67, 2) := by decide +kernel
theorem dX7_copy_16 : decode cX7_copy 16 = .ok (.ireturn, 1) := by decide +kernel
theorem dX7_copy_17 : decode cX7_copy 17 = .ok (.aload_n 0, 1) := by decide +kernel
theorem dX7_copy_18 : decode cX7_copy 18 = .ok (.getfield 13, 3) := by decide +kernel
theorem dX7_copy_21 : decode cX7_copy 21 = .ok (.iload_n 1, 1) := by decide +kernel
theorem dX7_copy_22 : decode cX7_copy 22 = .ok (.iaload, 1) := by decide +kernel
theorem dX7_copy_23 : decode cX7_copy 23 = .ok (.ifCond .lt 12, 3) := by decide +kernel
theorem dX7_copy_26 : decode cX7_copy 26 = .ok (.aload_n 0, 1) := by decide +kernel
theorem dX7_copy_27 : decode cX7_copy 27 = .ok (.getfield 13, 3) := by decide +kernel
theorem dX7_copy_30 : decode cX7_copy 30 = .ok (.iload_n 3, 1) := by decide +kernel
theorem dX7_copy_31 : decode cX7_copy 31 = .ok (.iaload, 1) := by decide +kernel
theorem dX7_copy_32 : decode cX7_copy 32 = .ok (.ifCond .ge 9, 3) := by decide +kernel
theorem dX7_copy_35 : decode cX7_copy 35 = .ok (.aload_n 0, 1) := by decide +kernel
theorem dX7_copy_36 : decode cX7_copy 36 = .ok (.iconst 1, 1) := by decide +kernel
theorem dX7_copy_37 : decode cX7_copy 37 = .ok (.invokevirtual 68, 3) := by decide +kernel
theorem dX7_copy_40 : decode cX7_copy 40 = .ok (.ireturn, 1) := by decide +kernel
theorem dX7_copy_41 : decode cX7_copy 41 = .ok (.aload_n 0, 1) := by decide +kernel
theorem dX7_copy_42 : decode cX7_copy 42 = .ok (.getfield 7, 3) := by decide +kernel
theorem dX7_copy_45 : decode cX7_copy 45 = .ok (.iload_n 1, 1) := by decide +kernel
theorem dX7_copy_46 : decode cX7_copy 46 = .ok (.iaload, 1) := by decide +kernel
theorem dX7_copy_47 : decode cX7_copy 47 = .ok (.aload_n 0, 1) := by decide +kernel
theorem dX7_copy_48 : decode cX7_copy 48 = .ok (.getfield 7, 3) := by decide +kernel
theorem dX7_copy_51 : decode cX7_copy 51 = .ok (.iload_n 3, 1) := by decide +kernel
theorem dX7_copy_52 : decode cX7_copy 52 = .ok (.iaload, 1) := by decide +kernel
theorem dX7_copy_53 : decode cX7_copy 53 = .ok (.if_icmp .eq 9, 3) := by decide +kernel
theorem dX7_copy_56 : decode cX7_copy 56 = .ok (.aload_n 0, 1) := by decide +kernel
theorem dX7_copy_57 : decode cX7_copy 57 = .ok (.iconst 5, 1) := by decide +kernel
theorem dX7_copy_58 : decode cX7_copy 58 = .ok (.invokevirtual 68, 3) := by decide +kernel
theorem dX7_copy_61 : decode cX7_copy 61 = .ok (.ireturn, 1) := by decide +kernel
theorem dX7_copy_62 : decode cX7_copy 62 = .ok (.iload 5, 2) := by decide +kernel
theorem dX7_copy_64 : decode cX7_copy 64 = .ok (.ifCond .lt 44, 3) := by decide +kernel
theorem dX7_copy_67 : decode cX7_copy 67 = .ok (.iload_n 2, 1) := by decide +kernel
theorem dX7_copy_68 : decode cX7_copy 68 = .ok (.i2l, 1) := by decide +kernel
theorem dX7_copy_69 : decode cX7_copy 69 = .ok (.lconst 0, 1) := by decide +kernel
theorem dX7_copy_70 : decode cX7_copy 70 = .ok (.aload_n 0, 1) := by decide +kernel
theorem dX7_copy_71 : decode cX7_copy 71 = .ok (.getfield 13, 3) := by decide +kernel
theorem dX7_copy_74 : decode cX7_copy 74 = .ok (.iload_n 1, 1) := by decide +kernel
theorem dX7_copy_75 : decode cX7_copy 75 = .ok (.iaload, 1) := by decide +kernel
theorem dX7_copy_76 : decode cX7_copy 76 = .ok (.i2l, 1) := by decide +kernel
theorem dX7_copy_77 : decode cX7_copy 77 = .ok (.iload 5, 2) := by decide +kernel
theorem dX7_copy_79 : decode cX7_copy 79 = .ok (.i2l, 1) := by decide +kernel
theorem dX7_copy_80 : decode cX7_copy 80 = .ok (.lsub, 1) := by decide +kernel
theorem dX7_copy_81 : decode cX7_copy 81 = .ok (.invokestatic 57, 3) := by decide +kernel
theorem dX7_copy_84 : decode cX7_copy 84 = .ok (.ifCond .eq 24, 3) := by decide +kernel
theorem dX7_copy_87 : decode cX7_copy 87 = .ok (.iload 4, 2) := by decide +kernel
theorem dX7_copy_89 : decode cX7_copy 89 = .ok (.i2l, 1) := by decide +kernel
theorem dX7_copy_90 : decode cX7_copy 90 = .ok (.lconst 0, 1) := by decide +kernel
theorem dX7_copy_91 : decode cX7_copy 91 = .ok (.aload_n 0, 1) := by decide +kernel
theorem dX7_copy_92 : decode cX7_copy 92 = .ok (.getfield 13, 3) := by decide +kernel
theorem dX7_copy_95 : decode cX7_copy 95 = .ok (.iload_n 3, 1) := by decide +kernel
theorem dX7_copy_96 : decode cX7_copy 96 = .ok (.iaload, 1) := by decide +kernel
theorem dX7_copy_97 : decode cX7_copy 97 = .ok (.i2l, 1) := by decide +kernel
theorem dX7_copy_98 : decode cX7_copy 98 = .ok (.iload 5, 2) := by decide +kernel
theorem dX7_copy_100 : decode cX7_copy 100 = .ok (.i2l, 1) := by decide +kernel
theorem dX7_copy_101 : decode cX7_copy 101 = .ok (.lsub, 1) := by decide +kernel
theorem dX7_copy_102 : decode cX7_copy 102 = .ok (.invokestatic 57, 3) := by decide +kernel
theorem dX7_copy_105 : decode cX7_copy 105 = .ok (.ifCond .ne 9, 3) := by decide +kernel
theorem dX7_copy_108 : decode cX7_copy 108 = .ok (.aload_n 0, 1) := by decide +kernel
theorem dX7_copy_109 : decode cX7_copy 109 = .ok (.iconst 2, 1) := by decide +kernel
theorem dX7_copy_110 : decode cX7_copy 110 = .ok (.invokevirtual 68, 3) := by decide +kernel
theorem dX7_copy_113 : decode cX7_copy 113 = .ok (.ireturn, 1) := by decide +kernel
theorem dX7_copy_114 : decode cX7_copy 114 = .ok (.iconst 0, 1) := by decide +kernel
theorem dX7_copy_115 : decode cX7_copy 115 = .ok (.istore 6, 2) := by decide +kernel
theorem dX7_copy_117 : decode cX7_copy 117 = .ok (.iload 6, 2) := by decide +kernel
theorem dX7_copy_119 : decode cX7_copy 119 = .ok (.iload 5, 2) := by decide +kernel
theorem dX7_copy_121 : decode cX7_copy 121 = .ok (.if_icmp .ge 30, 3) := by decide +kernel
theorem dX7_copy_124 : decode cX7_copy 124 = .ok (.aload_n 0, 1) := by decide +kernel
theorem dX7_copy_125 : decode cX7_copy 125 = .ok (.getfield 22, 3) := by decide +kernel
theorem dX7_copy_128 : decode cX7_copy 128 = .ok (.iload 6, 2) := by decide +kernel
theorem dX7_copy_130 : decode cX7_copy 130 = .ok (.aload_n 0, 1) := by decide +kernel
theorem dX7_copy_131 : decode cX7_copy 131 = .ok (.getfield 16, 3) := by decide +kernel
theorem dX7_copy_134 : decode cX7_copy 134 = .ok (.bipush 40, 2) := by decide +kernel
theorem dX7_copy_136 : decode cX7_copy 136 = .ok (.iload_n 1, 1) := by decide +kernel
theorem dX7_copy_137 : decode cX7_copy 137 = .ok (.imul, 1) := by decide +kernel
theorem dX7_copy_138 : decode cX7_copy 138 = .ok (.iload_n 2, 1) := by decide +kernel
theorem dX7_copy_139 : decode cX7_copy 139 = .ok (.iadd, 1) := by decide +kernel
theorem dX7_copy_140 : decode cX7_copy 140 = .ok (.iload 6, 2) := by decide +kernel
theorem dX7_copy_142 : decode cX7_copy 142 = .ok (.iadd, 1) := by decide +kernel
theorem dX7_copy_143 : decode cX7_copy 143 = .ok (.iaload, 1) := by decide +kernel
theorem dX7_copy_144 : decode cX7_copy 144 = .ok (.iastore, 1) := by decide +kernel
theorem dX7_copy_145 : decode cX7_copy 145 = .ok (.iinc 6 1, 3) := by decide +kernel
theorem dX7_copy_148 : decode cX7_copy 148 = .ok (.goto (-31), 3) := by decide +kernel
theorem dX7_copy_151 : decode cX7_copy 151 = .ok (.iconst 0, 1) := by decide +kernel
theorem dX7_copy_152 : decode cX7_copy 152 = .ok (.istore 6, 2) := by decide +kernel
theorem dX7_copy_154 : decode cX7_copy 154 = .ok (.iload 6, 2) := by decide +kernel
theorem dX7_copy_156 : decode cX7_copy 156 = .ok (.iload 5, 2) := by decide +kernel
theorem dX7_copy_158 : decode cX7_copy 158 = .ok (.if_icmp .ge 31, 3) := by decide +kernel
theorem dX7_copy_161 : decode cX7_copy 161 = .ok (.aload_n 0, 1) := by decide +kernel
theorem dX7_copy_162 : decode cX7_copy 162 = .ok (.getfield 16, 3) := by decide +kernel
theorem dX7_copy_165 : decode cX7_copy 165 = .ok (.bipush 40, 2) := by decide +kernel
theorem dX7_copy_167 : decode cX7_copy 167 = .ok (.iload_n 3, 1) := by decide +kernel
theorem dX7_copy_168 : decode cX7_copy 168 = .ok (.imul, 1) := by decide +kernel
theorem dX7_copy_169 : decode cX7_copy 169 = .ok (.iload 4, 2) := by decide +kernel
theorem dX7_copy_171 : decode cX7_copy 171 = .ok (.iadd, 1) := by decide +kernel
theorem dX7_copy_172 : decode cX7_copy 172 = .ok (.iload 6, 2) := by decide +kernel
theorem dX7_copy_174 : decode cX7_copy 174 = .ok (.iadd, 1) := by decide +kernel
theorem dX7_copy_175 : decode cX7_copy 175 = .ok (.aload_n 0, 1) := by decide +kernel
theorem dX7_copy_176 : decode cX7_copy 176 = .ok (.getfield 22, 3) := by decide +kernel
theorem dX7_copy_179 : decode cX7_copy 179 = .ok (.iload 6, 2) := by decide +kernel
theorem dX7_copy_181 : decode cX7_copy 181 = .ok (.iaload, 1) := by decide +kernel
theorem dX7_copy_182 : decode cX7_copy 182 = .ok (.iastore, 1) := by decide +kernel
theorem dX7_copy_183 : decode cX7_copy 183 = .ok (.iinc 6 1, 3) := by decide +kernel
theorem dX7_copy_186 : decode cX7_copy 186 = .ok (.goto (-32), 3) := by decide +kernel
theorem dX7_copy_189 : decode cX7_copy 189 = .ok (.aload_n 0, 1) := by decide +kernel
theorem dX7_copy_190 : decode cX7_copy 190 = .ok (.iload 5, 2) := by decide +kernel
theorem dX7_copy_192 : decode cX7_copy 192 = .ok (.invokevirtual 72, 3) := by decide +kernel
theorem dX7_copy_195 : decode cX7_copy 195 = .ok (.ireturn, 1) := by decide +kernel
theorem dX7_drop_0 : decode cX7_drop 0 = .ok (.iload_n 1, 1) := by decide +kernel
theorem dX7_drop_1 : decode cX7_drop 1 = .ok (.invokestatic 61, 3) := by decide +kernel
theorem dX7_drop_4 : decode cX7_drop 4 = .ok (.ifCond .ne 6, 3) := by decide +kernel
theorem dX7_drop_7 : decode cX7_drop 7 = .ok (.ldc 67, 2) := by decide +kernel
theorem dX7_drop_9 : decode cX7_drop 9 = .ok (.ireturn, 1) := by decide +kernel
theorem dX7_drop_10 : decode cX7_drop 10 = .ok (.aload_n 0, 1) := by decide +kernel
theorem dX7_drop_11 : decode cX7_drop 11 = .ok (.getfield 13, 3) := by decide +kernel
theorem dX7_drop_14 : decode cX7_drop 14 = .ok (.iload_n 1, 1) := by decide +kernel
theorem dX7_drop_15 : decode cX7_drop 15 = .ok (.iaload, 1) := by decide +kernel
theorem dX7_drop_16 : decode cX7_drop 16 = .ok (.ifCond .ge 9, 3) := by decide +kernel
theorem dX7_drop_19 : decode cX7_drop 19 = .ok (.aload_n 0, 1) := by decide +kernel
theorem dX7_drop_20 : decode cX7_drop 20 = .ok (.iconst 1, 1) := by decide +kernel
theorem dX7_drop_21 : decode cX7_drop 21 = .ok (.invokevirtual 68, 3) := by decide +kernel
theorem dX7_drop_24 : decode cX7_drop 24 = .ok (.ireturn, 1) := by decide +kernel
theorem dX7_drop_25 : decode cX7_drop 25 = .ok (.aload_n 0, 1) := by decide +kernel
theorem dX7_drop_26 : decode cX7_drop 26 = .ok (.getfield 13, 3) := by decide +kernel
theorem dX7_drop_29 : decode cX7_drop 29 = .ok (.iload_n 1, 1) := by decide +kernel
theorem dX7_drop_30 : decode cX7_drop 30 = .ok (.iaload, 1) := by decide +kernel
theorem dX7_drop_31 : decode cX7_drop 31 = .ok (.istore_n 2, 1) := by decide +kernel
theorem dX7_drop_32 : decode cX7_drop 32 = .ok (.aload_n 0, 1) := by decide +kernel
theorem dX7_drop_33 : decode cX7_drop 33 = .ok (.getfield 13, 3) := by decide +kernel
theorem dX7_drop_36 : decode cX7_drop 36 = .ok (.iload_n 1, 1) := by decide +kernel
theorem dX7_drop_37 : decode cX7_drop 37 = .ok (.iconst (-1), 1) := by decide +kernel
theorem dX7_drop_38 : decode cX7_drop 38 = .ok (.iastore, 1) := by decide +kernel
theorem dX7_drop_39 : decode cX7_drop 39 = .ok (.aload_n 0, 1) := by decide +kernel
theorem dX7_drop_40 : decode cX7_drop 40 = .ok (.iload_n 2, 1) := by decide +kernel
theorem dX7_drop_41 : decode cX7_drop 41 = .ok (.invokevirtual 72, 3) := by decide +kernel
theorem dX7_drop_44 : decode cX7_drop 44 = .ok (.ireturn, 1) := by decide +kernel
theorem dX7_feed_0 : decode cX7_feed 0 = .ok (.iload_n 1, 1) := by decide +kernel
theorem dX7_feed_1 : decode cX7_feed 1 = .ok (.i2l, 1) := by decide +kernel
theorem dX7_feed_2 : decode cX7_feed 2 = .ok (.lconst 0, 1) := by decide +kernel
theorem dX7_feed_3 : decode cX7_feed 3 = .ok (.ldc2_w 79, 3) := by decide +kernel
theorem dX7_feed_6 : decode cX7_feed 6 = .ok (.invokestatic 57, 3) := by decide +kernel
theorem dX7_feed_9 : decode cX7_feed 9 = .ok (.ifCond .ne 6, 3) := by decide +kernel
theorem dX7_feed_12 : decode cX7_feed 12 = .ok (.ldc 67, 2) := by decide +kernel
theorem dX7_feed_14 : decode cX7_feed 14 = .ok (.ireturn, 1) := by decide +kernel
theorem dX7_feed_15 : decode cX7_feed 15 = .ok (.aload_n 0, 1) := by decide +kernel
theorem dX7_feed_16 : decode cX7_feed 16 = .ok (.getfield 81, 3) := by decide +kernel
theorem dX7_feed_19 : decode cX7_feed 19 = .ok (.bipush 120, 2) := by decide +kernel
theorem dX7_feed_21 : decode cX7_feed 21 = .ok (.if_icmp .ne 6, 3) := by decide +kernel
theorem dX7_feed_24 : decode cX7_feed 24 = .ok (.ldc 84, 2) := by decide +kernel
theorem dX7_feed_26 : decode cX7_feed 26 = .ok (.ireturn, 1) := by decide +kernel
theorem dX7_feed_27 : decode cX7_feed 27 = .ok (.aload_n 0, 1) := by decide +kernel
theorem dX7_feed_28 : decode cX7_feed 28 = .ok (.getfield 25, 3) := by decide +kernel
theorem dX7_feed_31 : decode cX7_feed 31 = .ok (.aload_n 0, 1) := by decide +kernel
theorem dX7_feed_32 : decode cX7_feed 32 = .ok (.getfield 81, 3) := by decide +kernel
theorem dX7_feed_35 : decode cX7_feed 35 = .ok (.iload_n 1, 1) := by decide +kernel
theorem dX7_feed_36 : decode cX7_feed 36 = .ok (.iastore, 1) := by decide +kernel
theorem dX7_feed_37 : decode cX7_feed 37 = .ok (.aload_n 0, 1) := by decide +kernel
theorem dX7_feed_38 : decode cX7_feed 38 = .ok (.dup, 1) := by decide +kernel
theorem dX7_feed_39 : decode cX7_feed 39 = .ok (.getfield 81, 3) := by decide +kernel
theorem dX7_feed_42 : decode cX7_feed 42 = .ok (.iconst 1, 1) := by decide +kernel
theorem dX7_feed_43 : decode cX7_feed 43 = .ok (.iadd, 1) := by decide +kernel
